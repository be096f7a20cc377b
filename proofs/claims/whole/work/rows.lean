section
-- PART A of the skeleton (starting text)
-- ===== PART A: goes FIRST, ahead of the names: the tables' words, and 'selects' of the private methods out of them =====
/-- a private method of a class that the tables say can be made, by its rows of tables_1 -/
def lw_okq (q : MethodName × Nat) : Prop := (q.1.cls ≠ "java/lang/invoke/MethodHandle" ∧ q.1.cls ≠ "java/lang/invoke/VarHandle") ∧ Cond.instantiable q.1.cls q.2 ∈ tables_1 ∧ Cond.privateMethod q.1 ∈ tables_1 ∧ Cond.instanceMethod q.1 ∈ tables_1
theorem lw_p0 : lw_okq (⟨"Doorledger", "isToldAsBreach", "(LDoorledger$Audit;)Z"⟩, 6) := ⟨⟨by decide +kernel, by decide +kernel⟩, List.mem_of_getElem? (i := 34) (by decide +kernel), List.mem_of_getElem? (i := 159) (by decide +kernel), List.mem_of_getElem? (i := 160) (by decide +kernel)⟩
theorem lw_p1 : lw_okq (⟨"Doorledger", "areDoorsSound", "()Z"⟩, 6) := ⟨⟨by decide +kernel, by decide +kernel⟩, List.mem_of_getElem? (i := 34) (by decide +kernel), List.mem_of_getElem? (i := 196) (by decide +kernel), List.mem_of_getElem? (i := 197) (by decide +kernel)⟩
theorem lw_p2 : lw_okq (⟨"Doorledger", "arePhonesSound", "()Z"⟩, 6) := ⟨⟨by decide +kernel, by decide +kernel⟩, List.mem_of_getElem? (i := 34) (by decide +kernel), List.mem_of_getElem? (i := 214) (by decide +kernel), List.mem_of_getElem? (i := 215) (by decide +kernel)⟩
theorem lw_p3 : lw_okq (⟨"Doorledger", "areAuditsSound", "()Z"⟩, 6) := ⟨⟨by decide +kernel, by decide +kernel⟩, List.mem_of_getElem? (i := 34) (by decide +kernel), List.mem_of_getElem? (i := 219) (by decide +kernel), List.mem_of_getElem? (i := 220) (by decide +kernel)⟩
theorem lw_p4 : lw_okq (⟨"Doorledger", "letterAgain", "(LDoorledger$Audit;)C"⟩, 6) := ⟨⟨by decide +kernel, by decide +kernel⟩, List.mem_of_getElem? (i := 34) (by decide +kernel), List.mem_of_getElem? (i := 223) (by decide +kernel), List.mem_of_getElem? (i := 224) (by decide +kernel)⟩
theorem lw_p5 : lw_okq (⟨"java/lang/Throwable", "fillInStackTrace", "(I)Ljava/lang/Throwable;"⟩, 6) := ⟨⟨by decide +kernel, by decide +kernel⟩, List.mem_of_getElem? (i := 280) (by decide +kernel), List.mem_of_getElem? (i := 278) (by decide +kernel), List.mem_of_getElem? (i := 279) (by decide +kernel)⟩
theorem lw_p6 : lw_okq (⟨"Doorledger", "checkRoomForChange", "()V"⟩, 6) := ⟨⟨by decide +kernel, by decide +kernel⟩, List.mem_of_getElem? (i := 34) (by decide +kernel), List.mem_of_getElem? (i := 331) (by decide +kernel), List.mem_of_getElem? (i := 332) (by decide +kernel)⟩
theorem lw_p7 : lw_okq (⟨"java/util/ArrayList", "add", "(Ljava/lang/Object;[Ljava/lang/Object;I)V"⟩, 3) := ⟨⟨by decide +kernel, by decide +kernel⟩, List.mem_of_getElem? (i := 48) (by decide +kernel), List.mem_of_getElem? (i := 375) (by decide +kernel), List.mem_of_getElem? (i := 376) (by decide +kernel)⟩
theorem lw_p8 : lw_okq (⟨"java/util/ArrayList", "grow", "()[Ljava/lang/Object;"⟩, 3) := ⟨⟨by decide +kernel, by decide +kernel⟩, List.mem_of_getElem? (i := 48) (by decide +kernel), List.mem_of_getElem? (i := 379) (by decide +kernel), List.mem_of_getElem? (i := 380) (by decide +kernel)⟩
theorem lw_p9 : lw_okq (⟨"java/util/ArrayList", "grow", "(I)[Ljava/lang/Object;"⟩, 3) := ⟨⟨by decide +kernel, by decide +kernel⟩, List.mem_of_getElem? (i := 48) (by decide +kernel), List.mem_of_getElem? (i := 383) (by decide +kernel), List.mem_of_getElem? (i := 384) (by decide +kernel)⟩
theorem lw_p10 : lw_okq (⟨"Doorledger", "presentKey", "(I)LDoorledger$KeyState;"⟩, 6) := ⟨⟨by decide +kernel, by decide +kernel⟩, List.mem_of_getElem? (i := 34) (by decide +kernel), List.mem_of_getElem? (i := 438) (by decide +kernel), List.mem_of_getElem? (i := 439) (by decide +kernel)⟩
theorem lw_p11 : lw_okq (⟨"Doorledger", "doorOf", "(I)LDoorledger$Door;"⟩, 6) := ⟨⟨by decide +kernel, by decide +kernel⟩, List.mem_of_getElem? (i := 34) (by decide +kernel), List.mem_of_getElem? (i := 541) (by decide +kernel), List.mem_of_getElem? (i := 542) (by decide +kernel)⟩
theorem lw_p12 : lw_okq (⟨"Doorledger", "phoneOf", "(I)LDoorledger$Phone;"⟩, 6) := ⟨⟨by decide +kernel, by decide +kernel⟩, List.mem_of_getElem? (i := 34) (by decide +kernel), List.mem_of_getElem? (i := 606) (by decide +kernel), List.mem_of_getElem? (i := 607) (by decide +kernel)⟩
theorem lw_p13 : lw_okq (⟨"Doorledger", "auditOf", "(I)LDoorledger$Audit;"⟩, 6) := ⟨⟨by decide +kernel, by decide +kernel⟩, List.mem_of_getElem? (i := 34) (by decide +kernel), List.mem_of_getElem? (i := 785) (by decide +kernel), List.mem_of_getElem? (i := 786) (by decide +kernel)⟩
theorem lw_p14 : lw_okq (⟨"Doorledger", "meanOfDelays", "()D"⟩, 6) := ⟨⟨by decide +kernel, by decide +kernel⟩, List.mem_of_getElem? (i := 34) (by decide +kernel), List.mem_of_getElem? (i := 853) (by decide +kernel), List.mem_of_getElem? (i := 854) (by decide +kernel)⟩
theorem lw_p15 : lw_okq (⟨"Doorledger", "arrivedCount", "()I"⟩, 6) := ⟨⟨by decide +kernel, by decide +kernel⟩, List.mem_of_getElem? (i := 34) (by decide +kernel), List.mem_of_getElem? (i := 857) (by decide +kernel), List.mem_of_getElem? (i := 858) (by decide +kernel)⟩
def lw_privs_1 : List (MethodName × Nat) := [(⟨"Doorledger", "isToldAsBreach", "(LDoorledger$Audit;)Z"⟩, 6), (⟨"Doorledger", "areDoorsSound", "()Z"⟩, 6), (⟨"Doorledger", "arePhonesSound", "()Z"⟩, 6), (⟨"Doorledger", "areAuditsSound", "()Z"⟩, 6), (⟨"Doorledger", "letterAgain", "(LDoorledger$Audit;)C"⟩, 6), (⟨"java/lang/Throwable", "fillInStackTrace", "(I)Ljava/lang/Throwable;"⟩, 6), (⟨"Doorledger", "checkRoomForChange", "()V"⟩, 6), (⟨"java/util/ArrayList", "add", "(Ljava/lang/Object;[Ljava/lang/Object;I)V"⟩, 3), (⟨"java/util/ArrayList", "grow", "()[Ljava/lang/Object;"⟩, 3), (⟨"java/util/ArrayList", "grow", "(I)[Ljava/lang/Object;"⟩, 3), (⟨"Doorledger", "presentKey", "(I)LDoorledger$KeyState;"⟩, 6), (⟨"Doorledger", "doorOf", "(I)LDoorledger$Door;"⟩, 6), (⟨"Doorledger", "phoneOf", "(I)LDoorledger$Phone;"⟩, 6), (⟨"Doorledger", "auditOf", "(I)LDoorledger$Audit;"⟩, 6), (⟨"Doorledger", "meanOfDelays", "()D"⟩, 6), (⟨"Doorledger", "arrivedCount", "()I"⟩, 6)]
theorem lw_r1 : ∀ q ∈ lw_privs_1, lw_okq q := List.forall_mem_cons.mpr ⟨lw_p0, List.forall_mem_cons.mpr ⟨lw_p1, List.forall_mem_cons.mpr ⟨lw_p2, List.forall_mem_cons.mpr ⟨lw_p3, List.forall_mem_cons.mpr ⟨lw_p4, List.forall_mem_cons.mpr ⟨lw_p5, List.forall_mem_cons.mpr ⟨lw_p6, List.forall_mem_cons.mpr ⟨lw_p7, List.forall_mem_cons.mpr ⟨lw_p8, List.forall_mem_cons.mpr ⟨lw_p9, List.forall_mem_cons.mpr ⟨lw_p10, List.forall_mem_cons.mpr ⟨lw_p11, List.forall_mem_cons.mpr ⟨lw_p12, List.forall_mem_cons.mpr ⟨lw_p13, List.forall_mem_cons.mpr ⟨lw_p14, List.forall_mem_cons.mpr ⟨lw_p15, fun _ h => absurd h List.not_mem_nil⟩⟩⟩⟩⟩⟩⟩⟩⟩⟩⟩⟩⟩⟩⟩⟩
theorem lw_p16 : lw_okq (⟨"DoorledgerModel", "fails", "(I)I"⟩, 25) := ⟨⟨by decide +kernel, by decide +kernel⟩, List.mem_of_getElem? (i := 881) (by decide +kernel), List.mem_of_getElem? (i := 986) (by decide +kernel), List.mem_of_getElem? (i := 987) (by decide +kernel)⟩
theorem lw_p17 : lw_okq (⟨"DoorledgerModel", "changes", "()V"⟩, 25) := ⟨⟨by decide +kernel, by decide +kernel⟩, List.mem_of_getElem? (i := 881) (by decide +kernel), List.mem_of_getElem? (i := 990) (by decide +kernel), List.mem_of_getElem? (i := 991) (by decide +kernel)⟩
theorem lw_p18 : lw_okq (⟨"DoorledgerModel", "isKey", "(I)Z"⟩, 25) := ⟨⟨by decide +kernel, by decide +kernel⟩, List.mem_of_getElem? (i := 881) (by decide +kernel), List.mem_of_getElem? (i := 998) (by decide +kernel), List.mem_of_getElem? (i := 999) (by decide +kernel)⟩
theorem lw_p19 : lw_okq (⟨"DoorledgerModel", "isStuck", "(I)Z"⟩, 25) := ⟨⟨by decide +kernel, by decide +kernel⟩, List.mem_of_getElem? (i := 881) (by decide +kernel), List.mem_of_getElem? (i := 1002) (by decide +kernel), List.mem_of_getElem? (i := 1003) (by decide +kernel)⟩
theorem lw_p20 : lw_okq (⟨"DoorledgerModel", "isDoor", "(I)Z"⟩, 25) := ⟨⟨by decide +kernel, by decide +kernel⟩, List.mem_of_getElem? (i := 881) (by decide +kernel), List.mem_of_getElem? (i := 1026) (by decide +kernel), List.mem_of_getElem? (i := 1027) (by decide +kernel)⟩
theorem lw_p21 : lw_okq (⟨"DoorledgerModel", "clockOf", "(I)I"⟩, 25) := ⟨⟨by decide +kernel, by decide +kernel⟩, List.mem_of_getElem? (i := 881) (by decide +kernel), List.mem_of_getElem? (i := 1030) (by decide +kernel), List.mem_of_getElem? (i := 1031) (by decide +kernel)⟩
theorem lw_p22 : lw_okq (⟨"DoorledgerModel", "driftedOf", "(I)F"⟩, 25) := ⟨⟨by decide +kernel, by decide +kernel⟩, List.mem_of_getElem? (i := 881) (by decide +kernel), List.mem_of_getElem? (i := 1034) (by decide +kernel), List.mem_of_getElem? (i := 1035) (by decide +kernel)⟩
theorem lw_p23 : lw_okq (⟨"DoorledgerModel", "sets", "(II)V"⟩, 25) := ⟨⟨by decide +kernel, by decide +kernel⟩, List.mem_of_getElem? (i := 881) (by decide +kernel), List.mem_of_getElem? (i := 1038) (by decide +kernel), List.mem_of_getElem? (i := 1039) (by decide +kernel)⟩
theorem lw_p24 : lw_okq (⟨"DoorledgerModel", "isPhone", "(I)Z"⟩, 25) := ⟨⟨by decide +kernel, by decide +kernel⟩, List.mem_of_getElem? (i := 881) (by decide +kernel), List.mem_of_getElem? (i := 1059) (by decide +kernel), List.mem_of_getElem? (i := 1060) (by decide +kernel)⟩
theorem lw_p25 : lw_okq (⟨"DoorledgerModel", "isNone", "(II)Z"⟩, 25) := ⟨⟨by decide +kernel, by decide +kernel⟩, List.mem_of_getElem? (i := 881) (by decide +kernel), List.mem_of_getElem? (i := 1072) (by decide +kernel), List.mem_of_getElem? (i := 1073) (by decide +kernel)⟩
theorem lw_p26 : lw_okq (⟨"DoorledgerModel", "letter", "(IIII)C"⟩, 25) := ⟨⟨by decide +kernel, by decide +kernel⟩, List.mem_of_getElem? (i := 881) (by decide +kernel), List.mem_of_getElem? (i := 1076) (by decide +kernel), List.mem_of_getElem? (i := 1077) (by decide +kernel)⟩
theorem lw_p27 : lw_okq (⟨"DoorledgerModel", "isNowhere", "(I)Z"⟩, 25) := ⟨⟨by decide +kernel, by decide +kernel⟩, List.mem_of_getElem? (i := 881) (by decide +kernel), List.mem_of_getElem? (i := 1088) (by decide +kernel), List.mem_of_getElem? (i := 1089) (by decide +kernel)⟩
theorem lw_p28 : lw_okq (⟨"DoorledgerModel", "isNoAudit", "(I)Z"⟩, 25) := ⟨⟨by decide +kernel, by decide +kernel⟩, List.mem_of_getElem? (i := 881) (by decide +kernel), List.mem_of_getElem? (i := 1143) (by decide +kernel), List.mem_of_getElem? (i := 1144) (by decide +kernel)⟩
theorem lw_p29 : lw_okq (⟨"DoorledgerModel", "isAudit", "(I)Z"⟩, 25) := ⟨⟨by decide +kernel, by decide +kernel⟩, List.mem_of_getElem? (i := 881) (by decide +kernel), List.mem_of_getElem? (i := 1147) (by decide +kernel), List.mem_of_getElem? (i := 1148) (by decide +kernel)⟩
theorem lw_p30 : lw_okq (⟨"DoorledgerModel", "isBroken", "(I)Z"⟩, 25) := ⟨⟨by decide +kernel, by decide +kernel⟩, List.mem_of_getElem? (i := 881) (by decide +kernel), List.mem_of_getElem? (i := 1171) (by decide +kernel), List.mem_of_getElem? (i := 1172) (by decide +kernel)⟩
theorem lw_p31 : lw_okq (⟨"DoorledgerModel", "delaySum", "()J"⟩, 25) := ⟨⟨by decide +kernel, by decide +kernel⟩, List.mem_of_getElem? (i := 881) (by decide +kernel), List.mem_of_getElem? (i := 1187) (by decide +kernel), List.mem_of_getElem? (i := 1188) (by decide +kernel)⟩
def lw_privs_2 : List (MethodName × Nat) := [(⟨"DoorledgerModel", "fails", "(I)I"⟩, 25), (⟨"DoorledgerModel", "changes", "()V"⟩, 25), (⟨"DoorledgerModel", "isKey", "(I)Z"⟩, 25), (⟨"DoorledgerModel", "isStuck", "(I)Z"⟩, 25), (⟨"DoorledgerModel", "isDoor", "(I)Z"⟩, 25), (⟨"DoorledgerModel", "clockOf", "(I)I"⟩, 25), (⟨"DoorledgerModel", "driftedOf", "(I)F"⟩, 25), (⟨"DoorledgerModel", "sets", "(II)V"⟩, 25), (⟨"DoorledgerModel", "isPhone", "(I)Z"⟩, 25), (⟨"DoorledgerModel", "isNone", "(II)Z"⟩, 25), (⟨"DoorledgerModel", "letter", "(IIII)C"⟩, 25), (⟨"DoorledgerModel", "isNowhere", "(I)Z"⟩, 25), (⟨"DoorledgerModel", "isNoAudit", "(I)Z"⟩, 25), (⟨"DoorledgerModel", "isAudit", "(I)Z"⟩, 25), (⟨"DoorledgerModel", "isBroken", "(I)Z"⟩, 25), (⟨"DoorledgerModel", "delaySum", "()J"⟩, 25)]
theorem lw_r2 : ∀ q ∈ lw_privs_2, lw_okq q := List.forall_mem_cons.mpr ⟨lw_p16, List.forall_mem_cons.mpr ⟨lw_p17, List.forall_mem_cons.mpr ⟨lw_p18, List.forall_mem_cons.mpr ⟨lw_p19, List.forall_mem_cons.mpr ⟨lw_p20, List.forall_mem_cons.mpr ⟨lw_p21, List.forall_mem_cons.mpr ⟨lw_p22, List.forall_mem_cons.mpr ⟨lw_p23, List.forall_mem_cons.mpr ⟨lw_p24, List.forall_mem_cons.mpr ⟨lw_p25, List.forall_mem_cons.mpr ⟨lw_p26, List.forall_mem_cons.mpr ⟨lw_p27, List.forall_mem_cons.mpr ⟨lw_p28, List.forall_mem_cons.mpr ⟨lw_p29, List.forall_mem_cons.mpr ⟨lw_p30, List.forall_mem_cons.mpr ⟨lw_p31, fun _ h => absurd h List.not_mem_nil⟩⟩⟩⟩⟩⟩⟩⟩⟩⟩⟩⟩⟩⟩⟩⟩
theorem lw_p32 : lw_okq (⟨"DoorledgerModel", "mean", "()D"⟩, 25) := ⟨⟨by decide +kernel, by decide +kernel⟩, List.mem_of_getElem? (i := 881) (by decide +kernel), List.mem_of_getElem? (i := 1195) (by decide +kernel), List.mem_of_getElem? (i := 1196) (by decide +kernel)⟩
theorem lw_p33 : lw_okq (⟨"DoorledgerModel", "arrivedMany", "()I"⟩, 25) := ⟨⟨by decide +kernel, by decide +kernel⟩, List.mem_of_getElem? (i := 881) (by decide +kernel), List.mem_of_getElem? (i := 1199) (by decide +kernel), List.mem_of_getElem? (i := 1200) (by decide +kernel)⟩
def lw_privs_3 : List (MethodName × Nat) := [(⟨"DoorledgerModel", "mean", "()D"⟩, 25), (⟨"DoorledgerModel", "arrivedMany", "()I"⟩, 25)]
theorem lw_r3 : ∀ q ∈ lw_privs_3, lw_okq q := List.forall_mem_cons.mpr ⟨lw_p32, List.forall_mem_cons.mpr ⟨lw_p33, fun _ h => absurd h List.not_mem_nil⟩⟩
def lw_privs : List (MethodName × Nat) := lw_privs_1 ++ (lw_privs_2 ++ (lw_privs_3))
def lw_tbl : List Cond := k2_sels lw_privs ++ tables_1
theorem lw_privs_ok : ∀ q ∈ lw_privs, lw_okq q := by
  show ∀ q ∈ lw_privs_1 ++ (lw_privs_2 ++ (lw_privs_3)), lw_okq q
  exact List.forall_mem_append.mpr ⟨lw_r1, List.forall_mem_append.mpr ⟨lw_r2, lw_r3⟩⟩
/-- the streams that the claim lets the run draw from -/
abbrev lw_cs : List Choice := [Jvm.Choice.named "NaN.bits"]
theorem lw_bits : nanBits ∈ lw_cs := by first | decide | exact List.mem_cons_self | simp [lw_cs, nanBits]
end
section
-- the exceptions kit and the names, as printed for this claim (starting texts), and one word that they lack
/-- the table's word of an array of arrays (the printed names use it and do not define it) -/
def va_AOA (t : FieldType) (U : State) : Prop := (Cond.arrayOver (.array t)).before #[] U = true
theorem va_AOA.use {t : FieldType} {A : Array Value} {U : State} (h : va_AOA t U) : (Cond.arrayOver (.array t)).before A U = true := h
/-! ===== BEGIN words of one list among another's, by their places ===== -/
theorem goodIn_r {big : List Cond} (ws : List Cond) (ps : List Nat) (hp : ws = ps.filterMap (fun i => big[i]?)) (h : ws.all goodWord = true) : GoodIn big ws := by
  intro w hw
  have h1 := List.all_eq_true.mp h w hw
  rw [hp] at hw
  obtain ⟨i, -, hi⟩ := List.mem_filterMap.mp hw
  have hm : w ∈ big := by first | exact List.mem_of_getElem? hi | exact List.getElem?_mem hi
  exact ⟨hm, good_of_word h1⟩
theorem goodIn_app {big a b : List Cond} (ha : GoodIn big a) (hb : GoodIn big b) : GoodIn big (a ++ b) := fun w h => (List.mem_append.mp h).elim (ha w) (hb w)
theorem goodIn_ca {big a b : List Cond} {c : Cond} (ha : GoodIn big (c :: a)) (hb : GoodIn big b) : GoodIn big (c :: (a ++ b)) := fun w h => (List.mem_cons.mp h).elim (fun e => ha w (List.mem_cons.mpr (Or.inl e))) (fun h => (List.mem_append.mp h).elim (fun h => ha w (List.mem_cons.mpr (Or.inr h))) (hb w))
theorem goodIn_sub {big ws : List Cond} (hm : ∀ w ∈ ws, w ∈ big) (h : ws.all goodWord = true) : GoodIn big ws := fun w hw => ⟨hm w hw, good_of_word (List.all_eq_true.mp h w hw)⟩
/-! ===== END ===== -/

/-! ===== BEGIN new T[n][m]: the outer array a place, the inner ones among the pooled ===== -/
/-- f, but v at every address of l -/
def vr_up {α : Type} (f : Nat → α) (l : List Nat) (v : α) : Nat → α := fun a => if a ∈ l then v else f a
theorem vr_up_in {α : Type} {f : Nat → α} {l : List Nat} {v : α} {a : Nat} (h : a ∈ l) : vr_up f l v a = v := if_pos h
theorem vr_up_ne {α : Type} {f : Nat → α} {l : List Nat} {v : α} {a : Nat} (h : a ∉ l) : vr_up f l v a = f a := if_neg h
theorem vr_rows {L l : List Nat} {f : Nat → va_E} {e : va_E} (h : ∀ a, a ∈ l → a ∉ L) : va_pl L f ++ l.map (fun a => (a, e)) = va_pl (L ++ l) (vr_up f l e) := by
  unfold va_pl
  rw [List.map_append]
  congr 1
  · apply List.map_congr_left
    intro a ha
    rw [vr_up_ne (fun q => h a q ha)]
  · apply List.map_congr_left
    intro a ha
    rw [vr_up_in ha]
theorem vr_lay {X rows : va_W} {x : Nat × va_E} {pl : va_W} {D : va_G} {cl : List vw_C} {H : Heap} (hP : va_P D cl (((X ++ pl) ++ [x]) ++ rows) H) : va_P D cl ((X ++ [x]) ++ (pl ++ rows)) H := by
  rw [List.append_assoc (X ++ pl)] at hP
  have h := va_P.swap hP
  rw [← List.append_assoc X] at h
  have h2 := va_P.swap h
  rw [List.append_assoc (X ++ [x])] at h2
  exact h2
theorem vr_layD {X rows : va_W} {x : Nat × va_E} {pl : va_W} {A : Nat → Prop} (hD : va_D A (((X ++ pl) ++ [x]) ++ rows)) : va_D A ((X ++ [x]) ++ (pl ++ rows)) := by
  rw [List.append_assoc (X ++ pl)] at hD
  have h := va_D.swap hD
  rw [← List.append_assoc X] at h
  have h2 := va_D.swap h
  rw [List.append_assoc (X ++ [x])] at h2
  exact h2
theorem vr_outer (c : ClassId) (N h0 : Nat) : ∀ i : Nat, Jvm.Free.Multi.outerC c N h0 i = arrV c N (fun j => va_rf (if j < i then some (h0 + 1 + j) else none))
  | 0 => by
    show ({ cls := c, slots := Array.replicate N .null, vm := .none } : Cell) = _
    rw [arrV_new]
    refine congrArg (arrV c N) (funext fun j => ?_)
    simp [va_rf]
  | i + 1 => by
    show (Jvm.Free.Multi.outerC c N h0 i).setSlot i (.ref (h0 + 1 + i)) = _
    rw [vr_outer c N h0 i, arrV_store]
    refine congrArg (arrV c N) (funext fun j => ?_)
    by_cases e : j = i
    · subst e
      simp [updV, va_rf]
    · by_cases h : j < i
      · simp [updV, e, h, Nat.lt_succ_of_lt h]
      · simp [updV, e, h, show ¬ j < i + 1 by omega]
section VGM
variable {p : Program} {l : Launch} {e : Env} {R : Room} {s : State} {m : MethodId} {args : Array Value} {below : List Frame} {meth : Method} {c : Code} {H : Heap} {locs : List Loc} {cells slots : Nat} {Q : State → Prop}
variable {cc : ByteArray} {pc : Nat} {ls : Array Slot} {rest : List Value} {D : va_G} {cl : List vw_C} {A : Nat → Prop} {a : Nat} {tys : List (ClassId × FieldType)} {ws : va_W} {H0 : Heap}
theorem va_mna {X : va_W} {L : List Nat} {f : Nat → va_E} {cc : ByteArray} (hexec : p.tables.exec = Jvm.exec) (hb : c.code = cc) {own : String} {index : Nat} {ty : FieldType} {cy : ClassId} (hown : s.vm.findClass own = some m.cls) (hclink : (Cond.classLink own index ("[" ++ (FieldType.array ty).toString)).before args s = true) (hover : va_AOA ty s) (harr : (Cond.arrayClass ty).before args s = true) (hcy : s.vm.findClass (FieldType.array ty).toString = some cy)
    (hK : va_K D cl tys s) (hP : va_P D cl (X ++ va_pl L f) H) (hD : va_D A (X ++ va_pl L f)) (hS : va_S A H0 H locs) (hA : ∀ q, H0.size ≤ q → A q) {n k : Int32} {N' K' : Nat} {z : vp_A} (hn : ¬ n < 0) (hk : ¬ k < 0) (hN : n.toNatClampNeg = N') (hM : k.toNatClampNeg = K')
    (hb1 : N' * 4 ≤ 536870912) (hb2 : K' * componentBytes ty ≤ 536870912) (hb3 : K' ≤ 536870912) (hdf : fits ty (defaultValue ty) = true) (hdd : (defaultValue ty).isDefault = true) (hcells : cells + (1 + N') ≤ R.cells) (hslots : slots + (N' + N' * K') ≤ R.slots) (hz : ∀ c : ClassId, Jvm.Free.Multi.innerC c K' (defaultValue ty) = vp_cell c z) (hdg : decode cc pc = .ok (.multianewarray index 2, 4))
    (kk : ∀ (q : Nat) (r : Nat → Nat) (cA : ClassId) (H1 : Heap), (∀ i j : Nat, i < N' → j < N' → r i = r j → i = j) → (∀ i : Nat, i < N' → r i ∉ L) → va_K D cl (tys ++ [(cA, .array ty)]) s →
      va_P D cl ((X ++ [(q, .inl (cA, N', .inr (.inr (.inr (.inr (fun i => if i < N' then some (r i) else none))))))]) ++ va_pl (L ++ (List.range N').map r) (vr_up f ((List.range N').map r) (.inl (cy, z)))) H1 → va_D A ((X ++ [(q, .inl (cA, N', .inr (.inr (.inr (.inr (fun i => if i < N' then some (r i) else none))))))]) ++ va_pl (L ++ (List.range N').map r) (vr_up f ((List.range N').map r) (.inl (cy, z)))) → va_S A H0 H1 locs →
      W p l e R s m args below meth c H1 locs (cells + 1 + N') (slots + N' + N' * K') Q (F0 m (pc + 4) ls (.ref q :: rest))) : W p l e R s m args below meth c H locs cells slots Q (F0 m pc ls (.int k :: .int n :: rest)) := by
  subst hN
  subst hM
  intro T hT Xs
  obtain ⟨vm₁, cA, comp, -, fA, fC, hO, -, X', step⟩ := Xs.multianewarray2F hexec hown hclink (va_AOA.use hover) harr (g := F0 m pc ls (.int k :: .int n :: rest)) rfl (by rw [hb]; exact hdg) rfl hn hk hb1 hb2 hb3 hdf hdd hcells hslots
  have ec : some cy = some comp := hcy.symm.trans fC
  cases ec
  generalize hF : Jvm.Free.Multi.fill (T.setVm vm₁) cA cy n.toNatClampNeg k.toNatClampNeg (defaultValue ty) n.toNatClampNeg = F at X' step
  have hTh : (T.setVm vm₁).heap = H := hT
  obtain ⟨f1, f2, -, -⟩ := Jvm.Free.Multi.fill_facts (T.setVm vm₁) cA cy n.toNatClampNeg k.toNatClampNeg (defaultValue ty) n.toNatClampNeg
  rw [hF, hTh] at f1 f2
  have hold : ∀ x : Nat, x < H.size → F.heap[x]? = H[x]? := fun x hx => by
    have := Jvm.Free.Multi.fill_old (T.setVm vm₁) cA cy n.toNatClampNeg k.toNatClampNeg (defaultValue ty) (a := x) (by rw [hTh]; exact hx) n.toNatClampNeg
    rw [hF, hTh] at this
    exact this
  have hrow : ∀ j : Nat, j < n.toNatClampNeg → F.heap[H.size + 1 + j]? = some (vp_cell cy z) := fun j hj => by
    have := Jvm.Free.Multi.fill_inner (T.setVm vm₁) cA cy n.toNatClampNeg k.toNatClampNeg (defaultValue ty) n.toNatClampNeg j hj
    rw [hF, hTh, hz] at this
    exact this
  have hout : Jvm.Free.Multi.outerC cA n.toNatClampNeg H.size n.toNatClampNeg = vp_cell cA (n.toNatClampNeg, .inr (.inr (.inr (.inr (fun i => if i < n.toNatClampNeg then some (H.size + 1 + i) else none))))) := by
    rw [vp_cell_q]
    exact vr_outer cA n.toNatClampNeg H.size n.toNatClampNeg
  rw [hout] at f2
  have hlt : ∀ a, a ∈ L → a < H.size := fun a ha => by
    obtain ⟨k9, hk9⟩ := va_pl_get (X := X) (f := f) ha
    exact (hP k9 _ hk9).lt
  have hnl : ∀ i : Nat, i < n.toNatClampNeg → H.size + 1 + i ∉ L := fun i _ h => by
    have := hlt _ h
    omega
  have hnm : ∀ a, a ∈ (List.range n.toNatClampNeg).map (fun i => H.size + 1 + i) → a ∉ L := fun a ha h => by
    obtain ⟨i, -, rfl⟩ := List.mem_map.mp ha
    have := hlt _ h
    omega
  have hP0 : va_P D cl (X ++ va_pl L f) F.heap := hP.kept (fun k9 x hx => hold x.1 ((hP k9 x hx).lt))
  have hP1 : va_P D cl ((X ++ va_pl L f) ++ [(H.size, .inl (cA, n.toNatClampNeg, .inr (.inr (.inr (.inr (fun i => if i < n.toNatClampNeg then some (H.size + 1 + i) else none))))))]) F.heap := hP0.app (fun k9 x hx => by
    have h0 : k9 < 1 := (List.getElem?_eq_some_iff.mp hx).1
    rw [show k9 = 0 by omega] at hx
    cases hx
    exact f2)
  have hP2 : va_P D cl (((X ++ va_pl L f) ++ [(H.size, .inl (cA, n.toNatClampNeg, .inr (.inr (.inr (.inr (fun i => if i < n.toNatClampNeg then some (H.size + 1 + i) else none))))))]) ++ ((List.range n.toNatClampNeg).map (fun i => H.size + 1 + i)).map (fun a => (a, .inl (cy, z)))) F.heap := hP1.app (fun k9 x hx => by
    obtain ⟨a, ha, rfl⟩ := List.mem_map.mp (List.mem_of_getElem? hx)
    obtain ⟨i, hi, rfl⟩ := List.mem_map.mp ha
    exact hrow i (List.mem_range.mp hi))
  have hD2 : va_D A (((X ++ va_pl L f) ++ [(H.size, .inl (cA, n.toNatClampNeg, .inr (.inr (.inr (.inr (fun i => if i < n.toNatClampNeg then some (H.size + 1 + i) else none))))))]) ++ ((List.range n.toNatClampNeg).map (fun i => H.size + 1 + i)).map (fun a => (a, .inl (cy, z)))) := by
    have hD1 := hD.push (e := .inl (cA, n.toNatClampNeg, .inr (.inr (.inr (.inr (fun i => if i < n.toNatClampNeg then some (H.size + 1 + i) else none)))))) hP rfl (hA _ hS.1)
    generalize hW1 : (X ++ va_pl L f) ++ [(H.size, .inl (cA, n.toNatClampNeg, .inr (.inr (.inr (.inr (fun i => if i < n.toNatClampNeg then some (H.size + 1 + i) else none))))))] = W1 at hD1 hP1 ⊢
    have hle : ∀ (k9 : Nat) (x : Nat × va_E), W1[k9]? = some x → x.1 ≤ H.size := fun k9 x hx => by
      rw [← hW1] at hx
      by_cases hl : k9 < (X ++ va_pl L f).length
      · rw [List.getElem?_append_left hl] at hx
        exact Nat.le_of_lt ((hP k9 x hx).lt)
      · rw [List.getElem?_append_right (by omega)] at hx
        have h0 : k9 - (X ++ va_pl L f).length < 1 := (List.getElem?_eq_some_iff.mp hx).1
        rw [show k9 - (X ++ va_pl L f).length = 0 by omega] at hx
        cases hx
        exact Nat.le_refl _
    have hr : ∀ (k9 : Nat) (x : Nat × va_E), (((List.range n.toNatClampNeg).map (fun i => H.size + 1 + i)).map (fun a => ((a, .inl (cy, z)) : Nat × va_E)))[k9]? = some x → x.1 = H.size + 1 + k9 := fun k9 x hx => by
      rw [List.getElem?_map, List.getElem?_map] at hx
      by_cases h9 : k9 < n.toNatClampNeg
      · rw [List.getElem?_range h9] at hx
        cases hx
        rfl
      · have hn0 : (List.range n.toNatClampNeg)[k9]? = none := List.getElem?_eq_none (by rw [List.length_range]; omega)
        rw [hn0] at hx
        cases hx
    refine ⟨fun i j x y hi hj hxy => ?_, fun k9 x hx => ?_⟩
    · by_cases h1 : i < W1.length <;> by_cases h2 : j < W1.length
      · rw [List.getElem?_append_left h1] at hi
        rw [List.getElem?_append_left h2] at hj
        exact hD1.1 i j x y hi hj hxy
      · rw [List.getElem?_append_left h1] at hi
        rw [List.getElem?_append_right (by omega)] at hj
        have := hle _ _ hi
        have := hr _ _ hj
        omega
      · rw [List.getElem?_append_right (by omega)] at hi
        rw [List.getElem?_append_left h2] at hj
        have := hle _ _ hj
        have := hr _ _ hi
        omega
      · rw [List.getElem?_append_right (by omega)] at hi hj
        have := hr _ _ hi
        have := hr _ _ hj
        omega
    · by_cases h1 : k9 < W1.length
      · rw [List.getElem?_append_left h1] at hx
        exact hD1.2 k9 x hx
      · rw [List.getElem?_append_right (by omega)] at hx
        have := hr _ _ hx
        exact hA _ (by have := hS.1; omega)
  have hAr : ArrOfT s cA (.array ty) := fun N9 z9 => by
    obtain ⟨-, k9, hk9, cm9, hkk9⟩ := (hO 0 0 0).1
    exact ⟨(fun q hq => by cases hq), k9, hk9, cm9, hkk9⟩
  have hK2 : va_K D cl (tys ++ [(cA, .array ty)]) s := ⟨hK.1, fun k9 x hx => by
    by_cases hl : k9 < tys.length
    · rw [List.getElem?_append_left hl] at hx
      exact hK.2 k9 x hx
    · rw [List.getElem?_append_right (by omega)] at hx
      have h0 : k9 - tys.length < 1 := (List.getElem?_eq_some_iff.mp hx).1
      rw [show k9 - tys.length = 0 by omega] at hx
      cases hx
      exact ⟨hAr, fA⟩⟩
  obtain ⟨t, a1, b1⟩ := kk H.size (fun i => H.size + 1 + i) cA F.heap (fun i j _ _ h => by have h9 : H.size + 1 + i = H.size + 1 + j := h; omega) hnl hK2 (by rw [← vr_rows hnm]; exact vr_lay hP2) (by rw [← vr_rows hnm]; exact vr_layD hD2) ⟨by rw [f1]; have := hS.1; omega, fun x h1 h2 => (hold x (Nat.lt_of_lt_of_le h1 hS.1)).trans (hS.2.1 x h1 h2), hS.2.2⟩ F rfl X'
  refine ⟨t, step t ?_, b1⟩
  have e : T.heap.size = H.size := by rw [hT]
  rw [e]
  exact a1
end VGM
/-! ===== END ===== -/

/-! ===== BEGIN exceptions that leave a method, and their catching by the caller (launches without stack traces) ===== -/
section VXA
/-! The laws vx_back, vx_callV, vx_callS, vx_callSW, vx_throw0, vx_throwS follow proofs of the library, with one case more: JvmDerived/Free/Laws.lean (Back.of_free), Shelf42/LK1.lean (callV, callS), Shelf/KitTraced.lean (throwNew0V, throwNewS). -/
/-- where a method has thrown q: the class by its name, the cell, what was written, the world -/
def vx_T (XC : String → State → State → Prop) (st : State) (q : Addr) (t : State) (mc ms : Nat) (free : Addr → Prop) : Prop :=
  ∃ (E : String) (ce : Cell) (L : List Loc), XC E st t ∧ t.heap[q]? = some ce ∧ ce.vm = .none ∧ st.vm.findClass E = some ce.cls ∧ st.WarmedH t.vm ∧ st.sameButNew ({ t with vm := st.vm } : State) L mc ms ∧ ∀ z ∈ L, free z.base
def vx_Q (Qc : Array Value → State → Outcome → State → Prop) (XC : String → State → State → Prop) (mc ms : Nat) (free : Addr → Prop) : Array Value → State → Outcome → State → Prop := fun a st o t =>
  (Qc a st o t ∧ ∃ L, FrameEnd st o t L mc ms ∧ ∀ q ∈ L, free q.base) ∨ ∃ q, o = .threw q ∧ vx_T XC st q t mc ms free
/-- a callee that returns or throws -/
def vx_Met (l : Launch) (y : MethodName) (ws : List Cond) (rm : Room) (Pc : Array Value → State → Prop) (Qc : Array Value → State → Outcome → State → Prop) (XC : String → State → State → Prop) (mc ms : Nat) (free : Addr → Prop) : Prop :=
  MetFree l y (headSpec ws rm) Pc (fun _ _ _ _ _ => True) (vx_Q Qc XC mc ms free)
def vx_Post (XC : String → State → State → Prop) (mc ms : Nat) (free : Addr → Prop) : Pt → Array Value → Addr → Pt → Prop := fun A a q B =>
  ∃ (g : JFrame) (mk : MethodId) (t : State) (L : List Loc) (E : String) (ce : Cell), B.U.heap = t.heap ∧ B.U.vm = t.vm ∧ XC E (A.U.calling g mk a) t ∧ t.heap[q]? = some ce ∧ ce.vm = .none ∧ A.U.vm.findClass E = some ce.cls ∧ B.locs = A.locs ++ L ∧ (∀ z ∈ L, free z.base) ∧ B.cells = A.cells + mc ∧ B.slots = A.slots + ms
def vx_Back (l : Launch) (R : Room) (p : Program) (e : Env) (below : List Frame) (s : State) (sargs : Array Value) (y : MethodName) (len W9 : Nat)
    (Pre : Pt → Array Value → Prop) (Post : Pt → Array Value → Option Value → Pt → Prop) (PostX : Pt → Array Value → Addr → Pt → Prop) : Prop :=
  ∀ (m : MethodId) (meth : Method) (c : Code) (A : Pt) (g : JFrame) (ig : Instr) (mk : MethodId) (a : Array Value),
    Stand p l e R s m sargs below meth c A.U A.locs A.cells A.slots → g.method = m → g.locals.size = c.maxLocals → decode c.code g.pc = .ok (ig, len) →
    2 * g.monitorRoom + (g.stack.map fun v => v.category).sum ≤ W9 → A.U.methodNamed? y = some mk → Pre A a →
    (∃ (v : Option Value) (B : Pt), Stand p l e R s m sargs below meth c B.U B.locs B.cells B.slots ∧ Post A a v B ∧
      Steps p.tables e below (doInvoke e (A.U.setTop g) [] mk a).1 (B.U.setTop { g with pc := g.pc + len, stack := v.toList ++ g.stack })) ∨
    (∃ (q : Addr) (B : Pt), Stand p l e R s m sargs below meth c B.U B.locs B.cells B.slots ∧ PostX A a q B ∧
      Steps p.tables e below (doInvoke e (A.U.setTop g) [] mk a).1 ((B.U.setTop g).pushFrame (.throwing q)))
section Payer
variable {l : Launch} {R : Room} {p : Program} {e : Env} {below : List Frame} {s : State} {sargs : Array Value} {y : MethodName} {len W9 : Nat}
theorem vx_back {ws : List Cond} {rm : Room} {Pc : Array Value → State → Prop} {Qc : Array Value → State → Outcome → State → Prop} {XC : String → State → State → Prop} {mc ms : Nat} {free : Addr → Prop} {bytes : ByteArray} {maxL : Nat} {ret : Option FieldType}
    (hM : vx_Met l y ws rm Pc Qc XC mc ms free) (hblind : FrameBlind Pc) (hrc : rm.cells = mc) (hrs : rm.slots = ms)
    (hframes : rm.frames + 1 ≤ R.frames) (hlocals : W9 + (maxL + 11) + rm.locals ≤ R.locals)
    (hws : ∀ w ∈ ws, ∀ a' U, s.WarmedH U.vm → w.before a' U = true) (hcode : Cond.code y bytes maxL ret ∈ ws) (hinit : ∀ a' U, s.WarmedH U.vm → (Cond.initialized y.cls).before a' U = true) :
    vx_Back l R p e below s sargs y len W9 (PreOf R mc ms Pc) (PostOf Qc mc ms free) (vx_Post XC mc ms free) := by
  intro m meth c A g ig mk a X hg hsize hdg hW hn hp
  have h1 : (headSpec ws rm).pre.before a A.U = true := atoms_intro fun w hw => hws w hw _ _ X.warmed
  have h2 : (Cond.code y bytes maxL ret).before a A.U = true := hws _ hcode _ _ X.warmed
  have h3 : (Cond.initialized y.cls).before a A.U = true := hinit _ _ X.warmed
  have h4 : A.cells + (headSpec ws rm).room.cells ≤ R.cells := by rw [show (headSpec ws rm).room.cells = mc from hrc]; exact hp.1
  have h5 : A.slots + (headSpec ws rm).room.slots ≤ R.slots := by rw [show (headSpec ws rm).room.slots = ms from hrs]; exact hp.2.1
  have hPc : Pc a (A.U.calling g mk a) := hblind _ _ _ _ hp.2.2
  obtain ⟨U, Ls, c0, s0⟩ := A
  dsimp only [Pt.U, Pt.locs, Pt.cells, Pt.slots] at h1 h2 h3 h4 h5 X hn hPc ⊢
  obtain ⟨methY, cY, hmY, hcY, -, hlY, -, -, -, -⟩ := Cond.code_spec hn h2
  obtain ⟨kY, hkY, -⟩ := className_of_methodNamed hn
  have hinitY : kY.init = .initialized := Cond.initialized_spec (findClass_of_methodNamed hn) hkY h3
  have h : At U g.method c below := by rw [hg]; exact X.here
  have hlocals9 : W9 + (maxL + 11) + (headSpec ws rm).room.locals ≤ R.locals := hlocals
  have happ : (headSpec ws rm).appliesLoose y e.platform (U.calling g mk a) = true :=
    Spec.appliesLoose_calling (g := g) h hdg hn hkY hinitY
      (X.room_calling (g := g) (R' := (headSpec ws rm).room) hsize hmY hcY hframes (by rw [hlY]; omega) h4 h5) h1
  obtain ⟨mid, hmid⟩ := h.above
  have hfr : (U.setTop g).frames = (.java g :: mid) ++ below := by rw [State.frames_setTop' g h.top, hmid]; rfl
  obtain ⟨o, s₂, hsteps, -, hend, hq⟩ := Steps.callFree hM p X.admits X.cas X.clock (acts := []) hfr happ hPc trivial
  have hq' : vx_Q Qc XC mc ms free a (U.calling g mk a) o s₂ := hq
  rw [State.frames_setTop' g h.top] at hend
  obtain ⟨g₀, hg0⟩ := Option.isSome_iff_exists.mp h.top
  obtain ⟨r, hr⟩ := State.topJava?_eq_some.mp hg0
  have hr' : (({ U with heap := s₂.heap, slotsUsed := s₂.slotsUsed } : State).setVm s₂.vm).frames = .java g₀ :: r := hr
  rcases hq' with ⟨hqc, L, hfe, hL⟩ | ⟨q, rfl, E, ce, L, hx, hce, hcv, hcl, hW₂, hsm, hL⟩
  · obtain ⟨⟨v, rfl⟩, hW₂, e2, q2, q3, q4, q5, q6⟩ := id hfe
    have e3 : s₂ = ({ (U.calling g mk a).setFrames s₂.frames with heap := s₂.heap, slotsUsed := s₂.slotsUsed } : State).setVm s₂.vm := by
      have : s₂ = ({ s₂ with vm := (U.calling g mk a).vm } : State).setVm s₂.vm := rfl
      rw [e2] at this
      exact this
    obtain ⟨c₂, i₂, len₂, hc₂, hd₂, hf₂⟩ := hend
    have hW' : U.WarmedH s₂.vm := hW₂
    have hcc : c₂ = c := by
      have h1 : s₂.code? g.method = U.code? g.method := by
        rw [State.code?_eq, State.code?_eq, hW'.alike.method?]
      exact Option.some.inj (hc₂.symm.trans (h1.trans h.code))
    subst hcc
    have hlen : len₂ = len := by rw [hdg] at hd₂; cases hd₂; rfl
    subst hlen
    have hs₂ : s₂ = (({ U with heap := s₂.heap, slotsUsed := s₂.slotsUsed } : State).setVm s₂.vm).setTop { g with pc := g.pc + len₂, stack := v.toList ++ g.stack } := by
      refine e3.trans ?_
      rw [hf₂, State.calling_eq h.top, State.setFrames_setFrames, State.setTop_of_frames _ hr', hr]
      rfl
    have hsame : U.sameButNew ({ U with heap := s₂.heap, slotsUsed := s₂.slotsUsed } : State) L mc ms := by
      refine ⟨?_, q2, q3, q4, q5, q6⟩
      obtain ⟨t, ht, -⟩ := State.frames_cons hr
      show ({ U with heap := s₂.heap, slotsUsed := s₂.slotsUsed } : State) = { U.setFrames U.frames with heap := s₂.heap, slotsUsed := s₂.slotsUsed }
      rw [State.setFrames_self ht]
    subst hg
    refine Or.inl ⟨v, ⟨(({ U with heap := s₂.heap, slotsUsed := s₂.slotsUsed } : State).setVm s₂.vm), Ls ++ L, c0 + mc, s0 + ms⟩,
      ⟨X.admits, X.cas, X.clock, X.frames, X.room, X.hears, X.method, X.code, (X.here.setHeapUsed s₂.heap s₂.slotsUsed).setVm hW'.alike, X.tail, State.WarmedH.trans X.warmed hW', X.limits, X.bytes, X.same.trans (hsame.setVm s.vm)⟩,
      ⟨g, mk, s₂, L, rfl, rfl, hqc, rfl, hL, rfl, rfl⟩, ?_⟩
    show Steps p.tables e below _ ((({ U with heap := s₂.heap, slotsUsed := s₂.slotsUsed } : State).setVm s₂.vm).setTop { g with pc := g.pc + len₂, stack := v.toList ++ g.stack })
    rw [← hs₂]
    exact hsteps
  · obtain ⟨e2, q2, q3, q4, q5, q6⟩ := id hsm
    have e3 : s₂ = ({ (U.calling g mk a).setFrames s₂.frames with heap := s₂.heap, slotsUsed := s₂.slotsUsed } : State).setVm s₂.vm := by
      have : s₂ = ({ s₂ with vm := (U.calling g mk a).vm } : State).setVm s₂.vm := rfl
      rw [e2] at this
      exact this
    have hf₂ : s₂.frames = .throwing q :: .java g :: U.frames.tail := hend
    have hW' : U.WarmedH s₂.vm := hW₂
    have hs₂ : s₂ = ((({ U with heap := s₂.heap, slotsUsed := s₂.slotsUsed } : State).setVm s₂.vm).setTop g).pushFrame (.throwing q) := by
      refine e3.trans ?_
      rw [hf₂, State.calling_eq h.top, State.setFrames_setFrames, State.pushFrame, State.frames_setTop _ hr', State.setTop_of_frames _ hr', State.setFrames_setFrames, hr]
      rfl
    have hsame : U.sameButNew ({ U with heap := s₂.heap, slotsUsed := s₂.slotsUsed } : State) L mc ms := by
      refine ⟨?_, q2, q3, q4, q5, q6⟩
      obtain ⟨t, ht, -⟩ := State.frames_cons hr
      show ({ U with heap := s₂.heap, slotsUsed := s₂.slotsUsed } : State) = { U.setFrames U.frames with heap := s₂.heap, slotsUsed := s₂.slotsUsed }
      rw [State.setFrames_self ht]
    subst hg
    refine Or.inr ⟨q, ⟨(({ U with heap := s₂.heap, slotsUsed := s₂.slotsUsed } : State).setVm s₂.vm), Ls ++ L, c0 + mc, s0 + ms⟩,
      ⟨X.admits, X.cas, X.clock, X.frames, X.room, X.hears, X.method, X.code, (X.here.setHeapUsed s₂.heap s₂.slotsUsed).setVm hW'.alike, X.tail, State.WarmedH.trans X.warmed hW', X.limits, X.bytes, X.same.trans (hsame.setVm s.vm)⟩,
      ⟨g, mk, s₂, L, E, ce, rfl, rfl, hx, hce, hcv, hcl, rfl, hL, rfl, rfl⟩, ?_⟩
    show Steps p.tables e below _ (((({ U with heap := s₂.heap, slotsUsed := s₂.slotsUsed } : State).setVm s₂.vm).setTop g).pushFrame (.throwing q))
    rw [← hs₂]
    exact hsteps
end Payer
section Calls
variable {p : Program} {l : Launch} {e : Env} {R : Room} {s : State} {m : MethodId} {args : Array Value} {below : List Frame} {meth : Method} {c : Code} {T : State} {locs : List Loc} {cells slots : Nat}
theorem vx_callV (X : Stand p l e R s m args below meth c T locs cells slots) (hexec : p.tables.exec = Jvm.exec) {own C : String} {index : Nat} {y : MethodName} {bytes : ByteArray} {maxL : Nat} {ret : Option FieldType}
    (hown : s.vm.findClass own = some m.cls) (hlink : (Cond.methodLink own index y).before args s = true) (hinst : (Cond.instanceMethod y).before args s = true) (hsel : (Cond.selects C y y).before args s = true)
    (hcode : (Cond.code y bytes maxL ret).before args s = true) (hy : y.cls ≠ "java/lang/invoke/MethodHandle" ∧ y.cls ≠ "java/lang/invoke/VarHandle")
    {W9 : Nat} {Pre : Pt → Array Value → Prop} {Post : Pt → Array Value → Option Value → Pt → Prop} {PostX : Pt → Array Value → Addr → Pt → Prop} (hK : vx_Back l R p e below s args y 3 W9 Pre Post PostX)
    {b : Addr} {cellB : Cell} (hcell : T.heap[b]? = some cellB) (hobj : cellB.vm.isStatics = false) (hcls : s.vm.findClass C = some cellB.cls)
    {g : JFrame} (hg : g.method = m) (hsize : g.locals.size = c.maxLocals) {argsL rest : List Value} (hlen : ∀ sig, parseMethodDescriptor y.desc = some sig → argsL.length = sig.parameters.length)
    (hstack : g.stack = argsL.reverse ++ .ref b :: rest) (hW : 2 * g.monitorRoom + (rest.map fun v => v.category).sum ≤ W9) (hdg : decode c.code g.pc = .ok (.invokevirtual index, 3))
    (hpre : ∀ vm₁, s.WarmedH vm₁ → Pre ⟨T.setVm vm₁, locs, cells, slots⟩ (Value.ref b :: argsL).toArray) :
    (∃ (v : Option Value) (vm₁ : Vm) (B : Pt), s.WarmedH vm₁ ∧ Stand p l e R s m args below meth c B.U B.locs B.cells B.slots ∧ Post ⟨T.setVm vm₁, locs, cells, slots⟩ (Value.ref b :: argsL).toArray v B ∧
      ∀ target, Steps p.tables e below (B.U.setTop { g with pc := g.pc + 3, stack := v.toList ++ rest }) target → Steps p.tables e below (T.setTop g) target) ∨
    (∃ (q : Addr) (vm₁ : Vm) (B : Pt), s.WarmedH vm₁ ∧ Stand p l e R s m args below meth c B.U B.locs B.cells B.slots ∧ PostX ⟨T.setVm vm₁, locs, cells, slots⟩ (Value.ref b :: argsL).toArray q B ∧
      Steps p.tables e below (T.setTop g) ((B.U.setTop { g with stack := rest }).pushFrame (.throwing q))) := by
  obtain ⟨mk, methM, hnamed, hmethM, hstM, habM⟩ := Cond.instanceMethod_spec hinst
  obtain ⟨methM', cM, hmethM', -, -, -, -, -, -, hsigM⟩ := Cond.code_spec hnamed hcode
  cases hmethM.symm.trans hmethM'
  obtain ⟨c2, r2, m2, q1, q2, q3, q4, kP, hkP, hkPi⟩ := Cond.selects_spec hsel
  cases hcls.symm.trans q1
  cases (State.methodFound?_of_named hnamed hy).symm.trans q2
  cases hnamed.symm.trans q3
  have hselP : selectMethod e.platform s.vm cellB.cls mk = .method mk := by rw [Launch.admits_selectMethod X.admits]; exact q4
  obtain ⟨vm₁, X₁, hstep₁⟩ := X.invokevirtual hexec hown hlink hnamed hmethM hstM hkP hkPi hy (a := b) (cell := cellB) hcell
    (fun z h => by rw [h] at hobj; cases hobj) hselP hmethM habM hkP hkPi (g := g) hg (argsL := argsL) (rest := rest) (hlen _ hsigM) hstack hdg
  rcases hK m meth c ⟨T.setVm vm₁, locs, cells, slots⟩ { g with stack := rest } (.invokevirtual index) mk (Value.ref b :: argsL).toArray X₁ hg hsize hdg hW (X₁.named hnamed) (hpre vm₁ X₁.warmed) with ⟨v, B, X', hpost, hsteps⟩ | ⟨q, B, X', hpost, hsteps⟩
  · exact Or.inl ⟨v, vm₁, B, X₁.warmed, X', hpost, fun target h => hstep₁ _ fun acts => by rw [doInvoke_state]; exact hsteps.trans h⟩
  · exact Or.inr ⟨q, vm₁, B, X₁.warmed, X', hpost, hstep₁ _ fun acts => by rw [doInvoke_state]; exact hsteps⟩
theorem vx_callS (X : Stand p l e R s m args below meth c T locs cells slots) (hexec : p.tables.exec = Jvm.exec) {own : String} {index : Nat} {y : MethodName} {bytes : ByteArray} {maxL : Nat} {ret : Option FieldType}
    (hown : s.vm.findClass own = some m.cls) (hlink : (Cond.methodLink own index y).before args s = true) (hstat : (Cond.static y).before args s = true) (hinit : (Cond.initialized y.cls).before args s = true)
    (hcode : (Cond.code y bytes maxL ret).before args s = true) (hy : y.cls ≠ "java/lang/invoke/MethodHandle" ∧ y.cls ≠ "java/lang/invoke/VarHandle")
    {W9 : Nat} {Pre : Pt → Array Value → Prop} {Post : Pt → Array Value → Option Value → Pt → Prop} {PostX : Pt → Array Value → Addr → Pt → Prop} (hK : vx_Back l R p e below s args y 3 W9 Pre Post PostX)
    {g : JFrame} (hg : g.method = m) (hsize : g.locals.size = c.maxLocals) {argsL rest : List Value} (hlen : ∀ sig, parseMethodDescriptor y.desc = some sig → argsL.length = sig.parameters.length)
    (hstack : g.stack = argsL.reverse ++ rest) (hW : 2 * g.monitorRoom + (rest.map fun v => v.category).sum ≤ W9) (hdg : decode c.code g.pc = .ok (.invokestatic index, 3))
    (hpre : ∀ vm₁, s.WarmedH vm₁ → Pre ⟨T.setVm vm₁, locs, cells, slots⟩ argsL.toArray) :
    (∃ (v : Option Value) (vm₁ : Vm) (B : Pt), s.WarmedH vm₁ ∧ Stand p l e R s m args below meth c B.U B.locs B.cells B.slots ∧ Post ⟨T.setVm vm₁, locs, cells, slots⟩ argsL.toArray v B ∧
      ∀ target, Steps p.tables e below (B.U.setTop { g with pc := g.pc + 3, stack := v.toList ++ rest }) target → Steps p.tables e below (T.setTop g) target) ∨
    (∃ (q : Addr) (vm₁ : Vm) (B : Pt), s.WarmedH vm₁ ∧ Stand p l e R s m args below meth c B.U B.locs B.cells B.slots ∧ PostX ⟨T.setVm vm₁, locs, cells, slots⟩ argsL.toArray q B ∧
      Steps p.tables e below (T.setTop g) ((B.U.setTop { g with stack := rest }).pushFrame (.throwing q))) := by
  obtain ⟨mk, hnamed⟩ := Cond.code_named hcode
  obtain ⟨methM, cM, hmethM, -, -, -, -, -, -, hsigM⟩ := Cond.code_spec hnamed hcode
  have hstatic : methM.isStatic = true := Cond.static_spec hnamed hmethM hstat
  obtain ⟨kP, hkP, -⟩ := className_of_methodNamed hnamed
  have hinitP : kP.init = .initialized := Cond.initialized_spec (findClass_of_methodNamed hnamed) hkP hinit
  obtain ⟨vm₁, X₁, hstep₁⟩ := X.invokestatic hexec hown hlink hnamed hmethM hstatic hkP hinitP hy (g := g) hg (argsL := argsL) (rest := rest) (hlen _ hsigM) hstack hdg
  rcases hK m meth c ⟨T.setVm vm₁, locs, cells, slots⟩ { g with stack := rest } (.invokestatic index) mk argsL.toArray X₁ hg hsize hdg hW (X₁.named hnamed) (hpre vm₁ X₁.warmed) with ⟨v, B, X', hpost, hsteps⟩ | ⟨q, B, X', hpost, hsteps⟩
  · exact Or.inl ⟨v, vm₁, B, X₁.warmed, X', hpost, fun target h => hstep₁ _ fun acts => by rw [doInvoke_state]; exact hsteps.trans h⟩
  · exact Or.inr ⟨q, vm₁, B, X₁.warmed, X', hpost, hstep₁ _ fun acts => by rw [doInvoke_state]; exact hsteps⟩
end Calls
theorem vx_cls {s : State} {T : State} {vm₁ : Vm} {E : String} {k : ClassId} (hW : s.WarmedH vm₁) (h : (T.setVm vm₁).vm.findClass E = some k) : s.vm.findClass E = some k := by
  have h1 : vm₁.findClass E = some k := h
  rw [hW.alike.findClass] at h1
  exact h1
/-- the method's frame g, with q thrown over it -/
def vx_W (p : Program) (l : Launch) (e : Env) (R : Room) (s : State) (m : MethodId) (args : Array Value) (below : List Frame) (meth : Method) (c : Code) (H : Heap) (locs : List Loc) (cells slots : Nat) (Q : State → Prop) (g : JFrame) (q : Addr) : Prop :=
  ∀ T : State, T.heap = H → Stand p l e R s m args below meth c T locs cells slots → ∃ t, Steps p.tables e below ((T.setTop g).pushFrame (.throwing q)) t ∧ Q t
def vx_Run (p : Program) (l : Launch) (e : Env) (R : Room) (s : State) (m : MethodId) (args : Array Value) (below : List Frame) (meth : Method) (c : Code) (H : Heap) (locs : List Loc) (cells slots mc ms : Nat) (g : JFrame) (rest : List Value) (Qa : State → Outcome → State → Prop) (XC : String → State → State → Prop) (free : Addr → Prop) : Prop :=
  ∀ T : State, T.heap = H → Stand p l e R s m args below meth c T locs cells slots →
    (∃ (v : Option Value) (st₀ t T' : State) (L : List Loc), st₀.heap = H ∧ Stand p l e R s m args below meth c T' (locs ++ L) (cells + mc) (slots + ms) ∧ (∀ q ∈ L, free q.base) ∧ T'.heap = t.heap ∧ T'.vm = t.vm ∧ Qa st₀ (.returned v) t ∧
      Goes p e below T g T' { g with pc := g.pc + 3, stack := v.toList ++ rest }) ∨
    (∃ (q : Addr) (st₀ t T' : State) (L : List Loc) (E : String) (ce : Cell), st₀.heap = H ∧ Stand p l e R s m args below meth c T' (locs ++ L) (cells + mc) (slots + ms) ∧ (∀ z ∈ L, free z.base) ∧ T'.heap = t.heap ∧ T'.vm = t.vm ∧ XC E st₀ t ∧ t.heap[q]? = some ce ∧ ce.vm = .none ∧ s.vm.findClass E = some ce.cls ∧
      Steps p.tables e below (T.setTop g) ((T'.setTop { g with stack := rest }).pushFrame (.throwing q)))
def vx_X {S : Type} (px : S → Prop) (B : String → S → State → Prop) (A : Nat → Prop) : String → State → State → Prop := fun E st t => ∃ u : S, px u ∧ B E u t ∧ va_F A st t
section Runs
variable {p : Program} {l : Launch} {e : Env} {R : Room} {s : State} {m : MethodId} {args : Array Value} {below : List Frame} {meth : Method} {c : Code} {H : Heap} {locs : List Loc} {cells slots : Nat}
variable {y : MethodName} {bytes cc : ByteArray} {maxL nL mc ms n index : Nat} {ret : Option FieldType} {ws : List Cond} {rm : Room} {Pc : Array Value → State → Prop} {Qc : Array Value → State → Outcome → State → Prop} {XC : String → State → State → Prop} {free : Addr → Prop} {Ts : List Cond} {own C : String} {b : Addr} {As rest : List Value} {g : JFrame}
theorem vx_callBack (cb : CallB R s args own index y bytes maxL ret ws rm mc ms n) (hM : vx_Met l y ws rm Pc Qc XC mc ms free) (hbl : FrameBlind Pc) : vx_Back l R p e below s args y 3 8 (PreOf R mc ms Pc) (PostOf Qc mc ms free) (vx_Post XC mc ms free) := by
  obtain ⟨hrc, hrs, hfr, hlo, hws, hcw, -, hini, -⟩ := cb
  exact vx_back (bytes := bytes) (maxL := maxL) (ret := ret) hM hbl hrc hrs hfr hlo hws hcw (fun a' U hW => word_at hW (Or.inl (by first | rfl | simp [Cond.onTables, Cond.keeps, Cond.steady])) hini)
theorem vx_runV (S : CallFix p m c cc nL s args Ts own) (hM : vx_Met l y ws rm Pc Qc XC mc ms free) (cw : CallW R s args own C index y bytes maxL ret ws rm mc ms n) (hp : PreV s H C b Pc As)
    (hg : g.method = m) (hn : As.length = n) (hsize : g.locals.size = nL) (hstack : g.stack = As.reverse ++ .ref b :: rest) (hW : 2 * g.monitorRoom + (rest.map fun v => v.category).sum ≤ 8) (hdg : decode cc g.pc = .ok (.invokevirtual index, 3)) (hf : cells + mc ≤ R.cells ∧ slots + ms ≤ R.slots) :
    vx_Run p l e R s m args below meth c H locs cells slots mc ms g rest (Qc (Value.ref b :: As).toArray) XC free := by
  have hK : vx_Back l R p e below s args y 3 8 (PreOf R mc ms Pc) (PostOf Qc mc ms free) (vx_Post XC mc ms free) := vx_callBack cw.1 hM hp.1
  obtain ⟨⟨-, -, -, -, -, -, hcode, -, hy, hlen, hl⟩, hin, hse⟩ := cw
  obtain ⟨hx, hb, hml, ho, -⟩ := S
  obtain ⟨-, ⟨cellB, hcB, hoB, hclB⟩, hPc⟩ := hp
  intro T hT X
  rcases vx_callV X hx (C := C) (bytes := bytes) (maxL := maxL) (ret := ret) ho hl hin hse hcode hy hK (by rw [hT]; exact hcB) hoB hclB hg (hsize.trans hml.symm) (argsL := As) (rest := rest) (fun sig h => hn.trans (hlen sig h)) hstack hW (by rw [hb]; exact hdg)
    (fun vm₁ hW₁ => ⟨hf.1, hf.2, hPc (T.setVm vm₁) hT hW₁⟩) with ⟨v, vm₁, ⟨U', l2, c2, s2⟩, hW₁, X', ⟨g', mk, t, L, e1, e2, hq, h1, hL, h2, h3⟩, st⟩ | ⟨q, vm₁, ⟨U', l2, c2, s2⟩, hW₁, X', ⟨g', mk, t, L, E, ce, e1, e2, hq, hce, hcv, hcl, h1, hL, h2, h3⟩, st⟩
  · dsimp only [Pt.U, Pt.locs, Pt.cells, Pt.slots] at X' e1 e2 h1 h2 h3 st
    subst h1; subst h2; subst h3
    exact Or.inl ⟨v, (T.setVm vm₁).calling g' mk (Value.ref b :: As).toArray, t, U', L, hT, X', hL, e1, e2, hq, st⟩
  · dsimp only [Pt.U, Pt.locs, Pt.cells, Pt.slots] at X' e1 e2 h1 h2 h3 st hcl
    subst h1; subst h2; subst h3
    exact Or.inr ⟨q, (T.setVm vm₁).calling g' mk (Value.ref b :: As).toArray, t, U', L, E, ce, hT, X', hL, e1, e2, hq, hce, hcv, vx_cls hW₁ hcl, st⟩
theorem vx_runS (S : CallFix p m c cc nL s args Ts own) (hM : vx_Met l y ws rm Pc Qc XC mc ms free) (cw : CallB R s args own index y bytes maxL ret ws rm mc ms n ∧ (Cond.static y).before args s = true) (hp : PreS s H Pc As)
    (hg : g.method = m) (hn : As.length = n) (hsize : g.locals.size = nL) (hstack : g.stack = As.reverse ++ rest) (hW : 2 * g.monitorRoom + (rest.map fun v => v.category).sum ≤ 8) (hdg : decode cc g.pc = .ok (.invokestatic index, 3)) (hf : cells + mc ≤ R.cells ∧ slots + ms ≤ R.slots) :
    vx_Run p l e R s m args below meth c H locs cells slots mc ms g rest (Qc As.toArray) XC free := by
  have hK : vx_Back l R p e below s args y 3 8 (PreOf R mc ms Pc) (PostOf Qc mc ms free) (vx_Post XC mc ms free) := vx_callBack cw.1 hM hp.1
  obtain ⟨⟨-, -, -, -, -, -, hcode, hini, hy, hlen, hl⟩, hstt⟩ := cw
  obtain ⟨hx, hb, hml, ho, -⟩ := S
  intro T hT X
  rcases vx_callS X hx (bytes := bytes) (maxL := maxL) (ret := ret) ho hl hstt hini hcode hy hK hg (hsize.trans hml.symm) (argsL := As) (rest := rest) (fun sig h => hn.trans (hlen sig h)) hstack hW (by rw [hb]; exact hdg)
    (fun vm₁ hW₁ => ⟨hf.1, hf.2, hp.2 (T.setVm vm₁) hT hW₁⟩) with ⟨v, vm₁, ⟨U', l2, c2, s2⟩, hW₁, X', ⟨g', mk, t, L, e1, e2, hq, h1, hL, h2, h3⟩, st⟩ | ⟨q, vm₁, ⟨U', l2, c2, s2⟩, hW₁, X', ⟨g', mk, t, L, E, ce, e1, e2, hq, hce, hcv, hcl, h1, hL, h2, h3⟩, st⟩
  · dsimp only [Pt.U, Pt.locs, Pt.cells, Pt.slots] at X' e1 e2 h1 h2 h3 st
    subst h1; subst h2; subst h3
    exact Or.inl ⟨v, (T.setVm vm₁).calling g' mk As.toArray, t, U', L, hT, X', hL, e1, e2, hq, st⟩
  · dsimp only [Pt.U, Pt.locs, Pt.cells, Pt.slots] at X' e1 e2 h1 h2 h3 st hcl
    subst h1; subst h2; subst h3
    exact Or.inr ⟨q, (T.setVm vm₁).calling g' mk As.toArray, t, U', L, E, ce, hT, X', hL, e1, e2, hq, hce, hcv, vx_cls hW₁ hcl, st⟩
end Runs
section Rows
variable {p : Program} {l : Launch} {e : Env} {R : Room} {s : State} {m : MethodId} {args : Array Value} {below : List Frame} {meth : Method} {c : Code} {H : Heap} {locs : List Loc} {cells slots : Nat} {Q : State → Prop}
variable {mc ms : Nat} {free : Addr → Prop} {A0 A1 : Nat → Prop} {H0 : Heap} {a : Array Value} {pc : Nat} {ls : Array Slot} {st0 rest : List Value}
theorem vx_keep {st₀ t T' : State} {L : List Loc} (h0 : st₀.heap = H) (e1 : T'.heap = t.heap) (hS : va_S A0 H0 H locs) (hA : ∀ q, q < H.size → A1 q → A0 q) (hf : ∀ q, free q → A0 q) (hL : ∀ q ∈ L, free q.base) (hF : va_F A1 st₀ t) :
    H.size ≤ T'.heap.size ∧ (∀ q : Nat, q < H.size → ¬ A1 q → T'.heap[q]? = H[q]?) ∧ va_S A0 H0 T'.heap (locs ++ L) := by
  obtain ⟨hz, hk⟩ := hF
  rw [h0] at hz hk
  exact ⟨by rw [e1]; exact hz, fun q h1 h2 => by rw [e1]; exact hk q h1 h2,
    ⟨Nat.le_trans hS.1 (by rw [e1]; exact hz), fun q h1 h2 => by rw [e1, hk q (Nat.lt_of_lt_of_le h1 hS.1) (fun z => h2 (hA q (Nat.lt_of_lt_of_le h1 hS.1) z))]; exact hS.2.1 q h1 h2, fun q hq => by
      rcases List.mem_append.mp hq with h | h
      · exact hS.2.2 q h
      · exact hf _ (hL q h)⟩⟩
theorem vx_calli {S SX : Type} {post : Int32 → S → Prop} {px : SX → Prop} {B : S → State → Prop} {BX : String → SX → State → Prop} {AX : Nat → Prop} (hr : vx_Run p l e R s m args below meth c H locs cells slots mc ms (F0 m pc ls st0) rest (va_Qi post B A1 a) (vx_X px BX AX) free) (hS : va_S A0 H0 H locs) (hA : ∀ q, q < H.size → A1 q → A0 q) (hf : ∀ q, free q → A0 q) (hAX : ∀ q, q < H.size → AX q → A0 q)
    (kx : ∀ (E : String) (ce : Cell) (q9 : Addr) (u : SX) (t : State) (H1 : Heap) (locs1 : List Loc), t.heap = H1 → s.vm.Alike t.vm → px u → BX E u t → H.size ≤ H1.size → (∀ q : Nat, q < H.size → ¬ AX q → H1[q]? = H[q]?) → va_S A0 H0 H1 locs1 → H1[q9]? = some ce → ce.vm = .none → s.vm.findClass E = some ce.cls → vx_W p l e R s m args below meth c H1 locs1 (cells + mc) (slots + ms) Q (F0 m pc ls rest) q9)
    (kk : ∀ (r : Int32) (u : S) (t : State) (H1 : Heap) (locs1 : List Loc), t.heap = H1 → s.vm.Alike t.vm → post r u → B u t → H.size ≤ H1.size → (∀ q : Nat, q < H.size → ¬ A1 q → H1[q]? = H[q]?) → va_S A0 H0 H1 locs1 → W p l e R s m args below meth c H1 locs1 (cells + mc) (slots + ms) Q (F0 m (pc + 3) ls (.int r :: rest))) : W p l e R s m args below meth c H locs cells slots Q (F0 m pc ls st0) := by
  intro T hT X
  rcases hr T hT X with ⟨v, st₀, t, T', L, h0, X', hL, e1, e2, ⟨⟨r, u, hv, hp, hb⟩, hF⟩, st⟩ | ⟨q, st₀, t, T', L, E, ce, h0, X', hL, e1, e2, ⟨u, hp, hb, hF⟩, hce, hcv, hcl, st⟩
  · cases hv
    obtain ⟨k1, k2, k3⟩ := vx_keep h0 e1 hS hA hf hL hF
    obtain ⟨t2, a1, b1⟩ := kk r u t T'.heap (locs ++ L) e1.symm (by rw [← e2]; exact X'.warmed.alike) hp hb k1 k2 k3 T' rfl X'
    exact ⟨t2, st t2 a1, b1⟩
  · obtain ⟨k1, k2, k3⟩ := vx_keep h0 e1 hS hAX hf hL hF
    obtain ⟨t2, a1, b1⟩ := kx E ce q u t T'.heap (locs ++ L) e1.symm (by rw [← e2]; exact X'.warmed.alike) hp hb k1 k2 k3 (by rw [e1]; exact hce) hcv hcl T' rfl X'
    exact ⟨t2, st.trans a1, b1⟩
theorem vx_calll {S SX : Type} {post : Int64 → S → Prop} {px : SX → Prop} {B : S → State → Prop} {BX : String → SX → State → Prop} {AX : Nat → Prop} (hr : vx_Run p l e R s m args below meth c H locs cells slots mc ms (F0 m pc ls st0) rest (va_Ql post B A1 a) (vx_X px BX AX) free) (hS : va_S A0 H0 H locs) (hA : ∀ q, q < H.size → A1 q → A0 q) (hf : ∀ q, free q → A0 q) (hAX : ∀ q, q < H.size → AX q → A0 q)
    (kx : ∀ (E : String) (ce : Cell) (q9 : Addr) (u : SX) (t : State) (H1 : Heap) (locs1 : List Loc), t.heap = H1 → s.vm.Alike t.vm → px u → BX E u t → H.size ≤ H1.size → (∀ q : Nat, q < H.size → ¬ AX q → H1[q]? = H[q]?) → va_S A0 H0 H1 locs1 → H1[q9]? = some ce → ce.vm = .none → s.vm.findClass E = some ce.cls → vx_W p l e R s m args below meth c H1 locs1 (cells + mc) (slots + ms) Q (F0 m pc ls rest) q9)
    (kk : ∀ (r : Int64) (u : S) (t : State) (H1 : Heap) (locs1 : List Loc), t.heap = H1 → s.vm.Alike t.vm → post r u → B u t → H.size ≤ H1.size → (∀ q : Nat, q < H.size → ¬ A1 q → H1[q]? = H[q]?) → va_S A0 H0 H1 locs1 → W p l e R s m args below meth c H1 locs1 (cells + mc) (slots + ms) Q (F0 m (pc + 3) ls (.long r :: rest))) : W p l e R s m args below meth c H locs cells slots Q (F0 m pc ls st0) := by
  intro T hT X
  rcases hr T hT X with ⟨v, st₀, t, T', L, h0, X', hL, e1, e2, ⟨⟨r, u, hv, hp, hb⟩, hF⟩, st⟩ | ⟨q, st₀, t, T', L, E, ce, h0, X', hL, e1, e2, ⟨u, hp, hb, hF⟩, hce, hcv, hcl, st⟩
  · cases hv
    obtain ⟨k1, k2, k3⟩ := vx_keep h0 e1 hS hA hf hL hF
    obtain ⟨t2, a1, b1⟩ := kk r u t T'.heap (locs ++ L) e1.symm (by rw [← e2]; exact X'.warmed.alike) hp hb k1 k2 k3 T' rfl X'
    exact ⟨t2, st t2 a1, b1⟩
  · obtain ⟨k1, k2, k3⟩ := vx_keep h0 e1 hS hAX hf hL hF
    obtain ⟨t2, a1, b1⟩ := kx E ce q u t T'.heap (locs ++ L) e1.symm (by rw [← e2]; exact X'.warmed.alike) hp hb k1 k2 k3 (by rw [e1]; exact hce) hcv hcl T' rfl X'
    exact ⟨t2, st.trans a1, b1⟩
theorem vx_callf {S SX : Type} {post : UInt32 → S → Prop} {px : SX → Prop} {B : S → State → Prop} {BX : String → SX → State → Prop} {AX : Nat → Prop} (hr : vx_Run p l e R s m args below meth c H locs cells slots mc ms (F0 m pc ls st0) rest (va_Qf post B A1 a) (vx_X px BX AX) free) (hS : va_S A0 H0 H locs) (hA : ∀ q, q < H.size → A1 q → A0 q) (hf : ∀ q, free q → A0 q) (hAX : ∀ q, q < H.size → AX q → A0 q)
    (kx : ∀ (E : String) (ce : Cell) (q9 : Addr) (u : SX) (t : State) (H1 : Heap) (locs1 : List Loc), t.heap = H1 → s.vm.Alike t.vm → px u → BX E u t → H.size ≤ H1.size → (∀ q : Nat, q < H.size → ¬ AX q → H1[q]? = H[q]?) → va_S A0 H0 H1 locs1 → H1[q9]? = some ce → ce.vm = .none → s.vm.findClass E = some ce.cls → vx_W p l e R s m args below meth c H1 locs1 (cells + mc) (slots + ms) Q (F0 m pc ls rest) q9)
    (kk : ∀ (r : UInt32) (u : S) (t : State) (H1 : Heap) (locs1 : List Loc), t.heap = H1 → s.vm.Alike t.vm → post r u → B u t → H.size ≤ H1.size → (∀ q : Nat, q < H.size → ¬ A1 q → H1[q]? = H[q]?) → va_S A0 H0 H1 locs1 → W p l e R s m args below meth c H1 locs1 (cells + mc) (slots + ms) Q (F0 m (pc + 3) ls (.float r :: rest))) : W p l e R s m args below meth c H locs cells slots Q (F0 m pc ls st0) := by
  intro T hT X
  rcases hr T hT X with ⟨v, st₀, t, T', L, h0, X', hL, e1, e2, ⟨⟨r, u, hv, hp, hb⟩, hF⟩, st⟩ | ⟨q, st₀, t, T', L, E, ce, h0, X', hL, e1, e2, ⟨u, hp, hb, hF⟩, hce, hcv, hcl, st⟩
  · cases hv
    obtain ⟨k1, k2, k3⟩ := vx_keep h0 e1 hS hA hf hL hF
    obtain ⟨t2, a1, b1⟩ := kk r u t T'.heap (locs ++ L) e1.symm (by rw [← e2]; exact X'.warmed.alike) hp hb k1 k2 k3 T' rfl X'
    exact ⟨t2, st t2 a1, b1⟩
  · obtain ⟨k1, k2, k3⟩ := vx_keep h0 e1 hS hAX hf hL hF
    obtain ⟨t2, a1, b1⟩ := kx E ce q u t T'.heap (locs ++ L) e1.symm (by rw [← e2]; exact X'.warmed.alike) hp hb k1 k2 k3 (by rw [e1]; exact hce) hcv hcl T' rfl X'
    exact ⟨t2, st.trans a1, b1⟩
theorem vx_calld {S SX : Type} {post : UInt64 → S → Prop} {px : SX → Prop} {B : S → State → Prop} {BX : String → SX → State → Prop} {AX : Nat → Prop} (hr : vx_Run p l e R s m args below meth c H locs cells slots mc ms (F0 m pc ls st0) rest (va_Qd post B A1 a) (vx_X px BX AX) free) (hS : va_S A0 H0 H locs) (hA : ∀ q, q < H.size → A1 q → A0 q) (hf : ∀ q, free q → A0 q) (hAX : ∀ q, q < H.size → AX q → A0 q)
    (kx : ∀ (E : String) (ce : Cell) (q9 : Addr) (u : SX) (t : State) (H1 : Heap) (locs1 : List Loc), t.heap = H1 → s.vm.Alike t.vm → px u → BX E u t → H.size ≤ H1.size → (∀ q : Nat, q < H.size → ¬ AX q → H1[q]? = H[q]?) → va_S A0 H0 H1 locs1 → H1[q9]? = some ce → ce.vm = .none → s.vm.findClass E = some ce.cls → vx_W p l e R s m args below meth c H1 locs1 (cells + mc) (slots + ms) Q (F0 m pc ls rest) q9)
    (kk : ∀ (r : UInt64) (u : S) (t : State) (H1 : Heap) (locs1 : List Loc), t.heap = H1 → s.vm.Alike t.vm → post r u → B u t → H.size ≤ H1.size → (∀ q : Nat, q < H.size → ¬ A1 q → H1[q]? = H[q]?) → va_S A0 H0 H1 locs1 → W p l e R s m args below meth c H1 locs1 (cells + mc) (slots + ms) Q (F0 m (pc + 3) ls (.double r :: rest))) : W p l e R s m args below meth c H locs cells slots Q (F0 m pc ls st0) := by
  intro T hT X
  rcases hr T hT X with ⟨v, st₀, t, T', L, h0, X', hL, e1, e2, ⟨⟨r, u, hv, hp, hb⟩, hF⟩, st⟩ | ⟨q, st₀, t, T', L, E, ce, h0, X', hL, e1, e2, ⟨u, hp, hb, hF⟩, hce, hcv, hcl, st⟩
  · cases hv
    obtain ⟨k1, k2, k3⟩ := vx_keep h0 e1 hS hA hf hL hF
    obtain ⟨t2, a1, b1⟩ := kk r u t T'.heap (locs ++ L) e1.symm (by rw [← e2]; exact X'.warmed.alike) hp hb k1 k2 k3 T' rfl X'
    exact ⟨t2, st t2 a1, b1⟩
  · obtain ⟨k1, k2, k3⟩ := vx_keep h0 e1 hS hAX hf hL hF
    obtain ⟨t2, a1, b1⟩ := kx E ce q u t T'.heap (locs ++ L) e1.symm (by rw [← e2]; exact X'.warmed.alike) hp hb k1 k2 k3 (by rw [e1]; exact hce) hcv hcl T' rfl X'
    exact ⟨t2, st.trans a1, b1⟩
theorem vx_callv {S SX : Type} {post : S → Prop} {px : SX → Prop} {B : S → State → Prop} {BX : String → SX → State → Prop} {AX : Nat → Prop} (hr : vx_Run p l e R s m args below meth c H locs cells slots mc ms (F0 m pc ls st0) rest (va_Qv post B A1 a) (vx_X px BX AX) free) (hS : va_S A0 H0 H locs) (hA : ∀ q, q < H.size → A1 q → A0 q) (hf : ∀ q, free q → A0 q) (hAX : ∀ q, q < H.size → AX q → A0 q)
    (kx : ∀ (E : String) (ce : Cell) (q9 : Addr) (u : SX) (t : State) (H1 : Heap) (locs1 : List Loc), t.heap = H1 → s.vm.Alike t.vm → px u → BX E u t → H.size ≤ H1.size → (∀ q : Nat, q < H.size → ¬ AX q → H1[q]? = H[q]?) → va_S A0 H0 H1 locs1 → H1[q9]? = some ce → ce.vm = .none → s.vm.findClass E = some ce.cls → vx_W p l e R s m args below meth c H1 locs1 (cells + mc) (slots + ms) Q (F0 m pc ls rest) q9)
    (kk : ∀ (u : S) (t : State) (H1 : Heap) (locs1 : List Loc), t.heap = H1 → s.vm.Alike t.vm → post u → B u t → H.size ≤ H1.size → (∀ q : Nat, q < H.size → ¬ A1 q → H1[q]? = H[q]?) → va_S A0 H0 H1 locs1 → W p l e R s m args below meth c H1 locs1 (cells + mc) (slots + ms) Q (F0 m (pc + 3) ls (rest))) : W p l e R s m args below meth c H locs cells slots Q (F0 m pc ls st0) := by
  intro T hT X
  rcases hr T hT X with ⟨v, st₀, t, T', L, h0, X', hL, e1, e2, ⟨⟨u, hv, hp, hb⟩, hF⟩, st⟩ | ⟨q, st₀, t, T', L, E, ce, h0, X', hL, e1, e2, ⟨u, hp, hb, hF⟩, hce, hcv, hcl, st⟩
  · cases hv
    obtain ⟨k1, k2, k3⟩ := vx_keep h0 e1 hS hA hf hL hF
    obtain ⟨t2, a1, b1⟩ := kk u t T'.heap (locs ++ L) e1.symm (by rw [← e2]; exact X'.warmed.alike) hp hb k1 k2 k3 T' rfl X'
    exact ⟨t2, st t2 a1, b1⟩
  · obtain ⟨k1, k2, k3⟩ := vx_keep h0 e1 hS hAX hf hL hF
    obtain ⟨t2, a1, b1⟩ := kx E ce q u t T'.heap (locs ++ L) e1.symm (by rw [← e2]; exact X'.warmed.alike) hp hb k1 k2 k3 (by rw [e1]; exact hce) hcv hcl T' rfl X'
    exact ⟨t2, st.trans a1, b1⟩
/-- caught by the row x of this method's table; the rows ahead don't take it -/
theorem vx_catch {own name : String} {E : String} {ce : Cell} {q : Addr} (hown : s.vm.findClass own = some m.cls) (pre : List ExceptionTableEntry) (x : ExceptionTableEntry) (suf : List ExceptionTableEntry) (hsplit : c.exceptionTable.toList = pre ++ x :: suf)
    (hpass : ∀ z ∈ pre, covers z pc = false ∨ (z.catchType ≠ 0 ∧ ∃ nm : String, (Cond.classLink own z.catchType nm).before args s = true ∧ va_Nc E nm s)) (hx : covers x pc = true) (h0 : x.catchType ≠ 0)
    (hlink : (Cond.classLink own x.catchType name).before args s = true) (hcast : (Cond.castable E name).before args s = true) (hcell : H[q]? = some ce) (hv : ce.vm = .none) (hcl : s.vm.findClass E = some ce.cls)
    (kk : W p l e R s m args below meth c H locs cells slots Q (F0 m x.handlerPc ls [.ref q])) : vx_W p l e R s m args below meth c H locs cells slots Q (F0 m pc ls rest) q := by
  intro T hT X
  have hpl : e.platform.magicAccessors = ({} : Platform).magicAccessors := by rw [X.admits.platform]
  obtain ⟨c3, c4, hc3, hc4, hasg⟩ := Cond.castable_spec hcast
  cases Option.some.inj (hc3.symm.trans hcl)
  obtain ⟨c5, hc5, hcl5⟩ := Cond.classLink_spec hown hlink e.platform hpl
  cases Option.some.inj (hc4.symm.trans hc5)
  obtain ⟨vm', X', st⟩ := X.thenCaughtThrough q (g := F0 m pc ls rest) rfl (Steps.refl _) (by rw [hT]; exact hcell) (by rw [hv]; rfl) (by obtain ⟨k9, h9, -⟩ := Vm.findClass_spec hcl; exact ⟨k9, h9⟩) pre x suf hsplit
    (fun z hz => by
      rcases hpass z hz with h | ⟨hz0, nm, hl1, hn1⟩
      · exact Or.inl h
      · obtain ⟨c6, hc6, hcl6⟩ := Cond.classLink_spec hown hl1 e.platform hpl
        obtain ⟨a8, b8, h1, h2, h3⟩ := hn1
        cases Option.some.inj (h1.symm.trans hcl)
        cases Option.some.inj (h2.symm.trans hc6)
        exact Or.inr ⟨hz0, _, hcl6, h3⟩) hx (Or.inr ⟨h0, c4, hcl5, hasg⟩)
  obtain ⟨t, a1, b1⟩ := kk (T.setVm vm') hT X'
  exact ⟨t, st.trans a1, b1⟩
end Rows
section Ends
variable {p : Program} {l : Launch} {e : Env} {R : Room} {s : State} {m : MethodId} {args : Array Value} {below : List Frame} {meth : Method} {c : Code} {H : Heap} {locs : List Loc} {cells slots : Nat} {Q : State → Prop}
variable {mc ms : Nat} {free : Addr → Prop} {A0 A1 : Nat → Prop} {H0 : Heap} {a : Array Value} {ls : Array Slot} {st0 rest : List Value}
variable {Qc : Array Value → State → Outcome → State → Prop} {XC : String → State → State → Prop}
/-- what a body that may throw owes at its end -/
def vx_MQ (below : List Frame) (Qc : Array Value → State → Outcome → State → Prop) (XC : String → State → State → Prop) (a : Array Value) (s : State) (mc ms : Nat) (free : Addr → Prop) : State → Prop := fun t =>
  ∃ o, t.status = .running ∧ Ended t below o ∧ vx_Q Qc XC mc ms free a s o t
theorem vx_ret {g : JFrame} {mc ms : Nat} (k : W p l e R s m args below meth c H locs cells slots (MQ below Qc args s mc ms free) g) : W p l e R s m args below meth c H locs cells slots (vx_MQ below Qc XC args s mc ms free) g := by
  intro T hT X
  obtain ⟨t, a1, o, b1, b2, b3, b4⟩ := k T hT X
  exact ⟨t, a1, o, b1, b2, Or.inl ⟨b3, b4⟩⟩
/-- not caught here: it goes on to the caller -/
theorem vx_widen {g : JFrame} {q : Addr} {k n : Nat} (h1 : cells ≤ k) (h2 : slots ≤ n) (kk : vx_W p l e R s m args below meth c H locs k n Q g q) : vx_W p l e R s m args below meth c H locs cells slots Q g q := fun T hT X => kk T hT (stand_widen X h1 h2)
theorem vx_out {pc : Nat} {E : String} {ce : Cell} {q : Addr} {mc ms : Nat} (hout : ∀ x ∈ c.exceptionTable.toList, covers x pc = false) (hlocks : meth.locks = false) (hcell : H[q]? = some ce) (hv : ce.vm = .none) (hcl : s.vm.findClass E = some ce.cls)
    (hx : ∀ t : State, t.heap = H → s.vm.Alike t.vm → XC E s t) (hf : ∀ z ∈ locs, free z.base) (hc : cells ≤ mc) (hs : slots ≤ ms) :
    vx_W p l e R s m args below meth c H locs cells slots (vx_MQ below Qc XC args s mc ms free) (F0 m pc ls rest) q := by
  intro T hT X
  obtain ⟨st1, hrun, hend, hW, hsm⟩ := X.leaveThrown q (g := F0 m pc ls rest) rfl rfl rfl hout hlocks
  have hcell9 : (T.setFrames (.throwing q :: below)).heap[q]? = some ce := by
    show T.heap[q]? = some ce
    rw [hT]; exact hcell
  exact ⟨_, st1, .threw q, hrun, hend, Or.inr ⟨q, rfl, E, ce, locs, hx _ hT hW.alike, hcell9, hv, hcl, hW, hsm.mono hc hs, hf⟩⟩
theorem vx_frame {U : State} {k n : Nat} (h : s.sameButNew ({ U with vm := s.vm } : State) locs k n) : s.heap.size ≤ U.heap.size ∧ ∀ q : Nat, q < s.heap.size → (∀ z ∈ locs, z.base ≠ q) → U.heap[q]? = s.heap[q]? := by
  obtain ⟨-, h2, -, -, -, h6⟩ := h
  refine ⟨h2, fun q hq hz => ?_⟩
  obtain ⟨c9, e1, e2, e3, e4⟩ := h6 q _ (Array.getElem?_eq_getElem hq)
  have hs : c9.slots = (s.heap[q]).slots := Array.ext_getElem? fun i => e4 i fun hm => hz _ hm rfl
  have h9 : c9 = s.heap[q] := by
    rw [hs] at e2
    exact e2
  have e5 : U.heap[q]? = some c9 := e1
  rw [e5, h9, Array.getElem?_eq_getElem hq]
/-- the words of a throw but the four that speak of the heap -/
def vx_no (w : Cond) : Bool := decide (w ≠ .isRef (.static Bundle.tN "UNASSIGNED_STACK" Bundle.steD)) && decide (w ≠ .isRef (.static Bundle.tN "SUPPRESSED_SENTINEL" Bundle.listD)) && decide (w ≠ .laysStatic Bundle.tN "UNASSIGNED_STACK" Bundle.steD) && decide (w ≠ .laysStatic Bundle.tN "SUPPRESSED_SENTINEL" Bundle.listD)
def vx_at0 (own : String) (ic : Nat) (X : String) (names : List String) : List Cond := (Bundle.ownAtoms0 own ic X names).filter vx_no
def vx_atS (own : String) (ic : Nat) (X : String) (names : List String) : List Cond := (Bundle.ownAtoms own ic X names).filter vx_no
/-- a word that the tables alone decide, or a good one -/
def vx_ot (w : Cond) : Bool := w.onTables || goodWord w
theorem vx_ot_at {args a' : Array Value} {s U : State} {w : Cond} (hW : s.WarmedH U.vm) (hvm : s.vm = U.vm) (hg : vx_ot w = true) (h : w.before args s = true) : w.before a' U = true := by
  simp only [vx_ot, Bool.or_eq_true] at hg
  rcases hg with hg | hg
  · exact va_tabs hg hvm h
  · exact word_at hW (good_of_word hg) h
/-- a list's words: the good ones out of the method's own list, the others by premises of their own -/
theorem vx_hat {args : Array Value} {s : State} {L B : List Cond} (h1 : ∀ w ∈ L.filter goodWord, w.before args s = true) (h2 : ∀ w ∈ L.filter (fun w => !goodWord w), w ∈ B) (h3 : ∀ w ∈ B, w.before args s = true) : ∀ w ∈ L, w.before args s = true := by
  intro w hw
  by_cases g : goodWord w = true
  · exact h1 w (List.mem_filter.mpr ⟨hw, g⟩)
  · refine h3 w (h2 w (List.mem_filter.mpr ⟨hw, ?_⟩))
    show (!goodWord w) = true
    cases hgw : goodWord w
    · rfl
    · exact absurd hgw g
theorem vx_c {args : Array Value} {s : State} {w : Cond} {B : List Cond} (h : w.before args s = true) (t : ∀ w ∈ B, w.before args s = true) : ∀ w' ∈ w :: B, w'.before args s = true := fun w' h' => (List.mem_cons.mp h').elim (fun e => by rw [e]; exact h) (t w')
theorem vx_n {args : Array Value} {s : State} : ∀ w ∈ ([] : List Cond), w.before args s = true := fun _ h => nomatch h
theorem vx_own {args : Array Value} {s : State} {L : List Cond} (h1 : ∀ w ∈ L.filter vx_no, w.before args s = true)
    (hU : (Cond.isRef (.static Bundle.tN "UNASSIGNED_STACK" Bundle.steD)).before args s = true) (hN : (Cond.isRef (.static Bundle.tN "SUPPRESSED_SENTINEL" Bundle.listD)).before args s = true)
    (lU : (Cond.laysStatic Bundle.tN "UNASSIGNED_STACK" Bundle.steD).before args s = true) (lN : (Cond.laysStatic Bundle.tN "SUPPRESSED_SENTINEL" Bundle.listD).before args s = true) : ∀ w ∈ L, w.before args s = true := by
  intro w hw
  by_cases e1 : w = .isRef (.static Bundle.tN "UNASSIGNED_STACK" Bundle.steD)
  · rw [e1]; exact hU
  · by_cases e2 : w = .isRef (.static Bundle.tN "SUPPRESSED_SENTINEL" Bundle.listD)
    · rw [e2]; exact hN
    · by_cases e3 : w = .laysStatic Bundle.tN "UNASSIGNED_STACK" Bundle.steD
      · rw [e3]; exact lU
      · by_cases e4 : w = .laysStatic Bundle.tN "SUPPRESSED_SENTINEL" Bundle.listD
        · rw [e4]; exact lN
        · exact h1 w (List.mem_filter.mpr ⟨hw, by unfold vx_no; rw [decide_eq_true e1, decide_eq_true e2, decide_eq_true e3, decide_eq_true e4]; rfl⟩)
/-- where a static field lies, its class's statics cell in H -/
def vx_L (C n d : String) (A : Nat → Prop) (U : State) (H : Heap) : Prop := ∃ (c : ClassId) (k : Class) (i : Nat) (f : Field) (a : Nat) (cell : Cell), U.vm.findClass C = some c ∧ U.fieldFound? C n d = some (c, k, i, f) ∧ f.isStatic = true ∧ k.statics = some a ∧ H[a]? = some cell ∧ cell.vm.isStatics = true ∧ cell.cls = c ∧ f.slot < cell.slots.size ∧ k.staticTypes[f.slot]? = some f.type ∧ ¬ A a
theorem vx_L.moved {C n d : String} {A : Nat → Prop} {u U : State} {H : Heap} (hvm : u.vm.Alike U.vm) (h : vx_L C n d A u H) : vx_L C n d A U H := by
  obtain ⟨c, k, i, f, a, cell, h1, h2, h3, h4, h5, h6, h7, h8, h9, h10⟩ := h
  obtain ⟨k', hi', he⟩ := State.fieldFound?_setVm hvm h2
  exact ⟨c, k', i, f, a, cell, by rw [hvm.findClass]; exact h1, hi', h3, by rw [he]; exact h4, h5, h6, h7, h8, by rw [he]; exact h9, h10⟩
theorem vx_L.kept {C n d : String} {A : Nat → Prop} {U : State} {H H1 : Heap} (h : vx_L C n d A U H) (hq : ∀ a : Nat, a < H.size → ¬ A a → H1[a]? = H[a]?) : vx_L C n d A U H1 := by
  obtain ⟨c, k, i, f, a, cell, h1, h2, h3, h4, h5, h6, h7, h8, h9, h10⟩ := h
  exact ⟨c, k, i, f, a, cell, h1, h2, h3, h4, by rw [hq a (Array.getElem?_eq_some_iff.mp h5).1 h10]; exact h5, h6, h7, h8, h9, h10⟩
theorem vx_L.narrow {C n d : String} {A B : Nat → Prop} {U : State} {H : Heap} (h : vx_L C n d A U H) (hAB : ∀ q, B q → A q) : vx_L C n d B U H := by
  obtain ⟨c, k, i, f, a, cell, h1, h2, h3, h4, h5, h6, h7, h8, h9, h10⟩ := h
  exact ⟨c, k, i, f, a, cell, h1, h2, h3, h4, h5, h6, h7, h8, h9, fun z => h10 (hAB _ z)⟩
theorem vx_L.word {C n d : String} {A : Nat → Prop} {s : State} {args : Array Value} (h : vx_L C n d A s s.heap) : (Cond.laysStatic C n d).before args s = true := by
  obtain ⟨c, k, i, f, a, cell, h1, h2, h3, h4, h5, h6, h7, h8, h9, -⟩ := h
  show (Cond.laysStatic C n d).holds args s none s [] = true
  exact Cond.laysStatic_of h1 h2 h3 h4 h5 h6 h7 h8 h9
/-- .. and what it holds: null or some reference -/
def vx_Zq (C n d : String) (A : Nat → Prop) (U : State) (H : Heap) : Prop := va_Zq C n d A U H ∧ vx_L C n d A U H
theorem vx_Zq.moved {C n d : String} {A : Nat → Prop} {u U : State} {H : Heap} (hvm : u.vm.Alike U.vm) (h : vx_Zq C n d A u H) : vx_Zq C n d A U H := ⟨va_Zq.moved hvm h.1, vx_L.moved hvm h.2⟩
theorem vx_Zq.kept {C n d : String} {A : Nat → Prop} {U : State} {H H1 : Heap} (h : vx_Zq C n d A U H) (hq : ∀ a : Nat, a < H.size → ¬ A a → H1[a]? = H[a]?) : vx_Zq C n d A U H1 := ⟨va_Zq.kept h.1 hq, vx_L.kept h.2 hq⟩
theorem vx_Zq.narrow {C n d : String} {A B : Nat → Prop} {U : State} {H : Heap} (h : vx_Zq C n d A U H) (hAB : ∀ q, B q → A q) : vx_Zq C n d B U H := ⟨va_Zq.narrow h.1 hAB, vx_L.narrow h.2 hAB⟩
theorem vx_Zqof {args : Array Value} {s : State} {C n d : String} {A : Nat → Prop} (hl : (Cond.laysStatic C n d).before args s = true) (hini : (Cond.initialized C).before args s = true) (h : (Cond.isRef (.static C n d)).before args s = true) (hA : ∀ a : Nat, a < s.heap.size → ¬ A a) : vx_Zq C n d A s s.heap := by
  refine ⟨va_Zqof hl hini h hA, ?_⟩
  obtain ⟨c, k, i, f, a, cell, h1, h2, h3, h4, h5, h6, h7, h8, h9⟩ := Cond.laysStatic_spec hl
  exact ⟨c, k, i, f, a, cell, h1, h2, h3, h4, h5, h6, h7, h8, h9, hA a (Array.getElem?_eq_some_iff.mp h5).1⟩
theorem vx_isRef {C n d : String} {v : Value} {A : Nat → Prop} {s : State} {args : Array Value} (h : va_Z C n d v A s s.heap) (hv : v.isRef = true) : (Cond.isRef (.static C n d)).before args s = true := by
  obtain ⟨cf, kf, fi, f, a, cell, h1, h2, h3, h4, h5, h6, h7, -⟩ := h
  have he : (Term.static C n d).eval args s none [] s = some v := by
    simp [Term.eval, State.fieldNamed?, h1, h2, h4, h5, h6, h7]
  simp only [Cond.before, Cond.holds, Cond.value, he]
  cases v <;> simp_all [Value.isRef]
theorem vx_isRefq {C n d : String} {A : Nat → Prop} {s : State} {args : Array Value} (h : va_Zq C n d A s s.heap) : (Cond.isRef (.static C n d)).before args s = true := by
  rcases h with h | ⟨t, h⟩
  · exact vx_isRef h rfl
  · exact vx_isRef h rfl
/-- the same frame, seen from here: as if the method were called anew in this heap -/
theorem vx_rebase {T : State} (X : Stand p l e R s m args below meth c T locs cells slots) {R' : Room} (hf : R'.frames ≤ R.frames) (hl : R'.locals ≤ R.locals) (hc : cells + R'.cells ≤ R.cells) (hs : slots + R'.slots ≤ R.slots) :
    Stand p l e R' ((T.setVm s.vm).setFrames (.invoking m args :: below)) m args below meth c T [] 0 0 := by
  have htop : (T.setVm s.vm).topJava?.isSome := X.here.top
  have hF : ((T.setVm s.vm).setFrames (.invoking m args :: below)).frames = .invoking m args :: below := State.frames_setFrames _ (State.cur_lt_of_top htop)
  obtain ⟨g₀, hg0⟩ := Option.isSome_iff_exists.mp htop
  obtain ⟨r, hr⟩ := State.topJava?_eq_some.mp hg0
  have hl9 : e.platform.stackLimits (T.setVm s.vm).me = e.platform.stackLimits s.me := X.limits
  have hb9 : (T.setVm s.vm).me.stackBytes = s.me.stackBytes := X.bytes
  refine ⟨X.admits, X.cas, X.clock, hF, ?_, X.hears, X.method, X.code, X.here, X.tail, X.warmed, ?_, ?_, ?_⟩
  · have h := X.room
    have hU : ((T.setVm s.vm).setFrames (.invoking m args :: below)).localsInUse = s.localsInUse := by
      rw [State.localsInUse_invoking hF (meth := meth) (c := c) X.method X.code, State.localsInUse_invoking X.frames X.method X.code]
    simp only [State.hasRoom, Bool.and_eq_true, decide_eq_true_eq] at h ⊢
    obtain ⟨⟨⟨⟨h1, h2, h3, h4, h5, h6⟩, h7⟩, h8⟩, h9⟩ := h
    rw [X.frames, List.length_cons] at h2 h3
    have q1 := X.heapSize
    have q2 := X.used
    simp only [hF, hU, List.length_cons, State.stackLimits_setFrames, State.stackBytes_setFrames, hl9, hb9]
    refine ⟨⟨⟨⟨by omega, by omega, by omega, by omega, by omega, h6⟩, ?_⟩, ?_⟩, X.book⟩
    · show T.heap.size + R'.cells ≤ e.platform.maxCells
      omega
    · show T.slotsUsed + R'.slots ≤ e.platform.maxSlots
      omega
  · rw [State.stackLimits_setFrames]; rfl
  · rw [State.stackBytes_setFrames]; rfl
  · refine ⟨?_, Nat.le_refl _, Nat.le_refl _, ?_, ?_, fun a c9 h9 => ⟨c9, h9, rfl, rfl, fun _ _ => rfl⟩⟩
    · obtain ⟨t, ht, -⟩ := State.frames_cons hr
      show T.setVm s.vm = { ((T.setVm s.vm).setFrames (.invoking m args :: below)).setFrames (T.setVm s.vm).frames with heap := T.heap, slotsUsed := T.slotsUsed }
      rw [State.setFrames_setFrames, State.setFrames_self ht]
      rfl
    · show T.slotsUsed = T.slotsUsed + ((T.heap.toList.drop T.heap.size).map (·.slots.size)).sum
      rw [List.drop_eq_nil_of_le (Nat.le_of_eq Array.length_toList)]
      rfl
    · show ((T.heap.toList.drop T.heap.size).map (·.slots.size)).sum ≤ 0
      rw [List.drop_eq_nil_of_le (Nat.le_of_eq Array.length_toList)]
      exact Nat.le_refl _
/-- 'throw new E()': new; dup; invokespecial; athrow -/
theorem vx_throw0 {cc : ByteArray} {pc : Nat} (hexec : p.tables.exec = Jvm.exec) (hb : c.code = cc) (hl : l.stackTraces = false) {own cls : String} {names : List String} {ik ic mc ms : Nat} {A : Nat → Prop}
    (hown : s.vm.findClass own = some m.cls) (hcls : Bundle.fit cls = true) (hnames : ∀ n ∈ names, Bundle.fit n = true)
    (hk : (Cond.classLink own ik cls).before args s = true) (hini : (Cond.initialized cls).before args s = true) (hat : ∀ w ∈ vx_at0 own ic cls names, w.before args s = true)
    (hgood : ∀ w ∈ Cond.classLink own ik cls :: Cond.initialized cls :: vx_at0 own ic cls names, vx_ot w = true)
    (hU : vx_Zq Bundle.tN "UNASSIGNED_STACK" Bundle.steD A s s.heap) (hN : vx_Zq Bundle.tN "SUPPRESSED_SENTINEL" Bundle.listD A s s.heap) (hS : va_S A s.heap H locs) (hsize : ls.size = c.maxLocals)
    (d0 : decode cc pc = .ok (.new ik, 3)) (d3 : decode cc (pc + 3) = .ok (.dup, 1)) (d4 : decode cc (pc + 4) = .ok (.invokespecial ic, 3)) (d7 : decode cc (pc + 7) = .ok (.athrow, 1))
    (hout : ∀ x ∈ c.exceptionTable.toList, covers x (pc + 7) = false)
    (hRframes : names.length + 3 < R.frames) (hRlocals : (rest.map fun v => v.category).sum + (13 * (names.length + 1) + 42) ≤ R.locals) (hRcells : cells + 1 ≤ R.cells) (hRslots : slots + 6 ≤ R.slots) (hlocks : meth.locks = false)
    (hx : ∀ t : State, s.vm.Alike t.vm → H.size ≤ t.heap.size → (∀ q : Nat, q < H.size → t.heap[q]? = H[q]?) → XC cls s t)
    (hf : ∀ z ∈ locs, free z.base) (hc : cells + 1 ≤ mc) (hs : slots + 6 ≤ ms) :
    W p l e R s m args below meth c H locs cells slots (vx_MQ below Qc XC args s mc ms free) (F0 m pc ls rest) := by
  intro T hT X
  have htr : e.platform.stackTraces = false := (show e.platform.stackTraces = l.stackTraces by rw [X.admits.platform]).trans hl
  have Y := vx_rebase X (R' := { frames := R.frames, locals := R.locals, cells := 1, slots := 6 }) (Nat.le_refl _) (Nat.le_refl _) hRcells hRslots
  obtain ⟨s', hA⟩ : ∃ z, z = (T.setVm s.vm).setFrames (.invoking m args :: below) := ⟨_, rfl⟩
  rw [← hA] at Y
  have hvm : s'.vm = s.vm := by rw [hA]; rfl
  have hhp : s'.heap = H := by rw [hA]; exact hT
  have hW0 : s.WarmedH s'.vm := by rw [hvm]; exact State.WarmedH.refl s
  have hat' : ∀ w ∈ vx_at0 own ic cls names, w.before args s' = true := fun w hw => vx_ot_at hW0 hvm.symm (hgood w (List.mem_cons_of_mem _ (List.mem_cons_of_mem _ hw))) (hat w hw)
  have hk' : (Cond.classLink own ik cls).before args s' = true := vx_ot_at hW0 hvm.symm (hgood _ List.mem_cons_self) hk
  have hini' : (Cond.initialized cls).before args s' = true := vx_ot_at hW0 hvm.symm (hgood _ (List.mem_cons_of_mem _ List.mem_cons_self)) hini
  have hU' : vx_Zq Bundle.tN "UNASSIGNED_STACK" Bundle.steD A s' s'.heap := by rw [hhp]; exact vx_Zq.moved hW0.alike (hU.kept hS.2.1)
  have hN' : vx_Zq Bundle.tN "SUPPRESSED_SENTINEL" Bundle.listD A s' s'.heap := by rw [hhp]; exact vx_Zq.moved hW0.alike (hN.kept hS.2.1)
  have h : ∀ w ∈ Bundle.ownAtoms0 own ic cls names, w.before args s' = true := vx_own hat' (vx_isRefq hU'.1) (vx_isRefq hN'.1) hU'.2.word hN'.2.word
  have hown' : s'.vm.findClass own = some m.cls := by rw [hvm]; exact hown
  have hins : (Cond.instantiable cls 6).before args s' = true := h _ (by simp [Bundle.ownAtoms0])
  obtain ⟨vm₁, cX, kX, hfX, hkX, -, -, X₁, st1⟩ := Y.newCold hexec (own := own) (C := cls) (index := ik) (n := 6) hown' hk' hins hini'
    (g := F0 m pc ls rest) rfl (by rw [hb]; exact d0) (Nat.le_refl _) (Nat.le_refl _)
  generalize hT1 : (T.setVm vm₁).pushCell { cls := cX, slots := kX.instanceTypes.map defaultValue, vm := .none } = T1 at X₁ st1
  have hcat : (Value.ref T.heap.size).category = 1 := rfl
  have hcellA : T1.heap[T.heap.size]? = some (freshCell cX kX) := by rw [← hT1]; exact State.heap_pushCell_size _ _
  have d3' : decode c.code (pc + 3) = .ok (.dup, 1) := by rw [hb]; exact d3
  obtain ⟨U, hsteps, hrun, hend, hW, hsame, ce, hce, hO⟩ := X₁.ctorThrow0 hexec htr (own := own) (cls := cls) (names := names) (ic := ic) hown' hcls hnames h (fun x hx => nomatch hx) hfX hkX hcellA (by rw [hhp, hT]; exact Nat.le_refl _)
    (g := { method := m, pc := pc + 4, locals := ls, stack := .ref T.heap.size :: .ref T.heap.size :: rest, locked := none }) rfl hsize rfl rfl (rest := rest) rfl
    (by rw [hb]; exact d4) (by rw [hb]; exact d7) hout hRframes (by simp only [List.map_cons, List.sum_cons, hcat]; omega) hlocks
  obtain ⟨f1, f2⟩ := vx_frame hsame
  rw [hhp] at f1 f2
  have hWs : s.WarmedH U.vm := State.WarmedH.trans hW0 hW
  have hcl : s.vm.findClass cls = some ce.cls := by
    have h9 := hO.cls
    rw [hvm] at h9
    exact h9
  have hall : s.sameButNew ({ U with vm := s.vm } : State) locs mc ms := by
    subst hA
    obtain ⟨e1, e2⟩ := hsame
    rw [State.setFrames_setFrames] at e1
    have h2 : (T.setVm s.vm).sameButNew ({ U with vm := s.vm } : State) [] (0 + 1) (0 + 6) := ⟨e1, e2⟩
    have h3 := X.same.trans h2
    rw [List.append_nil] at h3
    exact h3.mono hc hs
  refine ⟨U, ?_, .threw T.heap.size, hrun, hend, Or.inr ⟨T.heap.size, rfl, cls, ce, locs, hx U hWs.alike f1 (fun q hq => f2 q hq (fun z hz => nomatch hz)), hce, hO.vm, hcl, hWs, hall, hf⟩⟩
  refine st1 _ ?_
  show Steps p.tables e below (T1.setTop { method := m, pc := pc + 3, locals := ls, stack := .ref T.heap.size :: rest, locked := none }) _
  jvm_step X₁.here [X₁.here.top, hexec, d3', Value.category]
  exact hsteps
/-- 'throw new E("text")': new; dup; ldc; invokespecial; athrow -/
theorem vx_throwS {cc : ByteArray} {pc : Nat} (hexec : p.tables.exec = Jvm.exec) (hb : c.code = cc) (hl : l.stackTraces = false) {own cls text : String} {names : List String} {ik is ic mc ms sa : Nat} {A : Nat → Prop}
    (hown : s.vm.findClass own = some m.cls) (hcls : Bundle.fit cls = true) (hnames : ∀ n ∈ names, Bundle.fit n = true)
    (hk : (Cond.classLink own ik cls).before args s = true) (hini : (Cond.initialized cls).before args s = true) (hstr : vk_R own is text sa s) (hat : ∀ w ∈ vx_atS own ic cls names, w.before args s = true)
    (hgood : ∀ w ∈ Cond.classLink own ik cls :: Cond.initialized cls :: vx_atS own ic cls names, vx_ot w = true)
    (hU : vx_Zq Bundle.tN "UNASSIGNED_STACK" Bundle.steD A s s.heap) (hN : vx_Zq Bundle.tN "SUPPRESSED_SENTINEL" Bundle.listD A s s.heap) (hS : va_S A s.heap H locs) (hsize : ls.size = c.maxLocals)
    (d0 : decode cc pc = .ok (.new ik, 3)) (d3 : decode cc (pc + 3) = .ok (.dup, 1)) (d4 : decode cc (pc + 4) = .ok (.ldc is, 2)) (d6 : decode cc (pc + 6) = .ok (.invokespecial ic, 3)) (d9 : decode cc (pc + 9) = .ok (.athrow, 1))
    (hout : ∀ x ∈ c.exceptionTable.toList, covers x (pc + 9) = false)
    (hRframes : names.length + 3 < R.frames) (hRlocals : (rest.map fun v => v.category).sum + (13 * (names.length + 1) + 43) ≤ R.locals) (hRcells : cells + 1 ≤ R.cells) (hRslots : slots + 6 ≤ R.slots) (hlocks : meth.locks = false)
    (hx : ∀ t : State, s.vm.Alike t.vm → H.size ≤ t.heap.size → (∀ q : Nat, q < H.size → t.heap[q]? = H[q]?) → XC cls s t)
    (hf : ∀ z ∈ locs, free z.base) (hc : cells + 1 ≤ mc) (hs : slots + 6 ≤ ms) :
    W p l e R s m args below meth c H locs cells slots (vx_MQ below Qc XC args s mc ms free) (F0 m pc ls rest) := by
  intro T hT X
  have htr : e.platform.stackTraces = false := (show e.platform.stackTraces = l.stackTraces by rw [X.admits.platform]).trans hl
  have Y := vx_rebase X (R' := { frames := R.frames, locals := R.locals, cells := 1, slots := 6 }) (Nat.le_refl _) (Nat.le_refl _) hRcells hRslots
  obtain ⟨s', hA⟩ : ∃ z, z = (T.setVm s.vm).setFrames (.invoking m args :: below) := ⟨_, rfl⟩
  rw [← hA] at Y
  have hvm : s'.vm = s.vm := by rw [hA]; rfl
  have hhp : s'.heap = H := by rw [hA]; exact hT
  have hW0 : s.WarmedH s'.vm := by rw [hvm]; exact State.WarmedH.refl s
  have hat' : ∀ w ∈ vx_atS own ic cls names, w.before args s' = true := fun w hw => vx_ot_at hW0 hvm.symm (hgood w (List.mem_cons_of_mem _ (List.mem_cons_of_mem _ hw))) (hat w hw)
  have hk' : (Cond.classLink own ik cls).before args s' = true := vx_ot_at hW0 hvm.symm (hgood _ List.mem_cons_self) hk
  have hini' : (Cond.initialized cls).before args s' = true := vx_ot_at hW0 hvm.symm (hgood _ (List.mem_cons_of_mem _ List.mem_cons_self)) hini
  have hU' : vx_Zq Bundle.tN "UNASSIGNED_STACK" Bundle.steD A s' s'.heap := by rw [hhp]; exact vx_Zq.moved hW0.alike (hU.kept hS.2.1)
  have hN' : vx_Zq Bundle.tN "SUPPRESSED_SENTINEL" Bundle.listD A s' s'.heap := by rw [hhp]; exact vx_Zq.moved hW0.alike (hN.kept hS.2.1)
  have h : ∀ w ∈ Bundle.ownAtoms own ic cls names, w.before args s' = true := vx_own hat' (vx_isRefq hU'.1) (vx_isRefq hN'.1) hU'.2.word hN'.2.word
  have hown' : s'.vm.findClass own = some m.cls := by rw [hvm]; exact hown
  have hins : (Cond.instantiable cls 6).before args s' = true := h _ (by simp [Bundle.ownAtoms])
  obtain ⟨vm₁, cX, kX, hfX, hkX, -, -, X₁, st1⟩ := Y.newCold hexec (own := own) (C := cls) (index := ik) (n := 6) hown' hk' hins hini'
    (g := F0 m pc ls rest) rfl (by rw [hb]; exact d0) (Nat.le_refl _) (Nat.le_refl _)
  generalize hT1 : (T.setVm vm₁).pushCell { cls := cX, slots := kX.instanceTypes.map defaultValue, vm := .none } = T1 at X₁ st1
  have hcat : (Value.ref T.heap.size).category = 1 := rfl
  have hcellA : T1.heap[T.heap.size]? = some (freshCell cX kX) := by rw [← hT1]; exact State.heap_pushCell_size _ _
  have d3' : decode c.code (pc + 3) = .ok (.dup, 1) := by rw [hb]; exact d3
  have d4' : decode c.code (pc + 4) = .ok (.ldc is, 2) := by rw [hb]; exact d4
  have hstr' : vk_R own is text sa s' := vk_R.warm hW0 hstr
  obtain ⟨U, hsteps, hrun, hend, hW, hsame, ce, hce, hO⟩ := X₁.ctorThrowS hexec htr (own := own) (cls := cls) (names := names) (ic := ic) hown' hcls hnames h (fun x hx => nomatch hx) hfX hkX hcellA (by rw [hhp, hT]; exact Nat.le_refl _) (msg := .ref sa) rfl
    (g := { method := m, pc := pc + 6, locals := ls, stack := .ref sa :: .ref T.heap.size :: .ref T.heap.size :: rest, locked := none }) rfl hsize rfl rfl (rest := rest) rfl
    (by rw [hb]; exact d6) (by rw [hb]; exact d9) hout hRframes (by simp only [List.map_cons, List.sum_cons, hcat]; omega) hlocks
  obtain ⟨f1, f2⟩ := vx_frame hsame
  rw [hhp] at f1 f2
  have hWs : s.WarmedH U.vm := State.WarmedH.trans hW0 hW
  have hcl : s.vm.findClass cls = some ce.cls := by
    have h9 := hO.cls
    rw [hvm] at h9
    exact h9
  have hall : s.sameButNew ({ U with vm := s.vm } : State) locs mc ms := by
    subst hA
    obtain ⟨e1, e2⟩ := hsame
    rw [State.setFrames_setFrames] at e1
    have h2 : (T.setVm s.vm).sameButNew ({ U with vm := s.vm } : State) [] (0 + 1) (0 + 6) := ⟨e1, e2⟩
    have h3 := X.same.trans h2
    rw [List.append_nil] at h3
    exact h3.mono hc hs
  refine ⟨U, ?_, .threw T.heap.size, hrun, hend, Or.inr ⟨T.heap.size, rfl, cls, ce, locs, hx U hWs.alike f1 (fun q hq => f2 q hq (fun z hz => nomatch hz)), hce, hO.vm, hcl, hWs, hall, hf⟩⟩
  refine st1 _ ?_
  show Steps p.tables e below (T1.setTop { method := m, pc := pc + 3, locals := ls, stack := .ref T.heap.size :: rest, locked := none }) _
  jvm_step X₁.here [X₁.here.top, hexec, d3', Value.category]
  exact X₁.ldcString hexec (own := own) (text := text) (index := is) (a := sa) hown' hstr'.1 hstr'.2
    (g := { method := m, pc := pc + 4, locals := ls, stack := .ref T.heap.size :: .ref T.heap.size :: rest, locked := none }) rfl d4' _ hsteps
/-- 'throw new E("text")', the text by a wide index -/
theorem vx_throwSW {cc : ByteArray} {pc : Nat} (hexec : p.tables.exec = Jvm.exec) (hb : c.code = cc) (hl : l.stackTraces = false) {own cls text : String} {names : List String} {ik is ic mc ms sa : Nat} {A : Nat → Prop}
    (hown : s.vm.findClass own = some m.cls) (hcls : Bundle.fit cls = true) (hnames : ∀ n ∈ names, Bundle.fit n = true)
    (hk : (Cond.classLink own ik cls).before args s = true) (hini : (Cond.initialized cls).before args s = true) (hstr : vk_R own is text sa s) (hat : ∀ w ∈ vx_atS own ic cls names, w.before args s = true)
    (hgood : ∀ w ∈ Cond.classLink own ik cls :: Cond.initialized cls :: vx_atS own ic cls names, vx_ot w = true)
    (hU : vx_Zq Bundle.tN "UNASSIGNED_STACK" Bundle.steD A s s.heap) (hN : vx_Zq Bundle.tN "SUPPRESSED_SENTINEL" Bundle.listD A s s.heap) (hS : va_S A s.heap H locs) (hsize : ls.size = c.maxLocals)
    (d0 : decode cc pc = .ok (.new ik, 3)) (d3 : decode cc (pc + 3) = .ok (.dup, 1)) (d4 : decode cc (pc + 4) = .ok (.ldc_w is, 3)) (d7 : decode cc (pc + 7) = .ok (.invokespecial ic, 3)) (d10 : decode cc (pc + 10) = .ok (.athrow, 1))
    (hout : ∀ x ∈ c.exceptionTable.toList, covers x (pc + 10) = false)
    (hRframes : names.length + 3 < R.frames) (hRlocals : (rest.map fun v => v.category).sum + (13 * (names.length + 1) + 43) ≤ R.locals) (hRcells : cells + 1 ≤ R.cells) (hRslots : slots + 6 ≤ R.slots) (hlocks : meth.locks = false)
    (hx : ∀ t : State, s.vm.Alike t.vm → H.size ≤ t.heap.size → (∀ q : Nat, q < H.size → t.heap[q]? = H[q]?) → XC cls s t)
    (hf : ∀ z ∈ locs, free z.base) (hc : cells + 1 ≤ mc) (hs : slots + 6 ≤ ms) :
    W p l e R s m args below meth c H locs cells slots (vx_MQ below Qc XC args s mc ms free) (F0 m pc ls rest) := by
  intro T hT X
  have htr : e.platform.stackTraces = false := (show e.platform.stackTraces = l.stackTraces by rw [X.admits.platform]).trans hl
  have Y := vx_rebase X (R' := { frames := R.frames, locals := R.locals, cells := 1, slots := 6 }) (Nat.le_refl _) (Nat.le_refl _) hRcells hRslots
  obtain ⟨s', hA⟩ : ∃ z, z = (T.setVm s.vm).setFrames (.invoking m args :: below) := ⟨_, rfl⟩
  rw [← hA] at Y
  have hvm : s'.vm = s.vm := by rw [hA]; rfl
  have hhp : s'.heap = H := by rw [hA]; exact hT
  have hW0 : s.WarmedH s'.vm := by rw [hvm]; exact State.WarmedH.refl s
  have hat' : ∀ w ∈ vx_atS own ic cls names, w.before args s' = true := fun w hw => vx_ot_at hW0 hvm.symm (hgood w (List.mem_cons_of_mem _ (List.mem_cons_of_mem _ hw))) (hat w hw)
  have hk' : (Cond.classLink own ik cls).before args s' = true := vx_ot_at hW0 hvm.symm (hgood _ List.mem_cons_self) hk
  have hini' : (Cond.initialized cls).before args s' = true := vx_ot_at hW0 hvm.symm (hgood _ (List.mem_cons_of_mem _ List.mem_cons_self)) hini
  have hU' : vx_Zq Bundle.tN "UNASSIGNED_STACK" Bundle.steD A s' s'.heap := by rw [hhp]; exact vx_Zq.moved hW0.alike (hU.kept hS.2.1)
  have hN' : vx_Zq Bundle.tN "SUPPRESSED_SENTINEL" Bundle.listD A s' s'.heap := by rw [hhp]; exact vx_Zq.moved hW0.alike (hN.kept hS.2.1)
  have h : ∀ w ∈ Bundle.ownAtoms own ic cls names, w.before args s' = true := vx_own hat' (vx_isRefq hU'.1) (vx_isRefq hN'.1) hU'.2.word hN'.2.word
  have hown' : s'.vm.findClass own = some m.cls := by rw [hvm]; exact hown
  have hins : (Cond.instantiable cls 6).before args s' = true := h _ (by simp [Bundle.ownAtoms])
  obtain ⟨vm₁, cX, kX, hfX, hkX, -, -, X₁, st1⟩ := Y.newCold hexec (own := own) (C := cls) (index := ik) (n := 6) hown' hk' hins hini'
    (g := F0 m pc ls rest) rfl (by rw [hb]; exact d0) (Nat.le_refl _) (Nat.le_refl _)
  generalize hT1 : (T.setVm vm₁).pushCell { cls := cX, slots := kX.instanceTypes.map defaultValue, vm := .none } = T1 at X₁ st1
  have hcat : (Value.ref T.heap.size).category = 1 := rfl
  have hcellA : T1.heap[T.heap.size]? = some (freshCell cX kX) := by rw [← hT1]; exact State.heap_pushCell_size _ _
  have d3' : decode c.code (pc + 3) = .ok (.dup, 1) := by rw [hb]; exact d3
  have d4' : decode c.code (pc + 4) = .ok (.ldc_w is, 3) := by rw [hb]; exact d4
  have hstr' : vk_R own is text sa s' := vk_R.warm hW0 hstr
  obtain ⟨U, hsteps, hrun, hend, hW, hsame, ce, hce, hO⟩ := X₁.ctorThrowS hexec htr (own := own) (cls := cls) (names := names) (ic := ic) hown' hcls hnames h (fun x hx => nomatch hx) hfX hkX hcellA (by rw [hhp, hT]; exact Nat.le_refl _) (msg := .ref sa) rfl
    (g := { method := m, pc := pc + 7, locals := ls, stack := .ref sa :: .ref T.heap.size :: .ref T.heap.size :: rest, locked := none }) rfl hsize rfl rfl (rest := rest) rfl
    (by rw [hb]; exact d7) (by rw [hb]; exact d10) hout hRframes (by simp only [List.map_cons, List.sum_cons, hcat]; omega) hlocks
  obtain ⟨f1, f2⟩ := vx_frame hsame
  rw [hhp] at f1 f2
  have hWs : s.WarmedH U.vm := State.WarmedH.trans hW0 hW
  have hcl : s.vm.findClass cls = some ce.cls := by
    have h9 := hO.cls
    rw [hvm] at h9
    exact h9
  have hall : s.sameButNew ({ U with vm := s.vm } : State) locs mc ms := by
    subst hA
    obtain ⟨e1, e2⟩ := hsame
    rw [State.setFrames_setFrames] at e1
    have h2 : (T.setVm s.vm).sameButNew ({ U with vm := s.vm } : State) [] (0 + 1) (0 + 6) := ⟨e1, e2⟩
    have h3 := X.same.trans h2
    rw [List.append_nil] at h3
    exact h3.mono hc hs
  refine ⟨U, ?_, .threw T.heap.size, hrun, hend, Or.inr ⟨T.heap.size, rfl, cls, ce, locs, hx U hWs.alike f1 (fun q hq => f2 q hq (fun z hz => nomatch hz)), hce, hO.vm, hcl, hWs, hall, hf⟩⟩
  refine st1 _ ?_
  show Steps p.tables e below (T1.setTop { method := m, pc := pc + 3, locals := ls, stack := .ref T.heap.size :: rest, locked := none }) _
  jvm_step X₁.here [X₁.here.top, hexec, d3', Value.category]
  exact X₁.ldcStringW hexec (own := own) (text := text) (index := is) (a := sa) hown' hstr'.1 hstr'.2
    (g := { method := m, pc := pc + 4, locals := ls, stack := .ref T.heap.size :: .ref T.heap.size :: rest, locked := none }) rfl d4' _ hsteps
end Ends
section Bodies
variable {l : Launch}
theorem vx_ofW {y : MethodName} {ws ws' : List Cond} {rm : Room} {Pc : Array Value → State → Prop} {Qc : Array Value → State → Outcome → State → Prop} {XC : String → State → State → Prop} {mc ms : Nat} {free : Addr → Prop} {cc : ByteArray} {maxL : Nat} {ret : Option FieldType}
    (hy : plainName y.cls = true) (hw : ws = Cond.code y cc maxL ret :: ws')
    (body : ∀ p e s m args below meth c s₁, BodyLoose p l y (headSpec ws rm) cc maxL ret e s m args below meth c s₁ → c.maxLocals = maxL → (∀ x ∈ c.exceptionTable.toList, False) → Pc args s →
      W p l e (headSpec ws rm).room s m args below meth c s.heap [] 0 0 (vx_MQ below Qc XC args s mc ms free) (entryFrame m args maxL)) : vx_Met l y ws rm Pc Qc XC mc ms free := by
  refine MetFree.of_bodyS (code := cc) (maxLocals := maxL) (ret := ret) hy ?_ ?_
  · intro args s m h hn
    obtain ⟨meth, c, h1, h2, h3, h4, h5, h6, -, -⟩ := Cond.code_spec hn (atoms_spec (ws := ws) h _ (by rw [hw]; exact List.mem_cons_self))
    exact ⟨meth, c, h1, h2, h3, h4, h5, h6⟩
  · intro p e s m args below meth c s₁ B hml hP _
    have hh0 : s₁.heap = s.heap := by rw [B.state]; rfl
    have ht : ∀ x ∈ c.exceptionTable.toList, False := by
      obtain ⟨meth9, c9, h1, h2, -, -, -, -, h7, -⟩ := Cond.code_spec B.named (atoms_spec (ws := ws) B.pre _ (by rw [hw]; exact List.mem_cons_self))
      cases Option.some.inj (h1.symm.trans B.method)
      cases Option.some.inj (h2.symm.trans (Stand.of_body B).code)
      intro x hx
      rw [Array.isEmpty_iff.mp h7] at hx
      cases hx
    obtain ⟨t, a1, o, b1, b2, b3⟩ := body p e s m args below meth c s₁ B hml ht hP s₁ hh0 (Stand.of_body B)
    exact ⟨t, o, a1, b1, b2, b3⟩
/-- the table of a body with handlers -/
theorem vx_table {p : Program} {x y : MethodName} {S : Spec} {cc bytes : ByteArray} {maxL maxL' : Nat} {ret ret' : Option FieldType} {e : Env} {s s₁ : State} {m : MethodId} {args : Array Value} {below : List Frame} {meth : Method} {c : Code} {hh : List (Nat × Nat × Nat × Nat)}
    (B : BodyLoose p l y S cc maxL ret e s m args below meth c s₁) (h : (Cond.codeWith y bytes maxL' ret' hh).before args s = true) : c.exceptionTable.toList = tableOf hh := by
  obtain ⟨m9, meth9, c9, hn9, h1, h2, -, -, h6, -⟩ := Cond.codeWith_spec h
  cases Option.some.inj (hn9.symm.trans B.named)
  cases Option.some.inj (h1.symm.trans B.method)
  cases Option.some.inj (h2.symm.trans (Stand.of_body B).code)
  rw [← h6, table_eq]
end Bodies
end VXA
/-! ===== END ===== -/
/-! ===== BEGIN a static call of a method with an exception table ===== -/
section VXS
variable {p : Program} {l : Launch} {e : Env} {R : Room} {s : State} {m : MethodId} {args : Array Value} {below : List Frame} {meth : Method} {c : Code} {T : State} {H : Heap} {locs : List Loc} {cells slots : Nat}
abbrev vx_CSW (R : Room) (s : State) (args : Array Value) (own : String) (index : Nat) (y : MethodName) (bytes : ByteArray) (maxL : Nat) (ret : Option FieldType) (hh : List (Nat × Nat × Nat × Nat)) (ws : List Cond) (rm : Room) (mc ms n : Nat) : Prop :=
  (rm.cells = mc ∧ rm.slots = ms ∧ rm.frames + 1 ≤ R.frames ∧ 8 + (maxL + 11) + rm.locals ≤ R.locals ∧ (∀ w ∈ ws, ∀ (a' : Array Value) (U : State), s.WarmedH U.vm → w.before a' U = true) ∧ Cond.codeWith y bytes maxL ret hh ∈ ws) ∧
  (Cond.codeWith y bytes maxL ret hh).before args s = true ∧ (Cond.initialized y.cls).before args s = true ∧ (y.cls ≠ "java/lang/invoke/MethodHandle" ∧ y.cls ≠ "java/lang/invoke/VarHandle") ∧
  (∀ sig, parseMethodDescriptor y.desc = some sig → n = sig.parameters.length) ∧ (Cond.methodLink own index y).before args s = true ∧ (Cond.static y).before args s = true
theorem vx_cwSW {own : String} {index maxL mc ms : Nat} {y : MethodName} {bytes : ByteArray} {ret : Option FieldType} {hh : List (Nat × Nat × Nat × Nat)} {Ts ws ws' : List Cond} {rm : Room} (n : Nat) (ht : ∀ w ∈ Ts, w.before args s = true) (hT : GoodIn Ts (va_wsS own index y ws)) (hw : ws = Cond.codeWith y bytes maxL ret hh :: ws') (hrc : rm.cells = mc) (hrs : rm.slots = ms)
    (hd : y.cls ≠ "java/lang/invoke/MethodHandle" ∧ y.cls ≠ "java/lang/invoke/VarHandle" ∧ (parseMethodDescriptor y.desc).map (fun d => d.parameters.length) = some n) (hR : rm.frames + 1 ≤ R.frames ∧ 8 + (maxL + 11) + rm.locals ≤ R.locals) :
    vx_CSW R s args own index y bytes maxL ret hh ws rm mc ms n := by
  have ok : ∀ w ∈ va_wsS own index y ws, w.before args s = true := fun w h => ht w (hT w h).1
  have hG : GoodIn Ts ws := fun w h => hT w (by unfold va_wsS; exact List.mem_append_right _ h)
  have hc : Cond.codeWith y bytes maxL ret hh ∈ ws := by rw [hw]; exact List.mem_cons_self
  refine ⟨⟨hrc, hrs, hR.1, hR.2, pay_in ht hG, hc⟩, ht _ (hG _ hc).1, ok _ (by simp [va_wsS]), ⟨hd.1, hd.2.1⟩, fun sig h => ?_, ok _ (by simp [va_wsS]), ok _ (by simp [va_wsS])⟩
  have h2 := hd.2.2
  rw [h] at h2
  exact (Option.some.inj h2).symm
theorem vx_callSW (X : Stand p l e R s m args below meth c T locs cells slots) (hexec : p.tables.exec = Jvm.exec) {own : String} {index : Nat} {y : MethodName} {bytes : ByteArray} {maxL : Nat} {ret : Option FieldType} {hh : List (Nat × Nat × Nat × Nat)}
    (hown : s.vm.findClass own = some m.cls) (hlink : (Cond.methodLink own index y).before args s = true) (hstat : (Cond.static y).before args s = true) (hinit : (Cond.initialized y.cls).before args s = true)
    (hcode : (Cond.codeWith y bytes maxL ret hh).before args s = true) (hy : y.cls ≠ "java/lang/invoke/MethodHandle" ∧ y.cls ≠ "java/lang/invoke/VarHandle")
    {W9 : Nat} {Pre : Pt → Array Value → Prop} {Post : Pt → Array Value → Option Value → Pt → Prop} (hK : Back l R p e below s args y 3 W9 Pre Post)
    {g : JFrame} (hg : g.method = m) (hsize : g.locals.size = c.maxLocals) {argsL rest : List Value} (hlen : ∀ sig, parseMethodDescriptor y.desc = some sig → argsL.length = sig.parameters.length)
    (hstack : g.stack = argsL.reverse ++ rest) (hW : 2 * g.monitorRoom + (rest.map fun v => v.category).sum ≤ W9) (hdg : decode c.code g.pc = .ok (.invokestatic index, 3))
    (hpre : ∀ vm₁, s.WarmedH vm₁ → Pre ⟨T.setVm vm₁, locs, cells, slots⟩ argsL.toArray) :
    ∃ (v : Option Value) (vm₁ : Vm) (B : Pt), s.WarmedH vm₁ ∧ Stand p l e R s m args below meth c B.U B.locs B.cells B.slots ∧ Post ⟨T.setVm vm₁, locs, cells, slots⟩ argsL.toArray v B ∧
      ∀ target, Steps p.tables e below (B.U.setTop { g with pc := g.pc + 3, stack := v.toList ++ rest }) target → Steps p.tables e below (T.setTop g) target := by
  obtain ⟨mk, methM, cM, hnamed, hmethM, -, -, -, -, -, -, hsigM⟩ := Cond.codeWith_spec hcode
  have hstatic : methM.isStatic = true := Cond.static_spec hnamed hmethM hstat
  obtain ⟨kP, hkP, -⟩ := className_of_methodNamed hnamed
  have hinitP : kP.init = .initialized := Cond.initialized_spec (findClass_of_methodNamed hnamed) hkP hinit
  obtain ⟨vm₁, X₁, hstep₁⟩ := X.invokestatic hexec hown hlink hnamed hmethM hstatic hkP hinitP hy (g := g) hg (argsL := argsL) (rest := rest) (hlen _ hsigM) hstack hdg
  obtain ⟨v, B, X', hpost, hsteps⟩ := hK m meth c ⟨T.setVm vm₁, locs, cells, slots⟩ { g with stack := rest } (.invokestatic index) mk argsL.toArray X₁ hg hsize hdg hW (X₁.named hnamed) (hpre vm₁ X₁.warmed)
  exact ⟨v, vm₁, B, X₁.warmed, X', hpost, fun target h => hstep₁ _ fun acts => by rw [doInvoke_state]; exact hsteps.trans h⟩
theorem vx_runSW {y : MethodName} {bytes cc : ByteArray} {maxL nL mc ms n index : Nat} {ret : Option FieldType} {hh : List (Nat × Nat × Nat × Nat)} {ws : List Cond} {rm : Room} {Pc : Array Value → State → Prop} {Qc : Array Value → State → Outcome → State → Prop} {free : Addr → Prop} {Ts : List Cond} {own : String} {As rest : List Value} {g : JFrame}
    (S : CallFix p m c cc nL s args Ts own) (hM : Met l y ws rm Pc Qc mc ms free) (cw : vx_CSW R s args own index y bytes maxL ret hh ws rm mc ms n) (hp : PreS s H Pc As)
    (hg : g.method = m) (hn : As.length = n) (hsize : g.locals.size = nL) (hstack : g.stack = As.reverse ++ rest) (hW : 2 * g.monitorRoom + (rest.map fun v => v.category).sum ≤ 8) (hdg : decode cc g.pc = .ok (.invokestatic index, 3)) (hf : cells + mc ≤ R.cells ∧ slots + ms ≤ R.slots) :
    va_Run p l e R s m args below meth c H locs cells slots mc ms g rest (Qc As.toArray) (free) := by
  obtain ⟨⟨hrc, hrs, hfr, hlo, hws, hcw⟩, hcode, hini, hy, hlen, hl, hstt⟩ := cw
  have hK : Back l R p e below s args y 3 8 (PreOf R mc ms Pc) (PostOf Qc mc ms free) := va_backW (hh := hh) (bytes := bytes) (maxL := maxL) (ret := ret) hM hp.1 hrc hrs hfr hlo hws hcw (fun a' U hW => word_at hW (Or.inl (by first | rfl | simp [Cond.onTables, Cond.keeps, Cond.steady])) hini)
  obtain ⟨hx, hb, hml, ho, -⟩ := S
  intro T hT X
  obtain ⟨v, vm₁, ⟨U', l2, c2, s2⟩, hW₁, X', ⟨g', mk, t, L, e1, e2, hq, h1, hL, h2, h3⟩, st⟩ := vx_callSW X hx (hh := hh) (bytes := bytes) (maxL := maxL) (ret := ret) ho hl hstt hini hcode hy hK hg (hsize.trans hml.symm) (argsL := As) (rest := rest) (fun sig h => hn.trans (hlen sig h)) hstack hW (by rw [hb]; exact hdg)
    (fun vm₁ hW₁ => ⟨hf.1, hf.2, hp.2 (T.setVm vm₁) hT hW₁⟩)
  dsimp only [Pt.U, Pt.locs, Pt.cells, Pt.slots] at X' e1 e2 h1 h2 h3 st
  subst h1; subst h2; subst h3
  exact ⟨v, (T.setVm vm₁).calling g' mk As.toArray, t, U', L, hT, X', hL, e1, e2, hq, st⟩
/-- not caught here, past rows that name other classes: it goes on to the caller -/
theorem vx_outP {p : Program} {l : Launch} {e : Env} {R : Room} {s : State} {m : MethodId} {args : Array Value} {below : List Frame} {meth : Method} {c : Code} {H : Heap} {locs : List Loc} {cells slots : Nat} {free : Addr → Prop} {ls : Array Slot} {rest : List Value} {Qc : Array Value → State → Outcome → State → Prop} {XC : String → State → State → Prop}
    {pc : Nat} {own E : String} {ce : Cell} {q : Addr} {mc ms : Nat} (hown : s.vm.findClass own = some m.cls) (hlocks : meth.locks = false)
    (hpass : ∀ z ∈ c.exceptionTable.toList, covers z pc = false ∨ (z.catchType ≠ 0 ∧ ∃ nm : String, (Cond.classLink own z.catchType nm).before args s = true ∧ va_Nc E nm s)) (hcell : H[q]? = some ce) (hv : ce.vm = .none) (hcl : s.vm.findClass E = some ce.cls)
    (hx : ∀ t : State, t.heap = H → s.vm.Alike t.vm → XC E s t) (hf : ∀ z ∈ locs, free z.base) (hc : cells ≤ mc) (hs : slots ≤ ms) :
    vx_W p l e R s m args below meth c H locs cells slots (vx_MQ below Qc XC args s mc ms free) (F0 m pc ls rest) q := by
  intro T hT X
  have hpl : e.platform.magicAccessors = ({} : Platform).magicAccessors := by rw [X.admits.platform]
  obtain ⟨vm', hW', X', st⟩ := X.outThrough hlocks q (g := F0 m pc ls rest) rfl rfl rfl (cell := ce) (by rw [hT]; exact hcell) (by rw [hv]; rfl)
    (by obtain ⟨k9, h9, -⟩ := Vm.findClass_spec hcl; exact ⟨k9, h9⟩) (fun z hz => by
      rcases hpass z hz with h | ⟨hz0, nm, hl1, hn1⟩
      · exact Or.inl h
      · obtain ⟨c6, hc6, hcl6⟩ := Cond.classLink_spec hown hl1 e.platform hpl
        obtain ⟨a8, b8, h1, h2, h3⟩ := hn1
        cases Option.some.inj (h1.symm.trans hcl)
        cases Option.some.inj (h2.symm.trans hc6)
        exact Or.inr ⟨hz0, _, hcl6, h3⟩)
  obtain ⟨g₀, hfr⟩ := X'.frames_eq
  have hcell9 : ((T.setVm vm').setFrames (.throwing q :: below)).heap[q]? = some ce := by
    show T.heap[q]? = some ce
    rw [hT]; exact hcell
  have hend : Ended ((T.setVm vm').setFrames (.throwing q :: below)) below (.threw q) := State.frames_setFrames _ (State.cur_lt_of_frames hfr)
  refine ⟨(T.setVm vm').setFrames (.throwing q :: below), ?_, .threw q, X'.here.running, hend, Or.inr ⟨q, rfl, E, ce, locs, hx _ hT (X'.ends _).1.alike, hcell9, hv, hcl, (X'.ends _).1, (X'.ends _).2.mono hc hs, hf⟩⟩
  rw [X.pushThrowing_eq]
  exact st
/-- a thing of a world lies in the heap -/
theorem vx_lt {D : va_G} {cl : List vw_C} {ws : va_W} {H1 : Heap} (h : va_P D cl ws H1) {k : Nat} {q : Nat × va_E} (hk : ws[k]? = some q) : q.1 < H1.size := (h k q hk).lt
end VXS
/-! ===== END ===== -/
/-! ===== BEGIN methods with a table of their own: called by a name, returning or throwing ===== -/
section VXH
/-! vx_backW, vx_callVX, vx_callSX, vx_callVW, vx_runVW, vx_runVX, vx_runSX, vx_ofWH follow the same proofs as their sisters above (Free/Laws.lean, Shelf42/LK1.lean); vx_outP calls Shelf42/NT130.lean (outThrough). -/
section
variable {l : Launch} {R : Room} {p : Program} {e : Env} {below : List Frame} {s : State} {sargs : Array Value} {y : MethodName} {len W9 : Nat}
theorem vx_backW {ws : List Cond} {rm : Room} {Pc : Array Value → State → Prop} {Qc : Array Value → State → Outcome → State → Prop} {XC : String → State → State → Prop} {mc ms : Nat} {free : Addr → Prop} {bytes : ByteArray} {maxL : Nat} {ret : Option FieldType} {hh : List (Nat × Nat × Nat × Nat)}
    (hM : vx_Met l y ws rm Pc Qc XC mc ms free) (hblind : FrameBlind Pc) (hrc : rm.cells = mc) (hrs : rm.slots = ms)
    (hframes : rm.frames + 1 ≤ R.frames) (hlocals : W9 + (maxL + 11) + rm.locals ≤ R.locals)
    (hws : ∀ w ∈ ws, ∀ a' U, s.WarmedH U.vm → w.before a' U = true) (hcode : Cond.codeWith y bytes maxL ret hh ∈ ws) (hinit : ∀ a' U, s.WarmedH U.vm → (Cond.initialized y.cls).before a' U = true) :
    vx_Back l R p e below s sargs y len W9 (PreOf R mc ms Pc) (PostOf Qc mc ms free) (vx_Post XC mc ms free) := by
  intro m meth c A g ig mk a X hg hsize hdg hW hn hp
  have h1 : (headSpec ws rm).pre.before a A.U = true := atoms_intro fun w hw => hws w hw _ _ X.warmed
  have h2 : (Cond.codeWith y bytes maxL ret hh).before a A.U = true := hws _ hcode _ _ X.warmed
  have h3 : (Cond.initialized y.cls).before a A.U = true := hinit _ _ X.warmed
  have h4 : A.cells + (headSpec ws rm).room.cells ≤ R.cells := by rw [show (headSpec ws rm).room.cells = mc from hrc]; exact hp.1
  have h5 : A.slots + (headSpec ws rm).room.slots ≤ R.slots := by rw [show (headSpec ws rm).room.slots = ms from hrs]; exact hp.2.1
  have hPc : Pc a (A.U.calling g mk a) := hblind _ _ _ _ hp.2.2
  obtain ⟨U, Ls, c0, s0⟩ := A
  dsimp only [Pt.U, Pt.locs, Pt.cells, Pt.slots] at h1 h2 h3 h4 h5 X hn hPc ⊢
  obtain ⟨m9, methY, cY, hn9, hmY, hcY, -, hlY, -⟩ := Cond.codeWith_spec h2
  cases Option.some.inj (hn9.symm.trans hn)
  obtain ⟨kY, hkY, -⟩ := className_of_methodNamed hn
  have hinitY : kY.init = .initialized := Cond.initialized_spec (findClass_of_methodNamed hn) hkY h3
  have h : At U g.method c below := by rw [hg]; exact X.here
  have hlocals9 : W9 + (maxL + 11) + (headSpec ws rm).room.locals ≤ R.locals := hlocals
  have happ : (headSpec ws rm).appliesLoose y e.platform (U.calling g mk a) = true :=
    Spec.appliesLoose_calling (g := g) h hdg hn hkY hinitY
      (X.room_calling (g := g) (R' := (headSpec ws rm).room) hsize hmY hcY hframes (by rw [hlY]; omega) h4 h5) h1
  obtain ⟨mid, hmid⟩ := h.above
  have hfr : (U.setTop g).frames = (.java g :: mid) ++ below := by rw [State.frames_setTop' g h.top, hmid]; rfl
  obtain ⟨o, s₂, hsteps, -, hend, hq⟩ := Steps.callFree hM p X.admits X.cas X.clock (acts := []) hfr happ hPc trivial
  have hq' : vx_Q Qc XC mc ms free a (U.calling g mk a) o s₂ := hq
  rw [State.frames_setTop' g h.top] at hend
  obtain ⟨g₀, hg0⟩ := Option.isSome_iff_exists.mp h.top
  obtain ⟨r, hr⟩ := State.topJava?_eq_some.mp hg0
  have hr' : (({ U with heap := s₂.heap, slotsUsed := s₂.slotsUsed } : State).setVm s₂.vm).frames = .java g₀ :: r := hr
  rcases hq' with ⟨hqc, L, hfe, hL⟩ | ⟨q, rfl, E, ce, L, hx, hce, hcv, hcl, hW₂, hsm, hL⟩
  · obtain ⟨⟨v, rfl⟩, hW₂, e2, q2, q3, q4, q5, q6⟩ := id hfe
    have e3 : s₂ = ({ (U.calling g mk a).setFrames s₂.frames with heap := s₂.heap, slotsUsed := s₂.slotsUsed } : State).setVm s₂.vm := by
      have : s₂ = ({ s₂ with vm := (U.calling g mk a).vm } : State).setVm s₂.vm := rfl
      rw [e2] at this
      exact this
    obtain ⟨c₂, i₂, len₂, hc₂, hd₂, hf₂⟩ := hend
    have hW' : U.WarmedH s₂.vm := hW₂
    have hcc : c₂ = c := by
      have h1 : s₂.code? g.method = U.code? g.method := by
        rw [State.code?_eq, State.code?_eq, hW'.alike.method?]
      exact Option.some.inj (hc₂.symm.trans (h1.trans h.code))
    subst hcc
    have hlen : len₂ = len := by rw [hdg] at hd₂; cases hd₂; rfl
    subst hlen
    have hs₂ : s₂ = (({ U with heap := s₂.heap, slotsUsed := s₂.slotsUsed } : State).setVm s₂.vm).setTop { g with pc := g.pc + len₂, stack := v.toList ++ g.stack } := by
      refine e3.trans ?_
      rw [hf₂, State.calling_eq h.top, State.setFrames_setFrames, State.setTop_of_frames _ hr', hr]
      rfl
    have hsame : U.sameButNew ({ U with heap := s₂.heap, slotsUsed := s₂.slotsUsed } : State) L mc ms := by
      refine ⟨?_, q2, q3, q4, q5, q6⟩
      obtain ⟨t, ht, -⟩ := State.frames_cons hr
      show ({ U with heap := s₂.heap, slotsUsed := s₂.slotsUsed } : State) = { U.setFrames U.frames with heap := s₂.heap, slotsUsed := s₂.slotsUsed }
      rw [State.setFrames_self ht]
    subst hg
    refine Or.inl ⟨v, ⟨(({ U with heap := s₂.heap, slotsUsed := s₂.slotsUsed } : State).setVm s₂.vm), Ls ++ L, c0 + mc, s0 + ms⟩,
      ⟨X.admits, X.cas, X.clock, X.frames, X.room, X.hears, X.method, X.code, (X.here.setHeapUsed s₂.heap s₂.slotsUsed).setVm hW'.alike, X.tail, State.WarmedH.trans X.warmed hW', X.limits, X.bytes, X.same.trans (hsame.setVm s.vm)⟩,
      ⟨g, mk, s₂, L, rfl, rfl, hqc, rfl, hL, rfl, rfl⟩, ?_⟩
    show Steps p.tables e below _ ((({ U with heap := s₂.heap, slotsUsed := s₂.slotsUsed } : State).setVm s₂.vm).setTop { g with pc := g.pc + len₂, stack := v.toList ++ g.stack })
    rw [← hs₂]
    exact hsteps
  · obtain ⟨e2, q2, q3, q4, q5, q6⟩ := id hsm
    have e3 : s₂ = ({ (U.calling g mk a).setFrames s₂.frames with heap := s₂.heap, slotsUsed := s₂.slotsUsed } : State).setVm s₂.vm := by
      have : s₂ = ({ s₂ with vm := (U.calling g mk a).vm } : State).setVm s₂.vm := rfl
      rw [e2] at this
      exact this
    have hf₂ : s₂.frames = .throwing q :: .java g :: U.frames.tail := hend
    have hW' : U.WarmedH s₂.vm := hW₂
    have hs₂ : s₂ = ((({ U with heap := s₂.heap, slotsUsed := s₂.slotsUsed } : State).setVm s₂.vm).setTop g).pushFrame (.throwing q) := by
      refine e3.trans ?_
      rw [hf₂, State.calling_eq h.top, State.setFrames_setFrames, State.pushFrame, State.frames_setTop _ hr', State.setTop_of_frames _ hr', State.setFrames_setFrames, hr]
      rfl
    have hsame : U.sameButNew ({ U with heap := s₂.heap, slotsUsed := s₂.slotsUsed } : State) L mc ms := by
      refine ⟨?_, q2, q3, q4, q5, q6⟩
      obtain ⟨t, ht, -⟩ := State.frames_cons hr
      show ({ U with heap := s₂.heap, slotsUsed := s₂.slotsUsed } : State) = { U.setFrames U.frames with heap := s₂.heap, slotsUsed := s₂.slotsUsed }
      rw [State.setFrames_self ht]
    subst hg
    refine Or.inr ⟨q, ⟨(({ U with heap := s₂.heap, slotsUsed := s₂.slotsUsed } : State).setVm s₂.vm), Ls ++ L, c0 + mc, s0 + ms⟩,
      ⟨X.admits, X.cas, X.clock, X.frames, X.room, X.hears, X.method, X.code, (X.here.setHeapUsed s₂.heap s₂.slotsUsed).setVm hW'.alike, X.tail, State.WarmedH.trans X.warmed hW', X.limits, X.bytes, X.same.trans (hsame.setVm s.vm)⟩,
      ⟨g, mk, s₂, L, E, ce, rfl, rfl, hx, hce, hcv, hcl, rfl, hL, rfl, rfl⟩, ?_⟩
    show Steps p.tables e below _ (((({ U with heap := s₂.heap, slotsUsed := s₂.slotsUsed } : State).setVm s₂.vm).setTop g).pushFrame (.throwing q))
    rw [← hs₂]
    exact hsteps
end
variable {p : Program} {l : Launch} {e : Env} {R : Room} {s : State} {m : MethodId} {args : Array Value} {below : List Frame} {meth : Method} {c : Code} {T : State} {H : Heap} {locs : List Loc} {cells slots : Nat}
theorem vx_callVX (X : Stand p l e R s m args below meth c T locs cells slots) (hexec : p.tables.exec = Jvm.exec) {own C : String} {index : Nat} {y : MethodName} {bytes : ByteArray} {maxL : Nat} {ret : Option FieldType} {hh : List (Nat × Nat × Nat × Nat)}
    (hown : s.vm.findClass own = some m.cls) (hlink : (Cond.methodLink own index y).before args s = true) (hinst : (Cond.instanceMethod y).before args s = true) (hsel : (Cond.selects C y y).before args s = true)
    (hcode : (Cond.codeWith y bytes maxL ret hh).before args s = true) (hy : y.cls ≠ "java/lang/invoke/MethodHandle" ∧ y.cls ≠ "java/lang/invoke/VarHandle")
    {W9 : Nat} {Pre : Pt → Array Value → Prop} {Post : Pt → Array Value → Option Value → Pt → Prop} {PostX : Pt → Array Value → Addr → Pt → Prop} (hK : vx_Back l R p e below s args y 3 W9 Pre Post PostX)
    {b : Addr} {cellB : Cell} (hcell : T.heap[b]? = some cellB) (hobj : cellB.vm.isStatics = false) (hcls : s.vm.findClass C = some cellB.cls)
    {g : JFrame} (hg : g.method = m) (hsize : g.locals.size = c.maxLocals) {argsL rest : List Value} (hlen : ∀ sig, parseMethodDescriptor y.desc = some sig → argsL.length = sig.parameters.length)
    (hstack : g.stack = argsL.reverse ++ .ref b :: rest) (hW : 2 * g.monitorRoom + (rest.map fun v => v.category).sum ≤ W9) (hdg : decode c.code g.pc = .ok (.invokevirtual index, 3))
    (hpre : ∀ vm₁, s.WarmedH vm₁ → Pre ⟨T.setVm vm₁, locs, cells, slots⟩ (Value.ref b :: argsL).toArray) :
    (∃ (v : Option Value) (vm₁ : Vm) (B : Pt), s.WarmedH vm₁ ∧ Stand p l e R s m args below meth c B.U B.locs B.cells B.slots ∧ Post ⟨T.setVm vm₁, locs, cells, slots⟩ (Value.ref b :: argsL).toArray v B ∧
      ∀ target, Steps p.tables e below (B.U.setTop { g with pc := g.pc + 3, stack := v.toList ++ rest }) target → Steps p.tables e below (T.setTop g) target) ∨
    (∃ (q : Addr) (vm₁ : Vm) (B : Pt), s.WarmedH vm₁ ∧ Stand p l e R s m args below meth c B.U B.locs B.cells B.slots ∧ PostX ⟨T.setVm vm₁, locs, cells, slots⟩ (Value.ref b :: argsL).toArray q B ∧
      Steps p.tables e below (T.setTop g) ((B.U.setTop { g with stack := rest }).pushFrame (.throwing q))) := by
  obtain ⟨mk, methM, hnamed, hmethM, hstM, habM⟩ := Cond.instanceMethod_spec hinst
  obtain ⟨m8, methM', cM, hn8, hmethM', -, -, -, -, -, -, hsigM⟩ := Cond.codeWith_spec hcode
  cases Option.some.inj (hn8.symm.trans hnamed)
  cases hmethM.symm.trans hmethM'
  obtain ⟨c2, r2, m2, q1, q2, q3, q4, kP, hkP, hkPi⟩ := Cond.selects_spec hsel
  cases hcls.symm.trans q1
  cases (State.methodFound?_of_named hnamed hy).symm.trans q2
  cases hnamed.symm.trans q3
  have hselP : selectMethod e.platform s.vm cellB.cls mk = .method mk := by rw [Launch.admits_selectMethod X.admits]; exact q4
  obtain ⟨vm₁, X₁, hstep₁⟩ := X.invokevirtual hexec hown hlink hnamed hmethM hstM hkP hkPi hy (a := b) (cell := cellB) hcell
    (fun z h => by rw [h] at hobj; cases hobj) hselP hmethM habM hkP hkPi (g := g) hg (argsL := argsL) (rest := rest) (hlen _ hsigM) hstack hdg
  rcases hK m meth c ⟨T.setVm vm₁, locs, cells, slots⟩ { g with stack := rest } (.invokevirtual index) mk (Value.ref b :: argsL).toArray X₁ hg hsize hdg hW (X₁.named hnamed) (hpre vm₁ X₁.warmed) with ⟨v, B, X', hpost, hsteps⟩ | ⟨q, B, X', hpost, hsteps⟩
  · exact Or.inl ⟨v, vm₁, B, X₁.warmed, X', hpost, fun target h => hstep₁ _ fun acts => by rw [doInvoke_state]; exact hsteps.trans h⟩
  · exact Or.inr ⟨q, vm₁, B, X₁.warmed, X', hpost, hstep₁ _ fun acts => by rw [doInvoke_state]; exact hsteps⟩
theorem vx_callSX (X : Stand p l e R s m args below meth c T locs cells slots) (hexec : p.tables.exec = Jvm.exec) {own : String} {index : Nat} {y : MethodName} {bytes : ByteArray} {maxL : Nat} {ret : Option FieldType} {hh : List (Nat × Nat × Nat × Nat)}
    (hown : s.vm.findClass own = some m.cls) (hlink : (Cond.methodLink own index y).before args s = true) (hstat : (Cond.static y).before args s = true) (hinit : (Cond.initialized y.cls).before args s = true)
    (hcode : (Cond.codeWith y bytes maxL ret hh).before args s = true) (hy : y.cls ≠ "java/lang/invoke/MethodHandle" ∧ y.cls ≠ "java/lang/invoke/VarHandle")
    {W9 : Nat} {Pre : Pt → Array Value → Prop} {Post : Pt → Array Value → Option Value → Pt → Prop} {PostX : Pt → Array Value → Addr → Pt → Prop} (hK : vx_Back l R p e below s args y 3 W9 Pre Post PostX)
    {g : JFrame} (hg : g.method = m) (hsize : g.locals.size = c.maxLocals) {argsL rest : List Value} (hlen : ∀ sig, parseMethodDescriptor y.desc = some sig → argsL.length = sig.parameters.length)
    (hstack : g.stack = argsL.reverse ++ rest) (hW : 2 * g.monitorRoom + (rest.map fun v => v.category).sum ≤ W9) (hdg : decode c.code g.pc = .ok (.invokestatic index, 3))
    (hpre : ∀ vm₁, s.WarmedH vm₁ → Pre ⟨T.setVm vm₁, locs, cells, slots⟩ argsL.toArray) :
    (∃ (v : Option Value) (vm₁ : Vm) (B : Pt), s.WarmedH vm₁ ∧ Stand p l e R s m args below meth c B.U B.locs B.cells B.slots ∧ Post ⟨T.setVm vm₁, locs, cells, slots⟩ argsL.toArray v B ∧
      ∀ target, Steps p.tables e below (B.U.setTop { g with pc := g.pc + 3, stack := v.toList ++ rest }) target → Steps p.tables e below (T.setTop g) target) ∨
    (∃ (q : Addr) (vm₁ : Vm) (B : Pt), s.WarmedH vm₁ ∧ Stand p l e R s m args below meth c B.U B.locs B.cells B.slots ∧ PostX ⟨T.setVm vm₁, locs, cells, slots⟩ argsL.toArray q B ∧
      Steps p.tables e below (T.setTop g) ((B.U.setTop { g with stack := rest }).pushFrame (.throwing q))) := by
  obtain ⟨mk, methM, cM, hnamed, hmethM, -, -, -, -, -, -, hsigM⟩ := Cond.codeWith_spec hcode
  have hstatic : methM.isStatic = true := Cond.static_spec hnamed hmethM hstat
  obtain ⟨kP, hkP, -⟩ := className_of_methodNamed hnamed
  have hinitP : kP.init = .initialized := Cond.initialized_spec (findClass_of_methodNamed hnamed) hkP hinit
  obtain ⟨vm₁, X₁, hstep₁⟩ := X.invokestatic hexec hown hlink hnamed hmethM hstatic hkP hinitP hy (g := g) hg (argsL := argsL) (rest := rest) (hlen _ hsigM) hstack hdg
  rcases hK m meth c ⟨T.setVm vm₁, locs, cells, slots⟩ { g with stack := rest } (.invokestatic index) mk argsL.toArray X₁ hg hsize hdg hW (X₁.named hnamed) (hpre vm₁ X₁.warmed) with ⟨v, B, X', hpost, hsteps⟩ | ⟨q, B, X', hpost, hsteps⟩
  · exact Or.inl ⟨v, vm₁, B, X₁.warmed, X', hpost, fun target h => hstep₁ _ fun acts => by rw [doInvoke_state]; exact hsteps.trans h⟩
  · exact Or.inr ⟨q, vm₁, B, X₁.warmed, X', hpost, hstep₁ _ fun acts => by rw [doInvoke_state]; exact hsteps⟩
theorem vx_callVW (X : Stand p l e R s m args below meth c T locs cells slots) (hexec : p.tables.exec = Jvm.exec) {own C : String} {index : Nat} {y : MethodName} {bytes : ByteArray} {maxL : Nat} {ret : Option FieldType} {hh : List (Nat × Nat × Nat × Nat)}
    (hown : s.vm.findClass own = some m.cls) (hlink : (Cond.methodLink own index y).before args s = true) (hinst : (Cond.instanceMethod y).before args s = true) (hsel : (Cond.selects C y y).before args s = true)
    (hcode : (Cond.codeWith y bytes maxL ret hh).before args s = true) (hy : y.cls ≠ "java/lang/invoke/MethodHandle" ∧ y.cls ≠ "java/lang/invoke/VarHandle")
    {W9 : Nat} {Pre : Pt → Array Value → Prop} {Post : Pt → Array Value → Option Value → Pt → Prop} (hK : Back l R p e below s args y 3 W9 Pre Post)
    {b : Addr} {cellB : Cell} (hcell : T.heap[b]? = some cellB) (hobj : cellB.vm.isStatics = false) (hcls : s.vm.findClass C = some cellB.cls)
    {g : JFrame} (hg : g.method = m) (hsize : g.locals.size = c.maxLocals) {argsL rest : List Value} (hlen : ∀ sig, parseMethodDescriptor y.desc = some sig → argsL.length = sig.parameters.length)
    (hstack : g.stack = argsL.reverse ++ .ref b :: rest) (hW : 2 * g.monitorRoom + (rest.map fun v => v.category).sum ≤ W9) (hdg : decode c.code g.pc = .ok (.invokevirtual index, 3))
    (hpre : ∀ vm₁, s.WarmedH vm₁ → Pre ⟨T.setVm vm₁, locs, cells, slots⟩ (Value.ref b :: argsL).toArray) :
    ∃ (v : Option Value) (vm₁ : Vm) (B : Pt), s.WarmedH vm₁ ∧ Stand p l e R s m args below meth c B.U B.locs B.cells B.slots ∧ Post ⟨T.setVm vm₁, locs, cells, slots⟩ (Value.ref b :: argsL).toArray v B ∧
      ∀ target, Steps p.tables e below (B.U.setTop { g with pc := g.pc + 3, stack := v.toList ++ rest }) target → Steps p.tables e below (T.setTop g) target := by
  obtain ⟨mk, methM, hnamed, hmethM, hstM, habM⟩ := Cond.instanceMethod_spec hinst
  obtain ⟨m8, methM', cM, hn8, hmethM', -, -, -, -, -, -, hsigM⟩ := Cond.codeWith_spec hcode
  cases Option.some.inj (hn8.symm.trans hnamed)
  cases hmethM.symm.trans hmethM'
  obtain ⟨c2, r2, m2, q1, q2, q3, q4, kP, hkP, hkPi⟩ := Cond.selects_spec hsel
  cases hcls.symm.trans q1
  cases (State.methodFound?_of_named hnamed hy).symm.trans q2
  cases hnamed.symm.trans q3
  have hselP : selectMethod e.platform s.vm cellB.cls mk = .method mk := by rw [Launch.admits_selectMethod X.admits]; exact q4
  obtain ⟨vm₁, X₁, hstep₁⟩ := X.invokevirtual hexec hown hlink hnamed hmethM hstM hkP hkPi hy (a := b) (cell := cellB) hcell
    (fun z h => by rw [h] at hobj; cases hobj) hselP hmethM habM hkP hkPi (g := g) hg (argsL := argsL) (rest := rest) (hlen _ hsigM) hstack hdg
  obtain ⟨v, B, X', hpost, hsteps⟩ := hK m meth c ⟨T.setVm vm₁, locs, cells, slots⟩ { g with stack := rest } (.invokevirtual index) mk (Value.ref b :: argsL).toArray X₁ hg hsize hdg hW (X₁.named hnamed) (hpre vm₁ X₁.warmed)
  exact ⟨v, vm₁, B, X₁.warmed, X', hpost, fun target h => hstep₁ _ fun acts => by rw [doInvoke_state]; exact hsteps.trans h⟩
abbrev vx_CVW (R : Room) (s : State) (args : Array Value) (own C : String) (index : Nat) (y : MethodName) (bytes : ByteArray) (maxL : Nat) (ret : Option FieldType) (hh : List (Nat × Nat × Nat × Nat)) (ws : List Cond) (rm : Room) (mc ms n : Nat) : Prop :=
  (rm.cells = mc ∧ rm.slots = ms ∧ rm.frames + 1 ≤ R.frames ∧ 8 + (maxL + 11) + rm.locals ≤ R.locals ∧ (∀ w ∈ ws, ∀ (a' : Array Value) (U : State), s.WarmedH U.vm → w.before a' U = true) ∧ Cond.codeWith y bytes maxL ret hh ∈ ws) ∧
  (Cond.codeWith y bytes maxL ret hh).before args s = true ∧ (Cond.initialized y.cls).before args s = true ∧ (y.cls ≠ "java/lang/invoke/MethodHandle" ∧ y.cls ≠ "java/lang/invoke/VarHandle") ∧
  (∀ sig, parseMethodDescriptor y.desc = some sig → n = sig.parameters.length) ∧ (Cond.methodLink own index y).before args s = true ∧ (Cond.instanceMethod y).before args s = true ∧ (Cond.selects C y y).before args s = true
theorem vx_cwVW {own C : String} {index maxL mc ms : Nat} {y : MethodName} {bytes : ByteArray} {ret : Option FieldType} {hh : List (Nat × Nat × Nat × Nat)} {Ts ws ws' : List Cond} {rm : Room} (n : Nat) (ht : ∀ w ∈ Ts, w.before args s = true) (hT : GoodIn Ts (wsV own index C y ws)) (hw : ws = Cond.codeWith y bytes maxL ret hh :: ws') (hrc : rm.cells = mc) (hrs : rm.slots = ms)
    (hd : y.cls = C ∧ y.cls ≠ "java/lang/invoke/MethodHandle" ∧ y.cls ≠ "java/lang/invoke/VarHandle" ∧ (parseMethodDescriptor y.desc).map (fun d => d.parameters.length) = some n) (hR : rm.frames + 1 ≤ R.frames ∧ 8 + (maxL + 11) + rm.locals ≤ R.locals) :
    vx_CVW R s args own C index y bytes maxL ret hh ws rm mc ms n := by
  obtain ⟨hC, hd⟩ := hd
  subst hC
  have ok : ∀ w ∈ wsV own index y.cls y ws, w.before args s = true := fun w h => ht w (hT w h).1
  have hG : GoodIn Ts ws := fun w h => hT w (by unfold wsV; exact List.mem_append_right _ h)
  have hc : Cond.codeWith y bytes maxL ret hh ∈ ws := by rw [hw]; exact List.mem_cons_self
  refine ⟨⟨hrc, hrs, hR.1, hR.2, pay_in ht hG, hc⟩, ht _ (hG _ hc).1, ok _ (by simp [wsV]), ⟨hd.1, hd.2.1⟩, fun sig h => ?_, ok _ (by simp [wsV]), ok _ (by simp [wsV]), ok _ (by simp [wsV])⟩
  have h2 := hd.2.2
  rw [h] at h2
  exact (Option.some.inj h2).symm
theorem vx_runVW {y : MethodName} {bytes cc : ByteArray} {maxL nL mc ms n index : Nat} {ret : Option FieldType} {hh : List (Nat × Nat × Nat × Nat)} {ws : List Cond} {rm : Room} {Pc : Array Value → State → Prop} {Qc : Array Value → State → Outcome → State → Prop} {free : Addr → Prop} {Ts : List Cond} {own C : String} {b : Addr} {As rest : List Value} {g : JFrame}
    (S : CallFix p m c cc nL s args Ts own) (hM : Met l y ws rm Pc Qc mc ms free) (cw : vx_CVW R s args own C index y bytes maxL ret hh ws rm mc ms n) (hp : PreV s H C b Pc As)
    (hg : g.method = m) (hn : As.length = n) (hsize : g.locals.size = nL) (hstack : g.stack = As.reverse ++ .ref b :: rest) (hW : 2 * g.monitorRoom + (rest.map fun v => v.category).sum ≤ 8) (hdg : decode cc g.pc = .ok (.invokevirtual index, 3)) (hf : cells + mc ≤ R.cells ∧ slots + ms ≤ R.slots) :
    va_Run p l e R s m args below meth c H locs cells slots mc ms g rest (Qc (Value.ref b :: As).toArray) free := by
  obtain ⟨⟨hrc, hrs, hfr, hlo, hws, hcw⟩, hcode, hini, hy, hlen, hl, hin, hse⟩ := cw
  have hK : Back l R p e below s args y 3 8 (PreOf R mc ms Pc) (PostOf Qc mc ms free) := va_backW (hh := hh) (bytes := bytes) (maxL := maxL) (ret := ret) hM hp.1 hrc hrs hfr hlo hws hcw (fun a' U hW => word_at hW (Or.inl (by first | rfl | simp [Cond.onTables, Cond.keeps, Cond.steady])) hini)
  obtain ⟨hx, hb, hml, ho, -⟩ := S
  obtain ⟨-, ⟨cellB, hcB, hoB, hclB⟩, hPc⟩ := hp
  intro T hT X
  obtain ⟨v, vm₁, ⟨U', l2, c2, s2⟩, hW₁, X', ⟨g', mk, t, L, e1, e2, hq, h1, hL, h2, h3⟩, st⟩ := vx_callVW X hx (C := C) (hh := hh) (bytes := bytes) (maxL := maxL) (ret := ret) ho hl hin hse hcode hy hK (by rw [hT]; exact hcB) hoB hclB hg (hsize.trans hml.symm) (argsL := As) (rest := rest) (fun sig h => hn.trans (hlen sig h)) hstack hW (by rw [hb]; exact hdg)
    (fun vm₁ hW₁ => ⟨hf.1, hf.2, hPc (T.setVm vm₁) hT hW₁⟩)
  dsimp only [Pt.U, Pt.locs, Pt.cells, Pt.slots] at X' e1 e2 h1 h2 h3 st
  subst h1; subst h2; subst h3
  exact ⟨v, (T.setVm vm₁).calling g' mk (Value.ref b :: As).toArray, t, U', L, hT, X', hL, e1, e2, hq, st⟩
section
variable {y : MethodName} {bytes cc : ByteArray} {maxL nL mc ms n index : Nat} {ret : Option FieldType} {ws : List Cond} {rm : Room} {Pc : Array Value → State → Prop} {Qc : Array Value → State → Outcome → State → Prop} {XC : String → State → State → Prop} {free : Addr → Prop} {Ts : List Cond} {own C : String} {b : Addr} {As rest : List Value} {g : JFrame}
theorem vx_runVX {hh : List (Nat × Nat × Nat × Nat)} (S : CallFix p m c cc nL s args Ts own) (hM : vx_Met l y ws rm Pc Qc XC mc ms free) (cw : vx_CVW R s args own C index y bytes maxL ret hh ws rm mc ms n) (hp : PreV s H C b Pc As)
    (hg : g.method = m) (hn : As.length = n) (hsize : g.locals.size = nL) (hstack : g.stack = As.reverse ++ .ref b :: rest) (hW : 2 * g.monitorRoom + (rest.map fun v => v.category).sum ≤ 8) (hdg : decode cc g.pc = .ok (.invokevirtual index, 3)) (hf : cells + mc ≤ R.cells ∧ slots + ms ≤ R.slots) :
    vx_Run p l e R s m args below meth c H locs cells slots mc ms g rest (Qc (Value.ref b :: As).toArray) XC free := by
  obtain ⟨⟨hrc, hrs, hfr, hlo, hws, hcw⟩, hcode, hini, hy, hlen, hl, hin, hse⟩ := cw
  have hK : vx_Back l R p e below s args y 3 8 (PreOf R mc ms Pc) (PostOf Qc mc ms free) (vx_Post XC mc ms free) := vx_backW (hh := hh) (bytes := bytes) (maxL := maxL) (ret := ret) hM hp.1 hrc hrs hfr hlo hws hcw (fun a' U hW => word_at hW (Or.inl (by first | rfl | simp [Cond.onTables, Cond.keeps, Cond.steady])) hini)
  obtain ⟨hx, hb, hml, ho, -⟩ := S
  obtain ⟨-, ⟨cellB, hcB, hoB, hclB⟩, hPc⟩ := hp
  intro T hT X
  rcases vx_callVX X hx (C := C) (hh := hh) (bytes := bytes) (maxL := maxL) (ret := ret) ho hl hin hse hcode hy hK (by rw [hT]; exact hcB) hoB hclB hg (hsize.trans hml.symm) (argsL := As) (rest := rest) (fun sig h => hn.trans (hlen sig h)) hstack hW (by rw [hb]; exact hdg)
    (fun vm₁ hW₁ => ⟨hf.1, hf.2, hPc (T.setVm vm₁) hT hW₁⟩) with ⟨v, vm₁, ⟨U', l2, c2, s2⟩, hW₁, X', ⟨g', mk, t, L, e1, e2, hq, h1, hL, h2, h3⟩, st⟩ | ⟨q, vm₁, ⟨U', l2, c2, s2⟩, hW₁, X', ⟨g', mk, t, L, E, ce, e1, e2, hq, hce, hcv, hcl, h1, hL, h2, h3⟩, st⟩
  · dsimp only [Pt.U, Pt.locs, Pt.cells, Pt.slots] at X' e1 e2 h1 h2 h3 st
    subst h1; subst h2; subst h3
    exact Or.inl ⟨v, (T.setVm vm₁).calling g' mk (Value.ref b :: As).toArray, t, U', L, hT, X', hL, e1, e2, hq, st⟩
  · dsimp only [Pt.U, Pt.locs, Pt.cells, Pt.slots] at X' e1 e2 h1 h2 h3 st hcl
    subst h1; subst h2; subst h3
    exact Or.inr ⟨q, (T.setVm vm₁).calling g' mk (Value.ref b :: As).toArray, t, U', L, E, ce, hT, X', hL, e1, e2, hq, hce, hcv, vx_cls hW₁ hcl, st⟩
theorem vx_runSX {hh : List (Nat × Nat × Nat × Nat)} (S : CallFix p m c cc nL s args Ts own) (hM : vx_Met l y ws rm Pc Qc XC mc ms free) (cw : vx_CSW R s args own index y bytes maxL ret hh ws rm mc ms n) (hp : PreS s H Pc As)
    (hg : g.method = m) (hn : As.length = n) (hsize : g.locals.size = nL) (hstack : g.stack = As.reverse ++ rest) (hW : 2 * g.monitorRoom + (rest.map fun v => v.category).sum ≤ 8) (hdg : decode cc g.pc = .ok (.invokestatic index, 3)) (hf : cells + mc ≤ R.cells ∧ slots + ms ≤ R.slots) :
    vx_Run p l e R s m args below meth c H locs cells slots mc ms g rest (Qc As.toArray) XC free := by
  obtain ⟨⟨hrc, hrs, hfr, hlo, hws, hcw⟩, hcode, hini, hy, hlen, hl, hstt⟩ := cw
  have hK : vx_Back l R p e below s args y 3 8 (PreOf R mc ms Pc) (PostOf Qc mc ms free) (vx_Post XC mc ms free) := vx_backW (hh := hh) (bytes := bytes) (maxL := maxL) (ret := ret) hM hp.1 hrc hrs hfr hlo hws hcw (fun a' U hW => word_at hW (Or.inl (by first | rfl | simp [Cond.onTables, Cond.keeps, Cond.steady])) hini)
  obtain ⟨hx, hb, hml, ho, -⟩ := S
  intro T hT X
  rcases vx_callSX X hx (hh := hh) (bytes := bytes) (maxL := maxL) (ret := ret) ho hl hstt hini hcode hy hK hg (hsize.trans hml.symm) (argsL := As) (rest := rest) (fun sig h => hn.trans (hlen sig h)) hstack hW (by rw [hb]; exact hdg)
    (fun vm₁ hW₁ => ⟨hf.1, hf.2, hp.2 (T.setVm vm₁) hT hW₁⟩) with ⟨v, vm₁, ⟨U', l2, c2, s2⟩, hW₁, X', ⟨g', mk, t, L, e1, e2, hq, h1, hL, h2, h3⟩, st⟩ | ⟨q, vm₁, ⟨U', l2, c2, s2⟩, hW₁, X', ⟨g', mk, t, L, E, ce, e1, e2, hq, hce, hcv, hcl, h1, hL, h2, h3⟩, st⟩
  · dsimp only [Pt.U, Pt.locs, Pt.cells, Pt.slots] at X' e1 e2 h1 h2 h3 st
    subst h1; subst h2; subst h3
    exact Or.inl ⟨v, (T.setVm vm₁).calling g' mk As.toArray, t, U', L, hT, X', hL, e1, e2, hq, st⟩
  · dsimp only [Pt.U, Pt.locs, Pt.cells, Pt.slots] at X' e1 e2 h1 h2 h3 st hcl
    subst h1; subst h2; subst h3
    exact Or.inr ⟨q, (T.setVm vm₁).calling g' mk As.toArray, t, U', L, E, ce, hT, X', hL, e1, e2, hq, hce, hcv, vx_cls hW₁ hcl, st⟩
end
end VXH
theorem vx_ofWH {l : Launch} {y : MethodName} {ws ws' : List Cond} {rm : Room} {Pc : Array Value → State → Prop} {Qc : Array Value → State → Outcome → State → Prop} {XC : String → State → State → Prop} {mc ms : Nat} {free : Addr → Prop} {cc : ByteArray} {maxL : Nat} {ret : Option FieldType} {hh : List (Nat × Nat × Nat × Nat)}
    (hy : plainName y.cls = true) (hw : ws = Cond.codeWith y cc maxL ret hh :: ws')
    (body : ∀ p e s m args below meth c s₁, BodyLoose p l y (headSpec ws rm) cc maxL ret e s m args below meth c s₁ → c.maxLocals = maxL → Pc args s →
      W p l e (headSpec ws rm).room s m args below meth c s.heap [] 0 0 (vx_MQ below Qc XC args s mc ms free) (entryFrame m args maxL)) : vx_Met l y ws rm Pc Qc XC mc ms free := by
  refine MetFree.of_bodyS (code := cc) (maxLocals := maxL) (ret := ret) hy ?_ ?_
  · intro args s m h hn
    obtain ⟨m9, meth, c, hn9, h1, h2, h3, h4, -, h5, h6, -⟩ := Cond.codeWith_spec (atoms_spec (ws := ws) h _ (by rw [hw]; exact List.mem_cons_self))
    cases hn.symm.trans hn9
    exact ⟨meth, c, h1, h2, h3, h4, h5, h6⟩
  · intro p e s m args below meth c s₁ B hml hP _
    have hh0 : s₁.heap = s.heap := by rw [B.state]; rfl
    obtain ⟨t, a1, o, b1, b2, b3⟩ := body p e s m args below meth c s₁ B hml hP s₁ hh0 (Stand.of_body B)
    exact ⟨t, o, a1, b1, b2, b3⟩
/-! ===== END ===== -/

/-! ===== BEGIN what the machine throws by itself, no traces kept ===== -/
section VXM
set_option maxHeartbeats 1000000 in
/-- the machine throws cls with the message text, no traces kept: from its note over the frame g to 'throwing' over the same frame (follows the proofs of Stand.vmThrowsMessage, Shelf/KitTracedVmS.lean, and Stand.throwsMessageColdBareV, StandMessageColdV.lean, without the step out of the frame) -/
theorem vx_vmAt {p : Program} {l : Launch} {e : Env} {R : Room} {s : State} {m₀ : MethodId} {args : Array Value} {below : List Frame} {meth : Method} {c : Code} {W : State} {locs : List Loc} {cells slots : Nat}
    (X : Stand p l e R s m₀ args below meth c W locs cells slots) (hexec : p.tables.exec = Jvm.exec) (htr : e.platform.stackTraces = false) {cls : String} {names : List String} {text : String}
    (hcls : Bundle.fit cls = true) (hnames : ∀ n ∈ names, Bundle.fit n = true) (hsoe : (cls == "java/lang/StackOverflowError") = false) (hoom : (cls == "java/lang/OutOfMemoryError") = false)
    (h : ∀ a ∈ Bundle.messageArmAtoms cls names, a.before args s = true)
    (hlocs : ∀ x ∈ locs, ∀ cell, s.heap[x.base]? = some cell → cell.vm.isStatics = false)
    (htext : (text == notModelled) = false) (hlimit : ¬ (stringBytes (stringToUtf16 text)).size > e.platform.arrayLengthLimit) (hheap : ¬ (stringBytes (stringToUtf16 text)).size * componentBytes .byte > e.platform.maxHeapBytes)
    {g : JFrame} (hg : g.method = m₀) (hsize : g.locals.size = c.maxLocals)
    (hRframes : names.length + 4 < R.frames) (hRlocals : 2 * g.monitorRoom + (g.stack.map fun v => v.category).sum + 10240 ≤ R.locals) (hshort : 13 * names.length + 55 ≤ 10240)
    (hRcells : cells + 3 ≤ R.cells) (hRslots : slots + ((stringBytes (stringToUtf16 text)).size + 4 + 6) ≤ R.slots) (hlocks : meth.locks = false) :
    ∃ (S : State) (q : Addr) (ce : Cell), (∀ target, Steps p.tables e below ((S.setTop g).pushFrame (.throwing q)) target → Steps p.tables e below ((W.setTop g).pushFrame (.throwNew cls (some text) none)) target) ∧
      Stand p l e R s m₀ args below meth c S locs (cells + 3) (slots + ((stringBytes (stringToUtf16 text)).size + 4 + 6)) ∧ S.heap[q]? = some ce ∧ s.vm.findClass cls = some ce.cls ∧ ce.vm = .none := by
  have howns : e.platform.frameOwnsMonitors = true := by rw [X.admits.platform]
  have hfin : e.platform.finalization = false := by rw [X.admits.platform]
  have hpl : e.platform.magicAccessors = ({} : Platform).magicAccessors := by rw [X.admits.platform]
  have a : ∀ x, x ∈ Bundle.messageArmAtoms cls names → x.holds args s none s [] = true := fun x hx => h x hx
  obtain ⟨T, Z0, L, -, Y⟩ := ThrowableC.of_atoms (args := args) howns hfin hpl (fun x hx => h x (by simp [Bundle.messageArmAtoms, hx]))
  obtain ⟨Z, M, LZ, LM, hnZ⟩ := Init0T.ofS_atoms (args := args) hpl L Y (fun x hx => h x (by simp [Bundle.messageArmAtoms, hx]))
  obtain ⟨P1, Ps, hlen, L1, hL, hP1m, hlink1, hlink⟩ := Bundle.chainS (args := args) hpl hnZ names cls hcls hnames (fun x hx => h x (by simp [Bundle.messageArmAtoms, hx]))
  obtain ⟨Zs, LZs, hn4, hfitv, hfitc⟩ := StringT.of_atoms (args := args) (fun x hx => h x (by simp [Bundle.messageArmAtoms, hx]))
  have hfound : s.vm.findClass cls = some P1.m.cls := findClass_of_methodNamed hP1m
  obtain ⟨c1, kX, hc1, hk, hord, -, -, hn6⟩ := Cond.instantiable_spec (a (.instantiable cls 6) (by simp [Bundle.messageArmAtoms]))
  cases Option.some.inj (hc1.symm.trans hfound)
  have hinit := Cond.initialized_spec hfound hk (a (.initialized cls) (by simp [Bundle.messageArmAtoms]))
  have hctor : kX.findMethod "<init>" "(Ljava/lang/String;)V" = some P1.m.idx := findMethod_of_methodNamed hP1m hk
  have hsel0 : selectMethod e.platform s.vm P1.m.cls T.fill0 = .method T.fill0 := by
    obtain ⟨c2, r2, m2, q1, q2, q3, q4, -⟩ := Cond.selects_spec (a (.selects cls Bundle.tFill0 Bundle.tFill0) (by simp [Bundle.messageArmAtoms]))
    cases Option.some.inj (q1.symm.trans hfound)
    cases Option.some.inj (q2.symm.trans (State.methodFound?_of_named Y.fill0 (by decide)))
    cases Option.some.inj (q3.symm.trans Y.fill0)
    rw [Launch.admits_selectMethod X.admits]; exact q4
  have hselF : selectMethod e.platform s.vm P1.m.cls T.fill = .method T.fill := by
    obtain ⟨c2, r2, m2, q1, q2, q3, q4, -⟩ := Cond.selects_spec (a (.selects cls Bundle.tFill Bundle.tFill) (by simp [Bundle.messageArmAtoms]))
    cases Option.some.inj (q1.symm.trans hfound)
    cases Option.some.inj (q2.symm.trans (State.methodFound?_of_named Y.fill (by decide)))
    cases Option.some.inj (q3.symm.trans Y.fill)
    rw [Launch.admits_selectMethod X.admits]; exact q4
  obtain ⟨cellS0, hcS0, hiss⟩ := Y.statics
  obtain ⟨u0, hu0⟩ := Cond.staticRefV Y.unassigned L.unassignedStatic L.statics hcS0 hiss (a (.isRef (.static Bundle.tN "UNASSIGNED_STACK" Bundle.steD)) (by simp [Bundle.messageArmAtoms]))
  obtain ⟨sen, hsen⟩ := Cond.staticRefV Y.sentinel L.sentinelStatic L.statics hcS0 hiss (a (.isRef (.static Bundle.tN "SUPPRESSED_SENTINEL" Bundle.listD)) (by simp [Bundle.messageArmAtoms]))
  obtain ⟨ci198, i198, fB, hk198, hg198, ha198, hsB, -, hnB, htB, hffB⟩ := Cond.ownField (t := .object "java/lang/Object") Y.found L.cls (by decide +kernel) (a (.fieldLink Bundle.tN 198 Bundle.tN "backtrace" "Ljava/lang/Object;") (by simp [Bundle.messageArmAtoms])) (a (.lays Bundle.tN Bundle.tN "backtrace" "Ljava/lang/Object;") (by simp [Bundle.messageArmAtoms])) e.platform hpl
  obtain ⟨cellS, hcS', heS, -, hkeep⟩ := X.same.2.2.2.2.2 T.aS cellS0 hcS0
  have hcellS : W.heap[T.aS]? = some cellS := hcS'
  have hout' : ∀ i, (⟨T.aS, i⟩ : Loc) ∉ locs := fun i hmem => by
    have := hlocs _ hmem cellS0 hcS0
    rw [hiss] at this; cases this
  have hknownS : cellS.vm ≠ .unknown := by
    rw [heS]; intro hu
    rw [show cellS0.vm = .unknown from hu] at hiss
    cases hiss
  have hvU : cellS.slots[T.fUnassigned.slot]? = some u0.v := by rw [hkeep _ (hout' _)]; exact hu0
  have hvSen : cellS.slots[T.fSentinel.slot]? = some sen.v := by rw [hkeep _ (hout' _)]; exact hsen
  obtain ⟨iM, hffM⟩ := Y.msg
  obtain ⟨tyC, dC, hdC, hdnC⟩ := Cond.laysAt hfound hk Y.cause (a (.lays cls Bundle.tN "cause" "Ljava/lang/Throwable;") (by simp [Bundle.messageArmAtoms]))
  obtain ⟨tyS, dS, hdS, hdnS⟩ := Cond.laysAt hfound hk Y.stack (a (.lays cls Bundle.tN "stackTrace" Bundle.steD) (by simp [Bundle.messageArmAtoms]))
  obtain ⟨tyP, dP, hdP, hdnP⟩ := Cond.laysAt hfound hk Y.supp (a (.lays cls Bundle.tN "suppressedExceptions" Bundle.listD) (by simp [Bundle.messageArmAtoms]))
  obtain ⟨tyM, dM, hdM, hdnM⟩ := Cond.laysAt hfound hk hffM (a (.lays cls Bundle.tN "detailMessage" "Ljava/lang/String;") (by simp [Bundle.messageArmAtoms]))
  obtain ⟨tyB, dB, hdB, hdnB⟩ := Cond.laysAt hfound hk hffB (a (.lays cls Bundle.tN "backtrace" "Ljava/lang/Object;") (by simp [Bundle.messageArmAtoms]))
  have bC := Cond.laysApart hdB hdC hdnB hdnC (by rw [hnB, Y.causeName]; decide)
  have bS := Cond.laysApart hdB hdS hdnB hdnS (by rw [hnB, Y.stackName]; decide)
  have bP := Cond.laysApart hdB hdP hdnB hdnP (by rw [hnB, Y.suppName]; decide)
  have hbk : ((preparedCellV T.toThrowableT (freshCell P1.m.cls kX) (W.heap.size + 2) u0 sen).withEntry W.cur).slots[fB.slot]? = some .null := by
    have := fresh_default (c := P1.m.cls) tyB
    rw [htB] at this
    simpa [preparedCellV, Cell.setSlot, Cell.withEntry, Array.getElem?_setIfInBounds, bC, bS, bP, bC.symm, bS.symm, bP.symm, defaultValue] using this
  have tkC := Takes.of_laid (v := .ref (W.heap.size + 2)) hk hord tyC (by rw [Y.causeType]; rfl)
  have tkS := Takes.of_laid (v := u0.v) hk hord tyS (by rw [Y.stackType]; exact fits_refV_array _ u0)
  have tkP := Takes.of_laid (v := sen.v) hk hord tyP (by rw [Y.suppType]; exact fits_refV_object _ sen)
  have tkM := Takes.of_laid (v := .ref (W.heap.size + 1)) hk hord tyM (by rw [Y.msgType]; rfl)
  have hskip : SkipFacts T e.platform s (fun u => u) u0 ((preparedCellV T.toThrowableT (freshCell P1.m.cls kX) (W.heap.size + 2) u0 sen).withEntry W.cur) := ⟨{ ci198 := ci198, i198 := i198, fBack := fB }, ⟨hk198, hg198, ha198, hsB⟩, hbk, fun _ _ => rfl⟩
  have h0 : At W g.method c below := by rw [hg]; exact X.here
  obtain ⟨hbeyond, hfreeW⟩ := X.vmMayThrow hsize (.throwNew cls (some text) none) (fun f hf => by cases hf) rfl hRlocals
  have hfr' : W.frames.length + Ps.length + 4 < (e.platform.stackLimits W.me).1 := by have := X.framesAbove hRframes; omega
  have hwd' : (stackUse (.java g :: W.frames.tail)).2 + 13 * Ps.length + 55 ≤ (e.platform.stackLimits W.me).2 := by have := X.stackAbove hsize (K := 13 * Ps.length + 55) (by omega); omega
  have hslots : W.slotsUsed + (stringBytes (stringToUtf16 text)).size + Zs.kS.instanceTypes.size + kX.instanceTypes.size ≤ e.platform.maxSlots := by
    have := X.slotsAbove hRslots
    rw [hn4, hn6]
    omega
  obtain ⟨vm', hW', st⟩ := Steps.vmThrowsMessageColdByV p (s₀ := s) (S := W) (g := g) h0 hexec T L Z LZ M LM X.warmed (t := W.cur) rfl Zs LZs P1 L1 Ps hL hlink1 hlink hsoe hoom hfound hk hinit hord hctor
    (Launch.admits_hotImplicitExceptions X.admits) hbeyond hfreeW htext hlimit hheap (X.cellsAbove hRcells) hslots (hfitv _) (hfitc _)
    (Nn := fun u => u) heapOnly_id (fun _ _ => rfl) (fun _ => rfl) (fun u x y => setCell_twice _ _ _ _) (fun _ => Nat.le_refl _) (cN := ((preparedCellV T.toThrowableT (freshCell P1.m.cls kX) (W.heap.size + 2) u0 sen).withEntry W.cur))
    hsel0 hcellS hknownS hvU tkS (fun _ hu => hu) (fun _ hu => hu) rfl rfl rfl (by simp [preparedCellV, Cell.setSlot, Cell.withEntry]) hskip (fun _ _ hA hW _ hroom _ hrest => L.nativeOff p htr hA hW hroom hrest) hselF hvSen tkC tkP tkM Y.objLocals rfl hfr' hwd'
  rw [plainBareV_eq T.toThrowableT (W.heap.size + 2) u0 sen (.ref (W.heap.size + 1)) W.cur rfl rfl] at st
  obtain ⟨-, -, w3, w4, -, -, -⟩ := withThrown_facts e.platform W Zs text P1.m.cls kX
  have X3 := ((X.pushed (bytesOf Zs.cB (stringToUtf16 text))).pushed (stringAt Zs.cS Zs.kS Zs.fv Zs.fc (stringToUtf16 text) W.heap.size)).pushed (freshCell P1.m.cls kX)
  rw [← withString_eq] at X3
  have X4 := X3.noted hW'
  have ha : (W.heap.size + 2) < ((withThrown W Zs text P1.m.cls kX).setVm vm').heap.size := by show _ < (withThrown W Zs text P1.m.cls kX).heap.size; rw [w3]; omega
  have hcell : ((withThrown W Zs text P1.m.cls kX).setVm vm').heap[(W.heap.size + 2)]? = some (freshCell P1.m.cls kX) := w4
  have X5 := ((((X4.stored hcell T.fCause.slot (.ref (W.heap.size + 2))).storedAgain ha T.fStack.slot u0.v).storedAgain ha T.fSupp.slot sen.v).storedAgain ha T.fStack.slot u0.v).storedAgain ha T.fMsg.slot (.ref (W.heap.size + 1))
  obtain ⟨g₁, hfrM⟩ := X5.frames_eq
  have hU : ((((withThrown W Zs text P1.m.cls kX).setVm vm').setCell (W.heap.size + 2) (plainBareV T.toThrowableT (freshCell P1.m.cls kX) (W.heap.size + 2) u0 sen (.ref (W.heap.size + 1)))).setTop g).pushFrame (.throwing (W.heap.size + 2)) = (((withThrown W Zs text P1.m.cls kX).setVm vm').setCell (W.heap.size + 2) (plainBareV T.toThrowableT (freshCell P1.m.cls kX) (W.heap.size + 2) u0 sen (.ref (W.heap.size + 1)))).setFrames (.throwing (W.heap.size + 2) :: .java g :: below) := by
    rw [State.pushFrame, State.frames_setTop _ hfrM, State.setTop_of_frames _ hfrM, State.setFrames_setFrames]
  have b1 : (bytesOf Zs.cB (stringToUtf16 text)).slots.size = (stringBytes (stringToUtf16 text)).size := by
    rw [(Cell.writeAll_facts _ _).2.2]; simp [bytes0]
  have b2 : (stringAt Zs.cS Zs.kS Zs.fv Zs.fc (stringToUtf16 text) W.heap.size).slots.size = 4 := by simp [string0, Cell.setSlot, hn4]
  have b3 : (freshCell P1.m.cls kX).slots.size = 6 := by simp [hn6]
  rw [b1, b2, b3] at X5
  have e9 : slots + (stringBytes (stringToUtf16 text)).size + 4 + 6 = slots + ((stringBytes (stringToUtf16 text)).size + 4 + 6) := by omega
  rw [e9] at X5
  simp only [List.append_assoc, List.cons_append, List.nil_append] at X5
  refine ⟨((withThrown W Zs text P1.m.cls kX).setVm vm').setCell (W.heap.size + 2) (plainBareV T.toThrowableT (freshCell P1.m.cls kX) (W.heap.size + 2) u0 sen (.ref (W.heap.size + 1))), W.heap.size + 2, _, fun target ht => st _ (by rw [X.tail, ← hU]; exact ht),
    X5.forget (fun y hy => ?_), heapAt_setCell_self _ ha, hfound, rfl⟩
  simp only [List.mem_cons, List.not_mem_nil, or_false] at hy
  have hge : s.heap.size ≤ W.heap.size := X.same.2.1
  rcases hy with rfl | rfl | rfl | rfl | rfl <;> exact Nat.le_trans hge (Nat.le_add_right _ 2)
set_option maxHeartbeats 1000000 in
/-- the machine throws NullPointerException, no traces kept: from its note over the frame g to 'throwing' over the same frame (follows the proof of Stand.vmThrowsNpe, Shelf42/KT2.lean; throwsNpeColdBareVAt, Shelf42/NT91.lean, called) -/
theorem vx_npeAt {p : Program} {l : Launch} {e : Env} {R : Room} {s : State} {m₀ : MethodId} {args : Array Value} {below : List Frame} {meth : Method} {c : Code} {W : State} {locs : List Loc} {cells slots : Nat}
    (X : Stand p l e R s m₀ args below meth c W locs cells slots) (hexec : p.tables.exec = Jvm.exec) (htr : e.platform.stackTraces = false) {n : Nat}
    (h : ∀ a ∈ Bundle.npeArmAtoms n, a.before args s = true)
    (hlocs : ∀ x ∈ locs, ∀ cell, s.heap[x.base]? = some cell → cell.vm.isStatics = false)
    {g : JFrame} (hg : g.method = m₀) (hsize : g.locals.size = c.maxLocals)
    (hRframes : 7 < R.frames) (hRlocals : 2 * g.monitorRoom + (g.stack.map fun v => v.category).sum + 10240 ≤ R.locals)
    (hRcells : cells + 1 ≤ R.cells) (hRslots : slots + n ≤ R.slots) (hlocks : meth.locks = false) :
    ∃ (S : State) (q : Addr) (ce : Cell), (∀ target, Steps p.tables e below ((S.setTop g).pushFrame (.throwing q)) target → Steps p.tables e below ((W.setTop g).pushFrame (.throwNew "java/lang/NullPointerException" none none)) target) ∧
      Stand p l e R s m₀ args below meth c S locs (cells + 1) (slots + n) ∧ S.heap[q]? = some ce ∧ s.vm.findClass "java/lang/NullPointerException" = some ce.cls ∧ ce.vm = .none := by
  have howns : e.platform.frameOwnsMonitors = true := by rw [X.admits.platform]
  have hfin : e.platform.finalization = false := by rw [X.admits.platform]
  have hpl : e.platform.magicAccessors = ({} : Platform).magicAccessors := by rw [X.admits.platform]
  have hpl2 : e.platform.arrayCloneIsPublic = true := by rw [X.admits.platform]
  have a' : ∀ x, x ∈ Bundle.npeArmAtoms n → x.holds args s none s [] = true := fun x hx => h x hx
  obtain ⟨T, Z, L, LZ, Y⟩ := ThrowableC.of_atoms (args := args) howns hfin hpl (fun x hx => h x (by simp [Bundle.npeArmAtoms, hx]))
  obtain ⟨N, LN, hcN, hnNF, hordN, hffS⟩ := NpeC.of_atoms (args := args) hpl hpl2 L Y (fun x hx => h x (by simp [Bundle.npeArmAtoms, hx]))
  obtain ⟨P1, L1, hP1m, hP1s⟩ := PassC.of_atoms (args := args) (s := s) hpl (X := Bundle.nN) (Y := Bundle.rN) (by decide) (by decide) LibCode.NullPointerException.Init0.at_0 LibCode.NullPointerException.Init0.at_1 LibCode.NullPointerException.Init0.at_4 (fun x hx => h x (by simp [Bundle.npeArmAtoms, hx]))
  obtain ⟨PR, LR, hPRm, hPRs⟩ := PassC.of_atoms (args := args) (s := s) hpl (X := Bundle.rN) (Y := Bundle.eN) (by decide) (by decide) LibCode.RuntimeException.Init0.at_0 LibCode.RuntimeException.Init0.at_1 LibCode.RuntimeException.Init0.at_4 (fun x hx => h x (by simp [Bundle.npeArmAtoms, hx]))
  obtain ⟨PE, LEx, hPEm, hPEs⟩ := PassC.of_atoms (args := args) (s := s) hpl (X := Bundle.eN) (Y := Bundle.tN) (by decide) (by decide) LibCode.Exception.Init0.at_0 LibCode.Exception.Init0.at_1 LibCode.Exception.Init0.at_4 (fun x hx => h x (by simp [Bundle.npeArmAtoms, hx]))
  have hfound : s.vm.findClass Bundle.nN = some P1.m.cls := findClass_of_methodNamed hP1m
  have ecls : N.cN = P1.m.cls := Option.some.inj (hcN.symm.trans hfound)
  have hk : s.vm.classes[P1.m.cls]? = some N.kN := by rw [← ecls]; exact LN.cls
  have hinit := Cond.initialized_spec hfound hk (a' (.initialized Bundle.nN) (by simp [Bundle.npeArmAtoms]))
  have hctor : N.kN.findMethod "<init>" "()V" = some P1.m.idx := findMethod_of_methodNamed hP1m hk
  obtain ⟨c1, k1, hc1, hk1, -, -, -, hn⟩ := Cond.instantiable_spec (a' (.instantiable Bundle.nN n) (by simp [Bundle.npeArmAtoms]))
  cases Option.some.inj (hc1.symm.trans hfound)
  cases Option.some.inj (hk1.symm.trans hk)
  have hfsz : (freshCell P1.m.cls N.kN).slots.size = n := by simp [hn]
  have hlink1 : P1.sup = PR.m := Option.some.inj (hP1s.symm.trans hPRm)
  have hlinkR : PR.sup = PE.m := Option.some.inj (hPRs.symm.trans hPEm)
  have hlinkE : PE.sup = Z.m T.toThrowableT := Option.some.inj (hPEs.symm.trans Y.init0)
  have hLs : ∀ P, P ∈ [PR, PE] → P.Links0 e.platform s := fun P hP => by
    simp only [List.mem_cons, List.not_mem_nil, or_false] at hP
    rcases hP with rfl | rfl
    · exact LR
    · exact LEx
  have hsel0 : selectMethod e.platform s.vm P1.m.cls T.fill0 = .method T.fill0 := by
    obtain ⟨c2, r2, m2, q1, q2, q3, q4, -⟩ := Cond.selects_spec (a' (.selects Bundle.nN Bundle.tFill0 Bundle.tFill0) (by simp [Bundle.npeArmAtoms]))
    cases Option.some.inj (q1.symm.trans hfound)
    cases Option.some.inj (q2.symm.trans (State.methodFound?_of_named Y.fill0 (by decide)))
    cases Option.some.inj (q3.symm.trans Y.fill0)
    rw [Launch.admits_selectMethod X.admits]; exact q4
  have hselF : selectMethod e.platform s.vm P1.m.cls T.fill = .method N.fill := by
    obtain ⟨c2, r2, m2, q1, q2, q3, q4, -⟩ := Cond.selects_spec (a' (.selects Bundle.nN Bundle.tFill Bundle.nFill) (by simp [Bundle.npeArmAtoms]))
    cases Option.some.inj (q1.symm.trans hfound)
    cases Option.some.inj (q2.symm.trans (State.methodFound?_of_named Y.fill (by decide)))
    cases Option.some.inj (q3.symm.trans hnNF)
    rw [Launch.admits_selectMethod X.admits]; exact q4
  obtain ⟨cellS0, hcS0, hiss⟩ := Y.statics
  obtain ⟨u0, hu0⟩ := Cond.staticRefV Y.unassigned L.unassignedStatic L.statics hcS0 hiss (a' (.isRef (.static Bundle.tN "UNASSIGNED_STACK" Bundle.steD)) (by simp [Bundle.npeArmAtoms]))
  obtain ⟨sen, hsen⟩ := Cond.staticRefV Y.sentinel L.sentinelStatic L.statics hcS0 hiss (a' (.isRef (.static Bundle.tN "SUPPRESSED_SENTINEL" Bundle.listD)) (by simp [Bundle.npeArmAtoms]))
  obtain ⟨ci198, i198, fB, hk198, hg198, ha198, hsB, -, hnB, htB, hffB⟩ := Cond.ownField (t := .object "java/lang/Object") Y.found L.cls (by decide +kernel) (a' (.fieldLink Bundle.tN 198 Bundle.tN "backtrace" Bundle.objD) (by simp [Bundle.npeArmAtoms])) (a' (.lays Bundle.tN Bundle.tN "backtrace" Bundle.objD) (by simp [Bundle.npeArmAtoms])) e.platform hpl
  obtain ⟨cellS, hcS', heS, -, hkeep⟩ := X.same.2.2.2.2.2 T.aS cellS0 hcS0
  have hcellS : W.heap[T.aS]? = some cellS := hcS'
  have hout' : ∀ i, (⟨T.aS, i⟩ : Loc) ∉ locs := fun i hmem => by
    have := hlocs _ hmem cellS0 hcS0
    rw [hiss] at this; cases this
  have hknownS : cellS.vm ≠ .unknown := by
    rw [heS]; intro hu
    rw [show cellS0.vm = .unknown from hu] at hiss
    cases hiss
  have hvU : cellS.slots[T.fUnassigned.slot]? = some u0.v := by rw [hkeep _ (hout' _)]; exact hu0
  have hvSen : cellS.slots[T.fSentinel.slot]? = some sen.v := by rw [hkeep _ (hout' _)]; exact hsen
  obtain ⟨tyC, dC, hdC, hdnC⟩ := Cond.laysAt hfound hk Y.cause (a' (.lays Bundle.nN Bundle.tN "cause" "Ljava/lang/Throwable;") (by simp [Bundle.npeArmAtoms]))
  obtain ⟨tyS, dS, hdS, hdnS⟩ := Cond.laysAt hfound hk Y.stack (a' (.lays Bundle.nN Bundle.tN "stackTrace" Bundle.steD) (by simp [Bundle.npeArmAtoms]))
  obtain ⟨tyP, dP, hdP, hdnP⟩ := Cond.laysAt hfound hk Y.supp (a' (.lays Bundle.nN Bundle.tN "suppressedExceptions" Bundle.listD) (by simp [Bundle.npeArmAtoms]))
  obtain ⟨tyX, dX, hdX, hdnX⟩ := Cond.laysAt hfound hk hffS (a' (.lays Bundle.nN Bundle.nN "extendedMessageState" "I") (by simp [Bundle.npeArmAtoms, Bundle.npeAtoms]))
  obtain ⟨hnX, htX⟩ := State.fieldFound?_type hffS (t := .int) (by decide +kernel)
  have xC := Cond.laysApart hdC hdX hdnC hdnX (by rw [hnX, Y.causeName]; decide)
  have xS := Cond.laysApart hdS hdX hdnS hdnX (by rw [hnX, Y.stackName]; decide)
  have xP := Cond.laysApart hdP hdX hdnP hdnX (by rw [hnX, Y.suppName]; decide)
  have hv0 : (freshCell P1.m.cls N.kN).slots[N.fState.slot]? = some (.int 0) := by
    have := fresh_default (c := P1.m.cls) tyX
    rw [htX] at this; exact this
  obtain ⟨tyB, dB, hdB, hdnB⟩ := Cond.laysAt hfound hk hffB (a' (.lays Bundle.nN Bundle.tN "backtrace" Bundle.objD) (by simp [Bundle.npeArmAtoms]))
  have bC := Cond.laysApart hdB hdC hdnB hdnC (by rw [hnB, Y.causeName]; decide)
  have bS := Cond.laysApart hdB hdS hdnB hdnS (by rw [hnB, Y.stackName]; decide)
  have bP := Cond.laysApart hdB hdP hdnB hdnP (by rw [hnB, Y.suppName]; decide)
  have bX := Cond.laysApart hdB hdX hdnB hdnX (by rw [hnB, hnX]; decide)
  have hbk : ((npeCell N.toNpeT (preparedCellV T.toThrowableT (freshCell P1.m.cls N.kN) W.heap.size u0 sen) W.cur).withEntry W.cur).slots[fB.slot]? = some .null := by
    have := fresh_default (c := P1.m.cls) tyB
    rw [htB] at this
    simpa [npeCell, preparedCellV, Cell.setSlot, Cell.withEntry, Array.getElem?_setIfInBounds, bC, bS, bP, bX, bC.symm, bS.symm, bP.symm, bX.symm, defaultValue] using this
  have tkC := Takes.of_laid (v := .ref W.heap.size) hk hordN tyC (by rw [Y.causeType]; rfl)
  have tkS := Takes.of_laid (v := u0.v) hk hordN tyS (by rw [Y.stackType]; exact fits_refV_array _ u0)
  have tkP := Takes.of_laid (v := sen.v) hk hordN tyP (by rw [Y.suppType]; exact fits_refV_object _ sen)
  have tkX := Takes.of_laid (v := .int 1) hk hordN tyX (by rw [htX]; rfl)
  have hskip : SkipFacts T e.platform s (fun u => u) u0 ((npeCell N.toNpeT (preparedCellV T.toThrowableT (freshCell P1.m.cls N.kN) W.heap.size u0 sen) W.cur).withEntry W.cur) := ⟨{ ci198 := ci198, i198 := i198, fBack := fB }, ⟨hk198, hg198, ha198, hsB⟩, hbk, fun _ _ => rfl⟩
  obtain ⟨vm', X3, st, -⟩ := X.throwsNpeColdBareVAt hexec hg hsize T L Z LZ N LN P1 L1 [PR, PE] hLs hlink1 ⟨hlinkR, hlinkE, trivial⟩ hfound hk hinit hordN hctor hsel0 hselF hcellS hknownS hvU hvSen
    hv0 xC xS xP tkC tkS tkP tkX Y.objLocals hskip (fun _ _ hA hW _ hroom _ hrest => L.nativeOff p htr hA hW hroom hrest) (by simpa using hRframes) hRlocals (by simp) hRcells (by rw [hn]; exact hRslots)
  have hlt : W.heap.size < ((W.pushCell (freshCell P1.m.cls N.kN)).setVm vm').heap.size := by
    show W.heap.size < (W.pushCell (freshCell P1.m.cls N.kN)).heap.size
    rw [State.heap_size_pushCell]; omega
  rw [hfsz] at X3
  obtain ⟨g₁, hfrM⟩ := X3.frames_eq
  have hU : ((((W.pushCell (freshCell P1.m.cls N.kN)).setVm vm').setCell W.heap.size (npeBareV T.toThrowableT N.toNpeT (freshCell P1.m.cls N.kN) W.heap.size u0 sen)).setTop g).pushFrame (.throwing W.heap.size) = (((W.pushCell (freshCell P1.m.cls N.kN)).setVm vm').setCell W.heap.size (npeBareV T.toThrowableT N.toNpeT (freshCell P1.m.cls N.kN) W.heap.size u0 sen)).setFrames (.throwing W.heap.size :: .java g :: below) := by
    rw [State.pushFrame, State.frames_setTop _ hfrM, State.setTop_of_frames _ hfrM, State.setFrames_setFrames]
  refine ⟨_, W.heap.size, _, fun target ht => st.trans (by rw [← hU]; exact ht), X3.forget (fun y hy => ?_), heapAt_setCell_self _ hlt, hfound, rfl⟩
  simp only [List.mem_cons, List.not_mem_nil, or_false] at hy
  have hge : s.heap.size ≤ W.heap.size := X.same.2.1
  rcases hy with rfl | rfl | rfl | rfl | rfl <;> exact hge
/-- the words of a machine's NullPointerException, but the four that speak of the heap -/
def vx_atN (n : Nat) : List Cond := (Bundle.npeArmAtoms n).filter vx_no
/-- the words of a machine's throw with a message, but the four that speak of the heap -/
def vx_atM (X : String) (names : List String) : List Cond := (Bundle.messageArmAtoms X names).filter vx_no
section
variable {p : Program} {l : Launch} {e : Env} {R : Room} {s : State} {m : MethodId} {args : Array Value} {below : List Frame} {meth : Method} {c : Code} {H : Heap} {locs : List Loc} {cells slots : Nat}
/-- a frame seen from a rebased start, seen from the first start again -/
theorem vx_back9 {T S : State} {R' : Room} {k n : Nat} (X : Stand p l e R s m args below meth c T locs cells slots) (Y : Stand p l e R' ((T.setVm s.vm).setFrames (.invoking m args :: below)) m args below meth c T [] 0 0) (Z : Stand p l e R' ((T.setVm s.vm).setFrames (.invoking m args :: below)) m args below meth c S [] k n) :
    Stand p l e R s m args below meth c S locs (cells + k) (slots + n) := by
  have hW0 : s.WarmedH ((T.setVm s.vm).setFrames (.invoking m args :: below)).vm := State.WarmedH.refl s
  refine { admits := X.admits, cas := X.cas, clock := X.clock, frames := X.frames, room := X.room, hears := X.hears, method := X.method, code := X.code, here := Z.here, tail := Z.tail, warmed := State.WarmedH.trans hW0 Z.warmed, limits := Z.limits.trans (Y.limits.symm.trans X.limits), bytes := Z.bytes.trans (Y.bytes.symm.trans X.bytes), same := ?_ }
  obtain ⟨e1, e2⟩ := Z.same
  rw [State.setFrames_setFrames] at e1
  have h2 : (T.setVm s.vm).sameButNew (S.setVm s.vm) [] k n := ⟨e1, e2⟩
  have h3 := X.same.trans h2
  rw [List.append_nil] at h3
  exact h3
/-- from the machine's note that E is thrown here with this text -/
def vx_Note (p : Program) (l : Launch) (e : Env) (R : Room) (s : State) (m : MethodId) (args : Array Value) (below : List Frame) (meth : Method) (c : Code) (H : Heap) (locs : List Loc) (cells slots : Nat) (Q : State → Prop) (g : JFrame) (E text : String) : Prop :=
  ∀ T : State, T.heap = H → Stand p l e R s m args below meth c T locs cells slots → ∃ t, Steps p.tables e below ((T.setTop g).pushFrame (.throwNew E (some text) none)) t ∧ Q t
theorem vx_vm {pc : Nat} {ls : Array Slot} {rest : List Value} {Q : State → Prop} (hexec : p.tables.exec = Jvm.exec) (hl : l.stackTraces = false) {cls text : String} {names : List String} {nb : Nat} {A : Nat → Prop}
    (hcls : Bundle.fit cls = true) (hnames : ∀ n ∈ names, Bundle.fit n = true) (hsoe : (cls == "java/lang/StackOverflowError") = false) (hoom : (cls == "java/lang/OutOfMemoryError") = false)
    (hat : ∀ w ∈ vx_atM cls names, w.before args s = true) (hgood : ∀ w ∈ vx_atM cls names, vx_ot w = true)
    (hU : vx_Zq Bundle.tN "UNASSIGNED_STACK" Bundle.steD A s s.heap) (hN : vx_Zq Bundle.tN "SUPPRESSED_SENTINEL" Bundle.listD A s s.heap) (hS : va_S A s.heap H locs) (hsize : ls.size = c.maxLocals)
    (htext : (text == notModelled) = false) (hnb : (stringBytes (stringToUtf16 text)).size ≤ nb) (hnb1 : nb ≤ 1000)
    (hRframes : names.length + 4 < R.frames) (hRlocals : (rest.map fun v => v.category).sum + 10240 ≤ R.locals) (hshort : 13 * names.length + 55 ≤ 10240) (hRcells : cells + 3 ≤ R.cells) (hRslots : slots + (nb + 10) ≤ R.slots) (hlocks : meth.locks = false)
    (k : ∀ (H1 : Heap) (q9 : Addr) (ce : Cell), H.size ≤ H1.size → (∀ q : Nat, q < H.size → H1[q]? = H[q]?) → va_S A s.heap H1 locs → H1[q9]? = some ce → ce.vm = .none → s.vm.findClass cls = some ce.cls → vx_W p l e R s m args below meth c H1 locs (cells + 3) (slots + (nb + 10)) Q (F0 m pc ls rest) q9) :
    vx_Note p l e R s m args below meth c H locs cells slots Q (F0 m pc ls rest) cls text := by
  intro T hT X
  have htr : e.platform.stackTraces = false := (show e.platform.stackTraces = l.stackTraces by rw [X.admits.platform]).trans hl
  have Y := vx_rebase X (R' := { frames := R.frames, locals := R.locals, cells := 3, slots := nb + 10 }) (Nat.le_refl _) (Nat.le_refl _) hRcells hRslots
  have hhp : ((T.setVm s.vm).setFrames (.invoking m args :: below)).heap = H := hT
  have hW0 : s.WarmedH ((T.setVm s.vm).setFrames (.invoking m args :: below)).vm := State.WarmedH.refl s
  have hat' : ∀ w ∈ vx_atM cls names, w.before args ((T.setVm s.vm).setFrames (.invoking m args :: below)) = true := fun w hw => vx_ot_at hW0 rfl (hgood w hw) (hat w hw)
  have hU' : vx_Zq Bundle.tN "UNASSIGNED_STACK" Bundle.steD A ((T.setVm s.vm).setFrames (.invoking m args :: below)) ((T.setVm s.vm).setFrames (.invoking m args :: below)).heap := by rw [hhp]; exact vx_Zq.moved hW0.alike (hU.kept hS.2.1)
  have hN' : vx_Zq Bundle.tN "SUPPRESSED_SENTINEL" Bundle.listD A ((T.setVm s.vm).setFrames (.invoking m args :: below)) ((T.setVm s.vm).setFrames (.invoking m args :: below)).heap := by rw [hhp]; exact vx_Zq.moved hW0.alike (hN.kept hS.2.1)
  obtain ⟨S, q, ce, st, Z, hce, hcl', hv⟩ := vx_vmAt Y hexec htr (cls := cls) (names := names) (text := text) hcls hnames hsoe hoom (vx_own hat' (vx_isRefq hU'.1) (vx_isRefq hN'.1) hU'.2.word hN'.2.word) (fun x hx => nomatch hx) htext
    (by rw [Launch.admits_arrayLengthLimit X.admits]; omega) (by rw [Launch.admits_maxHeapBytes X.admits]; simp only [componentBytes]; omega)
    (g := F0 m pc ls rest) rfl hsize hRframes (by show 2 * 0 + (rest.map fun v => v.category).sum + 10240 ≤ R.locals; omega) hshort (by show 0 + 3 ≤ 3; omega) (by show 0 + (_ + 4 + 6) ≤ nb + 10; omega) hlocks
  obtain ⟨f1, f2⟩ := vx_frame Z.same
  have f1' : H.size ≤ S.heap.size := by rw [← hT]; exact f1
  have f2' : ∀ q : Nat, q < H.size → S.heap[q]? = H[q]? := fun q hq => by
    rw [← hT]
    exact f2 q (by rw [← hT] at hq; exact hq) (fun z hz => nomatch hz)
  have X5 := vx_back9 X Y Z
  have X6 : Stand p l e R s m args below meth c S locs (cells + 3) (slots + (nb + 10)) := { X5 with same := X5.same.mono (by omega) (by omega) }
  obtain ⟨t, a1, b1⟩ := k S.heap q ce f1' f2' ⟨Nat.le_trans hS.1 f1', fun q h1 h2 => (f2' q (Nat.lt_of_lt_of_le h1 hS.1)).trans (hS.2.1 q h1 h2), hS.2.2⟩ hce hv hcl' S rfl X6
  exact ⟨t, st t a1, b1⟩
/-- from the machine's note that NullPointerException is thrown here -/
def vx_NoteN (p : Program) (l : Launch) (e : Env) (R : Room) (s : State) (m : MethodId) (args : Array Value) (below : List Frame) (meth : Method) (c : Code) (H : Heap) (locs : List Loc) (cells slots : Nat) (Q : State → Prop) (g : JFrame) : Prop :=
  ∀ T : State, T.heap = H → Stand p l e R s m args below meth c T locs cells slots → ∃ t, Steps p.tables e below ((T.setTop g).pushFrame (.throwNew "java/lang/NullPointerException" none none)) t ∧ Q t
theorem vx_npe {pc : Nat} {ls : Array Slot} {rest : List Value} {Q : State → Prop} (hexec : p.tables.exec = Jvm.exec) (hl : l.stackTraces = false) {nb : Nat} {A : Nat → Prop}
    (hat : ∀ w ∈ vx_atN nb, w.before args s = true) (hgood : ∀ w ∈ vx_atN nb, vx_ot w = true)
    (hU : vx_Zq Bundle.tN "UNASSIGNED_STACK" Bundle.steD A s s.heap) (hN : vx_Zq Bundle.tN "SUPPRESSED_SENTINEL" Bundle.listD A s s.heap) (hS : va_S A s.heap H locs) (hsize : ls.size = c.maxLocals)
    (hRframes : 7 < R.frames) (hRlocals : (rest.map fun v => v.category).sum + 10240 ≤ R.locals) (hRcells : cells + 1 ≤ R.cells) (hRslots : slots + nb ≤ R.slots) (hlocks : meth.locks = false)
    (k : ∀ (H1 : Heap) (q9 : Addr) (ce : Cell), H.size ≤ H1.size → (∀ q : Nat, q < H.size → H1[q]? = H[q]?) → va_S A s.heap H1 locs → H1[q9]? = some ce → ce.vm = .none → s.vm.findClass "java/lang/NullPointerException" = some ce.cls → vx_W p l e R s m args below meth c H1 locs (cells + 1) (slots + nb) Q (F0 m pc ls rest) q9) :
    vx_NoteN p l e R s m args below meth c H locs cells slots Q (F0 m pc ls rest) := by
  intro T hT X
  have htr : e.platform.stackTraces = false := (show e.platform.stackTraces = l.stackTraces by rw [X.admits.platform]).trans hl
  have Y := vx_rebase X (R' := { frames := R.frames, locals := R.locals, cells := 1, slots := nb }) (Nat.le_refl _) (Nat.le_refl _) hRcells hRslots
  have hhp : ((T.setVm s.vm).setFrames (.invoking m args :: below)).heap = H := hT
  have hW0 : s.WarmedH ((T.setVm s.vm).setFrames (.invoking m args :: below)).vm := State.WarmedH.refl s
  have hat' : ∀ w ∈ vx_atN nb, w.before args ((T.setVm s.vm).setFrames (.invoking m args :: below)) = true := fun w hw => vx_ot_at hW0 rfl (hgood w hw) (hat w hw)
  have hU' : vx_Zq Bundle.tN "UNASSIGNED_STACK" Bundle.steD A ((T.setVm s.vm).setFrames (.invoking m args :: below)) ((T.setVm s.vm).setFrames (.invoking m args :: below)).heap := by rw [hhp]; exact vx_Zq.moved hW0.alike (hU.kept hS.2.1)
  have hN' : vx_Zq Bundle.tN "SUPPRESSED_SENTINEL" Bundle.listD A ((T.setVm s.vm).setFrames (.invoking m args :: below)) ((T.setVm s.vm).setFrames (.invoking m args :: below)).heap := by rw [hhp]; exact vx_Zq.moved hW0.alike (hN.kept hS.2.1)
  obtain ⟨S, q, ce, st, Z, hce, hcl', hv⟩ := vx_npeAt Y hexec htr (n := nb) (vx_own hat' (vx_isRefq hU'.1) (vx_isRefq hN'.1) hU'.2.word hN'.2.word) (fun x hx => nomatch hx)
    (g := F0 m pc ls rest) rfl hsize hRframes (by show 2 * 0 + (rest.map fun v => v.category).sum + 10240 ≤ R.locals; omega) (by show 0 + 1 ≤ 1; omega) (by show 0 + nb ≤ nb; omega) hlocks
  obtain ⟨f1, f2⟩ := vx_frame Z.same
  have f1' : H.size ≤ S.heap.size := by rw [← hT]; exact f1
  have f2' : ∀ q : Nat, q < H.size → S.heap[q]? = H[q]? := fun q hq => by
    rw [← hT]
    exact f2 q (by rw [← hT] at hq; exact hq) (fun z hz => nomatch hz)
  have X5 := vx_back9 X Y Z
  have X6 : Stand p l e R s m args below meth c S locs (cells + 1) (slots + nb) := { X5 with same := X5.same.mono (by omega) (by omega) }
  obtain ⟨t, a1, b1⟩ := k S.heap q ce f1' f2' ⟨Nat.le_trans hS.1 f1', fun q h1 h2 => (f2' q (Nat.lt_of_lt_of_le h1 hS.1)).trans (hS.2.1 q h1 h2), hS.2.2⟩ hce hv hcl' S rfl X6
  exact ⟨t, st t a1, b1⟩
variable {Q : State → Prop} {cc : ByteArray} {pc : Nat} {ls : Array Slot} {rest : List Value}
theorem vx_idivZ (hexec : p.tables.exec = Jvm.exec) (hb : c.code = cc) {a b : Int32} (h0 : b = 0) (d : decode cc pc = .ok (.idiv, 1)) (k : vx_Note p l e R s m args below meth c H locs cells slots Q (F0 m pc ls rest) "java/lang/ArithmeticException" "/ by zero") :
    W p l e R s m args below meth c H locs cells slots Q (F0 m pc ls (.int b :: .int a :: rest)) := by
  intro T hT X
  obtain ⟨t, st, q⟩ := k T hT X
  exact ⟨t, X.idivZero hexec (g := F0 m pc ls (.int b :: .int a :: rest)) rfl (a := a) (rest := rest) (by rw [h0]) (by rw [hb]; exact d) t st, q⟩
theorem vx_iremZ (hexec : p.tables.exec = Jvm.exec) (hb : c.code = cc) {a b : Int32} (h0 : b = 0) (d : decode cc pc = .ok (.irem, 1)) (k : vx_Note p l e R s m args below meth c H locs cells slots Q (F0 m pc ls rest) "java/lang/ArithmeticException" "/ by zero") :
    W p l e R s m args below meth c H locs cells slots Q (F0 m pc ls (.int b :: .int a :: rest)) := by
  intro T hT X
  obtain ⟨t, st, q⟩ := k T hT X
  exact ⟨t, X.iremZero hexec (g := F0 m pc ls (.int b :: .int a :: rest)) rfl (a := a) (rest := rest) (by rw [h0]) (by rw [hb]; exact d) t st, q⟩
theorem vx_ldivZ (hexec : p.tables.exec = Jvm.exec) (hb : c.code = cc) {a b : Int64} (h0 : b = 0) (d : decode cc pc = .ok (.ldiv, 1)) (k : vx_Note p l e R s m args below meth c H locs cells slots Q (F0 m pc ls rest) "java/lang/ArithmeticException" "/ by zero") :
    W p l e R s m args below meth c H locs cells slots Q (F0 m pc ls (.long b :: .long a :: rest)) := by
  intro T hT X
  obtain ⟨t, st, q⟩ := k T hT X
  exact ⟨t, X.ldivZero hexec (g := F0 m pc ls (.long b :: .long a :: rest)) rfl (a := a) (rest := rest) (by rw [h0]) (by rw [hb]; exact d) t st, q⟩
theorem vx_lremZ (hexec : p.tables.exec = Jvm.exec) (hb : c.code = cc) {a b : Int64} (h0 : b = 0) (d : decode cc pc = .ok (.lrem, 1)) (k : vx_Note p l e R s m args below meth c H locs cells slots Q (F0 m pc ls rest) "java/lang/ArithmeticException" "/ by zero") :
    W p l e R s m args below meth c H locs cells slots Q (F0 m pc ls (.long b :: .long a :: rest)) := by
  intro T hT X
  obtain ⟨t, st, q⟩ := k T hT X
  exact ⟨t, X.lremZero hexec (g := F0 m pc ls (.long b :: .long a :: rest)) rfl (a := a) (rest := rest) (by rw [h0]) (by rw [hb]; exact d) t st, q⟩
theorem vx_ialdZ {D : va_G} {cl : List vw_C} {ws : va_W} {tys : List (ClassId × FieldType)} {a : Nat} (hexec : p.tables.exec = Jvm.exec) (hb : c.code = cc) (hK : va_K D cl tys s) (hP : va_P D cl ws H) (q0 t0 : Nat) {cA : ClassId} {n : Nat} {f : Nat → Int32} (ha : ws[q0]? = some (a, .inl (cA, n, .inl f))) (ht : tys[t0]? = some (cA, .int)) {i : Int32} (hout : ¬ vp_in i n) (hdg : decode cc pc = .ok (.iaload, 1))
    (k : ∀ tx : String, tx = (toString "Index " ++ toString i ++ toString " out of bounds for length " ++ toString n : String) → vx_Note p l e R s m args below meth c H locs cells slots Q (F0 m pc ls rest) "java/lang/ArrayIndexOutOfBoundsException" tx) : W p l e R s m args below meth c H locs cells slots Q (F0 m pc ls (.int i :: .ref a :: rest)) := by
  intro T hT X
  obtain ⟨t, st, q⟩ := k _ rfl T hT X
  refine ⟨t, ?_, q⟩
  have h1 := X.ialoadOut hexec (by rw [hT]; exact hP q0 _ ha) ((hK.2 t0 _ ht).1 n (fun j => .int (f j))) (j := i) (by show (i < 0 ∨ (arrV _ _ _).slots.size ≤ _); rw [arrV_size]; exact Classical.byContradiction hout) (g := F0 m pc ls (.int i :: .ref a :: rest)) rfl (rest := rest) rfl (by rw [hb]; exact hdg) t
  simp only [arrV_size] at h1
  exact h1 st
theorem vx_iastZ {D : va_G} {cl : List vw_C} {ws : va_W} {tys : List (ClassId × FieldType)} {a : Nat} (hexec : p.tables.exec = Jvm.exec) (hb : c.code = cc) (hK : va_K D cl tys s) (hP : va_P D cl ws H) (q0 t0 : Nat) {cA : ClassId} {n : Nat} {f : Nat → Int32} (ha : ws[q0]? = some (a, .inl (cA, n, .inl f))) (ht : tys[t0]? = some (cA, .int)) {i : Int32} {x : Int32} (hout : ¬ vp_in i n) (hdg : decode cc pc = .ok (.iastore, 1))
    (k : ∀ tx : String, tx = (toString "Index " ++ toString i ++ toString " out of bounds for length " ++ toString n : String) → vx_Note p l e R s m args below meth c H locs cells slots Q (F0 m pc ls rest) "java/lang/ArrayIndexOutOfBoundsException" tx) : W p l e R s m args below meth c H locs cells slots Q (F0 m pc ls (.int x :: .int i :: .ref a :: rest)) := by
  intro T hT X
  obtain ⟨t, st, q⟩ := k _ rfl T hT X
  refine ⟨t, ?_, q⟩
  have h1 := X.iastoreOut hexec (by rw [hT]; exact hP q0 _ ha) ((hK.2 t0 _ ht).1 n (fun j => .int (f j))) (j := i) (by show (i < 0 ∨ (arrV _ _ _).slots.size ≤ _); rw [arrV_size]; exact Classical.byContradiction hout) (g := F0 m pc ls (.int x :: .int i :: .ref a :: rest)) rfl (rest := rest) rfl (by rw [hb]; exact hdg) t
  simp only [arrV_size] at h1
  exact h1 st
theorem vx_baldZ {D : va_G} {cl : List vw_C} {ws : va_W} {tys : List (ClassId × FieldType)} {a : Nat} (hexec : p.tables.exec = Jvm.exec) (hb : c.code = cc) (hK : va_K D cl tys s) (hP : va_P D cl ws H) (q0 t0 : Nat) {cA : ClassId} {n : Nat} {f : Nat → Int32} (ha : ws[q0]? = some (a, .inl (cA, n, .inl f))) (ht : tys[t0]? = some (cA, .byte)) {i : Int32} (hout : ¬ vp_in i n) (hdg : decode cc pc = .ok (.baload, 1))
    (k : ∀ tx : String, tx = (toString "Index " ++ toString i ++ toString " out of bounds for length " ++ toString n : String) → vx_Note p l e R s m args below meth c H locs cells slots Q (F0 m pc ls rest) "java/lang/ArrayIndexOutOfBoundsException" tx) : W p l e R s m args below meth c H locs cells slots Q (F0 m pc ls (.int i :: .ref a :: rest)) := by
  intro T hT X
  obtain ⟨t, st, q⟩ := k _ rfl T hT X
  refine ⟨t, ?_, q⟩
  have h1 := X.baloadOut hexec (by rw [hT]; exact hP q0 _ ha) ((hK.2 t0 _ ht).1 n (fun j => .int (f j))) (j := i) (by show (i < 0 ∨ (arrV _ _ _).slots.size ≤ _); rw [arrV_size]; exact Classical.byContradiction hout) (g := F0 m pc ls (.int i :: .ref a :: rest)) rfl (rest := rest) rfl (by rw [hb]; exact hdg) t
  simp only [arrV_size] at h1
  exact h1 st
theorem vx_bastZ {D : va_G} {cl : List vw_C} {ws : va_W} {tys : List (ClassId × FieldType)} {a : Nat} (hexec : p.tables.exec = Jvm.exec) (hb : c.code = cc) (hK : va_K D cl tys s) (hP : va_P D cl ws H) (q0 t0 : Nat) {cA : ClassId} {n : Nat} {f : Nat → Int32} (ha : ws[q0]? = some (a, .inl (cA, n, .inl f))) (ht : tys[t0]? = some (cA, .byte)) {i : Int32} {x : Int32} (hout : ¬ vp_in i n) (hdg : decode cc pc = .ok (.bastore, 1))
    (k : ∀ tx : String, tx = (toString "Index " ++ toString i ++ toString " out of bounds for length " ++ toString n : String) → vx_Note p l e R s m args below meth c H locs cells slots Q (F0 m pc ls rest) "java/lang/ArrayIndexOutOfBoundsException" tx) : W p l e R s m args below meth c H locs cells slots Q (F0 m pc ls (.int x :: .int i :: .ref a :: rest)) := by
  intro T hT X
  obtain ⟨t, st, q⟩ := k _ rfl T hT X
  refine ⟨t, ?_, q⟩
  have h1 := X.bastoreOut hexec (by rw [hT]; exact hP q0 _ ha) ((hK.2 t0 _ ht).1 n (fun j => .int (f j))) (j := i) (by show (i < 0 ∨ (arrV _ _ _).slots.size ≤ _); rw [arrV_size]; exact Classical.byContradiction hout) (g := F0 m pc ls (.int x :: .int i :: .ref a :: rest)) rfl (rest := rest) rfl (by rw [hb]; exact hdg) t
  simp only [arrV_size] at h1
  exact h1 st
theorem vx_zaldZ {D : va_G} {cl : List vw_C} {ws : va_W} {tys : List (ClassId × FieldType)} {a : Nat} (hexec : p.tables.exec = Jvm.exec) (hb : c.code = cc) (hK : va_K D cl tys s) (hP : va_P D cl ws H) (q0 t0 : Nat) {cA : ClassId} {n : Nat} {f : Nat → Int32} (ha : ws[q0]? = some (a, .inl (cA, n, .inl f))) (ht : tys[t0]? = some (cA, .boolean)) {i : Int32} (hout : ¬ vp_in i n) (hdg : decode cc pc = .ok (.baload, 1))
    (k : ∀ tx : String, tx = (toString "Index " ++ toString i ++ toString " out of bounds for length " ++ toString n : String) → vx_Note p l e R s m args below meth c H locs cells slots Q (F0 m pc ls rest) "java/lang/ArrayIndexOutOfBoundsException" tx) : W p l e R s m args below meth c H locs cells slots Q (F0 m pc ls (.int i :: .ref a :: rest)) := by
  intro T hT X
  obtain ⟨t, st, q⟩ := k _ rfl T hT X
  refine ⟨t, ?_, q⟩
  have h1 := X.baloadOut hexec (by rw [hT]; exact hP q0 _ ha) ((hK.2 t0 _ ht).1 n (fun j => .int (f j))) (j := i) (by show (i < 0 ∨ (arrV _ _ _).slots.size ≤ _); rw [arrV_size]; exact Classical.byContradiction hout) (g := F0 m pc ls (.int i :: .ref a :: rest)) rfl (rest := rest) rfl (by rw [hb]; exact hdg) t
  simp only [arrV_size] at h1
  exact h1 st
theorem vx_zastZ {D : va_G} {cl : List vw_C} {ws : va_W} {tys : List (ClassId × FieldType)} {a : Nat} (hexec : p.tables.exec = Jvm.exec) (hb : c.code = cc) (hK : va_K D cl tys s) (hP : va_P D cl ws H) (q0 t0 : Nat) {cA : ClassId} {n : Nat} {f : Nat → Int32} (ha : ws[q0]? = some (a, .inl (cA, n, .inl f))) (ht : tys[t0]? = some (cA, .boolean)) {i : Int32} {x : Int32} (hout : ¬ vp_in i n) (hdg : decode cc pc = .ok (.bastore, 1))
    (k : ∀ tx : String, tx = (toString "Index " ++ toString i ++ toString " out of bounds for length " ++ toString n : String) → vx_Note p l e R s m args below meth c H locs cells slots Q (F0 m pc ls rest) "java/lang/ArrayIndexOutOfBoundsException" tx) : W p l e R s m args below meth c H locs cells slots Q (F0 m pc ls (.int x :: .int i :: .ref a :: rest)) := by
  intro T hT X
  obtain ⟨t, st, q⟩ := k _ rfl T hT X
  refine ⟨t, ?_, q⟩
  have h1 := X.bastoreOut hexec (by rw [hT]; exact hP q0 _ ha) ((hK.2 t0 _ ht).1 n (fun j => .int (f j))) (j := i) (by show (i < 0 ∨ (arrV _ _ _).slots.size ≤ _); rw [arrV_size]; exact Classical.byContradiction hout) (g := F0 m pc ls (.int x :: .int i :: .ref a :: rest)) rfl (rest := rest) rfl (by rw [hb]; exact hdg) t
  simp only [arrV_size] at h1
  exact h1 st
theorem vx_caldZ {D : va_G} {cl : List vw_C} {ws : va_W} {tys : List (ClassId × FieldType)} {a : Nat} (hexec : p.tables.exec = Jvm.exec) (hb : c.code = cc) (hK : va_K D cl tys s) (hP : va_P D cl ws H) (q0 t0 : Nat) {cA : ClassId} {n : Nat} {f : Nat → Int32} (ha : ws[q0]? = some (a, .inl (cA, n, .inl f))) (ht : tys[t0]? = some (cA, .char)) {i : Int32} (hout : ¬ vp_in i n) (hdg : decode cc pc = .ok (.caload, 1))
    (k : ∀ tx : String, tx = (toString "Index " ++ toString i ++ toString " out of bounds for length " ++ toString n : String) → vx_Note p l e R s m args below meth c H locs cells slots Q (F0 m pc ls rest) "java/lang/ArrayIndexOutOfBoundsException" tx) : W p l e R s m args below meth c H locs cells slots Q (F0 m pc ls (.int i :: .ref a :: rest)) := by
  intro T hT X
  obtain ⟨t, st, q⟩ := k _ rfl T hT X
  refine ⟨t, ?_, q⟩
  have h1 := X.caloadOut hexec (by rw [hT]; exact hP q0 _ ha) ((hK.2 t0 _ ht).1 n (fun j => .int (f j))) (j := i) (by show (i < 0 ∨ (arrV _ _ _).slots.size ≤ _); rw [arrV_size]; exact Classical.byContradiction hout) (g := F0 m pc ls (.int i :: .ref a :: rest)) rfl (rest := rest) rfl (by rw [hb]; exact hdg) t
  simp only [arrV_size] at h1
  exact h1 st
theorem vx_castZ {D : va_G} {cl : List vw_C} {ws : va_W} {tys : List (ClassId × FieldType)} {a : Nat} (hexec : p.tables.exec = Jvm.exec) (hb : c.code = cc) (hK : va_K D cl tys s) (hP : va_P D cl ws H) (q0 t0 : Nat) {cA : ClassId} {n : Nat} {f : Nat → Int32} (ha : ws[q0]? = some (a, .inl (cA, n, .inl f))) (ht : tys[t0]? = some (cA, .char)) {i : Int32} {x : Int32} (hout : ¬ vp_in i n) (hdg : decode cc pc = .ok (.castore, 1))
    (k : ∀ tx : String, tx = (toString "Index " ++ toString i ++ toString " out of bounds for length " ++ toString n : String) → vx_Note p l e R s m args below meth c H locs cells slots Q (F0 m pc ls rest) "java/lang/ArrayIndexOutOfBoundsException" tx) : W p l e R s m args below meth c H locs cells slots Q (F0 m pc ls (.int x :: .int i :: .ref a :: rest)) := by
  intro T hT X
  obtain ⟨t, st, q⟩ := k _ rfl T hT X
  refine ⟨t, ?_, q⟩
  have h1 := X.castoreOut hexec (by rw [hT]; exact hP q0 _ ha) ((hK.2 t0 _ ht).1 n (fun j => .int (f j))) (j := i) (by show (i < 0 ∨ (arrV _ _ _).slots.size ≤ _); rw [arrV_size]; exact Classical.byContradiction hout) (g := F0 m pc ls (.int x :: .int i :: .ref a :: rest)) rfl (rest := rest) rfl (by rw [hb]; exact hdg) t
  simp only [arrV_size] at h1
  exact h1 st
theorem vx_saldZ {D : va_G} {cl : List vw_C} {ws : va_W} {tys : List (ClassId × FieldType)} {a : Nat} (hexec : p.tables.exec = Jvm.exec) (hb : c.code = cc) (hK : va_K D cl tys s) (hP : va_P D cl ws H) (q0 t0 : Nat) {cA : ClassId} {n : Nat} {f : Nat → Int32} (ha : ws[q0]? = some (a, .inl (cA, n, .inl f))) (ht : tys[t0]? = some (cA, .short)) {i : Int32} (hout : ¬ vp_in i n) (hdg : decode cc pc = .ok (.saload, 1))
    (k : ∀ tx : String, tx = (toString "Index " ++ toString i ++ toString " out of bounds for length " ++ toString n : String) → vx_Note p l e R s m args below meth c H locs cells slots Q (F0 m pc ls rest) "java/lang/ArrayIndexOutOfBoundsException" tx) : W p l e R s m args below meth c H locs cells slots Q (F0 m pc ls (.int i :: .ref a :: rest)) := by
  intro T hT X
  obtain ⟨t, st, q⟩ := k _ rfl T hT X
  refine ⟨t, ?_, q⟩
  have h1 := X.saloadOut hexec (by rw [hT]; exact hP q0 _ ha) ((hK.2 t0 _ ht).1 n (fun j => .int (f j))) (j := i) (by show (i < 0 ∨ (arrV _ _ _).slots.size ≤ _); rw [arrV_size]; exact Classical.byContradiction hout) (g := F0 m pc ls (.int i :: .ref a :: rest)) rfl (rest := rest) rfl (by rw [hb]; exact hdg) t
  simp only [arrV_size] at h1
  exact h1 st
theorem vx_sastZ {D : va_G} {cl : List vw_C} {ws : va_W} {tys : List (ClassId × FieldType)} {a : Nat} (hexec : p.tables.exec = Jvm.exec) (hb : c.code = cc) (hK : va_K D cl tys s) (hP : va_P D cl ws H) (q0 t0 : Nat) {cA : ClassId} {n : Nat} {f : Nat → Int32} (ha : ws[q0]? = some (a, .inl (cA, n, .inl f))) (ht : tys[t0]? = some (cA, .short)) {i : Int32} {x : Int32} (hout : ¬ vp_in i n) (hdg : decode cc pc = .ok (.sastore, 1))
    (k : ∀ tx : String, tx = (toString "Index " ++ toString i ++ toString " out of bounds for length " ++ toString n : String) → vx_Note p l e R s m args below meth c H locs cells slots Q (F0 m pc ls rest) "java/lang/ArrayIndexOutOfBoundsException" tx) : W p l e R s m args below meth c H locs cells slots Q (F0 m pc ls (.int x :: .int i :: .ref a :: rest)) := by
  intro T hT X
  obtain ⟨t, st, q⟩ := k _ rfl T hT X
  refine ⟨t, ?_, q⟩
  have h1 := X.sastoreOut hexec (by rw [hT]; exact hP q0 _ ha) ((hK.2 t0 _ ht).1 n (fun j => .int (f j))) (j := i) (by show (i < 0 ∨ (arrV _ _ _).slots.size ≤ _); rw [arrV_size]; exact Classical.byContradiction hout) (g := F0 m pc ls (.int x :: .int i :: .ref a :: rest)) rfl (rest := rest) rfl (by rw [hb]; exact hdg) t
  simp only [arrV_size] at h1
  exact h1 st
theorem vx_laldZ {D : va_G} {cl : List vw_C} {ws : va_W} {tys : List (ClassId × FieldType)} {a : Nat} (hexec : p.tables.exec = Jvm.exec) (hb : c.code = cc) (hK : va_K D cl tys s) (hP : va_P D cl ws H) (q0 t0 : Nat) {cA : ClassId} {n : Nat} {f : Nat → Int64} (ha : ws[q0]? = some (a, .inl (cA, n, .inr (.inl f)))) (ht : tys[t0]? = some (cA, .long)) {i : Int32} (hout : ¬ vp_in i n) (hdg : decode cc pc = .ok (.laload, 1))
    (k : ∀ tx : String, tx = (toString "Index " ++ toString i ++ toString " out of bounds for length " ++ toString n : String) → vx_Note p l e R s m args below meth c H locs cells slots Q (F0 m pc ls rest) "java/lang/ArrayIndexOutOfBoundsException" tx) : W p l e R s m args below meth c H locs cells slots Q (F0 m pc ls (.int i :: .ref a :: rest)) := by
  intro T hT X
  obtain ⟨t, st, q⟩ := k _ rfl T hT X
  refine ⟨t, ?_, q⟩
  have h1 := X.laloadOut hexec (by rw [hT]; exact hP q0 _ ha) ((hK.2 t0 _ ht).1 n (fun j => .long (f j))) (j := i) (by show (i < 0 ∨ (arrV _ _ _).slots.size ≤ _); rw [arrV_size]; exact Classical.byContradiction hout) (g := F0 m pc ls (.int i :: .ref a :: rest)) rfl (rest := rest) rfl (by rw [hb]; exact hdg) t
  simp only [arrV_size] at h1
  exact h1 st
theorem vx_lastZ {D : va_G} {cl : List vw_C} {ws : va_W} {tys : List (ClassId × FieldType)} {a : Nat} (hexec : p.tables.exec = Jvm.exec) (hb : c.code = cc) (hK : va_K D cl tys s) (hP : va_P D cl ws H) (q0 t0 : Nat) {cA : ClassId} {n : Nat} {f : Nat → Int64} (ha : ws[q0]? = some (a, .inl (cA, n, .inr (.inl f)))) (ht : tys[t0]? = some (cA, .long)) {i : Int32} {x : Int64} (hout : ¬ vp_in i n) (hdg : decode cc pc = .ok (.lastore, 1))
    (k : ∀ tx : String, tx = (toString "Index " ++ toString i ++ toString " out of bounds for length " ++ toString n : String) → vx_Note p l e R s m args below meth c H locs cells slots Q (F0 m pc ls rest) "java/lang/ArrayIndexOutOfBoundsException" tx) : W p l e R s m args below meth c H locs cells slots Q (F0 m pc ls (.long x :: .int i :: .ref a :: rest)) := by
  intro T hT X
  obtain ⟨t, st, q⟩ := k _ rfl T hT X
  refine ⟨t, ?_, q⟩
  have h1 := X.lastoreOut hexec (by rw [hT]; exact hP q0 _ ha) ((hK.2 t0 _ ht).1 n (fun j => .long (f j))) (j := i) (by show (i < 0 ∨ (arrV _ _ _).slots.size ≤ _); rw [arrV_size]; exact Classical.byContradiction hout) (g := F0 m pc ls (.long x :: .int i :: .ref a :: rest)) rfl (rest := rest) rfl (by rw [hb]; exact hdg) t
  simp only [arrV_size] at h1
  exact h1 st
theorem vx_faldZ {D : va_G} {cl : List vw_C} {ws : va_W} {tys : List (ClassId × FieldType)} {a : Nat} (hexec : p.tables.exec = Jvm.exec) (hb : c.code = cc) (hK : va_K D cl tys s) (hP : va_P D cl ws H) (q0 t0 : Nat) {cA : ClassId} {n : Nat} {f : Nat → UInt32} (ha : ws[q0]? = some (a, .inl (cA, n, .inr (.inr (.inl f))))) (ht : tys[t0]? = some (cA, .float)) {i : Int32} (hout : ¬ vp_in i n) (hdg : decode cc pc = .ok (.faload, 1))
    (k : ∀ tx : String, tx = (toString "Index " ++ toString i ++ toString " out of bounds for length " ++ toString n : String) → vx_Note p l e R s m args below meth c H locs cells slots Q (F0 m pc ls rest) "java/lang/ArrayIndexOutOfBoundsException" tx) : W p l e R s m args below meth c H locs cells slots Q (F0 m pc ls (.int i :: .ref a :: rest)) := by
  intro T hT X
  obtain ⟨t, st, q⟩ := k _ rfl T hT X
  refine ⟨t, ?_, q⟩
  have h1 := X.faloadOut hexec (by rw [hT]; exact hP q0 _ ha) ((hK.2 t0 _ ht).1 n (fun j => .float (f j))) (j := i) (by show (i < 0 ∨ (arrV _ _ _).slots.size ≤ _); rw [arrV_size]; exact Classical.byContradiction hout) (g := F0 m pc ls (.int i :: .ref a :: rest)) rfl (rest := rest) rfl (by rw [hb]; exact hdg) t
  simp only [arrV_size] at h1
  exact h1 st
theorem vx_fastZ {D : va_G} {cl : List vw_C} {ws : va_W} {tys : List (ClassId × FieldType)} {a : Nat} (hexec : p.tables.exec = Jvm.exec) (hb : c.code = cc) (hK : va_K D cl tys s) (hP : va_P D cl ws H) (q0 t0 : Nat) {cA : ClassId} {n : Nat} {f : Nat → UInt32} (ha : ws[q0]? = some (a, .inl (cA, n, .inr (.inr (.inl f))))) (ht : tys[t0]? = some (cA, .float)) {i : Int32} {x : UInt32} (hout : ¬ vp_in i n) (hdg : decode cc pc = .ok (.fastore, 1))
    (k : ∀ tx : String, tx = (toString "Index " ++ toString i ++ toString " out of bounds for length " ++ toString n : String) → vx_Note p l e R s m args below meth c H locs cells slots Q (F0 m pc ls rest) "java/lang/ArrayIndexOutOfBoundsException" tx) : W p l e R s m args below meth c H locs cells slots Q (F0 m pc ls (.float x :: .int i :: .ref a :: rest)) := by
  intro T hT X
  obtain ⟨t, st, q⟩ := k _ rfl T hT X
  refine ⟨t, ?_, q⟩
  have h1 := X.fastoreOut hexec (by rw [hT]; exact hP q0 _ ha) ((hK.2 t0 _ ht).1 n (fun j => .float (f j))) (j := i) (by show (i < 0 ∨ (arrV _ _ _).slots.size ≤ _); rw [arrV_size]; exact Classical.byContradiction hout) (g := F0 m pc ls (.float x :: .int i :: .ref a :: rest)) rfl (rest := rest) rfl (by rw [hb]; exact hdg) t
  simp only [arrV_size] at h1
  exact h1 st
theorem vx_daldZ {D : va_G} {cl : List vw_C} {ws : va_W} {tys : List (ClassId × FieldType)} {a : Nat} (hexec : p.tables.exec = Jvm.exec) (hb : c.code = cc) (hK : va_K D cl tys s) (hP : va_P D cl ws H) (q0 t0 : Nat) {cA : ClassId} {n : Nat} {f : Nat → UInt64} (ha : ws[q0]? = some (a, .inl (cA, n, .inr (.inr (.inr (.inl f)))))) (ht : tys[t0]? = some (cA, .double)) {i : Int32} (hout : ¬ vp_in i n) (hdg : decode cc pc = .ok (.daload, 1))
    (k : ∀ tx : String, tx = (toString "Index " ++ toString i ++ toString " out of bounds for length " ++ toString n : String) → vx_Note p l e R s m args below meth c H locs cells slots Q (F0 m pc ls rest) "java/lang/ArrayIndexOutOfBoundsException" tx) : W p l e R s m args below meth c H locs cells slots Q (F0 m pc ls (.int i :: .ref a :: rest)) := by
  intro T hT X
  obtain ⟨t, st, q⟩ := k _ rfl T hT X
  refine ⟨t, ?_, q⟩
  have h1 := X.daloadOut hexec (by rw [hT]; exact hP q0 _ ha) ((hK.2 t0 _ ht).1 n (fun j => .double (f j))) (j := i) (by show (i < 0 ∨ (arrV _ _ _).slots.size ≤ _); rw [arrV_size]; exact Classical.byContradiction hout) (g := F0 m pc ls (.int i :: .ref a :: rest)) rfl (rest := rest) rfl (by rw [hb]; exact hdg) t
  simp only [arrV_size] at h1
  exact h1 st
theorem vx_dastZ {D : va_G} {cl : List vw_C} {ws : va_W} {tys : List (ClassId × FieldType)} {a : Nat} (hexec : p.tables.exec = Jvm.exec) (hb : c.code = cc) (hK : va_K D cl tys s) (hP : va_P D cl ws H) (q0 t0 : Nat) {cA : ClassId} {n : Nat} {f : Nat → UInt64} (ha : ws[q0]? = some (a, .inl (cA, n, .inr (.inr (.inr (.inl f)))))) (ht : tys[t0]? = some (cA, .double)) {i : Int32} {x : UInt64} (hout : ¬ vp_in i n) (hdg : decode cc pc = .ok (.dastore, 1))
    (k : ∀ tx : String, tx = (toString "Index " ++ toString i ++ toString " out of bounds for length " ++ toString n : String) → vx_Note p l e R s m args below meth c H locs cells slots Q (F0 m pc ls rest) "java/lang/ArrayIndexOutOfBoundsException" tx) : W p l e R s m args below meth c H locs cells slots Q (F0 m pc ls (.double x :: .int i :: .ref a :: rest)) := by
  intro T hT X
  obtain ⟨t, st, q⟩ := k _ rfl T hT X
  refine ⟨t, ?_, q⟩
  have h1 := X.dastoreOut hexec (by rw [hT]; exact hP q0 _ ha) ((hK.2 t0 _ ht).1 n (fun j => .double (f j))) (j := i) (by show (i < 0 ∨ (arrV _ _ _).slots.size ≤ _); rw [arrV_size]; exact Classical.byContradiction hout) (g := F0 m pc ls (.double x :: .int i :: .ref a :: rest)) rfl (rest := rest) rfl (by rw [hb]; exact hdg) t
  simp only [arrV_size] at h1
  exact h1 st
theorem vx_arraylengthN (hexec : p.tables.exec = Jvm.exec) (hb : c.code = cc) (hdg : decode cc pc = .ok (.arraylength, 1)) (k : vx_NoteN p l e R s m args below meth c H locs cells slots Q (F0 m pc ls rest)) : W p l e R s m args below meth c H locs cells slots Q (F0 m pc ls (.null :: rest)) := by
  intro T hT X
  obtain ⟨t, st, q⟩ := k T hT X
  exact ⟨t, X.arraylengthNull hexec (g := F0 m pc ls (.null :: rest)) rfl (rest := rest) rfl (by rw [hb]; exact hdg) t st, q⟩
theorem vx_ialoadN (hexec : p.tables.exec = Jvm.exec) (hb : c.code = cc) {i : Int32} (hdg : decode cc pc = .ok (.iaload, 1)) (k : vx_NoteN p l e R s m args below meth c H locs cells slots Q (F0 m pc ls rest)) : W p l e R s m args below meth c H locs cells slots Q (F0 m pc ls (.int i :: .null :: rest)) := by
  intro T hT X
  obtain ⟨t, st, q⟩ := k T hT X
  exact ⟨t, X.ialoadNull hexec (g := F0 m pc ls (.int i :: .null :: rest)) rfl (rest := rest) rfl (by rw [hb]; exact hdg) t st, q⟩
theorem vx_laloadN (hexec : p.tables.exec = Jvm.exec) (hb : c.code = cc) {i : Int32} (hdg : decode cc pc = .ok (.laload, 1)) (k : vx_NoteN p l e R s m args below meth c H locs cells slots Q (F0 m pc ls rest)) : W p l e R s m args below meth c H locs cells slots Q (F0 m pc ls (.int i :: .null :: rest)) := by
  intro T hT X
  obtain ⟨t, st, q⟩ := k T hT X
  exact ⟨t, X.laloadNull hexec (g := F0 m pc ls (.int i :: .null :: rest)) rfl (rest := rest) rfl (by rw [hb]; exact hdg) t st, q⟩
theorem vx_faloadN (hexec : p.tables.exec = Jvm.exec) (hb : c.code = cc) {i : Int32} (hdg : decode cc pc = .ok (.faload, 1)) (k : vx_NoteN p l e R s m args below meth c H locs cells slots Q (F0 m pc ls rest)) : W p l e R s m args below meth c H locs cells slots Q (F0 m pc ls (.int i :: .null :: rest)) := by
  intro T hT X
  obtain ⟨t, st, q⟩ := k T hT X
  exact ⟨t, X.faloadNull hexec (g := F0 m pc ls (.int i :: .null :: rest)) rfl (rest := rest) rfl (by rw [hb]; exact hdg) t st, q⟩
theorem vx_daloadN (hexec : p.tables.exec = Jvm.exec) (hb : c.code = cc) {i : Int32} (hdg : decode cc pc = .ok (.daload, 1)) (k : vx_NoteN p l e R s m args below meth c H locs cells slots Q (F0 m pc ls rest)) : W p l e R s m args below meth c H locs cells slots Q (F0 m pc ls (.int i :: .null :: rest)) := by
  intro T hT X
  obtain ⟨t, st, q⟩ := k T hT X
  exact ⟨t, X.daloadNull hexec (g := F0 m pc ls (.int i :: .null :: rest)) rfl (rest := rest) rfl (by rw [hb]; exact hdg) t st, q⟩
theorem vx_aaloadN (hexec : p.tables.exec = Jvm.exec) (hb : c.code = cc) {i : Int32} (hdg : decode cc pc = .ok (.aaload, 1)) (k : vx_NoteN p l e R s m args below meth c H locs cells slots Q (F0 m pc ls rest)) : W p l e R s m args below meth c H locs cells slots Q (F0 m pc ls (.int i :: .null :: rest)) := by
  intro T hT X
  obtain ⟨t, st, q⟩ := k T hT X
  exact ⟨t, X.aaloadNull hexec (g := F0 m pc ls (.int i :: .null :: rest)) rfl (rest := rest) rfl (by rw [hb]; exact hdg) t st, q⟩
theorem vx_baloadN (hexec : p.tables.exec = Jvm.exec) (hb : c.code = cc) {i : Int32} (hdg : decode cc pc = .ok (.baload, 1)) (k : vx_NoteN p l e R s m args below meth c H locs cells slots Q (F0 m pc ls rest)) : W p l e R s m args below meth c H locs cells slots Q (F0 m pc ls (.int i :: .null :: rest)) := by
  intro T hT X
  obtain ⟨t, st, q⟩ := k T hT X
  exact ⟨t, X.baloadNull hexec (g := F0 m pc ls (.int i :: .null :: rest)) rfl (rest := rest) rfl (by rw [hb]; exact hdg) t st, q⟩
theorem vx_caloadN (hexec : p.tables.exec = Jvm.exec) (hb : c.code = cc) {i : Int32} (hdg : decode cc pc = .ok (.caload, 1)) (k : vx_NoteN p l e R s m args below meth c H locs cells slots Q (F0 m pc ls rest)) : W p l e R s m args below meth c H locs cells slots Q (F0 m pc ls (.int i :: .null :: rest)) := by
  intro T hT X
  obtain ⟨t, st, q⟩ := k T hT X
  exact ⟨t, X.caloadNull hexec (g := F0 m pc ls (.int i :: .null :: rest)) rfl (rest := rest) rfl (by rw [hb]; exact hdg) t st, q⟩
theorem vx_saloadN (hexec : p.tables.exec = Jvm.exec) (hb : c.code = cc) {i : Int32} (hdg : decode cc pc = .ok (.saload, 1)) (k : vx_NoteN p l e R s m args below meth c H locs cells slots Q (F0 m pc ls rest)) : W p l e R s m args below meth c H locs cells slots Q (F0 m pc ls (.int i :: .null :: rest)) := by
  intro T hT X
  obtain ⟨t, st, q⟩ := k T hT X
  exact ⟨t, X.saloadNull hexec (g := F0 m pc ls (.int i :: .null :: rest)) rfl (rest := rest) rfl (by rw [hb]; exact hdg) t st, q⟩
theorem vx_iastoreN (hexec : p.tables.exec = Jvm.exec) (hb : c.code = cc) {x : Int32} {i : Int32} (hdg : decode cc pc = .ok (.iastore, 1)) (k : vx_NoteN p l e R s m args below meth c H locs cells slots Q (F0 m pc ls rest)) : W p l e R s m args below meth c H locs cells slots Q (F0 m pc ls (.int x :: .int i :: .null :: rest)) := by
  intro T hT X
  obtain ⟨t, st, q⟩ := k T hT X
  exact ⟨t, X.iastoreNull hexec (g := F0 m pc ls (.int x :: .int i :: .null :: rest)) rfl (rest := rest) rfl (by rw [hb]; exact hdg) t st, q⟩
theorem vx_lastoreN (hexec : p.tables.exec = Jvm.exec) (hb : c.code = cc) {x : Int64} {i : Int32} (hdg : decode cc pc = .ok (.lastore, 1)) (k : vx_NoteN p l e R s m args below meth c H locs cells slots Q (F0 m pc ls rest)) : W p l e R s m args below meth c H locs cells slots Q (F0 m pc ls (.long x :: .int i :: .null :: rest)) := by
  intro T hT X
  obtain ⟨t, st, q⟩ := k T hT X
  exact ⟨t, X.lastoreNull hexec (g := F0 m pc ls (.long x :: .int i :: .null :: rest)) rfl (rest := rest) rfl (by rw [hb]; exact hdg) t st, q⟩
theorem vx_fastoreN (hexec : p.tables.exec = Jvm.exec) (hb : c.code = cc) {x : UInt32} {i : Int32} (hdg : decode cc pc = .ok (.fastore, 1)) (k : vx_NoteN p l e R s m args below meth c H locs cells slots Q (F0 m pc ls rest)) : W p l e R s m args below meth c H locs cells slots Q (F0 m pc ls (.float x :: .int i :: .null :: rest)) := by
  intro T hT X
  obtain ⟨t, st, q⟩ := k T hT X
  exact ⟨t, X.fastoreNull hexec (g := F0 m pc ls (.float x :: .int i :: .null :: rest)) rfl (rest := rest) rfl (by rw [hb]; exact hdg) t st, q⟩
theorem vx_dastoreN (hexec : p.tables.exec = Jvm.exec) (hb : c.code = cc) {x : UInt64} {i : Int32} (hdg : decode cc pc = .ok (.dastore, 1)) (k : vx_NoteN p l e R s m args below meth c H locs cells slots Q (F0 m pc ls rest)) : W p l e R s m args below meth c H locs cells slots Q (F0 m pc ls (.double x :: .int i :: .null :: rest)) := by
  intro T hT X
  obtain ⟨t, st, q⟩ := k T hT X
  exact ⟨t, X.dastoreNull hexec (g := F0 m pc ls (.double x :: .int i :: .null :: rest)) rfl (rest := rest) rfl (by rw [hb]; exact hdg) t st, q⟩
theorem vx_bastoreN (hexec : p.tables.exec = Jvm.exec) (hb : c.code = cc) {x : Int32} {i : Int32} (hdg : decode cc pc = .ok (.bastore, 1)) (k : vx_NoteN p l e R s m args below meth c H locs cells slots Q (F0 m pc ls rest)) : W p l e R s m args below meth c H locs cells slots Q (F0 m pc ls (.int x :: .int i :: .null :: rest)) := by
  intro T hT X
  obtain ⟨t, st, q⟩ := k T hT X
  exact ⟨t, X.bastoreNull hexec (g := F0 m pc ls (.int x :: .int i :: .null :: rest)) rfl (rest := rest) rfl (by rw [hb]; exact hdg) t st, q⟩
theorem vx_castoreN (hexec : p.tables.exec = Jvm.exec) (hb : c.code = cc) {x : Int32} {i : Int32} (hdg : decode cc pc = .ok (.castore, 1)) (k : vx_NoteN p l e R s m args below meth c H locs cells slots Q (F0 m pc ls rest)) : W p l e R s m args below meth c H locs cells slots Q (F0 m pc ls (.int x :: .int i :: .null :: rest)) := by
  intro T hT X
  obtain ⟨t, st, q⟩ := k T hT X
  exact ⟨t, X.castoreNull hexec (g := F0 m pc ls (.int x :: .int i :: .null :: rest)) rfl (rest := rest) rfl (by rw [hb]; exact hdg) t st, q⟩
theorem vx_sastoreN (hexec : p.tables.exec = Jvm.exec) (hb : c.code = cc) {x : Int32} {i : Int32} (hdg : decode cc pc = .ok (.sastore, 1)) (k : vx_NoteN p l e R s m args below meth c H locs cells slots Q (F0 m pc ls rest)) : W p l e R s m args below meth c H locs cells slots Q (F0 m pc ls (.int x :: .int i :: .null :: rest)) := by
  intro T hT X
  obtain ⟨t, st, q⟩ := k T hT X
  exact ⟨t, X.sastoreNull hexec (g := F0 m pc ls (.int x :: .int i :: .null :: rest)) rfl (rest := rest) rfl (by rw [hb]; exact hdg) t st, q⟩
theorem vx_invokeN {own C : String} {index maxL : Nat} {y : MethodName} {bytes : ByteArray} {ret : Option FieldType} (hexec : p.tables.exec = Jvm.exec) (hb : c.code = cc) (hown : s.vm.findClass own = some m.cls) (hlink : (Cond.methodLink own index y).before args s = true) (hinst : (Cond.instanceMethod y).before args s = true) (hcode : (Cond.code y bytes maxL ret).before args s = true) (hsel : (Cond.selects C y y).before args s = true)
    (hx : y.cls ≠ "java/lang/invoke/MethodHandle" ∧ y.cls ≠ "java/lang/invoke/VarHandle") {As : List Value} (hlen : (parseMethodDescriptor y.desc).map (fun d => d.parameters.length) = some As.length) (hdg : decode cc pc = .ok (.invokevirtual index, 3))
    (k : vx_NoteN p l e R s m args below meth c H locs cells slots Q (F0 m pc ls rest)) {st0 : List Value} (hst : st0 = As.reverse ++ .null :: rest) : W p l e R s m args below meth c H locs cells slots Q (F0 m pc ls st0) := by
  intro T hT X
  obtain ⟨r0, r, hn, hrm, hstR, hsigR⟩ := va_Decl.of hinst hcode
  obtain ⟨c2, r2, m2, q1, q2, q3, q4, kP, hkP, hkPi⟩ := Cond.selects_spec hsel
  cases hn.symm.trans q3
  have hl9 : As.length = r.sig.parameters.length := by
    rw [hsigR] at hlen
    exact (Option.some.inj hlen).symm
  obtain ⟨vm', X1, st1⟩ := X.invokevirtualNull hexec hown hlink hn hrm hstR hkP hkPi hx (g := F0 m pc ls st0) rfl (argsL := As) (rest := rest) hl9 hst (by rw [hb]; exact hdg)
  obtain ⟨t, st, q⟩ := k (T.setVm vm') hT X1
  exact ⟨t, st1 t st, q⟩
theorem vx_newarrayZ {atype : ArrayType} (hexec : p.tables.exec = Jvm.exec) (hb : c.code = cc) {n : Int32} (h0 : n < 0) (hdg : decode cc pc = .ok (.newarray atype, 2)) (k : ∀ tx : String, tx = toString n → vx_Note p l e R s m args below meth c H locs cells slots Q (F0 m pc ls rest) "java/lang/NegativeArraySizeException" tx) : W p l e R s m args below meth c H locs cells slots Q (F0 m pc ls (.int n :: rest)) := by
  intro T hT X
  obtain ⟨t, st, q⟩ := k _ rfl T hT X
  exact ⟨t, X.newarrayNegative hexec (g := F0 m pc ls (.int n :: rest)) rfl h0 (rest := rest) rfl (by rw [hb]; exact hdg) t st, q⟩
end
end VXM
/-! ===== END ===== -/
end
section
-- the names as printed (starting text)
def RX0 : String := "Doorledger$Audit"
def TX0 : u_T := fun k => match k with
  | 0 => ("Doorledger$Audit", "door", "I", true)
  | 1 => ("Doorledger$Audit", "key", "I", true)
  | 2 => ("Doorledger$Audit", "minute", "I", true)
  | 3 => ("Doorledger$Audit", "letter", "C", true)
  | 4 => ("Doorledger$Audit", "version", "I", true)
  | 5 => ("Doorledger$Audit", "time", "I", true)
  | 6 => ("Doorledger$Audit", "taker", "I", false)
  | _ => ("Doorledger$Audit", "arrivedAt", "I", false)
def tyX0 : Nat → FieldType := fun k => match k with
  | 0 => .int
  | 1 => .int
  | 2 => .int
  | 3 => .char
  | 4 => .int
  | 5 => .int
  | 6 => .int
  | _ => .int
abbrev wsX00 : List Cond := u_ws RX0 TX0 8
theorem nmX0 : ∀ a, a < 8 → ∀ b, b < 8 → a ≠ b → (TX0 a).2.1 ≠ (TX0 b).2.1 := by decide +kernel
theorem tyX0_ok : ∀ k, k < 8 → parseFieldDescriptor (TX0 k).2.2.1 = some (tyX0 k) := by decide +kernel
abbrev cX0_init : ByteArray := prog_2_method_1_code
def yX0_init : MethodName := ⟨RX0, "<init>", "(IIICII)V"⟩
abbrev cX0_isWaitingAt : ByteArray := prog_2_method_2_code
def yX0_isWaitingAt : MethodName := ⟨RX0, "isWaitingAt", "(I)Z"⟩
abbrev cX0_isCarriedBy : ByteArray := prog_2_method_3_code
def yX0_isCarriedBy : MethodName := ⟨RX0, "isCarriedBy", "(I)Z"⟩
abbrev cX0_isInCloud : ByteArray := prog_2_method_4_code
def yX0_isInCloud : MethodName := ⟨RX0, "isInCloud", "()Z"⟩
def RX1 : String := "Doorledger$Bits"
def TX1 : u_T := fun k => match k with
  | _ => ("", "", "", false)
def tyX1 : Nat → FieldType := fun k => match k with
  | _ => .int
abbrev wsX10 : List Cond := u_ws RX1 TX1 0
theorem nmX1 : ∀ a, a < 0 → ∀ b, b < 0 → a ≠ b → (TX1 a).2.1 ≠ (TX1 b).2.1 := by decide +kernel
theorem tyX1_ok : ∀ k, k < 0 → parseFieldDescriptor (TX1 k).2.2.1 = some (tyX1 k) := by decide +kernel
abbrev cX1_ofDouble : ByteArray := prog_3_method_2_code
def yX1_ofDouble : MethodName := ⟨RX1, "ofDouble", "(D)J"⟩
abbrev cX1_ofFloat : ByteArray := prog_3_method_3_code
def yX1_ofFloat : MethodName := ⟨RX1, "ofFloat", "(F)I"⟩
def RX2 : String := "Doorledger$Cloud"
def TX2 : u_T := fun k => match k with
  | 0 => ("Doorledger$Cloud", "changes", "Ljava/util/ArrayList;", true)
  | _ => ("Doorledger$Cloud", "keys", "I", false)
def tyX2 : Nat → FieldType := fun k => match k with
  | 0 => .object "java/util/ArrayList"
  | _ => .int
abbrev wsX20 : List Cond := u_ws RX2 TX2 2
theorem nmX2 : ∀ a, a < 2 → ∀ b, b < 2 → a ≠ b → (TX2 a).2.1 ≠ (TX2 b).2.1 := by decide +kernel
theorem tyX2_ok : ∀ k, k < 2 → parseFieldDescriptor (TX2 k).2.2.1 = some (tyX2 k) := by decide +kernel
abbrev cX2_init : ByteArray := prog_4_method_1_code
def yX2_init : MethodName := ⟨RX2, "<init>", "()V"⟩
abbrev cX2_newest : ByteArray := prog_4_method_2_code
def yX2_newest : MethodName := ⟨RX2, "newest", "()I"⟩
abbrev cX2_newestAt : ByteArray := prog_4_method_3_code
def yX2_newestAt : MethodName := ⟨RX2, "newestAt", "(I)I"⟩
abbrev cX2_keep : ByteArray := prog_4_method_4_code
def yX2_keep : MethodName := ⟨RX2, "keep", "(LDoorledger$KeyState;)I"⟩
abbrev cX2_keyIn : ByteArray := prog_4_method_5_code
def yX2_keyIn : MethodName := ⟨RX2, "keyIn", "(II)LDoorledger$KeyState;"⟩
abbrev cX2_letterIn : ByteArray := prog_4_method_6_code
def yX2_letterIn : MethodName := ⟨RX2, "letterIn", "(IIII)C"⟩
def RX3 : String := "Doorledger$Door"
def TX3 : u_T := fun k => match k with
  | 0 => ("Doorledger$Door", "firstVersion", "I", true)
  | 1 => ("Doorledger$Door", "version", "I", false)
  | 2 => ("Doorledger$Door", "rate", "F", false)
  | 3 => ("Doorledger$Door", "setAt", "I", false)
  | _ => ("Doorledger$Door", "setTo", "I", false)
def tyX3 : Nat → FieldType := fun k => match k with
  | 0 => .int
  | 1 => .int
  | 2 => .float
  | 3 => .int
  | _ => .int
abbrev wsX30 : List Cond := u_ws RX3 TX3 5
theorem nmX3 : ∀ a, a < 5 → ∀ b, b < 5 → a ≠ b → (TX3 a).2.1 ≠ (TX3 b).2.1 := by decide +kernel
theorem tyX3_ok : ∀ k, k < 5 → parseFieldDescriptor (TX3 k).2.2.1 = some (tyX3 k) := by decide +kernel
abbrev cX3_init : ByteArray := prog_5_method_1_code
def yX3_init : MethodName := ⟨RX3, "<init>", "(II)V"⟩
abbrev cX3_driftAt : ByteArray := prog_5_method_2_code
def yX3_driftAt : MethodName := ⟨RX3, "driftAt", "(I)F"⟩
abbrev cX3_minuteAt : ByteArray := prog_5_method_3_code
def yX3_minuteAt : MethodName := ⟨RX3, "minuteAt", "(I)I"⟩
abbrev cX3_setClock : ByteArray := prog_5_method_4_code
def yX3_setClock : MethodName := ⟨RX3, "setClock", "(II)V"⟩
def RX4 : String := "Doorledger$KeyState"
def TX4 : u_T := fun k => match k with
  | 0 => ("Doorledger$KeyState", "key", "I", true)
  | 1 => ("Doorledger$KeyState", "doors", "I", true)
  | 2 => ("Doorledger$KeyState", "from", "I", true)
  | 3 => ("Doorledger$KeyState", "to", "I", true)
  | 4 => ("Doorledger$KeyState", "revoked", "Z", true)
  | _ => ("Doorledger$KeyState", "madeAt", "I", true)
def tyX4 : Nat → FieldType := fun k => match k with
  | 0 => .int
  | 1 => .int
  | 2 => .int
  | 3 => .int
  | 4 => .boolean
  | _ => .int
abbrev wsX40 : List Cond := u_ws RX4 TX4 6
theorem nmX4 : ∀ a, a < 6 → ∀ b, b < 6 → a ≠ b → (TX4 a).2.1 ≠ (TX4 b).2.1 := by decide +kernel
theorem tyX4_ok : ∀ k, k < 6 → parseFieldDescriptor (TX4 k).2.2.1 = some (tyX4 k) := by decide +kernel
abbrev cX4_init : ByteArray := prog_6_method_1_code
def yX4_init : MethodName := ⟨RX4, "<init>", "(IIIIZI)V"⟩
abbrev cX4_letterAt : ByteArray := prog_6_method_2_code
def yX4_letterAt : MethodName := ⟨RX4, "letterAt", "(II)C"⟩
def RX5 : String := "Doorledger$Meeting"
def TX5 : u_T := fun k => match k with
  | 0 => ("Doorledger$Meeting", "phone", "I", true)
  | 1 => ("Doorledger$Meeting", "door", "I", true)
  | _ => ("Doorledger$Meeting", "cloudVersion", "I", true)
def tyX5 : Nat → FieldType := fun k => match k with
  | 0 => .int
  | 1 => .int
  | _ => .int
abbrev wsX50 : List Cond := u_ws RX5 TX5 3
theorem nmX5 : ∀ a, a < 3 → ∀ b, b < 3 → a ≠ b → (TX5 a).2.1 ≠ (TX5 b).2.1 := by decide +kernel
theorem tyX5_ok : ∀ k, k < 3 → parseFieldDescriptor (TX5 k).2.2.1 = some (tyX5 k) := by decide +kernel
abbrev cX5_init : ByteArray := prog_7_method_1_code
def yX5_init : MethodName := ⟨RX5, "<init>", "(III)V"⟩
def RX6 : String := "Doorledger$Meetings"
def TX6 : u_T := fun k => match k with
  | 0 => ("Doorledger$Meetings", "kept", "Ljava/util/ArrayList;", true)
  | _ => ("Doorledger$Meetings", "onPhones", "[I", true)
def tyX6 : Nat → FieldType := fun k => match k with
  | 0 => .object "java/util/ArrayList"
  | _ => .array .int
abbrev wsX60 : List Cond := u_ws RX6 TX6 2
theorem nmX6 : ∀ a, a < 2 → ∀ b, b < 2 → a ≠ b → (TX6 a).2.1 ≠ (TX6 b).2.1 := by decide +kernel
theorem tyX6_ok : ∀ k, k < 2 → parseFieldDescriptor (TX6 k).2.2.1 = some (tyX6 k) := by decide +kernel
abbrev cX6_init : ByteArray := prog_8_method_1_code
def yX6_init : MethodName := ⟨RX6, "<init>", "()V"⟩
abbrev cX6_keep : ByteArray := prog_8_method_2_code
def yX6_keep : MethodName := ⟨RX6, "keep", "(LDoorledger$Meeting;)V"⟩
abbrev cX6_replay : ByteArray := prog_8_method_3_code
def yX6_replay : MethodName := ⟨RX6, "replay", "(II)I"⟩
def RX7 : String := "Doorledger$Phone"
def TX7 : u_T := fun k => match k with
  | _ => ("Doorledger$Phone", "version", "I", false)
def tyX7 : Nat → FieldType := fun k => match k with
  | _ => .int
abbrev wsX70 : List Cond := u_ws RX7 TX7 1
theorem nmX7 : ∀ a, a < 1 → ∀ b, b < 1 → a ≠ b → (TX7 a).2.1 ≠ (TX7 b).2.1 := by decide +kernel
theorem tyX7_ok : ∀ k, k < 1 → parseFieldDescriptor (TX7 k).2.2.1 = some (tyX7 k) := by decide +kernel
abbrev cX7_init : ByteArray := prog_9_method_1_code
def yX7_init : MethodName := ⟨RX7, "<init>", "()V"⟩
def RX8 : String := "Doorledger"
def TX8 : u_T := fun k => match k with
  | 0 => ("Doorledger", "cloud", "LDoorledger$Cloud;", true)
  | 1 => ("Doorledger", "doors", "Ljava/util/ArrayList;", true)
  | 2 => ("Doorledger", "phones", "Ljava/util/ArrayList;", true)
  | 3 => ("Doorledger", "audits", "Ljava/util/ArrayList;", true)
  | 4 => ("Doorledger", "meetings", "LDoorledger$Meetings;", true)
  | _ => ("Doorledger", "now", "I", false)
def tyX8 : Nat → FieldType := fun k => match k with
  | 0 => .object "Doorledger$Cloud"
  | 1 => .object "java/util/ArrayList"
  | 2 => .object "java/util/ArrayList"
  | 3 => .object "java/util/ArrayList"
  | 4 => .object "Doorledger$Meetings"
  | _ => .int
abbrev wsX80 : List Cond := u_ws RX8 TX8 6
theorem nmX8 : ∀ a, a < 6 → ∀ b, b < 6 → a ≠ b → (TX8 a).2.1 ≠ (TX8 b).2.1 := by decide +kernel
theorem tyX8_ok : ∀ k, k < 6 → parseFieldDescriptor (TX8 k).2.2.1 = some (tyX8 k) := by decide +kernel
abbrev cX8_init : ByteArray := prog_1_method_1_code
def yX8_init : MethodName := ⟨RX8, "<init>", "()V"⟩
abbrev cX8_addKey : ByteArray := prog_1_method_2_code
def yX8_addKey : MethodName := ⟨RX8, "addKey", "(III)I"⟩
abbrev cX8_setTimes : ByteArray := prog_1_method_3_code
def yX8_setTimes : MethodName := ⟨RX8, "setTimes", "(III)I"⟩
abbrev cX8_setDoors : ByteArray := prog_1_method_4_code
def yX8_setDoors : MethodName := ⟨RX8, "setDoors", "(II)I"⟩
abbrev cX8_revoke : ByteArray := prog_1_method_5_code
def yX8_revoke : MethodName := ⟨RX8, "revoke", "(I)I"⟩
abbrev cX8_version : ByteArray := prog_1_method_6_code
def yX8_version : MethodName := ⟨RX8, "version", "()I"⟩
abbrev cX8_addDoor : ByteArray := prog_1_method_7_code
def yX8_addDoor : MethodName := ⟨RX8, "addDoor", "()I"⟩
abbrev cX8_setRate : ByteArray := prog_1_method_8_code
def yX8_setRate : MethodName := ⟨RX8, "setRate", "(II)I"⟩
abbrev cX8_addPhone : ByteArray := prog_1_method_9_code
def yX8_addPhone : MethodName := ⟨RX8, "addPhone", "()I"⟩
abbrev cX8_pass : ByteArray := prog_1_method_10_code
def yX8_pass : MethodName := ⟨RX8, "pass", "(I)I"⟩
abbrev cX8_time : ByteArray := prog_1_method_11_code
def yX8_time : MethodName := ⟨RX8, "time", "()I"⟩
abbrev cX8_meetCloud : ByteArray := prog_1_method_12_code
def yX8_meetCloud : MethodName := ⟨RX8, "meetCloud", "(I)I"⟩
abbrev cX8_meetDoor : ByteArray := prog_1_method_13_code
def yX8_meetDoor : MethodName := ⟨RX8, "meetDoor", "(II)I"⟩
abbrev cX8_open : ByteArray := prog_1_method_14_code
def yX8_open : MethodName := ⟨RX8, "open", "(II)C"⟩
abbrev cX8_answer : ByteArray := prog_1_method_15_code
def yX8_answer : MethodName := ⟨RX8, "answer", "(II)C"⟩
abbrev cX8_clock : ByteArray := prog_1_method_16_code
def yX8_clock : MethodName := ⟨RX8, "clock", "(I)I"⟩
abbrev cX8_drifted : ByteArray := prog_1_method_17_code
def yX8_drifted : MethodName := ⟨RX8, "drifted", "(I)F"⟩
abbrev cX8_driftedBits : ByteArray := prog_1_method_18_code
def yX8_driftedBits : MethodName := ⟨RX8, "driftedBits", "(I)I"⟩
abbrev cX8_versionOf : ByteArray := prog_1_method_19_code
def yX8_versionOf : MethodName := ⟨RX8, "versionOf", "(I)I"⟩
abbrev cX8_versionByReplay : ByteArray := prog_1_method_20_code
def yX8_versionByReplay : MethodName := ⟨RX8, "versionByReplay", "(I)I"⟩
abbrev cX8_versionOn : ByteArray := prog_1_method_21_code
def yX8_versionOn : MethodName := ⟨RX8, "versionOn", "(I)I"⟩
abbrev cX8_fromIn : ByteArray := prog_1_method_22_code
def yX8_fromIn : MethodName := ⟨RX8, "fromIn", "(II)I"⟩
abbrev cX8_waiting : ByteArray := prog_1_method_23_code
def yX8_waiting : MethodName := ⟨RX8, "waiting", "(I)I"⟩
abbrev cX8_carried : ByteArray := prog_1_method_24_code
def yX8_carried : MethodName := ⟨RX8, "carried", "(I)I"⟩
abbrev cX8_audits : ByteArray := prog_1_method_25_code
def yX8_audits : MethodName := ⟨RX8, "audits", "()I"⟩
abbrev cX8_letterOf : ByteArray := prog_1_method_26_code
def yX8_letterOf : MethodName := ⟨RX8, "letterOf", "(I)C"⟩
abbrev cX8_letterByList : ByteArray := prog_1_method_27_code
def yX8_letterByList : MethodName := ⟨RX8, "letterByList", "(I)C"⟩
abbrev cX8_minuteOf : ByteArray := prog_1_method_28_code
def yX8_minuteOf : MethodName := ⟨RX8, "minuteOf", "(I)I"⟩
abbrev cX8_versionAt : ByteArray := prog_1_method_29_code
def yX8_versionAt : MethodName := ⟨RX8, "versionAt", "(I)I"⟩
abbrev cX8_hasArrived : ByteArray := prog_1_method_30_code
def yX8_hasArrived : MethodName := ⟨RX8, "hasArrived", "(I)Z"⟩
abbrev cX8_isBreach : ByteArray := prog_1_method_31_code
def yX8_isBreach : MethodName := ⟨RX8, "isBreach", "(I)Z"⟩
abbrev cX8_breaches : ByteArray := prog_1_method_32_code
def yX8_breaches : MethodName := ⟨RX8, "breaches", "()I"⟩
abbrev cX8_breachesAt : ByteArray := prog_1_method_33_code
def yX8_breachesAt : MethodName := ⟨RX8, "breachesAt", "(I)I"⟩
abbrev cX8_delays : ByteArray := prog_1_method_34_code
def yX8_delays : MethodName := ⟨RX8, "delays", "()J"⟩
abbrev cX8_meanDelay : ByteArray := prog_1_method_35_code
def yX8_meanDelay : MethodName := ⟨RX8, "meanDelay", "()D"⟩
abbrev cX8_meanBits : ByteArray := prog_1_method_36_code
def yX8_meanBits : MethodName := ⟨RX8, "meanBits", "()J"⟩
abbrev cX8_arrivedShare : ByteArray := prog_1_method_37_code
def yX8_arrivedShare : MethodName := ⟨RX8, "arrivedShare", "()F"⟩
abbrev cX8_isSound : ByteArray := prog_1_method_38_code
def yX8_isSound : MethodName := ⟨RX8, "isSound", "()Z"⟩
abbrev cX8_checkDoorSet : ByteArray := prog_1_method_39_code
def yX8_checkDoorSet : MethodName := ⟨RX8, "checkDoorSet", "(I)V"⟩
abbrev cX8_checkTimes : ByteArray := prog_1_method_40_code
def yX8_checkTimes : MethodName := ⟨RX8, "checkTimes", "(II)V"⟩
abbrev cX8_checkNotRevoked : ByteArray := prog_1_method_41_code
def yX8_checkNotRevoked : MethodName := ⟨RX8, "checkNotRevoked", "(LDoorledger$KeyState;)V"⟩
abbrev cX8_checkRoomForChange : ByteArray := prog_1_method_42_code
def yX8_checkRoomForChange : MethodName := ⟨RX8, "checkRoomForChange", "()V"⟩
abbrev cX8_presentKey : ByteArray := prog_1_method_43_code
def yX8_presentKey : MethodName := ⟨RX8, "presentKey", "(I)LDoorledger$KeyState;"⟩
abbrev cX8_doorOf : ByteArray := prog_1_method_44_code
def yX8_doorOf : MethodName := ⟨RX8, "doorOf", "(I)LDoorledger$Door;"⟩
abbrev cX8_phoneOf : ByteArray := prog_1_method_45_code
def yX8_phoneOf : MethodName := ⟨RX8, "phoneOf", "(I)LDoorledger$Phone;"⟩
abbrev cX8_auditOf : ByteArray := prog_1_method_46_code
def yX8_auditOf : MethodName := ⟨RX8, "auditOf", "(I)LDoorledger$Audit;"⟩
abbrev cX8_letterAgain : ByteArray := prog_1_method_47_code
def yX8_letterAgain : MethodName := ⟨RX8, "letterAgain", "(LDoorledger$Audit;)C"⟩
abbrev cX8_isToldAsBreach : ByteArray := prog_1_method_48_code
def yX8_isToldAsBreach : MethodName := ⟨RX8, "isToldAsBreach", "(LDoorledger$Audit;)Z"⟩
abbrev cX8_arrivedCount : ByteArray := prog_1_method_49_code
def yX8_arrivedCount : MethodName := ⟨RX8, "arrivedCount", "()I"⟩
abbrev cX8_meanOfDelays : ByteArray := prog_1_method_50_code
def yX8_meanOfDelays : MethodName := ⟨RX8, "meanOfDelays", "()D"⟩
abbrev cX8_areDoorsSound : ByteArray := prog_1_method_51_code
def yX8_areDoorsSound : MethodName := ⟨RX8, "areDoorsSound", "()Z"⟩
abbrev cX8_arePhonesSound : ByteArray := prog_1_method_52_code
def yX8_arePhonesSound : MethodName := ⟨RX8, "arePhonesSound", "()Z"⟩
abbrev cX8_areAuditsSound : ByteArray := prog_1_method_53_code
def yX8_areAuditsSound : MethodName := ⟨RX8, "areAuditsSound", "()Z"⟩
def RX9 : String := "DoorledgerModel"
def TX9 : u_T := fun k => match k with
  | 0 => ("DoorledgerModel", "thrown", "I", false)
  | 1 => ("DoorledgerModel", "keysIn", "[I", true)
  | 2 => ("DoorledgerModel", "madeAt", "[I", true)
  | 3 => ("DoorledgerModel", "doorsIn", "[[I", true)
  | 4 => ("DoorledgerModel", "fromsIn", "[[I", true)
  | 5 => ("DoorledgerModel", "tosIn", "[[I", true)
  | 6 => ("DoorledgerModel", "revokedIn", "[[Z", true)
  | 7 => ("DoorledgerModel", "version", "I", false)
  | 8 => ("DoorledgerModel", "time", "I", false)
  | 9 => ("DoorledgerModel", "lists", "[I", true)
  | 10 => ("DoorledgerModel", "setAt", "[I", true)
  | 11 => ("DoorledgerModel", "setTo", "[I", true)
  | 12 => ("DoorledgerModel", "phoneLists", "[I", true)
  | 13 => ("DoorledgerModel", "rates", "[F", true)
  | 14 => ("DoorledgerModel", "doors", "I", false)
  | 15 => ("DoorledgerModel", "phones", "I", false)
  | 16 => ("DoorledgerModel", "auditDoors", "[I", true)
  | 17 => ("DoorledgerModel", "auditKeys", "[I", true)
  | 18 => ("DoorledgerModel", "minutes", "[I", true)
  | 19 => ("DoorledgerModel", "auditLists", "[I", true)
  | 20 => ("DoorledgerModel", "times", "[I", true)
  | 21 => ("DoorledgerModel", "takers", "[I", true)
  | 22 => ("DoorledgerModel", "arrivals", "[I", true)
  | 23 => ("DoorledgerModel", "letters", "[C", true)
  | _ => ("DoorledgerModel", "audits", "I", false)
def tyX9 : Nat → FieldType := fun k => match k with
  | 0 => .int
  | 1 => .array .int
  | 2 => .array .int
  | 3 => .array (.array .int)
  | 4 => .array (.array .int)
  | 5 => .array (.array .int)
  | 6 => .array (.array .boolean)
  | 7 => .int
  | 8 => .int
  | 9 => .array .int
  | 10 => .array .int
  | 11 => .array .int
  | 12 => .array .int
  | 13 => .array .float
  | 14 => .int
  | 15 => .int
  | 16 => .array .int
  | 17 => .array .int
  | 18 => .array .int
  | 19 => .array .int
  | 20 => .array .int
  | 21 => .array .int
  | 22 => .array .int
  | 23 => .array .char
  | _ => .int
abbrev wsX90 : List Cond := u_ws RX9 TX9 25
theorem nmX9 : ∀ a, a < 25 → ∀ b, b < 25 → a ≠ b → (TX9 a).2.1 ≠ (TX9 b).2.1 := by decide +kernel
theorem tyX9_ok : ∀ k, k < 25 → parseFieldDescriptor (TX9 k).2.2.1 = some (tyX9 k) := by decide +kernel
abbrev cX9_init : ByteArray := prog_11_method_1_code
def yX9_init : MethodName := ⟨RX9, "<init>", "()V"⟩
abbrev cX9_thrown : ByteArray := prog_11_method_2_code
def yX9_thrown : MethodName := ⟨RX9, "thrown", "()I"⟩
abbrev cX9_fails : ByteArray := prog_11_method_3_code
def yX9_fails : MethodName := ⟨RX9, "fails", "(I)I"⟩
abbrev cX9_isBetween : ByteArray := prog_11_method_5_code
def yX9_isBetween : MethodName := ⟨RX9, "isBetween", "(III)Z"⟩
abbrev cX9_isKey : ByteArray := prog_11_method_6_code
def yX9_isKey : MethodName := ⟨RX9, "isKey", "(I)Z"⟩
abbrev cX9_isDoor : ByteArray := prog_11_method_7_code
def yX9_isDoor : MethodName := ⟨RX9, "isDoor", "(I)Z"⟩
abbrev cX9_isPhone : ByteArray := prog_11_method_8_code
def yX9_isPhone : MethodName := ⟨RX9, "isPhone", "(I)Z"⟩
abbrev cX9_isAudit : ByteArray := prog_11_method_9_code
def yX9_isAudit : MethodName := ⟨RX9, "isAudit", "(I)Z"⟩
abbrev cX9_areTimes : ByteArray := prog_11_method_10_code
def yX9_areTimes : MethodName := ⟨RX9, "areTimes", "(II)Z"⟩
abbrev cX9_changes : ByteArray := prog_11_method_11_code
def yX9_changes : MethodName := ⟨RX9, "changes", "()V"⟩
abbrev cX9_addKey : ByteArray := prog_11_method_12_code
def yX9_addKey : MethodName := ⟨RX9, "addKey", "(III)I"⟩
abbrev cX9_isStuck : ByteArray := prog_11_method_13_code
def yX9_isStuck : MethodName := ⟨RX9, "isStuck", "(I)Z"⟩
abbrev cX9_setTimes : ByteArray := prog_11_method_14_code
def yX9_setTimes : MethodName := ⟨RX9, "setTimes", "(III)I"⟩
abbrev cX9_setDoors : ByteArray := prog_11_method_15_code
def yX9_setDoors : MethodName := ⟨RX9, "setDoors", "(II)I"⟩
abbrev cX9_revoke : ByteArray := prog_11_method_16_code
def yX9_revoke : MethodName := ⟨RX9, "revoke", "(I)I"⟩
abbrev cX9_version : ByteArray := prog_11_method_17_code
def yX9_version : MethodName := ⟨RX9, "version", "()I"⟩
abbrev cX9_addDoor : ByteArray := prog_11_method_18_code
def yX9_addDoor : MethodName := ⟨RX9, "addDoor", "()I"⟩
abbrev cX9_driftedOf : ByteArray := prog_11_method_19_code
def yX9_driftedOf : MethodName := ⟨RX9, "driftedOf", "(I)F"⟩
abbrev cX9_clockOf : ByteArray := prog_11_method_20_code
def yX9_clockOf : MethodName := ⟨RX9, "clockOf", "(I)I"⟩
abbrev cX9_sets : ByteArray := prog_11_method_21_code
def yX9_sets : MethodName := ⟨RX9, "sets", "(II)V"⟩
abbrev cX9_setRate : ByteArray := prog_11_method_22_code
def yX9_setRate : MethodName := ⟨RX9, "setRate", "(II)I"⟩
abbrev cX9_addPhone : ByteArray := prog_11_method_23_code
def yX9_addPhone : MethodName := ⟨RX9, "addPhone", "()I"⟩
abbrev cX9_pass : ByteArray := prog_11_method_24_code
def yX9_pass : MethodName := ⟨RX9, "pass", "(I)I"⟩
abbrev cX9_time : ByteArray := prog_11_method_25_code
def yX9_time : MethodName := ⟨RX9, "time", "()I"⟩
abbrev cX9_meetCloud : ByteArray := prog_11_method_26_code
def yX9_meetCloud : MethodName := ⟨RX9, "meetCloud", "(I)I"⟩
abbrev cX9_meetDoor : ByteArray := prog_11_method_27_code
def yX9_meetDoor : MethodName := ⟨RX9, "meetDoor", "(II)I"⟩
abbrev cX9_letter : ByteArray := prog_11_method_28_code
def yX9_letter : MethodName := ⟨RX9, "letter", "(IIII)C"⟩
abbrev cX9_isNone : ByteArray := prog_11_method_29_code
def yX9_isNone : MethodName := ⟨RX9, "isNone", "(II)Z"⟩
abbrev cX9_open : ByteArray := prog_11_method_30_code
def yX9_open : MethodName := ⟨RX9, "open", "(II)C"⟩
abbrev cX9_answer : ByteArray := prog_11_method_31_code
def yX9_answer : MethodName := ⟨RX9, "answer", "(II)C"⟩
abbrev cX9_isNowhere : ByteArray := prog_11_method_32_code
def yX9_isNowhere : MethodName := ⟨RX9, "isNowhere", "(I)Z"⟩
abbrev cX9_clock : ByteArray := prog_11_method_33_code
def yX9_clock : MethodName := ⟨RX9, "clock", "(I)I"⟩
abbrev cX9_drifted : ByteArray := prog_11_method_34_code
def yX9_drifted : MethodName := ⟨RX9, "drifted", "(I)F"⟩
abbrev cX9_driftedBits : ByteArray := prog_11_method_35_code
def yX9_driftedBits : MethodName := ⟨RX9, "driftedBits", "(I)I"⟩
abbrev cX9_versionOf : ByteArray := prog_11_method_36_code
def yX9_versionOf : MethodName := ⟨RX9, "versionOf", "(I)I"⟩
abbrev cX9_versionByReplay : ByteArray := prog_11_method_37_code
def yX9_versionByReplay : MethodName := ⟨RX9, "versionByReplay", "(I)I"⟩
abbrev cX9_versionOn : ByteArray := prog_11_method_38_code
def yX9_versionOn : MethodName := ⟨RX9, "versionOn", "(I)I"⟩
abbrev cX9_fromIn : ByteArray := prog_11_method_39_code
def yX9_fromIn : MethodName := ⟨RX9, "fromIn", "(II)I"⟩
abbrev cX9_waiting : ByteArray := prog_11_method_40_code
def yX9_waiting : MethodName := ⟨RX9, "waiting", "(I)I"⟩
abbrev cX9_carried : ByteArray := prog_11_method_41_code
def yX9_carried : MethodName := ⟨RX9, "carried", "(I)I"⟩
abbrev cX9_audits : ByteArray := prog_11_method_42_code
def yX9_audits : MethodName := ⟨RX9, "audits", "()I"⟩
abbrev cX9_isNoAudit : ByteArray := prog_11_method_43_code
def yX9_isNoAudit : MethodName := ⟨RX9, "isNoAudit", "(I)Z"⟩
abbrev cX9_letterOf : ByteArray := prog_11_method_44_code
def yX9_letterOf : MethodName := ⟨RX9, "letterOf", "(I)C"⟩
abbrev cX9_letterByList : ByteArray := prog_11_method_45_code
def yX9_letterByList : MethodName := ⟨RX9, "letterByList", "(I)C"⟩
abbrev cX9_minuteOf : ByteArray := prog_11_method_46_code
def yX9_minuteOf : MethodName := ⟨RX9, "minuteOf", "(I)I"⟩
abbrev cX9_versionAt : ByteArray := prog_11_method_47_code
def yX9_versionAt : MethodName := ⟨RX9, "versionAt", "(I)I"⟩
abbrev cX9_hasArrived : ByteArray := prog_11_method_48_code
def yX9_hasArrived : MethodName := ⟨RX9, "hasArrived", "(I)Z"⟩
abbrev cX9_isBroken : ByteArray := prog_11_method_49_code
def yX9_isBroken : MethodName := ⟨RX9, "isBroken", "(I)Z"⟩
abbrev cX9_isBreach : ByteArray := prog_11_method_50_code
def yX9_isBreach : MethodName := ⟨RX9, "isBreach", "(I)Z"⟩
abbrev cX9_breaches : ByteArray := prog_11_method_51_code
def yX9_breaches : MethodName := ⟨RX9, "breaches", "()I"⟩
abbrev cX9_breachesAt : ByteArray := prog_11_method_52_code
def yX9_breachesAt : MethodName := ⟨RX9, "breachesAt", "(I)I"⟩
abbrev cX9_arrivedMany : ByteArray := prog_11_method_53_code
def yX9_arrivedMany : MethodName := ⟨RX9, "arrivedMany", "()I"⟩
abbrev cX9_delaySum : ByteArray := prog_11_method_54_code
def yX9_delaySum : MethodName := ⟨RX9, "delaySum", "()J"⟩
abbrev cX9_delays : ByteArray := prog_11_method_55_code
def yX9_delays : MethodName := ⟨RX9, "delays", "()J"⟩
abbrev cX9_mean : ByteArray := prog_11_method_56_code
def yX9_mean : MethodName := ⟨RX9, "mean", "()D"⟩
abbrev cX9_meanDelay : ByteArray := prog_11_method_57_code
def yX9_meanDelay : MethodName := ⟨RX9, "meanDelay", "()D"⟩
abbrev cX9_meanBits : ByteArray := prog_11_method_58_code
def yX9_meanBits : MethodName := ⟨RX9, "meanBits", "()J"⟩
abbrev cX9_arrivedShare : ByteArray := prog_11_method_59_code
def yX9_arrivedShare : MethodName := ⟨RX9, "arrivedShare", "()F"⟩
abbrev cX9_isSound : ByteArray := prog_11_method_60_code
def yX9_isSound : MethodName := ⟨RX9, "isSound", "()Z"⟩
def RJx145de : String := "java/io/Serializable"
def TJx145de : u_T := fun k => match k with
  | _ => ("", "", "", false)
def tyJx145de : Nat → FieldType := fun k => match k with
  | _ => .int
abbrev wsJx145de0 : List Cond := u_ws RJx145de TJx145de 0
theorem nmJx145de : ∀ a, a < 0 → ∀ b, b < 0 → a ≠ b → (TJx145de a).2.1 ≠ (TJx145de b).2.1 := by decide +kernel
theorem tyJx145de_ok : ∀ k, k < 0 → parseFieldDescriptor (TJx145de k).2.2.1 = some (tyJx145de k) := by decide +kernel
def RJx00060 : String := "java/lang/ArrayIndexOutOfBoundsException"
def TJx00060 : u_T := fun k => match k with
  | 0 => ("java/lang/Throwable", "backtrace", "Ljava/lang/Object;", false)
  | 1 => ("java/lang/Throwable", "detailMessage", "Ljava/lang/String;", false)
  | 2 => ("java/lang/Throwable", "cause", "Ljava/lang/Throwable;", false)
  | 3 => ("java/lang/Throwable", "stackTrace", "[Ljava/lang/StackTraceElement;", false)
  | 4 => ("java/lang/Throwable", "depth", "I", false)
  | _ => ("java/lang/Throwable", "suppressedExceptions", "Ljava/util/List;", false)
def tyJx00060 : Nat → FieldType := fun k => match k with
  | 0 => .object "java/lang/Object"
  | 1 => .object "java/lang/String"
  | 2 => .object "java/lang/Throwable"
  | 3 => .array (.object "java/lang/StackTraceElement")
  | 4 => .int
  | _ => .object "java/util/List"
abbrev wsJx000600 : List Cond := u_ws RJx00060 TJx00060 6
theorem nmJx00060 : ∀ a, a < 6 → ∀ b, b < 6 → a ≠ b → (TJx00060 a).2.1 ≠ (TJx00060 b).2.1 := by decide +kernel
theorem tyJx00060_ok : ∀ k, k < 6 → parseFieldDescriptor (TJx00060 k).2.2.1 = some (tyJx00060 k) := by decide +kernel
abbrev cJx00060_init_a7421 : ByteArray := prog_14_method_2_code
def yJx00060_init_a7421 : MethodName := ⟨RJx00060, "<init>", "(Ljava/lang/String;)V"⟩
def RJx8e188 : String := "java/lang/Cloneable"
def TJx8e188 : u_T := fun k => match k with
  | _ => ("", "", "", false)
def tyJx8e188 : Nat → FieldType := fun k => match k with
  | _ => .int
abbrev wsJx8e1880 : List Cond := u_ws RJx8e188 TJx8e188 0
theorem nmJx8e188 : ∀ a, a < 0 → ∀ b, b < 0 → a ≠ b → (TJx8e188 a).2.1 ≠ (TJx8e188 b).2.1 := by decide +kernel
theorem tyJx8e188_ok : ∀ k, k < 0 → parseFieldDescriptor (TJx8e188 k).2.2.1 = some (tyJx8e188 k) := by decide +kernel
def RJxb160c : String := "java/lang/Comparable"
def TJxb160c : u_T := fun k => match k with
  | _ => ("", "", "", false)
def tyJxb160c : Nat → FieldType := fun k => match k with
  | _ => .int
abbrev wsJxb160c0 : List Cond := u_ws RJxb160c TJxb160c 0
theorem nmJxb160c : ∀ a, a < 0 → ∀ b, b < 0 → a ≠ b → (TJxb160c a).2.1 ≠ (TJxb160c b).2.1 := by decide +kernel
theorem tyJxb160c_ok : ∀ k, k < 0 → parseFieldDescriptor (TJxb160c k).2.2.1 = some (tyJxb160c k) := by decide +kernel
def RJxe99ae : String := "java/lang/Double"
def TJxe99ae : u_T := fun k => match k with
  | _ => ("", "", "", false)
def tyJxe99ae : Nat → FieldType := fun k => match k with
  | _ => .int
abbrev wsJxe99ae0 : List Cond := u_ws RJxe99ae TJxe99ae 0
theorem nmJxe99ae : ∀ a, a < 0 → ∀ b, b < 0 → a ≠ b → (TJxe99ae a).2.1 ≠ (TJxe99ae b).2.1 := by decide +kernel
theorem tyJxe99ae_ok : ∀ k, k < 0 → parseFieldDescriptor (TJxe99ae k).2.2.1 = some (tyJxe99ae k) := by decide +kernel
abbrev cJxe99ae_isNaN_b9ae7 : ByteArray := prog_17_method_6_code
def yJxe99ae_isNaN_b9ae7 : MethodName := ⟨RJxe99ae, "isNaN", "(D)Z"⟩
abbrev cJxe99ae_doubleToLongBits_ccdee : ByteArray := prog_17_method_23_code
def yJxe99ae_doubleToLongBits_ccdee : MethodName := ⟨RJxe99ae, "doubleToLongBits", "(D)J"⟩
def RJxf58ca : String := "java/lang/Float"
def TJxf58ca : u_T := fun k => match k with
  | _ => ("", "", "", false)
def tyJxf58ca : Nat → FieldType := fun k => match k with
  | _ => .int
abbrev wsJxf58ca0 : List Cond := u_ws RJxf58ca TJxf58ca 0
theorem nmJxf58ca : ∀ a, a < 0 → ∀ b, b < 0 → a ≠ b → (TJxf58ca a).2.1 ≠ (TJxf58ca b).2.1 := by decide +kernel
theorem tyJxf58ca_ok : ∀ k, k < 0 → parseFieldDescriptor (TJxf58ca k).2.2.1 = some (tyJxf58ca k) := by decide +kernel
abbrev cJxf58ca_isNaN_12338 : ByteArray := prog_19_method_6_code
def yJxf58ca_isNaN_12338 : MethodName := ⟨RJxf58ca, "isNaN", "(F)Z"⟩
abbrev cJxf58ca_floatToIntBits_5c35a : ByteArray := prog_19_method_24_code
def yJxf58ca_floatToIntBits_5c35a : MethodName := ⟨RJxf58ca, "floatToIntBits", "(F)I"⟩
def RJxab1ab : String := "java/lang/Iterable"
def TJxab1ab : u_T := fun k => match k with
  | _ => ("", "", "", false)
def tyJxab1ab : Nat → FieldType := fun k => match k with
  | _ => .int
abbrev wsJxab1ab0 : List Cond := u_ws RJxab1ab TJxab1ab 0
theorem nmJxab1ab : ∀ a, a < 0 → ∀ b, b < 0 → a ≠ b → (TJxab1ab a).2.1 ≠ (TJxab1ab b).2.1 := by decide +kernel
theorem tyJxab1ab_ok : ∀ k, k < 0 → parseFieldDescriptor (TJxab1ab k).2.2.1 = some (tyJxab1ab k) := by decide +kernel
def RJ9 : String := "java/lang/Math"
def TJ9 : u_T := fun k => match k with
  | _ => ("", "", "", false)
def tyJ9 : Nat → FieldType := fun k => match k with
  | _ => .int
abbrev wsJ90 : List Cond := u_ws RJ9 TJ9 0
theorem nmJ9 : ∀ a, a < 0 → ∀ b, b < 0 → a ≠ b → (TJ9 a).2.1 ≠ (TJ9 b).2.1 := by decide +kernel
theorem tyJ9_ok : ∀ k, k < 0 → parseFieldDescriptor (TJ9 k).2.2.1 = some (tyJ9 k) := by decide +kernel
abbrev cJ9_max_7cf53 : ByteArray := prog_24_method_65_code
def yJ9_max_7cf53 : MethodName := ⟨RJ9, "max", "(II)I"⟩
abbrev cJ9_min_7cf53 : ByteArray := prog_24_method_69_code
def yJ9_min_7cf53 : MethodName := ⟨RJ9, "min", "(II)I"⟩
def RJxd2413 : String := "java/lang/Number"
def TJxd2413 : u_T := fun k => match k with
  | _ => ("", "", "", false)
def tyJxd2413 : Nat → FieldType := fun k => match k with
  | _ => .int
abbrev wsJxd24130 : List Cond := u_ws RJxd2413 TJxd2413 0
theorem nmJxd2413 : ∀ a, a < 0 → ∀ b, b < 0 → a ≠ b → (TJxd2413 a).2.1 ≠ (TJxd2413 b).2.1 := by decide +kernel
theorem tyJxd2413_ok : ∀ k, k < 0 → parseFieldDescriptor (TJxd2413 k).2.2.1 = some (tyJxd2413 k) := by decide +kernel
def RJ0 : String := "java/lang/String"
def TJ0 : u_T := fun k => match k with
  | 0 => ("java/lang/String", "value", "[B", true)
  | _ => ("java/lang/String", "coder", "B", true)
def tyJ0 : Nat → FieldType := fun k => match k with
  | 0 => .array .byte
  | _ => .byte
abbrev wsJ00 : List Cond := u_ws RJ0 TJ0 2
theorem nmJ0 : ∀ a, a < 2 → ∀ b, b < 2 → a ≠ b → (TJ0 a).2.1 ≠ (TJ0 b).2.1 := by decide +kernel
theorem tyJ0_ok : ∀ k, k < 2 → parseFieldDescriptor (TJ0 k).2.2.1 = some (tyJ0 k) := by decide +kernel
def RJ10 : String := "java/lang/System"
def TJ10 : u_T := fun k => match k with
  | _ => ("", "", "", false)
def tyJ10 : Nat → FieldType := fun k => match k with
  | _ => .int
abbrev wsJ100 : List Cond := u_ws RJ10 TJ10 0
theorem nmJ10 : ∀ a, a < 0 → ∀ b, b < 0 → a ≠ b → (TJ10 a).2.1 ≠ (TJ10 b).2.1 := by decide +kernel
theorem tyJ10_ok : ∀ k, k < 0 → parseFieldDescriptor (TJ10 k).2.2.1 = some (tyJ10 k) := by decide +kernel
def RJxfd54e : String := "java/lang/constant/Constable"
def TJxfd54e : u_T := fun k => match k with
  | _ => ("", "", "", false)
def tyJxfd54e : Nat → FieldType := fun k => match k with
  | _ => .int
abbrev wsJxfd54e0 : List Cond := u_ws RJxfd54e TJxfd54e 0
theorem nmJxfd54e : ∀ a, a < 0 → ∀ b, b < 0 → a ≠ b → (TJxfd54e a).2.1 ≠ (TJxfd54e b).2.1 := by decide +kernel
theorem tyJxfd54e_ok : ∀ k, k < 0 → parseFieldDescriptor (TJxfd54e k).2.2.1 = some (tyJxfd54e k) := by decide +kernel
def RJx3cf43 : String := "java/lang/constant/ConstantDesc"
def TJx3cf43 : u_T := fun k => match k with
  | _ => ("", "", "", false)
def tyJx3cf43 : Nat → FieldType := fun k => match k with
  | _ => .int
abbrev wsJx3cf430 : List Cond := u_ws RJx3cf43 TJx3cf43 0
theorem nmJx3cf43 : ∀ a, a < 0 → ∀ b, b < 0 → a ≠ b → (TJx3cf43 a).2.1 ≠ (TJx3cf43 b).2.1 := by decide +kernel
theorem tyJx3cf43_ok : ∀ k, k < 0 → parseFieldDescriptor (TJx3cf43 k).2.2.1 = some (tyJx3cf43 k) := by decide +kernel
def RJxa1e45 : String := "java/util/AbstractCollection"
def TJxa1e45 : u_T := fun k => match k with
  | _ => ("", "", "", false)
def tyJxa1e45 : Nat → FieldType := fun k => match k with
  | _ => .int
abbrev wsJxa1e450 : List Cond := u_ws RJxa1e45 TJxa1e45 0
theorem nmJxa1e45 : ∀ a, a < 0 → ∀ b, b < 0 → a ≠ b → (TJxa1e45 a).2.1 ≠ (TJxa1e45 b).2.1 := by decide +kernel
theorem tyJxa1e45_ok : ∀ k, k < 0 → parseFieldDescriptor (TJxa1e45 k).2.2.1 = some (tyJxa1e45 k) := by decide +kernel
abbrev cJxa1e45_init_da8c8 : ByteArray := prog_32_method_1_code
def yJxa1e45_init_da8c8 : MethodName := ⟨RJxa1e45, "<init>", "()V"⟩
def RJxc12de : String := "java/util/AbstractList"
def TJxc12de : u_T := fun k => match k with
  | _ => ("", "", "", false)
def tyJxc12de : Nat → FieldType := fun k => match k with
  | _ => .int
abbrev wsJxc12de0 : List Cond := u_ws RJxc12de TJxc12de 0
theorem nmJxc12de : ∀ a, a < 0 → ∀ b, b < 0 → a ≠ b → (TJxc12de a).2.1 ≠ (TJxc12de b).2.1 := by decide +kernel
theorem tyJxc12de_ok : ∀ k, k < 0 → parseFieldDescriptor (TJxc12de k).2.2.1 = some (tyJxc12de k) := by decide +kernel
abbrev cJxc12de_init_da8c8 : ByteArray := prog_33_method_1_code
def yJxc12de_init_da8c8 : MethodName := ⟨RJxc12de, "<init>", "()V"⟩
def RJx4a65c : String := "java/util/ArrayList"
def TJx4a65c : u_T := fun k => match k with
  | 0 => ("java/util/AbstractList", "modCount", "I", false)
  | 1 => ("java/util/ArrayList", "elementData", "[Ljava/lang/Object;", false)
  | _ => ("java/util/ArrayList", "size", "I", false)
def tyJx4a65c : Nat → FieldType := fun k => match k with
  | 0 => .int
  | 1 => .array (.object "java/lang/Object")
  | _ => .int
abbrev wsJx4a65c0 : List Cond := u_ws RJx4a65c TJx4a65c 3
theorem nmJx4a65c : ∀ a, a < 3 → ∀ b, b < 3 → a ≠ b → (TJx4a65c a).2.1 ≠ (TJx4a65c b).2.1 := by decide +kernel
theorem tyJx4a65c_ok : ∀ k, k < 3 → parseFieldDescriptor (TJx4a65c k).2.2.1 = some (tyJx4a65c k) := by decide +kernel
abbrev cJx4a65c_init_da8c8 : ByteArray := prog_34_method_2_code
def yJx4a65c_init_da8c8 : MethodName := ⟨RJx4a65c, "<init>", "()V"⟩
abbrev cJx4a65c_grow_92f84 : ByteArray := prog_34_method_6_code
def yJx4a65c_grow_92f84 : MethodName := ⟨RJx4a65c, "grow", "(I)[Ljava/lang/Object;"⟩
abbrev cJx4a65c_grow_d5877 : ByteArray := prog_34_method_7_code
def yJx4a65c_grow_d5877 : MethodName := ⟨RJx4a65c, "grow", "()[Ljava/lang/Object;"⟩
abbrev cJx4a65c_size_8abf5 : ByteArray := prog_34_method_8_code
def yJx4a65c_size_8abf5 : MethodName := ⟨RJx4a65c, "size", "()I"⟩
abbrev cJx4a65c_elementData_915e3 : ByteArray := prog_34_method_18_code
def yJx4a65c_elementData_915e3 : MethodName := ⟨RJx4a65c, "elementData", "(I)Ljava/lang/Object;"⟩
abbrev cJx4a65c_get_915e3 : ByteArray := prog_34_method_20_code
def yJx4a65c_get_915e3 : MethodName := ⟨RJx4a65c, "get", "(I)Ljava/lang/Object;"⟩
abbrev cJx4a65c_add_72be8 : ByteArray := prog_34_method_24_code
def yJx4a65c_add_72be8 : MethodName := ⟨RJx4a65c, "add", "(Ljava/lang/Object;[Ljava/lang/Object;I)V"⟩
abbrev cJx4a65c_add_9ea2d : ByteArray := prog_34_method_25_code
def yJx4a65c_add_9ea2d : MethodName := ⟨RJx4a65c, "add", "(Ljava/lang/Object;)Z"⟩
def RJ7 : String := "java/util/Arrays"
def TJ7 : u_T := fun k => match k with
  | _ => ("", "", "", false)
def tyJ7 : Nat → FieldType := fun k => match k with
  | _ => .int
abbrev wsJ70 : List Cond := u_ws RJ7 TJ7 0
theorem nmJ7 : ∀ a, a < 0 → ∀ b, b < 0 → a ≠ b → (TJ7 a).2.1 ≠ (TJ7 b).2.1 := by decide +kernel
theorem tyJ7_ok : ∀ k, k < 0 → parseFieldDescriptor (TJ7 k).2.2.1 = some (tyJ7 k) := by decide +kernel
abbrev cJ7_fill_53178 : ByteArray := prog_35_method_103_code
def yJ7_fill_53178 : MethodName := ⟨RJ7, "fill", "([II)V"⟩
abbrev cJ7_copyOf_1904c : ByteArray := prog_35_method_119_code
def yJ7_copyOf_1904c : MethodName := ⟨RJ7, "copyOf", "([Ljava/lang/Object;I)[Ljava/lang/Object;"⟩
abbrev cJ7_copyOf_6403c : ByteArray := prog_35_method_120_code
def yJ7_copyOf_6403c : MethodName := ⟨RJ7, "copyOf", "([Ljava/lang/Object;ILjava/lang/Class;)[Ljava/lang/Object;"⟩
def RJx5ef63 : String := "java/util/Collection"
def TJx5ef63 : u_T := fun k => match k with
  | _ => ("", "", "", false)
def tyJx5ef63 : Nat → FieldType := fun k => match k with
  | _ => .int
abbrev wsJx5ef630 : List Cond := u_ws RJx5ef63 TJx5ef63 0
theorem nmJx5ef63 : ∀ a, a < 0 → ∀ b, b < 0 → a ≠ b → (TJx5ef63 a).2.1 ≠ (TJx5ef63 b).2.1 := by decide +kernel
theorem tyJx5ef63_ok : ∀ k, k < 0 → parseFieldDescriptor (TJx5ef63 k).2.2.1 = some (tyJx5ef63 k) := by decide +kernel
def RJxbd725 : String := "java/util/List"
def TJxbd725 : u_T := fun k => match k with
  | _ => ("", "", "", false)
def tyJxbd725 : Nat → FieldType := fun k => match k with
  | _ => .int
abbrev wsJxbd7250 : List Cond := u_ws RJxbd725 TJxbd725 0
theorem nmJxbd725 : ∀ a, a < 0 → ∀ b, b < 0 → a ≠ b → (TJxbd725 a).2.1 ≠ (TJxbd725 b).2.1 := by decide +kernel
theorem tyJxbd725_ok : ∀ k, k < 0 → parseFieldDescriptor (TJxbd725 k).2.2.1 = some (tyJxbd725 k) := by decide +kernel
def RJ15 : String := "java/util/Objects"
def TJ15 : u_T := fun k => match k with
  | _ => ("", "", "", false)
def tyJ15 : Nat → FieldType := fun k => match k with
  | _ => .int
abbrev wsJ150 : List Cond := u_ws RJ15 TJ15 0
theorem nmJ15 : ∀ a, a < 0 → ∀ b, b < 0 → a ≠ b → (TJ15 a).2.1 ≠ (TJ15 b).2.1 := by decide +kernel
theorem tyJ15_ok : ∀ k, k < 0 → parseFieldDescriptor (TJ15 k).2.2.1 = some (tyJ15 k) := by decide +kernel
abbrev cJ15_checkIndex_7cf53 : ByteArray := prog_39_method_17_code
def yJ15_checkIndex_7cf53 : MethodName := ⟨RJ15, "checkIndex", "(II)I"⟩
def RJxf0a74 : String := "java/util/RandomAccess"
def TJxf0a74 : u_T := fun k => match k with
  | _ => ("", "", "", false)
def tyJxf0a74 : Nat → FieldType := fun k => match k with
  | _ => .int
abbrev wsJxf0a740 : List Cond := u_ws RJxf0a74 TJxf0a74 0
theorem nmJxf0a74 : ∀ a, a < 0 → ∀ b, b < 0 → a ≠ b → (TJxf0a74 a).2.1 ≠ (TJxf0a74 b).2.1 := by decide +kernel
theorem tyJxf0a74_ok : ∀ k, k < 0 → parseFieldDescriptor (TJxf0a74 k).2.2.1 = some (tyJxf0a74 k) := by decide +kernel
def RJxa66e6 : String := "java/util/SequencedCollection"
def TJxa66e6 : u_T := fun k => match k with
  | _ => ("", "", "", false)
def tyJxa66e6 : Nat → FieldType := fun k => match k with
  | _ => .int
abbrev wsJxa66e60 : List Cond := u_ws RJxa66e6 TJxa66e6 0
theorem nmJxa66e6 : ∀ a, a < 0 → ∀ b, b < 0 → a ≠ b → (TJxa66e6 a).2.1 ≠ (TJxa66e6 b).2.1 := by decide +kernel
theorem tyJxa66e6_ok : ∀ k, k < 0 → parseFieldDescriptor (TJxa66e6 k).2.2.1 = some (tyJxa66e6 k) := by decide +kernel
def RJ8 : String := "jdk/internal/util/ArraysSupport"
def TJ8 : u_T := fun k => match k with
  | _ => ("", "", "", false)
def tyJ8 : Nat → FieldType := fun k => match k with
  | _ => .int
abbrev wsJ80 : List Cond := u_ws RJ8 TJ8 0
theorem nmJ8 : ∀ a, a < 0 → ∀ b, b < 0 → a ≠ b → (TJ8 a).2.1 ≠ (TJ8 b).2.1 := by decide +kernel
theorem tyJ8_ok : ∀ k, k < 0 → parseFieldDescriptor (TJ8 k).2.2.1 = some (tyJ8 k) := by decide +kernel
abbrev cJ8_newLength_cabcc : ByteArray := prog_42_method_27_code
def yJ8_newLength_cabcc : MethodName := ⟨RJ8, "newLength", "(III)I"⟩
abbrev cJ8_hugeLength_7cf53 : ByteArray := prog_42_method_28_code
def yJ8_hugeLength_7cf53 : MethodName := ⟨RJ8, "hugeLength", "(II)I"⟩
def RJ3 : String := "jdk/internal/util/Preconditions"
def TJ3 : u_T := fun k => match k with
  | _ => ("", "", "", false)
def tyJ3 : Nat → FieldType := fun k => match k with
  | _ => .int
abbrev wsJ30 : List Cond := u_ws RJ3 TJ3 0
theorem nmJ3 : ∀ a, a < 0 → ∀ b, b < 0 → a ≠ b → (TJ3 a).2.1 ≠ (TJ3 b).2.1 := by decide +kernel
theorem tyJ3_ok : ∀ k, k < 0 → parseFieldDescriptor (TJ3 k).2.2.1 = some (tyJ3 k) := by decide +kernel
abbrev cJ3_checkIndex_8e157 : ByteArray := prog_43_method_11_code
def yJ3_checkIndex_8e157 : MethodName := ⟨RJ3, "checkIndex", "(IILjava/util/function/BiFunction;)I"⟩
def RL : String := "DoorledgerLaw"
abbrev cL_addKey : ByteArray := method_3_code
def yL_addKey : MethodName := ⟨RL, "addKey", "(LDoorledger;III[J)I"⟩
abbrev cL_setTimes : ByteArray := method_4_code
def yL_setTimes : MethodName := ⟨RL, "setTimes", "(LDoorledger;III[J)I"⟩
abbrev cL_setDoors : ByteArray := method_5_code
def yL_setDoors : MethodName := ⟨RL, "setDoors", "(LDoorledger;II[J)I"⟩
abbrev cL_revoke : ByteArray := method_6_code
def yL_revoke : MethodName := ⟨RL, "revoke", "(LDoorledger;I[J)I"⟩
abbrev cL_addDoor : ByteArray := method_7_code
def yL_addDoor : MethodName := ⟨RL, "addDoor", "(LDoorledger;[J)I"⟩
abbrev cL_setRate : ByteArray := method_8_code
def yL_setRate : MethodName := ⟨RL, "setRate", "(LDoorledger;II[J)I"⟩
abbrev cL_addPhone : ByteArray := method_9_code
def yL_addPhone : MethodName := ⟨RL, "addPhone", "(LDoorledger;[J)I"⟩
abbrev cL_pass : ByteArray := method_10_code
def yL_pass : MethodName := ⟨RL, "pass", "(LDoorledger;I[J)I"⟩
abbrev cL_meetCloud : ByteArray := method_11_code
def yL_meetCloud : MethodName := ⟨RL, "meetCloud", "(LDoorledger;I[J)I"⟩
abbrev cL_meetDoor : ByteArray := method_12_code
def yL_meetDoor : MethodName := ⟨RL, "meetDoor", "(LDoorledger;II[J)I"⟩
abbrev cL_open : ByteArray := method_13_code
def yL_open : MethodName := ⟨RL, "open", "(LDoorledger;II[J)I"⟩
abbrev cL_answer : ByteArray := method_14_code
def yL_answer : MethodName := ⟨RL, "answer", "(LDoorledger;II[J)I"⟩
abbrev cL_clock : ByteArray := method_15_code
def yL_clock : MethodName := ⟨RL, "clock", "(LDoorledger;I[J)I"⟩
abbrev cL_drifted : ByteArray := method_16_code
def yL_drifted : MethodName := ⟨RL, "drifted", "(LDoorledger;I[D)I"⟩
abbrev cL_driftedBits : ByteArray := method_17_code
def yL_driftedBits : MethodName := ⟨RL, "driftedBits", "(LDoorledger;I[J)I"⟩
abbrev cL_versionOf : ByteArray := method_18_code
def yL_versionOf : MethodName := ⟨RL, "versionOf", "(LDoorledger;I[J)I"⟩
abbrev cL_versionByReplay : ByteArray := method_19_code
def yL_versionByReplay : MethodName := ⟨RL, "versionByReplay", "(LDoorledger;I[J)I"⟩
abbrev cL_versionOn : ByteArray := method_20_code
def yL_versionOn : MethodName := ⟨RL, "versionOn", "(LDoorledger;I[J)I"⟩
abbrev cL_fromIn : ByteArray := method_21_code
def yL_fromIn : MethodName := ⟨RL, "fromIn", "(LDoorledger;II[J)I"⟩
abbrev cL_waiting : ByteArray := method_22_code
def yL_waiting : MethodName := ⟨RL, "waiting", "(LDoorledger;I[J)I"⟩
abbrev cL_carried : ByteArray := method_23_code
def yL_carried : MethodName := ⟨RL, "carried", "(LDoorledger;I[J)I"⟩
abbrev cL_letterOf : ByteArray := method_24_code
def yL_letterOf : MethodName := ⟨RL, "letterOf", "(LDoorledger;I[J)I"⟩
abbrev cL_letterByList : ByteArray := method_25_code
def yL_letterByList : MethodName := ⟨RL, "letterByList", "(LDoorledger;I[J)I"⟩
abbrev cL_minuteOf : ByteArray := method_26_code
def yL_minuteOf : MethodName := ⟨RL, "minuteOf", "(LDoorledger;I[J)I"⟩
abbrev cL_versionAt : ByteArray := method_27_code
def yL_versionAt : MethodName := ⟨RL, "versionAt", "(LDoorledger;I[J)I"⟩
abbrev cL_hasArrived : ByteArray := method_28_code
def yL_hasArrived : MethodName := ⟨RL, "hasArrived", "(LDoorledger;I[J)I"⟩
abbrev cL_isBreach : ByteArray := method_29_code
def yL_isBreach : MethodName := ⟨RL, "isBreach", "(LDoorledger;I[J)I"⟩
abbrev cL_breachesAt : ByteArray := method_30_code
def yL_breachesAt : MethodName := ⟨RL, "breachesAt", "(LDoorledger;I[J)I"⟩
abbrev cL_meanDelay : ByteArray := method_31_code
def yL_meanDelay : MethodName := ⟨RL, "meanDelay", "(LDoorledger;[D)I"⟩
abbrev cL_meanBits : ByteArray := method_32_code
def yL_meanBits : MethodName := ⟨RL, "meanBits", "(LDoorledger;[J)I"⟩
abbrev cL_arrivedShare : ByteArray := method_33_code
def yL_arrivedShare : MethodName := ⟨RL, "arrivedShare", "(LDoorledger;[D)I"⟩
abbrev cL_law : ByteArray := code
def yL_law : MethodName := ⟨RL, "law", "([I)Z"⟩
end
section
-- the decode rows as printed (starting text)
theorem dX0_init_0 : decode cX0_init 0 = .ok (.aload_n 0, 1) := by decide +kernel
theorem dX0_init_1 : decode cX0_init 1 = .ok (.invokespecial 1, 3) := by decide +kernel
theorem dX0_init_4 : decode cX0_init 4 = .ok (.aload_n 0, 1) := by decide +kernel
theorem dX0_init_5 : decode cX0_init 5 = .ok (.iconst (-1), 1) := by decide +kernel
theorem dX0_init_6 : decode cX0_init 6 = .ok (.putfield 9, 3) := by decide +kernel
theorem dX0_init_9 : decode cX0_init 9 = .ok (.aload_n 0, 1) := by decide +kernel
theorem dX0_init_10 : decode cX0_init 10 = .ok (.iconst (-1), 1) := by decide +kernel
theorem dX0_init_11 : decode cX0_init 11 = .ok (.putfield 13, 3) := by decide +kernel
theorem dX0_init_14 : decode cX0_init 14 = .ok (.aload_n 0, 1) := by decide +kernel
theorem dX0_init_15 : decode cX0_init 15 = .ok (.iload_n 1, 1) := by decide +kernel
theorem dX0_init_16 : decode cX0_init 16 = .ok (.putfield 16, 3) := by decide +kernel
theorem dX0_init_19 : decode cX0_init 19 = .ok (.aload_n 0, 1) := by decide +kernel
theorem dX0_init_20 : decode cX0_init 20 = .ok (.iload_n 2, 1) := by decide +kernel
theorem dX0_init_21 : decode cX0_init 21 = .ok (.putfield 19, 3) := by decide +kernel
theorem dX0_init_24 : decode cX0_init 24 = .ok (.aload_n 0, 1) := by decide +kernel
theorem dX0_init_25 : decode cX0_init 25 = .ok (.iload_n 3, 1) := by decide +kernel
theorem dX0_init_26 : decode cX0_init 26 = .ok (.putfield 22, 3) := by decide +kernel
theorem dX0_init_29 : decode cX0_init 29 = .ok (.aload_n 0, 1) := by decide +kernel
theorem dX0_init_30 : decode cX0_init 30 = .ok (.iload 4, 2) := by decide +kernel
theorem dX0_init_32 : decode cX0_init 32 = .ok (.putfield 25, 3) := by decide +kernel
theorem dX0_init_35 : decode cX0_init 35 = .ok (.aload_n 0, 1) := by decide +kernel
theorem dX0_init_36 : decode cX0_init 36 = .ok (.iload 5, 2) := by decide +kernel
theorem dX0_init_38 : decode cX0_init 38 = .ok (.putfield 29, 3) := by decide +kernel
theorem dX0_init_41 : decode cX0_init 41 = .ok (.aload_n 0, 1) := by decide +kernel
theorem dX0_init_42 : decode cX0_init 42 = .ok (.iload 6, 2) := by decide +kernel
theorem dX0_init_44 : decode cX0_init 44 = .ok (.putfield 32, 3) := by decide +kernel
theorem dX0_init_47 : decode cX0_init 47 = .ok (.return_, 1) := by decide +kernel
theorem dX0_isWaitingAt_0 : decode cX0_isWaitingAt 0 = .ok (.aload_n 0, 1) := by decide +kernel
theorem dX0_isWaitingAt_1 : decode cX0_isWaitingAt 1 = .ok (.getfield 16, 3) := by decide +kernel
theorem dX0_isWaitingAt_4 : decode cX0_isWaitingAt 4 = .ok (.iload_n 1, 1) := by decide +kernel
theorem dX0_isWaitingAt_5 : decode cX0_isWaitingAt 5 = .ok (.if_icmp .ne 15, 3) := by decide +kernel
theorem dX0_isWaitingAt_8 : decode cX0_isWaitingAt 8 = .ok (.aload_n 0, 1) := by decide +kernel
theorem dX0_isWaitingAt_9 : decode cX0_isWaitingAt 9 = .ok (.getfield 9, 3) := by decide +kernel
theorem dX0_isWaitingAt_12 : decode cX0_isWaitingAt 12 = .ok (.iconst (-1), 1) := by decide +kernel
theorem dX0_isWaitingAt_13 : decode cX0_isWaitingAt 13 = .ok (.if_icmp .ne 7, 3) := by decide +kernel
theorem dX0_isWaitingAt_16 : decode cX0_isWaitingAt 16 = .ok (.iconst 1, 1) := by decide +kernel
theorem dX0_isWaitingAt_17 : decode cX0_isWaitingAt 17 = .ok (.goto 4, 3) := by decide +kernel
theorem dX0_isWaitingAt_20 : decode cX0_isWaitingAt 20 = .ok (.iconst 0, 1) := by decide +kernel
theorem dX0_isWaitingAt_21 : decode cX0_isWaitingAt 21 = .ok (.ireturn, 1) := by decide +kernel
theorem dX0_isCarriedBy_0 : decode cX0_isCarriedBy 0 = .ok (.aload_n 0, 1) := by decide +kernel
theorem dX0_isCarriedBy_1 : decode cX0_isCarriedBy 1 = .ok (.getfield 9, 3) := by decide +kernel
theorem dX0_isCarriedBy_4 : decode cX0_isCarriedBy 4 = .ok (.iload_n 1, 1) := by decide +kernel
theorem dX0_isCarriedBy_5 : decode cX0_isCarriedBy 5 = .ok (.if_icmp .ne 15, 3) := by decide +kernel
theorem dX0_isCarriedBy_8 : decode cX0_isCarriedBy 8 = .ok (.aload_n 0, 1) := by decide +kernel
theorem dX0_isCarriedBy_9 : decode cX0_isCarriedBy 9 = .ok (.getfield 13, 3) := by decide +kernel
theorem dX0_isCarriedBy_12 : decode cX0_isCarriedBy 12 = .ok (.iconst (-1), 1) := by decide +kernel
theorem dX0_isCarriedBy_13 : decode cX0_isCarriedBy 13 = .ok (.if_icmp .ne 7, 3) := by decide +kernel
theorem dX0_isCarriedBy_16 : decode cX0_isCarriedBy 16 = .ok (.iconst 1, 1) := by decide +kernel
theorem dX0_isCarriedBy_17 : decode cX0_isCarriedBy 17 = .ok (.goto 4, 3) := by decide +kernel
theorem dX0_isCarriedBy_20 : decode cX0_isCarriedBy 20 = .ok (.iconst 0, 1) := by decide +kernel
theorem dX0_isCarriedBy_21 : decode cX0_isCarriedBy 21 = .ok (.ireturn, 1) := by decide +kernel
theorem dX0_isInCloud_0 : decode cX0_isInCloud 0 = .ok (.aload_n 0, 1) := by decide +kernel
theorem dX0_isInCloud_1 : decode cX0_isInCloud 1 = .ok (.getfield 13, 3) := by decide +kernel
theorem dX0_isInCloud_4 : decode cX0_isInCloud 4 = .ok (.iconst (-1), 1) := by decide +kernel
theorem dX0_isInCloud_5 : decode cX0_isInCloud 5 = .ok (.if_icmp .eq 7, 3) := by decide +kernel
theorem dX0_isInCloud_8 : decode cX0_isInCloud 8 = .ok (.iconst 1, 1) := by decide +kernel
theorem dX0_isInCloud_9 : decode cX0_isInCloud 9 = .ok (.goto 4, 3) := by decide +kernel
theorem dX0_isInCloud_12 : decode cX0_isInCloud 12 = .ok (.iconst 0, 1) := by decide +kernel
theorem dX0_isInCloud_13 : decode cX0_isInCloud 13 = .ok (.ireturn, 1) := by decide +kernel
theorem dX1_ofDouble_0 : decode cX1_ofDouble 0 = .ok (.dload_n 0, 1) := by decide +kernel
theorem dX1_ofDouble_1 : decode cX1_ofDouble 1 = .ok (.dconst 0, 1) := by decide +kernel
theorem dX1_ofDouble_2 : decode cX1_ofDouble 2 = .ok (.dcmp .g, 1) := by decide +kernel
theorem dX1_ofDouble_3 : decode cX1_ofDouble 3 = .ok (.ifCond .gt 5, 3) := by decide +kernel
theorem dX1_ofDouble_6 : decode cX1_ofDouble 6 = .ok (.lconst 0, 1) := by decide +kernel
theorem dX1_ofDouble_7 : decode cX1_ofDouble 7 = .ok (.lreturn, 1) := by decide +kernel
theorem dX1_ofDouble_8 : decode cX1_ofDouble 8 = .ok (.dload_n 0, 1) := by decide +kernel
theorem dX1_ofDouble_9 : decode cX1_ofDouble 9 = .ok (.dstore_n 2, 1) := by decide +kernel
theorem dX1_ofDouble_10 : decode cX1_ofDouble 10 = .ok (.iconst 0, 1) := by decide +kernel
theorem dX1_ofDouble_11 : decode cX1_ofDouble 11 = .ok (.istore 4, 2) := by decide +kernel
theorem dX1_ofDouble_13 : decode cX1_ofDouble 13 = .ok (.dload_n 2, 1) := by decide +kernel
theorem dX1_ofDouble_14 : decode cX1_ofDouble 14 = .ok (.ldc2_w 7, 3) := by decide +kernel
theorem dX1_ofDouble_17 : decode cX1_ofDouble 17 = .ok (.dcmp .l, 1) := by decide +kernel
theorem dX1_ofDouble_18 : decode cX1_ofDouble 18 = .ok (.ifCond .lt 22, 3) := by decide +kernel
theorem dX1_ofDouble_21 : decode cX1_ofDouble 21 = .ok (.iload 4, 2) := by decide +kernel
theorem dX1_ofDouble_23 : decode cX1_ofDouble 23 = .ok (.bipush 64, 2) := by decide +kernel
theorem dX1_ofDouble_25 : decode cX1_ofDouble 25 = .ok (.if_icmp .ge 15, 3) := by decide +kernel
theorem dX1_ofDouble_28 : decode cX1_ofDouble 28 = .ok (.dload_n 2, 1) := by decide +kernel
theorem dX1_ofDouble_29 : decode cX1_ofDouble 29 = .ok (.ldc2_w 7, 3) := by decide +kernel
theorem dX1_ofDouble_32 : decode cX1_ofDouble 32 = .ok (.ddiv, 1) := by decide +kernel
theorem dX1_ofDouble_33 : decode cX1_ofDouble 33 = .ok (.dstore_n 2, 1) := by decide +kernel
theorem dX1_ofDouble_34 : decode cX1_ofDouble 34 = .ok (.iinc 4 1, 3) := by decide +kernel
theorem dX1_ofDouble_37 : decode cX1_ofDouble 37 = .ok (.goto (-24), 3) := by decide +kernel
theorem dX1_ofDouble_40 : decode cX1_ofDouble 40 = .ok (.dload_n 2, 1) := by decide +kernel
theorem dX1_ofDouble_41 : decode cX1_ofDouble 41 = .ok (.dconst 1, 1) := by decide +kernel
theorem dX1_ofDouble_42 : decode cX1_ofDouble 42 = .ok (.dcmp .g, 1) := by decide +kernel
theorem dX1_ofDouble_43 : decode cX1_ofDouble 43 = .ok (.ifCond .ge 22, 3) := by decide +kernel
theorem dX1_ofDouble_46 : decode cX1_ofDouble 46 = .ok (.iload 4, 2) := by decide +kernel
theorem dX1_ofDouble_48 : decode cX1_ofDouble 48 = .ok (.bipush (-64), 2) := by decide +kernel
theorem dX1_ofDouble_50 : decode cX1_ofDouble 50 = .ok (.if_icmp .le 15, 3) := by decide +kernel
theorem dX1_ofDouble_53 : decode cX1_ofDouble 53 = .ok (.dload_n 2, 1) := by decide +kernel
theorem dX1_ofDouble_54 : decode cX1_ofDouble 54 = .ok (.ldc2_w 7, 3) := by decide +kernel
theorem dX1_ofDouble_57 : decode cX1_ofDouble 57 = .ok (.dmul, 1) := by decide +kernel
theorem dX1_ofDouble_58 : decode cX1_ofDouble 58 = .ok (.dstore_n 2, 1) := by decide +kernel
theorem dX1_ofDouble_59 : decode cX1_ofDouble 59 = .ok (.iinc 4 (-1), 3) := by decide +kernel
theorem dX1_ofDouble_62 : decode cX1_ofDouble 62 = .ok (.goto (-22), 3) := by decide +kernel
theorem dX1_ofDouble_65 : decode cX1_ofDouble 65 = .ok (.dload_n 2, 1) := by decide +kernel
theorem dX1_ofDouble_66 : decode cX1_ofDouble 66 = .ok (.dconst 1, 1) := by decide +kernel
theorem dX1_ofDouble_67 : decode cX1_ofDouble 67 = .ok (.dsub, 1) := by decide +kernel
theorem dX1_ofDouble_68 : decode cX1_ofDouble 68 = .ok (.ldc2_w 11, 3) := by decide +kernel
theorem dX1_ofDouble_71 : decode cX1_ofDouble 71 = .ok (.dmul, 1) := by decide +kernel
theorem dX1_ofDouble_72 : decode cX1_ofDouble 72 = .ok (.d2l, 1) := by decide +kernel
theorem dX1_ofDouble_73 : decode cX1_ofDouble 73 = .ok (.lstore 5, 2) := by decide +kernel
theorem dX1_ofDouble_75 : decode cX1_ofDouble 75 = .ok (.iload 4, 2) := by decide +kernel
theorem dX1_ofDouble_77 : decode cX1_ofDouble 77 = .ok (.sipush 1023, 3) := by decide +kernel
theorem dX1_ofDouble_80 : decode cX1_ofDouble 80 = .ok (.iadd, 1) := by decide +kernel
theorem dX1_ofDouble_81 : decode cX1_ofDouble 81 = .ok (.i2l, 1) := by decide +kernel
theorem dX1_ofDouble_82 : decode cX1_ofDouble 82 = .ok (.bipush 52, 2) := by decide +kernel
theorem dX1_ofDouble_84 : decode cX1_ofDouble 84 = .ok (.lshl, 1) := by decide +kernel
theorem dX1_ofDouble_85 : decode cX1_ofDouble 85 = .ok (.lload 5, 2) := by decide +kernel
theorem dX1_ofDouble_87 : decode cX1_ofDouble 87 = .ok (.ladd, 1) := by decide +kernel
theorem dX1_ofDouble_88 : decode cX1_ofDouble 88 = .ok (.lreturn, 1) := by decide +kernel
theorem dX1_ofFloat_0 : decode cX1_ofFloat 0 = .ok (.fload_n 0, 1) := by decide +kernel
theorem dX1_ofFloat_1 : decode cX1_ofFloat 1 = .ok (.fconst 0, 1) := by decide +kernel
theorem dX1_ofFloat_2 : decode cX1_ofFloat 2 = .ok (.fcmp .g, 1) := by decide +kernel
theorem dX1_ofFloat_3 : decode cX1_ofFloat 3 = .ok (.ifCond .gt 5, 3) := by decide +kernel
theorem dX1_ofFloat_6 : decode cX1_ofFloat 6 = .ok (.iconst 0, 1) := by decide +kernel
theorem dX1_ofFloat_7 : decode cX1_ofFloat 7 = .ok (.ireturn, 1) := by decide +kernel
theorem dX1_ofFloat_8 : decode cX1_ofFloat 8 = .ok (.fload_n 0, 1) := by decide +kernel
theorem dX1_ofFloat_9 : decode cX1_ofFloat 9 = .ok (.f2d, 1) := by decide +kernel
theorem dX1_ofFloat_10 : decode cX1_ofFloat 10 = .ok (.invokestatic 13, 3) := by decide +kernel
theorem dX1_ofFloat_13 : decode cX1_ofFloat 13 = .ok (.lstore_n 1, 1) := by decide +kernel
theorem dX1_ofFloat_14 : decode cX1_ofFloat 14 = .ok (.lload_n 1, 1) := by decide +kernel
theorem dX1_ofFloat_15 : decode cX1_ofFloat 15 = .ok (.bipush 52, 2) := by decide +kernel
theorem dX1_ofFloat_17 : decode cX1_ofFloat 17 = .ok (.lshr, 1) := by decide +kernel
theorem dX1_ofFloat_18 : decode cX1_ofFloat 18 = .ok (.l2i, 1) := by decide +kernel
theorem dX1_ofFloat_19 : decode cX1_ofFloat 19 = .ok (.sipush 1023, 3) := by decide +kernel
theorem dX1_ofFloat_22 : decode cX1_ofFloat 22 = .ok (.isub, 1) := by decide +kernel
theorem dX1_ofFloat_23 : decode cX1_ofFloat 23 = .ok (.istore_n 3, 1) := by decide +kernel
theorem dX1_ofFloat_24 : decode cX1_ofFloat 24 = .ok (.lload_n 1, 1) := by decide +kernel
theorem dX1_ofFloat_25 : decode cX1_ofFloat 25 = .ok (.bipush 29, 2) := by decide +kernel
theorem dX1_ofFloat_27 : decode cX1_ofFloat 27 = .ok (.lshr, 1) := by decide +kernel
theorem dX1_ofFloat_28 : decode cX1_ofFloat 28 = .ok (.l2i, 1) := by decide +kernel
theorem dX1_ofFloat_29 : decode cX1_ofFloat 29 = .ok (.ldc 17, 2) := by decide +kernel
theorem dX1_ofFloat_31 : decode cX1_ofFloat 31 = .ok (.iand, 1) := by decide +kernel
theorem dX1_ofFloat_32 : decode cX1_ofFloat 32 = .ok (.istore 4, 2) := by decide +kernel
theorem dX1_ofFloat_34 : decode cX1_ofFloat 34 = .ok (.iload_n 3, 1) := by decide +kernel
theorem dX1_ofFloat_35 : decode cX1_ofFloat 35 = .ok (.bipush 127, 2) := by decide +kernel
theorem dX1_ofFloat_37 : decode cX1_ofFloat 37 = .ok (.iadd, 1) := by decide +kernel
theorem dX1_ofFloat_38 : decode cX1_ofFloat 38 = .ok (.bipush 23, 2) := by decide +kernel
theorem dX1_ofFloat_40 : decode cX1_ofFloat 40 = .ok (.ishl, 1) := by decide +kernel
theorem dX1_ofFloat_41 : decode cX1_ofFloat 41 = .ok (.iload 4, 2) := by decide +kernel
theorem dX1_ofFloat_43 : decode cX1_ofFloat 43 = .ok (.iadd, 1) := by decide +kernel
theorem dX1_ofFloat_44 : decode cX1_ofFloat 44 = .ok (.ireturn, 1) := by decide +kernel
theorem dX2_init_0 : decode cX2_init 0 = .ok (.aload_n 0, 1) := by decide +kernel
theorem dX2_init_1 : decode cX2_init 1 = .ok (.invokespecial 1, 3) := by decide +kernel
theorem dX2_init_4 : decode cX2_init 4 = .ok (.aload_n 0, 1) := by decide +kernel
theorem dX2_init_5 : decode cX2_init 5 = .ok (.new 7, 3) := by decide +kernel
theorem dX2_init_8 : decode cX2_init 8 = .ok (.dup, 1) := by decide +kernel
theorem dX2_init_9 : decode cX2_init 9 = .ok (.invokespecial 9, 3) := by decide +kernel
theorem dX2_init_12 : decode cX2_init 12 = .ok (.putfield 10, 3) := by decide +kernel
theorem dX2_init_15 : decode cX2_init 15 = .ok (.aload_n 0, 1) := by decide +kernel
theorem dX2_init_16 : decode cX2_init 16 = .ok (.iconst 0, 1) := by decide +kernel
theorem dX2_init_17 : decode cX2_init 17 = .ok (.putfield 16, 3) := by decide +kernel
theorem dX2_init_20 : decode cX2_init 20 = .ok (.return_, 1) := by decide +kernel
theorem dX2_newest_0 : decode cX2_newest 0 = .ok (.aload_n 0, 1) := by decide +kernel
theorem dX2_newest_1 : decode cX2_newest 1 = .ok (.getfield 10, 3) := by decide +kernel
theorem dX2_newest_4 : decode cX2_newest 4 = .ok (.invokevirtual 20, 3) := by decide +kernel
theorem dX2_newest_7 : decode cX2_newest 7 = .ok (.ireturn, 1) := by decide +kernel
theorem dX2_newestAt_0 : decode cX2_newestAt 0 = .ok (.aload_n 0, 1) := by decide +kernel
theorem dX2_newestAt_1 : decode cX2_newestAt 1 = .ok (.getfield 10, 3) := by decide +kernel
theorem dX2_newestAt_4 : decode cX2_newestAt 4 = .ok (.invokevirtual 20, 3) := by decide +kernel
theorem dX2_newestAt_7 : decode cX2_newestAt 7 = .ok (.istore_n 2, 1) := by decide +kernel
theorem dX2_newestAt_8 : decode cX2_newestAt 8 = .ok (.iload_n 2, 1) := by decide +kernel
theorem dX2_newestAt_9 : decode cX2_newestAt 9 = .ok (.ifCond .le 29, 3) := by decide +kernel
theorem dX2_newestAt_12 : decode cX2_newestAt 12 = .ok (.aload_n 0, 1) := by decide +kernel
theorem dX2_newestAt_13 : decode cX2_newestAt 13 = .ok (.getfield 10, 3) := by decide +kernel
theorem dX2_newestAt_16 : decode cX2_newestAt 16 = .ok (.iload_n 2, 1) := by decide +kernel
theorem dX2_newestAt_17 : decode cX2_newestAt 17 = .ok (.iconst 1, 1) := by decide +kernel
theorem dX2_newestAt_18 : decode cX2_newestAt 18 = .ok (.isub, 1) := by decide +kernel
theorem dX2_newestAt_19 : decode cX2_newestAt 19 = .ok (.invokevirtual 24, 3) := by decide +kernel
theorem dX2_newestAt_22 : decode cX2_newestAt 22 = .ok (.checkcast 28, 3) := by decide +kernel
theorem dX2_newestAt_25 : decode cX2_newestAt 25 = .ok (.getfield 30, 3) := by decide +kernel
theorem dX2_newestAt_28 : decode cX2_newestAt 28 = .ok (.iload_n 1, 1) := by decide +kernel
theorem dX2_newestAt_29 : decode cX2_newestAt 29 = .ok (.if_icmp .le 9, 3) := by decide +kernel
theorem dX2_newestAt_32 : decode cX2_newestAt 32 = .ok (.iinc 2 (-1), 3) := by decide +kernel
theorem dX2_newestAt_35 : decode cX2_newestAt 35 = .ok (.goto (-27), 3) := by decide +kernel
theorem dX2_newestAt_38 : decode cX2_newestAt 38 = .ok (.iload_n 2, 1) := by decide +kernel
theorem dX2_newestAt_39 : decode cX2_newestAt 39 = .ok (.ireturn, 1) := by decide +kernel
theorem dX2_keep_0 : decode cX2_keep 0 = .ok (.aload_n 0, 1) := by decide +kernel
theorem dX2_keep_1 : decode cX2_keep 1 = .ok (.getfield 10, 3) := by decide +kernel
theorem dX2_keep_4 : decode cX2_keep 4 = .ok (.aload_n 1, 1) := by decide +kernel
theorem dX2_keep_5 : decode cX2_keep 5 = .ok (.invokevirtual 33, 3) := by decide +kernel
theorem dX2_keep_8 : decode cX2_keep 8 = .ok (.pop, 1) := by decide +kernel
theorem dX2_keep_9 : decode cX2_keep 9 = .ok (.aload_n 0, 1) := by decide +kernel
theorem dX2_keep_10 : decode cX2_keep 10 = .ok (.getfield 10, 3) := by decide +kernel
theorem dX2_keep_13 : decode cX2_keep 13 = .ok (.invokevirtual 20, 3) := by decide +kernel
theorem dX2_keep_16 : decode cX2_keep 16 = .ok (.ireturn, 1) := by decide +kernel
theorem dX2_keyIn_0 : decode cX2_keyIn 0 = .ok (.iload_n 1, 1) := by decide +kernel
theorem dX2_keyIn_1 : decode cX2_keyIn 1 = .ok (.aload_n 0, 1) := by decide +kernel
theorem dX2_keyIn_2 : decode cX2_keyIn 2 = .ok (.getfield 10, 3) := by decide +kernel
theorem dX2_keyIn_5 : decode cX2_keyIn 5 = .ok (.invokevirtual 20, 3) := by decide +kernel
theorem dX2_keyIn_8 : decode cX2_keyIn 8 = .ok (.invokestatic 37, 3) := by decide +kernel
theorem dX2_keyIn_11 : decode cX2_keyIn 11 = .ok (.istore_n 3, 1) := by decide +kernel
theorem dX2_keyIn_12 : decode cX2_keyIn 12 = .ok (.iload_n 3, 1) := by decide +kernel
theorem dX2_keyIn_13 : decode cX2_keyIn 13 = .ok (.ifCond .le 36, 3) := by decide +kernel
theorem dX2_keyIn_16 : decode cX2_keyIn 16 = .ok (.aload_n 0, 1) := by decide +kernel
theorem dX2_keyIn_17 : decode cX2_keyIn 17 = .ok (.getfield 10, 3) := by decide +kernel
theorem dX2_keyIn_20 : decode cX2_keyIn 20 = .ok (.iload_n 3, 1) := by decide +kernel
theorem dX2_keyIn_21 : decode cX2_keyIn 21 = .ok (.iconst 1, 1) := by decide +kernel
theorem dX2_keyIn_22 : decode cX2_keyIn 22 = .ok (.isub, 1) := by decide +kernel
theorem dX2_keyIn_23 : decode cX2_keyIn 23 = .ok (.invokevirtual 24, 3) := by decide +kernel
theorem dX2_keyIn_26 : decode cX2_keyIn 26 = .ok (.checkcast 28, 3) := by decide +kernel
theorem dX2_keyIn_29 : decode cX2_keyIn 29 = .ok (.astore 4, 2) := by decide +kernel
theorem dX2_keyIn_31 : decode cX2_keyIn 31 = .ok (.aload 4, 2) := by decide +kernel
theorem dX2_keyIn_33 : decode cX2_keyIn 33 = .ok (.getfield 43, 3) := by decide +kernel
theorem dX2_keyIn_36 : decode cX2_keyIn 36 = .ok (.iload_n 2, 1) := by decide +kernel
theorem dX2_keyIn_37 : decode cX2_keyIn 37 = .ok (.if_icmp .ne 6, 3) := by decide +kernel
theorem dX2_keyIn_40 : decode cX2_keyIn 40 = .ok (.aload 4, 2) := by decide +kernel
theorem dX2_keyIn_42 : decode cX2_keyIn 42 = .ok (.areturn, 1) := by decide +kernel
theorem dX2_keyIn_43 : decode cX2_keyIn 43 = .ok (.iinc 3 (-1), 3) := by decide +kernel
theorem dX2_keyIn_46 : decode cX2_keyIn 46 = .ok (.goto (-34), 3) := by decide +kernel
theorem dX2_keyIn_49 : decode cX2_keyIn 49 = .ok (.aconst_null, 1) := by decide +kernel
theorem dX2_keyIn_50 : decode cX2_keyIn 50 = .ok (.areturn, 1) := by decide +kernel
theorem dX2_letterIn_0 : decode cX2_letterIn 0 = .ok (.aload_n 0, 1) := by decide +kernel
theorem dX2_letterIn_1 : decode cX2_letterIn 1 = .ok (.iload_n 1, 1) := by decide +kernel
theorem dX2_letterIn_2 : decode cX2_letterIn 2 = .ok (.iload_n 2, 1) := by decide +kernel
theorem dX2_letterIn_3 : decode cX2_letterIn 3 = .ok (.invokevirtual 46, 3) := by decide +kernel
theorem dX2_letterIn_6 : decode cX2_letterIn 6 = .ok (.astore 5, 2) := by decide +kernel
theorem dX2_letterIn_8 : decode cX2_letterIn 8 = .ok (.aload 5, 2) := by decide +kernel
theorem dX2_letterIn_10 : decode cX2_letterIn 10 = .ok (.ifnonnull 8, 3) := by decide +kernel
theorem dX2_letterIn_13 : decode cX2_letterIn 13 = .ok (.bipush 117, 2) := by decide +kernel
theorem dX2_letterIn_15 : decode cX2_letterIn 15 = .ok (.goto 11, 3) := by decide +kernel
theorem dX2_letterIn_18 : decode cX2_letterIn 18 = .ok (.aload 5, 2) := by decide +kernel
theorem dX2_letterIn_20 : decode cX2_letterIn 20 = .ok (.iload_n 3, 1) := by decide +kernel
theorem dX2_letterIn_21 : decode cX2_letterIn 21 = .ok (.iload 4, 2) := by decide +kernel
theorem dX2_letterIn_23 : decode cX2_letterIn 23 = .ok (.invokevirtual 50, 3) := by decide +kernel
theorem dX2_letterIn_26 : decode cX2_letterIn 26 = .ok (.ireturn, 1) := by decide +kernel
theorem dX3_init_0 : decode cX3_init 0 = .ok (.aload_n 0, 1) := by decide +kernel
theorem dX3_init_1 : decode cX3_init 1 = .ok (.invokespecial 1, 3) := by decide +kernel
theorem dX3_init_4 : decode cX3_init 4 = .ok (.aload_n 0, 1) := by decide +kernel
theorem dX3_init_5 : decode cX3_init 5 = .ok (.fconst 1, 1) := by decide +kernel
theorem dX3_init_6 : decode cX3_init 6 = .ok (.putfield 7, 3) := by decide +kernel
theorem dX3_init_9 : decode cX3_init 9 = .ok (.aload_n 0, 1) := by decide +kernel
theorem dX3_init_10 : decode cX3_init 10 = .ok (.iload_n 1, 1) := by decide +kernel
theorem dX3_init_11 : decode cX3_init 11 = .ok (.putfield 13, 3) := by decide +kernel
theorem dX3_init_14 : decode cX3_init 14 = .ok (.aload_n 0, 1) := by decide +kernel
theorem dX3_init_15 : decode cX3_init 15 = .ok (.iload_n 1, 1) := by decide +kernel
theorem dX3_init_16 : decode cX3_init 16 = .ok (.putfield 17, 3) := by decide +kernel
theorem dX3_init_19 : decode cX3_init 19 = .ok (.aload_n 0, 1) := by decide +kernel
theorem dX3_init_20 : decode cX3_init 20 = .ok (.iload_n 2, 1) := by decide +kernel
theorem dX3_init_21 : decode cX3_init 21 = .ok (.putfield 20, 3) := by decide +kernel
theorem dX3_init_24 : decode cX3_init 24 = .ok (.aload_n 0, 1) := by decide +kernel
theorem dX3_init_25 : decode cX3_init 25 = .ok (.iload_n 2, 1) := by decide +kernel
theorem dX3_init_26 : decode cX3_init 26 = .ok (.putfield 23, 3) := by decide +kernel
theorem dX3_init_29 : decode cX3_init 29 = .ok (.return_, 1) := by decide +kernel
theorem dX3_driftAt_0 : decode cX3_driftAt 0 = .ok (.iload_n 1, 1) := by decide +kernel
theorem dX3_driftAt_1 : decode cX3_driftAt 1 = .ok (.aload_n 0, 1) := by decide +kernel
theorem dX3_driftAt_2 : decode cX3_driftAt 2 = .ok (.getfield 20, 3) := by decide +kernel
theorem dX3_driftAt_5 : decode cX3_driftAt 5 = .ok (.isub, 1) := by decide +kernel
theorem dX3_driftAt_6 : decode cX3_driftAt 6 = .ok (.i2f, 1) := by decide +kernel
theorem dX3_driftAt_7 : decode cX3_driftAt 7 = .ok (.aload_n 0, 1) := by decide +kernel
theorem dX3_driftAt_8 : decode cX3_driftAt 8 = .ok (.getfield 7, 3) := by decide +kernel
theorem dX3_driftAt_11 : decode cX3_driftAt 11 = .ok (.fmul, 1) := by decide +kernel
theorem dX3_driftAt_12 : decode cX3_driftAt 12 = .ok (.freturn, 1) := by decide +kernel
theorem dX3_minuteAt_0 : decode cX3_minuteAt 0 = .ok (.aload_n 0, 1) := by decide +kernel
theorem dX3_minuteAt_1 : decode cX3_minuteAt 1 = .ok (.getfield 23, 3) := by decide +kernel
theorem dX3_minuteAt_4 : decode cX3_minuteAt 4 = .ok (.aload_n 0, 1) := by decide +kernel
theorem dX3_minuteAt_5 : decode cX3_minuteAt 5 = .ok (.iload_n 1, 1) := by decide +kernel
theorem dX3_minuteAt_6 : decode cX3_minuteAt 6 = .ok (.invokevirtual 26, 3) := by decide +kernel
theorem dX3_minuteAt_9 : decode cX3_minuteAt 9 = .ok (.f2i, 1) := by decide +kernel
theorem dX3_minuteAt_10 : decode cX3_minuteAt 10 = .ok (.iadd, 1) := by decide +kernel
theorem dX3_minuteAt_11 : decode cX3_minuteAt 11 = .ok (.ireturn, 1) := by decide +kernel
theorem dX3_setClock_0 : decode cX3_setClock 0 = .ok (.aload_n 0, 1) := by decide +kernel
theorem dX3_setClock_1 : decode cX3_setClock 1 = .ok (.iload_n 1, 1) := by decide +kernel
theorem dX3_setClock_2 : decode cX3_setClock 2 = .ok (.putfield 20, 3) := by decide +kernel
theorem dX3_setClock_5 : decode cX3_setClock 5 = .ok (.aload_n 0, 1) := by decide +kernel
theorem dX3_setClock_6 : decode cX3_setClock 6 = .ok (.iload_n 2, 1) := by decide +kernel
theorem dX3_setClock_7 : decode cX3_setClock 7 = .ok (.putfield 23, 3) := by decide +kernel
theorem dX3_setClock_10 : decode cX3_setClock 10 = .ok (.return_, 1) := by decide +kernel
theorem dX4_init_0 : decode cX4_init 0 = .ok (.aload_n 0, 1) := by decide +kernel
theorem dX4_init_1 : decode cX4_init 1 = .ok (.invokespecial 1, 3) := by decide +kernel
theorem dX4_init_4 : decode cX4_init 4 = .ok (.aload_n 0, 1) := by decide +kernel
theorem dX4_init_5 : decode cX4_init 5 = .ok (.iload_n 1, 1) := by decide +kernel
theorem dX4_init_6 : decode cX4_init 6 = .ok (.putfield 7, 3) := by decide +kernel
theorem dX4_init_9 : decode cX4_init 9 = .ok (.aload_n 0, 1) := by decide +kernel
theorem dX4_init_10 : decode cX4_init 10 = .ok (.iload_n 2, 1) := by decide +kernel
theorem dX4_init_11 : decode cX4_init 11 = .ok (.putfield 13, 3) := by decide +kernel
theorem dX4_init_14 : decode cX4_init 14 = .ok (.aload_n 0, 1) := by decide +kernel
theorem dX4_init_15 : decode cX4_init 15 = .ok (.iload_n 3, 1) := by decide +kernel
theorem dX4_init_16 : decode cX4_init 16 = .ok (.putfield 16, 3) := by decide +kernel
theorem dX4_init_19 : decode cX4_init 19 = .ok (.aload_n 0, 1) := by decide +kernel
theorem dX4_init_20 : decode cX4_init 20 = .ok (.iload 4, 2) := by decide +kernel
theorem dX4_init_22 : decode cX4_init 22 = .ok (.putfield 19, 3) := by decide +kernel
theorem dX4_init_25 : decode cX4_init 25 = .ok (.aload_n 0, 1) := by decide +kernel
theorem dX4_init_26 : decode cX4_init 26 = .ok (.iload 5, 2) := by decide +kernel
theorem dX4_init_28 : decode cX4_init 28 = .ok (.putfield 22, 3) := by decide +kernel
theorem dX4_init_31 : decode cX4_init 31 = .ok (.aload_n 0, 1) := by decide +kernel
theorem dX4_init_32 : decode cX4_init 32 = .ok (.iload 6, 2) := by decide +kernel
theorem dX4_init_34 : decode cX4_init 34 = .ok (.putfield 26, 3) := by decide +kernel
theorem dX4_init_37 : decode cX4_init 37 = .ok (.return_, 1) := by decide +kernel
theorem dX4_letterAt_0 : decode cX4_letterAt 0 = .ok (.aload_n 0, 1) := by decide +kernel
theorem dX4_letterAt_1 : decode cX4_letterAt 1 = .ok (.getfield 22, 3) := by decide +kernel
theorem dX4_letterAt_4 : decode cX4_letterAt 4 = .ok (.ifCond .eq 6, 3) := by decide +kernel
theorem dX4_letterAt_7 : decode cX4_letterAt 7 = .ok (.bipush 114, 2) := by decide +kernel
theorem dX4_letterAt_9 : decode cX4_letterAt 9 = .ok (.ireturn, 1) := by decide +kernel
theorem dX4_letterAt_10 : decode cX4_letterAt 10 = .ok (.aload_n 0, 1) := by decide +kernel
theorem dX4_letterAt_11 : decode cX4_letterAt 11 = .ok (.getfield 13, 3) := by decide +kernel
theorem dX4_letterAt_14 : decode cX4_letterAt 14 = .ok (.iload_n 1, 1) := by decide +kernel
theorem dX4_letterAt_15 : decode cX4_letterAt 15 = .ok (.ishr, 1) := by decide +kernel
theorem dX4_letterAt_16 : decode cX4_letterAt 16 = .ok (.iconst 1, 1) := by decide +kernel
theorem dX4_letterAt_17 : decode cX4_letterAt 17 = .ok (.iand, 1) := by decide +kernel
theorem dX4_letterAt_18 : decode cX4_letterAt 18 = .ok (.ifCond .ne 6, 3) := by decide +kernel
theorem dX4_letterAt_21 : decode cX4_letterAt 21 = .ok (.bipush 100, 2) := by decide +kernel
theorem dX4_letterAt_23 : decode cX4_letterAt 23 = .ok (.ireturn, 1) := by decide +kernel
theorem dX4_letterAt_24 : decode cX4_letterAt 24 = .ok (.iload_n 2, 1) := by decide +kernel
theorem dX4_letterAt_25 : decode cX4_letterAt 25 = .ok (.aload_n 0, 1) := by decide +kernel
theorem dX4_letterAt_26 : decode cX4_letterAt 26 = .ok (.getfield 16, 3) := by decide +kernel
theorem dX4_letterAt_29 : decode cX4_letterAt 29 = .ok (.if_icmp .ge 6, 3) := by decide +kernel
theorem dX4_letterAt_32 : decode cX4_letterAt 32 = .ok (.bipush 101, 2) := by decide +kernel
theorem dX4_letterAt_34 : decode cX4_letterAt 34 = .ok (.ireturn, 1) := by decide +kernel
theorem dX4_letterAt_35 : decode cX4_letterAt 35 = .ok (.iload_n 2, 1) := by decide +kernel
theorem dX4_letterAt_36 : decode cX4_letterAt 36 = .ok (.aload_n 0, 1) := by decide +kernel
theorem dX4_letterAt_37 : decode cX4_letterAt 37 = .ok (.getfield 19, 3) := by decide +kernel
theorem dX4_letterAt_40 : decode cX4_letterAt 40 = .ok (.if_icmp .lt 8, 3) := by decide +kernel
theorem dX4_letterAt_43 : decode cX4_letterAt 43 = .ok (.bipush 108, 2) := by decide +kernel
theorem dX4_letterAt_45 : decode cX4_letterAt 45 = .ok (.goto 5, 3) := by decide +kernel
theorem dX4_letterAt_48 : decode cX4_letterAt 48 = .ok (.bipush 111, 2) := by decide +kernel
theorem dX4_letterAt_50 : decode cX4_letterAt 50 = .ok (.ireturn, 1) := by decide +kernel
theorem dX5_init_0 : decode cX5_init 0 = .ok (.aload_n 0, 1) := by decide +kernel
theorem dX5_init_1 : decode cX5_init 1 = .ok (.invokespecial 1, 3) := by decide +kernel
theorem dX5_init_4 : decode cX5_init 4 = .ok (.aload_n 0, 1) := by decide +kernel
theorem dX5_init_5 : decode cX5_init 5 = .ok (.iload_n 1, 1) := by decide +kernel
theorem dX5_init_6 : decode cX5_init 6 = .ok (.putfield 7, 3) := by decide +kernel
theorem dX5_init_9 : decode cX5_init 9 = .ok (.aload_n 0, 1) := by decide +kernel
theorem dX5_init_10 : decode cX5_init 10 = .ok (.iload_n 2, 1) := by decide +kernel
theorem dX5_init_11 : decode cX5_init 11 = .ok (.putfield 13, 3) := by decide +kernel
theorem dX5_init_14 : decode cX5_init 14 = .ok (.aload_n 0, 1) := by decide +kernel
theorem dX5_init_15 : decode cX5_init 15 = .ok (.iload_n 3, 1) := by decide +kernel
theorem dX5_init_16 : decode cX5_init 16 = .ok (.putfield 16, 3) := by decide +kernel
theorem dX5_init_19 : decode cX5_init 19 = .ok (.return_, 1) := by decide +kernel
theorem dX6_init_0 : decode cX6_init 0 = .ok (.aload_n 0, 1) := by decide +kernel
theorem dX6_init_1 : decode cX6_init 1 = .ok (.invokespecial 3, 3) := by decide +kernel
theorem dX6_init_4 : decode cX6_init 4 = .ok (.aload_n 0, 1) := by decide +kernel
theorem dX6_init_5 : decode cX6_init 5 = .ok (.new 9, 3) := by decide +kernel
theorem dX6_init_8 : decode cX6_init 8 = .ok (.dup, 1) := by decide +kernel
theorem dX6_init_9 : decode cX6_init 9 = .ok (.invokespecial 11, 3) := by decide +kernel
theorem dX6_init_12 : decode cX6_init 12 = .ok (.putfield 12, 3) := by decide +kernel
theorem dX6_init_15 : decode cX6_init 15 = .ok (.aload_n 0, 1) := by decide +kernel
theorem dX6_init_16 : decode cX6_init 16 = .ok (.iconst 3, 1) := by decide +kernel
theorem dX6_init_17 : decode cX6_init 17 = .ok (.newarray .int, 2) := by decide +kernel
theorem dX6_init_19 : decode cX6_init 19 = .ok (.putfield 18, 3) := by decide +kernel
theorem dX6_init_22 : decode cX6_init 22 = .ok (.return_, 1) := by decide +kernel
theorem dX6_keep_0 : decode cX6_keep 0 = .ok (.aload_n 0, 1) := by decide +kernel
theorem dX6_keep_1 : decode cX6_keep 1 = .ok (.getfield 12, 3) := by decide +kernel
theorem dX6_keep_4 : decode cX6_keep 4 = .ok (.invokevirtual 22, 3) := by decide +kernel
theorem dX6_keep_7 : decode cX6_keep 7 = .ok (.sipush 512, 3) := by decide +kernel
theorem dX6_keep_10 : decode cX6_keep 10 = .ok (.if_icmp .ge 12, 3) := by decide +kernel
theorem dX6_keep_13 : decode cX6_keep 13 = .ok (.aload_n 0, 1) := by decide +kernel
theorem dX6_keep_14 : decode cX6_keep 14 = .ok (.getfield 12, 3) := by decide +kernel
theorem dX6_keep_17 : decode cX6_keep 17 = .ok (.aload_n 1, 1) := by decide +kernel
theorem dX6_keep_18 : decode cX6_keep 18 = .ok (.invokevirtual 26, 3) := by decide +kernel
theorem dX6_keep_21 : decode cX6_keep 21 = .ok (.pop, 1) := by decide +kernel
theorem dX6_keep_22 : decode cX6_keep 22 = .ok (.return_, 1) := by decide +kernel
theorem dX6_replay_0 : decode cX6_replay 0 = .ok (.aload_n 0, 1) := by decide +kernel
theorem dX6_replay_1 : decode cX6_replay 1 = .ok (.getfield 18, 3) := by decide +kernel
theorem dX6_replay_4 : decode cX6_replay 4 = .ok (.iconst 0, 1) := by decide +kernel
theorem dX6_replay_5 : decode cX6_replay 5 = .ok (.invokestatic 30, 3) := by decide +kernel
theorem dX6_replay_8 : decode cX6_replay 8 = .ok (.iload_n 2, 1) := by decide +kernel
theorem dX6_replay_9 : decode cX6_replay 9 = .ok (.istore_n 3, 1) := by decide +kernel
theorem dX6_replay_10 : decode cX6_replay 10 = .ok (.iconst 0, 1) := by decide +kernel
theorem dX6_replay_11 : decode cX6_replay 11 = .ok (.istore 4, 2) := by decide +kernel
theorem dX6_replay_13 : decode cX6_replay 13 = .ok (.iload 4, 2) := by decide +kernel
theorem dX6_replay_15 : decode cX6_replay 15 = .ok (.aload_n 0, 1) := by decide +kernel
theorem dX6_replay_16 : decode cX6_replay 16 = .ok (.getfield 12, 3) := by decide +kernel
theorem dX6_replay_19 : decode cX6_replay 19 = .ok (.invokevirtual 22, 3) := by decide +kernel
theorem dX6_replay_22 : decode cX6_replay 22 = .ok (.if_icmp .ge 93, 3) := by decide +kernel
theorem dX6_replay_25 : decode cX6_replay 25 = .ok (.aload_n 0, 1) := by decide +kernel
theorem dX6_replay_26 : decode cX6_replay 26 = .ok (.getfield 12, 3) := by decide +kernel
theorem dX6_replay_29 : decode cX6_replay 29 = .ok (.iload 4, 2) := by decide +kernel
theorem dX6_replay_31 : decode cX6_replay 31 = .ok (.invokevirtual 36, 3) := by decide +kernel
theorem dX6_replay_34 : decode cX6_replay 34 = .ok (.checkcast 40, 3) := by decide +kernel
theorem dX6_replay_37 : decode cX6_replay 37 = .ok (.astore 5, 2) := by decide +kernel
theorem dX6_replay_39 : decode cX6_replay 39 = .ok (.aload 5, 2) := by decide +kernel
theorem dX6_replay_41 : decode cX6_replay 41 = .ok (.getfield 42, 3) := by decide +kernel
theorem dX6_replay_44 : decode cX6_replay 44 = .ok (.istore 6, 2) := by decide +kernel
theorem dX6_replay_46 : decode cX6_replay 46 = .ok (.iload 6, 2) := by decide +kernel
theorem dX6_replay_48 : decode cX6_replay 48 = .ok (.ifCond .lt 61, 3) := by decide +kernel
theorem dX6_replay_51 : decode cX6_replay 51 = .ok (.iload 6, 2) := by decide +kernel
theorem dX6_replay_53 : decode cX6_replay 53 = .ok (.aload_n 0, 1) := by decide +kernel
theorem dX6_replay_54 : decode cX6_replay 54 = .ok (.getfield 18, 3) := by decide +kernel
theorem dX6_replay_57 : decode cX6_replay 57 = .ok (.arraylength, 1) := by decide +kernel
theorem dX6_replay_58 : decode cX6_replay 58 = .ok (.if_icmp .lt 6, 3) := by decide +kernel
theorem dX6_replay_61 : decode cX6_replay 61 = .ok (.goto 48, 3) := by decide +kernel
theorem dX6_replay_64 : decode cX6_replay 64 = .ok (.aload 5, 2) := by decide +kernel
theorem dX6_replay_66 : decode cX6_replay 66 = .ok (.getfield 46, 3) := by decide +kernel
theorem dX6_replay_69 : decode cX6_replay 69 = .ok (.iconst (-1), 1) := by decide +kernel
theorem dX6_replay_70 : decode cX6_replay 70 = .ok (.if_icmp .ne 18, 3) := by decide +kernel
theorem dX6_replay_73 : decode cX6_replay 73 = .ok (.aload_n 0, 1) := by decide +kernel
theorem dX6_replay_74 : decode cX6_replay 74 = .ok (.getfield 18, 3) := by decide +kernel
theorem dX6_replay_77 : decode cX6_replay 77 = .ok (.iload 6, 2) := by decide +kernel
theorem dX6_replay_79 : decode cX6_replay 79 = .ok (.aload 5, 2) := by decide +kernel
theorem dX6_replay_81 : decode cX6_replay 81 = .ok (.getfield 49, 3) := by decide +kernel
theorem dX6_replay_84 : decode cX6_replay 84 = .ok (.iastore, 1) := by decide +kernel
theorem dX6_replay_85 : decode cX6_replay 85 = .ok (.goto 24, 3) := by decide +kernel
theorem dX6_replay_88 : decode cX6_replay 88 = .ok (.aload 5, 2) := by decide +kernel
theorem dX6_replay_90 : decode cX6_replay 90 = .ok (.getfield 46, 3) := by decide +kernel
theorem dX6_replay_93 : decode cX6_replay 93 = .ok (.iload_n 1, 1) := by decide +kernel
theorem dX6_replay_94 : decode cX6_replay 94 = .ok (.if_icmp .ne 15, 3) := by decide +kernel
theorem dX6_replay_97 : decode cX6_replay 97 = .ok (.iload_n 3, 1) := by decide +kernel
theorem dX6_replay_98 : decode cX6_replay 98 = .ok (.aload_n 0, 1) := by decide +kernel
theorem dX6_replay_99 : decode cX6_replay 99 = .ok (.getfield 18, 3) := by decide +kernel
theorem dX6_replay_102 : decode cX6_replay 102 = .ok (.iload 6, 2) := by decide +kernel
theorem dX6_replay_104 : decode cX6_replay 104 = .ok (.iaload, 1) := by decide +kernel
theorem dX6_replay_105 : decode cX6_replay 105 = .ok (.invokestatic 52, 3) := by decide +kernel
theorem dX6_replay_108 : decode cX6_replay 108 = .ok (.istore_n 3, 1) := by decide +kernel
theorem dX6_replay_109 : decode cX6_replay 109 = .ok (.iinc 4 1, 3) := by decide +kernel
theorem dX6_replay_112 : decode cX6_replay 112 = .ok (.goto (-99), 3) := by decide +kernel
theorem dX6_replay_115 : decode cX6_replay 115 = .ok (.iload_n 3, 1) := by decide +kernel
theorem dX6_replay_116 : decode cX6_replay 116 = .ok (.ireturn, 1) := by decide +kernel
theorem dX7_init_0 : decode cX7_init 0 = .ok (.aload_n 0, 1) := by decide +kernel
theorem dX7_init_1 : decode cX7_init 1 = .ok (.invokespecial 1, 3) := by decide +kernel
theorem dX7_init_4 : decode cX7_init 4 = .ok (.aload_n 0, 1) := by decide +kernel
theorem dX7_init_5 : decode cX7_init 5 = .ok (.iconst 0, 1) := by decide +kernel
theorem dX7_init_6 : decode cX7_init 6 = .ok (.putfield 7, 3) := by decide +kernel
theorem dX7_init_9 : decode cX7_init 9 = .ok (.return_, 1) := by decide +kernel
theorem dX8_init_0 : decode cX8_init 0 = .ok (.aload_n 0, 1) := by decide +kernel
theorem dX8_init_1 : decode cX8_init 1 = .ok (.invokespecial 1, 3) := by decide +kernel
theorem dX8_init_4 : decode cX8_init 4 = .ok (.aload_n 0, 1) := by decide +kernel
theorem dX8_init_5 : decode cX8_init 5 = .ok (.new 7, 3) := by decide +kernel
theorem dX8_init_8 : decode cX8_init 8 = .ok (.dup, 1) := by decide +kernel
theorem dX8_init_9 : decode cX8_init 9 = .ok (.invokespecial 9, 3) := by decide +kernel
theorem dX8_init_12 : decode cX8_init 12 = .ok (.putfield 10, 3) := by decide +kernel
theorem dX8_init_15 : decode cX8_init 15 = .ok (.aload_n 0, 1) := by decide +kernel
theorem dX8_init_16 : decode cX8_init 16 = .ok (.new 16, 3) := by decide +kernel
theorem dX8_init_19 : decode cX8_init 19 = .ok (.dup, 1) := by decide +kernel
theorem dX8_init_20 : decode cX8_init 20 = .ok (.invokespecial 18, 3) := by decide +kernel
theorem dX8_init_23 : decode cX8_init 23 = .ok (.putfield 19, 3) := by decide +kernel
theorem dX8_init_26 : decode cX8_init 26 = .ok (.aload_n 0, 1) := by decide +kernel
theorem dX8_init_27 : decode cX8_init 27 = .ok (.new 16, 3) := by decide +kernel
theorem dX8_init_30 : decode cX8_init 30 = .ok (.dup, 1) := by decide +kernel
theorem dX8_init_31 : decode cX8_init 31 = .ok (.invokespecial 18, 3) := by decide +kernel
theorem dX8_init_34 : decode cX8_init 34 = .ok (.putfield 23, 3) := by decide +kernel
theorem dX8_init_37 : decode cX8_init 37 = .ok (.aload_n 0, 1) := by decide +kernel
theorem dX8_init_38 : decode cX8_init 38 = .ok (.new 16, 3) := by decide +kernel
theorem dX8_init_41 : decode cX8_init 41 = .ok (.dup, 1) := by decide +kernel
theorem dX8_init_42 : decode cX8_init 42 = .ok (.invokespecial 18, 3) := by decide +kernel
theorem dX8_init_45 : decode cX8_init 45 = .ok (.putfield 26, 3) := by decide +kernel
theorem dX8_init_48 : decode cX8_init 48 = .ok (.aload_n 0, 1) := by decide +kernel
theorem dX8_init_49 : decode cX8_init 49 = .ok (.new 29, 3) := by decide +kernel
theorem dX8_init_52 : decode cX8_init 52 = .ok (.dup, 1) := by decide +kernel
theorem dX8_init_53 : decode cX8_init 53 = .ok (.invokespecial 31, 3) := by decide +kernel
theorem dX8_init_56 : decode cX8_init 56 = .ok (.putfield 32, 3) := by decide +kernel
theorem dX8_init_59 : decode cX8_init 59 = .ok (.aload_n 0, 1) := by decide +kernel
theorem dX8_init_60 : decode cX8_init 60 = .ok (.iconst 0, 1) := by decide +kernel
theorem dX8_init_61 : decode cX8_init 61 = .ok (.putfield 36, 3) := by decide +kernel
theorem dX8_init_64 : decode cX8_init 64 = .ok (.return_, 1) := by decide +kernel
theorem dX8_addKey_0 : decode cX8_addKey 0 = .ok (.iload_n 1, 1) := by decide +kernel
theorem dX8_addKey_1 : decode cX8_addKey 1 = .ok (.invokestatic 40, 3) := by decide +kernel
theorem dX8_addKey_4 : decode cX8_addKey 4 = .ok (.iload_n 2, 1) := by decide +kernel
theorem dX8_addKey_5 : decode cX8_addKey 5 = .ok (.iload_n 3, 1) := by decide +kernel
theorem dX8_addKey_6 : decode cX8_addKey 6 = .ok (.invokestatic 44, 3) := by decide +kernel
theorem dX8_addKey_9 : decode cX8_addKey 9 = .ok (.aload_n 0, 1) := by decide +kernel
theorem dX8_addKey_10 : decode cX8_addKey 10 = .ok (.getfield 10, 3) := by decide +kernel
theorem dX8_addKey_13 : decode cX8_addKey 13 = .ok (.getfield 48, 3) := by decide +kernel
theorem dX8_addKey_16 : decode cX8_addKey 16 = .ok (.bipush 8, 2) := by decide +kernel
theorem dX8_addKey_18 : decode cX8_addKey 18 = .ok (.if_icmp .lt 13, 3) := by decide +kernel
theorem dX8_addKey_21 : decode cX8_addKey 21 = .ok (.new 51, 3) := by decide +kernel
theorem dX8_addKey_24 : decode cX8_addKey 24 = .ok (.dup, 1) := by decide +kernel
theorem dX8_addKey_25 : decode cX8_addKey 25 = .ok (.ldc 53, 2) := by decide +kernel
theorem dX8_addKey_27 : decode cX8_addKey 27 = .ok (.invokespecial 55, 3) := by decide +kernel
theorem dX8_addKey_30 : decode cX8_addKey 30 = .ok (.athrow, 1) := by decide +kernel
theorem dX8_addKey_31 : decode cX8_addKey 31 = .ok (.aload_n 0, 1) := by decide +kernel
theorem dX8_addKey_32 : decode cX8_addKey 32 = .ok (.invokevirtual 58, 3) := by decide +kernel
theorem dX8_addKey_35 : decode cX8_addKey 35 = .ok (.aload_n 0, 1) := by decide +kernel
theorem dX8_addKey_36 : decode cX8_addKey 36 = .ok (.getfield 10, 3) := by decide +kernel
theorem dX8_addKey_39 : decode cX8_addKey 39 = .ok (.getfield 48, 3) := by decide +kernel
theorem dX8_addKey_42 : decode cX8_addKey 42 = .ok (.istore 4, 2) := by decide +kernel
theorem dX8_addKey_44 : decode cX8_addKey 44 = .ok (.aload_n 0, 1) := by decide +kernel
theorem dX8_addKey_45 : decode cX8_addKey 45 = .ok (.getfield 10, 3) := by decide +kernel
theorem dX8_addKey_48 : decode cX8_addKey 48 = .ok (.dup, 1) := by decide +kernel
theorem dX8_addKey_49 : decode cX8_addKey 49 = .ok (.getfield 48, 3) := by decide +kernel
theorem dX8_addKey_52 : decode cX8_addKey 52 = .ok (.iconst 1, 1) := by decide +kernel
theorem dX8_addKey_53 : decode cX8_addKey 53 = .ok (.iadd, 1) := by decide +kernel
theorem dX8_addKey_54 : decode cX8_addKey 54 = .ok (.putfield 48, 3) := by decide +kernel
theorem dX8_addKey_57 : decode cX8_addKey 57 = .ok (.aload_n 0, 1) := by decide +kernel
theorem dX8_addKey_58 : decode cX8_addKey 58 = .ok (.getfield 10, 3) := by decide +kernel
theorem dX8_addKey_61 : decode cX8_addKey 61 = .ok (.new 61, 3) := by decide +kernel
theorem dX8_addKey_64 : decode cX8_addKey 64 = .ok (.dup, 1) := by decide +kernel
theorem dX8_addKey_65 : decode cX8_addKey 65 = .ok (.iload 4, 2) := by decide +kernel
theorem dX8_addKey_67 : decode cX8_addKey 67 = .ok (.iload_n 1, 1) := by decide +kernel
theorem dX8_addKey_68 : decode cX8_addKey 68 = .ok (.iload_n 2, 1) := by decide +kernel
theorem dX8_addKey_69 : decode cX8_addKey 69 = .ok (.iload_n 3, 1) := by decide +kernel
theorem dX8_addKey_70 : decode cX8_addKey 70 = .ok (.iconst 0, 1) := by decide +kernel
theorem dX8_addKey_71 : decode cX8_addKey 71 = .ok (.aload_n 0, 1) := by decide +kernel
theorem dX8_addKey_72 : decode cX8_addKey 72 = .ok (.getfield 36, 3) := by decide +kernel
theorem dX8_addKey_75 : decode cX8_addKey 75 = .ok (.invokespecial 63, 3) := by decide +kernel
theorem dX8_addKey_78 : decode cX8_addKey 78 = .ok (.invokevirtual 66, 3) := by decide +kernel
theorem dX8_addKey_81 : decode cX8_addKey 81 = .ok (.pop, 1) := by decide +kernel
theorem dX8_addKey_82 : decode cX8_addKey 82 = .ok (.iload 4, 2) := by decide +kernel
theorem dX8_addKey_84 : decode cX8_addKey 84 = .ok (.ireturn, 1) := by decide +kernel
theorem dX8_setTimes_0 : decode cX8_setTimes 0 = .ok (.aload_n 0, 1) := by decide +kernel
theorem dX8_setTimes_1 : decode cX8_setTimes 1 = .ok (.iload_n 1, 1) := by decide +kernel
theorem dX8_setTimes_2 : decode cX8_setTimes 2 = .ok (.invokevirtual 70, 3) := by decide +kernel
theorem dX8_setTimes_5 : decode cX8_setTimes 5 = .ok (.astore 4, 2) := by decide +kernel
theorem dX8_setTimes_7 : decode cX8_setTimes 7 = .ok (.iload_n 2, 1) := by decide +kernel
theorem dX8_setTimes_8 : decode cX8_setTimes 8 = .ok (.iload_n 3, 1) := by decide +kernel
theorem dX8_setTimes_9 : decode cX8_setTimes 9 = .ok (.invokestatic 44, 3) := by decide +kernel
theorem dX8_setTimes_12 : decode cX8_setTimes 12 = .ok (.aload 4, 2) := by decide +kernel
theorem dX8_setTimes_14 : decode cX8_setTimes 14 = .ok (.invokestatic 74, 3) := by decide +kernel
theorem dX8_setTimes_17 : decode cX8_setTimes 17 = .ok (.aload_n 0, 1) := by decide +kernel
theorem dX8_setTimes_18 : decode cX8_setTimes 18 = .ok (.invokevirtual 58, 3) := by decide +kernel
theorem dX8_setTimes_21 : decode cX8_setTimes 21 = .ok (.aload_n 0, 1) := by decide +kernel
theorem dX8_setTimes_22 : decode cX8_setTimes 22 = .ok (.getfield 10, 3) := by decide +kernel
theorem dX8_setTimes_25 : decode cX8_setTimes 25 = .ok (.new 61, 3) := by decide +kernel
theorem dX8_setTimes_28 : decode cX8_setTimes 28 = .ok (.dup, 1) := by decide +kernel
theorem dX8_setTimes_29 : decode cX8_setTimes 29 = .ok (.iload_n 1, 1) := by decide +kernel
theorem dX8_setTimes_30 : decode cX8_setTimes 30 = .ok (.aload 4, 2) := by decide +kernel
theorem dX8_setTimes_32 : decode cX8_setTimes 32 = .ok (.getfield 78, 3) := by decide +kernel
theorem dX8_setTimes_35 : decode cX8_setTimes 35 = .ok (.iload_n 2, 1) := by decide +kernel
theorem dX8_setTimes_36 : decode cX8_setTimes 36 = .ok (.iload_n 3, 1) := by decide +kernel
theorem dX8_setTimes_37 : decode cX8_setTimes 37 = .ok (.iconst 0, 1) := by decide +kernel
theorem dX8_setTimes_38 : decode cX8_setTimes 38 = .ok (.aload_n 0, 1) := by decide +kernel
theorem dX8_setTimes_39 : decode cX8_setTimes 39 = .ok (.getfield 36, 3) := by decide +kernel
theorem dX8_setTimes_42 : decode cX8_setTimes 42 = .ok (.invokespecial 63, 3) := by decide +kernel
theorem dX8_setTimes_45 : decode cX8_setTimes 45 = .ok (.invokevirtual 66, 3) := by decide +kernel
theorem dX8_setTimes_48 : decode cX8_setTimes 48 = .ok (.ireturn, 1) := by decide +kernel
theorem dX8_setDoors_0 : decode cX8_setDoors 0 = .ok (.aload_n 0, 1) := by decide +kernel
theorem dX8_setDoors_1 : decode cX8_setDoors 1 = .ok (.iload_n 1, 1) := by decide +kernel
theorem dX8_setDoors_2 : decode cX8_setDoors 2 = .ok (.invokevirtual 70, 3) := by decide +kernel
theorem dX8_setDoors_5 : decode cX8_setDoors 5 = .ok (.astore_n 3, 1) := by decide +kernel
theorem dX8_setDoors_6 : decode cX8_setDoors 6 = .ok (.iload_n 2, 1) := by decide +kernel
theorem dX8_setDoors_7 : decode cX8_setDoors 7 = .ok (.invokestatic 40, 3) := by decide +kernel
theorem dX8_setDoors_10 : decode cX8_setDoors 10 = .ok (.aload_n 3, 1) := by decide +kernel
theorem dX8_setDoors_11 : decode cX8_setDoors 11 = .ok (.invokestatic 74, 3) := by decide +kernel
theorem dX8_setDoors_14 : decode cX8_setDoors 14 = .ok (.aload_n 0, 1) := by decide +kernel
theorem dX8_setDoors_15 : decode cX8_setDoors 15 = .ok (.invokevirtual 58, 3) := by decide +kernel
theorem dX8_setDoors_18 : decode cX8_setDoors 18 = .ok (.aload_n 0, 1) := by decide +kernel
theorem dX8_setDoors_19 : decode cX8_setDoors 19 = .ok (.getfield 10, 3) := by decide +kernel
theorem dX8_setDoors_22 : decode cX8_setDoors 22 = .ok (.new 61, 3) := by decide +kernel
theorem dX8_setDoors_25 : decode cX8_setDoors 25 = .ok (.dup, 1) := by decide +kernel
theorem dX8_setDoors_26 : decode cX8_setDoors 26 = .ok (.iload_n 1, 1) := by decide +kernel
theorem dX8_setDoors_27 : decode cX8_setDoors 27 = .ok (.iload_n 2, 1) := by decide +kernel
theorem dX8_setDoors_28 : decode cX8_setDoors 28 = .ok (.aload_n 3, 1) := by decide +kernel
theorem dX8_setDoors_29 : decode cX8_setDoors 29 = .ok (.getfield 80, 3) := by decide +kernel
theorem dX8_setDoors_32 : decode cX8_setDoors 32 = .ok (.aload_n 3, 1) := by decide +kernel
theorem dX8_setDoors_33 : decode cX8_setDoors 33 = .ok (.getfield 83, 3) := by decide +kernel
theorem dX8_setDoors_36 : decode cX8_setDoors 36 = .ok (.iconst 0, 1) := by decide +kernel
theorem dX8_setDoors_37 : decode cX8_setDoors 37 = .ok (.aload_n 0, 1) := by decide +kernel
theorem dX8_setDoors_38 : decode cX8_setDoors 38 = .ok (.getfield 36, 3) := by decide +kernel
theorem dX8_setDoors_41 : decode cX8_setDoors 41 = .ok (.invokespecial 63, 3) := by decide +kernel
theorem dX8_setDoors_44 : decode cX8_setDoors 44 = .ok (.invokevirtual 66, 3) := by decide +kernel
theorem dX8_setDoors_47 : decode cX8_setDoors 47 = .ok (.ireturn, 1) := by decide +kernel
theorem dX8_revoke_0 : decode cX8_revoke 0 = .ok (.aload_n 0, 1) := by decide +kernel
theorem dX8_revoke_1 : decode cX8_revoke 1 = .ok (.iload_n 1, 1) := by decide +kernel
theorem dX8_revoke_2 : decode cX8_revoke 2 = .ok (.invokevirtual 70, 3) := by decide +kernel
theorem dX8_revoke_5 : decode cX8_revoke 5 = .ok (.astore_n 2, 1) := by decide +kernel
theorem dX8_revoke_6 : decode cX8_revoke 6 = .ok (.aload_n 2, 1) := by decide +kernel
theorem dX8_revoke_7 : decode cX8_revoke 7 = .ok (.invokestatic 74, 3) := by decide +kernel
theorem dX8_revoke_10 : decode cX8_revoke 10 = .ok (.aload_n 0, 1) := by decide +kernel
theorem dX8_revoke_11 : decode cX8_revoke 11 = .ok (.invokevirtual 58, 3) := by decide +kernel
theorem dX8_revoke_14 : decode cX8_revoke 14 = .ok (.aload_n 0, 1) := by decide +kernel
theorem dX8_revoke_15 : decode cX8_revoke 15 = .ok (.getfield 10, 3) := by decide +kernel
theorem dX8_revoke_18 : decode cX8_revoke 18 = .ok (.new 61, 3) := by decide +kernel
theorem dX8_revoke_21 : decode cX8_revoke 21 = .ok (.dup, 1) := by decide +kernel
theorem dX8_revoke_22 : decode cX8_revoke 22 = .ok (.iload_n 1, 1) := by decide +kernel
theorem dX8_revoke_23 : decode cX8_revoke 23 = .ok (.aload_n 2, 1) := by decide +kernel
theorem dX8_revoke_24 : decode cX8_revoke 24 = .ok (.getfield 78, 3) := by decide +kernel
theorem dX8_revoke_27 : decode cX8_revoke 27 = .ok (.aload_n 2, 1) := by decide +kernel
theorem dX8_revoke_28 : decode cX8_revoke 28 = .ok (.getfield 80, 3) := by decide +kernel
theorem dX8_revoke_31 : decode cX8_revoke 31 = .ok (.aload_n 2, 1) := by decide +kernel
theorem dX8_revoke_32 : decode cX8_revoke 32 = .ok (.getfield 83, 3) := by decide +kernel
theorem dX8_revoke_35 : decode cX8_revoke 35 = .ok (.iconst 1, 1) := by decide +kernel
theorem dX8_revoke_36 : decode cX8_revoke 36 = .ok (.aload_n 0, 1) := by decide +kernel
theorem dX8_revoke_37 : decode cX8_revoke 37 = .ok (.getfield 36, 3) := by decide +kernel
theorem dX8_revoke_40 : decode cX8_revoke 40 = .ok (.invokespecial 63, 3) := by decide +kernel
theorem dX8_revoke_43 : decode cX8_revoke 43 = .ok (.invokevirtual 66, 3) := by decide +kernel
theorem dX8_revoke_46 : decode cX8_revoke 46 = .ok (.ireturn, 1) := by decide +kernel
theorem dX8_version_0 : decode cX8_version 0 = .ok (.aload_n 0, 1) := by decide +kernel
theorem dX8_version_1 : decode cX8_version 1 = .ok (.getfield 10, 3) := by decide +kernel
theorem dX8_version_4 : decode cX8_version 4 = .ok (.invokevirtual 86, 3) := by decide +kernel
theorem dX8_version_7 : decode cX8_version 7 = .ok (.ireturn, 1) := by decide +kernel
theorem dX8_addDoor_0 : decode cX8_addDoor 0 = .ok (.aload_n 0, 1) := by decide +kernel
theorem dX8_addDoor_1 : decode cX8_addDoor 1 = .ok (.getfield 19, 3) := by decide +kernel
theorem dX8_addDoor_4 : decode cX8_addDoor 4 = .ok (.invokevirtual 90, 3) := by decide +kernel
theorem dX8_addDoor_7 : decode cX8_addDoor 7 = .ok (.iconst 5, 1) := by decide +kernel
theorem dX8_addDoor_8 : decode cX8_addDoor 8 = .ok (.if_icmp .lt 13, 3) := by decide +kernel
theorem dX8_addDoor_11 : decode cX8_addDoor 11 = .ok (.new 51, 3) := by decide +kernel
theorem dX8_addDoor_14 : decode cX8_addDoor 14 = .ok (.dup, 1) := by decide +kernel
theorem dX8_addDoor_15 : decode cX8_addDoor 15 = .ok (.ldc 93, 2) := by decide +kernel
theorem dX8_addDoor_17 : decode cX8_addDoor 17 = .ok (.invokespecial 55, 3) := by decide +kernel
theorem dX8_addDoor_20 : decode cX8_addDoor 20 = .ok (.athrow, 1) := by decide +kernel
theorem dX8_addDoor_21 : decode cX8_addDoor 21 = .ok (.aload_n 0, 1) := by decide +kernel
theorem dX8_addDoor_22 : decode cX8_addDoor 22 = .ok (.getfield 19, 3) := by decide +kernel
theorem dX8_addDoor_25 : decode cX8_addDoor 25 = .ok (.new 95, 3) := by decide +kernel
theorem dX8_addDoor_28 : decode cX8_addDoor 28 = .ok (.dup, 1) := by decide +kernel
theorem dX8_addDoor_29 : decode cX8_addDoor 29 = .ok (.aload_n 0, 1) := by decide +kernel
theorem dX8_addDoor_30 : decode cX8_addDoor 30 = .ok (.getfield 10, 3) := by decide +kernel
theorem dX8_addDoor_33 : decode cX8_addDoor 33 = .ok (.invokevirtual 86, 3) := by decide +kernel
theorem dX8_addDoor_36 : decode cX8_addDoor 36 = .ok (.aload_n 0, 1) := by decide +kernel
theorem dX8_addDoor_37 : decode cX8_addDoor 37 = .ok (.getfield 36, 3) := by decide +kernel
theorem dX8_addDoor_40 : decode cX8_addDoor 40 = .ok (.invokespecial 97, 3) := by decide +kernel
theorem dX8_addDoor_43 : decode cX8_addDoor 43 = .ok (.invokevirtual 99, 3) := by decide +kernel
theorem dX8_addDoor_46 : decode cX8_addDoor 46 = .ok (.pop, 1) := by decide +kernel
theorem dX8_addDoor_47 : decode cX8_addDoor 47 = .ok (.aload_n 0, 1) := by decide +kernel
theorem dX8_addDoor_48 : decode cX8_addDoor 48 = .ok (.getfield 19, 3) := by decide +kernel
theorem dX8_addDoor_51 : decode cX8_addDoor 51 = .ok (.invokevirtual 90, 3) := by decide +kernel
theorem dX8_addDoor_54 : decode cX8_addDoor 54 = .ok (.iconst 1, 1) := by decide +kernel
theorem dX8_addDoor_55 : decode cX8_addDoor 55 = .ok (.isub, 1) := by decide +kernel
theorem dX8_addDoor_56 : decode cX8_addDoor 56 = .ok (.ireturn, 1) := by decide +kernel
theorem dX8_setRate_0 : decode cX8_setRate 0 = .ok (.aload_n 0, 1) := by decide +kernel
theorem dX8_setRate_1 : decode cX8_setRate 1 = .ok (.iload_n 1, 1) := by decide +kernel
theorem dX8_setRate_2 : decode cX8_setRate 2 = .ok (.invokevirtual 103, 3) := by decide +kernel
theorem dX8_setRate_5 : decode cX8_setRate 5 = .ok (.astore_n 3, 1) := by decide +kernel
theorem dX8_setRate_6 : decode cX8_setRate 6 = .ok (.iload_n 2, 1) := by decide +kernel
theorem dX8_setRate_7 : decode cX8_setRate 7 = .ok (.sipush (-500), 3) := by decide +kernel
theorem dX8_setRate_10 : decode cX8_setRate 10 = .ok (.if_icmp .lt 10, 3) := by decide +kernel
theorem dX8_setRate_13 : decode cX8_setRate 13 = .ok (.iload_n 2, 1) := by decide +kernel
theorem dX8_setRate_14 : decode cX8_setRate 14 = .ok (.sipush 500, 3) := by decide +kernel
theorem dX8_setRate_17 : decode cX8_setRate 17 = .ok (.if_icmp .le 13, 3) := by decide +kernel
theorem dX8_setRate_20 : decode cX8_setRate 20 = .ok (.new 107, 3) := by decide +kernel
theorem dX8_setRate_23 : decode cX8_setRate 23 = .ok (.dup, 1) := by decide +kernel
theorem dX8_setRate_24 : decode cX8_setRate 24 = .ok (.ldc 109, 2) := by decide +kernel
theorem dX8_setRate_26 : decode cX8_setRate 26 = .ok (.invokespecial 111, 3) := by decide +kernel
theorem dX8_setRate_29 : decode cX8_setRate 29 = .ok (.athrow, 1) := by decide +kernel
theorem dX8_setRate_30 : decode cX8_setRate 30 = .ok (.aload_n 3, 1) := by decide +kernel
theorem dX8_setRate_31 : decode cX8_setRate 31 = .ok (.aload_n 0, 1) := by decide +kernel
theorem dX8_setRate_32 : decode cX8_setRate 32 = .ok (.getfield 36, 3) := by decide +kernel
theorem dX8_setRate_35 : decode cX8_setRate 35 = .ok (.invokevirtual 112, 3) := by decide +kernel
theorem dX8_setRate_38 : decode cX8_setRate 38 = .ok (.istore 4, 2) := by decide +kernel
theorem dX8_setRate_40 : decode cX8_setRate 40 = .ok (.aload_n 3, 1) := by decide +kernel
theorem dX8_setRate_41 : decode cX8_setRate 41 = .ok (.aload_n 0, 1) := by decide +kernel
theorem dX8_setRate_42 : decode cX8_setRate 42 = .ok (.getfield 36, 3) := by decide +kernel
theorem dX8_setRate_45 : decode cX8_setRate 45 = .ok (.iload 4, 2) := by decide +kernel
theorem dX8_setRate_47 : decode cX8_setRate 47 = .ok (.invokevirtual 116, 3) := by decide +kernel
theorem dX8_setRate_50 : decode cX8_setRate 50 = .ok (.aload_n 3, 1) := by decide +kernel
theorem dX8_setRate_51 : decode cX8_setRate 51 = .ok (.fconst 1, 1) := by decide +kernel
theorem dX8_setRate_52 : decode cX8_setRate 52 = .ok (.iload_n 2, 1) := by decide +kernel
theorem dX8_setRate_53 : decode cX8_setRate 53 = .ok (.i2f, 1) := by decide +kernel
theorem dX8_setRate_54 : decode cX8_setRate 54 = .ok (.ldc 119, 2) := by decide +kernel
theorem dX8_setRate_56 : decode cX8_setRate 56 = .ok (.fdiv, 1) := by decide +kernel
theorem dX8_setRate_57 : decode cX8_setRate 57 = .ok (.fadd, 1) := by decide +kernel
theorem dX8_setRate_58 : decode cX8_setRate 58 = .ok (.putfield 120, 3) := by decide +kernel
theorem dX8_setRate_61 : decode cX8_setRate 61 = .ok (.iload 4, 2) := by decide +kernel
theorem dX8_setRate_63 : decode cX8_setRate 63 = .ok (.ireturn, 1) := by decide +kernel
theorem dX8_addPhone_0 : decode cX8_addPhone 0 = .ok (.aload_n 0, 1) := by decide +kernel
theorem dX8_addPhone_1 : decode cX8_addPhone 1 = .ok (.getfield 23, 3) := by decide +kernel
theorem dX8_addPhone_4 : decode cX8_addPhone 4 = .ok (.invokevirtual 90, 3) := by decide +kernel
theorem dX8_addPhone_7 : decode cX8_addPhone 7 = .ok (.iconst 3, 1) := by decide +kernel
theorem dX8_addPhone_8 : decode cX8_addPhone 8 = .ok (.if_icmp .lt 13, 3) := by decide +kernel
theorem dX8_addPhone_11 : decode cX8_addPhone 11 = .ok (.new 51, 3) := by decide +kernel
theorem dX8_addPhone_14 : decode cX8_addPhone 14 = .ok (.dup, 1) := by decide +kernel
theorem dX8_addPhone_15 : decode cX8_addPhone 15 = .ok (.ldc 124, 2) := by decide +kernel
theorem dX8_addPhone_17 : decode cX8_addPhone 17 = .ok (.invokespecial 55, 3) := by decide +kernel
theorem dX8_addPhone_20 : decode cX8_addPhone 20 = .ok (.athrow, 1) := by decide +kernel
theorem dX8_addPhone_21 : decode cX8_addPhone 21 = .ok (.aload_n 0, 1) := by decide +kernel
theorem dX8_addPhone_22 : decode cX8_addPhone 22 = .ok (.getfield 23, 3) := by decide +kernel
theorem dX8_addPhone_25 : decode cX8_addPhone 25 = .ok (.new 126, 3) := by decide +kernel
theorem dX8_addPhone_28 : decode cX8_addPhone 28 = .ok (.dup, 1) := by decide +kernel
theorem dX8_addPhone_29 : decode cX8_addPhone 29 = .ok (.invokespecial 128, 3) := by decide +kernel
theorem dX8_addPhone_32 : decode cX8_addPhone 32 = .ok (.invokevirtual 99, 3) := by decide +kernel
theorem dX8_addPhone_35 : decode cX8_addPhone 35 = .ok (.pop, 1) := by decide +kernel
theorem dX8_addPhone_36 : decode cX8_addPhone 36 = .ok (.aload_n 0, 1) := by decide +kernel
theorem dX8_addPhone_37 : decode cX8_addPhone 37 = .ok (.getfield 23, 3) := by decide +kernel
theorem dX8_addPhone_40 : decode cX8_addPhone 40 = .ok (.invokevirtual 90, 3) := by decide +kernel
theorem dX8_addPhone_43 : decode cX8_addPhone 43 = .ok (.iconst 1, 1) := by decide +kernel
theorem dX8_addPhone_44 : decode cX8_addPhone 44 = .ok (.isub, 1) := by decide +kernel
theorem dX8_addPhone_45 : decode cX8_addPhone 45 = .ok (.ireturn, 1) := by decide +kernel
theorem dX8_pass_0 : decode cX8_pass 0 = .ok (.iload_n 1, 1) := by decide +kernel
theorem dX8_pass_1 : decode cX8_pass 1 = .ok (.iconst 1, 1) := by decide +kernel
theorem dX8_pass_2 : decode cX8_pass 2 = .ok (.if_icmp .lt 10, 3) := by decide +kernel
theorem dX8_pass_5 : decode cX8_pass 5 = .ok (.iload_n 1, 1) := by decide +kernel
theorem dX8_pass_6 : decode cX8_pass 6 = .ok (.sipush 10000, 3) := by decide +kernel
theorem dX8_pass_9 : decode cX8_pass 9 = .ok (.if_icmp .le 13, 3) := by decide +kernel
theorem dX8_pass_12 : decode cX8_pass 12 = .ok (.new 107, 3) := by decide +kernel
theorem dX8_pass_15 : decode cX8_pass 15 = .ok (.dup, 1) := by decide +kernel
theorem dX8_pass_16 : decode cX8_pass 16 = .ok (.ldc 129, 2) := by decide +kernel
theorem dX8_pass_18 : decode cX8_pass 18 = .ok (.invokespecial 111, 3) := by decide +kernel
theorem dX8_pass_21 : decode cX8_pass 21 = .ok (.athrow, 1) := by decide +kernel
theorem dX8_pass_22 : decode cX8_pass 22 = .ok (.iload_n 1, 1) := by decide +kernel
theorem dX8_pass_23 : decode cX8_pass 23 = .ok (.ldc 131, 2) := by decide +kernel
theorem dX8_pass_25 : decode cX8_pass 25 = .ok (.aload_n 0, 1) := by decide +kernel
theorem dX8_pass_26 : decode cX8_pass 26 = .ok (.getfield 36, 3) := by decide +kernel
theorem dX8_pass_29 : decode cX8_pass 29 = .ok (.isub, 1) := by decide +kernel
theorem dX8_pass_30 : decode cX8_pass 30 = .ok (.if_icmp .le 13, 3) := by decide +kernel
theorem dX8_pass_33 : decode cX8_pass 33 = .ok (.new 107, 3) := by decide +kernel
theorem dX8_pass_36 : decode cX8_pass 36 = .ok (.dup, 1) := by decide +kernel
theorem dX8_pass_37 : decode cX8_pass 37 = .ok (.ldc 132, 2) := by decide +kernel
theorem dX8_pass_39 : decode cX8_pass 39 = .ok (.invokespecial 111, 3) := by decide +kernel
theorem dX8_pass_42 : decode cX8_pass 42 = .ok (.athrow, 1) := by decide +kernel
theorem dX8_pass_43 : decode cX8_pass 43 = .ok (.aload_n 0, 1) := by decide +kernel
theorem dX8_pass_44 : decode cX8_pass 44 = .ok (.dup, 1) := by decide +kernel
theorem dX8_pass_45 : decode cX8_pass 45 = .ok (.getfield 36, 3) := by decide +kernel
theorem dX8_pass_48 : decode cX8_pass 48 = .ok (.iload_n 1, 1) := by decide +kernel
theorem dX8_pass_49 : decode cX8_pass 49 = .ok (.iadd, 1) := by decide +kernel
theorem dX8_pass_50 : decode cX8_pass 50 = .ok (.putfield 36, 3) := by decide +kernel
theorem dX8_pass_53 : decode cX8_pass 53 = .ok (.aload_n 0, 1) := by decide +kernel
theorem dX8_pass_54 : decode cX8_pass 54 = .ok (.getfield 36, 3) := by decide +kernel
theorem dX8_pass_57 : decode cX8_pass 57 = .ok (.ireturn, 1) := by decide +kernel
theorem dX8_time_0 : decode cX8_time 0 = .ok (.aload_n 0, 1) := by decide +kernel
theorem dX8_time_1 : decode cX8_time 1 = .ok (.getfield 36, 3) := by decide +kernel
theorem dX8_time_4 : decode cX8_time 4 = .ok (.ireturn, 1) := by decide +kernel
theorem dX8_meetCloud_0 : decode cX8_meetCloud 0 = .ok (.aload_n 0, 1) := by decide +kernel
theorem dX8_meetCloud_1 : decode cX8_meetCloud 1 = .ok (.iload_n 1, 1) := by decide +kernel
theorem dX8_meetCloud_2 : decode cX8_meetCloud 2 = .ok (.invokevirtual 134, 3) := by decide +kernel
theorem dX8_meetCloud_5 : decode cX8_meetCloud 5 = .ok (.astore_n 2, 1) := by decide +kernel
theorem dX8_meetCloud_6 : decode cX8_meetCloud 6 = .ok (.aload_n 2, 1) := by decide +kernel
theorem dX8_meetCloud_7 : decode cX8_meetCloud 7 = .ok (.aload_n 0, 1) := by decide +kernel
theorem dX8_meetCloud_8 : decode cX8_meetCloud 8 = .ok (.getfield 10, 3) := by decide +kernel
theorem dX8_meetCloud_11 : decode cX8_meetCloud 11 = .ok (.invokevirtual 86, 3) := by decide +kernel
theorem dX8_meetCloud_14 : decode cX8_meetCloud 14 = .ok (.putfield 138, 3) := by decide +kernel
theorem dX8_meetCloud_17 : decode cX8_meetCloud 17 = .ok (.aload_n 0, 1) := by decide +kernel
theorem dX8_meetCloud_18 : decode cX8_meetCloud 18 = .ok (.getfield 32, 3) := by decide +kernel
theorem dX8_meetCloud_21 : decode cX8_meetCloud 21 = .ok (.new 141, 3) := by decide +kernel
theorem dX8_meetCloud_24 : decode cX8_meetCloud 24 = .ok (.dup, 1) := by decide +kernel
theorem dX8_meetCloud_25 : decode cX8_meetCloud 25 = .ok (.iload_n 1, 1) := by decide +kernel
theorem dX8_meetCloud_26 : decode cX8_meetCloud 26 = .ok (.iconst (-1), 1) := by decide +kernel
theorem dX8_meetCloud_27 : decode cX8_meetCloud 27 = .ok (.aload_n 0, 1) := by decide +kernel
theorem dX8_meetCloud_28 : decode cX8_meetCloud 28 = .ok (.getfield 10, 3) := by decide +kernel
theorem dX8_meetCloud_31 : decode cX8_meetCloud 31 = .ok (.invokevirtual 86, 3) := by decide +kernel
theorem dX8_meetCloud_34 : decode cX8_meetCloud 34 = .ok (.invokespecial 143, 3) := by decide +kernel
theorem dX8_meetCloud_37 : decode cX8_meetCloud 37 = .ok (.invokevirtual 146, 3) := by decide +kernel
theorem dX8_meetCloud_40 : decode cX8_meetCloud 40 = .ok (.iconst 0, 1) := by decide +kernel
theorem dX8_meetCloud_41 : decode cX8_meetCloud 41 = .ok (.istore_n 3, 1) := by decide +kernel
theorem dX8_meetCloud_42 : decode cX8_meetCloud 42 = .ok (.iconst 0, 1) := by decide +kernel
theorem dX8_meetCloud_43 : decode cX8_meetCloud 43 = .ok (.istore 4, 2) := by decide +kernel
theorem dX8_meetCloud_45 : decode cX8_meetCloud 45 = .ok (.iload 4, 2) := by decide +kernel
theorem dX8_meetCloud_47 : decode cX8_meetCloud 47 = .ok (.aload_n 0, 1) := by decide +kernel
theorem dX8_meetCloud_48 : decode cX8_meetCloud 48 = .ok (.getfield 26, 3) := by decide +kernel
theorem dX8_meetCloud_51 : decode cX8_meetCloud 51 = .ok (.invokevirtual 90, 3) := by decide +kernel
theorem dX8_meetCloud_54 : decode cX8_meetCloud 54 = .ok (.if_icmp .ge 44, 3) := by decide +kernel
theorem dX8_meetCloud_57 : decode cX8_meetCloud 57 = .ok (.aload_n 0, 1) := by decide +kernel
theorem dX8_meetCloud_58 : decode cX8_meetCloud 58 = .ok (.getfield 26, 3) := by decide +kernel
theorem dX8_meetCloud_61 : decode cX8_meetCloud 61 = .ok (.iload 4, 2) := by decide +kernel
theorem dX8_meetCloud_63 : decode cX8_meetCloud 63 = .ok (.invokevirtual 149, 3) := by decide +kernel
theorem dX8_meetCloud_66 : decode cX8_meetCloud 66 = .ok (.checkcast 153, 3) := by decide +kernel
theorem dX8_meetCloud_69 : decode cX8_meetCloud 69 = .ok (.astore 5, 2) := by decide +kernel
theorem dX8_meetCloud_71 : decode cX8_meetCloud 71 = .ok (.aload 5, 2) := by decide +kernel
theorem dX8_meetCloud_73 : decode cX8_meetCloud 73 = .ok (.iload_n 1, 1) := by decide +kernel
theorem dX8_meetCloud_74 : decode cX8_meetCloud 74 = .ok (.invokevirtual 155, 3) := by decide +kernel
theorem dX8_meetCloud_77 : decode cX8_meetCloud 77 = .ok (.ifCond .eq 15, 3) := by decide +kernel
theorem dX8_meetCloud_80 : decode cX8_meetCloud 80 = .ok (.aload 5, 2) := by decide +kernel
theorem dX8_meetCloud_82 : decode cX8_meetCloud 82 = .ok (.aload_n 0, 1) := by decide +kernel
theorem dX8_meetCloud_83 : decode cX8_meetCloud 83 = .ok (.getfield 36, 3) := by decide +kernel
theorem dX8_meetCloud_86 : decode cX8_meetCloud 86 = .ok (.putfield 159, 3) := by decide +kernel
theorem dX8_meetCloud_89 : decode cX8_meetCloud 89 = .ok (.iinc 3 1, 3) := by decide +kernel
theorem dX8_meetCloud_92 : decode cX8_meetCloud 92 = .ok (.iinc 4 1, 3) := by decide +kernel
theorem dX8_meetCloud_95 : decode cX8_meetCloud 95 = .ok (.goto (-50), 3) := by decide +kernel
theorem dX8_meetCloud_98 : decode cX8_meetCloud 98 = .ok (.iload_n 3, 1) := by decide +kernel
theorem dX8_meetCloud_99 : decode cX8_meetCloud 99 = .ok (.ireturn, 1) := by decide +kernel
theorem dX8_meetDoor_0 : decode cX8_meetDoor 0 = .ok (.aload_n 0, 1) := by decide +kernel
theorem dX8_meetDoor_1 : decode cX8_meetDoor 1 = .ok (.iload_n 1, 1) := by decide +kernel
theorem dX8_meetDoor_2 : decode cX8_meetDoor 2 = .ok (.invokevirtual 134, 3) := by decide +kernel
theorem dX8_meetDoor_5 : decode cX8_meetDoor 5 = .ok (.astore_n 3, 1) := by decide +kernel
theorem dX8_meetDoor_6 : decode cX8_meetDoor 6 = .ok (.aload_n 0, 1) := by decide +kernel
theorem dX8_meetDoor_7 : decode cX8_meetDoor 7 = .ok (.iload_n 2, 1) := by decide +kernel
theorem dX8_meetDoor_8 : decode cX8_meetDoor 8 = .ok (.invokevirtual 103, 3) := by decide +kernel
theorem dX8_meetDoor_11 : decode cX8_meetDoor 11 = .ok (.astore 4, 2) := by decide +kernel
theorem dX8_meetDoor_13 : decode cX8_meetDoor 13 = .ok (.aload 4, 2) := by decide +kernel
theorem dX8_meetDoor_15 : decode cX8_meetDoor 15 = .ok (.aload 4, 2) := by decide +kernel
theorem dX8_meetDoor_17 : decode cX8_meetDoor 17 = .ok (.getfield 162, 3) := by decide +kernel
theorem dX8_meetDoor_20 : decode cX8_meetDoor 20 = .ok (.aload_n 3, 1) := by decide +kernel
theorem dX8_meetDoor_21 : decode cX8_meetDoor 21 = .ok (.getfield 138, 3) := by decide +kernel
theorem dX8_meetDoor_24 : decode cX8_meetDoor 24 = .ok (.invokestatic 163, 3) := by decide +kernel
theorem dX8_meetDoor_27 : decode cX8_meetDoor 27 = .ok (.putfield 162, 3) := by decide +kernel
theorem dX8_meetDoor_30 : decode cX8_meetDoor 30 = .ok (.aload 4, 2) := by decide +kernel
theorem dX8_meetDoor_32 : decode cX8_meetDoor 32 = .ok (.aload_n 0, 1) := by decide +kernel
theorem dX8_meetDoor_33 : decode cX8_meetDoor 33 = .ok (.getfield 36, 3) := by decide +kernel
theorem dX8_meetDoor_36 : decode cX8_meetDoor 36 = .ok (.aload_n 0, 1) := by decide +kernel
theorem dX8_meetDoor_37 : decode cX8_meetDoor 37 = .ok (.getfield 36, 3) := by decide +kernel
theorem dX8_meetDoor_40 : decode cX8_meetDoor 40 = .ok (.invokevirtual 116, 3) := by decide +kernel
theorem dX8_meetDoor_43 : decode cX8_meetDoor 43 = .ok (.aload_n 0, 1) := by decide +kernel
theorem dX8_meetDoor_44 : decode cX8_meetDoor 44 = .ok (.getfield 32, 3) := by decide +kernel
theorem dX8_meetDoor_47 : decode cX8_meetDoor 47 = .ok (.new 141, 3) := by decide +kernel
theorem dX8_meetDoor_50 : decode cX8_meetDoor 50 = .ok (.dup, 1) := by decide +kernel
theorem dX8_meetDoor_51 : decode cX8_meetDoor 51 = .ok (.iload_n 1, 1) := by decide +kernel
theorem dX8_meetDoor_52 : decode cX8_meetDoor 52 = .ok (.iload_n 2, 1) := by decide +kernel
theorem dX8_meetDoor_53 : decode cX8_meetDoor 53 = .ok (.aload_n 0, 1) := by decide +kernel
theorem dX8_meetDoor_54 : decode cX8_meetDoor 54 = .ok (.getfield 10, 3) := by decide +kernel
theorem dX8_meetDoor_57 : decode cX8_meetDoor 57 = .ok (.invokevirtual 86, 3) := by decide +kernel
theorem dX8_meetDoor_60 : decode cX8_meetDoor 60 = .ok (.invokespecial 143, 3) := by decide +kernel
theorem dX8_meetDoor_63 : decode cX8_meetDoor 63 = .ok (.invokevirtual 146, 3) := by decide +kernel
theorem dX8_meetDoor_66 : decode cX8_meetDoor 66 = .ok (.iconst 0, 1) := by decide +kernel
theorem dX8_meetDoor_67 : decode cX8_meetDoor 67 = .ok (.istore 5, 2) := by decide +kernel
theorem dX8_meetDoor_69 : decode cX8_meetDoor 69 = .ok (.iconst 0, 1) := by decide +kernel
theorem dX8_meetDoor_70 : decode cX8_meetDoor 70 = .ok (.istore 6, 2) := by decide +kernel
theorem dX8_meetDoor_72 : decode cX8_meetDoor 72 = .ok (.iload 6, 2) := by decide +kernel
theorem dX8_meetDoor_74 : decode cX8_meetDoor 74 = .ok (.aload_n 0, 1) := by decide +kernel
theorem dX8_meetDoor_75 : decode cX8_meetDoor 75 = .ok (.getfield 26, 3) := by decide +kernel
theorem dX8_meetDoor_78 : decode cX8_meetDoor 78 = .ok (.invokevirtual 90, 3) := by decide +kernel
theorem dX8_meetDoor_81 : decode cX8_meetDoor 81 = .ok (.if_icmp .ge 41, 3) := by decide +kernel
theorem dX8_meetDoor_84 : decode cX8_meetDoor 84 = .ok (.aload_n 0, 1) := by decide +kernel
theorem dX8_meetDoor_85 : decode cX8_meetDoor 85 = .ok (.getfield 26, 3) := by decide +kernel
theorem dX8_meetDoor_88 : decode cX8_meetDoor 88 = .ok (.iload 6, 2) := by decide +kernel
theorem dX8_meetDoor_90 : decode cX8_meetDoor 90 = .ok (.invokevirtual 149, 3) := by decide +kernel
theorem dX8_meetDoor_93 : decode cX8_meetDoor 93 = .ok (.checkcast 153, 3) := by decide +kernel
theorem dX8_meetDoor_96 : decode cX8_meetDoor 96 = .ok (.astore 7, 2) := by decide +kernel
theorem dX8_meetDoor_98 : decode cX8_meetDoor 98 = .ok (.aload 7, 2) := by decide +kernel
theorem dX8_meetDoor_100 : decode cX8_meetDoor 100 = .ok (.iload_n 2, 1) := by decide +kernel
theorem dX8_meetDoor_101 : decode cX8_meetDoor 101 = .ok (.invokevirtual 169, 3) := by decide +kernel
theorem dX8_meetDoor_104 : decode cX8_meetDoor 104 = .ok (.ifCond .eq 12, 3) := by decide +kernel
theorem dX8_meetDoor_107 : decode cX8_meetDoor 107 = .ok (.aload 7, 2) := by decide +kernel
theorem dX8_meetDoor_109 : decode cX8_meetDoor 109 = .ok (.iload_n 1, 1) := by decide +kernel
theorem dX8_meetDoor_110 : decode cX8_meetDoor 110 = .ok (.putfield 172, 3) := by decide +kernel
theorem dX8_meetDoor_113 : decode cX8_meetDoor 113 = .ok (.iinc 5 1, 3) := by decide +kernel
theorem dX8_meetDoor_116 : decode cX8_meetDoor 116 = .ok (.iinc 6 1, 3) := by decide +kernel
theorem dX8_meetDoor_119 : decode cX8_meetDoor 119 = .ok (.goto (-47), 3) := by decide +kernel
theorem dX8_meetDoor_122 : decode cX8_meetDoor 122 = .ok (.iload 5, 2) := by decide +kernel
theorem dX8_meetDoor_124 : decode cX8_meetDoor 124 = .ok (.ireturn, 1) := by decide +kernel
theorem dX8_open_0 : decode cX8_open 0 = .ok (.aload_n 0, 1) := by decide +kernel
theorem dX8_open_1 : decode cX8_open 1 = .ok (.iload_n 1, 1) := by decide +kernel
theorem dX8_open_2 : decode cX8_open 2 = .ok (.invokevirtual 103, 3) := by decide +kernel
theorem dX8_open_5 : decode cX8_open 5 = .ok (.astore_n 3, 1) := by decide +kernel
theorem dX8_open_6 : decode cX8_open 6 = .ok (.aload_n 0, 1) := by decide +kernel
theorem dX8_open_7 : decode cX8_open 7 = .ok (.iload_n 2, 1) := by decide +kernel
theorem dX8_open_8 : decode cX8_open 8 = .ok (.invokevirtual 70, 3) := by decide +kernel
theorem dX8_open_11 : decode cX8_open 11 = .ok (.pop, 1) := by decide +kernel
theorem dX8_open_12 : decode cX8_open 12 = .ok (.aload_n 0, 1) := by decide +kernel
theorem dX8_open_13 : decode cX8_open 13 = .ok (.getfield 26, 3) := by decide +kernel
theorem dX8_open_16 : decode cX8_open 16 = .ok (.invokevirtual 90, 3) := by decide +kernel
theorem dX8_open_19 : decode cX8_open 19 = .ok (.bipush 60, 2) := by decide +kernel
theorem dX8_open_21 : decode cX8_open 21 = .ok (.if_icmp .lt 13, 3) := by decide +kernel
theorem dX8_open_24 : decode cX8_open 24 = .ok (.new 51, 3) := by decide +kernel
theorem dX8_open_27 : decode cX8_open 27 = .ok (.dup, 1) := by decide +kernel
theorem dX8_open_28 : decode cX8_open 28 = .ok (.ldc 175, 2) := by decide +kernel
theorem dX8_open_30 : decode cX8_open 30 = .ok (.invokespecial 55, 3) := by decide +kernel
theorem dX8_open_33 : decode cX8_open 33 = .ok (.athrow, 1) := by decide +kernel
theorem dX8_open_34 : decode cX8_open 34 = .ok (.aload_n 3, 1) := by decide +kernel
theorem dX8_open_35 : decode cX8_open 35 = .ok (.aload_n 0, 1) := by decide +kernel
theorem dX8_open_36 : decode cX8_open 36 = .ok (.getfield 36, 3) := by decide +kernel
theorem dX8_open_39 : decode cX8_open 39 = .ok (.invokevirtual 112, 3) := by decide +kernel
theorem dX8_open_42 : decode cX8_open 42 = .ok (.istore 4, 2) := by decide +kernel
theorem dX8_open_44 : decode cX8_open 44 = .ok (.aload_n 0, 1) := by decide +kernel
theorem dX8_open_45 : decode cX8_open 45 = .ok (.getfield 10, 3) := by decide +kernel
theorem dX8_open_48 : decode cX8_open 48 = .ok (.aload_n 3, 1) := by decide +kernel
theorem dX8_open_49 : decode cX8_open 49 = .ok (.getfield 162, 3) := by decide +kernel
theorem dX8_open_52 : decode cX8_open 52 = .ok (.iload_n 2, 1) := by decide +kernel
theorem dX8_open_53 : decode cX8_open 53 = .ok (.iload_n 1, 1) := by decide +kernel
theorem dX8_open_54 : decode cX8_open 54 = .ok (.iload 4, 2) := by decide +kernel
theorem dX8_open_56 : decode cX8_open 56 = .ok (.invokevirtual 177, 3) := by decide +kernel
theorem dX8_open_59 : decode cX8_open 59 = .ok (.istore 5, 2) := by decide +kernel
theorem dX8_open_61 : decode cX8_open 61 = .ok (.aload_n 0, 1) := by decide +kernel
theorem dX8_open_62 : decode cX8_open 62 = .ok (.getfield 26, 3) := by decide +kernel
theorem dX8_open_65 : decode cX8_open 65 = .ok (.new 153, 3) := by decide +kernel
theorem dX8_open_68 : decode cX8_open 68 = .ok (.dup, 1) := by decide +kernel
theorem dX8_open_69 : decode cX8_open 69 = .ok (.iload_n 1, 1) := by decide +kernel
theorem dX8_open_70 : decode cX8_open 70 = .ok (.iload_n 2, 1) := by decide +kernel
theorem dX8_open_71 : decode cX8_open 71 = .ok (.iload 4, 2) := by decide +kernel
theorem dX8_open_73 : decode cX8_open 73 = .ok (.iload 5, 2) := by decide +kernel
theorem dX8_open_75 : decode cX8_open 75 = .ok (.aload_n 3, 1) := by decide +kernel
theorem dX8_open_76 : decode cX8_open 76 = .ok (.getfield 162, 3) := by decide +kernel
theorem dX8_open_79 : decode cX8_open 79 = .ok (.aload_n 0, 1) := by decide +kernel
theorem dX8_open_80 : decode cX8_open 80 = .ok (.getfield 36, 3) := by decide +kernel
theorem dX8_open_83 : decode cX8_open 83 = .ok (.invokespecial 181, 3) := by decide +kernel
theorem dX8_open_86 : decode cX8_open 86 = .ok (.invokevirtual 99, 3) := by decide +kernel
theorem dX8_open_89 : decode cX8_open 89 = .ok (.pop, 1) := by decide +kernel
theorem dX8_open_90 : decode cX8_open 90 = .ok (.iload 5, 2) := by decide +kernel
theorem dX8_open_92 : decode cX8_open 92 = .ok (.ireturn, 1) := by decide +kernel
theorem dX8_answer_0 : decode cX8_answer 0 = .ok (.aload_n 0, 1) := by decide +kernel
theorem dX8_answer_1 : decode cX8_answer 1 = .ok (.iload_n 1, 1) := by decide +kernel
theorem dX8_answer_2 : decode cX8_answer 2 = .ok (.invokevirtual 103, 3) := by decide +kernel
theorem dX8_answer_5 : decode cX8_answer 5 = .ok (.astore_n 3, 1) := by decide +kernel
theorem dX8_answer_6 : decode cX8_answer 6 = .ok (.aload_n 0, 1) := by decide +kernel
theorem dX8_answer_7 : decode cX8_answer 7 = .ok (.iload_n 2, 1) := by decide +kernel
theorem dX8_answer_8 : decode cX8_answer 8 = .ok (.invokevirtual 70, 3) := by decide +kernel
theorem dX8_answer_11 : decode cX8_answer 11 = .ok (.pop, 1) := by decide +kernel
theorem dX8_answer_12 : decode cX8_answer 12 = .ok (.aload_n 0, 1) := by decide +kernel
theorem dX8_answer_13 : decode cX8_answer 13 = .ok (.getfield 10, 3) := by decide +kernel
theorem dX8_answer_16 : decode cX8_answer 16 = .ok (.aload_n 3, 1) := by decide +kernel
theorem dX8_answer_17 : decode cX8_answer 17 = .ok (.getfield 162, 3) := by decide +kernel
theorem dX8_answer_20 : decode cX8_answer 20 = .ok (.iload_n 2, 1) := by decide +kernel
theorem dX8_answer_21 : decode cX8_answer 21 = .ok (.iload_n 1, 1) := by decide +kernel
theorem dX8_answer_22 : decode cX8_answer 22 = .ok (.aload_n 3, 1) := by decide +kernel
theorem dX8_answer_23 : decode cX8_answer 23 = .ok (.aload_n 0, 1) := by decide +kernel
theorem dX8_answer_24 : decode cX8_answer 24 = .ok (.getfield 36, 3) := by decide +kernel
theorem dX8_answer_27 : decode cX8_answer 27 = .ok (.invokevirtual 112, 3) := by decide +kernel
theorem dX8_answer_30 : decode cX8_answer 30 = .ok (.invokevirtual 177, 3) := by decide +kernel
theorem dX8_answer_33 : decode cX8_answer 33 = .ok (.ireturn, 1) := by decide +kernel
theorem dX8_clock_0 : decode cX8_clock 0 = .ok (.aload_n 0, 1) := by decide +kernel
theorem dX8_clock_1 : decode cX8_clock 1 = .ok (.iload_n 1, 1) := by decide +kernel
theorem dX8_clock_2 : decode cX8_clock 2 = .ok (.invokevirtual 103, 3) := by decide +kernel
theorem dX8_clock_5 : decode cX8_clock 5 = .ok (.aload_n 0, 1) := by decide +kernel
theorem dX8_clock_6 : decode cX8_clock 6 = .ok (.getfield 36, 3) := by decide +kernel
theorem dX8_clock_9 : decode cX8_clock 9 = .ok (.invokevirtual 112, 3) := by decide +kernel
theorem dX8_clock_12 : decode cX8_clock 12 = .ok (.ireturn, 1) := by decide +kernel
theorem dX8_drifted_0 : decode cX8_drifted 0 = .ok (.aload_n 0, 1) := by decide +kernel
theorem dX8_drifted_1 : decode cX8_drifted 1 = .ok (.iload_n 1, 1) := by decide +kernel
theorem dX8_drifted_2 : decode cX8_drifted 2 = .ok (.invokevirtual 103, 3) := by decide +kernel
theorem dX8_drifted_5 : decode cX8_drifted 5 = .ok (.aload_n 0, 1) := by decide +kernel
theorem dX8_drifted_6 : decode cX8_drifted 6 = .ok (.getfield 36, 3) := by decide +kernel
theorem dX8_drifted_9 : decode cX8_drifted 9 = .ok (.invokevirtual 184, 3) := by decide +kernel
theorem dX8_drifted_12 : decode cX8_drifted 12 = .ok (.freturn, 1) := by decide +kernel
theorem dX8_driftedBits_0 : decode cX8_driftedBits 0 = .ok (.aload_n 0, 1) := by decide +kernel
theorem dX8_driftedBits_1 : decode cX8_driftedBits 1 = .ok (.iload_n 1, 1) := by decide +kernel
theorem dX8_driftedBits_2 : decode cX8_driftedBits 2 = .ok (.invokevirtual 103, 3) := by decide +kernel
theorem dX8_driftedBits_5 : decode cX8_driftedBits 5 = .ok (.aload_n 0, 1) := by decide +kernel
theorem dX8_driftedBits_6 : decode cX8_driftedBits 6 = .ok (.getfield 36, 3) := by decide +kernel
theorem dX8_driftedBits_9 : decode cX8_driftedBits 9 = .ok (.invokevirtual 184, 3) := by decide +kernel
theorem dX8_driftedBits_12 : decode cX8_driftedBits 12 = .ok (.invokestatic 188, 3) := by decide +kernel
theorem dX8_driftedBits_15 : decode cX8_driftedBits 15 = .ok (.ireturn, 1) := by decide +kernel
theorem dX8_versionOf_0 : decode cX8_versionOf 0 = .ok (.aload_n 0, 1) := by decide +kernel
theorem dX8_versionOf_1 : decode cX8_versionOf 1 = .ok (.iload_n 1, 1) := by decide +kernel
theorem dX8_versionOf_2 : decode cX8_versionOf 2 = .ok (.invokevirtual 103, 3) := by decide +kernel
theorem dX8_versionOf_5 : decode cX8_versionOf 5 = .ok (.getfield 162, 3) := by decide +kernel
theorem dX8_versionOf_8 : decode cX8_versionOf 8 = .ok (.ireturn, 1) := by decide +kernel
theorem dX8_versionByReplay_0 : decode cX8_versionByReplay 0 = .ok (.aload_n 0, 1) := by decide +kernel
theorem dX8_versionByReplay_1 : decode cX8_versionByReplay 1 = .ok (.getfield 32, 3) := by decide +kernel
theorem dX8_versionByReplay_4 : decode cX8_versionByReplay 4 = .ok (.iload_n 1, 1) := by decide +kernel
theorem dX8_versionByReplay_5 : decode cX8_versionByReplay 5 = .ok (.aload_n 0, 1) := by decide +kernel
theorem dX8_versionByReplay_6 : decode cX8_versionByReplay 6 = .ok (.iload_n 1, 1) := by decide +kernel
theorem dX8_versionByReplay_7 : decode cX8_versionByReplay 7 = .ok (.invokevirtual 103, 3) := by decide +kernel
theorem dX8_versionByReplay_10 : decode cX8_versionByReplay 10 = .ok (.getfield 194, 3) := by decide +kernel
theorem dX8_versionByReplay_13 : decode cX8_versionByReplay 13 = .ok (.invokevirtual 197, 3) := by decide +kernel
theorem dX8_versionByReplay_16 : decode cX8_versionByReplay 16 = .ok (.ireturn, 1) := by decide +kernel
theorem dX8_versionOn_0 : decode cX8_versionOn 0 = .ok (.aload_n 0, 1) := by decide +kernel
theorem dX8_versionOn_1 : decode cX8_versionOn 1 = .ok (.iload_n 1, 1) := by decide +kernel
theorem dX8_versionOn_2 : decode cX8_versionOn 2 = .ok (.invokevirtual 134, 3) := by decide +kernel
theorem dX8_versionOn_5 : decode cX8_versionOn 5 = .ok (.getfield 138, 3) := by decide +kernel
theorem dX8_versionOn_8 : decode cX8_versionOn 8 = .ok (.ireturn, 1) := by decide +kernel
theorem dX8_fromIn_0 : decode cX8_fromIn 0 = .ok (.aload_n 0, 1) := by decide +kernel
theorem dX8_fromIn_1 : decode cX8_fromIn 1 = .ok (.getfield 10, 3) := by decide +kernel
theorem dX8_fromIn_4 : decode cX8_fromIn 4 = .ok (.aload_n 0, 1) := by decide +kernel
theorem dX8_fromIn_5 : decode cX8_fromIn 5 = .ok (.iload_n 1, 1) := by decide +kernel
theorem dX8_fromIn_6 : decode cX8_fromIn 6 = .ok (.invokevirtual 103, 3) := by decide +kernel
theorem dX8_fromIn_9 : decode cX8_fromIn 9 = .ok (.getfield 162, 3) := by decide +kernel
theorem dX8_fromIn_12 : decode cX8_fromIn 12 = .ok (.iload_n 2, 1) := by decide +kernel
theorem dX8_fromIn_13 : decode cX8_fromIn 13 = .ok (.invokevirtual 200, 3) := by decide +kernel
theorem dX8_fromIn_16 : decode cX8_fromIn 16 = .ok (.astore_n 3, 1) := by decide +kernel
theorem dX8_fromIn_17 : decode cX8_fromIn 17 = .ok (.aload_n 3, 1) := by decide +kernel
theorem dX8_fromIn_18 : decode cX8_fromIn 18 = .ok (.ifnonnull 13, 3) := by decide +kernel
theorem dX8_fromIn_21 : decode cX8_fromIn 21 = .ok (.new 204, 3) := by decide +kernel
theorem dX8_fromIn_24 : decode cX8_fromIn 24 = .ok (.dup, 1) := by decide +kernel
theorem dX8_fromIn_25 : decode cX8_fromIn 25 = .ok (.ldc 206, 2) := by decide +kernel
theorem dX8_fromIn_27 : decode cX8_fromIn 27 = .ok (.invokespecial 208, 3) := by decide +kernel
theorem dX8_fromIn_30 : decode cX8_fromIn 30 = .ok (.athrow, 1) := by decide +kernel
theorem dX8_fromIn_31 : decode cX8_fromIn 31 = .ok (.aload_n 3, 1) := by decide +kernel
theorem dX8_fromIn_32 : decode cX8_fromIn 32 = .ok (.getfield 80, 3) := by decide +kernel
theorem dX8_fromIn_35 : decode cX8_fromIn 35 = .ok (.ireturn, 1) := by decide +kernel
theorem dX8_waiting_0 : decode cX8_waiting 0 = .ok (.aload_n 0, 1) := by decide +kernel
theorem dX8_waiting_1 : decode cX8_waiting 1 = .ok (.iload_n 1, 1) := by decide +kernel
theorem dX8_waiting_2 : decode cX8_waiting 2 = .ok (.invokevirtual 103, 3) := by decide +kernel
theorem dX8_waiting_5 : decode cX8_waiting 5 = .ok (.pop, 1) := by decide +kernel
theorem dX8_waiting_6 : decode cX8_waiting 6 = .ok (.iconst 0, 1) := by decide +kernel
theorem dX8_waiting_7 : decode cX8_waiting 7 = .ok (.istore_n 2, 1) := by decide +kernel
theorem dX8_waiting_8 : decode cX8_waiting 8 = .ok (.iconst 0, 1) := by decide +kernel
theorem dX8_waiting_9 : decode cX8_waiting 9 = .ok (.istore_n 3, 1) := by decide +kernel
theorem dX8_waiting_10 : decode cX8_waiting 10 = .ok (.iload_n 3, 1) := by decide +kernel
theorem dX8_waiting_11 : decode cX8_waiting 11 = .ok (.aload_n 0, 1) := by decide +kernel
theorem dX8_waiting_12 : decode cX8_waiting 12 = .ok (.getfield 26, 3) := by decide +kernel
theorem dX8_waiting_15 : decode cX8_waiting 15 = .ok (.invokevirtual 90, 3) := by decide +kernel
theorem dX8_waiting_18 : decode cX8_waiting 18 = .ok (.if_icmp .ge 30, 3) := by decide +kernel
theorem dX8_waiting_21 : decode cX8_waiting 21 = .ok (.aload_n 0, 1) := by decide +kernel
theorem dX8_waiting_22 : decode cX8_waiting 22 = .ok (.getfield 26, 3) := by decide +kernel
theorem dX8_waiting_25 : decode cX8_waiting 25 = .ok (.iload_n 3, 1) := by decide +kernel
theorem dX8_waiting_26 : decode cX8_waiting 26 = .ok (.invokevirtual 149, 3) := by decide +kernel
theorem dX8_waiting_29 : decode cX8_waiting 29 = .ok (.checkcast 153, 3) := by decide +kernel
theorem dX8_waiting_32 : decode cX8_waiting 32 = .ok (.iload_n 1, 1) := by decide +kernel
theorem dX8_waiting_33 : decode cX8_waiting 33 = .ok (.invokevirtual 169, 3) := by decide +kernel
theorem dX8_waiting_36 : decode cX8_waiting 36 = .ok (.ifCond .eq 6, 3) := by decide +kernel
theorem dX8_waiting_39 : decode cX8_waiting 39 = .ok (.iinc 2 1, 3) := by decide +kernel
theorem dX8_waiting_42 : decode cX8_waiting 42 = .ok (.iinc 3 1, 3) := by decide +kernel
theorem dX8_waiting_45 : decode cX8_waiting 45 = .ok (.goto (-35), 3) := by decide +kernel
theorem dX8_waiting_48 : decode cX8_waiting 48 = .ok (.iload_n 2, 1) := by decide +kernel
theorem dX8_waiting_49 : decode cX8_waiting 49 = .ok (.ireturn, 1) := by decide +kernel
theorem dX8_carried_0 : decode cX8_carried 0 = .ok (.aload_n 0, 1) := by decide +kernel
theorem dX8_carried_1 : decode cX8_carried 1 = .ok (.iload_n 1, 1) := by decide +kernel
theorem dX8_carried_2 : decode cX8_carried 2 = .ok (.invokevirtual 134, 3) := by decide +kernel
theorem dX8_carried_5 : decode cX8_carried 5 = .ok (.pop, 1) := by decide +kernel
theorem dX8_carried_6 : decode cX8_carried 6 = .ok (.iconst 0, 1) := by decide +kernel
theorem dX8_carried_7 : decode cX8_carried 7 = .ok (.istore_n 2, 1) := by decide +kernel
theorem dX8_carried_8 : decode cX8_carried 8 = .ok (.iconst 0, 1) := by decide +kernel
theorem dX8_carried_9 : decode cX8_carried 9 = .ok (.istore_n 3, 1) := by decide +kernel
theorem dX8_carried_10 : decode cX8_carried 10 = .ok (.iload_n 3, 1) := by decide +kernel
theorem dX8_carried_11 : decode cX8_carried 11 = .ok (.aload_n 0, 1) := by decide +kernel
theorem dX8_carried_12 : decode cX8_carried 12 = .ok (.getfield 26, 3) := by decide +kernel
theorem dX8_carried_15 : decode cX8_carried 15 = .ok (.invokevirtual 90, 3) := by decide +kernel
theorem dX8_carried_18 : decode cX8_carried 18 = .ok (.if_icmp .ge 30, 3) := by decide +kernel
theorem dX8_carried_21 : decode cX8_carried 21 = .ok (.aload_n 0, 1) := by decide +kernel
theorem dX8_carried_22 : decode cX8_carried 22 = .ok (.getfield 26, 3) := by decide +kernel
theorem dX8_carried_25 : decode cX8_carried 25 = .ok (.iload_n 3, 1) := by decide +kernel
theorem dX8_carried_26 : decode cX8_carried 26 = .ok (.invokevirtual 149, 3) := by decide +kernel
theorem dX8_carried_29 : decode cX8_carried 29 = .ok (.checkcast 153, 3) := by decide +kernel
theorem dX8_carried_32 : decode cX8_carried 32 = .ok (.iload_n 1, 1) := by decide +kernel
theorem dX8_carried_33 : decode cX8_carried 33 = .ok (.invokevirtual 155, 3) := by decide +kernel
theorem dX8_carried_36 : decode cX8_carried 36 = .ok (.ifCond .eq 6, 3) := by decide +kernel
theorem dX8_carried_39 : decode cX8_carried 39 = .ok (.iinc 2 1, 3) := by decide +kernel
theorem dX8_carried_42 : decode cX8_carried 42 = .ok (.iinc 3 1, 3) := by decide +kernel
theorem dX8_carried_45 : decode cX8_carried 45 = .ok (.goto (-35), 3) := by decide +kernel
theorem dX8_carried_48 : decode cX8_carried 48 = .ok (.iload_n 2, 1) := by decide +kernel
theorem dX8_carried_49 : decode cX8_carried 49 = .ok (.ireturn, 1) := by decide +kernel
theorem dX8_audits_0 : decode cX8_audits 0 = .ok (.aload_n 0, 1) := by decide +kernel
theorem dX8_audits_1 : decode cX8_audits 1 = .ok (.getfield 26, 3) := by decide +kernel
theorem dX8_audits_4 : decode cX8_audits 4 = .ok (.invokevirtual 90, 3) := by decide +kernel
theorem dX8_audits_7 : decode cX8_audits 7 = .ok (.ireturn, 1) := by decide +kernel
theorem dX8_letterOf_0 : decode cX8_letterOf 0 = .ok (.aload_n 0, 1) := by decide +kernel
theorem dX8_letterOf_1 : decode cX8_letterOf 1 = .ok (.iload_n 1, 1) := by decide +kernel
theorem dX8_letterOf_2 : decode cX8_letterOf 2 = .ok (.invokevirtual 209, 3) := by decide +kernel
theorem dX8_letterOf_5 : decode cX8_letterOf 5 = .ok (.getfield 213, 3) := by decide +kernel
theorem dX8_letterOf_8 : decode cX8_letterOf 8 = .ok (.ireturn, 1) := by decide +kernel
theorem dX8_letterByList_0 : decode cX8_letterByList 0 = .ok (.aload_n 0, 1) := by decide +kernel
theorem dX8_letterByList_1 : decode cX8_letterByList 1 = .ok (.aload_n 0, 1) := by decide +kernel
theorem dX8_letterByList_2 : decode cX8_letterByList 2 = .ok (.iload_n 1, 1) := by decide +kernel
theorem dX8_letterByList_3 : decode cX8_letterByList 3 = .ok (.invokevirtual 209, 3) := by decide +kernel
theorem dX8_letterByList_6 : decode cX8_letterByList 6 = .ok (.invokevirtual 217, 3) := by decide +kernel
theorem dX8_letterByList_9 : decode cX8_letterByList 9 = .ok (.ireturn, 1) := by decide +kernel
theorem dX8_minuteOf_0 : decode cX8_minuteOf 0 = .ok (.aload_n 0, 1) := by decide +kernel
theorem dX8_minuteOf_1 : decode cX8_minuteOf 1 = .ok (.iload_n 1, 1) := by decide +kernel
theorem dX8_minuteOf_2 : decode cX8_minuteOf 2 = .ok (.invokevirtual 209, 3) := by decide +kernel
theorem dX8_minuteOf_5 : decode cX8_minuteOf 5 = .ok (.getfield 221, 3) := by decide +kernel
theorem dX8_minuteOf_8 : decode cX8_minuteOf 8 = .ok (.ireturn, 1) := by decide +kernel
theorem dX8_versionAt_0 : decode cX8_versionAt 0 = .ok (.aload_n 0, 1) := by decide +kernel
theorem dX8_versionAt_1 : decode cX8_versionAt 1 = .ok (.iload_n 1, 1) := by decide +kernel
theorem dX8_versionAt_2 : decode cX8_versionAt 2 = .ok (.invokevirtual 209, 3) := by decide +kernel
theorem dX8_versionAt_5 : decode cX8_versionAt 5 = .ok (.getfield 224, 3) := by decide +kernel
theorem dX8_versionAt_8 : decode cX8_versionAt 8 = .ok (.ireturn, 1) := by decide +kernel
theorem dX8_hasArrived_0 : decode cX8_hasArrived 0 = .ok (.aload_n 0, 1) := by decide +kernel
theorem dX8_hasArrived_1 : decode cX8_hasArrived 1 = .ok (.iload_n 1, 1) := by decide +kernel
theorem dX8_hasArrived_2 : decode cX8_hasArrived 2 = .ok (.invokevirtual 209, 3) := by decide +kernel
theorem dX8_hasArrived_5 : decode cX8_hasArrived 5 = .ok (.invokevirtual 225, 3) := by decide +kernel
theorem dX8_hasArrived_8 : decode cX8_hasArrived 8 = .ok (.ireturn, 1) := by decide +kernel
theorem dX8_isBreach_0 : decode cX8_isBreach 0 = .ok (.aload_n 0, 1) := by decide +kernel
theorem dX8_isBreach_1 : decode cX8_isBreach 1 = .ok (.aload_n 0, 1) := by decide +kernel
theorem dX8_isBreach_2 : decode cX8_isBreach 2 = .ok (.iload_n 1, 1) := by decide +kernel
theorem dX8_isBreach_3 : decode cX8_isBreach 3 = .ok (.invokevirtual 209, 3) := by decide +kernel
theorem dX8_isBreach_6 : decode cX8_isBreach 6 = .ok (.invokevirtual 229, 3) := by decide +kernel
theorem dX8_isBreach_9 : decode cX8_isBreach 9 = .ok (.ireturn, 1) := by decide +kernel
theorem dX8_breaches_0 : decode cX8_breaches 0 = .ok (.iconst 0, 1) := by decide +kernel
theorem dX8_breaches_1 : decode cX8_breaches 1 = .ok (.istore_n 1, 1) := by decide +kernel
theorem dX8_breaches_2 : decode cX8_breaches 2 = .ok (.iconst 0, 1) := by decide +kernel
theorem dX8_breaches_3 : decode cX8_breaches 3 = .ok (.istore_n 2, 1) := by decide +kernel
theorem dX8_breaches_4 : decode cX8_breaches 4 = .ok (.iload_n 2, 1) := by decide +kernel
theorem dX8_breaches_5 : decode cX8_breaches 5 = .ok (.aload_n 0, 1) := by decide +kernel
theorem dX8_breaches_6 : decode cX8_breaches 6 = .ok (.getfield 26, 3) := by decide +kernel
theorem dX8_breaches_9 : decode cX8_breaches 9 = .ok (.invokevirtual 90, 3) := by decide +kernel
theorem dX8_breaches_12 : decode cX8_breaches 12 = .ok (.if_icmp .ge 30, 3) := by decide +kernel
theorem dX8_breaches_15 : decode cX8_breaches 15 = .ok (.aload_n 0, 1) := by decide +kernel
theorem dX8_breaches_16 : decode cX8_breaches 16 = .ok (.aload_n 0, 1) := by decide +kernel
theorem dX8_breaches_17 : decode cX8_breaches 17 = .ok (.getfield 26, 3) := by decide +kernel
theorem dX8_breaches_20 : decode cX8_breaches 20 = .ok (.iload_n 2, 1) := by decide +kernel
theorem dX8_breaches_21 : decode cX8_breaches 21 = .ok (.invokevirtual 149, 3) := by decide +kernel
theorem dX8_breaches_24 : decode cX8_breaches 24 = .ok (.checkcast 153, 3) := by decide +kernel
theorem dX8_breaches_27 : decode cX8_breaches 27 = .ok (.invokevirtual 229, 3) := by decide +kernel
theorem dX8_breaches_30 : decode cX8_breaches 30 = .ok (.ifCond .eq 6, 3) := by decide +kernel
theorem dX8_breaches_33 : decode cX8_breaches 33 = .ok (.iinc 1 1, 3) := by decide +kernel
theorem dX8_breaches_36 : decode cX8_breaches 36 = .ok (.iinc 2 1, 3) := by decide +kernel
theorem dX8_breaches_39 : decode cX8_breaches 39 = .ok (.goto (-35), 3) := by decide +kernel
theorem dX8_breaches_42 : decode cX8_breaches 42 = .ok (.iload_n 1, 1) := by decide +kernel
theorem dX8_breaches_43 : decode cX8_breaches 43 = .ok (.ireturn, 1) := by decide +kernel
theorem dX8_breachesAt_0 : decode cX8_breachesAt 0 = .ok (.aload_n 0, 1) := by decide +kernel
theorem dX8_breachesAt_1 : decode cX8_breachesAt 1 = .ok (.iload_n 1, 1) := by decide +kernel
theorem dX8_breachesAt_2 : decode cX8_breachesAt 2 = .ok (.invokevirtual 103, 3) := by decide +kernel
theorem dX8_breachesAt_5 : decode cX8_breachesAt 5 = .ok (.pop, 1) := by decide +kernel
theorem dX8_breachesAt_6 : decode cX8_breachesAt 6 = .ok (.iconst 0, 1) := by decide +kernel
theorem dX8_breachesAt_7 : decode cX8_breachesAt 7 = .ok (.istore_n 2, 1) := by decide +kernel
theorem dX8_breachesAt_8 : decode cX8_breachesAt 8 = .ok (.iconst 0, 1) := by decide +kernel
theorem dX8_breachesAt_9 : decode cX8_breachesAt 9 = .ok (.istore_n 3, 1) := by decide +kernel
theorem dX8_breachesAt_10 : decode cX8_breachesAt 10 = .ok (.iload_n 3, 1) := by decide +kernel
theorem dX8_breachesAt_11 : decode cX8_breachesAt 11 = .ok (.aload_n 0, 1) := by decide +kernel
theorem dX8_breachesAt_12 : decode cX8_breachesAt 12 = .ok (.getfield 26, 3) := by decide +kernel
theorem dX8_breachesAt_15 : decode cX8_breachesAt 15 = .ok (.invokevirtual 90, 3) := by decide +kernel
theorem dX8_breachesAt_18 : decode cX8_breachesAt 18 = .ok (.if_icmp .ge 43, 3) := by decide +kernel
theorem dX8_breachesAt_21 : decode cX8_breachesAt 21 = .ok (.aload_n 0, 1) := by decide +kernel
theorem dX8_breachesAt_22 : decode cX8_breachesAt 22 = .ok (.getfield 26, 3) := by decide +kernel
theorem dX8_breachesAt_25 : decode cX8_breachesAt 25 = .ok (.iload_n 3, 1) := by decide +kernel
theorem dX8_breachesAt_26 : decode cX8_breachesAt 26 = .ok (.invokevirtual 149, 3) := by decide +kernel
theorem dX8_breachesAt_29 : decode cX8_breachesAt 29 = .ok (.checkcast 153, 3) := by decide +kernel
theorem dX8_breachesAt_32 : decode cX8_breachesAt 32 = .ok (.astore 4, 2) := by decide +kernel
theorem dX8_breachesAt_34 : decode cX8_breachesAt 34 = .ok (.aload 4, 2) := by decide +kernel
theorem dX8_breachesAt_36 : decode cX8_breachesAt 36 = .ok (.getfield 233, 3) := by decide +kernel
theorem dX8_breachesAt_39 : decode cX8_breachesAt 39 = .ok (.iload_n 1, 1) := by decide +kernel
theorem dX8_breachesAt_40 : decode cX8_breachesAt 40 = .ok (.if_icmp .ne 15, 3) := by decide +kernel
theorem dX8_breachesAt_43 : decode cX8_breachesAt 43 = .ok (.aload_n 0, 1) := by decide +kernel
theorem dX8_breachesAt_44 : decode cX8_breachesAt 44 = .ok (.aload 4, 2) := by decide +kernel
theorem dX8_breachesAt_46 : decode cX8_breachesAt 46 = .ok (.invokevirtual 229, 3) := by decide +kernel
theorem dX8_breachesAt_49 : decode cX8_breachesAt 49 = .ok (.ifCond .eq 6, 3) := by decide +kernel
theorem dX8_breachesAt_52 : decode cX8_breachesAt 52 = .ok (.iinc 2 1, 3) := by decide +kernel
theorem dX8_breachesAt_55 : decode cX8_breachesAt 55 = .ok (.iinc 3 1, 3) := by decide +kernel
theorem dX8_breachesAt_58 : decode cX8_breachesAt 58 = .ok (.goto (-48), 3) := by decide +kernel
theorem dX8_breachesAt_61 : decode cX8_breachesAt 61 = .ok (.iload_n 2, 1) := by decide +kernel
theorem dX8_breachesAt_62 : decode cX8_breachesAt 62 = .ok (.ireturn, 1) := by decide +kernel
theorem dX8_delays_0 : decode cX8_delays 0 = .ok (.lconst 0, 1) := by decide +kernel
theorem dX8_delays_1 : decode cX8_delays 1 = .ok (.lstore_n 1, 1) := by decide +kernel
theorem dX8_delays_2 : decode cX8_delays 2 = .ok (.iconst 0, 1) := by decide +kernel
theorem dX8_delays_3 : decode cX8_delays 3 = .ok (.istore_n 3, 1) := by decide +kernel
theorem dX8_delays_4 : decode cX8_delays 4 = .ok (.iload_n 3, 1) := by decide +kernel
theorem dX8_delays_5 : decode cX8_delays 5 = .ok (.aload_n 0, 1) := by decide +kernel
theorem dX8_delays_6 : decode cX8_delays 6 = .ok (.getfield 26, 3) := by decide +kernel
theorem dX8_delays_9 : decode cX8_delays 9 = .ok (.invokevirtual 90, 3) := by decide +kernel
theorem dX8_delays_12 : decode cX8_delays 12 = .ok (.if_icmp .ge 45, 3) := by decide +kernel
theorem dX8_delays_15 : decode cX8_delays 15 = .ok (.aload_n 0, 1) := by decide +kernel
theorem dX8_delays_16 : decode cX8_delays 16 = .ok (.getfield 26, 3) := by decide +kernel
theorem dX8_delays_19 : decode cX8_delays 19 = .ok (.iload_n 3, 1) := by decide +kernel
theorem dX8_delays_20 : decode cX8_delays 20 = .ok (.invokevirtual 149, 3) := by decide +kernel
theorem dX8_delays_23 : decode cX8_delays 23 = .ok (.checkcast 153, 3) := by decide +kernel
theorem dX8_delays_26 : decode cX8_delays 26 = .ok (.astore 4, 2) := by decide +kernel
theorem dX8_delays_28 : decode cX8_delays 28 = .ok (.aload 4, 2) := by decide +kernel
theorem dX8_delays_30 : decode cX8_delays 30 = .ok (.invokevirtual 225, 3) := by decide +kernel
theorem dX8_delays_33 : decode cX8_delays 33 = .ok (.ifCond .eq 18, 3) := by decide +kernel
theorem dX8_delays_36 : decode cX8_delays 36 = .ok (.lload_n 1, 1) := by decide +kernel
theorem dX8_delays_37 : decode cX8_delays 37 = .ok (.aload 4, 2) := by decide +kernel
theorem dX8_delays_39 : decode cX8_delays 39 = .ok (.getfield 159, 3) := by decide +kernel
theorem dX8_delays_42 : decode cX8_delays 42 = .ok (.aload 4, 2) := by decide +kernel
theorem dX8_delays_44 : decode cX8_delays 44 = .ok (.getfield 236, 3) := by decide +kernel
theorem dX8_delays_47 : decode cX8_delays 47 = .ok (.isub, 1) := by decide +kernel
theorem dX8_delays_48 : decode cX8_delays 48 = .ok (.i2l, 1) := by decide +kernel
theorem dX8_delays_49 : decode cX8_delays 49 = .ok (.ladd, 1) := by decide +kernel
theorem dX8_delays_50 : decode cX8_delays 50 = .ok (.lstore_n 1, 1) := by decide +kernel
theorem dX8_delays_51 : decode cX8_delays 51 = .ok (.iinc 3 1, 3) := by decide +kernel
theorem dX8_delays_54 : decode cX8_delays 54 = .ok (.goto (-50), 3) := by decide +kernel
theorem dX8_delays_57 : decode cX8_delays 57 = .ok (.lload_n 1, 1) := by decide +kernel
theorem dX8_delays_58 : decode cX8_delays 58 = .ok (.lreturn, 1) := by decide +kernel
theorem dX8_meanDelay_0 : decode cX8_meanDelay 0 = .ok (.aload_n 0, 1) := by decide +kernel
theorem dX8_meanDelay_1 : decode cX8_meanDelay 1 = .ok (.invokevirtual 239, 3) := by decide +kernel
theorem dX8_meanDelay_4 : decode cX8_meanDelay 4 = .ok (.dreturn, 1) := by decide +kernel
theorem dX8_meanBits_0 : decode cX8_meanBits 0 = .ok (.aload_n 0, 1) := by decide +kernel
theorem dX8_meanBits_1 : decode cX8_meanBits 1 = .ok (.invokevirtual 239, 3) := by decide +kernel
theorem dX8_meanBits_4 : decode cX8_meanBits 4 = .ok (.invokestatic 243, 3) := by decide +kernel
theorem dX8_meanBits_7 : decode cX8_meanBits 7 = .ok (.lreturn, 1) := by decide +kernel
theorem dX8_arrivedShare_0 : decode cX8_arrivedShare 0 = .ok (.aload_n 0, 1) := by decide +kernel
theorem dX8_arrivedShare_1 : decode cX8_arrivedShare 1 = .ok (.getfield 26, 3) := by decide +kernel
theorem dX8_arrivedShare_4 : decode cX8_arrivedShare 4 = .ok (.invokevirtual 90, 3) := by decide +kernel
theorem dX8_arrivedShare_7 : decode cX8_arrivedShare 7 = .ok (.istore_n 1, 1) := by decide +kernel
theorem dX8_arrivedShare_8 : decode cX8_arrivedShare 8 = .ok (.iload_n 1, 1) := by decide +kernel
theorem dX8_arrivedShare_9 : decode cX8_arrivedShare 9 = .ok (.ifCond .ne 13, 3) := by decide +kernel
theorem dX8_arrivedShare_12 : decode cX8_arrivedShare 12 = .ok (.new 247, 3) := by decide +kernel
theorem dX8_arrivedShare_15 : decode cX8_arrivedShare 15 = .ok (.dup, 1) := by decide +kernel
theorem dX8_arrivedShare_16 : decode cX8_arrivedShare 16 = .ok (.ldc 249, 2) := by decide +kernel
theorem dX8_arrivedShare_18 : decode cX8_arrivedShare 18 = .ok (.invokespecial 251, 3) := by decide +kernel
theorem dX8_arrivedShare_21 : decode cX8_arrivedShare 21 = .ok (.athrow, 1) := by decide +kernel
theorem dX8_arrivedShare_22 : decode cX8_arrivedShare 22 = .ok (.aload_n 0, 1) := by decide +kernel
theorem dX8_arrivedShare_23 : decode cX8_arrivedShare 23 = .ok (.invokevirtual 252, 3) := by decide +kernel
theorem dX8_arrivedShare_26 : decode cX8_arrivedShare 26 = .ok (.i2f, 1) := by decide +kernel
theorem dX8_arrivedShare_27 : decode cX8_arrivedShare 27 = .ok (.iload_n 1, 1) := by decide +kernel
theorem dX8_arrivedShare_28 : decode cX8_arrivedShare 28 = .ok (.i2f, 1) := by decide +kernel
theorem dX8_arrivedShare_29 : decode cX8_arrivedShare 29 = .ok (.fdiv, 1) := by decide +kernel
theorem dX8_arrivedShare_30 : decode cX8_arrivedShare 30 = .ok (.freturn, 1) := by decide +kernel
theorem dX8_isSound_0 : decode cX8_isSound 0 = .ok (.aload_n 0, 1) := by decide +kernel
theorem dX8_isSound_1 : decode cX8_isSound 1 = .ok (.invokevirtual 255, 3) := by decide +kernel
theorem dX8_isSound_4 : decode cX8_isSound 4 = .ok (.ifCond .eq 21, 3) := by decide +kernel
theorem dX8_isSound_7 : decode cX8_isSound 7 = .ok (.aload_n 0, 1) := by decide +kernel
theorem dX8_isSound_8 : decode cX8_isSound 8 = .ok (.invokevirtual 258, 3) := by decide +kernel
theorem dX8_isSound_11 : decode cX8_isSound 11 = .ok (.ifCond .eq 14, 3) := by decide +kernel
theorem dX8_isSound_14 : decode cX8_isSound 14 = .ok (.aload_n 0, 1) := by decide +kernel
theorem dX8_isSound_15 : decode cX8_isSound 15 = .ok (.invokevirtual 261, 3) := by decide +kernel
theorem dX8_isSound_18 : decode cX8_isSound 18 = .ok (.ifCond .eq 7, 3) := by decide +kernel
theorem dX8_isSound_21 : decode cX8_isSound 21 = .ok (.iconst 1, 1) := by decide +kernel
theorem dX8_isSound_22 : decode cX8_isSound 22 = .ok (.goto 4, 3) := by decide +kernel
theorem dX8_isSound_25 : decode cX8_isSound 25 = .ok (.iconst 0, 1) := by decide +kernel
theorem dX8_isSound_26 : decode cX8_isSound 26 = .ok (.ireturn, 1) := by decide +kernel
theorem dX8_checkDoorSet_0 : decode cX8_checkDoorSet 0 = .ok (.iload_n 0, 1) := by decide +kernel
theorem dX8_checkDoorSet_1 : decode cX8_checkDoorSet 1 = .ok (.ifCond .lt 9, 3) := by decide +kernel
theorem dX8_checkDoorSet_4 : decode cX8_checkDoorSet 4 = .ok (.iload_n 0, 1) := by decide +kernel
theorem dX8_checkDoorSet_5 : decode cX8_checkDoorSet 5 = .ok (.bipush 31, 2) := by decide +kernel
theorem dX8_checkDoorSet_7 : decode cX8_checkDoorSet 7 = .ok (.if_icmp .le 14, 3) := by decide +kernel
theorem dX8_checkDoorSet_10 : decode cX8_checkDoorSet 10 = .ok (.new 107, 3) := by decide +kernel
theorem dX8_checkDoorSet_13 : decode cX8_checkDoorSet 13 = .ok (.dup, 1) := by decide +kernel
theorem dX8_checkDoorSet_14 : decode cX8_checkDoorSet 14 = .ok (.ldc_w 264, 3) := by decide +kernel
theorem dX8_checkDoorSet_17 : decode cX8_checkDoorSet 17 = .ok (.invokespecial 111, 3) := by decide +kernel
theorem dX8_checkDoorSet_20 : decode cX8_checkDoorSet 20 = .ok (.athrow, 1) := by decide +kernel
theorem dX8_checkDoorSet_21 : decode cX8_checkDoorSet 21 = .ok (.return_, 1) := by decide +kernel
theorem dX8_checkTimes_0 : decode cX8_checkTimes 0 = .ok (.iload_n 0, 1) := by decide +kernel
theorem dX8_checkTimes_1 : decode cX8_checkTimes 1 = .ok (.ifCond .lt 14, 3) := by decide +kernel
theorem dX8_checkTimes_4 : decode cX8_checkTimes 4 = .ok (.iload_n 1, 1) := by decide +kernel
theorem dX8_checkTimes_5 : decode cX8_checkTimes 5 = .ok (.iload_n 0, 1) := by decide +kernel
theorem dX8_checkTimes_6 : decode cX8_checkTimes 6 = .ok (.if_icmp .le 9, 3) := by decide +kernel
theorem dX8_checkTimes_9 : decode cX8_checkTimes 9 = .ok (.iload_n 1, 1) := by decide +kernel
theorem dX8_checkTimes_10 : decode cX8_checkTimes 10 = .ok (.ldc 131, 2) := by decide +kernel
theorem dX8_checkTimes_12 : decode cX8_checkTimes 12 = .ok (.if_icmp .le 14, 3) := by decide +kernel
theorem dX8_checkTimes_15 : decode cX8_checkTimes 15 = .ok (.new 107, 3) := by decide +kernel
theorem dX8_checkTimes_18 : decode cX8_checkTimes 18 = .ok (.dup, 1) := by decide +kernel
theorem dX8_checkTimes_19 : decode cX8_checkTimes 19 = .ok (.ldc_w 266, 3) := by decide +kernel
theorem dX8_checkTimes_22 : decode cX8_checkTimes 22 = .ok (.invokespecial 111, 3) := by decide +kernel
theorem dX8_checkTimes_25 : decode cX8_checkTimes 25 = .ok (.athrow, 1) := by decide +kernel
theorem dX8_checkTimes_26 : decode cX8_checkTimes 26 = .ok (.return_, 1) := by decide +kernel
theorem dX8_checkNotRevoked_0 : decode cX8_checkNotRevoked 0 = .ok (.aload_n 0, 1) := by decide +kernel
theorem dX8_checkNotRevoked_1 : decode cX8_checkNotRevoked 1 = .ok (.getfield 268, 3) := by decide +kernel
theorem dX8_checkNotRevoked_4 : decode cX8_checkNotRevoked 4 = .ok (.ifCond .eq 14, 3) := by decide +kernel
theorem dX8_checkNotRevoked_7 : decode cX8_checkNotRevoked 7 = .ok (.new 51, 3) := by decide +kernel
theorem dX8_checkNotRevoked_10 : decode cX8_checkNotRevoked 10 = .ok (.dup, 1) := by decide +kernel
theorem dX8_checkNotRevoked_11 : decode cX8_checkNotRevoked 11 = .ok (.ldc_w 272, 3) := by decide +kernel
theorem dX8_checkNotRevoked_14 : decode cX8_checkNotRevoked 14 = .ok (.invokespecial 55, 3) := by decide +kernel
theorem dX8_checkNotRevoked_17 : decode cX8_checkNotRevoked 17 = .ok (.athrow, 1) := by decide +kernel
theorem dX8_checkNotRevoked_18 : decode cX8_checkNotRevoked 18 = .ok (.return_, 1) := by decide +kernel
theorem dX8_checkRoomForChange_0 : decode cX8_checkRoomForChange 0 = .ok (.aload_n 0, 1) := by decide +kernel
theorem dX8_checkRoomForChange_1 : decode cX8_checkRoomForChange 1 = .ok (.getfield 10, 3) := by decide +kernel
theorem dX8_checkRoomForChange_4 : decode cX8_checkRoomForChange 4 = .ok (.invokevirtual 86, 3) := by decide +kernel
theorem dX8_checkRoomForChange_7 : decode cX8_checkRoomForChange 7 = .ok (.bipush 50, 2) := by decide +kernel
theorem dX8_checkRoomForChange_9 : decode cX8_checkRoomForChange 9 = .ok (.if_icmp .lt 14, 3) := by decide +kernel
theorem dX8_checkRoomForChange_12 : decode cX8_checkRoomForChange 12 = .ok (.new 51, 3) := by decide +kernel
theorem dX8_checkRoomForChange_15 : decode cX8_checkRoomForChange 15 = .ok (.dup, 1) := by decide +kernel
theorem dX8_checkRoomForChange_16 : decode cX8_checkRoomForChange 16 = .ok (.ldc_w 274, 3) := by decide +kernel
theorem dX8_checkRoomForChange_19 : decode cX8_checkRoomForChange 19 = .ok (.invokespecial 55, 3) := by decide +kernel
theorem dX8_checkRoomForChange_22 : decode cX8_checkRoomForChange 22 = .ok (.athrow, 1) := by decide +kernel
theorem dX8_checkRoomForChange_23 : decode cX8_checkRoomForChange 23 = .ok (.return_, 1) := by decide +kernel
theorem dX8_presentKey_0 : decode cX8_presentKey 0 = .ok (.aload_n 0, 1) := by decide +kernel
theorem dX8_presentKey_1 : decode cX8_presentKey 1 = .ok (.getfield 10, 3) := by decide +kernel
theorem dX8_presentKey_4 : decode cX8_presentKey 4 = .ok (.aload_n 0, 1) := by decide +kernel
theorem dX8_presentKey_5 : decode cX8_presentKey 5 = .ok (.getfield 10, 3) := by decide +kernel
theorem dX8_presentKey_8 : decode cX8_presentKey 8 = .ok (.invokevirtual 86, 3) := by decide +kernel
theorem dX8_presentKey_11 : decode cX8_presentKey 11 = .ok (.iload_n 1, 1) := by decide +kernel
theorem dX8_presentKey_12 : decode cX8_presentKey 12 = .ok (.invokevirtual 200, 3) := by decide +kernel
theorem dX8_presentKey_15 : decode cX8_presentKey 15 = .ok (.astore_n 2, 1) := by decide +kernel
theorem dX8_presentKey_16 : decode cX8_presentKey 16 = .ok (.aload_n 2, 1) := by decide +kernel
theorem dX8_presentKey_17 : decode cX8_presentKey 17 = .ok (.ifnonnull 14, 3) := by decide +kernel
theorem dX8_presentKey_20 : decode cX8_presentKey 20 = .ok (.new 204, 3) := by decide +kernel
theorem dX8_presentKey_23 : decode cX8_presentKey 23 = .ok (.dup, 1) := by decide +kernel
theorem dX8_presentKey_24 : decode cX8_presentKey 24 = .ok (.ldc_w 276, 3) := by decide +kernel
theorem dX8_presentKey_27 : decode cX8_presentKey 27 = .ok (.invokespecial 208, 3) := by decide +kernel
theorem dX8_presentKey_30 : decode cX8_presentKey 30 = .ok (.athrow, 1) := by decide +kernel
theorem dX8_presentKey_31 : decode cX8_presentKey 31 = .ok (.aload_n 2, 1) := by decide +kernel
theorem dX8_presentKey_32 : decode cX8_presentKey 32 = .ok (.areturn, 1) := by decide +kernel
theorem dX8_doorOf_0 : decode cX8_doorOf 0 = .ok (.iload_n 1, 1) := by decide +kernel
theorem dX8_doorOf_1 : decode cX8_doorOf 1 = .ok (.ifCond .lt 14, 3) := by decide +kernel
theorem dX8_doorOf_4 : decode cX8_doorOf 4 = .ok (.iload_n 1, 1) := by decide +kernel
theorem dX8_doorOf_5 : decode cX8_doorOf 5 = .ok (.aload_n 0, 1) := by decide +kernel
theorem dX8_doorOf_6 : decode cX8_doorOf 6 = .ok (.getfield 19, 3) := by decide +kernel
theorem dX8_doorOf_9 : decode cX8_doorOf 9 = .ok (.invokevirtual 90, 3) := by decide +kernel
theorem dX8_doorOf_12 : decode cX8_doorOf 12 = .ok (.if_icmp .lt 14, 3) := by decide +kernel
theorem dX8_doorOf_15 : decode cX8_doorOf 15 = .ok (.new 278, 3) := by decide +kernel
theorem dX8_doorOf_18 : decode cX8_doorOf 18 = .ok (.dup, 1) := by decide +kernel
theorem dX8_doorOf_19 : decode cX8_doorOf 19 = .ok (.ldc_w 280, 3) := by decide +kernel
theorem dX8_doorOf_22 : decode cX8_doorOf 22 = .ok (.invokespecial 282, 3) := by decide +kernel
theorem dX8_doorOf_25 : decode cX8_doorOf 25 = .ok (.athrow, 1) := by decide +kernel
theorem dX8_doorOf_26 : decode cX8_doorOf 26 = .ok (.aload_n 0, 1) := by decide +kernel
theorem dX8_doorOf_27 : decode cX8_doorOf 27 = .ok (.getfield 19, 3) := by decide +kernel
theorem dX8_doorOf_30 : decode cX8_doorOf 30 = .ok (.iload_n 1, 1) := by decide +kernel
theorem dX8_doorOf_31 : decode cX8_doorOf 31 = .ok (.invokevirtual 149, 3) := by decide +kernel
theorem dX8_doorOf_34 : decode cX8_doorOf 34 = .ok (.checkcast 95, 3) := by decide +kernel
theorem dX8_doorOf_37 : decode cX8_doorOf 37 = .ok (.areturn, 1) := by decide +kernel
theorem dX8_phoneOf_0 : decode cX8_phoneOf 0 = .ok (.iload_n 1, 1) := by decide +kernel
theorem dX8_phoneOf_1 : decode cX8_phoneOf 1 = .ok (.ifCond .lt 14, 3) := by decide +kernel
theorem dX8_phoneOf_4 : decode cX8_phoneOf 4 = .ok (.iload_n 1, 1) := by decide +kernel
theorem dX8_phoneOf_5 : decode cX8_phoneOf 5 = .ok (.aload_n 0, 1) := by decide +kernel
theorem dX8_phoneOf_6 : decode cX8_phoneOf 6 = .ok (.getfield 23, 3) := by decide +kernel
theorem dX8_phoneOf_9 : decode cX8_phoneOf 9 = .ok (.invokevirtual 90, 3) := by decide +kernel
theorem dX8_phoneOf_12 : decode cX8_phoneOf 12 = .ok (.if_icmp .lt 14, 3) := by decide +kernel
theorem dX8_phoneOf_15 : decode cX8_phoneOf 15 = .ok (.new 278, 3) := by decide +kernel
theorem dX8_phoneOf_18 : decode cX8_phoneOf 18 = .ok (.dup, 1) := by decide +kernel
theorem dX8_phoneOf_19 : decode cX8_phoneOf 19 = .ok (.ldc_w 283, 3) := by decide +kernel
theorem dX8_phoneOf_22 : decode cX8_phoneOf 22 = .ok (.invokespecial 282, 3) := by decide +kernel
theorem dX8_phoneOf_25 : decode cX8_phoneOf 25 = .ok (.athrow, 1) := by decide +kernel
theorem dX8_phoneOf_26 : decode cX8_phoneOf 26 = .ok (.aload_n 0, 1) := by decide +kernel
theorem dX8_phoneOf_27 : decode cX8_phoneOf 27 = .ok (.getfield 23, 3) := by decide +kernel
theorem dX8_phoneOf_30 : decode cX8_phoneOf 30 = .ok (.iload_n 1, 1) := by decide +kernel
theorem dX8_phoneOf_31 : decode cX8_phoneOf 31 = .ok (.invokevirtual 149, 3) := by decide +kernel
theorem dX8_phoneOf_34 : decode cX8_phoneOf 34 = .ok (.checkcast 126, 3) := by decide +kernel
theorem dX8_phoneOf_37 : decode cX8_phoneOf 37 = .ok (.areturn, 1) := by decide +kernel
theorem dX8_auditOf_0 : decode cX8_auditOf 0 = .ok (.iload_n 1, 1) := by decide +kernel
theorem dX8_auditOf_1 : decode cX8_auditOf 1 = .ok (.ifCond .lt 14, 3) := by decide +kernel
theorem dX8_auditOf_4 : decode cX8_auditOf 4 = .ok (.iload_n 1, 1) := by decide +kernel
theorem dX8_auditOf_5 : decode cX8_auditOf 5 = .ok (.aload_n 0, 1) := by decide +kernel
theorem dX8_auditOf_6 : decode cX8_auditOf 6 = .ok (.getfield 26, 3) := by decide +kernel
theorem dX8_auditOf_9 : decode cX8_auditOf 9 = .ok (.invokevirtual 90, 3) := by decide +kernel
theorem dX8_auditOf_12 : decode cX8_auditOf 12 = .ok (.if_icmp .lt 14, 3) := by decide +kernel
theorem dX8_auditOf_15 : decode cX8_auditOf 15 = .ok (.new 204, 3) := by decide +kernel
theorem dX8_auditOf_18 : decode cX8_auditOf 18 = .ok (.dup, 1) := by decide +kernel
theorem dX8_auditOf_19 : decode cX8_auditOf 19 = .ok (.ldc_w 285, 3) := by decide +kernel
theorem dX8_auditOf_22 : decode cX8_auditOf 22 = .ok (.invokespecial 208, 3) := by decide +kernel
theorem dX8_auditOf_25 : decode cX8_auditOf 25 = .ok (.athrow, 1) := by decide +kernel
theorem dX8_auditOf_26 : decode cX8_auditOf 26 = .ok (.aload_n 0, 1) := by decide +kernel
theorem dX8_auditOf_27 : decode cX8_auditOf 27 = .ok (.getfield 26, 3) := by decide +kernel
theorem dX8_auditOf_30 : decode cX8_auditOf 30 = .ok (.iload_n 1, 1) := by decide +kernel
theorem dX8_auditOf_31 : decode cX8_auditOf 31 = .ok (.invokevirtual 149, 3) := by decide +kernel
theorem dX8_auditOf_34 : decode cX8_auditOf 34 = .ok (.checkcast 153, 3) := by decide +kernel
theorem dX8_auditOf_37 : decode cX8_auditOf 37 = .ok (.areturn, 1) := by decide +kernel
theorem dX8_letterAgain_0 : decode cX8_letterAgain 0 = .ok (.aload_n 0, 1) := by decide +kernel
theorem dX8_letterAgain_1 : decode cX8_letterAgain 1 = .ok (.getfield 10, 3) := by decide +kernel
theorem dX8_letterAgain_4 : decode cX8_letterAgain 4 = .ok (.aload_n 1, 1) := by decide +kernel
theorem dX8_letterAgain_5 : decode cX8_letterAgain 5 = .ok (.getfield 224, 3) := by decide +kernel
theorem dX8_letterAgain_8 : decode cX8_letterAgain 8 = .ok (.aload_n 1, 1) := by decide +kernel
theorem dX8_letterAgain_9 : decode cX8_letterAgain 9 = .ok (.getfield 287, 3) := by decide +kernel
theorem dX8_letterAgain_12 : decode cX8_letterAgain 12 = .ok (.aload_n 1, 1) := by decide +kernel
theorem dX8_letterAgain_13 : decode cX8_letterAgain 13 = .ok (.getfield 233, 3) := by decide +kernel
theorem dX8_letterAgain_16 : decode cX8_letterAgain 16 = .ok (.aload_n 1, 1) := by decide +kernel
theorem dX8_letterAgain_17 : decode cX8_letterAgain 17 = .ok (.getfield 221, 3) := by decide +kernel
theorem dX8_letterAgain_20 : decode cX8_letterAgain 20 = .ok (.invokevirtual 177, 3) := by decide +kernel
theorem dX8_letterAgain_23 : decode cX8_letterAgain 23 = .ok (.ireturn, 1) := by decide +kernel
theorem dX8_isToldAsBreach_0 : decode cX8_isToldAsBreach 0 = .ok (.aload_n 1, 1) := by decide +kernel
theorem dX8_isToldAsBreach_1 : decode cX8_isToldAsBreach 1 = .ok (.invokevirtual 225, 3) := by decide +kernel
theorem dX8_isToldAsBreach_4 : decode cX8_isToldAsBreach 4 = .ok (.ifCond .eq 12, 3) := by decide +kernel
theorem dX8_isToldAsBreach_7 : decode cX8_isToldAsBreach 7 = .ok (.aload_n 1, 1) := by decide +kernel
theorem dX8_isToldAsBreach_8 : decode cX8_isToldAsBreach 8 = .ok (.getfield 213, 3) := by decide +kernel
theorem dX8_isToldAsBreach_11 : decode cX8_isToldAsBreach 11 = .ok (.bipush 111, 2) := by decide +kernel
theorem dX8_isToldAsBreach_13 : decode cX8_isToldAsBreach 13 = .ok (.if_icmp .eq 5, 3) := by decide +kernel
theorem dX8_isToldAsBreach_16 : decode cX8_isToldAsBreach 16 = .ok (.iconst 0, 1) := by decide +kernel
theorem dX8_isToldAsBreach_17 : decode cX8_isToldAsBreach 17 = .ok (.ireturn, 1) := by decide +kernel
theorem dX8_isToldAsBreach_18 : decode cX8_isToldAsBreach 18 = .ok (.aload_n 0, 1) := by decide +kernel
theorem dX8_isToldAsBreach_19 : decode cX8_isToldAsBreach 19 = .ok (.getfield 10, 3) := by decide +kernel
theorem dX8_isToldAsBreach_22 : decode cX8_isToldAsBreach 22 = .ok (.aload_n 1, 1) := by decide +kernel
theorem dX8_isToldAsBreach_23 : decode cX8_isToldAsBreach 23 = .ok (.getfield 221, 3) := by decide +kernel
theorem dX8_isToldAsBreach_26 : decode cX8_isToldAsBreach 26 = .ok (.invokevirtual 290, 3) := by decide +kernel
theorem dX8_isToldAsBreach_29 : decode cX8_isToldAsBreach 29 = .ok (.istore_n 2, 1) := by decide +kernel
theorem dX8_isToldAsBreach_30 : decode cX8_isToldAsBreach 30 = .ok (.aload_n 0, 1) := by decide +kernel
theorem dX8_isToldAsBreach_31 : decode cX8_isToldAsBreach 31 = .ok (.getfield 10, 3) := by decide +kernel
theorem dX8_isToldAsBreach_34 : decode cX8_isToldAsBreach 34 = .ok (.iload_n 2, 1) := by decide +kernel
theorem dX8_isToldAsBreach_35 : decode cX8_isToldAsBreach 35 = .ok (.aload_n 1, 1) := by decide +kernel
theorem dX8_isToldAsBreach_36 : decode cX8_isToldAsBreach 36 = .ok (.getfield 287, 3) := by decide +kernel
theorem dX8_isToldAsBreach_39 : decode cX8_isToldAsBreach 39 = .ok (.aload_n 1, 1) := by decide +kernel
theorem dX8_isToldAsBreach_40 : decode cX8_isToldAsBreach 40 = .ok (.getfield 233, 3) := by decide +kernel
theorem dX8_isToldAsBreach_43 : decode cX8_isToldAsBreach 43 = .ok (.aload_n 1, 1) := by decide +kernel
theorem dX8_isToldAsBreach_44 : decode cX8_isToldAsBreach 44 = .ok (.getfield 221, 3) := by decide +kernel
theorem dX8_isToldAsBreach_47 : decode cX8_isToldAsBreach 47 = .ok (.invokevirtual 177, 3) := by decide +kernel
theorem dX8_isToldAsBreach_50 : decode cX8_isToldAsBreach 50 = .ok (.bipush 111, 2) := by decide +kernel
theorem dX8_isToldAsBreach_52 : decode cX8_isToldAsBreach 52 = .ok (.if_icmp .eq 7, 3) := by decide +kernel
theorem dX8_isToldAsBreach_55 : decode cX8_isToldAsBreach 55 = .ok (.iconst 1, 1) := by decide +kernel
theorem dX8_isToldAsBreach_56 : decode cX8_isToldAsBreach 56 = .ok (.goto 4, 3) := by decide +kernel
theorem dX8_isToldAsBreach_59 : decode cX8_isToldAsBreach 59 = .ok (.iconst 0, 1) := by decide +kernel
theorem dX8_isToldAsBreach_60 : decode cX8_isToldAsBreach 60 = .ok (.ireturn, 1) := by decide +kernel
theorem dX8_arrivedCount_0 : decode cX8_arrivedCount 0 = .ok (.iconst 0, 1) := by decide +kernel
theorem dX8_arrivedCount_1 : decode cX8_arrivedCount 1 = .ok (.istore_n 1, 1) := by decide +kernel
theorem dX8_arrivedCount_2 : decode cX8_arrivedCount 2 = .ok (.iconst 0, 1) := by decide +kernel
theorem dX8_arrivedCount_3 : decode cX8_arrivedCount 3 = .ok (.istore_n 2, 1) := by decide +kernel
theorem dX8_arrivedCount_4 : decode cX8_arrivedCount 4 = .ok (.iload_n 2, 1) := by decide +kernel
theorem dX8_arrivedCount_5 : decode cX8_arrivedCount 5 = .ok (.aload_n 0, 1) := by decide +kernel
theorem dX8_arrivedCount_6 : decode cX8_arrivedCount 6 = .ok (.getfield 26, 3) := by decide +kernel
theorem dX8_arrivedCount_9 : decode cX8_arrivedCount 9 = .ok (.invokevirtual 90, 3) := by decide +kernel
theorem dX8_arrivedCount_12 : decode cX8_arrivedCount 12 = .ok (.if_icmp .ge 29, 3) := by decide +kernel
theorem dX8_arrivedCount_15 : decode cX8_arrivedCount 15 = .ok (.aload_n 0, 1) := by decide +kernel
theorem dX8_arrivedCount_16 : decode cX8_arrivedCount 16 = .ok (.getfield 26, 3) := by decide +kernel
theorem dX8_arrivedCount_19 : decode cX8_arrivedCount 19 = .ok (.iload_n 2, 1) := by decide +kernel
theorem dX8_arrivedCount_20 : decode cX8_arrivedCount 20 = .ok (.invokevirtual 149, 3) := by decide +kernel
theorem dX8_arrivedCount_23 : decode cX8_arrivedCount 23 = .ok (.checkcast 153, 3) := by decide +kernel
theorem dX8_arrivedCount_26 : decode cX8_arrivedCount 26 = .ok (.invokevirtual 225, 3) := by decide +kernel
theorem dX8_arrivedCount_29 : decode cX8_arrivedCount 29 = .ok (.ifCond .eq 6, 3) := by decide +kernel
theorem dX8_arrivedCount_32 : decode cX8_arrivedCount 32 = .ok (.iinc 1 1, 3) := by decide +kernel
theorem dX8_arrivedCount_35 : decode cX8_arrivedCount 35 = .ok (.iinc 2 1, 3) := by decide +kernel
theorem dX8_arrivedCount_38 : decode cX8_arrivedCount 38 = .ok (.goto (-34), 3) := by decide +kernel
theorem dX8_arrivedCount_41 : decode cX8_arrivedCount 41 = .ok (.iload_n 1, 1) := by decide +kernel
theorem dX8_arrivedCount_42 : decode cX8_arrivedCount 42 = .ok (.ireturn, 1) := by decide +kernel
theorem dX8_meanOfDelays_0 : decode cX8_meanOfDelays 0 = .ok (.aload_n 0, 1) := by decide +kernel
theorem dX8_meanOfDelays_1 : decode cX8_meanOfDelays 1 = .ok (.invokevirtual 252, 3) := by decide +kernel
theorem dX8_meanOfDelays_4 : decode cX8_meanOfDelays 4 = .ok (.istore_n 1, 1) := by decide +kernel
theorem dX8_meanOfDelays_5 : decode cX8_meanOfDelays 5 = .ok (.iload_n 1, 1) := by decide +kernel
theorem dX8_meanOfDelays_6 : decode cX8_meanOfDelays 6 = .ok (.ifCond .ne 14, 3) := by decide +kernel
theorem dX8_meanOfDelays_9 : decode cX8_meanOfDelays 9 = .ok (.new 247, 3) := by decide +kernel
theorem dX8_meanOfDelays_12 : decode cX8_meanOfDelays 12 = .ok (.dup, 1) := by decide +kernel
theorem dX8_meanOfDelays_13 : decode cX8_meanOfDelays 13 = .ok (.ldc_w 293, 3) := by decide +kernel
theorem dX8_meanOfDelays_16 : decode cX8_meanOfDelays 16 = .ok (.invokespecial 251, 3) := by decide +kernel
theorem dX8_meanOfDelays_19 : decode cX8_meanOfDelays 19 = .ok (.athrow, 1) := by decide +kernel
theorem dX8_meanOfDelays_20 : decode cX8_meanOfDelays 20 = .ok (.aload_n 0, 1) := by decide +kernel
theorem dX8_meanOfDelays_21 : decode cX8_meanOfDelays 21 = .ok (.invokevirtual 295, 3) := by decide +kernel
theorem dX8_meanOfDelays_24 : decode cX8_meanOfDelays 24 = .ok (.l2d, 1) := by decide +kernel
theorem dX8_meanOfDelays_25 : decode cX8_meanOfDelays 25 = .ok (.iload_n 1, 1) := by decide +kernel
theorem dX8_meanOfDelays_26 : decode cX8_meanOfDelays 26 = .ok (.i2d, 1) := by decide +kernel
theorem dX8_meanOfDelays_27 : decode cX8_meanOfDelays 27 = .ok (.ddiv, 1) := by decide +kernel
theorem dX8_meanOfDelays_28 : decode cX8_meanOfDelays 28 = .ok (.dreturn, 1) := by decide +kernel
theorem dX8_areDoorsSound_0 : decode cX8_areDoorsSound 0 = .ok (.iconst 0, 1) := by decide +kernel
theorem dX8_areDoorsSound_1 : decode cX8_areDoorsSound 1 = .ok (.istore_n 1, 1) := by decide +kernel
theorem dX8_areDoorsSound_2 : decode cX8_areDoorsSound 2 = .ok (.iload_n 1, 1) := by decide +kernel
theorem dX8_areDoorsSound_3 : decode cX8_areDoorsSound 3 = .ok (.aload_n 0, 1) := by decide +kernel
theorem dX8_areDoorsSound_4 : decode cX8_areDoorsSound 4 = .ok (.getfield 19, 3) := by decide +kernel
theorem dX8_areDoorsSound_7 : decode cX8_areDoorsSound 7 = .ok (.invokevirtual 90, 3) := by decide +kernel
theorem dX8_areDoorsSound_10 : decode cX8_areDoorsSound 10 = .ok (.if_icmp .ge 56, 3) := by decide +kernel
theorem dX8_areDoorsSound_13 : decode cX8_areDoorsSound 13 = .ok (.aload_n 0, 1) := by decide +kernel
theorem dX8_areDoorsSound_14 : decode cX8_areDoorsSound 14 = .ok (.getfield 19, 3) := by decide +kernel
theorem dX8_areDoorsSound_17 : decode cX8_areDoorsSound 17 = .ok (.iload_n 1, 1) := by decide +kernel
theorem dX8_areDoorsSound_18 : decode cX8_areDoorsSound 18 = .ok (.invokevirtual 149, 3) := by decide +kernel
theorem dX8_areDoorsSound_21 : decode cX8_areDoorsSound 21 = .ok (.checkcast 95, 3) := by decide +kernel
theorem dX8_areDoorsSound_24 : decode cX8_areDoorsSound 24 = .ok (.astore_n 2, 1) := by decide +kernel
theorem dX8_areDoorsSound_25 : decode cX8_areDoorsSound 25 = .ok (.aload_n 2, 1) := by decide +kernel
theorem dX8_areDoorsSound_26 : decode cX8_areDoorsSound 26 = .ok (.getfield 162, 3) := by decide +kernel
theorem dX8_areDoorsSound_29 : decode cX8_areDoorsSound 29 = .ok (.aload_n 0, 1) := by decide +kernel
theorem dX8_areDoorsSound_30 : decode cX8_areDoorsSound 30 = .ok (.getfield 10, 3) := by decide +kernel
theorem dX8_areDoorsSound_33 : decode cX8_areDoorsSound 33 = .ok (.invokevirtual 86, 3) := by decide +kernel
theorem dX8_areDoorsSound_36 : decode cX8_areDoorsSound 36 = .ok (.if_icmp .gt 22, 3) := by decide +kernel
theorem dX8_areDoorsSound_39 : decode cX8_areDoorsSound 39 = .ok (.aload_n 2, 1) := by decide +kernel
theorem dX8_areDoorsSound_40 : decode cX8_areDoorsSound 40 = .ok (.getfield 162, 3) := by decide +kernel
theorem dX8_areDoorsSound_43 : decode cX8_areDoorsSound 43 = .ok (.aload_n 0, 1) := by decide +kernel
theorem dX8_areDoorsSound_44 : decode cX8_areDoorsSound 44 = .ok (.getfield 32, 3) := by decide +kernel
theorem dX8_areDoorsSound_47 : decode cX8_areDoorsSound 47 = .ok (.iload_n 1, 1) := by decide +kernel
theorem dX8_areDoorsSound_48 : decode cX8_areDoorsSound 48 = .ok (.aload_n 2, 1) := by decide +kernel
theorem dX8_areDoorsSound_49 : decode cX8_areDoorsSound 49 = .ok (.getfield 194, 3) := by decide +kernel
theorem dX8_areDoorsSound_52 : decode cX8_areDoorsSound 52 = .ok (.invokevirtual 197, 3) := by decide +kernel
theorem dX8_areDoorsSound_55 : decode cX8_areDoorsSound 55 = .ok (.if_icmp .eq 5, 3) := by decide +kernel
theorem dX8_areDoorsSound_58 : decode cX8_areDoorsSound 58 = .ok (.iconst 0, 1) := by decide +kernel
theorem dX8_areDoorsSound_59 : decode cX8_areDoorsSound 59 = .ok (.ireturn, 1) := by decide +kernel
theorem dX8_areDoorsSound_60 : decode cX8_areDoorsSound 60 = .ok (.iinc 1 1, 3) := by decide +kernel
theorem dX8_areDoorsSound_63 : decode cX8_areDoorsSound 63 = .ok (.goto (-61), 3) := by decide +kernel
theorem dX8_areDoorsSound_66 : decode cX8_areDoorsSound 66 = .ok (.iconst 1, 1) := by decide +kernel
theorem dX8_areDoorsSound_67 : decode cX8_areDoorsSound 67 = .ok (.ireturn, 1) := by decide +kernel
theorem dX8_arePhonesSound_0 : decode cX8_arePhonesSound 0 = .ok (.iconst 0, 1) := by decide +kernel
theorem dX8_arePhonesSound_1 : decode cX8_arePhonesSound 1 = .ok (.istore_n 1, 1) := by decide +kernel
theorem dX8_arePhonesSound_2 : decode cX8_arePhonesSound 2 = .ok (.iload_n 1, 1) := by decide +kernel
theorem dX8_arePhonesSound_3 : decode cX8_arePhonesSound 3 = .ok (.aload_n 0, 1) := by decide +kernel
theorem dX8_arePhonesSound_4 : decode cX8_arePhonesSound 4 = .ok (.getfield 23, 3) := by decide +kernel
theorem dX8_arePhonesSound_7 : decode cX8_arePhonesSound 7 = .ok (.invokevirtual 90, 3) := by decide +kernel
theorem dX8_arePhonesSound_10 : decode cX8_arePhonesSound 10 = .ok (.if_icmp .ge 35, 3) := by decide +kernel
theorem dX8_arePhonesSound_13 : decode cX8_arePhonesSound 13 = .ok (.aload_n 0, 1) := by decide +kernel
theorem dX8_arePhonesSound_14 : decode cX8_arePhonesSound 14 = .ok (.getfield 23, 3) := by decide +kernel
theorem dX8_arePhonesSound_17 : decode cX8_arePhonesSound 17 = .ok (.iload_n 1, 1) := by decide +kernel
theorem dX8_arePhonesSound_18 : decode cX8_arePhonesSound 18 = .ok (.invokevirtual 149, 3) := by decide +kernel
theorem dX8_arePhonesSound_21 : decode cX8_arePhonesSound 21 = .ok (.checkcast 126, 3) := by decide +kernel
theorem dX8_arePhonesSound_24 : decode cX8_arePhonesSound 24 = .ok (.getfield 138, 3) := by decide +kernel
theorem dX8_arePhonesSound_27 : decode cX8_arePhonesSound 27 = .ok (.aload_n 0, 1) := by decide +kernel
theorem dX8_arePhonesSound_28 : decode cX8_arePhonesSound 28 = .ok (.getfield 10, 3) := by decide +kernel
theorem dX8_arePhonesSound_31 : decode cX8_arePhonesSound 31 = .ok (.invokevirtual 86, 3) := by decide +kernel
theorem dX8_arePhonesSound_34 : decode cX8_arePhonesSound 34 = .ok (.if_icmp .le 5, 3) := by decide +kernel
theorem dX8_arePhonesSound_37 : decode cX8_arePhonesSound 37 = .ok (.iconst 0, 1) := by decide +kernel
theorem dX8_arePhonesSound_38 : decode cX8_arePhonesSound 38 = .ok (.ireturn, 1) := by decide +kernel
theorem dX8_arePhonesSound_39 : decode cX8_arePhonesSound 39 = .ok (.iinc 1 1, 3) := by decide +kernel
theorem dX8_arePhonesSound_42 : decode cX8_arePhonesSound 42 = .ok (.goto (-40), 3) := by decide +kernel
theorem dX8_arePhonesSound_45 : decode cX8_arePhonesSound 45 = .ok (.iconst 1, 1) := by decide +kernel
theorem dX8_arePhonesSound_46 : decode cX8_arePhonesSound 46 = .ok (.ireturn, 1) := by decide +kernel
theorem dX8_areAuditsSound_0 : decode cX8_areAuditsSound 0 = .ok (.iconst 0, 1) := by decide +kernel
theorem dX8_areAuditsSound_1 : decode cX8_areAuditsSound 1 = .ok (.istore_n 1, 1) := by decide +kernel
theorem dX8_areAuditsSound_2 : decode cX8_areAuditsSound 2 = .ok (.iload_n 1, 1) := by decide +kernel
theorem dX8_areAuditsSound_3 : decode cX8_areAuditsSound 3 = .ok (.aload_n 0, 1) := by decide +kernel
theorem dX8_areAuditsSound_4 : decode cX8_areAuditsSound 4 = .ok (.getfield 26, 3) := by decide +kernel
theorem dX8_areAuditsSound_7 : decode cX8_areAuditsSound 7 = .ok (.invokevirtual 90, 3) := by decide +kernel
theorem dX8_areAuditsSound_10 : decode cX8_areAuditsSound 10 = .ok (.if_icmp .ge 35, 3) := by decide +kernel
theorem dX8_areAuditsSound_13 : decode cX8_areAuditsSound 13 = .ok (.aload_n 0, 1) := by decide +kernel
theorem dX8_areAuditsSound_14 : decode cX8_areAuditsSound 14 = .ok (.getfield 26, 3) := by decide +kernel
theorem dX8_areAuditsSound_17 : decode cX8_areAuditsSound 17 = .ok (.iload_n 1, 1) := by decide +kernel
theorem dX8_areAuditsSound_18 : decode cX8_areAuditsSound 18 = .ok (.invokevirtual 149, 3) := by decide +kernel
theorem dX8_areAuditsSound_21 : decode cX8_areAuditsSound 21 = .ok (.checkcast 153, 3) := by decide +kernel
theorem dX8_areAuditsSound_24 : decode cX8_areAuditsSound 24 = .ok (.astore_n 2, 1) := by decide +kernel
theorem dX8_areAuditsSound_25 : decode cX8_areAuditsSound 25 = .ok (.aload_n 2, 1) := by decide +kernel
theorem dX8_areAuditsSound_26 : decode cX8_areAuditsSound 26 = .ok (.getfield 213, 3) := by decide +kernel
theorem dX8_areAuditsSound_29 : decode cX8_areAuditsSound 29 = .ok (.aload_n 0, 1) := by decide +kernel
theorem dX8_areAuditsSound_30 : decode cX8_areAuditsSound 30 = .ok (.aload_n 2, 1) := by decide +kernel
theorem dX8_areAuditsSound_31 : decode cX8_areAuditsSound 31 = .ok (.invokevirtual 217, 3) := by decide +kernel
theorem dX8_areAuditsSound_34 : decode cX8_areAuditsSound 34 = .ok (.if_icmp .eq 5, 3) := by decide +kernel
theorem dX8_areAuditsSound_37 : decode cX8_areAuditsSound 37 = .ok (.iconst 0, 1) := by decide +kernel
theorem dX8_areAuditsSound_38 : decode cX8_areAuditsSound 38 = .ok (.ireturn, 1) := by decide +kernel
theorem dX8_areAuditsSound_39 : decode cX8_areAuditsSound 39 = .ok (.iinc 1 1, 3) := by decide +kernel
theorem dX8_areAuditsSound_42 : decode cX8_areAuditsSound 42 = .ok (.goto (-40), 3) := by decide +kernel
theorem dX8_areAuditsSound_45 : decode cX8_areAuditsSound 45 = .ok (.iconst 1, 1) := by decide +kernel
theorem dX8_areAuditsSound_46 : decode cX8_areAuditsSound 46 = .ok (.ireturn, 1) := by decide +kernel
theorem dX9_init_0 : decode cX9_init 0 = .ok (.aload_n 0, 1) := by decide +kernel
theorem dX9_init_1 : decode cX9_init 1 = .ok (.invokespecial 1, 3) := by decide +kernel
theorem dX9_init_4 : decode cX9_init 4 = .ok (.aload_n 0, 1) := by decide +kernel
theorem dX9_init_5 : decode cX9_init 5 = .ok (.bipush 51, 2) := by decide +kernel
theorem dX9_init_7 : decode cX9_init 7 = .ok (.newarray .int, 2) := by decide +kernel
theorem dX9_init_9 : decode cX9_init 9 = .ok (.putfield 9, 3) := by decide +kernel
theorem dX9_init_12 : decode cX9_init 12 = .ok (.aload_n 0, 1) := by decide +kernel
theorem dX9_init_13 : decode cX9_init 13 = .ok (.bipush 51, 2) := by decide +kernel
theorem dX9_init_15 : decode cX9_init 15 = .ok (.newarray .int, 2) := by decide +kernel
theorem dX9_init_17 : decode cX9_init 17 = .ok (.putfield 13, 3) := by decide +kernel
theorem dX9_init_20 : decode cX9_init 20 = .ok (.aload_n 0, 1) := by decide +kernel
theorem dX9_init_21 : decode cX9_init 21 = .ok (.bipush 51, 2) := by decide +kernel
theorem dX9_init_23 : decode cX9_init 23 = .ok (.bipush 8, 2) := by decide +kernel
theorem dX9_init_25 : decode cX9_init 25 = .ok (.multianewarray 16 2, 4) := by decide +kernel
theorem dX9_init_29 : decode cX9_init 29 = .ok (.putfield 18, 3) := by decide +kernel
theorem dX9_init_32 : decode cX9_init 32 = .ok (.aload_n 0, 1) := by decide +kernel
theorem dX9_init_33 : decode cX9_init 33 = .ok (.bipush 51, 2) := by decide +kernel
theorem dX9_init_35 : decode cX9_init 35 = .ok (.bipush 8, 2) := by decide +kernel
theorem dX9_init_37 : decode cX9_init 37 = .ok (.multianewarray 16 2, 4) := by decide +kernel
theorem dX9_init_41 : decode cX9_init 41 = .ok (.putfield 21, 3) := by decide +kernel
theorem dX9_init_44 : decode cX9_init 44 = .ok (.aload_n 0, 1) := by decide +kernel
theorem dX9_init_45 : decode cX9_init 45 = .ok (.bipush 51, 2) := by decide +kernel
theorem dX9_init_47 : decode cX9_init 47 = .ok (.bipush 8, 2) := by decide +kernel
theorem dX9_init_49 : decode cX9_init 49 = .ok (.multianewarray 16 2, 4) := by decide +kernel
theorem dX9_init_53 : decode cX9_init 53 = .ok (.putfield 24, 3) := by decide +kernel
theorem dX9_init_56 : decode cX9_init 56 = .ok (.aload_n 0, 1) := by decide +kernel
theorem dX9_init_57 : decode cX9_init 57 = .ok (.bipush 51, 2) := by decide +kernel
theorem dX9_init_59 : decode cX9_init 59 = .ok (.bipush 8, 2) := by decide +kernel
theorem dX9_init_61 : decode cX9_init 61 = .ok (.multianewarray 27 2, 4) := by decide +kernel
theorem dX9_init_65 : decode cX9_init 65 = .ok (.putfield 29, 3) := by decide +kernel
theorem dX9_init_68 : decode cX9_init 68 = .ok (.aload_n 0, 1) := by decide +kernel
theorem dX9_init_69 : decode cX9_init 69 = .ok (.iconst 5, 1) := by decide +kernel
theorem dX9_init_70 : decode cX9_init 70 = .ok (.newarray .int, 2) := by decide +kernel
theorem dX9_init_72 : decode cX9_init 72 = .ok (.putfield 32, 3) := by decide +kernel
theorem dX9_init_75 : decode cX9_init 75 = .ok (.aload_n 0, 1) := by decide +kernel
theorem dX9_init_76 : decode cX9_init 76 = .ok (.iconst 5, 1) := by decide +kernel
theorem dX9_init_77 : decode cX9_init 77 = .ok (.newarray .int, 2) := by decide +kernel
theorem dX9_init_79 : decode cX9_init 79 = .ok (.putfield 35, 3) := by decide +kernel
theorem dX9_init_82 : decode cX9_init 82 = .ok (.aload_n 0, 1) := by decide +kernel
theorem dX9_init_83 : decode cX9_init 83 = .ok (.iconst 5, 1) := by decide +kernel
theorem dX9_init_84 : decode cX9_init 84 = .ok (.newarray .int, 2) := by decide +kernel
theorem dX9_init_86 : decode cX9_init 86 = .ok (.putfield 38, 3) := by decide +kernel
theorem dX9_init_89 : decode cX9_init 89 = .ok (.aload_n 0, 1) := by decide +kernel
theorem dX9_init_90 : decode cX9_init 90 = .ok (.iconst 3, 1) := by decide +kernel
theorem dX9_init_91 : decode cX9_init 91 = .ok (.newarray .int, 2) := by decide +kernel
theorem dX9_init_93 : decode cX9_init 93 = .ok (.putfield 41, 3) := by decide +kernel
theorem dX9_init_96 : decode cX9_init 96 = .ok (.aload_n 0, 1) := by decide +kernel
theorem dX9_init_97 : decode cX9_init 97 = .ok (.iconst 5, 1) := by decide +kernel
theorem dX9_init_98 : decode cX9_init 98 = .ok (.newarray .float, 2) := by decide +kernel
theorem dX9_init_100 : decode cX9_init 100 = .ok (.putfield 44, 3) := by decide +kernel
theorem dX9_init_103 : decode cX9_init 103 = .ok (.aload_n 0, 1) := by decide +kernel
theorem dX9_init_104 : decode cX9_init 104 = .ok (.bipush 60, 2) := by decide +kernel
theorem dX9_init_106 : decode cX9_init 106 = .ok (.newarray .int, 2) := by decide +kernel
theorem dX9_init_108 : decode cX9_init 108 = .ok (.putfield 48, 3) := by decide +kernel
theorem dX9_init_111 : decode cX9_init 111 = .ok (.aload_n 0, 1) := by decide +kernel
theorem dX9_init_112 : decode cX9_init 112 = .ok (.bipush 60, 2) := by decide +kernel
theorem dX9_init_114 : decode cX9_init 114 = .ok (.newarray .int, 2) := by decide +kernel
theorem dX9_init_116 : decode cX9_init 116 = .ok (.putfield 51, 3) := by decide +kernel
theorem dX9_init_119 : decode cX9_init 119 = .ok (.aload_n 0, 1) := by decide +kernel
theorem dX9_init_120 : decode cX9_init 120 = .ok (.bipush 60, 2) := by decide +kernel
theorem dX9_init_122 : decode cX9_init 122 = .ok (.newarray .int, 2) := by decide +kernel
theorem dX9_init_124 : decode cX9_init 124 = .ok (.putfield 54, 3) := by decide +kernel
theorem dX9_init_127 : decode cX9_init 127 = .ok (.aload_n 0, 1) := by decide +kernel
theorem dX9_init_128 : decode cX9_init 128 = .ok (.bipush 60, 2) := by decide +kernel
theorem dX9_init_130 : decode cX9_init 130 = .ok (.newarray .int, 2) := by decide +kernel
theorem dX9_init_132 : decode cX9_init 132 = .ok (.putfield 57, 3) := by decide +kernel
theorem dX9_init_135 : decode cX9_init 135 = .ok (.aload_n 0, 1) := by decide +kernel
theorem dX9_init_136 : decode cX9_init 136 = .ok (.bipush 60, 2) := by decide +kernel
theorem dX9_init_138 : decode cX9_init 138 = .ok (.newarray .int, 2) := by decide +kernel
theorem dX9_init_140 : decode cX9_init 140 = .ok (.putfield 60, 3) := by decide +kernel
theorem dX9_init_143 : decode cX9_init 143 = .ok (.aload_n 0, 1) := by decide +kernel
theorem dX9_init_144 : decode cX9_init 144 = .ok (.bipush 60, 2) := by decide +kernel
theorem dX9_init_146 : decode cX9_init 146 = .ok (.newarray .int, 2) := by decide +kernel
theorem dX9_init_148 : decode cX9_init 148 = .ok (.putfield 63, 3) := by decide +kernel
theorem dX9_init_151 : decode cX9_init 151 = .ok (.aload_n 0, 1) := by decide +kernel
theorem dX9_init_152 : decode cX9_init 152 = .ok (.bipush 60, 2) := by decide +kernel
theorem dX9_init_154 : decode cX9_init 154 = .ok (.newarray .int, 2) := by decide +kernel
theorem dX9_init_156 : decode cX9_init 156 = .ok (.putfield 66, 3) := by decide +kernel
theorem dX9_init_159 : decode cX9_init 159 = .ok (.aload_n 0, 1) := by decide +kernel
theorem dX9_init_160 : decode cX9_init 160 = .ok (.bipush 60, 2) := by decide +kernel
theorem dX9_init_162 : decode cX9_init 162 = .ok (.newarray .char, 2) := by decide +kernel
theorem dX9_init_164 : decode cX9_init 164 = .ok (.putfield 69, 3) := by decide +kernel
theorem dX9_init_167 : decode cX9_init 167 = .ok (.return_, 1) := by decide +kernel
theorem dX9_thrown_0 : decode cX9_thrown 0 = .ok (.aload_n 0, 1) := by decide +kernel
theorem dX9_thrown_1 : decode cX9_thrown 1 = .ok (.getfield 73, 3) := by decide +kernel
theorem dX9_thrown_4 : decode cX9_thrown 4 = .ok (.ireturn, 1) := by decide +kernel
theorem dX9_fails_0 : decode cX9_fails 0 = .ok (.aload_n 0, 1) := by decide +kernel
theorem dX9_fails_1 : decode cX9_fails 1 = .ok (.iload_n 1, 1) := by decide +kernel
theorem dX9_fails_2 : decode cX9_fails 2 = .ok (.putfield 73, 3) := by decide +kernel
theorem dX9_fails_5 : decode cX9_fails 5 = .ok (.iconst 0, 1) := by decide +kernel
theorem dX9_fails_6 : decode cX9_fails 6 = .ok (.ireturn, 1) := by decide +kernel
theorem dX9_isBetween_0 : decode cX9_isBetween 0 = .ok (.iload_n 1, 1) := by decide +kernel
theorem dX9_isBetween_1 : decode cX9_isBetween 1 = .ok (.iload_n 0, 1) := by decide +kernel
theorem dX9_isBetween_2 : decode cX9_isBetween 2 = .ok (.if_icmp .gt 12, 3) := by decide +kernel
theorem dX9_isBetween_5 : decode cX9_isBetween 5 = .ok (.iload_n 0, 1) := by decide +kernel
theorem dX9_isBetween_6 : decode cX9_isBetween 6 = .ok (.iload_n 2, 1) := by decide +kernel
theorem dX9_isBetween_7 : decode cX9_isBetween 7 = .ok (.if_icmp .gt 7, 3) := by decide +kernel
theorem dX9_isBetween_10 : decode cX9_isBetween 10 = .ok (.iconst 1, 1) := by decide +kernel
theorem dX9_isBetween_11 : decode cX9_isBetween 11 = .ok (.goto 4, 3) := by decide +kernel
theorem dX9_isBetween_14 : decode cX9_isBetween 14 = .ok (.iconst 0, 1) := by decide +kernel
theorem dX9_isBetween_15 : decode cX9_isBetween 15 = .ok (.ireturn, 1) := by decide +kernel
theorem dX9_isKey_0 : decode cX9_isKey 0 = .ok (.iload_n 1, 1) := by decide +kernel
theorem dX9_isKey_1 : decode cX9_isKey 1 = .ok (.iconst 0, 1) := by decide +kernel
theorem dX9_isKey_2 : decode cX9_isKey 2 = .ok (.aload_n 0, 1) := by decide +kernel
theorem dX9_isKey_3 : decode cX9_isKey 3 = .ok (.getfield 9, 3) := by decide +kernel
theorem dX9_isKey_6 : decode cX9_isKey 6 = .ok (.aload_n 0, 1) := by decide +kernel
theorem dX9_isKey_7 : decode cX9_isKey 7 = .ok (.getfield 77, 3) := by decide +kernel
theorem dX9_isKey_10 : decode cX9_isKey 10 = .ok (.iaload, 1) := by decide +kernel
theorem dX9_isKey_11 : decode cX9_isKey 11 = .ok (.iconst 1, 1) := by decide +kernel
theorem dX9_isKey_12 : decode cX9_isKey 12 = .ok (.isub, 1) := by decide +kernel
theorem dX9_isKey_13 : decode cX9_isKey 13 = .ok (.invokestatic 80, 3) := by decide +kernel
theorem dX9_isKey_16 : decode cX9_isKey 16 = .ok (.ireturn, 1) := by decide +kernel
theorem dX9_isDoor_0 : decode cX9_isDoor 0 = .ok (.iload_n 1, 1) := by decide +kernel
theorem dX9_isDoor_1 : decode cX9_isDoor 1 = .ok (.iconst 0, 1) := by decide +kernel
theorem dX9_isDoor_2 : decode cX9_isDoor 2 = .ok (.aload_n 0, 1) := by decide +kernel
theorem dX9_isDoor_3 : decode cX9_isDoor 3 = .ok (.getfield 84, 3) := by decide +kernel
theorem dX9_isDoor_6 : decode cX9_isDoor 6 = .ok (.iconst 1, 1) := by decide +kernel
theorem dX9_isDoor_7 : decode cX9_isDoor 7 = .ok (.isub, 1) := by decide +kernel
theorem dX9_isDoor_8 : decode cX9_isDoor 8 = .ok (.invokestatic 80, 3) := by decide +kernel
theorem dX9_isDoor_11 : decode cX9_isDoor 11 = .ok (.ireturn, 1) := by decide +kernel
theorem dX9_isPhone_0 : decode cX9_isPhone 0 = .ok (.iload_n 1, 1) := by decide +kernel
theorem dX9_isPhone_1 : decode cX9_isPhone 1 = .ok (.iconst 0, 1) := by decide +kernel
theorem dX9_isPhone_2 : decode cX9_isPhone 2 = .ok (.aload_n 0, 1) := by decide +kernel
theorem dX9_isPhone_3 : decode cX9_isPhone 3 = .ok (.getfield 87, 3) := by decide +kernel
theorem dX9_isPhone_6 : decode cX9_isPhone 6 = .ok (.iconst 1, 1) := by decide +kernel
theorem dX9_isPhone_7 : decode cX9_isPhone 7 = .ok (.isub, 1) := by decide +kernel
theorem dX9_isPhone_8 : decode cX9_isPhone 8 = .ok (.invokestatic 80, 3) := by decide +kernel
theorem dX9_isPhone_11 : decode cX9_isPhone 11 = .ok (.ireturn, 1) := by decide +kernel
theorem dX9_isAudit_0 : decode cX9_isAudit 0 = .ok (.iload_n 1, 1) := by decide +kernel
theorem dX9_isAudit_1 : decode cX9_isAudit 1 = .ok (.iconst 0, 1) := by decide +kernel
theorem dX9_isAudit_2 : decode cX9_isAudit 2 = .ok (.aload_n 0, 1) := by decide +kernel
theorem dX9_isAudit_3 : decode cX9_isAudit 3 = .ok (.getfield 90, 3) := by decide +kernel
theorem dX9_isAudit_6 : decode cX9_isAudit 6 = .ok (.iconst 1, 1) := by decide +kernel
theorem dX9_isAudit_7 : decode cX9_isAudit 7 = .ok (.isub, 1) := by decide +kernel
theorem dX9_isAudit_8 : decode cX9_isAudit 8 = .ok (.invokestatic 80, 3) := by decide +kernel
theorem dX9_isAudit_11 : decode cX9_isAudit 11 = .ok (.ireturn, 1) := by decide +kernel
theorem dX9_areTimes_0 : decode cX9_areTimes 0 = .ok (.iload_n 0, 1) := by decide +kernel
theorem dX9_areTimes_1 : decode cX9_areTimes 1 = .ok (.iconst 0, 1) := by decide +kernel
theorem dX9_areTimes_2 : decode cX9_areTimes 2 = .ok (.ldc 93, 2) := by decide +kernel
theorem dX9_areTimes_4 : decode cX9_areTimes 4 = .ok (.invokestatic 80, 3) := by decide +kernel
theorem dX9_areTimes_7 : decode cX9_areTimes 7 = .ok (.ifCond .eq 19, 3) := by decide +kernel
theorem dX9_areTimes_10 : decode cX9_areTimes 10 = .ok (.iload_n 1, 1) := by decide +kernel
theorem dX9_areTimes_11 : decode cX9_areTimes 11 = .ok (.iload_n 0, 1) := by decide +kernel
theorem dX9_areTimes_12 : decode cX9_areTimes 12 = .ok (.iconst 1, 1) := by decide +kernel
theorem dX9_areTimes_13 : decode cX9_areTimes 13 = .ok (.iadd, 1) := by decide +kernel
theorem dX9_areTimes_14 : decode cX9_areTimes 14 = .ok (.ldc 94, 2) := by decide +kernel
theorem dX9_areTimes_16 : decode cX9_areTimes 16 = .ok (.invokestatic 80, 3) := by decide +kernel
theorem dX9_areTimes_19 : decode cX9_areTimes 19 = .ok (.ifCond .eq 7, 3) := by decide +kernel
theorem dX9_areTimes_22 : decode cX9_areTimes 22 = .ok (.iconst 1, 1) := by decide +kernel
theorem dX9_areTimes_23 : decode cX9_areTimes 23 = .ok (.goto 4, 3) := by decide +kernel
theorem dX9_areTimes_26 : decode cX9_areTimes 26 = .ok (.iconst 0, 1) := by decide +kernel
theorem dX9_areTimes_27 : decode cX9_areTimes 27 = .ok (.ireturn, 1) := by decide +kernel
theorem dX9_changes_0 : decode cX9_changes 0 = .ok (.aload_n 0, 1) := by decide +kernel
theorem dX9_changes_1 : decode cX9_changes 1 = .ok (.getfield 77, 3) := by decide +kernel
theorem dX9_changes_4 : decode cX9_changes 4 = .ok (.iconst 1, 1) := by decide +kernel
theorem dX9_changes_5 : decode cX9_changes 5 = .ok (.iadd, 1) := by decide +kernel
theorem dX9_changes_6 : decode cX9_changes 6 = .ok (.istore_n 1, 1) := by decide +kernel
theorem dX9_changes_7 : decode cX9_changes 7 = .ok (.aload_n 0, 1) := by decide +kernel
theorem dX9_changes_8 : decode cX9_changes 8 = .ok (.getfield 9, 3) := by decide +kernel
theorem dX9_changes_11 : decode cX9_changes 11 = .ok (.iload_n 1, 1) := by decide +kernel
theorem dX9_changes_12 : decode cX9_changes 12 = .ok (.aload_n 0, 1) := by decide +kernel
theorem dX9_changes_13 : decode cX9_changes 13 = .ok (.getfield 9, 3) := by decide +kernel
theorem dX9_changes_16 : decode cX9_changes 16 = .ok (.aload_n 0, 1) := by decide +kernel
theorem dX9_changes_17 : decode cX9_changes 17 = .ok (.getfield 77, 3) := by decide +kernel
theorem dX9_changes_20 : decode cX9_changes 20 = .ok (.iaload, 1) := by decide +kernel
theorem dX9_changes_21 : decode cX9_changes 21 = .ok (.iastore, 1) := by decide +kernel
theorem dX9_changes_22 : decode cX9_changes 22 = .ok (.iconst 0, 1) := by decide +kernel
theorem dX9_changes_23 : decode cX9_changes 23 = .ok (.istore_n 2, 1) := by decide +kernel
theorem dX9_changes_24 : decode cX9_changes 24 = .ok (.iload_n 2, 1) := by decide +kernel
theorem dX9_changes_25 : decode cX9_changes 25 = .ok (.bipush 8, 2) := by decide +kernel
theorem dX9_changes_27 : decode cX9_changes 27 = .ok (.if_icmp .ge 85, 3) := by decide +kernel
theorem dX9_changes_30 : decode cX9_changes 30 = .ok (.aload_n 0, 1) := by decide +kernel
theorem dX9_changes_31 : decode cX9_changes 31 = .ok (.getfield 18, 3) := by decide +kernel
theorem dX9_changes_34 : decode cX9_changes 34 = .ok (.iload_n 1, 1) := by decide +kernel
theorem dX9_changes_35 : decode cX9_changes 35 = .ok (.aaload, 1) := by decide +kernel
theorem dX9_changes_36 : decode cX9_changes 36 = .ok (.iload_n 2, 1) := by decide +kernel
theorem dX9_changes_37 : decode cX9_changes 37 = .ok (.aload_n 0, 1) := by decide +kernel
theorem dX9_changes_38 : decode cX9_changes 38 = .ok (.getfield 18, 3) := by decide +kernel
theorem dX9_changes_41 : decode cX9_changes 41 = .ok (.aload_n 0, 1) := by decide +kernel
theorem dX9_changes_42 : decode cX9_changes 42 = .ok (.getfield 77, 3) := by decide +kernel
theorem dX9_changes_45 : decode cX9_changes 45 = .ok (.aaload, 1) := by decide +kernel
theorem dX9_changes_46 : decode cX9_changes 46 = .ok (.iload_n 2, 1) := by decide +kernel
theorem dX9_changes_47 : decode cX9_changes 47 = .ok (.iaload, 1) := by decide +kernel
theorem dX9_changes_48 : decode cX9_changes 48 = .ok (.iastore, 1) := by decide +kernel
theorem dX9_changes_49 : decode cX9_changes 49 = .ok (.aload_n 0, 1) := by decide +kernel
theorem dX9_changes_50 : decode cX9_changes 50 = .ok (.getfield 21, 3) := by decide +kernel
theorem dX9_changes_53 : decode cX9_changes 53 = .ok (.iload_n 1, 1) := by decide +kernel
theorem dX9_changes_54 : decode cX9_changes 54 = .ok (.aaload, 1) := by decide +kernel
theorem dX9_changes_55 : decode cX9_changes 55 = .ok (.iload_n 2, 1) := by decide +kernel
theorem dX9_changes_56 : decode cX9_changes 56 = .ok (.aload_n 0, 1) := by decide +kernel
theorem dX9_changes_57 : decode cX9_changes 57 = .ok (.getfield 21, 3) := by decide +kernel
theorem dX9_changes_60 : decode cX9_changes 60 = .ok (.aload_n 0, 1) := by decide +kernel
theorem dX9_changes_61 : decode cX9_changes 61 = .ok (.getfield 77, 3) := by decide +kernel
theorem dX9_changes_64 : decode cX9_changes 64 = .ok (.aaload, 1) := by decide +kernel
theorem dX9_changes_65 : decode cX9_changes 65 = .ok (.iload_n 2, 1) := by decide +kernel
theorem dX9_changes_66 : decode cX9_changes 66 = .ok (.iaload, 1) := by decide +kernel
theorem dX9_changes_67 : decode cX9_changes 67 = .ok (.iastore, 1) := by decide +kernel
theorem dX9_changes_68 : decode cX9_changes 68 = .ok (.aload_n 0, 1) := by decide +kernel
theorem dX9_changes_69 : decode cX9_changes 69 = .ok (.getfield 24, 3) := by decide +kernel
theorem dX9_changes_72 : decode cX9_changes 72 = .ok (.iload_n 1, 1) := by decide +kernel
theorem dX9_changes_73 : decode cX9_changes 73 = .ok (.aaload, 1) := by decide +kernel
theorem dX9_changes_74 : decode cX9_changes 74 = .ok (.iload_n 2, 1) := by decide +kernel
theorem dX9_changes_75 : decode cX9_changes 75 = .ok (.aload_n 0, 1) := by decide +kernel
theorem dX9_changes_76 : decode cX9_changes 76 = .ok (.getfield 24, 3) := by decide +kernel
theorem dX9_changes_79 : decode cX9_changes 79 = .ok (.aload_n 0, 1) := by decide +kernel
theorem dX9_changes_80 : decode cX9_changes 80 = .ok (.getfield 77, 3) := by decide +kernel
theorem dX9_changes_83 : decode cX9_changes 83 = .ok (.aaload, 1) := by decide +kernel
theorem dX9_changes_84 : decode cX9_changes 84 = .ok (.iload_n 2, 1) := by decide +kernel
theorem dX9_changes_85 : decode cX9_changes 85 = .ok (.iaload, 1) := by decide +kernel
theorem dX9_changes_86 : decode cX9_changes 86 = .ok (.iastore, 1) := by decide +kernel
theorem dX9_changes_87 : decode cX9_changes 87 = .ok (.aload_n 0, 1) := by decide +kernel
theorem dX9_changes_88 : decode cX9_changes 88 = .ok (.getfield 29, 3) := by decide +kernel
theorem dX9_changes_91 : decode cX9_changes 91 = .ok (.iload_n 1, 1) := by decide +kernel
theorem dX9_changes_92 : decode cX9_changes 92 = .ok (.aaload, 1) := by decide +kernel
theorem dX9_changes_93 : decode cX9_changes 93 = .ok (.iload_n 2, 1) := by decide +kernel
theorem dX9_changes_94 : decode cX9_changes 94 = .ok (.aload_n 0, 1) := by decide +kernel
theorem dX9_changes_95 : decode cX9_changes 95 = .ok (.getfield 29, 3) := by decide +kernel
theorem dX9_changes_98 : decode cX9_changes 98 = .ok (.aload_n 0, 1) := by decide +kernel
theorem dX9_changes_99 : decode cX9_changes 99 = .ok (.getfield 77, 3) := by decide +kernel
theorem dX9_changes_102 : decode cX9_changes 102 = .ok (.aaload, 1) := by decide +kernel
theorem dX9_changes_103 : decode cX9_changes 103 = .ok (.iload_n 2, 1) := by decide +kernel
theorem dX9_changes_104 : decode cX9_changes 104 = .ok (.baload, 1) := by decide +kernel
theorem dX9_changes_105 : decode cX9_changes 105 = .ok (.bastore, 1) := by decide +kernel
theorem dX9_changes_106 : decode cX9_changes 106 = .ok (.iinc 2 1, 3) := by decide +kernel
theorem dX9_changes_109 : decode cX9_changes 109 = .ok (.goto (-85), 3) := by decide +kernel
theorem dX9_changes_112 : decode cX9_changes 112 = .ok (.aload_n 0, 1) := by decide +kernel
theorem dX9_changes_113 : decode cX9_changes 113 = .ok (.getfield 13, 3) := by decide +kernel
theorem dX9_changes_116 : decode cX9_changes 116 = .ok (.iload_n 1, 1) := by decide +kernel
theorem dX9_changes_117 : decode cX9_changes 117 = .ok (.aload_n 0, 1) := by decide +kernel
theorem dX9_changes_118 : decode cX9_changes 118 = .ok (.getfield 95, 3) := by decide +kernel
theorem dX9_changes_121 : decode cX9_changes 121 = .ok (.iastore, 1) := by decide +kernel
theorem dX9_changes_122 : decode cX9_changes 122 = .ok (.aload_n 0, 1) := by decide +kernel
theorem dX9_changes_123 : decode cX9_changes 123 = .ok (.iload_n 1, 1) := by decide +kernel
theorem dX9_changes_124 : decode cX9_changes 124 = .ok (.putfield 77, 3) := by decide +kernel
theorem dX9_changes_127 : decode cX9_changes 127 = .ok (.return_, 1) := by decide +kernel
theorem dX9_addKey_0 : decode cX9_addKey 0 = .ok (.aload_n 0, 1) := by decide +kernel
theorem dX9_addKey_1 : decode cX9_addKey 1 = .ok (.iconst 0, 1) := by decide +kernel
theorem dX9_addKey_2 : decode cX9_addKey 2 = .ok (.putfield 73, 3) := by decide +kernel
theorem dX9_addKey_5 : decode cX9_addKey 5 = .ok (.iload_n 1, 1) := by decide +kernel
theorem dX9_addKey_6 : decode cX9_addKey 6 = .ok (.iconst 0, 1) := by decide +kernel
theorem dX9_addKey_7 : decode cX9_addKey 7 = .ok (.bipush 31, 2) := by decide +kernel
theorem dX9_addKey_9 : decode cX9_addKey 9 = .ok (.invokestatic 80, 3) := by decide +kernel
theorem dX9_addKey_12 : decode cX9_addKey 12 = .ok (.ifCond .eq 11, 3) := by decide +kernel
theorem dX9_addKey_15 : decode cX9_addKey 15 = .ok (.iload_n 2, 1) := by decide +kernel
theorem dX9_addKey_16 : decode cX9_addKey 16 = .ok (.iload_n 3, 1) := by decide +kernel
theorem dX9_addKey_17 : decode cX9_addKey 17 = .ok (.invokestatic 98, 3) := by decide +kernel
theorem dX9_addKey_20 : decode cX9_addKey 20 = .ok (.ifCond .ne 9, 3) := by decide +kernel
theorem dX9_addKey_23 : decode cX9_addKey 23 = .ok (.aload_n 0, 1) := by decide +kernel
theorem dX9_addKey_24 : decode cX9_addKey 24 = .ok (.iconst 1, 1) := by decide +kernel
theorem dX9_addKey_25 : decode cX9_addKey 25 = .ok (.invokevirtual 102, 3) := by decide +kernel
theorem dX9_addKey_28 : decode cX9_addKey 28 = .ok (.ireturn, 1) := by decide +kernel
theorem dX9_addKey_29 : decode cX9_addKey 29 = .ok (.aload_n 0, 1) := by decide +kernel
theorem dX9_addKey_30 : decode cX9_addKey 30 = .ok (.getfield 9, 3) := by decide +kernel
theorem dX9_addKey_33 : decode cX9_addKey 33 = .ok (.aload_n 0, 1) := by decide +kernel
theorem dX9_addKey_34 : decode cX9_addKey 34 = .ok (.getfield 77, 3) := by decide +kernel
theorem dX9_addKey_37 : decode cX9_addKey 37 = .ok (.iaload, 1) := by decide +kernel
theorem dX9_addKey_38 : decode cX9_addKey 38 = .ok (.bipush 8, 2) := by decide +kernel
theorem dX9_addKey_40 : decode cX9_addKey 40 = .ok (.if_icmp .eq 12, 3) := by decide +kernel
theorem dX9_addKey_43 : decode cX9_addKey 43 = .ok (.aload_n 0, 1) := by decide +kernel
theorem dX9_addKey_44 : decode cX9_addKey 44 = .ok (.getfield 77, 3) := by decide +kernel
theorem dX9_addKey_47 : decode cX9_addKey 47 = .ok (.bipush 50, 2) := by decide +kernel
theorem dX9_addKey_49 : decode cX9_addKey 49 = .ok (.if_icmp .ne 9, 3) := by decide +kernel
theorem dX9_addKey_52 : decode cX9_addKey 52 = .ok (.aload_n 0, 1) := by decide +kernel
theorem dX9_addKey_53 : decode cX9_addKey 53 = .ok (.iconst 2, 1) := by decide +kernel
theorem dX9_addKey_54 : decode cX9_addKey 54 = .ok (.invokevirtual 102, 3) := by decide +kernel
theorem dX9_addKey_57 : decode cX9_addKey 57 = .ok (.ireturn, 1) := by decide +kernel
theorem dX9_addKey_58 : decode cX9_addKey 58 = .ok (.aload_n 0, 1) := by decide +kernel
theorem dX9_addKey_59 : decode cX9_addKey 59 = .ok (.invokevirtual 106, 3) := by decide +kernel
theorem dX9_addKey_62 : decode cX9_addKey 62 = .ok (.aload_n 0, 1) := by decide +kernel
theorem dX9_addKey_63 : decode cX9_addKey 63 = .ok (.getfield 9, 3) := by decide +kernel
theorem dX9_addKey_66 : decode cX9_addKey 66 = .ok (.aload_n 0, 1) := by decide +kernel
theorem dX9_addKey_67 : decode cX9_addKey 67 = .ok (.getfield 77, 3) := by decide +kernel
theorem dX9_addKey_70 : decode cX9_addKey 70 = .ok (.iaload, 1) := by decide +kernel
theorem dX9_addKey_71 : decode cX9_addKey 71 = .ok (.istore 4, 2) := by decide +kernel
theorem dX9_addKey_73 : decode cX9_addKey 73 = .ok (.aload_n 0, 1) := by decide +kernel
theorem dX9_addKey_74 : decode cX9_addKey 74 = .ok (.getfield 18, 3) := by decide +kernel
theorem dX9_addKey_77 : decode cX9_addKey 77 = .ok (.aload_n 0, 1) := by decide +kernel
theorem dX9_addKey_78 : decode cX9_addKey 78 = .ok (.getfield 77, 3) := by decide +kernel
theorem dX9_addKey_81 : decode cX9_addKey 81 = .ok (.aaload, 1) := by decide +kernel
theorem dX9_addKey_82 : decode cX9_addKey 82 = .ok (.iload 4, 2) := by decide +kernel
theorem dX9_addKey_84 : decode cX9_addKey 84 = .ok (.iload_n 1, 1) := by decide +kernel
theorem dX9_addKey_85 : decode cX9_addKey 85 = .ok (.iastore, 1) := by decide +kernel
theorem dX9_addKey_86 : decode cX9_addKey 86 = .ok (.aload_n 0, 1) := by decide +kernel
theorem dX9_addKey_87 : decode cX9_addKey 87 = .ok (.getfield 21, 3) := by decide +kernel
theorem dX9_addKey_90 : decode cX9_addKey 90 = .ok (.aload_n 0, 1) := by decide +kernel
theorem dX9_addKey_91 : decode cX9_addKey 91 = .ok (.getfield 77, 3) := by decide +kernel
theorem dX9_addKey_94 : decode cX9_addKey 94 = .ok (.aaload, 1) := by decide +kernel
theorem dX9_addKey_95 : decode cX9_addKey 95 = .ok (.iload 4, 2) := by decide +kernel
theorem dX9_addKey_97 : decode cX9_addKey 97 = .ok (.iload_n 2, 1) := by decide +kernel
theorem dX9_addKey_98 : decode cX9_addKey 98 = .ok (.iastore, 1) := by decide +kernel
theorem dX9_addKey_99 : decode cX9_addKey 99 = .ok (.aload_n 0, 1) := by decide +kernel
theorem dX9_addKey_100 : decode cX9_addKey 100 = .ok (.getfield 24, 3) := by decide +kernel
theorem dX9_addKey_103 : decode cX9_addKey 103 = .ok (.aload_n 0, 1) := by decide +kernel
theorem dX9_addKey_104 : decode cX9_addKey 104 = .ok (.getfield 77, 3) := by decide +kernel
theorem dX9_addKey_107 : decode cX9_addKey 107 = .ok (.aaload, 1) := by decide +kernel
theorem dX9_addKey_108 : decode cX9_addKey 108 = .ok (.iload 4, 2) := by decide +kernel
theorem dX9_addKey_110 : decode cX9_addKey 110 = .ok (.iload_n 3, 1) := by decide +kernel
theorem dX9_addKey_111 : decode cX9_addKey 111 = .ok (.iastore, 1) := by decide +kernel
theorem dX9_addKey_112 : decode cX9_addKey 112 = .ok (.aload_n 0, 1) := by decide +kernel
theorem dX9_addKey_113 : decode cX9_addKey 113 = .ok (.getfield 9, 3) := by decide +kernel
theorem dX9_addKey_116 : decode cX9_addKey 116 = .ok (.aload_n 0, 1) := by decide +kernel
theorem dX9_addKey_117 : decode cX9_addKey 117 = .ok (.getfield 77, 3) := by decide +kernel
theorem dX9_addKey_120 : decode cX9_addKey 120 = .ok (.dup2, 1) := by decide +kernel
theorem dX9_addKey_121 : decode cX9_addKey 121 = .ok (.iaload, 1) := by decide +kernel
theorem dX9_addKey_122 : decode cX9_addKey 122 = .ok (.iconst 1, 1) := by decide +kernel
theorem dX9_addKey_123 : decode cX9_addKey 123 = .ok (.iadd, 1) := by decide +kernel
theorem dX9_addKey_124 : decode cX9_addKey 124 = .ok (.iastore, 1) := by decide +kernel
theorem dX9_addKey_125 : decode cX9_addKey 125 = .ok (.iload 4, 2) := by decide +kernel
theorem dX9_addKey_127 : decode cX9_addKey 127 = .ok (.ireturn, 1) := by decide +kernel
theorem dX9_isStuck_0 : decode cX9_isStuck 0 = .ok (.aload_n 0, 1) := by decide +kernel
theorem dX9_isStuck_1 : decode cX9_isStuck 1 = .ok (.getfield 29, 3) := by decide +kernel
theorem dX9_isStuck_4 : decode cX9_isStuck 4 = .ok (.aload_n 0, 1) := by decide +kernel
theorem dX9_isStuck_5 : decode cX9_isStuck 5 = .ok (.getfield 77, 3) := by decide +kernel
theorem dX9_isStuck_8 : decode cX9_isStuck 8 = .ok (.aaload, 1) := by decide +kernel
theorem dX9_isStuck_9 : decode cX9_isStuck 9 = .ok (.iload_n 1, 1) := by decide +kernel
theorem dX9_isStuck_10 : decode cX9_isStuck 10 = .ok (.baload, 1) := by decide +kernel
theorem dX9_isStuck_11 : decode cX9_isStuck 11 = .ok (.ifCond .ne 12, 3) := by decide +kernel
theorem dX9_isStuck_14 : decode cX9_isStuck 14 = .ok (.aload_n 0, 1) := by decide +kernel
theorem dX9_isStuck_15 : decode cX9_isStuck 15 = .ok (.getfield 77, 3) := by decide +kernel
theorem dX9_isStuck_18 : decode cX9_isStuck 18 = .ok (.bipush 50, 2) := by decide +kernel
theorem dX9_isStuck_20 : decode cX9_isStuck 20 = .ok (.if_icmp .ne 7, 3) := by decide +kernel
theorem dX9_isStuck_23 : decode cX9_isStuck 23 = .ok (.iconst 1, 1) := by decide +kernel
theorem dX9_isStuck_24 : decode cX9_isStuck 24 = .ok (.goto 4, 3) := by decide +kernel
theorem dX9_isStuck_27 : decode cX9_isStuck 27 = .ok (.iconst 0, 1) := by decide +kernel
theorem dX9_isStuck_28 : decode cX9_isStuck 28 = .ok (.ireturn, 1) := by decide +kernel
theorem dX9_setTimes_0 : decode cX9_setTimes 0 = .ok (.aload_n 0, 1) := by decide +kernel
theorem dX9_setTimes_1 : decode cX9_setTimes 1 = .ok (.iconst 0, 1) := by decide +kernel
theorem dX9_setTimes_2 : decode cX9_setTimes 2 = .ok (.putfield 73, 3) := by decide +kernel
theorem dX9_setTimes_5 : decode cX9_setTimes 5 = .ok (.aload_n 0, 1) := by decide +kernel
theorem dX9_setTimes_6 : decode cX9_setTimes 6 = .ok (.iload_n 1, 1) := by decide +kernel
theorem dX9_setTimes_7 : decode cX9_setTimes 7 = .ok (.invokevirtual 109, 3) := by decide +kernel
theorem dX9_setTimes_10 : decode cX9_setTimes 10 = .ok (.ifCond .ne 9, 3) := by decide +kernel
theorem dX9_setTimes_13 : decode cX9_setTimes 13 = .ok (.aload_n 0, 1) := by decide +kernel
theorem dX9_setTimes_14 : decode cX9_setTimes 14 = .ok (.iconst 1, 1) := by decide +kernel
theorem dX9_setTimes_15 : decode cX9_setTimes 15 = .ok (.invokevirtual 102, 3) := by decide +kernel
theorem dX9_setTimes_18 : decode cX9_setTimes 18 = .ok (.ireturn, 1) := by decide +kernel
theorem dX9_setTimes_19 : decode cX9_setTimes 19 = .ok (.iload_n 2, 1) := by decide +kernel
theorem dX9_setTimes_20 : decode cX9_setTimes 20 = .ok (.iload_n 3, 1) := by decide +kernel
theorem dX9_setTimes_21 : decode cX9_setTimes 21 = .ok (.invokestatic 98, 3) := by decide +kernel
theorem dX9_setTimes_24 : decode cX9_setTimes 24 = .ok (.ifCond .ne 9, 3) := by decide +kernel
theorem dX9_setTimes_27 : decode cX9_setTimes 27 = .ok (.aload_n 0, 1) := by decide +kernel
theorem dX9_setTimes_28 : decode cX9_setTimes 28 = .ok (.iconst 2, 1) := by decide +kernel
theorem dX9_setTimes_29 : decode cX9_setTimes 29 = .ok (.invokevirtual 102, 3) := by decide +kernel
theorem dX9_setTimes_32 : decode cX9_setTimes 32 = .ok (.ireturn, 1) := by decide +kernel
theorem dX9_setTimes_33 : decode cX9_setTimes 33 = .ok (.aload_n 0, 1) := by decide +kernel
theorem dX9_setTimes_34 : decode cX9_setTimes 34 = .ok (.iload_n 1, 1) := by decide +kernel
theorem dX9_setTimes_35 : decode cX9_setTimes 35 = .ok (.invokevirtual 113, 3) := by decide +kernel
theorem dX9_setTimes_38 : decode cX9_setTimes 38 = .ok (.ifCond .eq 9, 3) := by decide +kernel
theorem dX9_setTimes_41 : decode cX9_setTimes 41 = .ok (.aload_n 0, 1) := by decide +kernel
theorem dX9_setTimes_42 : decode cX9_setTimes 42 = .ok (.iconst 3, 1) := by decide +kernel
theorem dX9_setTimes_43 : decode cX9_setTimes 43 = .ok (.invokevirtual 102, 3) := by decide +kernel
theorem dX9_setTimes_46 : decode cX9_setTimes 46 = .ok (.ireturn, 1) := by decide +kernel
theorem dX9_setTimes_47 : decode cX9_setTimes 47 = .ok (.aload_n 0, 1) := by decide +kernel
theorem dX9_setTimes_48 : decode cX9_setTimes 48 = .ok (.invokevirtual 106, 3) := by decide +kernel
theorem dX9_setTimes_51 : decode cX9_setTimes 51 = .ok (.aload_n 0, 1) := by decide +kernel
theorem dX9_setTimes_52 : decode cX9_setTimes 52 = .ok (.getfield 21, 3) := by decide +kernel
theorem dX9_setTimes_55 : decode cX9_setTimes 55 = .ok (.aload_n 0, 1) := by decide +kernel
theorem dX9_setTimes_56 : decode cX9_setTimes 56 = .ok (.getfield 77, 3) := by decide +kernel
theorem dX9_setTimes_59 : decode cX9_setTimes 59 = .ok (.aaload, 1) := by decide +kernel
theorem dX9_setTimes_60 : decode cX9_setTimes 60 = .ok (.iload_n 1, 1) := by decide +kernel
theorem dX9_setTimes_61 : decode cX9_setTimes 61 = .ok (.iload_n 2, 1) := by decide +kernel
theorem dX9_setTimes_62 : decode cX9_setTimes 62 = .ok (.iastore, 1) := by decide +kernel
theorem dX9_setTimes_63 : decode cX9_setTimes 63 = .ok (.aload_n 0, 1) := by decide +kernel
theorem dX9_setTimes_64 : decode cX9_setTimes 64 = .ok (.getfield 24, 3) := by decide +kernel
theorem dX9_setTimes_67 : decode cX9_setTimes 67 = .ok (.aload_n 0, 1) := by decide +kernel
theorem dX9_setTimes_68 : decode cX9_setTimes 68 = .ok (.getfield 77, 3) := by decide +kernel
theorem dX9_setTimes_71 : decode cX9_setTimes 71 = .ok (.aaload, 1) := by decide +kernel
theorem dX9_setTimes_72 : decode cX9_setTimes 72 = .ok (.iload_n 1, 1) := by decide +kernel
theorem dX9_setTimes_73 : decode cX9_setTimes 73 = .ok (.iload_n 3, 1) := by decide +kernel
theorem dX9_setTimes_74 : decode cX9_setTimes 74 = .ok (.iastore, 1) := by decide +kernel
theorem dX9_setTimes_75 : decode cX9_setTimes 75 = .ok (.aload_n 0, 1) := by decide +kernel
theorem dX9_setTimes_76 : decode cX9_setTimes 76 = .ok (.getfield 77, 3) := by decide +kernel
theorem dX9_setTimes_79 : decode cX9_setTimes 79 = .ok (.ireturn, 1) := by decide +kernel
theorem dX9_setDoors_0 : decode cX9_setDoors 0 = .ok (.aload_n 0, 1) := by decide +kernel
theorem dX9_setDoors_1 : decode cX9_setDoors 1 = .ok (.iconst 0, 1) := by decide +kernel
theorem dX9_setDoors_2 : decode cX9_setDoors 2 = .ok (.putfield 73, 3) := by decide +kernel
theorem dX9_setDoors_5 : decode cX9_setDoors 5 = .ok (.aload_n 0, 1) := by decide +kernel
theorem dX9_setDoors_6 : decode cX9_setDoors 6 = .ok (.iload_n 1, 1) := by decide +kernel
theorem dX9_setDoors_7 : decode cX9_setDoors 7 = .ok (.invokevirtual 109, 3) := by decide +kernel
theorem dX9_setDoors_10 : decode cX9_setDoors 10 = .ok (.ifCond .ne 9, 3) := by decide +kernel
theorem dX9_setDoors_13 : decode cX9_setDoors 13 = .ok (.aload_n 0, 1) := by decide +kernel
theorem dX9_setDoors_14 : decode cX9_setDoors 14 = .ok (.iconst 1, 1) := by decide +kernel
theorem dX9_setDoors_15 : decode cX9_setDoors 15 = .ok (.invokevirtual 102, 3) := by decide +kernel
theorem dX9_setDoors_18 : decode cX9_setDoors 18 = .ok (.ireturn, 1) := by decide +kernel
theorem dX9_setDoors_19 : decode cX9_setDoors 19 = .ok (.iload_n 2, 1) := by decide +kernel
theorem dX9_setDoors_20 : decode cX9_setDoors 20 = .ok (.iconst 0, 1) := by decide +kernel
theorem dX9_setDoors_21 : decode cX9_setDoors 21 = .ok (.bipush 31, 2) := by decide +kernel
theorem dX9_setDoors_23 : decode cX9_setDoors 23 = .ok (.invokestatic 80, 3) := by decide +kernel
theorem dX9_setDoors_26 : decode cX9_setDoors 26 = .ok (.ifCond .ne 9, 3) := by decide +kernel
theorem dX9_setDoors_29 : decode cX9_setDoors 29 = .ok (.aload_n 0, 1) := by decide +kernel
theorem dX9_setDoors_30 : decode cX9_setDoors 30 = .ok (.iconst 2, 1) := by decide +kernel
theorem dX9_setDoors_31 : decode cX9_setDoors 31 = .ok (.invokevirtual 102, 3) := by decide +kernel
theorem dX9_setDoors_34 : decode cX9_setDoors 34 = .ok (.ireturn, 1) := by decide +kernel
theorem dX9_setDoors_35 : decode cX9_setDoors 35 = .ok (.aload_n 0, 1) := by decide +kernel
theorem dX9_setDoors_36 : decode cX9_setDoors 36 = .ok (.iload_n 1, 1) := by decide +kernel
theorem dX9_setDoors_37 : decode cX9_setDoors 37 = .ok (.invokevirtual 113, 3) := by decide +kernel
theorem dX9_setDoors_40 : decode cX9_setDoors 40 = .ok (.ifCond .eq 9, 3) := by decide +kernel
theorem dX9_setDoors_43 : decode cX9_setDoors 43 = .ok (.aload_n 0, 1) := by decide +kernel
theorem dX9_setDoors_44 : decode cX9_setDoors 44 = .ok (.iconst 3, 1) := by decide +kernel
theorem dX9_setDoors_45 : decode cX9_setDoors 45 = .ok (.invokevirtual 102, 3) := by decide +kernel
theorem dX9_setDoors_48 : decode cX9_setDoors 48 = .ok (.ireturn, 1) := by decide +kernel
theorem dX9_setDoors_49 : decode cX9_setDoors 49 = .ok (.aload_n 0, 1) := by decide +kernel
theorem dX9_setDoors_50 : decode cX9_setDoors 50 = .ok (.invokevirtual 106, 3) := by decide +kernel
theorem dX9_setDoors_53 : decode cX9_setDoors 53 = .ok (.aload_n 0, 1) := by decide +kernel
theorem dX9_setDoors_54 : decode cX9_setDoors 54 = .ok (.getfield 18, 3) := by decide +kernel
theorem dX9_setDoors_57 : decode cX9_setDoors 57 = .ok (.aload_n 0, 1) := by decide +kernel
theorem dX9_setDoors_58 : decode cX9_setDoors 58 = .ok (.getfield 77, 3) := by decide +kernel
theorem dX9_setDoors_61 : decode cX9_setDoors 61 = .ok (.aaload, 1) := by decide +kernel
theorem dX9_setDoors_62 : decode cX9_setDoors 62 = .ok (.iload_n 1, 1) := by decide +kernel
theorem dX9_setDoors_63 : decode cX9_setDoors 63 = .ok (.iload_n 2, 1) := by decide +kernel
theorem dX9_setDoors_64 : decode cX9_setDoors 64 = .ok (.iastore, 1) := by decide +kernel
theorem dX9_setDoors_65 : decode cX9_setDoors 65 = .ok (.aload_n 0, 1) := by decide +kernel
theorem dX9_setDoors_66 : decode cX9_setDoors 66 = .ok (.getfield 77, 3) := by decide +kernel
theorem dX9_setDoors_69 : decode cX9_setDoors 69 = .ok (.ireturn, 1) := by decide +kernel
theorem dX9_revoke_0 : decode cX9_revoke 0 = .ok (.aload_n 0, 1) := by decide +kernel
theorem dX9_revoke_1 : decode cX9_revoke 1 = .ok (.iconst 0, 1) := by decide +kernel
theorem dX9_revoke_2 : decode cX9_revoke 2 = .ok (.putfield 73, 3) := by decide +kernel
theorem dX9_revoke_5 : decode cX9_revoke 5 = .ok (.aload_n 0, 1) := by decide +kernel
theorem dX9_revoke_6 : decode cX9_revoke 6 = .ok (.iload_n 1, 1) := by decide +kernel
theorem dX9_revoke_7 : decode cX9_revoke 7 = .ok (.invokevirtual 109, 3) := by decide +kernel
theorem dX9_revoke_10 : decode cX9_revoke 10 = .ok (.ifCond .ne 9, 3) := by decide +kernel
theorem dX9_revoke_13 : decode cX9_revoke 13 = .ok (.aload_n 0, 1) := by decide +kernel
theorem dX9_revoke_14 : decode cX9_revoke 14 = .ok (.iconst 1, 1) := by decide +kernel
theorem dX9_revoke_15 : decode cX9_revoke 15 = .ok (.invokevirtual 102, 3) := by decide +kernel
theorem dX9_revoke_18 : decode cX9_revoke 18 = .ok (.ireturn, 1) := by decide +kernel
theorem dX9_revoke_19 : decode cX9_revoke 19 = .ok (.aload_n 0, 1) := by decide +kernel
theorem dX9_revoke_20 : decode cX9_revoke 20 = .ok (.iload_n 1, 1) := by decide +kernel
theorem dX9_revoke_21 : decode cX9_revoke 21 = .ok (.invokevirtual 113, 3) := by decide +kernel
theorem dX9_revoke_24 : decode cX9_revoke 24 = .ok (.ifCond .eq 9, 3) := by decide +kernel
theorem dX9_revoke_27 : decode cX9_revoke 27 = .ok (.aload_n 0, 1) := by decide +kernel
theorem dX9_revoke_28 : decode cX9_revoke 28 = .ok (.iconst 2, 1) := by decide +kernel
theorem dX9_revoke_29 : decode cX9_revoke 29 = .ok (.invokevirtual 102, 3) := by decide +kernel
theorem dX9_revoke_32 : decode cX9_revoke 32 = .ok (.ireturn, 1) := by decide +kernel
theorem dX9_revoke_33 : decode cX9_revoke 33 = .ok (.aload_n 0, 1) := by decide +kernel
theorem dX9_revoke_34 : decode cX9_revoke 34 = .ok (.invokevirtual 106, 3) := by decide +kernel
theorem dX9_revoke_37 : decode cX9_revoke 37 = .ok (.aload_n 0, 1) := by decide +kernel
theorem dX9_revoke_38 : decode cX9_revoke 38 = .ok (.getfield 29, 3) := by decide +kernel
theorem dX9_revoke_41 : decode cX9_revoke 41 = .ok (.aload_n 0, 1) := by decide +kernel
theorem dX9_revoke_42 : decode cX9_revoke 42 = .ok (.getfield 77, 3) := by decide +kernel
theorem dX9_revoke_45 : decode cX9_revoke 45 = .ok (.aaload, 1) := by decide +kernel
theorem dX9_revoke_46 : decode cX9_revoke 46 = .ok (.iload_n 1, 1) := by decide +kernel
theorem dX9_revoke_47 : decode cX9_revoke 47 = .ok (.iconst 1, 1) := by decide +kernel
theorem dX9_revoke_48 : decode cX9_revoke 48 = .ok (.bastore, 1) := by decide +kernel
theorem dX9_revoke_49 : decode cX9_revoke 49 = .ok (.aload_n 0, 1) := by decide +kernel
theorem dX9_revoke_50 : decode cX9_revoke 50 = .ok (.getfield 77, 3) := by decide +kernel
theorem dX9_revoke_53 : decode cX9_revoke 53 = .ok (.ireturn, 1) := by decide +kernel
theorem dX9_version_0 : decode cX9_version 0 = .ok (.aload_n 0, 1) := by decide +kernel
theorem dX9_version_1 : decode cX9_version 1 = .ok (.iconst 0, 1) := by decide +kernel
theorem dX9_version_2 : decode cX9_version 2 = .ok (.putfield 73, 3) := by decide +kernel
theorem dX9_version_5 : decode cX9_version 5 = .ok (.aload_n 0, 1) := by decide +kernel
theorem dX9_version_6 : decode cX9_version 6 = .ok (.getfield 77, 3) := by decide +kernel
theorem dX9_version_9 : decode cX9_version 9 = .ok (.ireturn, 1) := by decide +kernel
theorem dX9_addDoor_0 : decode cX9_addDoor 0 = .ok (.aload_n 0, 1) := by decide +kernel
theorem dX9_addDoor_1 : decode cX9_addDoor 1 = .ok (.iconst 0, 1) := by decide +kernel
theorem dX9_addDoor_2 : decode cX9_addDoor 2 = .ok (.putfield 73, 3) := by decide +kernel
theorem dX9_addDoor_5 : decode cX9_addDoor 5 = .ok (.aload_n 0, 1) := by decide +kernel
theorem dX9_addDoor_6 : decode cX9_addDoor 6 = .ok (.getfield 84, 3) := by decide +kernel
theorem dX9_addDoor_9 : decode cX9_addDoor 9 = .ok (.iconst 5, 1) := by decide +kernel
theorem dX9_addDoor_10 : decode cX9_addDoor 10 = .ok (.if_icmp .ne 9, 3) := by decide +kernel
theorem dX9_addDoor_13 : decode cX9_addDoor 13 = .ok (.aload_n 0, 1) := by decide +kernel
theorem dX9_addDoor_14 : decode cX9_addDoor 14 = .ok (.iconst 1, 1) := by decide +kernel
theorem dX9_addDoor_15 : decode cX9_addDoor 15 = .ok (.invokevirtual 102, 3) := by decide +kernel
theorem dX9_addDoor_18 : decode cX9_addDoor 18 = .ok (.ireturn, 1) := by decide +kernel
theorem dX9_addDoor_19 : decode cX9_addDoor 19 = .ok (.aload_n 0, 1) := by decide +kernel
theorem dX9_addDoor_20 : decode cX9_addDoor 20 = .ok (.getfield 32, 3) := by decide +kernel
theorem dX9_addDoor_23 : decode cX9_addDoor 23 = .ok (.aload_n 0, 1) := by decide +kernel
theorem dX9_addDoor_24 : decode cX9_addDoor 24 = .ok (.getfield 84, 3) := by decide +kernel
theorem dX9_addDoor_27 : decode cX9_addDoor 27 = .ok (.aload_n 0, 1) := by decide +kernel
theorem dX9_addDoor_28 : decode cX9_addDoor 28 = .ok (.getfield 77, 3) := by decide +kernel
theorem dX9_addDoor_31 : decode cX9_addDoor 31 = .ok (.iastore, 1) := by decide +kernel
theorem dX9_addDoor_32 : decode cX9_addDoor 32 = .ok (.aload_n 0, 1) := by decide +kernel
theorem dX9_addDoor_33 : decode cX9_addDoor 33 = .ok (.getfield 35, 3) := by decide +kernel
theorem dX9_addDoor_36 : decode cX9_addDoor 36 = .ok (.aload_n 0, 1) := by decide +kernel
theorem dX9_addDoor_37 : decode cX9_addDoor 37 = .ok (.getfield 84, 3) := by decide +kernel
theorem dX9_addDoor_40 : decode cX9_addDoor 40 = .ok (.aload_n 0, 1) := by decide +kernel
theorem dX9_addDoor_41 : decode cX9_addDoor 41 = .ok (.getfield 95, 3) := by decide +kernel
theorem dX9_addDoor_44 : decode cX9_addDoor 44 = .ok (.iastore, 1) := by decide +kernel
theorem dX9_addDoor_45 : decode cX9_addDoor 45 = .ok (.aload_n 0, 1) := by decide +kernel
theorem dX9_addDoor_46 : decode cX9_addDoor 46 = .ok (.getfield 38, 3) := by decide +kernel
theorem dX9_addDoor_49 : decode cX9_addDoor 49 = .ok (.aload_n 0, 1) := by decide +kernel
theorem dX9_addDoor_50 : decode cX9_addDoor 50 = .ok (.getfield 84, 3) := by decide +kernel
theorem dX9_addDoor_53 : decode cX9_addDoor 53 = .ok (.aload_n 0, 1) := by decide +kernel
theorem dX9_addDoor_54 : decode cX9_addDoor 54 = .ok (.getfield 95, 3) := by decide +kernel
theorem dX9_addDoor_57 : decode cX9_addDoor 57 = .ok (.iastore, 1) := by decide +kernel
theorem dX9_addDoor_58 : decode cX9_addDoor 58 = .ok (.aload_n 0, 1) := by decide +kernel
theorem dX9_addDoor_59 : decode cX9_addDoor 59 = .ok (.getfield 44, 3) := by decide +kernel
theorem dX9_addDoor_62 : decode cX9_addDoor 62 = .ok (.aload_n 0, 1) := by decide +kernel
theorem dX9_addDoor_63 : decode cX9_addDoor 63 = .ok (.getfield 84, 3) := by decide +kernel
theorem dX9_addDoor_66 : decode cX9_addDoor 66 = .ok (.fconst 1, 1) := by decide +kernel
theorem dX9_addDoor_67 : decode cX9_addDoor 67 = .ok (.fastore, 1) := by decide +kernel
theorem dX9_addDoor_68 : decode cX9_addDoor 68 = .ok (.aload_n 0, 1) := by decide +kernel
theorem dX9_addDoor_69 : decode cX9_addDoor 69 = .ok (.dup, 1) := by decide +kernel
theorem dX9_addDoor_70 : decode cX9_addDoor 70 = .ok (.getfield 84, 3) := by decide +kernel
theorem dX9_addDoor_73 : decode cX9_addDoor 73 = .ok (.iconst 1, 1) := by decide +kernel
theorem dX9_addDoor_74 : decode cX9_addDoor 74 = .ok (.iadd, 1) := by decide +kernel
theorem dX9_addDoor_75 : decode cX9_addDoor 75 = .ok (.putfield 84, 3) := by decide +kernel
theorem dX9_addDoor_78 : decode cX9_addDoor 78 = .ok (.aload_n 0, 1) := by decide +kernel
theorem dX9_addDoor_79 : decode cX9_addDoor 79 = .ok (.getfield 84, 3) := by decide +kernel
theorem dX9_addDoor_82 : decode cX9_addDoor 82 = .ok (.iconst 1, 1) := by decide +kernel
theorem dX9_addDoor_83 : decode cX9_addDoor 83 = .ok (.isub, 1) := by decide +kernel
theorem dX9_addDoor_84 : decode cX9_addDoor 84 = .ok (.ireturn, 1) := by decide +kernel
theorem dX9_driftedOf_0 : decode cX9_driftedOf 0 = .ok (.aload_n 0, 1) := by decide +kernel
theorem dX9_driftedOf_1 : decode cX9_driftedOf 1 = .ok (.getfield 95, 3) := by decide +kernel
theorem dX9_driftedOf_4 : decode cX9_driftedOf 4 = .ok (.aload_n 0, 1) := by decide +kernel
theorem dX9_driftedOf_5 : decode cX9_driftedOf 5 = .ok (.getfield 35, 3) := by decide +kernel
theorem dX9_driftedOf_8 : decode cX9_driftedOf 8 = .ok (.iload_n 1, 1) := by decide +kernel
theorem dX9_driftedOf_9 : decode cX9_driftedOf 9 = .ok (.iaload, 1) := by decide +kernel
theorem dX9_driftedOf_10 : decode cX9_driftedOf 10 = .ok (.isub, 1) := by decide +kernel
theorem dX9_driftedOf_11 : decode cX9_driftedOf 11 = .ok (.i2f, 1) := by decide +kernel
theorem dX9_driftedOf_12 : decode cX9_driftedOf 12 = .ok (.aload_n 0, 1) := by decide +kernel
theorem dX9_driftedOf_13 : decode cX9_driftedOf 13 = .ok (.getfield 44, 3) := by decide +kernel
theorem dX9_driftedOf_16 : decode cX9_driftedOf 16 = .ok (.iload_n 1, 1) := by decide +kernel
theorem dX9_driftedOf_17 : decode cX9_driftedOf 17 = .ok (.faload, 1) := by decide +kernel
theorem dX9_driftedOf_18 : decode cX9_driftedOf 18 = .ok (.fmul, 1) := by decide +kernel
theorem dX9_driftedOf_19 : decode cX9_driftedOf 19 = .ok (.freturn, 1) := by decide +kernel
theorem dX9_clockOf_0 : decode cX9_clockOf 0 = .ok (.aload_n 0, 1) := by decide +kernel
theorem dX9_clockOf_1 : decode cX9_clockOf 1 = .ok (.getfield 38, 3) := by decide +kernel
theorem dX9_clockOf_4 : decode cX9_clockOf 4 = .ok (.iload_n 1, 1) := by decide +kernel
theorem dX9_clockOf_5 : decode cX9_clockOf 5 = .ok (.iaload, 1) := by decide +kernel
theorem dX9_clockOf_6 : decode cX9_clockOf 6 = .ok (.aload_n 0, 1) := by decide +kernel
theorem dX9_clockOf_7 : decode cX9_clockOf 7 = .ok (.iload_n 1, 1) := by decide +kernel
theorem dX9_clockOf_8 : decode cX9_clockOf 8 = .ok (.invokevirtual 116, 3) := by decide +kernel
theorem dX9_clockOf_11 : decode cX9_clockOf 11 = .ok (.f2i, 1) := by decide +kernel
theorem dX9_clockOf_12 : decode cX9_clockOf 12 = .ok (.iadd, 1) := by decide +kernel
theorem dX9_clockOf_13 : decode cX9_clockOf 13 = .ok (.ireturn, 1) := by decide +kernel
theorem dX9_sets_0 : decode cX9_sets 0 = .ok (.aload_n 0, 1) := by decide +kernel
theorem dX9_sets_1 : decode cX9_sets 1 = .ok (.getfield 38, 3) := by decide +kernel
theorem dX9_sets_4 : decode cX9_sets 4 = .ok (.iload_n 1, 1) := by decide +kernel
theorem dX9_sets_5 : decode cX9_sets 5 = .ok (.iload_n 2, 1) := by decide +kernel
theorem dX9_sets_6 : decode cX9_sets 6 = .ok (.iastore, 1) := by decide +kernel
theorem dX9_sets_7 : decode cX9_sets 7 = .ok (.aload_n 0, 1) := by decide +kernel
theorem dX9_sets_8 : decode cX9_sets 8 = .ok (.getfield 35, 3) := by decide +kernel
theorem dX9_sets_11 : decode cX9_sets 11 = .ok (.iload_n 1, 1) := by decide +kernel
theorem dX9_sets_12 : decode cX9_sets 12 = .ok (.aload_n 0, 1) := by decide +kernel
theorem dX9_sets_13 : decode cX9_sets 13 = .ok (.getfield 95, 3) := by decide +kernel
theorem dX9_sets_16 : decode cX9_sets 16 = .ok (.iastore, 1) := by decide +kernel
theorem dX9_sets_17 : decode cX9_sets 17 = .ok (.return_, 1) := by decide +kernel
theorem dX9_setRate_0 : decode cX9_setRate 0 = .ok (.aload_n 0, 1) := by decide +kernel
theorem dX9_setRate_1 : decode cX9_setRate 1 = .ok (.iconst 0, 1) := by decide +kernel
theorem dX9_setRate_2 : decode cX9_setRate 2 = .ok (.putfield 73, 3) := by decide +kernel
theorem dX9_setRate_5 : decode cX9_setRate 5 = .ok (.aload_n 0, 1) := by decide +kernel
theorem dX9_setRate_6 : decode cX9_setRate 6 = .ok (.iload_n 1, 1) := by decide +kernel
theorem dX9_setRate_7 : decode cX9_setRate 7 = .ok (.invokevirtual 120, 3) := by decide +kernel
theorem dX9_setRate_10 : decode cX9_setRate 10 = .ok (.ifCond .ne 9, 3) := by decide +kernel
theorem dX9_setRate_13 : decode cX9_setRate 13 = .ok (.aload_n 0, 1) := by decide +kernel
theorem dX9_setRate_14 : decode cX9_setRate 14 = .ok (.iconst 1, 1) := by decide +kernel
theorem dX9_setRate_15 : decode cX9_setRate 15 = .ok (.invokevirtual 102, 3) := by decide +kernel
theorem dX9_setRate_18 : decode cX9_setRate 18 = .ok (.ireturn, 1) := by decide +kernel
theorem dX9_setRate_19 : decode cX9_setRate 19 = .ok (.iload_n 2, 1) := by decide +kernel
theorem dX9_setRate_20 : decode cX9_setRate 20 = .ok (.sipush (-500), 3) := by decide +kernel
theorem dX9_setRate_23 : decode cX9_setRate 23 = .ok (.sipush 500, 3) := by decide +kernel
theorem dX9_setRate_26 : decode cX9_setRate 26 = .ok (.invokestatic 80, 3) := by decide +kernel
theorem dX9_setRate_29 : decode cX9_setRate 29 = .ok (.ifCond .ne 9, 3) := by decide +kernel
theorem dX9_setRate_32 : decode cX9_setRate 32 = .ok (.aload_n 0, 1) := by decide +kernel
theorem dX9_setRate_33 : decode cX9_setRate 33 = .ok (.iconst 2, 1) := by decide +kernel
theorem dX9_setRate_34 : decode cX9_setRate 34 = .ok (.invokevirtual 102, 3) := by decide +kernel
theorem dX9_setRate_37 : decode cX9_setRate 37 = .ok (.ireturn, 1) := by decide +kernel
theorem dX9_setRate_38 : decode cX9_setRate 38 = .ok (.aload_n 0, 1) := by decide +kernel
theorem dX9_setRate_39 : decode cX9_setRate 39 = .ok (.iload_n 1, 1) := by decide +kernel
theorem dX9_setRate_40 : decode cX9_setRate 40 = .ok (.aload_n 0, 1) := by decide +kernel
theorem dX9_setRate_41 : decode cX9_setRate 41 = .ok (.iload_n 1, 1) := by decide +kernel
theorem dX9_setRate_42 : decode cX9_setRate 42 = .ok (.invokevirtual 123, 3) := by decide +kernel
theorem dX9_setRate_45 : decode cX9_setRate 45 = .ok (.invokevirtual 126, 3) := by decide +kernel
theorem dX9_setRate_48 : decode cX9_setRate 48 = .ok (.aload_n 0, 1) := by decide +kernel
theorem dX9_setRate_49 : decode cX9_setRate 49 = .ok (.getfield 44, 3) := by decide +kernel
theorem dX9_setRate_52 : decode cX9_setRate 52 = .ok (.iload_n 1, 1) := by decide +kernel
theorem dX9_setRate_53 : decode cX9_setRate 53 = .ok (.fconst 1, 1) := by decide +kernel
theorem dX9_setRate_54 : decode cX9_setRate 54 = .ok (.iload_n 2, 1) := by decide +kernel
theorem dX9_setRate_55 : decode cX9_setRate 55 = .ok (.i2f, 1) := by decide +kernel
theorem dX9_setRate_56 : decode cX9_setRate 56 = .ok (.ldc 130, 2) := by decide +kernel
theorem dX9_setRate_58 : decode cX9_setRate 58 = .ok (.fdiv, 1) := by decide +kernel
theorem dX9_setRate_59 : decode cX9_setRate 59 = .ok (.fadd, 1) := by decide +kernel
theorem dX9_setRate_60 : decode cX9_setRate 60 = .ok (.fastore, 1) := by decide +kernel
theorem dX9_setRate_61 : decode cX9_setRate 61 = .ok (.aload_n 0, 1) := by decide +kernel
theorem dX9_setRate_62 : decode cX9_setRate 62 = .ok (.iload_n 1, 1) := by decide +kernel
theorem dX9_setRate_63 : decode cX9_setRate 63 = .ok (.invokevirtual 123, 3) := by decide +kernel
theorem dX9_setRate_66 : decode cX9_setRate 66 = .ok (.ireturn, 1) := by decide +kernel
theorem dX9_addPhone_0 : decode cX9_addPhone 0 = .ok (.aload_n 0, 1) := by decide +kernel
theorem dX9_addPhone_1 : decode cX9_addPhone 1 = .ok (.iconst 0, 1) := by decide +kernel
theorem dX9_addPhone_2 : decode cX9_addPhone 2 = .ok (.putfield 73, 3) := by decide +kernel
theorem dX9_addPhone_5 : decode cX9_addPhone 5 = .ok (.aload_n 0, 1) := by decide +kernel
theorem dX9_addPhone_6 : decode cX9_addPhone 6 = .ok (.getfield 87, 3) := by decide +kernel
theorem dX9_addPhone_9 : decode cX9_addPhone 9 = .ok (.iconst 3, 1) := by decide +kernel
theorem dX9_addPhone_10 : decode cX9_addPhone 10 = .ok (.if_icmp .ne 9, 3) := by decide +kernel
theorem dX9_addPhone_13 : decode cX9_addPhone 13 = .ok (.aload_n 0, 1) := by decide +kernel
theorem dX9_addPhone_14 : decode cX9_addPhone 14 = .ok (.iconst 1, 1) := by decide +kernel
theorem dX9_addPhone_15 : decode cX9_addPhone 15 = .ok (.invokevirtual 102, 3) := by decide +kernel
theorem dX9_addPhone_18 : decode cX9_addPhone 18 = .ok (.ireturn, 1) := by decide +kernel
theorem dX9_addPhone_19 : decode cX9_addPhone 19 = .ok (.aload_n 0, 1) := by decide +kernel
theorem dX9_addPhone_20 : decode cX9_addPhone 20 = .ok (.dup, 1) := by decide +kernel
theorem dX9_addPhone_21 : decode cX9_addPhone 21 = .ok (.getfield 87, 3) := by decide +kernel
theorem dX9_addPhone_24 : decode cX9_addPhone 24 = .ok (.iconst 1, 1) := by decide +kernel
theorem dX9_addPhone_25 : decode cX9_addPhone 25 = .ok (.iadd, 1) := by decide +kernel
theorem dX9_addPhone_26 : decode cX9_addPhone 26 = .ok (.putfield 87, 3) := by decide +kernel
theorem dX9_addPhone_29 : decode cX9_addPhone 29 = .ok (.aload_n 0, 1) := by decide +kernel
theorem dX9_addPhone_30 : decode cX9_addPhone 30 = .ok (.getfield 87, 3) := by decide +kernel
theorem dX9_addPhone_33 : decode cX9_addPhone 33 = .ok (.iconst 1, 1) := by decide +kernel
theorem dX9_addPhone_34 : decode cX9_addPhone 34 = .ok (.isub, 1) := by decide +kernel
theorem dX9_addPhone_35 : decode cX9_addPhone 35 = .ok (.ireturn, 1) := by decide +kernel
theorem dX9_pass_0 : decode cX9_pass 0 = .ok (.aload_n 0, 1) := by decide +kernel
theorem dX9_pass_1 : decode cX9_pass 1 = .ok (.iconst 0, 1) := by decide +kernel
theorem dX9_pass_2 : decode cX9_pass 2 = .ok (.putfield 73, 3) := by decide +kernel
theorem dX9_pass_5 : decode cX9_pass 5 = .ok (.iload_n 1, 1) := by decide +kernel
theorem dX9_pass_6 : decode cX9_pass 6 = .ok (.iconst 1, 1) := by decide +kernel
theorem dX9_pass_7 : decode cX9_pass 7 = .ok (.sipush 10000, 3) := by decide +kernel
theorem dX9_pass_10 : decode cX9_pass 10 = .ok (.invokestatic 80, 3) := by decide +kernel
theorem dX9_pass_13 : decode cX9_pass 13 = .ok (.ifCond .eq 14, 3) := by decide +kernel
theorem dX9_pass_16 : decode cX9_pass 16 = .ok (.aload_n 0, 1) := by decide +kernel
theorem dX9_pass_17 : decode cX9_pass 17 = .ok (.getfield 95, 3) := by decide +kernel
theorem dX9_pass_20 : decode cX9_pass 20 = .ok (.iload_n 1, 1) := by decide +kernel
theorem dX9_pass_21 : decode cX9_pass 21 = .ok (.iadd, 1) := by decide +kernel
theorem dX9_pass_22 : decode cX9_pass 22 = .ok (.ldc 94, 2) := by decide +kernel
theorem dX9_pass_24 : decode cX9_pass 24 = .ok (.if_icmp .le 9, 3) := by decide +kernel
theorem dX9_pass_27 : decode cX9_pass 27 = .ok (.aload_n 0, 1) := by decide +kernel
theorem dX9_pass_28 : decode cX9_pass 28 = .ok (.iconst 1, 1) := by decide +kernel
theorem dX9_pass_29 : decode cX9_pass 29 = .ok (.invokevirtual 102, 3) := by decide +kernel
theorem dX9_pass_32 : decode cX9_pass 32 = .ok (.ireturn, 1) := by decide +kernel
theorem dX9_pass_33 : decode cX9_pass 33 = .ok (.aload_n 0, 1) := by decide +kernel
theorem dX9_pass_34 : decode cX9_pass 34 = .ok (.dup, 1) := by decide +kernel
theorem dX9_pass_35 : decode cX9_pass 35 = .ok (.getfield 95, 3) := by decide +kernel
theorem dX9_pass_38 : decode cX9_pass 38 = .ok (.iload_n 1, 1) := by decide +kernel
theorem dX9_pass_39 : decode cX9_pass 39 = .ok (.iadd, 1) := by decide +kernel
theorem dX9_pass_40 : decode cX9_pass 40 = .ok (.putfield 95, 3) := by decide +kernel
theorem dX9_pass_43 : decode cX9_pass 43 = .ok (.aload_n 0, 1) := by decide +kernel
theorem dX9_pass_44 : decode cX9_pass 44 = .ok (.getfield 95, 3) := by decide +kernel
theorem dX9_pass_47 : decode cX9_pass 47 = .ok (.ireturn, 1) := by decide +kernel
theorem dX9_time_0 : decode cX9_time 0 = .ok (.aload_n 0, 1) := by decide +kernel
theorem dX9_time_1 : decode cX9_time 1 = .ok (.iconst 0, 1) := by decide +kernel
theorem dX9_time_2 : decode cX9_time 2 = .ok (.putfield 73, 3) := by decide +kernel
theorem dX9_time_5 : decode cX9_time 5 = .ok (.aload_n 0, 1) := by decide +kernel
theorem dX9_time_6 : decode cX9_time 6 = .ok (.getfield 95, 3) := by decide +kernel
theorem dX9_time_9 : decode cX9_time 9 = .ok (.ireturn, 1) := by decide +kernel
theorem dX9_meetCloud_0 : decode cX9_meetCloud 0 = .ok (.aload_n 0, 1) := by decide +kernel
theorem dX9_meetCloud_1 : decode cX9_meetCloud 1 = .ok (.iconst 0, 1) := by decide +kernel
theorem dX9_meetCloud_2 : decode cX9_meetCloud 2 = .ok (.putfield 73, 3) := by decide +kernel
theorem dX9_meetCloud_5 : decode cX9_meetCloud 5 = .ok (.aload_n 0, 1) := by decide +kernel
theorem dX9_meetCloud_6 : decode cX9_meetCloud 6 = .ok (.iload_n 1, 1) := by decide +kernel
theorem dX9_meetCloud_7 : decode cX9_meetCloud 7 = .ok (.invokevirtual 131, 3) := by decide +kernel
theorem dX9_meetCloud_10 : decode cX9_meetCloud 10 = .ok (.ifCond .ne 9, 3) := by decide +kernel
theorem dX9_meetCloud_13 : decode cX9_meetCloud 13 = .ok (.aload_n 0, 1) := by decide +kernel
theorem dX9_meetCloud_14 : decode cX9_meetCloud 14 = .ok (.iconst 1, 1) := by decide +kernel
theorem dX9_meetCloud_15 : decode cX9_meetCloud 15 = .ok (.invokevirtual 102, 3) := by decide +kernel
theorem dX9_meetCloud_18 : decode cX9_meetCloud 18 = .ok (.ireturn, 1) := by decide +kernel
theorem dX9_meetCloud_19 : decode cX9_meetCloud 19 = .ok (.aload_n 0, 1) := by decide +kernel
theorem dX9_meetCloud_20 : decode cX9_meetCloud 20 = .ok (.getfield 41, 3) := by decide +kernel
theorem dX9_meetCloud_23 : decode cX9_meetCloud 23 = .ok (.iload_n 1, 1) := by decide +kernel
theorem dX9_meetCloud_24 : decode cX9_meetCloud 24 = .ok (.aload_n 0, 1) := by decide +kernel
theorem dX9_meetCloud_25 : decode cX9_meetCloud 25 = .ok (.getfield 77, 3) := by decide +kernel
theorem dX9_meetCloud_28 : decode cX9_meetCloud 28 = .ok (.iastore, 1) := by decide +kernel
theorem dX9_meetCloud_29 : decode cX9_meetCloud 29 = .ok (.iconst 0, 1) := by decide +kernel
theorem dX9_meetCloud_30 : decode cX9_meetCloud 30 = .ok (.istore_n 2, 1) := by decide +kernel
theorem dX9_meetCloud_31 : decode cX9_meetCloud 31 = .ok (.iconst 0, 1) := by decide +kernel
theorem dX9_meetCloud_32 : decode cX9_meetCloud 32 = .ok (.istore_n 3, 1) := by decide +kernel
theorem dX9_meetCloud_33 : decode cX9_meetCloud 33 = .ok (.iload_n 3, 1) := by decide +kernel
theorem dX9_meetCloud_34 : decode cX9_meetCloud 34 = .ok (.aload_n 0, 1) := by decide +kernel
theorem dX9_meetCloud_35 : decode cX9_meetCloud 35 = .ok (.getfield 90, 3) := by decide +kernel
theorem dX9_meetCloud_38 : decode cX9_meetCloud 38 = .ok (.if_icmp .ge 44, 3) := by decide +kernel
theorem dX9_meetCloud_41 : decode cX9_meetCloud 41 = .ok (.aload_n 0, 1) := by decide +kernel
theorem dX9_meetCloud_42 : decode cX9_meetCloud 42 = .ok (.getfield 63, 3) := by decide +kernel
theorem dX9_meetCloud_45 : decode cX9_meetCloud 45 = .ok (.iload_n 3, 1) := by decide +kernel
theorem dX9_meetCloud_46 : decode cX9_meetCloud 46 = .ok (.iaload, 1) := by decide +kernel
theorem dX9_meetCloud_47 : decode cX9_meetCloud 47 = .ok (.iload_n 1, 1) := by decide +kernel
theorem dX9_meetCloud_48 : decode cX9_meetCloud 48 = .ok (.if_icmp .ne 28, 3) := by decide +kernel
theorem dX9_meetCloud_51 : decode cX9_meetCloud 51 = .ok (.aload_n 0, 1) := by decide +kernel
theorem dX9_meetCloud_52 : decode cX9_meetCloud 52 = .ok (.getfield 66, 3) := by decide +kernel
theorem dX9_meetCloud_55 : decode cX9_meetCloud 55 = .ok (.iload_n 3, 1) := by decide +kernel
theorem dX9_meetCloud_56 : decode cX9_meetCloud 56 = .ok (.iaload, 1) := by decide +kernel
theorem dX9_meetCloud_57 : decode cX9_meetCloud 57 = .ok (.ifCond .lt 6, 3) := by decide +kernel
theorem dX9_meetCloud_60 : decode cX9_meetCloud 60 = .ok (.goto 16, 3) := by decide +kernel
theorem dX9_meetCloud_63 : decode cX9_meetCloud 63 = .ok (.aload_n 0, 1) := by decide +kernel
theorem dX9_meetCloud_64 : decode cX9_meetCloud 64 = .ok (.getfield 66, 3) := by decide +kernel
theorem dX9_meetCloud_67 : decode cX9_meetCloud 67 = .ok (.iload_n 3, 1) := by decide +kernel
theorem dX9_meetCloud_68 : decode cX9_meetCloud 68 = .ok (.aload_n 0, 1) := by decide +kernel
theorem dX9_meetCloud_69 : decode cX9_meetCloud 69 = .ok (.getfield 95, 3) := by decide +kernel
theorem dX9_meetCloud_72 : decode cX9_meetCloud 72 = .ok (.iastore, 1) := by decide +kernel
theorem dX9_meetCloud_73 : decode cX9_meetCloud 73 = .ok (.iinc 2 1, 3) := by decide +kernel
theorem dX9_meetCloud_76 : decode cX9_meetCloud 76 = .ok (.iinc 3 1, 3) := by decide +kernel
theorem dX9_meetCloud_79 : decode cX9_meetCloud 79 = .ok (.goto (-46), 3) := by decide +kernel
theorem dX9_meetCloud_82 : decode cX9_meetCloud 82 = .ok (.iload_n 2, 1) := by decide +kernel
theorem dX9_meetCloud_83 : decode cX9_meetCloud 83 = .ok (.ireturn, 1) := by decide +kernel
theorem dX9_meetDoor_0 : decode cX9_meetDoor 0 = .ok (.aload_n 0, 1) := by decide +kernel
theorem dX9_meetDoor_1 : decode cX9_meetDoor 1 = .ok (.iconst 0, 1) := by decide +kernel
theorem dX9_meetDoor_2 : decode cX9_meetDoor 2 = .ok (.putfield 73, 3) := by decide +kernel
theorem dX9_meetDoor_5 : decode cX9_meetDoor 5 = .ok (.aload_n 0, 1) := by decide +kernel
theorem dX9_meetDoor_6 : decode cX9_meetDoor 6 = .ok (.iload_n 1, 1) := by decide +kernel
theorem dX9_meetDoor_7 : decode cX9_meetDoor 7 = .ok (.invokevirtual 131, 3) := by decide +kernel
theorem dX9_meetDoor_10 : decode cX9_meetDoor 10 = .ok (.ifCond .eq 11, 3) := by decide +kernel
theorem dX9_meetDoor_13 : decode cX9_meetDoor 13 = .ok (.aload_n 0, 1) := by decide +kernel
theorem dX9_meetDoor_14 : decode cX9_meetDoor 14 = .ok (.iload_n 2, 1) := by decide +kernel
theorem dX9_meetDoor_15 : decode cX9_meetDoor 15 = .ok (.invokevirtual 120, 3) := by decide +kernel
theorem dX9_meetDoor_18 : decode cX9_meetDoor 18 = .ok (.ifCond .ne 9, 3) := by decide +kernel
theorem dX9_meetDoor_21 : decode cX9_meetDoor 21 = .ok (.aload_n 0, 1) := by decide +kernel
theorem dX9_meetDoor_22 : decode cX9_meetDoor 22 = .ok (.iconst 1, 1) := by decide +kernel
theorem dX9_meetDoor_23 : decode cX9_meetDoor 23 = .ok (.invokevirtual 102, 3) := by decide +kernel
theorem dX9_meetDoor_26 : decode cX9_meetDoor 26 = .ok (.ireturn, 1) := by decide +kernel
theorem dX9_meetDoor_27 : decode cX9_meetDoor 27 = .ok (.aload_n 0, 1) := by decide +kernel
theorem dX9_meetDoor_28 : decode cX9_meetDoor 28 = .ok (.getfield 32, 3) := by decide +kernel
theorem dX9_meetDoor_31 : decode cX9_meetDoor 31 = .ok (.iload_n 2, 1) := by decide +kernel
theorem dX9_meetDoor_32 : decode cX9_meetDoor 32 = .ok (.aload_n 0, 1) := by decide +kernel
theorem dX9_meetDoor_33 : decode cX9_meetDoor 33 = .ok (.getfield 32, 3) := by decide +kernel
theorem dX9_meetDoor_36 : decode cX9_meetDoor 36 = .ok (.iload_n 2, 1) := by decide +kernel
theorem dX9_meetDoor_37 : decode cX9_meetDoor 37 = .ok (.iaload, 1) := by decide +kernel
theorem dX9_meetDoor_38 : decode cX9_meetDoor 38 = .ok (.aload_n 0, 1) := by decide +kernel
theorem dX9_meetDoor_39 : decode cX9_meetDoor 39 = .ok (.getfield 41, 3) := by decide +kernel
theorem dX9_meetDoor_42 : decode cX9_meetDoor 42 = .ok (.iload_n 1, 1) := by decide +kernel
theorem dX9_meetDoor_43 : decode cX9_meetDoor 43 = .ok (.iaload, 1) := by decide +kernel
theorem dX9_meetDoor_44 : decode cX9_meetDoor 44 = .ok (.invokestatic 134, 3) := by decide +kernel
theorem dX9_meetDoor_47 : decode cX9_meetDoor 47 = .ok (.iastore, 1) := by decide +kernel
theorem dX9_meetDoor_48 : decode cX9_meetDoor 48 = .ok (.aload_n 0, 1) := by decide +kernel
theorem dX9_meetDoor_49 : decode cX9_meetDoor 49 = .ok (.iload_n 2, 1) := by decide +kernel
theorem dX9_meetDoor_50 : decode cX9_meetDoor 50 = .ok (.aload_n 0, 1) := by decide +kernel
theorem dX9_meetDoor_51 : decode cX9_meetDoor 51 = .ok (.getfield 95, 3) := by decide +kernel
theorem dX9_meetDoor_54 : decode cX9_meetDoor 54 = .ok (.invokevirtual 126, 3) := by decide +kernel
theorem dX9_meetDoor_57 : decode cX9_meetDoor 57 = .ok (.iconst 0, 1) := by decide +kernel
theorem dX9_meetDoor_58 : decode cX9_meetDoor 58 = .ok (.istore_n 3, 1) := by decide +kernel
theorem dX9_meetDoor_59 : decode cX9_meetDoor 59 = .ok (.iconst 0, 1) := by decide +kernel
theorem dX9_meetDoor_60 : decode cX9_meetDoor 60 = .ok (.istore 4, 2) := by decide +kernel
theorem dX9_meetDoor_62 : decode cX9_meetDoor 62 = .ok (.iload 4, 2) := by decide +kernel
theorem dX9_meetDoor_64 : decode cX9_meetDoor 64 = .ok (.aload_n 0, 1) := by decide +kernel
theorem dX9_meetDoor_65 : decode cX9_meetDoor 65 = .ok (.getfield 90, 3) := by decide +kernel
theorem dX9_meetDoor_68 : decode cX9_meetDoor 68 = .ok (.if_icmp .ge 44, 3) := by decide +kernel
theorem dX9_meetDoor_71 : decode cX9_meetDoor 71 = .ok (.aload_n 0, 1) := by decide +kernel
theorem dX9_meetDoor_72 : decode cX9_meetDoor 72 = .ok (.getfield 48, 3) := by decide +kernel
theorem dX9_meetDoor_75 : decode cX9_meetDoor 75 = .ok (.iload 4, 2) := by decide +kernel
theorem dX9_meetDoor_77 : decode cX9_meetDoor 77 = .ok (.iaload, 1) := by decide +kernel
theorem dX9_meetDoor_78 : decode cX9_meetDoor 78 = .ok (.iload_n 2, 1) := by decide +kernel
theorem dX9_meetDoor_79 : decode cX9_meetDoor 79 = .ok (.if_icmp .ne 27, 3) := by decide +kernel
theorem dX9_meetDoor_82 : decode cX9_meetDoor 82 = .ok (.aload_n 0, 1) := by decide +kernel
theorem dX9_meetDoor_83 : decode cX9_meetDoor 83 = .ok (.getfield 63, 3) := by decide +kernel
theorem dX9_meetDoor_86 : decode cX9_meetDoor 86 = .ok (.iload 4, 2) := by decide +kernel
theorem dX9_meetDoor_88 : decode cX9_meetDoor 88 = .ok (.iaload, 1) := by decide +kernel
theorem dX9_meetDoor_89 : decode cX9_meetDoor 89 = .ok (.ifCond .lt 6, 3) := by decide +kernel
theorem dX9_meetDoor_92 : decode cX9_meetDoor 92 = .ok (.goto 14, 3) := by decide +kernel
theorem dX9_meetDoor_95 : decode cX9_meetDoor 95 = .ok (.aload_n 0, 1) := by decide +kernel
theorem dX9_meetDoor_96 : decode cX9_meetDoor 96 = .ok (.getfield 63, 3) := by decide +kernel
theorem dX9_meetDoor_99 : decode cX9_meetDoor 99 = .ok (.iload 4, 2) := by decide +kernel
theorem dX9_meetDoor_101 : decode cX9_meetDoor 101 = .ok (.iload_n 1, 1) := by decide +kernel
theorem dX9_meetDoor_102 : decode cX9_meetDoor 102 = .ok (.iastore, 1) := by decide +kernel
theorem dX9_meetDoor_103 : decode cX9_meetDoor 103 = .ok (.iinc 3 1, 3) := by decide +kernel
theorem dX9_meetDoor_106 : decode cX9_meetDoor 106 = .ok (.iinc 4 1, 3) := by decide +kernel
theorem dX9_meetDoor_109 : decode cX9_meetDoor 109 = .ok (.goto (-47), 3) := by decide +kernel
theorem dX9_meetDoor_112 : decode cX9_meetDoor 112 = .ok (.iload_n 3, 1) := by decide +kernel
theorem dX9_meetDoor_113 : decode cX9_meetDoor 113 = .ok (.ireturn, 1) := by decide +kernel
theorem dX9_letter_0 : decode cX9_letter 0 = .ok (.iload_n 3, 1) := by decide +kernel
theorem dX9_letter_1 : decode cX9_letter 1 = .ok (.aload_n 0, 1) := by decide +kernel
theorem dX9_letter_2 : decode cX9_letter 2 = .ok (.getfield 9, 3) := by decide +kernel
theorem dX9_letter_5 : decode cX9_letter 5 = .ok (.iload_n 1, 1) := by decide +kernel
theorem dX9_letter_6 : decode cX9_letter 6 = .ok (.iaload, 1) := by decide +kernel
theorem dX9_letter_7 : decode cX9_letter 7 = .ok (.if_icmp .lt 6, 3) := by decide +kernel
theorem dX9_letter_10 : decode cX9_letter 10 = .ok (.bipush 117, 2) := by decide +kernel
theorem dX9_letter_12 : decode cX9_letter 12 = .ok (.ireturn, 1) := by decide +kernel
theorem dX9_letter_13 : decode cX9_letter 13 = .ok (.aload_n 0, 1) := by decide +kernel
theorem dX9_letter_14 : decode cX9_letter 14 = .ok (.getfield 29, 3) := by decide +kernel
theorem dX9_letter_17 : decode cX9_letter 17 = .ok (.iload_n 1, 1) := by decide +kernel
theorem dX9_letter_18 : decode cX9_letter 18 = .ok (.aaload, 1) := by decide +kernel
theorem dX9_letter_19 : decode cX9_letter 19 = .ok (.iload_n 3, 1) := by decide +kernel
theorem dX9_letter_20 : decode cX9_letter 20 = .ok (.baload, 1) := by decide +kernel
theorem dX9_letter_21 : decode cX9_letter 21 = .ok (.ifCond .eq 6, 3) := by decide +kernel
theorem dX9_letter_24 : decode cX9_letter 24 = .ok (.bipush 114, 2) := by decide +kernel
theorem dX9_letter_26 : decode cX9_letter 26 = .ok (.ireturn, 1) := by decide +kernel
theorem dX9_letter_27 : decode cX9_letter 27 = .ok (.aload_n 0, 1) := by decide +kernel
theorem dX9_letter_28 : decode cX9_letter 28 = .ok (.getfield 18, 3) := by decide +kernel
theorem dX9_letter_31 : decode cX9_letter 31 = .ok (.iload_n 1, 1) := by decide +kernel
theorem dX9_letter_32 : decode cX9_letter 32 = .ok (.aaload, 1) := by decide +kernel
theorem dX9_letter_33 : decode cX9_letter 33 = .ok (.iload_n 3, 1) := by decide +kernel
theorem dX9_letter_34 : decode cX9_letter 34 = .ok (.iaload, 1) := by decide +kernel
theorem dX9_letter_35 : decode cX9_letter 35 = .ok (.iload_n 2, 1) := by decide +kernel
theorem dX9_letter_36 : decode cX9_letter 36 = .ok (.ishr, 1) := by decide +kernel
theorem dX9_letter_37 : decode cX9_letter 37 = .ok (.iconst 1, 1) := by decide +kernel
theorem dX9_letter_38 : decode cX9_letter 38 = .ok (.iand, 1) := by decide +kernel
theorem dX9_letter_39 : decode cX9_letter 39 = .ok (.ifCond .ne 6, 3) := by decide +kernel
theorem dX9_letter_42 : decode cX9_letter 42 = .ok (.bipush 100, 2) := by decide +kernel
theorem dX9_letter_44 : decode cX9_letter 44 = .ok (.ireturn, 1) := by decide +kernel
theorem dX9_letter_45 : decode cX9_letter 45 = .ok (.iload 4, 2) := by decide +kernel
theorem dX9_letter_47 : decode cX9_letter 47 = .ok (.aload_n 0, 1) := by decide +kernel
theorem dX9_letter_48 : decode cX9_letter 48 = .ok (.getfield 21, 3) := by decide +kernel
theorem dX9_letter_51 : decode cX9_letter 51 = .ok (.iload_n 1, 1) := by decide +kernel
theorem dX9_letter_52 : decode cX9_letter 52 = .ok (.aaload, 1) := by decide +kernel
theorem dX9_letter_53 : decode cX9_letter 53 = .ok (.iload_n 3, 1) := by decide +kernel
theorem dX9_letter_54 : decode cX9_letter 54 = .ok (.iaload, 1) := by decide +kernel
theorem dX9_letter_55 : decode cX9_letter 55 = .ok (.if_icmp .ge 6, 3) := by decide +kernel
theorem dX9_letter_58 : decode cX9_letter 58 = .ok (.bipush 101, 2) := by decide +kernel
theorem dX9_letter_60 : decode cX9_letter 60 = .ok (.ireturn, 1) := by decide +kernel
theorem dX9_letter_61 : decode cX9_letter 61 = .ok (.iload 4, 2) := by decide +kernel
theorem dX9_letter_63 : decode cX9_letter 63 = .ok (.aload_n 0, 1) := by decide +kernel
theorem dX9_letter_64 : decode cX9_letter 64 = .ok (.getfield 24, 3) := by decide +kernel
theorem dX9_letter_67 : decode cX9_letter 67 = .ok (.iload_n 1, 1) := by decide +kernel
theorem dX9_letter_68 : decode cX9_letter 68 = .ok (.aaload, 1) := by decide +kernel
theorem dX9_letter_69 : decode cX9_letter 69 = .ok (.iload_n 3, 1) := by decide +kernel
theorem dX9_letter_70 : decode cX9_letter 70 = .ok (.iaload, 1) := by decide +kernel
theorem dX9_letter_71 : decode cX9_letter 71 = .ok (.if_icmp .lt 8, 3) := by decide +kernel
theorem dX9_letter_74 : decode cX9_letter 74 = .ok (.bipush 108, 2) := by decide +kernel
theorem dX9_letter_76 : decode cX9_letter 76 = .ok (.goto 5, 3) := by decide +kernel
theorem dX9_letter_79 : decode cX9_letter 79 = .ok (.bipush 111, 2) := by decide +kernel
theorem dX9_letter_81 : decode cX9_letter 81 = .ok (.ireturn, 1) := by decide +kernel
theorem dX9_isNone_0 : decode cX9_isNone 0 = .ok (.aload_n 0, 1) := by decide +kernel
theorem dX9_isNone_1 : decode cX9_isNone 1 = .ok (.aload_n 0, 1) := by decide +kernel
theorem dX9_isNone_2 : decode cX9_isNone 2 = .ok (.iload_n 1, 1) := by decide +kernel
theorem dX9_isNone_3 : decode cX9_isNone 3 = .ok (.invokevirtual 120, 3) := by decide +kernel
theorem dX9_isNone_6 : decode cX9_isNone 6 = .ok (.ifCond .ne 7, 3) := by decide +kernel
theorem dX9_isNone_9 : decode cX9_isNone 9 = .ok (.iconst 1, 1) := by decide +kernel
theorem dX9_isNone_10 : decode cX9_isNone 10 = .ok (.goto 16, 3) := by decide +kernel
theorem dX9_isNone_13 : decode cX9_isNone 13 = .ok (.aload_n 0, 1) := by decide +kernel
theorem dX9_isNone_14 : decode cX9_isNone 14 = .ok (.iload_n 2, 1) := by decide +kernel
theorem dX9_isNone_15 : decode cX9_isNone 15 = .ok (.invokevirtual 109, 3) := by decide +kernel
theorem dX9_isNone_18 : decode cX9_isNone 18 = .ok (.ifCond .ne 7, 3) := by decide +kernel
theorem dX9_isNone_21 : decode cX9_isNone 21 = .ok (.iconst 2, 1) := by decide +kernel
theorem dX9_isNone_22 : decode cX9_isNone 22 = .ok (.goto 4, 3) := by decide +kernel
theorem dX9_isNone_25 : decode cX9_isNone 25 = .ok (.iconst 0, 1) := by decide +kernel
theorem dX9_isNone_26 : decode cX9_isNone 26 = .ok (.putfield 73, 3) := by decide +kernel
theorem dX9_isNone_29 : decode cX9_isNone 29 = .ok (.aload_n 0, 1) := by decide +kernel
theorem dX9_isNone_30 : decode cX9_isNone 30 = .ok (.getfield 73, 3) := by decide +kernel
theorem dX9_isNone_33 : decode cX9_isNone 33 = .ok (.ifCond .le 7, 3) := by decide +kernel
theorem dX9_isNone_36 : decode cX9_isNone 36 = .ok (.iconst 1, 1) := by decide +kernel
theorem dX9_isNone_37 : decode cX9_isNone 37 = .ok (.goto 4, 3) := by decide +kernel
theorem dX9_isNone_40 : decode cX9_isNone 40 = .ok (.iconst 0, 1) := by decide +kernel
theorem dX9_isNone_41 : decode cX9_isNone 41 = .ok (.ireturn, 1) := by decide +kernel
theorem dX9_open_0 : decode cX9_open 0 = .ok (.aload_n 0, 1) := by decide +kernel
theorem dX9_open_1 : decode cX9_open 1 = .ok (.iload_n 1, 1) := by decide +kernel
theorem dX9_open_2 : decode cX9_open 2 = .ok (.iload_n 2, 1) := by decide +kernel
theorem dX9_open_3 : decode cX9_open 3 = .ok (.invokevirtual 140, 3) := by decide +kernel
theorem dX9_open_6 : decode cX9_open 6 = .ok (.ifCond .eq 5, 3) := by decide +kernel
theorem dX9_open_9 : decode cX9_open 9 = .ok (.iconst 0, 1) := by decide +kernel
theorem dX9_open_10 : decode cX9_open 10 = .ok (.ireturn, 1) := by decide +kernel
theorem dX9_open_11 : decode cX9_open 11 = .ok (.aload_n 0, 1) := by decide +kernel
theorem dX9_open_12 : decode cX9_open 12 = .ok (.getfield 90, 3) := by decide +kernel
theorem dX9_open_15 : decode cX9_open 15 = .ok (.bipush 60, 2) := by decide +kernel
theorem dX9_open_17 : decode cX9_open 17 = .ok (.if_icmp .ne 10, 3) := by decide +kernel
theorem dX9_open_20 : decode cX9_open 20 = .ok (.aload_n 0, 1) := by decide +kernel
theorem dX9_open_21 : decode cX9_open 21 = .ok (.iconst 3, 1) := by decide +kernel
theorem dX9_open_22 : decode cX9_open 22 = .ok (.invokevirtual 102, 3) := by decide +kernel
theorem dX9_open_25 : decode cX9_open 25 = .ok (.i2c, 1) := by decide +kernel
theorem dX9_open_26 : decode cX9_open 26 = .ok (.ireturn, 1) := by decide +kernel
theorem dX9_open_27 : decode cX9_open 27 = .ok (.aload_n 0, 1) := by decide +kernel
theorem dX9_open_28 : decode cX9_open 28 = .ok (.getfield 48, 3) := by decide +kernel
theorem dX9_open_31 : decode cX9_open 31 = .ok (.aload_n 0, 1) := by decide +kernel
theorem dX9_open_32 : decode cX9_open 32 = .ok (.getfield 90, 3) := by decide +kernel
theorem dX9_open_35 : decode cX9_open 35 = .ok (.iload_n 1, 1) := by decide +kernel
theorem dX9_open_36 : decode cX9_open 36 = .ok (.iastore, 1) := by decide +kernel
theorem dX9_open_37 : decode cX9_open 37 = .ok (.aload_n 0, 1) := by decide +kernel
theorem dX9_open_38 : decode cX9_open 38 = .ok (.getfield 51, 3) := by decide +kernel
theorem dX9_open_41 : decode cX9_open 41 = .ok (.aload_n 0, 1) := by decide +kernel
theorem dX9_open_42 : decode cX9_open 42 = .ok (.getfield 90, 3) := by decide +kernel
theorem dX9_open_45 : decode cX9_open 45 = .ok (.iload_n 2, 1) := by decide +kernel
theorem dX9_open_46 : decode cX9_open 46 = .ok (.iastore, 1) := by decide +kernel
theorem dX9_open_47 : decode cX9_open 47 = .ok (.aload_n 0, 1) := by decide +kernel
theorem dX9_open_48 : decode cX9_open 48 = .ok (.getfield 54, 3) := by decide +kernel
theorem dX9_open_51 : decode cX9_open 51 = .ok (.aload_n 0, 1) := by decide +kernel
theorem dX9_open_52 : decode cX9_open 52 = .ok (.getfield 90, 3) := by decide +kernel
theorem dX9_open_55 : decode cX9_open 55 = .ok (.aload_n 0, 1) := by decide +kernel
theorem dX9_open_56 : decode cX9_open 56 = .ok (.iload_n 1, 1) := by decide +kernel
theorem dX9_open_57 : decode cX9_open 57 = .ok (.invokevirtual 123, 3) := by decide +kernel
theorem dX9_open_60 : decode cX9_open 60 = .ok (.iastore, 1) := by decide +kernel
theorem dX9_open_61 : decode cX9_open 61 = .ok (.aload_n 0, 1) := by decide +kernel
theorem dX9_open_62 : decode cX9_open 62 = .ok (.getfield 57, 3) := by decide +kernel
theorem dX9_open_65 : decode cX9_open 65 = .ok (.aload_n 0, 1) := by decide +kernel
theorem dX9_open_66 : decode cX9_open 66 = .ok (.getfield 90, 3) := by decide +kernel
theorem dX9_open_69 : decode cX9_open 69 = .ok (.aload_n 0, 1) := by decide +kernel
theorem dX9_open_70 : decode cX9_open 70 = .ok (.getfield 32, 3) := by decide +kernel
theorem dX9_open_73 : decode cX9_open 73 = .ok (.iload_n 1, 1) := by decide +kernel
theorem dX9_open_74 : decode cX9_open 74 = .ok (.iaload, 1) := by decide +kernel
theorem dX9_open_75 : decode cX9_open 75 = .ok (.iastore, 1) := by decide +kernel
theorem dX9_open_76 : decode cX9_open 76 = .ok (.aload_n 0, 1) := by decide +kernel
theorem dX9_open_77 : decode cX9_open 77 = .ok (.getfield 60, 3) := by decide +kernel
theorem dX9_open_80 : decode cX9_open 80 = .ok (.aload_n 0, 1) := by decide +kernel
theorem dX9_open_81 : decode cX9_open 81 = .ok (.getfield 90, 3) := by decide +kernel
theorem dX9_open_84 : decode cX9_open 84 = .ok (.aload_n 0, 1) := by decide +kernel
theorem dX9_open_85 : decode cX9_open 85 = .ok (.getfield 95, 3) := by decide +kernel
theorem dX9_open_88 : decode cX9_open 88 = .ok (.iastore, 1) := by decide +kernel
theorem dX9_open_89 : decode cX9_open 89 = .ok (.aload_n 0, 1) := by decide +kernel
theorem dX9_open_90 : decode cX9_open 90 = .ok (.getfield 63, 3) := by decide +kernel
theorem dX9_open_93 : decode cX9_open 93 = .ok (.aload_n 0, 1) := by decide +kernel
theorem dX9_open_94 : decode cX9_open 94 = .ok (.getfield 90, 3) := by decide +kernel
theorem dX9_open_97 : decode cX9_open 97 = .ok (.iconst (-1), 1) := by decide +kernel
theorem dX9_open_98 : decode cX9_open 98 = .ok (.iastore, 1) := by decide +kernel
theorem dX9_open_99 : decode cX9_open 99 = .ok (.aload_n 0, 1) := by decide +kernel
theorem dX9_open_100 : decode cX9_open 100 = .ok (.getfield 66, 3) := by decide +kernel
theorem dX9_open_103 : decode cX9_open 103 = .ok (.aload_n 0, 1) := by decide +kernel
theorem dX9_open_104 : decode cX9_open 104 = .ok (.getfield 90, 3) := by decide +kernel
theorem dX9_open_107 : decode cX9_open 107 = .ok (.iconst (-1), 1) := by decide +kernel
theorem dX9_open_108 : decode cX9_open 108 = .ok (.iastore, 1) := by decide +kernel
theorem dX9_open_109 : decode cX9_open 109 = .ok (.aload_n 0, 1) := by decide +kernel
theorem dX9_open_110 : decode cX9_open 110 = .ok (.getfield 69, 3) := by decide +kernel
theorem dX9_open_113 : decode cX9_open 113 = .ok (.aload_n 0, 1) := by decide +kernel
theorem dX9_open_114 : decode cX9_open 114 = .ok (.getfield 90, 3) := by decide +kernel
theorem dX9_open_117 : decode cX9_open 117 = .ok (.aload_n 0, 1) := by decide +kernel
theorem dX9_open_118 : decode cX9_open 118 = .ok (.aload_n 0, 1) := by decide +kernel
theorem dX9_open_119 : decode cX9_open 119 = .ok (.getfield 32, 3) := by decide +kernel
theorem dX9_open_122 : decode cX9_open 122 = .ok (.iload_n 1, 1) := by decide +kernel
theorem dX9_open_123 : decode cX9_open 123 = .ok (.iaload, 1) := by decide +kernel
theorem dX9_open_124 : decode cX9_open 124 = .ok (.iload_n 1, 1) := by decide +kernel
theorem dX9_open_125 : decode cX9_open 125 = .ok (.iload_n 2, 1) := by decide +kernel
theorem dX9_open_126 : decode cX9_open 126 = .ok (.aload_n 0, 1) := by decide +kernel
theorem dX9_open_127 : decode cX9_open 127 = .ok (.iload_n 1, 1) := by decide +kernel
theorem dX9_open_128 : decode cX9_open 128 = .ok (.invokevirtual 123, 3) := by decide +kernel
theorem dX9_open_131 : decode cX9_open 131 = .ok (.invokevirtual 143, 3) := by decide +kernel
theorem dX9_open_134 : decode cX9_open 134 = .ok (.castore, 1) := by decide +kernel
theorem dX9_open_135 : decode cX9_open 135 = .ok (.aload_n 0, 1) := by decide +kernel
theorem dX9_open_136 : decode cX9_open 136 = .ok (.dup, 1) := by decide +kernel
theorem dX9_open_137 : decode cX9_open 137 = .ok (.getfield 90, 3) := by decide +kernel
theorem dX9_open_140 : decode cX9_open 140 = .ok (.iconst 1, 1) := by decide +kernel
theorem dX9_open_141 : decode cX9_open 141 = .ok (.iadd, 1) := by decide +kernel
theorem dX9_open_142 : decode cX9_open 142 = .ok (.putfield 90, 3) := by decide +kernel
theorem dX9_open_145 : decode cX9_open 145 = .ok (.aload_n 0, 1) := by decide +kernel
theorem dX9_open_146 : decode cX9_open 146 = .ok (.getfield 69, 3) := by decide +kernel
theorem dX9_open_149 : decode cX9_open 149 = .ok (.aload_n 0, 1) := by decide +kernel
theorem dX9_open_150 : decode cX9_open 150 = .ok (.getfield 90, 3) := by decide +kernel
theorem dX9_open_153 : decode cX9_open 153 = .ok (.iconst 1, 1) := by decide +kernel
theorem dX9_open_154 : decode cX9_open 154 = .ok (.isub, 1) := by decide +kernel
theorem dX9_open_155 : decode cX9_open 155 = .ok (.caload, 1) := by decide +kernel
theorem dX9_open_156 : decode cX9_open 156 = .ok (.ireturn, 1) := by decide +kernel
theorem dX9_answer_0 : decode cX9_answer 0 = .ok (.aload_n 0, 1) := by decide +kernel
theorem dX9_answer_1 : decode cX9_answer 1 = .ok (.iload_n 1, 1) := by decide +kernel
theorem dX9_answer_2 : decode cX9_answer 2 = .ok (.iload_n 2, 1) := by decide +kernel
theorem dX9_answer_3 : decode cX9_answer 3 = .ok (.invokevirtual 140, 3) := by decide +kernel
theorem dX9_answer_6 : decode cX9_answer 6 = .ok (.ifCond .eq 7, 3) := by decide +kernel
theorem dX9_answer_9 : decode cX9_answer 9 = .ok (.iconst 0, 1) := by decide +kernel
theorem dX9_answer_10 : decode cX9_answer 10 = .ok (.goto 20, 3) := by decide +kernel
theorem dX9_answer_13 : decode cX9_answer 13 = .ok (.aload_n 0, 1) := by decide +kernel
theorem dX9_answer_14 : decode cX9_answer 14 = .ok (.aload_n 0, 1) := by decide +kernel
theorem dX9_answer_15 : decode cX9_answer 15 = .ok (.getfield 32, 3) := by decide +kernel
theorem dX9_answer_18 : decode cX9_answer 18 = .ok (.iload_n 1, 1) := by decide +kernel
theorem dX9_answer_19 : decode cX9_answer 19 = .ok (.iaload, 1) := by decide +kernel
theorem dX9_answer_20 : decode cX9_answer 20 = .ok (.iload_n 1, 1) := by decide +kernel
theorem dX9_answer_21 : decode cX9_answer 21 = .ok (.iload_n 2, 1) := by decide +kernel
theorem dX9_answer_22 : decode cX9_answer 22 = .ok (.aload_n 0, 1) := by decide +kernel
theorem dX9_answer_23 : decode cX9_answer 23 = .ok (.iload_n 1, 1) := by decide +kernel
theorem dX9_answer_24 : decode cX9_answer 24 = .ok (.invokevirtual 123, 3) := by decide +kernel
theorem dX9_answer_27 : decode cX9_answer 27 = .ok (.invokevirtual 143, 3) := by decide +kernel
theorem dX9_answer_30 : decode cX9_answer 30 = .ok (.ireturn, 1) := by decide +kernel
theorem dX9_isNowhere_0 : decode cX9_isNowhere 0 = .ok (.aload_n 0, 1) := by decide +kernel
theorem dX9_isNowhere_1 : decode cX9_isNowhere 1 = .ok (.aload_n 0, 1) := by decide +kernel
theorem dX9_isNowhere_2 : decode cX9_isNowhere 2 = .ok (.iload_n 1, 1) := by decide +kernel
theorem dX9_isNowhere_3 : decode cX9_isNowhere 3 = .ok (.invokevirtual 120, 3) := by decide +kernel
theorem dX9_isNowhere_6 : decode cX9_isNowhere 6 = .ok (.ifCond .eq 7, 3) := by decide +kernel
theorem dX9_isNowhere_9 : decode cX9_isNowhere 9 = .ok (.iconst 0, 1) := by decide +kernel
theorem dX9_isNowhere_10 : decode cX9_isNowhere 10 = .ok (.goto 4, 3) := by decide +kernel
theorem dX9_isNowhere_13 : decode cX9_isNowhere 13 = .ok (.iconst 1, 1) := by decide +kernel
theorem dX9_isNowhere_14 : decode cX9_isNowhere 14 = .ok (.putfield 73, 3) := by decide +kernel
theorem dX9_isNowhere_17 : decode cX9_isNowhere 17 = .ok (.aload_n 0, 1) := by decide +kernel
theorem dX9_isNowhere_18 : decode cX9_isNowhere 18 = .ok (.getfield 73, 3) := by decide +kernel
theorem dX9_isNowhere_21 : decode cX9_isNowhere 21 = .ok (.ifCond .le 7, 3) := by decide +kernel
theorem dX9_isNowhere_24 : decode cX9_isNowhere 24 = .ok (.iconst 1, 1) := by decide +kernel
theorem dX9_isNowhere_25 : decode cX9_isNowhere 25 = .ok (.goto 4, 3) := by decide +kernel
theorem dX9_isNowhere_28 : decode cX9_isNowhere 28 = .ok (.iconst 0, 1) := by decide +kernel
theorem dX9_isNowhere_29 : decode cX9_isNowhere 29 = .ok (.ireturn, 1) := by decide +kernel
theorem dX9_clock_0 : decode cX9_clock 0 = .ok (.aload_n 0, 1) := by decide +kernel
theorem dX9_clock_1 : decode cX9_clock 1 = .ok (.iload_n 1, 1) := by decide +kernel
theorem dX9_clock_2 : decode cX9_clock 2 = .ok (.invokevirtual 147, 3) := by decide +kernel
theorem dX9_clock_5 : decode cX9_clock 5 = .ok (.ifCond .eq 7, 3) := by decide +kernel
theorem dX9_clock_8 : decode cX9_clock 8 = .ok (.iconst 0, 1) := by decide +kernel
theorem dX9_clock_9 : decode cX9_clock 9 = .ok (.goto 8, 3) := by decide +kernel
theorem dX9_clock_12 : decode cX9_clock 12 = .ok (.aload_n 0, 1) := by decide +kernel
theorem dX9_clock_13 : decode cX9_clock 13 = .ok (.iload_n 1, 1) := by decide +kernel
theorem dX9_clock_14 : decode cX9_clock 14 = .ok (.invokevirtual 123, 3) := by decide +kernel
theorem dX9_clock_17 : decode cX9_clock 17 = .ok (.ireturn, 1) := by decide +kernel
theorem dX9_drifted_0 : decode cX9_drifted 0 = .ok (.aload_n 0, 1) := by decide +kernel
theorem dX9_drifted_1 : decode cX9_drifted 1 = .ok (.iload_n 1, 1) := by decide +kernel
theorem dX9_drifted_2 : decode cX9_drifted 2 = .ok (.invokevirtual 147, 3) := by decide +kernel
theorem dX9_drifted_5 : decode cX9_drifted 5 = .ok (.ifCond .eq 7, 3) := by decide +kernel
theorem dX9_drifted_8 : decode cX9_drifted 8 = .ok (.fconst 0, 1) := by decide +kernel
theorem dX9_drifted_9 : decode cX9_drifted 9 = .ok (.goto 8, 3) := by decide +kernel
theorem dX9_drifted_12 : decode cX9_drifted 12 = .ok (.aload_n 0, 1) := by decide +kernel
theorem dX9_drifted_13 : decode cX9_drifted 13 = .ok (.iload_n 1, 1) := by decide +kernel
theorem dX9_drifted_14 : decode cX9_drifted 14 = .ok (.invokevirtual 116, 3) := by decide +kernel
theorem dX9_drifted_17 : decode cX9_drifted 17 = .ok (.freturn, 1) := by decide +kernel
theorem dX9_driftedBits_0 : decode cX9_driftedBits 0 = .ok (.aload_n 0, 1) := by decide +kernel
theorem dX9_driftedBits_1 : decode cX9_driftedBits 1 = .ok (.iload_n 1, 1) := by decide +kernel
theorem dX9_driftedBits_2 : decode cX9_driftedBits 2 = .ok (.invokevirtual 147, 3) := by decide +kernel
theorem dX9_driftedBits_5 : decode cX9_driftedBits 5 = .ok (.ifCond .eq 7, 3) := by decide +kernel
theorem dX9_driftedBits_8 : decode cX9_driftedBits 8 = .ok (.iconst 0, 1) := by decide +kernel
theorem dX9_driftedBits_9 : decode cX9_driftedBits 9 = .ok (.goto 11, 3) := by decide +kernel
theorem dX9_driftedBits_12 : decode cX9_driftedBits 12 = .ok (.aload_n 0, 1) := by decide +kernel
theorem dX9_driftedBits_13 : decode cX9_driftedBits 13 = .ok (.iload_n 1, 1) := by decide +kernel
theorem dX9_driftedBits_14 : decode cX9_driftedBits 14 = .ok (.invokevirtual 116, 3) := by decide +kernel
theorem dX9_driftedBits_17 : decode cX9_driftedBits 17 = .ok (.invokestatic 150, 3) := by decide +kernel
theorem dX9_driftedBits_20 : decode cX9_driftedBits 20 = .ok (.ireturn, 1) := by decide +kernel
theorem dX9_versionOf_0 : decode cX9_versionOf 0 = .ok (.aload_n 0, 1) := by decide +kernel
theorem dX9_versionOf_1 : decode cX9_versionOf 1 = .ok (.iload_n 1, 1) := by decide +kernel
theorem dX9_versionOf_2 : decode cX9_versionOf 2 = .ok (.invokevirtual 147, 3) := by decide +kernel
theorem dX9_versionOf_5 : decode cX9_versionOf 5 = .ok (.ifCond .eq 7, 3) := by decide +kernel
theorem dX9_versionOf_8 : decode cX9_versionOf 8 = .ok (.iconst 0, 1) := by decide +kernel
theorem dX9_versionOf_9 : decode cX9_versionOf 9 = .ok (.goto 9, 3) := by decide +kernel
theorem dX9_versionOf_12 : decode cX9_versionOf 12 = .ok (.aload_n 0, 1) := by decide +kernel
theorem dX9_versionOf_13 : decode cX9_versionOf 13 = .ok (.getfield 32, 3) := by decide +kernel
theorem dX9_versionOf_16 : decode cX9_versionOf 16 = .ok (.iload_n 1, 1) := by decide +kernel
theorem dX9_versionOf_17 : decode cX9_versionOf 17 = .ok (.iaload, 1) := by decide +kernel
theorem dX9_versionOf_18 : decode cX9_versionOf 18 = .ok (.ireturn, 1) := by decide +kernel
theorem dX9_versionByReplay_0 : decode cX9_versionByReplay 0 = .ok (.aload_n 0, 1) := by decide +kernel
theorem dX9_versionByReplay_1 : decode cX9_versionByReplay 1 = .ok (.iload_n 1, 1) := by decide +kernel
theorem dX9_versionByReplay_2 : decode cX9_versionByReplay 2 = .ok (.invokevirtual 156, 3) := by decide +kernel
theorem dX9_versionByReplay_5 : decode cX9_versionByReplay 5 = .ok (.ireturn, 1) := by decide +kernel
theorem dX9_versionOn_0 : decode cX9_versionOn 0 = .ok (.aload_n 0, 1) := by decide +kernel
theorem dX9_versionOn_1 : decode cX9_versionOn 1 = .ok (.iconst 0, 1) := by decide +kernel
theorem dX9_versionOn_2 : decode cX9_versionOn 2 = .ok (.putfield 73, 3) := by decide +kernel
theorem dX9_versionOn_5 : decode cX9_versionOn 5 = .ok (.aload_n 0, 1) := by decide +kernel
theorem dX9_versionOn_6 : decode cX9_versionOn 6 = .ok (.iload_n 1, 1) := by decide +kernel
theorem dX9_versionOn_7 : decode cX9_versionOn 7 = .ok (.invokevirtual 131, 3) := by decide +kernel
theorem dX9_versionOn_10 : decode cX9_versionOn 10 = .ok (.ifCond .eq 12, 3) := by decide +kernel
theorem dX9_versionOn_13 : decode cX9_versionOn 13 = .ok (.aload_n 0, 1) := by decide +kernel
theorem dX9_versionOn_14 : decode cX9_versionOn 14 = .ok (.getfield 41, 3) := by decide +kernel
theorem dX9_versionOn_17 : decode cX9_versionOn 17 = .ok (.iload_n 1, 1) := by decide +kernel
theorem dX9_versionOn_18 : decode cX9_versionOn 18 = .ok (.iaload, 1) := by decide +kernel
theorem dX9_versionOn_19 : decode cX9_versionOn 19 = .ok (.goto 8, 3) := by decide +kernel
theorem dX9_versionOn_22 : decode cX9_versionOn 22 = .ok (.aload_n 0, 1) := by decide +kernel
theorem dX9_versionOn_23 : decode cX9_versionOn 23 = .ok (.iconst 1, 1) := by decide +kernel
theorem dX9_versionOn_24 : decode cX9_versionOn 24 = .ok (.invokevirtual 102, 3) := by decide +kernel
theorem dX9_versionOn_27 : decode cX9_versionOn 27 = .ok (.ireturn, 1) := by decide +kernel
theorem dX9_fromIn_0 : decode cX9_fromIn 0 = .ok (.aload_n 0, 1) := by decide +kernel
theorem dX9_fromIn_1 : decode cX9_fromIn 1 = .ok (.iload_n 1, 1) := by decide +kernel
theorem dX9_fromIn_2 : decode cX9_fromIn 2 = .ok (.invokevirtual 147, 3) := by decide +kernel
theorem dX9_fromIn_5 : decode cX9_fromIn 5 = .ok (.ifCond .eq 5, 3) := by decide +kernel
theorem dX9_fromIn_8 : decode cX9_fromIn 8 = .ok (.iconst 0, 1) := by decide +kernel
theorem dX9_fromIn_9 : decode cX9_fromIn 9 = .ok (.ireturn, 1) := by decide +kernel
theorem dX9_fromIn_10 : decode cX9_fromIn 10 = .ok (.iload_n 2, 1) := by decide +kernel
theorem dX9_fromIn_11 : decode cX9_fromIn 11 = .ok (.iconst 0, 1) := by decide +kernel
theorem dX9_fromIn_12 : decode cX9_fromIn 12 = .ok (.aload_n 0, 1) := by decide +kernel
theorem dX9_fromIn_13 : decode cX9_fromIn 13 = .ok (.getfield 9, 3) := by decide +kernel
theorem dX9_fromIn_16 : decode cX9_fromIn 16 = .ok (.aload_n 0, 1) := by decide +kernel
theorem dX9_fromIn_17 : decode cX9_fromIn 17 = .ok (.getfield 32, 3) := by decide +kernel
theorem dX9_fromIn_20 : decode cX9_fromIn 20 = .ok (.iload_n 1, 1) := by decide +kernel
theorem dX9_fromIn_21 : decode cX9_fromIn 21 = .ok (.iaload, 1) := by decide +kernel
theorem dX9_fromIn_22 : decode cX9_fromIn 22 = .ok (.iaload, 1) := by decide +kernel
theorem dX9_fromIn_23 : decode cX9_fromIn 23 = .ok (.iconst 1, 1) := by decide +kernel
theorem dX9_fromIn_24 : decode cX9_fromIn 24 = .ok (.isub, 1) := by decide +kernel
theorem dX9_fromIn_25 : decode cX9_fromIn 25 = .ok (.invokestatic 80, 3) := by decide +kernel
theorem dX9_fromIn_28 : decode cX9_fromIn 28 = .ok (.ifCond .eq 19, 3) := by decide +kernel
theorem dX9_fromIn_31 : decode cX9_fromIn 31 = .ok (.aload_n 0, 1) := by decide +kernel
theorem dX9_fromIn_32 : decode cX9_fromIn 32 = .ok (.getfield 21, 3) := by decide +kernel
theorem dX9_fromIn_35 : decode cX9_fromIn 35 = .ok (.aload_n 0, 1) := by decide +kernel
theorem dX9_fromIn_36 : decode cX9_fromIn 36 = .ok (.getfield 32, 3) := by decide +kernel
theorem dX9_fromIn_39 : decode cX9_fromIn 39 = .ok (.iload_n 1, 1) := by decide +kernel
theorem dX9_fromIn_40 : decode cX9_fromIn 40 = .ok (.iaload, 1) := by decide +kernel
theorem dX9_fromIn_41 : decode cX9_fromIn 41 = .ok (.aaload, 1) := by decide +kernel
theorem dX9_fromIn_42 : decode cX9_fromIn 42 = .ok (.iload_n 2, 1) := by decide +kernel
theorem dX9_fromIn_43 : decode cX9_fromIn 43 = .ok (.iaload, 1) := by decide +kernel
theorem dX9_fromIn_44 : decode cX9_fromIn 44 = .ok (.goto 8, 3) := by decide +kernel
theorem dX9_fromIn_47 : decode cX9_fromIn 47 = .ok (.aload_n 0, 1) := by decide +kernel
theorem dX9_fromIn_48 : decode cX9_fromIn 48 = .ok (.iconst 2, 1) := by decide +kernel
theorem dX9_fromIn_49 : decode cX9_fromIn 49 = .ok (.invokevirtual 102, 3) := by decide +kernel
theorem dX9_fromIn_52 : decode cX9_fromIn 52 = .ok (.ireturn, 1) := by decide +kernel
theorem dX9_waiting_0 : decode cX9_waiting 0 = .ok (.aload_n 0, 1) := by decide +kernel
theorem dX9_waiting_1 : decode cX9_waiting 1 = .ok (.iload_n 1, 1) := by decide +kernel
theorem dX9_waiting_2 : decode cX9_waiting 2 = .ok (.invokevirtual 147, 3) := by decide +kernel
theorem dX9_waiting_5 : decode cX9_waiting 5 = .ok (.ifCond .eq 5, 3) := by decide +kernel
theorem dX9_waiting_8 : decode cX9_waiting 8 = .ok (.iconst 0, 1) := by decide +kernel
theorem dX9_waiting_9 : decode cX9_waiting 9 = .ok (.ireturn, 1) := by decide +kernel
theorem dX9_waiting_10 : decode cX9_waiting 10 = .ok (.iconst 0, 1) := by decide +kernel
theorem dX9_waiting_11 : decode cX9_waiting 11 = .ok (.istore_n 2, 1) := by decide +kernel
theorem dX9_waiting_12 : decode cX9_waiting 12 = .ok (.iconst 0, 1) := by decide +kernel
theorem dX9_waiting_13 : decode cX9_waiting 13 = .ok (.istore_n 3, 1) := by decide +kernel
theorem dX9_waiting_14 : decode cX9_waiting 14 = .ok (.iload_n 3, 1) := by decide +kernel
theorem dX9_waiting_15 : decode cX9_waiting 15 = .ok (.aload_n 0, 1) := by decide +kernel
theorem dX9_waiting_16 : decode cX9_waiting 16 = .ok (.getfield 90, 3) := by decide +kernel
theorem dX9_waiting_19 : decode cX9_waiting 19 = .ok (.if_icmp .ge 36, 3) := by decide +kernel
theorem dX9_waiting_22 : decode cX9_waiting 22 = .ok (.iload_n 2, 1) := by decide +kernel
theorem dX9_waiting_23 : decode cX9_waiting 23 = .ok (.aload_n 0, 1) := by decide +kernel
theorem dX9_waiting_24 : decode cX9_waiting 24 = .ok (.getfield 48, 3) := by decide +kernel
theorem dX9_waiting_27 : decode cX9_waiting 27 = .ok (.iload_n 3, 1) := by decide +kernel
theorem dX9_waiting_28 : decode cX9_waiting 28 = .ok (.iaload, 1) := by decide +kernel
theorem dX9_waiting_29 : decode cX9_waiting 29 = .ok (.iload_n 1, 1) := by decide +kernel
theorem dX9_waiting_30 : decode cX9_waiting 30 = .ok (.if_icmp .ne 16, 3) := by decide +kernel
theorem dX9_waiting_33 : decode cX9_waiting 33 = .ok (.aload_n 0, 1) := by decide +kernel
theorem dX9_waiting_34 : decode cX9_waiting 34 = .ok (.getfield 63, 3) := by decide +kernel
theorem dX9_waiting_37 : decode cX9_waiting 37 = .ok (.iload_n 3, 1) := by decide +kernel
theorem dX9_waiting_38 : decode cX9_waiting 38 = .ok (.iaload, 1) := by decide +kernel
theorem dX9_waiting_39 : decode cX9_waiting 39 = .ok (.ifCond .ge 7, 3) := by decide +kernel
theorem dX9_waiting_42 : decode cX9_waiting 42 = .ok (.iconst 1, 1) := by decide +kernel
theorem dX9_waiting_43 : decode cX9_waiting 43 = .ok (.goto 4, 3) := by decide +kernel
theorem dX9_waiting_46 : decode cX9_waiting 46 = .ok (.iconst 0, 1) := by decide +kernel
theorem dX9_waiting_47 : decode cX9_waiting 47 = .ok (.iadd, 1) := by decide +kernel
theorem dX9_waiting_48 : decode cX9_waiting 48 = .ok (.istore_n 2, 1) := by decide +kernel
theorem dX9_waiting_49 : decode cX9_waiting 49 = .ok (.iinc 3 1, 3) := by decide +kernel
theorem dX9_waiting_52 : decode cX9_waiting 52 = .ok (.goto (-38), 3) := by decide +kernel
theorem dX9_waiting_55 : decode cX9_waiting 55 = .ok (.iload_n 2, 1) := by decide +kernel
theorem dX9_waiting_56 : decode cX9_waiting 56 = .ok (.ireturn, 1) := by decide +kernel
theorem dX9_carried_0 : decode cX9_carried 0 = .ok (.aload_n 0, 1) := by decide +kernel
theorem dX9_carried_1 : decode cX9_carried 1 = .ok (.iconst 0, 1) := by decide +kernel
theorem dX9_carried_2 : decode cX9_carried 2 = .ok (.putfield 73, 3) := by decide +kernel
theorem dX9_carried_5 : decode cX9_carried 5 = .ok (.aload_n 0, 1) := by decide +kernel
theorem dX9_carried_6 : decode cX9_carried 6 = .ok (.iload_n 1, 1) := by decide +kernel
theorem dX9_carried_7 : decode cX9_carried 7 = .ok (.invokevirtual 131, 3) := by decide +kernel
theorem dX9_carried_10 : decode cX9_carried 10 = .ok (.ifCond .ne 9, 3) := by decide +kernel
theorem dX9_carried_13 : decode cX9_carried 13 = .ok (.aload_n 0, 1) := by decide +kernel
theorem dX9_carried_14 : decode cX9_carried 14 = .ok (.iconst 1, 1) := by decide +kernel
theorem dX9_carried_15 : decode cX9_carried 15 = .ok (.invokevirtual 102, 3) := by decide +kernel
theorem dX9_carried_18 : decode cX9_carried 18 = .ok (.ireturn, 1) := by decide +kernel
theorem dX9_carried_19 : decode cX9_carried 19 = .ok (.iconst 0, 1) := by decide +kernel
theorem dX9_carried_20 : decode cX9_carried 20 = .ok (.istore_n 2, 1) := by decide +kernel
theorem dX9_carried_21 : decode cX9_carried 21 = .ok (.iconst 0, 1) := by decide +kernel
theorem dX9_carried_22 : decode cX9_carried 22 = .ok (.istore_n 3, 1) := by decide +kernel
theorem dX9_carried_23 : decode cX9_carried 23 = .ok (.iload_n 3, 1) := by decide +kernel
theorem dX9_carried_24 : decode cX9_carried 24 = .ok (.aload_n 0, 1) := by decide +kernel
theorem dX9_carried_25 : decode cX9_carried 25 = .ok (.getfield 90, 3) := by decide +kernel
theorem dX9_carried_28 : decode cX9_carried 28 = .ok (.if_icmp .ge 36, 3) := by decide +kernel
theorem dX9_carried_31 : decode cX9_carried 31 = .ok (.iload_n 2, 1) := by decide +kernel
theorem dX9_carried_32 : decode cX9_carried 32 = .ok (.aload_n 0, 1) := by decide +kernel
theorem dX9_carried_33 : decode cX9_carried 33 = .ok (.getfield 63, 3) := by decide +kernel
theorem dX9_carried_36 : decode cX9_carried 36 = .ok (.iload_n 3, 1) := by decide +kernel
theorem dX9_carried_37 : decode cX9_carried 37 = .ok (.iaload, 1) := by decide +kernel
theorem dX9_carried_38 : decode cX9_carried 38 = .ok (.iload_n 1, 1) := by decide +kernel
theorem dX9_carried_39 : decode cX9_carried 39 = .ok (.if_icmp .ne 16, 3) := by decide +kernel
theorem dX9_carried_42 : decode cX9_carried 42 = .ok (.aload_n 0, 1) := by decide +kernel
theorem dX9_carried_43 : decode cX9_carried 43 = .ok (.getfield 66, 3) := by decide +kernel
theorem dX9_carried_46 : decode cX9_carried 46 = .ok (.iload_n 3, 1) := by decide +kernel
theorem dX9_carried_47 : decode cX9_carried 47 = .ok (.iaload, 1) := by decide +kernel
theorem dX9_carried_48 : decode cX9_carried 48 = .ok (.ifCond .ge 7, 3) := by decide +kernel
theorem dX9_carried_51 : decode cX9_carried 51 = .ok (.iconst 1, 1) := by decide +kernel
theorem dX9_carried_52 : decode cX9_carried 52 = .ok (.goto 4, 3) := by decide +kernel
theorem dX9_carried_55 : decode cX9_carried 55 = .ok (.iconst 0, 1) := by decide +kernel
theorem dX9_carried_56 : decode cX9_carried 56 = .ok (.iadd, 1) := by decide +kernel
theorem dX9_carried_57 : decode cX9_carried 57 = .ok (.istore_n 2, 1) := by decide +kernel
theorem dX9_carried_58 : decode cX9_carried 58 = .ok (.iinc 3 1, 3) := by decide +kernel
theorem dX9_carried_61 : decode cX9_carried 61 = .ok (.goto (-38), 3) := by decide +kernel
theorem dX9_carried_64 : decode cX9_carried 64 = .ok (.iload_n 2, 1) := by decide +kernel
theorem dX9_carried_65 : decode cX9_carried 65 = .ok (.ireturn, 1) := by decide +kernel
theorem dX9_audits_0 : decode cX9_audits 0 = .ok (.aload_n 0, 1) := by decide +kernel
theorem dX9_audits_1 : decode cX9_audits 1 = .ok (.iconst 0, 1) := by decide +kernel
theorem dX9_audits_2 : decode cX9_audits 2 = .ok (.putfield 73, 3) := by decide +kernel
theorem dX9_audits_5 : decode cX9_audits 5 = .ok (.aload_n 0, 1) := by decide +kernel
theorem dX9_audits_6 : decode cX9_audits 6 = .ok (.getfield 90, 3) := by decide +kernel
theorem dX9_audits_9 : decode cX9_audits 9 = .ok (.ireturn, 1) := by decide +kernel
theorem dX9_isNoAudit_0 : decode cX9_isNoAudit 0 = .ok (.aload_n 0, 1) := by decide +kernel
theorem dX9_isNoAudit_1 : decode cX9_isNoAudit 1 = .ok (.aload_n 0, 1) := by decide +kernel
theorem dX9_isNoAudit_2 : decode cX9_isNoAudit 2 = .ok (.iload_n 1, 1) := by decide +kernel
theorem dX9_isNoAudit_3 : decode cX9_isNoAudit 3 = .ok (.invokevirtual 159, 3) := by decide +kernel
theorem dX9_isNoAudit_6 : decode cX9_isNoAudit 6 = .ok (.ifCond .eq 7, 3) := by decide +kernel
theorem dX9_isNoAudit_9 : decode cX9_isNoAudit 9 = .ok (.iconst 0, 1) := by decide +kernel
theorem dX9_isNoAudit_10 : decode cX9_isNoAudit 10 = .ok (.goto 4, 3) := by decide +kernel
theorem dX9_isNoAudit_13 : decode cX9_isNoAudit 13 = .ok (.iconst 1, 1) := by decide +kernel
theorem dX9_isNoAudit_14 : decode cX9_isNoAudit 14 = .ok (.putfield 73, 3) := by decide +kernel
theorem dX9_isNoAudit_17 : decode cX9_isNoAudit 17 = .ok (.aload_n 0, 1) := by decide +kernel
theorem dX9_isNoAudit_18 : decode cX9_isNoAudit 18 = .ok (.getfield 73, 3) := by decide +kernel
theorem dX9_isNoAudit_21 : decode cX9_isNoAudit 21 = .ok (.ifCond .le 7, 3) := by decide +kernel
theorem dX9_isNoAudit_24 : decode cX9_isNoAudit 24 = .ok (.iconst 1, 1) := by decide +kernel
theorem dX9_isNoAudit_25 : decode cX9_isNoAudit 25 = .ok (.goto 4, 3) := by decide +kernel
theorem dX9_isNoAudit_28 : decode cX9_isNoAudit 28 = .ok (.iconst 0, 1) := by decide +kernel
theorem dX9_isNoAudit_29 : decode cX9_isNoAudit 29 = .ok (.ireturn, 1) := by decide +kernel
theorem dX9_letterOf_0 : decode cX9_letterOf 0 = .ok (.aload_n 0, 1) := by decide +kernel
theorem dX9_letterOf_1 : decode cX9_letterOf 1 = .ok (.iload_n 1, 1) := by decide +kernel
theorem dX9_letterOf_2 : decode cX9_letterOf 2 = .ok (.invokevirtual 162, 3) := by decide +kernel
theorem dX9_letterOf_5 : decode cX9_letterOf 5 = .ok (.ifCond .eq 7, 3) := by decide +kernel
theorem dX9_letterOf_8 : decode cX9_letterOf 8 = .ok (.iconst 0, 1) := by decide +kernel
theorem dX9_letterOf_9 : decode cX9_letterOf 9 = .ok (.goto 9, 3) := by decide +kernel
theorem dX9_letterOf_12 : decode cX9_letterOf 12 = .ok (.aload_n 0, 1) := by decide +kernel
theorem dX9_letterOf_13 : decode cX9_letterOf 13 = .ok (.getfield 69, 3) := by decide +kernel
theorem dX9_letterOf_16 : decode cX9_letterOf 16 = .ok (.iload_n 1, 1) := by decide +kernel
theorem dX9_letterOf_17 : decode cX9_letterOf 17 = .ok (.caload, 1) := by decide +kernel
theorem dX9_letterOf_18 : decode cX9_letterOf 18 = .ok (.ireturn, 1) := by decide +kernel
theorem dX9_letterByList_0 : decode cX9_letterByList 0 = .ok (.aload_n 0, 1) := by decide +kernel
theorem dX9_letterByList_1 : decode cX9_letterByList 1 = .ok (.iload_n 1, 1) := by decide +kernel
theorem dX9_letterByList_2 : decode cX9_letterByList 2 = .ok (.invokevirtual 162, 3) := by decide +kernel
theorem dX9_letterByList_5 : decode cX9_letterByList 5 = .ok (.ifCond .eq 7, 3) := by decide +kernel
theorem dX9_letterByList_8 : decode cX9_letterByList 8 = .ok (.iconst 0, 1) := by decide +kernel
theorem dX9_letterByList_9 : decode cX9_letterByList 9 = .ok (.goto 31, 3) := by decide +kernel
theorem dX9_letterByList_12 : decode cX9_letterByList 12 = .ok (.aload_n 0, 1) := by decide +kernel
theorem dX9_letterByList_13 : decode cX9_letterByList 13 = .ok (.aload_n 0, 1) := by decide +kernel
theorem dX9_letterByList_14 : decode cX9_letterByList 14 = .ok (.getfield 57, 3) := by decide +kernel
theorem dX9_letterByList_17 : decode cX9_letterByList 17 = .ok (.iload_n 1, 1) := by decide +kernel
theorem dX9_letterByList_18 : decode cX9_letterByList 18 = .ok (.iaload, 1) := by decide +kernel
theorem dX9_letterByList_19 : decode cX9_letterByList 19 = .ok (.aload_n 0, 1) := by decide +kernel
theorem dX9_letterByList_20 : decode cX9_letterByList 20 = .ok (.getfield 48, 3) := by decide +kernel
theorem dX9_letterByList_23 : decode cX9_letterByList 23 = .ok (.iload_n 1, 1) := by decide +kernel
theorem dX9_letterByList_24 : decode cX9_letterByList 24 = .ok (.iaload, 1) := by decide +kernel
theorem dX9_letterByList_25 : decode cX9_letterByList 25 = .ok (.aload_n 0, 1) := by decide +kernel
theorem dX9_letterByList_26 : decode cX9_letterByList 26 = .ok (.getfield 51, 3) := by decide +kernel
theorem dX9_letterByList_29 : decode cX9_letterByList 29 = .ok (.iload_n 1, 1) := by decide +kernel
theorem dX9_letterByList_30 : decode cX9_letterByList 30 = .ok (.iaload, 1) := by decide +kernel
theorem dX9_letterByList_31 : decode cX9_letterByList 31 = .ok (.aload_n 0, 1) := by decide +kernel
theorem dX9_letterByList_32 : decode cX9_letterByList 32 = .ok (.getfield 54, 3) := by decide +kernel
theorem dX9_letterByList_35 : decode cX9_letterByList 35 = .ok (.iload_n 1, 1) := by decide +kernel
theorem dX9_letterByList_36 : decode cX9_letterByList 36 = .ok (.iaload, 1) := by decide +kernel
theorem dX9_letterByList_37 : decode cX9_letterByList 37 = .ok (.invokevirtual 143, 3) := by decide +kernel
theorem dX9_letterByList_40 : decode cX9_letterByList 40 = .ok (.ireturn, 1) := by decide +kernel
theorem dX9_minuteOf_0 : decode cX9_minuteOf 0 = .ok (.aload_n 0, 1) := by decide +kernel
theorem dX9_minuteOf_1 : decode cX9_minuteOf 1 = .ok (.iload_n 1, 1) := by decide +kernel
theorem dX9_minuteOf_2 : decode cX9_minuteOf 2 = .ok (.invokevirtual 162, 3) := by decide +kernel
theorem dX9_minuteOf_5 : decode cX9_minuteOf 5 = .ok (.ifCond .eq 7, 3) := by decide +kernel
theorem dX9_minuteOf_8 : decode cX9_minuteOf 8 = .ok (.iconst 0, 1) := by decide +kernel
theorem dX9_minuteOf_9 : decode cX9_minuteOf 9 = .ok (.goto 9, 3) := by decide +kernel
theorem dX9_minuteOf_12 : decode cX9_minuteOf 12 = .ok (.aload_n 0, 1) := by decide +kernel
theorem dX9_minuteOf_13 : decode cX9_minuteOf 13 = .ok (.getfield 54, 3) := by decide +kernel
theorem dX9_minuteOf_16 : decode cX9_minuteOf 16 = .ok (.iload_n 1, 1) := by decide +kernel
theorem dX9_minuteOf_17 : decode cX9_minuteOf 17 = .ok (.iaload, 1) := by decide +kernel
theorem dX9_minuteOf_18 : decode cX9_minuteOf 18 = .ok (.ireturn, 1) := by decide +kernel
theorem dX9_versionAt_0 : decode cX9_versionAt 0 = .ok (.aload_n 0, 1) := by decide +kernel
theorem dX9_versionAt_1 : decode cX9_versionAt 1 = .ok (.iload_n 1, 1) := by decide +kernel
theorem dX9_versionAt_2 : decode cX9_versionAt 2 = .ok (.invokevirtual 162, 3) := by decide +kernel
theorem dX9_versionAt_5 : decode cX9_versionAt 5 = .ok (.ifCond .eq 7, 3) := by decide +kernel
theorem dX9_versionAt_8 : decode cX9_versionAt 8 = .ok (.iconst 0, 1) := by decide +kernel
theorem dX9_versionAt_9 : decode cX9_versionAt 9 = .ok (.goto 9, 3) := by decide +kernel
theorem dX9_versionAt_12 : decode cX9_versionAt 12 = .ok (.aload_n 0, 1) := by decide +kernel
theorem dX9_versionAt_13 : decode cX9_versionAt 13 = .ok (.getfield 57, 3) := by decide +kernel
theorem dX9_versionAt_16 : decode cX9_versionAt 16 = .ok (.iload_n 1, 1) := by decide +kernel
theorem dX9_versionAt_17 : decode cX9_versionAt 17 = .ok (.iaload, 1) := by decide +kernel
theorem dX9_versionAt_18 : decode cX9_versionAt 18 = .ok (.ireturn, 1) := by decide +kernel
theorem dX9_hasArrived_0 : decode cX9_hasArrived 0 = .ok (.aload_n 0, 1) := by decide +kernel
theorem dX9_hasArrived_1 : decode cX9_hasArrived 1 = .ok (.iload_n 1, 1) := by decide +kernel
theorem dX9_hasArrived_2 : decode cX9_hasArrived 2 = .ok (.invokevirtual 162, 3) := by decide +kernel
theorem dX9_hasArrived_5 : decode cX9_hasArrived 5 = .ok (.ifCond .ne 16, 3) := by decide +kernel
theorem dX9_hasArrived_8 : decode cX9_hasArrived 8 = .ok (.aload_n 0, 1) := by decide +kernel
theorem dX9_hasArrived_9 : decode cX9_hasArrived 9 = .ok (.getfield 66, 3) := by decide +kernel
theorem dX9_hasArrived_12 : decode cX9_hasArrived 12 = .ok (.iload_n 1, 1) := by decide +kernel
theorem dX9_hasArrived_13 : decode cX9_hasArrived 13 = .ok (.iaload, 1) := by decide +kernel
theorem dX9_hasArrived_14 : decode cX9_hasArrived 14 = .ok (.ifCond .lt 7, 3) := by decide +kernel
theorem dX9_hasArrived_17 : decode cX9_hasArrived 17 = .ok (.iconst 1, 1) := by decide +kernel
theorem dX9_hasArrived_18 : decode cX9_hasArrived 18 = .ok (.goto 4, 3) := by decide +kernel
theorem dX9_hasArrived_21 : decode cX9_hasArrived 21 = .ok (.iconst 0, 1) := by decide +kernel
theorem dX9_hasArrived_22 : decode cX9_hasArrived 22 = .ok (.ireturn, 1) := by decide +kernel
theorem dX9_isBroken_0 : decode cX9_isBroken 0 = .ok (.aload_n 0, 1) := by decide +kernel
theorem dX9_isBroken_1 : decode cX9_isBroken 1 = .ok (.getfield 69, 3) := by decide +kernel
theorem dX9_isBroken_4 : decode cX9_isBroken 4 = .ok (.iload_n 1, 1) := by decide +kernel
theorem dX9_isBroken_5 : decode cX9_isBroken 5 = .ok (.caload, 1) := by decide +kernel
theorem dX9_isBroken_6 : decode cX9_isBroken 6 = .ok (.bipush 111, 2) := by decide +kernel
theorem dX9_isBroken_8 : decode cX9_isBroken 8 = .ok (.if_icmp .ne 12, 3) := by decide +kernel
theorem dX9_isBroken_11 : decode cX9_isBroken 11 = .ok (.aload_n 0, 1) := by decide +kernel
theorem dX9_isBroken_12 : decode cX9_isBroken 12 = .ok (.getfield 66, 3) := by decide +kernel
theorem dX9_isBroken_15 : decode cX9_isBroken 15 = .ok (.iload_n 1, 1) := by decide +kernel
theorem dX9_isBroken_16 : decode cX9_isBroken 16 = .ok (.iaload, 1) := by decide +kernel
theorem dX9_isBroken_17 : decode cX9_isBroken 17 = .ok (.ifCond .ge 5, 3) := by decide +kernel
theorem dX9_isBroken_20 : decode cX9_isBroken 20 = .ok (.iconst 0, 1) := by decide +kernel
theorem dX9_isBroken_21 : decode cX9_isBroken 21 = .ok (.ireturn, 1) := by decide +kernel
theorem dX9_isBroken_22 : decode cX9_isBroken 22 = .ok (.aload_n 0, 1) := by decide +kernel
theorem dX9_isBroken_23 : decode cX9_isBroken 23 = .ok (.getfield 77, 3) := by decide +kernel
theorem dX9_isBroken_26 : decode cX9_isBroken 26 = .ok (.istore_n 2, 1) := by decide +kernel
theorem dX9_isBroken_27 : decode cX9_isBroken 27 = .ok (.aload_n 0, 1) := by decide +kernel
theorem dX9_isBroken_28 : decode cX9_isBroken 28 = .ok (.getfield 13, 3) := by decide +kernel
theorem dX9_isBroken_31 : decode cX9_isBroken 31 = .ok (.iload_n 2, 1) := by decide +kernel
theorem dX9_isBroken_32 : decode cX9_isBroken 32 = .ok (.iaload, 1) := by decide +kernel
theorem dX9_isBroken_33 : decode cX9_isBroken 33 = .ok (.aload_n 0, 1) := by decide +kernel
theorem dX9_isBroken_34 : decode cX9_isBroken 34 = .ok (.getfield 54, 3) := by decide +kernel
theorem dX9_isBroken_37 : decode cX9_isBroken 37 = .ok (.iload_n 1, 1) := by decide +kernel
theorem dX9_isBroken_38 : decode cX9_isBroken 38 = .ok (.iaload, 1) := by decide +kernel
theorem dX9_isBroken_39 : decode cX9_isBroken 39 = .ok (.if_icmp .le 9, 3) := by decide +kernel
theorem dX9_isBroken_42 : decode cX9_isBroken 42 = .ok (.iinc 2 (-1), 3) := by decide +kernel
theorem dX9_isBroken_45 : decode cX9_isBroken 45 = .ok (.goto (-18), 3) := by decide +kernel
theorem dX9_isBroken_48 : decode cX9_isBroken 48 = .ok (.aload_n 0, 1) := by decide +kernel
theorem dX9_isBroken_49 : decode cX9_isBroken 49 = .ok (.iload_n 2, 1) := by decide +kernel
theorem dX9_isBroken_50 : decode cX9_isBroken 50 = .ok (.aload_n 0, 1) := by decide +kernel
theorem dX9_isBroken_51 : decode cX9_isBroken 51 = .ok (.getfield 48, 3) := by decide +kernel
theorem dX9_isBroken_54 : decode cX9_isBroken 54 = .ok (.iload_n 1, 1) := by decide +kernel
theorem dX9_isBroken_55 : decode cX9_isBroken 55 = .ok (.iaload, 1) := by decide +kernel
theorem dX9_isBroken_56 : decode cX9_isBroken 56 = .ok (.aload_n 0, 1) := by decide +kernel
theorem dX9_isBroken_57 : decode cX9_isBroken 57 = .ok (.getfield 51, 3) := by decide +kernel
theorem dX9_isBroken_60 : decode cX9_isBroken 60 = .ok (.iload_n 1, 1) := by decide +kernel
theorem dX9_isBroken_61 : decode cX9_isBroken 61 = .ok (.iaload, 1) := by decide +kernel
theorem dX9_isBroken_62 : decode cX9_isBroken 62 = .ok (.aload_n 0, 1) := by decide +kernel
theorem dX9_isBroken_63 : decode cX9_isBroken 63 = .ok (.getfield 54, 3) := by decide +kernel
theorem dX9_isBroken_66 : decode cX9_isBroken 66 = .ok (.iload_n 1, 1) := by decide +kernel
theorem dX9_isBroken_67 : decode cX9_isBroken 67 = .ok (.iaload, 1) := by decide +kernel
theorem dX9_isBroken_68 : decode cX9_isBroken 68 = .ok (.invokevirtual 143, 3) := by decide +kernel
theorem dX9_isBroken_71 : decode cX9_isBroken 71 = .ok (.bipush 111, 2) := by decide +kernel
theorem dX9_isBroken_73 : decode cX9_isBroken 73 = .ok (.if_icmp .eq 7, 3) := by decide +kernel
theorem dX9_isBroken_76 : decode cX9_isBroken 76 = .ok (.iconst 1, 1) := by decide +kernel
theorem dX9_isBroken_77 : decode cX9_isBroken 77 = .ok (.goto 4, 3) := by decide +kernel
theorem dX9_isBroken_80 : decode cX9_isBroken 80 = .ok (.iconst 0, 1) := by decide +kernel
theorem dX9_isBroken_81 : decode cX9_isBroken 81 = .ok (.ireturn, 1) := by decide +kernel
theorem dX9_isBreach_0 : decode cX9_isBreach 0 = .ok (.aload_n 0, 1) := by decide +kernel
theorem dX9_isBreach_1 : decode cX9_isBreach 1 = .ok (.iload_n 1, 1) := by decide +kernel
theorem dX9_isBreach_2 : decode cX9_isBreach 2 = .ok (.invokevirtual 162, 3) := by decide +kernel
theorem dX9_isBreach_5 : decode cX9_isBreach 5 = .ok (.ifCond .ne 15, 3) := by decide +kernel
theorem dX9_isBreach_8 : decode cX9_isBreach 8 = .ok (.aload_n 0, 1) := by decide +kernel
theorem dX9_isBreach_9 : decode cX9_isBreach 9 = .ok (.iload_n 1, 1) := by decide +kernel
theorem dX9_isBreach_10 : decode cX9_isBreach 10 = .ok (.invokevirtual 165, 3) := by decide +kernel
theorem dX9_isBreach_13 : decode cX9_isBreach 13 = .ok (.ifCond .eq 7, 3) := by decide +kernel
theorem dX9_isBreach_16 : decode cX9_isBreach 16 = .ok (.iconst 1, 1) := by decide +kernel
theorem dX9_isBreach_17 : decode cX9_isBreach 17 = .ok (.goto 4, 3) := by decide +kernel
theorem dX9_isBreach_20 : decode cX9_isBreach 20 = .ok (.iconst 0, 1) := by decide +kernel
theorem dX9_isBreach_21 : decode cX9_isBreach 21 = .ok (.ireturn, 1) := by decide +kernel
theorem dX9_breaches_0 : decode cX9_breaches 0 = .ok (.aload_n 0, 1) := by decide +kernel
theorem dX9_breaches_1 : decode cX9_breaches 1 = .ok (.iconst 0, 1) := by decide +kernel
theorem dX9_breaches_2 : decode cX9_breaches 2 = .ok (.putfield 73, 3) := by decide +kernel
theorem dX9_breaches_5 : decode cX9_breaches 5 = .ok (.iconst 0, 1) := by decide +kernel
theorem dX9_breaches_6 : decode cX9_breaches 6 = .ok (.istore_n 1, 1) := by decide +kernel
theorem dX9_breaches_7 : decode cX9_breaches 7 = .ok (.iconst 0, 1) := by decide +kernel
theorem dX9_breaches_8 : decode cX9_breaches 8 = .ok (.istore_n 2, 1) := by decide +kernel
theorem dX9_breaches_9 : decode cX9_breaches 9 = .ok (.iload_n 2, 1) := by decide +kernel
theorem dX9_breaches_10 : decode cX9_breaches 10 = .ok (.aload_n 0, 1) := by decide +kernel
theorem dX9_breaches_11 : decode cX9_breaches 11 = .ok (.getfield 90, 3) := by decide +kernel
theorem dX9_breaches_14 : decode cX9_breaches 14 = .ok (.if_icmp .ge 25, 3) := by decide +kernel
theorem dX9_breaches_17 : decode cX9_breaches 17 = .ok (.iload_n 1, 1) := by decide +kernel
theorem dX9_breaches_18 : decode cX9_breaches 18 = .ok (.aload_n 0, 1) := by decide +kernel
theorem dX9_breaches_19 : decode cX9_breaches 19 = .ok (.iload_n 2, 1) := by decide +kernel
theorem dX9_breaches_20 : decode cX9_breaches 20 = .ok (.invokevirtual 165, 3) := by decide +kernel
theorem dX9_breaches_23 : decode cX9_breaches 23 = .ok (.ifCond .eq 7, 3) := by decide +kernel
theorem dX9_breaches_26 : decode cX9_breaches 26 = .ok (.iconst 1, 1) := by decide +kernel
theorem dX9_breaches_27 : decode cX9_breaches 27 = .ok (.goto 4, 3) := by decide +kernel
theorem dX9_breaches_30 : decode cX9_breaches 30 = .ok (.iconst 0, 1) := by decide +kernel
theorem dX9_breaches_31 : decode cX9_breaches 31 = .ok (.iadd, 1) := by decide +kernel
theorem dX9_breaches_32 : decode cX9_breaches 32 = .ok (.istore_n 1, 1) := by decide +kernel
theorem dX9_breaches_33 : decode cX9_breaches 33 = .ok (.iinc 2 1, 3) := by decide +kernel
theorem dX9_breaches_36 : decode cX9_breaches 36 = .ok (.goto (-27), 3) := by decide +kernel
theorem dX9_breaches_39 : decode cX9_breaches 39 = .ok (.iload_n 1, 1) := by decide +kernel
theorem dX9_breaches_40 : decode cX9_breaches 40 = .ok (.ireturn, 1) := by decide +kernel
theorem dX9_breachesAt_0 : decode cX9_breachesAt 0 = .ok (.aload_n 0, 1) := by decide +kernel
theorem dX9_breachesAt_1 : decode cX9_breachesAt 1 = .ok (.iload_n 1, 1) := by decide +kernel
theorem dX9_breachesAt_2 : decode cX9_breachesAt 2 = .ok (.invokevirtual 147, 3) := by decide +kernel
theorem dX9_breachesAt_5 : decode cX9_breachesAt 5 = .ok (.ifCond .eq 5, 3) := by decide +kernel
theorem dX9_breachesAt_8 : decode cX9_breachesAt 8 = .ok (.iconst 0, 1) := by decide +kernel
theorem dX9_breachesAt_9 : decode cX9_breachesAt 9 = .ok (.ireturn, 1) := by decide +kernel
theorem dX9_breachesAt_10 : decode cX9_breachesAt 10 = .ok (.iconst 0, 1) := by decide +kernel
theorem dX9_breachesAt_11 : decode cX9_breachesAt 11 = .ok (.istore_n 2, 1) := by decide +kernel
theorem dX9_breachesAt_12 : decode cX9_breachesAt 12 = .ok (.iconst 0, 1) := by decide +kernel
theorem dX9_breachesAt_13 : decode cX9_breachesAt 13 = .ok (.istore_n 3, 1) := by decide +kernel
theorem dX9_breachesAt_14 : decode cX9_breachesAt 14 = .ok (.iload_n 3, 1) := by decide +kernel
theorem dX9_breachesAt_15 : decode cX9_breachesAt 15 = .ok (.aload_n 0, 1) := by decide +kernel
theorem dX9_breachesAt_16 : decode cX9_breachesAt 16 = .ok (.getfield 90, 3) := by decide +kernel
theorem dX9_breachesAt_19 : decode cX9_breachesAt 19 = .ok (.if_icmp .ge 35, 3) := by decide +kernel
theorem dX9_breachesAt_22 : decode cX9_breachesAt 22 = .ok (.iload_n 2, 1) := by decide +kernel
theorem dX9_breachesAt_23 : decode cX9_breachesAt 23 = .ok (.aload_n 0, 1) := by decide +kernel
theorem dX9_breachesAt_24 : decode cX9_breachesAt 24 = .ok (.getfield 48, 3) := by decide +kernel
theorem dX9_breachesAt_27 : decode cX9_breachesAt 27 = .ok (.iload_n 3, 1) := by decide +kernel
theorem dX9_breachesAt_28 : decode cX9_breachesAt 28 = .ok (.iaload, 1) := by decide +kernel
theorem dX9_breachesAt_29 : decode cX9_breachesAt 29 = .ok (.iload_n 1, 1) := by decide +kernel
theorem dX9_breachesAt_30 : decode cX9_breachesAt 30 = .ok (.if_icmp .ne 15, 3) := by decide +kernel
theorem dX9_breachesAt_33 : decode cX9_breachesAt 33 = .ok (.aload_n 0, 1) := by decide +kernel
theorem dX9_breachesAt_34 : decode cX9_breachesAt 34 = .ok (.iload_n 3, 1) := by decide +kernel
theorem dX9_breachesAt_35 : decode cX9_breachesAt 35 = .ok (.invokevirtual 165, 3) := by decide +kernel
theorem dX9_breachesAt_38 : decode cX9_breachesAt 38 = .ok (.ifCond .eq 7, 3) := by decide +kernel
theorem dX9_breachesAt_41 : decode cX9_breachesAt 41 = .ok (.iconst 1, 1) := by decide +kernel
theorem dX9_breachesAt_42 : decode cX9_breachesAt 42 = .ok (.goto 4, 3) := by decide +kernel
theorem dX9_breachesAt_45 : decode cX9_breachesAt 45 = .ok (.iconst 0, 1) := by decide +kernel
theorem dX9_breachesAt_46 : decode cX9_breachesAt 46 = .ok (.iadd, 1) := by decide +kernel
theorem dX9_breachesAt_47 : decode cX9_breachesAt 47 = .ok (.istore_n 2, 1) := by decide +kernel
theorem dX9_breachesAt_48 : decode cX9_breachesAt 48 = .ok (.iinc 3 1, 3) := by decide +kernel
theorem dX9_breachesAt_51 : decode cX9_breachesAt 51 = .ok (.goto (-37), 3) := by decide +kernel
theorem dX9_breachesAt_54 : decode cX9_breachesAt 54 = .ok (.iload_n 2, 1) := by decide +kernel
theorem dX9_breachesAt_55 : decode cX9_breachesAt 55 = .ok (.ireturn, 1) := by decide +kernel
theorem dX9_arrivedMany_0 : decode cX9_arrivedMany 0 = .ok (.iconst 0, 1) := by decide +kernel
theorem dX9_arrivedMany_1 : decode cX9_arrivedMany 1 = .ok (.istore_n 1, 1) := by decide +kernel
theorem dX9_arrivedMany_2 : decode cX9_arrivedMany 2 = .ok (.iconst 0, 1) := by decide +kernel
theorem dX9_arrivedMany_3 : decode cX9_arrivedMany 3 = .ok (.istore_n 2, 1) := by decide +kernel
theorem dX9_arrivedMany_4 : decode cX9_arrivedMany 4 = .ok (.iload_n 2, 1) := by decide +kernel
theorem dX9_arrivedMany_5 : decode cX9_arrivedMany 5 = .ok (.aload_n 0, 1) := by decide +kernel
theorem dX9_arrivedMany_6 : decode cX9_arrivedMany 6 = .ok (.getfield 90, 3) := by decide +kernel
theorem dX9_arrivedMany_9 : decode cX9_arrivedMany 9 = .ok (.if_icmp .ge 26, 3) := by decide +kernel
theorem dX9_arrivedMany_12 : decode cX9_arrivedMany 12 = .ok (.iload_n 1, 1) := by decide +kernel
theorem dX9_arrivedMany_13 : decode cX9_arrivedMany 13 = .ok (.aload_n 0, 1) := by decide +kernel
theorem dX9_arrivedMany_14 : decode cX9_arrivedMany 14 = .ok (.getfield 66, 3) := by decide +kernel
theorem dX9_arrivedMany_17 : decode cX9_arrivedMany 17 = .ok (.iload_n 2, 1) := by decide +kernel
theorem dX9_arrivedMany_18 : decode cX9_arrivedMany 18 = .ok (.iaload, 1) := by decide +kernel
theorem dX9_arrivedMany_19 : decode cX9_arrivedMany 19 = .ok (.ifCond .lt 7, 3) := by decide +kernel
theorem dX9_arrivedMany_22 : decode cX9_arrivedMany 22 = .ok (.iconst 1, 1) := by decide +kernel
theorem dX9_arrivedMany_23 : decode cX9_arrivedMany 23 = .ok (.goto 4, 3) := by decide +kernel
theorem dX9_arrivedMany_26 : decode cX9_arrivedMany 26 = .ok (.iconst 0, 1) := by decide +kernel
theorem dX9_arrivedMany_27 : decode cX9_arrivedMany 27 = .ok (.iadd, 1) := by decide +kernel
theorem dX9_arrivedMany_28 : decode cX9_arrivedMany 28 = .ok (.istore_n 1, 1) := by decide +kernel
theorem dX9_arrivedMany_29 : decode cX9_arrivedMany 29 = .ok (.iinc 2 1, 3) := by decide +kernel
theorem dX9_arrivedMany_32 : decode cX9_arrivedMany 32 = .ok (.goto (-28), 3) := by decide +kernel
theorem dX9_arrivedMany_35 : decode cX9_arrivedMany 35 = .ok (.iload_n 1, 1) := by decide +kernel
theorem dX9_arrivedMany_36 : decode cX9_arrivedMany 36 = .ok (.ireturn, 1) := by decide +kernel
theorem dX9_delaySum_0 : decode cX9_delaySum 0 = .ok (.lconst 0, 1) := by decide +kernel
theorem dX9_delaySum_1 : decode cX9_delaySum 1 = .ok (.lstore_n 1, 1) := by decide +kernel
theorem dX9_delaySum_2 : decode cX9_delaySum 2 = .ok (.iconst 0, 1) := by decide +kernel
theorem dX9_delaySum_3 : decode cX9_delaySum 3 = .ok (.istore_n 3, 1) := by decide +kernel
theorem dX9_delaySum_4 : decode cX9_delaySum 4 = .ok (.iload_n 3, 1) := by decide +kernel
theorem dX9_delaySum_5 : decode cX9_delaySum 5 = .ok (.aload_n 0, 1) := by decide +kernel
theorem dX9_delaySum_6 : decode cX9_delaySum 6 = .ok (.getfield 90, 3) := by decide +kernel
theorem dX9_delaySum_9 : decode cX9_delaySum 9 = .ok (.if_icmp .ge 39, 3) := by decide +kernel
theorem dX9_delaySum_12 : decode cX9_delaySum 12 = .ok (.lload_n 1, 1) := by decide +kernel
theorem dX9_delaySum_13 : decode cX9_delaySum 13 = .ok (.aload_n 0, 1) := by decide +kernel
theorem dX9_delaySum_14 : decode cX9_delaySum 14 = .ok (.getfield 66, 3) := by decide +kernel
theorem dX9_delaySum_17 : decode cX9_delaySum 17 = .ok (.iload_n 3, 1) := by decide +kernel
theorem dX9_delaySum_18 : decode cX9_delaySum 18 = .ok (.iaload, 1) := by decide +kernel
theorem dX9_delaySum_19 : decode cX9_delaySum 19 = .ok (.ifCond .lt 20, 3) := by decide +kernel
theorem dX9_delaySum_22 : decode cX9_delaySum 22 = .ok (.aload_n 0, 1) := by decide +kernel
theorem dX9_delaySum_23 : decode cX9_delaySum 23 = .ok (.getfield 66, 3) := by decide +kernel
theorem dX9_delaySum_26 : decode cX9_delaySum 26 = .ok (.iload_n 3, 1) := by decide +kernel
theorem dX9_delaySum_27 : decode cX9_delaySum 27 = .ok (.iaload, 1) := by decide +kernel
theorem dX9_delaySum_28 : decode cX9_delaySum 28 = .ok (.aload_n 0, 1) := by decide +kernel
theorem dX9_delaySum_29 : decode cX9_delaySum 29 = .ok (.getfield 60, 3) := by decide +kernel
theorem dX9_delaySum_32 : decode cX9_delaySum 32 = .ok (.iload_n 3, 1) := by decide +kernel
theorem dX9_delaySum_33 : decode cX9_delaySum 33 = .ok (.iaload, 1) := by decide +kernel
theorem dX9_delaySum_34 : decode cX9_delaySum 34 = .ok (.isub, 1) := by decide +kernel
theorem dX9_delaySum_35 : decode cX9_delaySum 35 = .ok (.i2l, 1) := by decide +kernel
theorem dX9_delaySum_36 : decode cX9_delaySum 36 = .ok (.goto 4, 3) := by decide +kernel
theorem dX9_delaySum_39 : decode cX9_delaySum 39 = .ok (.lconst 0, 1) := by decide +kernel
theorem dX9_delaySum_40 : decode cX9_delaySum 40 = .ok (.ladd, 1) := by decide +kernel
theorem dX9_delaySum_41 : decode cX9_delaySum 41 = .ok (.lstore_n 1, 1) := by decide +kernel
theorem dX9_delaySum_42 : decode cX9_delaySum 42 = .ok (.iinc 3 1, 3) := by decide +kernel
theorem dX9_delaySum_45 : decode cX9_delaySum 45 = .ok (.goto (-41), 3) := by decide +kernel
theorem dX9_delaySum_48 : decode cX9_delaySum 48 = .ok (.lload_n 1, 1) := by decide +kernel
theorem dX9_delaySum_49 : decode cX9_delaySum 49 = .ok (.lreturn, 1) := by decide +kernel
theorem dX9_delays_0 : decode cX9_delays 0 = .ok (.aload_n 0, 1) := by decide +kernel
theorem dX9_delays_1 : decode cX9_delays 1 = .ok (.iconst 0, 1) := by decide +kernel
theorem dX9_delays_2 : decode cX9_delays 2 = .ok (.putfield 73, 3) := by decide +kernel
theorem dX9_delays_5 : decode cX9_delays 5 = .ok (.aload_n 0, 1) := by decide +kernel
theorem dX9_delays_6 : decode cX9_delays 6 = .ok (.invokevirtual 168, 3) := by decide +kernel
theorem dX9_delays_9 : decode cX9_delays 9 = .ok (.lreturn, 1) := by decide +kernel
theorem dX9_mean_0 : decode cX9_mean 0 = .ok (.aload_n 0, 1) := by decide +kernel
theorem dX9_mean_1 : decode cX9_mean 1 = .ok (.invokevirtual 172, 3) := by decide +kernel
theorem dX9_mean_4 : decode cX9_mean 4 = .ok (.ifCond .ne 12, 3) := by decide +kernel
theorem dX9_mean_7 : decode cX9_mean 7 = .ok (.aload_n 0, 1) := by decide +kernel
theorem dX9_mean_8 : decode cX9_mean 8 = .ok (.iconst 1, 1) := by decide +kernel
theorem dX9_mean_9 : decode cX9_mean 9 = .ok (.invokevirtual 102, 3) := by decide +kernel
theorem dX9_mean_12 : decode cX9_mean 12 = .ok (.i2d, 1) := by decide +kernel
theorem dX9_mean_13 : decode cX9_mean 13 = .ok (.goto 14, 3) := by decide +kernel
theorem dX9_mean_16 : decode cX9_mean 16 = .ok (.aload_n 0, 1) := by decide +kernel
theorem dX9_mean_17 : decode cX9_mean 17 = .ok (.invokevirtual 168, 3) := by decide +kernel
theorem dX9_mean_20 : decode cX9_mean 20 = .ok (.l2d, 1) := by decide +kernel
theorem dX9_mean_21 : decode cX9_mean 21 = .ok (.aload_n 0, 1) := by decide +kernel
theorem dX9_mean_22 : decode cX9_mean 22 = .ok (.invokevirtual 172, 3) := by decide +kernel
theorem dX9_mean_25 : decode cX9_mean 25 = .ok (.i2d, 1) := by decide +kernel
theorem dX9_mean_26 : decode cX9_mean 26 = .ok (.ddiv, 1) := by decide +kernel
theorem dX9_mean_27 : decode cX9_mean 27 = .ok (.dreturn, 1) := by decide +kernel
theorem dX9_meanDelay_0 : decode cX9_meanDelay 0 = .ok (.aload_n 0, 1) := by decide +kernel
theorem dX9_meanDelay_1 : decode cX9_meanDelay 1 = .ok (.iconst 0, 1) := by decide +kernel
theorem dX9_meanDelay_2 : decode cX9_meanDelay 2 = .ok (.putfield 73, 3) := by decide +kernel
theorem dX9_meanDelay_5 : decode cX9_meanDelay 5 = .ok (.aload_n 0, 1) := by decide +kernel
theorem dX9_meanDelay_6 : decode cX9_meanDelay 6 = .ok (.invokevirtual 176, 3) := by decide +kernel
theorem dX9_meanDelay_9 : decode cX9_meanDelay 9 = .ok (.dreturn, 1) := by decide +kernel
theorem dX9_meanBits_0 : decode cX9_meanBits 0 = .ok (.aload_n 0, 1) := by decide +kernel
theorem dX9_meanBits_1 : decode cX9_meanBits 1 = .ok (.iconst 0, 1) := by decide +kernel
theorem dX9_meanBits_2 : decode cX9_meanBits 2 = .ok (.putfield 73, 3) := by decide +kernel
theorem dX9_meanBits_5 : decode cX9_meanBits 5 = .ok (.aload_n 0, 1) := by decide +kernel
theorem dX9_meanBits_6 : decode cX9_meanBits 6 = .ok (.invokevirtual 176, 3) := by decide +kernel
theorem dX9_meanBits_9 : decode cX9_meanBits 9 = .ok (.invokestatic 180, 3) := by decide +kernel
theorem dX9_meanBits_12 : decode cX9_meanBits 12 = .ok (.lreturn, 1) := by decide +kernel
theorem dX9_arrivedShare_0 : decode cX9_arrivedShare 0 = .ok (.aload_n 0, 1) := by decide +kernel
theorem dX9_arrivedShare_1 : decode cX9_arrivedShare 1 = .ok (.iconst 0, 1) := by decide +kernel
theorem dX9_arrivedShare_2 : decode cX9_arrivedShare 2 = .ok (.putfield 73, 3) := by decide +kernel
theorem dX9_arrivedShare_5 : decode cX9_arrivedShare 5 = .ok (.aload_n 0, 1) := by decide +kernel
theorem dX9_arrivedShare_6 : decode cX9_arrivedShare 6 = .ok (.getfield 90, 3) := by decide +kernel
theorem dX9_arrivedShare_9 : decode cX9_arrivedShare 9 = .ok (.ifCond .ne 12, 3) := by decide +kernel
theorem dX9_arrivedShare_12 : decode cX9_arrivedShare 12 = .ok (.aload_n 0, 1) := by decide +kernel
theorem dX9_arrivedShare_13 : decode cX9_arrivedShare 13 = .ok (.iconst 1, 1) := by decide +kernel
theorem dX9_arrivedShare_14 : decode cX9_arrivedShare 14 = .ok (.invokevirtual 102, 3) := by decide +kernel
theorem dX9_arrivedShare_17 : decode cX9_arrivedShare 17 = .ok (.i2f, 1) := by decide +kernel
theorem dX9_arrivedShare_18 : decode cX9_arrivedShare 18 = .ok (.goto 14, 3) := by decide +kernel
theorem dX9_arrivedShare_21 : decode cX9_arrivedShare 21 = .ok (.aload_n 0, 1) := by decide +kernel
theorem dX9_arrivedShare_22 : decode cX9_arrivedShare 22 = .ok (.invokevirtual 172, 3) := by decide +kernel
theorem dX9_arrivedShare_25 : decode cX9_arrivedShare 25 = .ok (.i2f, 1) := by decide +kernel
theorem dX9_arrivedShare_26 : decode cX9_arrivedShare 26 = .ok (.aload_n 0, 1) := by decide +kernel
theorem dX9_arrivedShare_27 : decode cX9_arrivedShare 27 = .ok (.getfield 90, 3) := by decide +kernel
theorem dX9_arrivedShare_30 : decode cX9_arrivedShare 30 = .ok (.i2f, 1) := by decide +kernel
theorem dX9_arrivedShare_31 : decode cX9_arrivedShare 31 = .ok (.fdiv, 1) := by decide +kernel
theorem dX9_arrivedShare_32 : decode cX9_arrivedShare 32 = .ok (.freturn, 1) := by decide +kernel
theorem dX9_isSound_0 : decode cX9_isSound 0 = .ok (.aload_n 0, 1) := by decide +kernel
theorem dX9_isSound_1 : decode cX9_isSound 1 = .ok (.iconst 0, 1) := by decide +kernel
theorem dX9_isSound_2 : decode cX9_isSound 2 = .ok (.putfield 73, 3) := by decide +kernel
theorem dX9_isSound_5 : decode cX9_isSound 5 = .ok (.iconst 1, 1) := by decide +kernel
theorem dX9_isSound_6 : decode cX9_isSound 6 = .ok (.ireturn, 1) := by decide +kernel
theorem dJx00060_init_a7421_0 : decode cJx00060_init_a7421 0 = .ok (.aload_n 0, 1) := by decide +kernel
theorem dJx00060_init_a7421_1 : decode cJx00060_init_a7421 1 = .ok (.aload_n 1, 1) := by decide +kernel
theorem dJx00060_init_a7421_2 : decode cJx00060_init_a7421 2 = .ok (.invokespecial 7, 3) := by decide +kernel
theorem dJx00060_init_a7421_5 : decode cJx00060_init_a7421 5 = .ok (.return_, 1) := by decide +kernel
theorem dJxe99ae_isNaN_b9ae7_0 : decode cJxe99ae_isNaN_b9ae7 0 = .ok (.dload_n 0, 1) := by decide +kernel
theorem dJxe99ae_isNaN_b9ae7_1 : decode cJxe99ae_isNaN_b9ae7 1 = .ok (.dload_n 0, 1) := by decide +kernel
theorem dJxe99ae_isNaN_b9ae7_2 : decode cJxe99ae_isNaN_b9ae7 2 = .ok (.dcmp .l, 1) := by decide +kernel
theorem dJxe99ae_isNaN_b9ae7_3 : decode cJxe99ae_isNaN_b9ae7 3 = .ok (.ifCond .eq 7, 3) := by decide +kernel
theorem dJxe99ae_isNaN_b9ae7_6 : decode cJxe99ae_isNaN_b9ae7 6 = .ok (.iconst 1, 1) := by decide +kernel
theorem dJxe99ae_isNaN_b9ae7_7 : decode cJxe99ae_isNaN_b9ae7 7 = .ok (.goto 4, 3) := by decide +kernel
theorem dJxe99ae_isNaN_b9ae7_10 : decode cJxe99ae_isNaN_b9ae7 10 = .ok (.iconst 0, 1) := by decide +kernel
theorem dJxe99ae_isNaN_b9ae7_11 : decode cJxe99ae_isNaN_b9ae7 11 = .ok (.ireturn, 1) := by decide +kernel
theorem dJxe99ae_doubleToLongBits_ccdee_0 : decode cJxe99ae_doubleToLongBits_ccdee 0 = .ok (.dload_n 0, 1) := by decide +kernel
theorem dJxe99ae_doubleToLongBits_ccdee_1 : decode cJxe99ae_doubleToLongBits_ccdee 1 = .ok (.invokestatic 122, 3) := by decide +kernel
theorem dJxe99ae_doubleToLongBits_ccdee_4 : decode cJxe99ae_doubleToLongBits_ccdee 4 = .ok (.ifCond .ne 8, 3) := by decide +kernel
theorem dJxe99ae_doubleToLongBits_ccdee_7 : decode cJxe99ae_doubleToLongBits_ccdee 7 = .ok (.dload_n 0, 1) := by decide +kernel
theorem dJxe99ae_doubleToLongBits_ccdee_8 : decode cJxe99ae_doubleToLongBits_ccdee 8 = .ok (.invokestatic 134, 3) := by decide +kernel
theorem dJxe99ae_doubleToLongBits_ccdee_11 : decode cJxe99ae_doubleToLongBits_ccdee 11 = .ok (.lreturn, 1) := by decide +kernel
theorem dJxe99ae_doubleToLongBits_ccdee_12 : decode cJxe99ae_doubleToLongBits_ccdee 12 = .ok (.ldc2_w 137, 3) := by decide +kernel
theorem dJxe99ae_doubleToLongBits_ccdee_15 : decode cJxe99ae_doubleToLongBits_ccdee 15 = .ok (.lreturn, 1) := by decide +kernel
theorem dJxf58ca_isNaN_12338_0 : decode cJxf58ca_isNaN_12338 0 = .ok (.fload_n 0, 1) := by decide +kernel
theorem dJxf58ca_isNaN_12338_1 : decode cJxf58ca_isNaN_12338 1 = .ok (.fload_n 0, 1) := by decide +kernel
theorem dJxf58ca_isNaN_12338_2 : decode cJxf58ca_isNaN_12338 2 = .ok (.fcmp .l, 1) := by decide +kernel
theorem dJxf58ca_isNaN_12338_3 : decode cJxf58ca_isNaN_12338 3 = .ok (.ifCond .eq 7, 3) := by decide +kernel
theorem dJxf58ca_isNaN_12338_6 : decode cJxf58ca_isNaN_12338 6 = .ok (.iconst 1, 1) := by decide +kernel
theorem dJxf58ca_isNaN_12338_7 : decode cJxf58ca_isNaN_12338 7 = .ok (.goto 4, 3) := by decide +kernel
theorem dJxf58ca_isNaN_12338_10 : decode cJxf58ca_isNaN_12338 10 = .ok (.iconst 0, 1) := by decide +kernel
theorem dJxf58ca_isNaN_12338_11 : decode cJxf58ca_isNaN_12338 11 = .ok (.ireturn, 1) := by decide +kernel
theorem dJxf58ca_floatToIntBits_5c35a_0 : decode cJxf58ca_floatToIntBits_5c35a 0 = .ok (.fload_n 0, 1) := by decide +kernel
theorem dJxf58ca_floatToIntBits_5c35a_1 : decode cJxf58ca_floatToIntBits_5c35a 1 = .ok (.invokestatic 59, 3) := by decide +kernel
theorem dJxf58ca_floatToIntBits_5c35a_4 : decode cJxf58ca_floatToIntBits_5c35a 4 = .ok (.ifCond .ne 8, 3) := by decide +kernel
theorem dJxf58ca_floatToIntBits_5c35a_7 : decode cJxf58ca_floatToIntBits_5c35a 7 = .ok (.fload_n 0, 1) := by decide +kernel
theorem dJxf58ca_floatToIntBits_5c35a_8 : decode cJxf58ca_floatToIntBits_5c35a 8 = .ok (.invokestatic 74, 3) := by decide +kernel
theorem dJxf58ca_floatToIntBits_5c35a_11 : decode cJxf58ca_floatToIntBits_5c35a 11 = .ok (.ireturn, 1) := by decide +kernel
theorem dJxf58ca_floatToIntBits_5c35a_12 : decode cJxf58ca_floatToIntBits_5c35a 12 = .ok (.ldc 77, 2) := by decide +kernel
theorem dJxf58ca_floatToIntBits_5c35a_14 : decode cJxf58ca_floatToIntBits_5c35a 14 = .ok (.ireturn, 1) := by decide +kernel
theorem dJ9_max_7cf53_0 : decode cJ9_max_7cf53 0 = .ok (.iload_n 0, 1) := by decide +kernel
theorem dJ9_max_7cf53_1 : decode cJ9_max_7cf53 1 = .ok (.iload_n 1, 1) := by decide +kernel
theorem dJ9_max_7cf53_2 : decode cJ9_max_7cf53 2 = .ok (.if_icmp .lt 7, 3) := by decide +kernel
theorem dJ9_max_7cf53_5 : decode cJ9_max_7cf53 5 = .ok (.iload_n 0, 1) := by decide +kernel
theorem dJ9_max_7cf53_6 : decode cJ9_max_7cf53 6 = .ok (.goto 4, 3) := by decide +kernel
theorem dJ9_max_7cf53_9 : decode cJ9_max_7cf53 9 = .ok (.iload_n 1, 1) := by decide +kernel
theorem dJ9_max_7cf53_10 : decode cJ9_max_7cf53 10 = .ok (.ireturn, 1) := by decide +kernel
theorem dJ9_min_7cf53_0 : decode cJ9_min_7cf53 0 = .ok (.iload_n 0, 1) := by decide +kernel
theorem dJ9_min_7cf53_1 : decode cJ9_min_7cf53 1 = .ok (.iload_n 1, 1) := by decide +kernel
theorem dJ9_min_7cf53_2 : decode cJ9_min_7cf53 2 = .ok (.if_icmp .gt 7, 3) := by decide +kernel
theorem dJ9_min_7cf53_5 : decode cJ9_min_7cf53 5 = .ok (.iload_n 0, 1) := by decide +kernel
theorem dJ9_min_7cf53_6 : decode cJ9_min_7cf53 6 = .ok (.goto 4, 3) := by decide +kernel
theorem dJ9_min_7cf53_9 : decode cJ9_min_7cf53 9 = .ok (.iload_n 1, 1) := by decide +kernel
theorem dJ9_min_7cf53_10 : decode cJ9_min_7cf53 10 = .ok (.ireturn, 1) := by decide +kernel
theorem dJxa1e45_init_da8c8_0 : decode cJxa1e45_init_da8c8 0 = .ok (.aload_n 0, 1) := by decide +kernel
theorem dJxa1e45_init_da8c8_1 : decode cJxa1e45_init_da8c8 1 = .ok (.invokespecial 1, 3) := by decide +kernel
theorem dJxa1e45_init_da8c8_4 : decode cJxa1e45_init_da8c8 4 = .ok (.return_, 1) := by decide +kernel
theorem dJxc12de_init_da8c8_0 : decode cJxc12de_init_da8c8 0 = .ok (.aload_n 0, 1) := by decide +kernel
theorem dJxc12de_init_da8c8_1 : decode cJxc12de_init_da8c8 1 = .ok (.invokespecial 1, 3) := by decide +kernel
theorem dJxc12de_init_da8c8_4 : decode cJxc12de_init_da8c8 4 = .ok (.aload_n 0, 1) := by decide +kernel
theorem dJxc12de_init_da8c8_5 : decode cJxc12de_init_da8c8 5 = .ok (.iconst 0, 1) := by decide +kernel
theorem dJxc12de_init_da8c8_6 : decode cJxc12de_init_da8c8 6 = .ok (.putfield 7, 3) := by decide +kernel
theorem dJxc12de_init_da8c8_9 : decode cJxc12de_init_da8c8 9 = .ok (.return_, 1) := by decide +kernel
theorem dJx4a65c_init_da8c8_0 : decode cJx4a65c_init_da8c8 0 = .ok (.aload_n 0, 1) := by decide +kernel
theorem dJx4a65c_init_da8c8_1 : decode cJx4a65c_init_da8c8 1 = .ok (.invokespecial 1, 3) := by decide +kernel
theorem dJx4a65c_init_da8c8_4 : decode cJx4a65c_init_da8c8 4 = .ok (.aload_n 0, 1) := by decide +kernel
theorem dJx4a65c_init_da8c8_5 : decode cJx4a65c_init_da8c8 5 = .ok (.getstatic 39, 3) := by decide +kernel
theorem dJx4a65c_init_da8c8_8 : decode cJx4a65c_init_da8c8 8 = .ok (.putfield 9, 3) := by decide +kernel
theorem dJx4a65c_init_da8c8_11 : decode cJx4a65c_init_da8c8 11 = .ok (.return_, 1) := by decide +kernel
theorem dJx4a65c_grow_92f84_0 : decode cJx4a65c_grow_92f84 0 = .ok (.aload_n 0, 1) := by decide +kernel
theorem dJx4a65c_grow_92f84_1 : decode cJx4a65c_grow_92f84 1 = .ok (.getfield 9, 3) := by decide +kernel
theorem dJx4a65c_grow_92f84_4 : decode cJx4a65c_grow_92f84 4 = .ok (.arraylength, 1) := by decide +kernel
theorem dJx4a65c_grow_92f84_5 : decode cJx4a65c_grow_92f84 5 = .ok (.istore_n 2, 1) := by decide +kernel
theorem dJx4a65c_grow_92f84_6 : decode cJx4a65c_grow_92f84 6 = .ok (.iload_n 2, 1) := by decide +kernel
theorem dJx4a65c_grow_92f84_7 : decode cJx4a65c_grow_92f84 7 = .ok (.ifCond .gt 13, 3) := by decide +kernel
theorem dJx4a65c_grow_92f84_10 : decode cJx4a65c_grow_92f84 10 = .ok (.aload_n 0, 1) := by decide +kernel
theorem dJx4a65c_grow_92f84_11 : decode cJx4a65c_grow_92f84 11 = .ok (.getfield 9, 3) := by decide +kernel
theorem dJx4a65c_grow_92f84_14 : decode cJx4a65c_grow_92f84 14 = .ok (.getstatic 39, 3) := by decide +kernel
theorem dJx4a65c_grow_92f84_17 : decode cJx4a65c_grow_92f84 17 = .ok (.if_acmp .eq 28, 3) := by decide +kernel
theorem dJx4a65c_grow_92f84_20 : decode cJx4a65c_grow_92f84 20 = .ok (.iload_n 2, 1) := by decide +kernel
theorem dJx4a65c_grow_92f84_21 : decode cJx4a65c_grow_92f84 21 = .ok (.iload_n 1, 1) := by decide +kernel
theorem dJx4a65c_grow_92f84_22 : decode cJx4a65c_grow_92f84 22 = .ok (.iload_n 2, 1) := by decide +kernel
theorem dJx4a65c_grow_92f84_23 : decode cJx4a65c_grow_92f84 23 = .ok (.isub, 1) := by decide +kernel
theorem dJx4a65c_grow_92f84_24 : decode cJx4a65c_grow_92f84 24 = .ok (.iload_n 2, 1) := by decide +kernel
theorem dJx4a65c_grow_92f84_25 : decode cJx4a65c_grow_92f84 25 = .ok (.iconst 1, 1) := by decide +kernel
theorem dJx4a65c_grow_92f84_26 : decode cJx4a65c_grow_92f84 26 = .ok (.ishr, 1) := by decide +kernel
theorem dJx4a65c_grow_92f84_27 : decode cJx4a65c_grow_92f84 27 = .ok (.invokestatic 73, 3) := by decide +kernel
theorem dJx4a65c_grow_92f84_30 : decode cJx4a65c_grow_92f84 30 = .ok (.istore_n 3, 1) := by decide +kernel
theorem dJx4a65c_grow_92f84_31 : decode cJx4a65c_grow_92f84 31 = .ok (.aload_n 0, 1) := by decide +kernel
theorem dJx4a65c_grow_92f84_32 : decode cJx4a65c_grow_92f84 32 = .ok (.aload_n 0, 1) := by decide +kernel
theorem dJx4a65c_grow_92f84_33 : decode cJx4a65c_grow_92f84 33 = .ok (.getfield 9, 3) := by decide +kernel
theorem dJx4a65c_grow_92f84_36 : decode cJx4a65c_grow_92f84 36 = .ok (.iload_n 3, 1) := by decide +kernel
theorem dJx4a65c_grow_92f84_37 : decode cJx4a65c_grow_92f84 37 = .ok (.invokestatic 66, 3) := by decide +kernel
theorem dJx4a65c_grow_92f84_40 : decode cJx4a65c_grow_92f84 40 = .ok (.dup_x1, 1) := by decide +kernel
theorem dJx4a65c_grow_92f84_41 : decode cJx4a65c_grow_92f84 41 = .ok (.putfield 9, 3) := by decide +kernel
theorem dJx4a65c_grow_92f84_44 : decode cJx4a65c_grow_92f84 44 = .ok (.areturn, 1) := by decide +kernel
theorem dJx4a65c_grow_92f84_45 : decode cJx4a65c_grow_92f84 45 = .ok (.aload_n 0, 1) := by decide +kernel
theorem dJx4a65c_grow_92f84_46 : decode cJx4a65c_grow_92f84 46 = .ok (.bipush 10, 2) := by decide +kernel
theorem dJx4a65c_grow_92f84_48 : decode cJx4a65c_grow_92f84 48 = .ok (.iload_n 1, 1) := by decide +kernel
theorem dJx4a65c_grow_92f84_49 : decode cJx4a65c_grow_92f84 49 = .ok (.invokestatic 79, 3) := by decide +kernel
theorem dJx4a65c_grow_92f84_52 : decode cJx4a65c_grow_92f84 52 = .ok (.anewarray 7, 3) := by decide +kernel
theorem dJx4a65c_grow_92f84_55 : decode cJx4a65c_grow_92f84 55 = .ok (.dup_x1, 1) := by decide +kernel
theorem dJx4a65c_grow_92f84_56 : decode cJx4a65c_grow_92f84 56 = .ok (.putfield 9, 3) := by decide +kernel
theorem dJx4a65c_grow_92f84_59 : decode cJx4a65c_grow_92f84 59 = .ok (.areturn, 1) := by decide +kernel
theorem dJx4a65c_grow_d5877_0 : decode cJx4a65c_grow_d5877 0 = .ok (.aload_n 0, 1) := by decide +kernel
theorem dJx4a65c_grow_d5877_1 : decode cJx4a65c_grow_d5877 1 = .ok (.aload_n 0, 1) := by decide +kernel
theorem dJx4a65c_grow_d5877_2 : decode cJx4a65c_grow_d5877 2 = .ok (.getfield 48, 3) := by decide +kernel
theorem dJx4a65c_grow_d5877_5 : decode cJx4a65c_grow_d5877 5 = .ok (.iconst 1, 1) := by decide +kernel
theorem dJx4a65c_grow_d5877_6 : decode cJx4a65c_grow_d5877 6 = .ok (.iadd, 1) := by decide +kernel
theorem dJx4a65c_grow_d5877_7 : decode cJx4a65c_grow_d5877 7 = .ok (.invokevirtual 69, 3) := by decide +kernel
theorem dJx4a65c_grow_d5877_10 : decode cJx4a65c_grow_d5877 10 = .ok (.areturn, 1) := by decide +kernel
theorem dJx4a65c_size_8abf5_0 : decode cJx4a65c_size_8abf5 0 = .ok (.aload_n 0, 1) := by decide +kernel
theorem dJx4a65c_size_8abf5_1 : decode cJx4a65c_size_8abf5 1 = .ok (.getfield 48, 3) := by decide +kernel
theorem dJx4a65c_size_8abf5_4 : decode cJx4a65c_size_8abf5 4 = .ok (.ireturn, 1) := by decide +kernel
theorem dJx4a65c_elementData_915e3_0 : decode cJx4a65c_elementData_915e3 0 = .ok (.aload_n 0, 1) := by decide +kernel
theorem dJx4a65c_elementData_915e3_1 : decode cJx4a65c_elementData_915e3 1 = .ok (.getfield 9, 3) := by decide +kernel
theorem dJx4a65c_elementData_915e3_4 : decode cJx4a65c_elementData_915e3 4 = .ok (.iload_n 1, 1) := by decide +kernel
theorem dJx4a65c_elementData_915e3_5 : decode cJx4a65c_elementData_915e3 5 = .ok (.aaload, 1) := by decide +kernel
theorem dJx4a65c_elementData_915e3_6 : decode cJx4a65c_elementData_915e3 6 = .ok (.areturn, 1) := by decide +kernel
theorem dJx4a65c_get_915e3_0 : decode cJx4a65c_get_915e3 0 = .ok (.iload_n 1, 1) := by decide +kernel
theorem dJx4a65c_get_915e3_1 : decode cJx4a65c_get_915e3 1 = .ok (.aload_n 0, 1) := by decide +kernel
theorem dJx4a65c_get_915e3_2 : decode cJx4a65c_get_915e3 2 = .ok (.getfield 48, 3) := by decide +kernel
theorem dJx4a65c_get_915e3_5 : decode cJx4a65c_get_915e3 5 = .ok (.invokestatic 118, 3) := by decide +kernel
theorem dJx4a65c_get_915e3_8 : decode cJx4a65c_get_915e3 8 = .ok (.pop, 1) := by decide +kernel
theorem dJx4a65c_get_915e3_9 : decode cJx4a65c_get_915e3 9 = .ok (.aload_n 0, 1) := by decide +kernel
theorem dJx4a65c_get_915e3_10 : decode cJx4a65c_get_915e3 10 = .ok (.iload_n 1, 1) := by decide +kernel
theorem dJx4a65c_get_915e3_11 : decode cJx4a65c_get_915e3 11 = .ok (.invokevirtual 123, 3) := by decide +kernel
theorem dJx4a65c_get_915e3_14 : decode cJx4a65c_get_915e3 14 = .ok (.areturn, 1) := by decide +kernel
theorem dJx4a65c_add_72be8_0 : decode cJx4a65c_add_72be8 0 = .ok (.iload_n 3, 1) := by decide +kernel
theorem dJx4a65c_add_72be8_1 : decode cJx4a65c_add_72be8 1 = .ok (.aload_n 2, 1) := by decide +kernel
theorem dJx4a65c_add_72be8_2 : decode cJx4a65c_add_72be8 2 = .ok (.arraylength, 1) := by decide +kernel
theorem dJx4a65c_add_72be8_3 : decode cJx4a65c_add_72be8 3 = .ok (.if_icmp .ne 8, 3) := by decide +kernel
theorem dJx4a65c_add_72be8_6 : decode cJx4a65c_add_72be8 6 = .ok (.aload_n 0, 1) := by decide +kernel
theorem dJx4a65c_add_72be8_7 : decode cJx4a65c_add_72be8 7 = .ok (.invokevirtual 129, 3) := by decide +kernel
theorem dJx4a65c_add_72be8_10 : decode cJx4a65c_add_72be8 10 = .ok (.astore_n 2, 1) := by decide +kernel
theorem dJx4a65c_add_72be8_11 : decode cJx4a65c_add_72be8 11 = .ok (.aload_n 2, 1) := by decide +kernel
theorem dJx4a65c_add_72be8_12 : decode cJx4a65c_add_72be8 12 = .ok (.iload_n 3, 1) := by decide +kernel
theorem dJx4a65c_add_72be8_13 : decode cJx4a65c_add_72be8 13 = .ok (.aload_n 1, 1) := by decide +kernel
theorem dJx4a65c_add_72be8_14 : decode cJx4a65c_add_72be8 14 = .ok (.aastore, 1) := by decide +kernel
theorem dJx4a65c_add_72be8_15 : decode cJx4a65c_add_72be8 15 = .ok (.aload_n 0, 1) := by decide +kernel
theorem dJx4a65c_add_72be8_16 : decode cJx4a65c_add_72be8 16 = .ok (.iload_n 3, 1) := by decide +kernel
theorem dJx4a65c_add_72be8_17 : decode cJx4a65c_add_72be8 17 = .ok (.iconst 1, 1) := by decide +kernel
theorem dJx4a65c_add_72be8_18 : decode cJx4a65c_add_72be8 18 = .ok (.iadd, 1) := by decide +kernel
theorem dJx4a65c_add_72be8_19 : decode cJx4a65c_add_72be8 19 = .ok (.putfield 48, 3) := by decide +kernel
theorem dJx4a65c_add_72be8_22 : decode cJx4a65c_add_72be8 22 = .ok (.return_, 1) := by decide +kernel
theorem dJx4a65c_add_9ea2d_0 : decode cJx4a65c_add_9ea2d 0 = .ok (.aload_n 0, 1) := by decide +kernel
theorem dJx4a65c_add_9ea2d_1 : decode cJx4a65c_add_9ea2d 1 = .ok (.dup, 1) := by decide +kernel
theorem dJx4a65c_add_9ea2d_2 : decode cJx4a65c_add_9ea2d 2 = .ok (.getfield 63, 3) := by decide +kernel
theorem dJx4a65c_add_9ea2d_5 : decode cJx4a65c_add_9ea2d 5 = .ok (.iconst 1, 1) := by decide +kernel
theorem dJx4a65c_add_9ea2d_6 : decode cJx4a65c_add_9ea2d 6 = .ok (.iadd, 1) := by decide +kernel
theorem dJx4a65c_add_9ea2d_7 : decode cJx4a65c_add_9ea2d 7 = .ok (.putfield 63, 3) := by decide +kernel
theorem dJx4a65c_add_9ea2d_10 : decode cJx4a65c_add_9ea2d 10 = .ok (.aload_n 0, 1) := by decide +kernel
theorem dJx4a65c_add_9ea2d_11 : decode cJx4a65c_add_9ea2d 11 = .ok (.aload_n 1, 1) := by decide +kernel
theorem dJx4a65c_add_9ea2d_12 : decode cJx4a65c_add_9ea2d 12 = .ok (.aload_n 0, 1) := by decide +kernel
theorem dJx4a65c_add_9ea2d_13 : decode cJx4a65c_add_9ea2d 13 = .ok (.getfield 9, 3) := by decide +kernel
theorem dJx4a65c_add_9ea2d_16 : decode cJx4a65c_add_9ea2d 16 = .ok (.aload_n 0, 1) := by decide +kernel
theorem dJx4a65c_add_9ea2d_17 : decode cJx4a65c_add_9ea2d 17 = .ok (.getfield 48, 3) := by decide +kernel
theorem dJx4a65c_add_9ea2d_20 : decode cJx4a65c_add_9ea2d 20 = .ok (.invokevirtual 131, 3) := by decide +kernel
theorem dJx4a65c_add_9ea2d_23 : decode cJx4a65c_add_9ea2d 23 = .ok (.iconst 1, 1) := by decide +kernel
theorem dJx4a65c_add_9ea2d_24 : decode cJx4a65c_add_9ea2d 24 = .ok (.ireturn, 1) := by decide +kernel
theorem dJ7_fill_53178_0 : decode cJ7_fill_53178 0 = .ok (.iconst 0, 1) := by decide +kernel
theorem dJ7_fill_53178_1 : decode cJ7_fill_53178 1 = .ok (.istore_n 2, 1) := by decide +kernel
theorem dJ7_fill_53178_2 : decode cJ7_fill_53178 2 = .ok (.aload_n 0, 1) := by decide +kernel
theorem dJ7_fill_53178_3 : decode cJ7_fill_53178 3 = .ok (.arraylength, 1) := by decide +kernel
theorem dJ7_fill_53178_4 : decode cJ7_fill_53178 4 = .ok (.istore_n 3, 1) := by decide +kernel
theorem dJ7_fill_53178_5 : decode cJ7_fill_53178 5 = .ok (.iload_n 2, 1) := by decide +kernel
theorem dJ7_fill_53178_6 : decode cJ7_fill_53178 6 = .ok (.iload_n 3, 1) := by decide +kernel
theorem dJ7_fill_53178_7 : decode cJ7_fill_53178 7 = .ok (.if_icmp .ge 13, 3) := by decide +kernel
theorem dJ7_fill_53178_10 : decode cJ7_fill_53178 10 = .ok (.aload_n 0, 1) := by decide +kernel
theorem dJ7_fill_53178_11 : decode cJ7_fill_53178 11 = .ok (.iload_n 2, 1) := by decide +kernel
theorem dJ7_fill_53178_12 : decode cJ7_fill_53178 12 = .ok (.iload_n 1, 1) := by decide +kernel
theorem dJ7_fill_53178_13 : decode cJ7_fill_53178 13 = .ok (.iastore, 1) := by decide +kernel
theorem dJ7_fill_53178_14 : decode cJ7_fill_53178 14 = .ok (.iinc 2 1, 3) := by decide +kernel
theorem dJ7_fill_53178_17 : decode cJ7_fill_53178 17 = .ok (.goto (-12), 3) := by decide +kernel
theorem dJ7_fill_53178_20 : decode cJ7_fill_53178 20 = .ok (.return_, 1) := by decide +kernel
theorem dJ7_copyOf_1904c_0 : decode cJ7_copyOf_1904c 0 = .ok (.aload_n 0, 1) := by decide +kernel
theorem dJ7_copyOf_1904c_1 : decode cJ7_copyOf_1904c 1 = .ok (.iload_n 1, 1) := by decide +kernel
theorem dJ7_copyOf_1904c_2 : decode cJ7_copyOf_1904c 2 = .ok (.aload_n 0, 1) := by decide +kernel
theorem dJ7_copyOf_1904c_3 : decode cJ7_copyOf_1904c 3 = .ok (.invokevirtual 86, 3) := by decide +kernel
theorem dJ7_copyOf_1904c_6 : decode cJ7_copyOf_1904c 6 = .ok (.invokestatic 300, 3) := by decide +kernel
theorem dJ7_copyOf_1904c_9 : decode cJ7_copyOf_1904c 9 = .ok (.areturn, 1) := by decide +kernel
theorem dJ7_copyOf_6403c_0 : decode cJ7_copyOf_6403c 0 = .ok (.aload_n 2, 1) := by decide +kernel
theorem dJ7_copyOf_6403c_1 : decode cJ7_copyOf_6403c 1 = .ok (.ldc 110, 2) := by decide +kernel
theorem dJ7_copyOf_6403c_3 : decode cJ7_copyOf_6403c 3 = .ok (.if_acmp .ne 10, 3) := by decide +kernel
theorem dJ7_copyOf_6403c_6 : decode cJ7_copyOf_6403c 6 = .ok (.iload_n 1, 1) := by decide +kernel
theorem dJ7_copyOf_6403c_7 : decode cJ7_copyOf_6403c 7 = .ok (.anewarray 2, 3) := by decide +kernel
theorem dJ7_copyOf_6403c_10 : decode cJ7_copyOf_6403c 10 = .ok (.goto 14, 3) := by decide +kernel
theorem dJ7_copyOf_6403c_13 : decode cJ7_copyOf_6403c 13 = .ok (.aload_n 2, 1) := by decide +kernel
theorem dJ7_copyOf_6403c_14 : decode cJ7_copyOf_6403c 14 = .ok (.invokevirtual 90, 3) := by decide +kernel
theorem dJ7_copyOf_6403c_17 : decode cJ7_copyOf_6403c 17 = .ok (.iload_n 1, 1) := by decide +kernel
theorem dJ7_copyOf_6403c_18 : decode cJ7_copyOf_6403c 18 = .ok (.invokestatic 95, 3) := by decide +kernel
theorem dJ7_copyOf_6403c_21 : decode cJ7_copyOf_6403c 21 = .ok (.checkcast 110, 3) := by decide +kernel
theorem dJ7_copyOf_6403c_24 : decode cJ7_copyOf_6403c 24 = .ok (.astore_n 3, 1) := by decide +kernel
theorem dJ7_copyOf_6403c_25 : decode cJ7_copyOf_6403c 25 = .ok (.aload_n 0, 1) := by decide +kernel
theorem dJ7_copyOf_6403c_26 : decode cJ7_copyOf_6403c 26 = .ok (.iconst 0, 1) := by decide +kernel
theorem dJ7_copyOf_6403c_27 : decode cJ7_copyOf_6403c 27 = .ok (.aload_n 3, 1) := by decide +kernel
theorem dJ7_copyOf_6403c_28 : decode cJ7_copyOf_6403c 28 = .ok (.iconst 0, 1) := by decide +kernel
theorem dJ7_copyOf_6403c_29 : decode cJ7_copyOf_6403c 29 = .ok (.aload_n 0, 1) := by decide +kernel
theorem dJ7_copyOf_6403c_30 : decode cJ7_copyOf_6403c 30 = .ok (.arraylength, 1) := by decide +kernel
theorem dJ7_copyOf_6403c_31 : decode cJ7_copyOf_6403c 31 = .ok (.iload_n 1, 1) := by decide +kernel
theorem dJ7_copyOf_6403c_32 : decode cJ7_copyOf_6403c 32 = .ok (.invokestatic 304, 3) := by decide +kernel
theorem dJ7_copyOf_6403c_35 : decode cJ7_copyOf_6403c 35 = .ok (.invokestatic 150, 3) := by decide +kernel
theorem dJ7_copyOf_6403c_38 : decode cJ7_copyOf_6403c 38 = .ok (.aload_n 3, 1) := by decide +kernel
theorem dJ7_copyOf_6403c_39 : decode cJ7_copyOf_6403c 39 = .ok (.areturn, 1) := by decide +kernel
theorem dJ15_checkIndex_7cf53_0 : decode cJ15_checkIndex_7cf53 0 = .ok (.iload_n 0, 1) := by decide +kernel
theorem dJ15_checkIndex_7cf53_1 : decode cJ15_checkIndex_7cf53 1 = .ok (.iload_n 1, 1) := by decide +kernel
theorem dJ15_checkIndex_7cf53_2 : decode cJ15_checkIndex_7cf53 2 = .ok (.aconst_null, 1) := by decide +kernel
theorem dJ15_checkIndex_7cf53_3 : decode cJ15_checkIndex_7cf53 3 = .ok (.invokestatic 105, 3) := by decide +kernel
theorem dJ15_checkIndex_7cf53_6 : decode cJ15_checkIndex_7cf53 6 = .ok (.ireturn, 1) := by decide +kernel
theorem dJ8_newLength_cabcc_0 : decode cJ8_newLength_cabcc 0 = .ok (.iload_n 0, 1) := by decide +kernel
theorem dJ8_newLength_cabcc_1 : decode cJ8_newLength_cabcc 1 = .ok (.iload_n 1, 1) := by decide +kernel
theorem dJ8_newLength_cabcc_2 : decode cJ8_newLength_cabcc 2 = .ok (.iload_n 2, 1) := by decide +kernel
theorem dJ8_newLength_cabcc_3 : decode cJ8_newLength_cabcc 3 = .ok (.invokestatic 194, 3) := by decide +kernel
theorem dJ8_newLength_cabcc_6 : decode cJ8_newLength_cabcc 6 = .ok (.iadd, 1) := by decide +kernel
theorem dJ8_newLength_cabcc_7 : decode cJ8_newLength_cabcc 7 = .ok (.istore_n 3, 1) := by decide +kernel
theorem dJ8_newLength_cabcc_8 : decode cJ8_newLength_cabcc 8 = .ok (.iconst 0, 1) := by decide +kernel
theorem dJ8_newLength_cabcc_9 : decode cJ8_newLength_cabcc 9 = .ok (.iload_n 3, 1) := by decide +kernel
theorem dJ8_newLength_cabcc_10 : decode cJ8_newLength_cabcc 10 = .ok (.if_icmp .ge 11, 3) := by decide +kernel
theorem dJ8_newLength_cabcc_13 : decode cJ8_newLength_cabcc 13 = .ok (.iload_n 3, 1) := by decide +kernel
theorem dJ8_newLength_cabcc_14 : decode cJ8_newLength_cabcc 14 = .ok (.ldc 200, 2) := by decide +kernel
theorem dJ8_newLength_cabcc_16 : decode cJ8_newLength_cabcc 16 = .ok (.if_icmp .gt 5, 3) := by decide +kernel
theorem dJ8_newLength_cabcc_19 : decode cJ8_newLength_cabcc 19 = .ok (.iload_n 3, 1) := by decide +kernel
theorem dJ8_newLength_cabcc_20 : decode cJ8_newLength_cabcc 20 = .ok (.ireturn, 1) := by decide +kernel
theorem dJ8_newLength_cabcc_21 : decode cJ8_newLength_cabcc 21 = .ok (.iload_n 0, 1) := by decide +kernel
theorem dJ8_newLength_cabcc_22 : decode cJ8_newLength_cabcc 22 = .ok (.iload_n 1, 1) := by decide +kernel
theorem dJ8_newLength_cabcc_23 : decode cJ8_newLength_cabcc 23 = .ok (.invokestatic 201, 3) := by decide +kernel
theorem dJ8_newLength_cabcc_26 : decode cJ8_newLength_cabcc 26 = .ok (.ireturn, 1) := by decide +kernel
theorem dJ8_hugeLength_7cf53_0 : decode cJ8_hugeLength_7cf53 0 = .ok (.iload_n 0, 1) := by decide +kernel
theorem dJ8_hugeLength_7cf53_1 : decode cJ8_hugeLength_7cf53 1 = .ok (.iload_n 1, 1) := by decide +kernel
theorem dJ8_hugeLength_7cf53_2 : decode cJ8_hugeLength_7cf53 2 = .ok (.iadd, 1) := by decide +kernel
theorem dJ8_hugeLength_7cf53_3 : decode cJ8_hugeLength_7cf53 3 = .ok (.istore_n 2, 1) := by decide +kernel
theorem dJ8_hugeLength_7cf53_4 : decode cJ8_hugeLength_7cf53 4 = .ok (.iload_n 2, 1) := by decide +kernel
theorem dJ8_hugeLength_7cf53_5 : decode cJ8_hugeLength_7cf53 5 = .ok (.ifCond .ge 44, 3) := by decide +kernel
theorem dJ8_hugeLength_7cf53_8 : decode cJ8_hugeLength_7cf53 8 = .ok (.new 204, 3) := by decide +kernel
theorem dJ8_hugeLength_7cf53_11 : decode cJ8_hugeLength_7cf53 11 = .ok (.dup, 1) := by decide +kernel
theorem dJ8_hugeLength_7cf53_12 : decode cJ8_hugeLength_7cf53 12 = .ok (.new 89, 3) := by decide +kernel
theorem dJ8_hugeLength_7cf53_15 : decode cJ8_hugeLength_7cf53 15 = .ok (.dup, 1) := by decide +kernel
theorem dJ8_hugeLength_7cf53_16 : decode cJ8_hugeLength_7cf53 16 = .ok (.invokespecial 91, 3) := by decide +kernel
theorem dJ8_hugeLength_7cf53_19 : decode cJ8_hugeLength_7cf53 19 = .ok (.ldc 206, 2) := by decide +kernel
theorem dJ8_hugeLength_7cf53_21 : decode cJ8_hugeLength_7cf53 21 = .ok (.invokevirtual 94, 3) := by decide +kernel
theorem dJ8_hugeLength_7cf53_24 : decode cJ8_hugeLength_7cf53 24 = .ok (.iload_n 0, 1) := by decide +kernel
theorem dJ8_hugeLength_7cf53_25 : decode cJ8_hugeLength_7cf53 25 = .ok (.invokevirtual 98, 3) := by decide +kernel
theorem dJ8_hugeLength_7cf53_28 : decode cJ8_hugeLength_7cf53 28 = .ok (.ldc 208, 2) := by decide +kernel
theorem dJ8_hugeLength_7cf53_30 : decode cJ8_hugeLength_7cf53 30 = .ok (.invokevirtual 94, 3) := by decide +kernel
theorem dJ8_hugeLength_7cf53_33 : decode cJ8_hugeLength_7cf53 33 = .ok (.iload_n 1, 1) := by decide +kernel
theorem dJ8_hugeLength_7cf53_34 : decode cJ8_hugeLength_7cf53 34 = .ok (.invokevirtual 98, 3) := by decide +kernel
theorem dJ8_hugeLength_7cf53_37 : decode cJ8_hugeLength_7cf53 37 = .ok (.ldc 210, 2) := by decide +kernel
theorem dJ8_hugeLength_7cf53_39 : decode cJ8_hugeLength_7cf53 39 = .ok (.invokevirtual 94, 3) := by decide +kernel
theorem dJ8_hugeLength_7cf53_42 : decode cJ8_hugeLength_7cf53 42 = .ok (.invokevirtual 101, 3) := by decide +kernel
theorem dJ8_hugeLength_7cf53_45 : decode cJ8_hugeLength_7cf53 45 = .ok (.invokespecial 212, 3) := by decide +kernel
theorem dJ8_hugeLength_7cf53_48 : decode cJ8_hugeLength_7cf53 48 = .ok (.athrow, 1) := by decide +kernel
theorem dJ8_hugeLength_7cf53_49 : decode cJ8_hugeLength_7cf53 49 = .ok (.iload_n 2, 1) := by decide +kernel
theorem dJ8_hugeLength_7cf53_50 : decode cJ8_hugeLength_7cf53 50 = .ok (.ldc 200, 2) := by decide +kernel
theorem dJ8_hugeLength_7cf53_52 : decode cJ8_hugeLength_7cf53 52 = .ok (.if_icmp .gt 6, 3) := by decide +kernel
theorem dJ8_hugeLength_7cf53_55 : decode cJ8_hugeLength_7cf53 55 = .ok (.ldc 200, 2) := by decide +kernel
theorem dJ8_hugeLength_7cf53_57 : decode cJ8_hugeLength_7cf53 57 = .ok (.ireturn, 1) := by decide +kernel
theorem dJ8_hugeLength_7cf53_58 : decode cJ8_hugeLength_7cf53 58 = .ok (.iload_n 2, 1) := by decide +kernel
theorem dJ8_hugeLength_7cf53_59 : decode cJ8_hugeLength_7cf53 59 = .ok (.ireturn, 1) := by decide +kernel
theorem dJ3_checkIndex_8e157_0 : decode cJ3_checkIndex_8e157 0 = .ok (.iload_n 0, 1) := by decide +kernel
theorem dJ3_checkIndex_8e157_1 : decode cJ3_checkIndex_8e157 1 = .ok (.ifCond .lt 8, 3) := by decide +kernel
theorem dJ3_checkIndex_8e157_4 : decode cJ3_checkIndex_8e157 4 = .ok (.iload_n 0, 1) := by decide +kernel
theorem dJ3_checkIndex_8e157_5 : decode cJ3_checkIndex_8e157 5 = .ok (.iload_n 1, 1) := by decide +kernel
theorem dJ3_checkIndex_8e157_6 : decode cJ3_checkIndex_8e157 6 = .ok (.if_icmp .lt 10, 3) := by decide +kernel
theorem dJ3_checkIndex_8e157_9 : decode cJ3_checkIndex_8e157 9 = .ok (.aload_n 2, 1) := by decide +kernel
theorem dJ3_checkIndex_8e157_10 : decode cJ3_checkIndex_8e157 10 = .ok (.iload_n 0, 1) := by decide +kernel
theorem dJ3_checkIndex_8e157_11 : decode cJ3_checkIndex_8e157 11 = .ok (.iload_n 1, 1) := by decide +kernel
theorem dJ3_checkIndex_8e157_12 : decode cJ3_checkIndex_8e157 12 = .ok (.invokestatic 95, 3) := by decide +kernel
theorem dJ3_checkIndex_8e157_15 : decode cJ3_checkIndex_8e157 15 = .ok (.athrow, 1) := by decide +kernel
theorem dJ3_checkIndex_8e157_16 : decode cJ3_checkIndex_8e157 16 = .ok (.iload_n 0, 1) := by decide +kernel
theorem dJ3_checkIndex_8e157_17 : decode cJ3_checkIndex_8e157 17 = .ok (.ireturn, 1) := by decide +kernel
theorem dL_addKey_0 : decode cL_addKey 0 = .ok (.aload 4, 2) := by decide +kernel
theorem dL_addKey_2 : decode cL_addKey 2 = .ok (.iconst 0, 1) := by decide +kernel
theorem dL_addKey_3 : decode cL_addKey 3 = .ok (.aload_n 0, 1) := by decide +kernel
theorem dL_addKey_4 : decode cL_addKey 4 = .ok (.iload_n 1, 1) := by decide +kernel
theorem dL_addKey_5 : decode cL_addKey 5 = .ok (.iload_n 2, 1) := by decide +kernel
theorem dL_addKey_6 : decode cL_addKey 6 = .ok (.iload_n 3, 1) := by decide +kernel
theorem dL_addKey_7 : decode cL_addKey 7 = .ok (.invokevirtual 7, 3) := by decide +kernel
theorem dL_addKey_10 : decode cL_addKey 10 = .ok (.i2l, 1) := by decide +kernel
theorem dL_addKey_11 : decode cL_addKey 11 = .ok (.lastore, 1) := by decide +kernel
theorem dL_addKey_12 : decode cL_addKey 12 = .ok (.goto 11, 3) := by decide +kernel
theorem dL_addKey_15 : decode cL_addKey 15 = .ok (.astore 5, 2) := by decide +kernel
theorem dL_addKey_17 : decode cL_addKey 17 = .ok (.iconst 1, 1) := by decide +kernel
theorem dL_addKey_18 : decode cL_addKey 18 = .ok (.ireturn, 1) := by decide +kernel
theorem dL_addKey_19 : decode cL_addKey 19 = .ok (.astore 5, 2) := by decide +kernel
theorem dL_addKey_21 : decode cL_addKey 21 = .ok (.iconst 2, 1) := by decide +kernel
theorem dL_addKey_22 : decode cL_addKey 22 = .ok (.ireturn, 1) := by decide +kernel
theorem dL_addKey_23 : decode cL_addKey 23 = .ok (.iconst 0, 1) := by decide +kernel
theorem dL_addKey_24 : decode cL_addKey 24 = .ok (.ireturn, 1) := by decide +kernel
theorem dL_setTimes_0 : decode cL_setTimes 0 = .ok (.aload 4, 2) := by decide +kernel
theorem dL_setTimes_2 : decode cL_setTimes 2 = .ok (.iconst 0, 1) := by decide +kernel
theorem dL_setTimes_3 : decode cL_setTimes 3 = .ok (.aload_n 0, 1) := by decide +kernel
theorem dL_setTimes_4 : decode cL_setTimes 4 = .ok (.iload_n 1, 1) := by decide +kernel
theorem dL_setTimes_5 : decode cL_setTimes 5 = .ok (.iload_n 2, 1) := by decide +kernel
theorem dL_setTimes_6 : decode cL_setTimes 6 = .ok (.iload_n 3, 1) := by decide +kernel
theorem dL_setTimes_7 : decode cL_setTimes 7 = .ok (.invokevirtual 17, 3) := by decide +kernel
theorem dL_setTimes_10 : decode cL_setTimes 10 = .ok (.i2l, 1) := by decide +kernel
theorem dL_setTimes_11 : decode cL_setTimes 11 = .ok (.lastore, 1) := by decide +kernel
theorem dL_setTimes_12 : decode cL_setTimes 12 = .ok (.goto 15, 3) := by decide +kernel
theorem dL_setTimes_15 : decode cL_setTimes 15 = .ok (.astore 5, 2) := by decide +kernel
theorem dL_setTimes_17 : decode cL_setTimes 17 = .ok (.iconst 1, 1) := by decide +kernel
theorem dL_setTimes_18 : decode cL_setTimes 18 = .ok (.ireturn, 1) := by decide +kernel
theorem dL_setTimes_19 : decode cL_setTimes 19 = .ok (.astore 5, 2) := by decide +kernel
theorem dL_setTimes_21 : decode cL_setTimes 21 = .ok (.iconst 2, 1) := by decide +kernel
theorem dL_setTimes_22 : decode cL_setTimes 22 = .ok (.ireturn, 1) := by decide +kernel
theorem dL_setTimes_23 : decode cL_setTimes 23 = .ok (.astore 5, 2) := by decide +kernel
theorem dL_setTimes_25 : decode cL_setTimes 25 = .ok (.iconst 3, 1) := by decide +kernel
theorem dL_setTimes_26 : decode cL_setTimes 26 = .ok (.ireturn, 1) := by decide +kernel
theorem dL_setTimes_27 : decode cL_setTimes 27 = .ok (.iconst 0, 1) := by decide +kernel
theorem dL_setTimes_28 : decode cL_setTimes 28 = .ok (.ireturn, 1) := by decide +kernel
theorem dL_setDoors_0 : decode cL_setDoors 0 = .ok (.aload_n 3, 1) := by decide +kernel
theorem dL_setDoors_1 : decode cL_setDoors 1 = .ok (.iconst 0, 1) := by decide +kernel
theorem dL_setDoors_2 : decode cL_setDoors 2 = .ok (.aload_n 0, 1) := by decide +kernel
theorem dL_setDoors_3 : decode cL_setDoors 3 = .ok (.iload_n 1, 1) := by decide +kernel
theorem dL_setDoors_4 : decode cL_setDoors 4 = .ok (.iload_n 2, 1) := by decide +kernel
theorem dL_setDoors_5 : decode cL_setDoors 5 = .ok (.invokevirtual 22, 3) := by decide +kernel
theorem dL_setDoors_8 : decode cL_setDoors 8 = .ok (.i2l, 1) := by decide +kernel
theorem dL_setDoors_9 : decode cL_setDoors 9 = .ok (.lastore, 1) := by decide +kernel
theorem dL_setDoors_10 : decode cL_setDoors 10 = .ok (.goto 15, 3) := by decide +kernel
theorem dL_setDoors_13 : decode cL_setDoors 13 = .ok (.astore 4, 2) := by decide +kernel
theorem dL_setDoors_15 : decode cL_setDoors 15 = .ok (.iconst 1, 1) := by decide +kernel
theorem dL_setDoors_16 : decode cL_setDoors 16 = .ok (.ireturn, 1) := by decide +kernel
theorem dL_setDoors_17 : decode cL_setDoors 17 = .ok (.astore 4, 2) := by decide +kernel
theorem dL_setDoors_19 : decode cL_setDoors 19 = .ok (.iconst 2, 1) := by decide +kernel
theorem dL_setDoors_20 : decode cL_setDoors 20 = .ok (.ireturn, 1) := by decide +kernel
theorem dL_setDoors_21 : decode cL_setDoors 21 = .ok (.astore 4, 2) := by decide +kernel
theorem dL_setDoors_23 : decode cL_setDoors 23 = .ok (.iconst 3, 1) := by decide +kernel
theorem dL_setDoors_24 : decode cL_setDoors 24 = .ok (.ireturn, 1) := by decide +kernel
theorem dL_setDoors_25 : decode cL_setDoors 25 = .ok (.iconst 0, 1) := by decide +kernel
theorem dL_setDoors_26 : decode cL_setDoors 26 = .ok (.ireturn, 1) := by decide +kernel
theorem dL_revoke_0 : decode cL_revoke 0 = .ok (.aload_n 2, 1) := by decide +kernel
theorem dL_revoke_1 : decode cL_revoke 1 = .ok (.iconst 0, 1) := by decide +kernel
theorem dL_revoke_2 : decode cL_revoke 2 = .ok (.aload_n 0, 1) := by decide +kernel
theorem dL_revoke_3 : decode cL_revoke 3 = .ok (.iload_n 1, 1) := by decide +kernel
theorem dL_revoke_4 : decode cL_revoke 4 = .ok (.invokevirtual 26, 3) := by decide +kernel
theorem dL_revoke_7 : decode cL_revoke 7 = .ok (.i2l, 1) := by decide +kernel
theorem dL_revoke_8 : decode cL_revoke 8 = .ok (.lastore, 1) := by decide +kernel
theorem dL_revoke_9 : decode cL_revoke 9 = .ok (.goto 9, 3) := by decide +kernel
theorem dL_revoke_12 : decode cL_revoke 12 = .ok (.astore_n 3, 1) := by decide +kernel
theorem dL_revoke_13 : decode cL_revoke 13 = .ok (.iconst 1, 1) := by decide +kernel
theorem dL_revoke_14 : decode cL_revoke 14 = .ok (.ireturn, 1) := by decide +kernel
theorem dL_revoke_15 : decode cL_revoke 15 = .ok (.astore_n 3, 1) := by decide +kernel
theorem dL_revoke_16 : decode cL_revoke 16 = .ok (.iconst 2, 1) := by decide +kernel
theorem dL_revoke_17 : decode cL_revoke 17 = .ok (.ireturn, 1) := by decide +kernel
theorem dL_revoke_18 : decode cL_revoke 18 = .ok (.iconst 0, 1) := by decide +kernel
theorem dL_revoke_19 : decode cL_revoke 19 = .ok (.ireturn, 1) := by decide +kernel
theorem dL_addDoor_0 : decode cL_addDoor 0 = .ok (.aload_n 1, 1) := by decide +kernel
theorem dL_addDoor_1 : decode cL_addDoor 1 = .ok (.iconst 0, 1) := by decide +kernel
theorem dL_addDoor_2 : decode cL_addDoor 2 = .ok (.aload_n 0, 1) := by decide +kernel
theorem dL_addDoor_3 : decode cL_addDoor 3 = .ok (.invokevirtual 30, 3) := by decide +kernel
theorem dL_addDoor_6 : decode cL_addDoor 6 = .ok (.i2l, 1) := by decide +kernel
theorem dL_addDoor_7 : decode cL_addDoor 7 = .ok (.lastore, 1) := by decide +kernel
theorem dL_addDoor_8 : decode cL_addDoor 8 = .ok (.goto 6, 3) := by decide +kernel
theorem dL_addDoor_11 : decode cL_addDoor 11 = .ok (.astore_n 2, 1) := by decide +kernel
theorem dL_addDoor_12 : decode cL_addDoor 12 = .ok (.iconst 1, 1) := by decide +kernel
theorem dL_addDoor_13 : decode cL_addDoor 13 = .ok (.ireturn, 1) := by decide +kernel
theorem dL_addDoor_14 : decode cL_addDoor 14 = .ok (.iconst 0, 1) := by decide +kernel
theorem dL_addDoor_15 : decode cL_addDoor 15 = .ok (.ireturn, 1) := by decide +kernel
theorem dL_setRate_0 : decode cL_setRate 0 = .ok (.aload_n 3, 1) := by decide +kernel
theorem dL_setRate_1 : decode cL_setRate 1 = .ok (.iconst 0, 1) := by decide +kernel
theorem dL_setRate_2 : decode cL_setRate 2 = .ok (.aload_n 0, 1) := by decide +kernel
theorem dL_setRate_3 : decode cL_setRate 3 = .ok (.iload_n 1, 1) := by decide +kernel
theorem dL_setRate_4 : decode cL_setRate 4 = .ok (.iload_n 2, 1) := by decide +kernel
theorem dL_setRate_5 : decode cL_setRate 5 = .ok (.invokevirtual 34, 3) := by decide +kernel
theorem dL_setRate_8 : decode cL_setRate 8 = .ok (.i2l, 1) := by decide +kernel
theorem dL_setRate_9 : decode cL_setRate 9 = .ok (.lastore, 1) := by decide +kernel
theorem dL_setRate_10 : decode cL_setRate 10 = .ok (.goto 11, 3) := by decide +kernel
theorem dL_setRate_13 : decode cL_setRate 13 = .ok (.astore 4, 2) := by decide +kernel
theorem dL_setRate_15 : decode cL_setRate 15 = .ok (.iconst 1, 1) := by decide +kernel
theorem dL_setRate_16 : decode cL_setRate 16 = .ok (.ireturn, 1) := by decide +kernel
theorem dL_setRate_17 : decode cL_setRate 17 = .ok (.astore 4, 2) := by decide +kernel
theorem dL_setRate_19 : decode cL_setRate 19 = .ok (.iconst 2, 1) := by decide +kernel
theorem dL_setRate_20 : decode cL_setRate 20 = .ok (.ireturn, 1) := by decide +kernel
theorem dL_setRate_21 : decode cL_setRate 21 = .ok (.iconst 0, 1) := by decide +kernel
theorem dL_setRate_22 : decode cL_setRate 22 = .ok (.ireturn, 1) := by decide +kernel
theorem dL_addPhone_0 : decode cL_addPhone 0 = .ok (.aload_n 1, 1) := by decide +kernel
theorem dL_addPhone_1 : decode cL_addPhone 1 = .ok (.iconst 0, 1) := by decide +kernel
theorem dL_addPhone_2 : decode cL_addPhone 2 = .ok (.aload_n 0, 1) := by decide +kernel
theorem dL_addPhone_3 : decode cL_addPhone 3 = .ok (.invokevirtual 39, 3) := by decide +kernel
theorem dL_addPhone_6 : decode cL_addPhone 6 = .ok (.i2l, 1) := by decide +kernel
theorem dL_addPhone_7 : decode cL_addPhone 7 = .ok (.lastore, 1) := by decide +kernel
theorem dL_addPhone_8 : decode cL_addPhone 8 = .ok (.goto 6, 3) := by decide +kernel
theorem dL_addPhone_11 : decode cL_addPhone 11 = .ok (.astore_n 2, 1) := by decide +kernel
theorem dL_addPhone_12 : decode cL_addPhone 12 = .ok (.iconst 1, 1) := by decide +kernel
theorem dL_addPhone_13 : decode cL_addPhone 13 = .ok (.ireturn, 1) := by decide +kernel
theorem dL_addPhone_14 : decode cL_addPhone 14 = .ok (.iconst 0, 1) := by decide +kernel
theorem dL_addPhone_15 : decode cL_addPhone 15 = .ok (.ireturn, 1) := by decide +kernel
theorem dL_pass_0 : decode cL_pass 0 = .ok (.aload_n 2, 1) := by decide +kernel
theorem dL_pass_1 : decode cL_pass 1 = .ok (.iconst 0, 1) := by decide +kernel
theorem dL_pass_2 : decode cL_pass 2 = .ok (.aload_n 0, 1) := by decide +kernel
theorem dL_pass_3 : decode cL_pass 3 = .ok (.iload_n 1, 1) := by decide +kernel
theorem dL_pass_4 : decode cL_pass 4 = .ok (.invokevirtual 42, 3) := by decide +kernel
theorem dL_pass_7 : decode cL_pass 7 = .ok (.i2l, 1) := by decide +kernel
theorem dL_pass_8 : decode cL_pass 8 = .ok (.lastore, 1) := by decide +kernel
theorem dL_pass_9 : decode cL_pass 9 = .ok (.goto 6, 3) := by decide +kernel
theorem dL_pass_12 : decode cL_pass 12 = .ok (.astore_n 3, 1) := by decide +kernel
theorem dL_pass_13 : decode cL_pass 13 = .ok (.iconst 1, 1) := by decide +kernel
theorem dL_pass_14 : decode cL_pass 14 = .ok (.ireturn, 1) := by decide +kernel
theorem dL_pass_15 : decode cL_pass 15 = .ok (.iconst 0, 1) := by decide +kernel
theorem dL_pass_16 : decode cL_pass 16 = .ok (.ireturn, 1) := by decide +kernel
theorem dL_meetCloud_0 : decode cL_meetCloud 0 = .ok (.aload_n 2, 1) := by decide +kernel
theorem dL_meetCloud_1 : decode cL_meetCloud 1 = .ok (.iconst 0, 1) := by decide +kernel
theorem dL_meetCloud_2 : decode cL_meetCloud 2 = .ok (.aload_n 0, 1) := by decide +kernel
theorem dL_meetCloud_3 : decode cL_meetCloud 3 = .ok (.iload_n 1, 1) := by decide +kernel
theorem dL_meetCloud_4 : decode cL_meetCloud 4 = .ok (.invokevirtual 45, 3) := by decide +kernel
theorem dL_meetCloud_7 : decode cL_meetCloud 7 = .ok (.i2l, 1) := by decide +kernel
theorem dL_meetCloud_8 : decode cL_meetCloud 8 = .ok (.lastore, 1) := by decide +kernel
theorem dL_meetCloud_9 : decode cL_meetCloud 9 = .ok (.goto 6, 3) := by decide +kernel
theorem dL_meetCloud_12 : decode cL_meetCloud 12 = .ok (.astore_n 3, 1) := by decide +kernel
theorem dL_meetCloud_13 : decode cL_meetCloud 13 = .ok (.iconst 1, 1) := by decide +kernel
theorem dL_meetCloud_14 : decode cL_meetCloud 14 = .ok (.ireturn, 1) := by decide +kernel
theorem dL_meetCloud_15 : decode cL_meetCloud 15 = .ok (.iconst 0, 1) := by decide +kernel
theorem dL_meetCloud_16 : decode cL_meetCloud 16 = .ok (.ireturn, 1) := by decide +kernel
theorem dL_meetDoor_0 : decode cL_meetDoor 0 = .ok (.aload_n 3, 1) := by decide +kernel
theorem dL_meetDoor_1 : decode cL_meetDoor 1 = .ok (.iconst 0, 1) := by decide +kernel
theorem dL_meetDoor_2 : decode cL_meetDoor 2 = .ok (.aload_n 0, 1) := by decide +kernel
theorem dL_meetDoor_3 : decode cL_meetDoor 3 = .ok (.iload_n 1, 1) := by decide +kernel
theorem dL_meetDoor_4 : decode cL_meetDoor 4 = .ok (.iload_n 2, 1) := by decide +kernel
theorem dL_meetDoor_5 : decode cL_meetDoor 5 = .ok (.invokevirtual 48, 3) := by decide +kernel
theorem dL_meetDoor_8 : decode cL_meetDoor 8 = .ok (.i2l, 1) := by decide +kernel
theorem dL_meetDoor_9 : decode cL_meetDoor 9 = .ok (.lastore, 1) := by decide +kernel
theorem dL_meetDoor_10 : decode cL_meetDoor 10 = .ok (.goto 7, 3) := by decide +kernel
theorem dL_meetDoor_13 : decode cL_meetDoor 13 = .ok (.astore 4, 2) := by decide +kernel
theorem dL_meetDoor_15 : decode cL_meetDoor 15 = .ok (.iconst 1, 1) := by decide +kernel
theorem dL_meetDoor_16 : decode cL_meetDoor 16 = .ok (.ireturn, 1) := by decide +kernel
theorem dL_meetDoor_17 : decode cL_meetDoor 17 = .ok (.iconst 0, 1) := by decide +kernel
theorem dL_meetDoor_18 : decode cL_meetDoor 18 = .ok (.ireturn, 1) := by decide +kernel
theorem dL_open_0 : decode cL_open 0 = .ok (.aload_n 3, 1) := by decide +kernel
theorem dL_open_1 : decode cL_open 1 = .ok (.iconst 0, 1) := by decide +kernel
theorem dL_open_2 : decode cL_open 2 = .ok (.aload_n 0, 1) := by decide +kernel
theorem dL_open_3 : decode cL_open 3 = .ok (.iload_n 1, 1) := by decide +kernel
theorem dL_open_4 : decode cL_open 4 = .ok (.iload_n 2, 1) := by decide +kernel
theorem dL_open_5 : decode cL_open 5 = .ok (.invokevirtual 51, 3) := by decide +kernel
theorem dL_open_8 : decode cL_open 8 = .ok (.i2l, 1) := by decide +kernel
theorem dL_open_9 : decode cL_open 9 = .ok (.lastore, 1) := by decide +kernel
theorem dL_open_10 : decode cL_open 10 = .ok (.goto 15, 3) := by decide +kernel
theorem dL_open_13 : decode cL_open 13 = .ok (.astore 4, 2) := by decide +kernel
theorem dL_open_15 : decode cL_open 15 = .ok (.iconst 1, 1) := by decide +kernel
theorem dL_open_16 : decode cL_open 16 = .ok (.ireturn, 1) := by decide +kernel
theorem dL_open_17 : decode cL_open 17 = .ok (.astore 4, 2) := by decide +kernel
theorem dL_open_19 : decode cL_open 19 = .ok (.iconst 2, 1) := by decide +kernel
theorem dL_open_20 : decode cL_open 20 = .ok (.ireturn, 1) := by decide +kernel
theorem dL_open_21 : decode cL_open 21 = .ok (.astore 4, 2) := by decide +kernel
theorem dL_open_23 : decode cL_open 23 = .ok (.iconst 3, 1) := by decide +kernel
theorem dL_open_24 : decode cL_open 24 = .ok (.ireturn, 1) := by decide +kernel
theorem dL_open_25 : decode cL_open 25 = .ok (.iconst 0, 1) := by decide +kernel
theorem dL_open_26 : decode cL_open 26 = .ok (.ireturn, 1) := by decide +kernel
theorem dL_answer_0 : decode cL_answer 0 = .ok (.aload_n 3, 1) := by decide +kernel
theorem dL_answer_1 : decode cL_answer 1 = .ok (.iconst 0, 1) := by decide +kernel
theorem dL_answer_2 : decode cL_answer 2 = .ok (.aload_n 0, 1) := by decide +kernel
theorem dL_answer_3 : decode cL_answer 3 = .ok (.iload_n 1, 1) := by decide +kernel
theorem dL_answer_4 : decode cL_answer 4 = .ok (.iload_n 2, 1) := by decide +kernel
theorem dL_answer_5 : decode cL_answer 5 = .ok (.invokevirtual 55, 3) := by decide +kernel
theorem dL_answer_8 : decode cL_answer 8 = .ok (.i2l, 1) := by decide +kernel
theorem dL_answer_9 : decode cL_answer 9 = .ok (.lastore, 1) := by decide +kernel
theorem dL_answer_10 : decode cL_answer 10 = .ok (.goto 11, 3) := by decide +kernel
theorem dL_answer_13 : decode cL_answer 13 = .ok (.astore 4, 2) := by decide +kernel
theorem dL_answer_15 : decode cL_answer 15 = .ok (.iconst 1, 1) := by decide +kernel
theorem dL_answer_16 : decode cL_answer 16 = .ok (.ireturn, 1) := by decide +kernel
theorem dL_answer_17 : decode cL_answer 17 = .ok (.astore 4, 2) := by decide +kernel
theorem dL_answer_19 : decode cL_answer 19 = .ok (.iconst 2, 1) := by decide +kernel
theorem dL_answer_20 : decode cL_answer 20 = .ok (.ireturn, 1) := by decide +kernel
theorem dL_answer_21 : decode cL_answer 21 = .ok (.iconst 0, 1) := by decide +kernel
theorem dL_answer_22 : decode cL_answer 22 = .ok (.ireturn, 1) := by decide +kernel
theorem dL_clock_0 : decode cL_clock 0 = .ok (.aload_n 2, 1) := by decide +kernel
theorem dL_clock_1 : decode cL_clock 1 = .ok (.iconst 0, 1) := by decide +kernel
theorem dL_clock_2 : decode cL_clock 2 = .ok (.aload_n 0, 1) := by decide +kernel
theorem dL_clock_3 : decode cL_clock 3 = .ok (.iload_n 1, 1) := by decide +kernel
theorem dL_clock_4 : decode cL_clock 4 = .ok (.invokevirtual 58, 3) := by decide +kernel
theorem dL_clock_7 : decode cL_clock 7 = .ok (.i2l, 1) := by decide +kernel
theorem dL_clock_8 : decode cL_clock 8 = .ok (.lastore, 1) := by decide +kernel
theorem dL_clock_9 : decode cL_clock 9 = .ok (.goto 6, 3) := by decide +kernel
theorem dL_clock_12 : decode cL_clock 12 = .ok (.astore_n 3, 1) := by decide +kernel
theorem dL_clock_13 : decode cL_clock 13 = .ok (.iconst 1, 1) := by decide +kernel
theorem dL_clock_14 : decode cL_clock 14 = .ok (.ireturn, 1) := by decide +kernel
theorem dL_clock_15 : decode cL_clock 15 = .ok (.iconst 0, 1) := by decide +kernel
theorem dL_clock_16 : decode cL_clock 16 = .ok (.ireturn, 1) := by decide +kernel
theorem dL_drifted_0 : decode cL_drifted 0 = .ok (.aload_n 2, 1) := by decide +kernel
theorem dL_drifted_1 : decode cL_drifted 1 = .ok (.iconst 0, 1) := by decide +kernel
theorem dL_drifted_2 : decode cL_drifted 2 = .ok (.aload_n 0, 1) := by decide +kernel
theorem dL_drifted_3 : decode cL_drifted 3 = .ok (.iload_n 1, 1) := by decide +kernel
theorem dL_drifted_4 : decode cL_drifted 4 = .ok (.invokevirtual 61, 3) := by decide +kernel
theorem dL_drifted_7 : decode cL_drifted 7 = .ok (.f2d, 1) := by decide +kernel
theorem dL_drifted_8 : decode cL_drifted 8 = .ok (.dastore, 1) := by decide +kernel
theorem dL_drifted_9 : decode cL_drifted 9 = .ok (.goto 6, 3) := by decide +kernel
theorem dL_drifted_12 : decode cL_drifted 12 = .ok (.astore_n 3, 1) := by decide +kernel
theorem dL_drifted_13 : decode cL_drifted 13 = .ok (.iconst 1, 1) := by decide +kernel
theorem dL_drifted_14 : decode cL_drifted 14 = .ok (.ireturn, 1) := by decide +kernel
theorem dL_drifted_15 : decode cL_drifted 15 = .ok (.iconst 0, 1) := by decide +kernel
theorem dL_drifted_16 : decode cL_drifted 16 = .ok (.ireturn, 1) := by decide +kernel
theorem dL_driftedBits_0 : decode cL_driftedBits 0 = .ok (.aload_n 2, 1) := by decide +kernel
theorem dL_driftedBits_1 : decode cL_driftedBits 1 = .ok (.iconst 0, 1) := by decide +kernel
theorem dL_driftedBits_2 : decode cL_driftedBits 2 = .ok (.aload_n 0, 1) := by decide +kernel
theorem dL_driftedBits_3 : decode cL_driftedBits 3 = .ok (.iload_n 1, 1) := by decide +kernel
theorem dL_driftedBits_4 : decode cL_driftedBits 4 = .ok (.invokevirtual 65, 3) := by decide +kernel
theorem dL_driftedBits_7 : decode cL_driftedBits 7 = .ok (.i2l, 1) := by decide +kernel
theorem dL_driftedBits_8 : decode cL_driftedBits 8 = .ok (.lastore, 1) := by decide +kernel
theorem dL_driftedBits_9 : decode cL_driftedBits 9 = .ok (.goto 6, 3) := by decide +kernel
theorem dL_driftedBits_12 : decode cL_driftedBits 12 = .ok (.astore_n 3, 1) := by decide +kernel
theorem dL_driftedBits_13 : decode cL_driftedBits 13 = .ok (.iconst 1, 1) := by decide +kernel
theorem dL_driftedBits_14 : decode cL_driftedBits 14 = .ok (.ireturn, 1) := by decide +kernel
theorem dL_driftedBits_15 : decode cL_driftedBits 15 = .ok (.iconst 0, 1) := by decide +kernel
theorem dL_driftedBits_16 : decode cL_driftedBits 16 = .ok (.ireturn, 1) := by decide +kernel
theorem dL_versionOf_0 : decode cL_versionOf 0 = .ok (.aload_n 2, 1) := by decide +kernel
theorem dL_versionOf_1 : decode cL_versionOf 1 = .ok (.iconst 0, 1) := by decide +kernel
theorem dL_versionOf_2 : decode cL_versionOf 2 = .ok (.aload_n 0, 1) := by decide +kernel
theorem dL_versionOf_3 : decode cL_versionOf 3 = .ok (.iload_n 1, 1) := by decide +kernel
theorem dL_versionOf_4 : decode cL_versionOf 4 = .ok (.invokevirtual 68, 3) := by decide +kernel
theorem dL_versionOf_7 : decode cL_versionOf 7 = .ok (.i2l, 1) := by decide +kernel
theorem dL_versionOf_8 : decode cL_versionOf 8 = .ok (.lastore, 1) := by decide +kernel
theorem dL_versionOf_9 : decode cL_versionOf 9 = .ok (.goto 6, 3) := by decide +kernel
theorem dL_versionOf_12 : decode cL_versionOf 12 = .ok (.astore_n 3, 1) := by decide +kernel
theorem dL_versionOf_13 : decode cL_versionOf 13 = .ok (.iconst 1, 1) := by decide +kernel
theorem dL_versionOf_14 : decode cL_versionOf 14 = .ok (.ireturn, 1) := by decide +kernel
theorem dL_versionOf_15 : decode cL_versionOf 15 = .ok (.iconst 0, 1) := by decide +kernel
theorem dL_versionOf_16 : decode cL_versionOf 16 = .ok (.ireturn, 1) := by decide +kernel
theorem dL_versionByReplay_0 : decode cL_versionByReplay 0 = .ok (.aload_n 2, 1) := by decide +kernel
theorem dL_versionByReplay_1 : decode cL_versionByReplay 1 = .ok (.iconst 0, 1) := by decide +kernel
theorem dL_versionByReplay_2 : decode cL_versionByReplay 2 = .ok (.aload_n 0, 1) := by decide +kernel
theorem dL_versionByReplay_3 : decode cL_versionByReplay 3 = .ok (.iload_n 1, 1) := by decide +kernel
theorem dL_versionByReplay_4 : decode cL_versionByReplay 4 = .ok (.invokevirtual 71, 3) := by decide +kernel
theorem dL_versionByReplay_7 : decode cL_versionByReplay 7 = .ok (.i2l, 1) := by decide +kernel
theorem dL_versionByReplay_8 : decode cL_versionByReplay 8 = .ok (.lastore, 1) := by decide +kernel
theorem dL_versionByReplay_9 : decode cL_versionByReplay 9 = .ok (.goto 6, 3) := by decide +kernel
theorem dL_versionByReplay_12 : decode cL_versionByReplay 12 = .ok (.astore_n 3, 1) := by decide +kernel
theorem dL_versionByReplay_13 : decode cL_versionByReplay 13 = .ok (.iconst 1, 1) := by decide +kernel
theorem dL_versionByReplay_14 : decode cL_versionByReplay 14 = .ok (.ireturn, 1) := by decide +kernel
theorem dL_versionByReplay_15 : decode cL_versionByReplay 15 = .ok (.iconst 0, 1) := by decide +kernel
theorem dL_versionByReplay_16 : decode cL_versionByReplay 16 = .ok (.ireturn, 1) := by decide +kernel
theorem dL_versionOn_0 : decode cL_versionOn 0 = .ok (.aload_n 2, 1) := by decide +kernel
theorem dL_versionOn_1 : decode cL_versionOn 1 = .ok (.iconst 0, 1) := by decide +kernel
theorem dL_versionOn_2 : decode cL_versionOn 2 = .ok (.aload_n 0, 1) := by decide +kernel
theorem dL_versionOn_3 : decode cL_versionOn 3 = .ok (.iload_n 1, 1) := by decide +kernel
theorem dL_versionOn_4 : decode cL_versionOn 4 = .ok (.invokevirtual 74, 3) := by decide +kernel
theorem dL_versionOn_7 : decode cL_versionOn 7 = .ok (.i2l, 1) := by decide +kernel
theorem dL_versionOn_8 : decode cL_versionOn 8 = .ok (.lastore, 1) := by decide +kernel
theorem dL_versionOn_9 : decode cL_versionOn 9 = .ok (.goto 6, 3) := by decide +kernel
theorem dL_versionOn_12 : decode cL_versionOn 12 = .ok (.astore_n 3, 1) := by decide +kernel
theorem dL_versionOn_13 : decode cL_versionOn 13 = .ok (.iconst 1, 1) := by decide +kernel
theorem dL_versionOn_14 : decode cL_versionOn 14 = .ok (.ireturn, 1) := by decide +kernel
theorem dL_versionOn_15 : decode cL_versionOn 15 = .ok (.iconst 0, 1) := by decide +kernel
theorem dL_versionOn_16 : decode cL_versionOn 16 = .ok (.ireturn, 1) := by decide +kernel
theorem dL_fromIn_0 : decode cL_fromIn 0 = .ok (.aload_n 3, 1) := by decide +kernel
theorem dL_fromIn_1 : decode cL_fromIn 1 = .ok (.iconst 0, 1) := by decide +kernel
theorem dL_fromIn_2 : decode cL_fromIn 2 = .ok (.aload_n 0, 1) := by decide +kernel
theorem dL_fromIn_3 : decode cL_fromIn 3 = .ok (.iload_n 1, 1) := by decide +kernel
theorem dL_fromIn_4 : decode cL_fromIn 4 = .ok (.iload_n 2, 1) := by decide +kernel
theorem dL_fromIn_5 : decode cL_fromIn 5 = .ok (.invokevirtual 77, 3) := by decide +kernel
theorem dL_fromIn_8 : decode cL_fromIn 8 = .ok (.i2l, 1) := by decide +kernel
theorem dL_fromIn_9 : decode cL_fromIn 9 = .ok (.lastore, 1) := by decide +kernel
theorem dL_fromIn_10 : decode cL_fromIn 10 = .ok (.goto 11, 3) := by decide +kernel
theorem dL_fromIn_13 : decode cL_fromIn 13 = .ok (.astore 4, 2) := by decide +kernel
theorem dL_fromIn_15 : decode cL_fromIn 15 = .ok (.iconst 1, 1) := by decide +kernel
theorem dL_fromIn_16 : decode cL_fromIn 16 = .ok (.ireturn, 1) := by decide +kernel
theorem dL_fromIn_17 : decode cL_fromIn 17 = .ok (.astore 4, 2) := by decide +kernel
theorem dL_fromIn_19 : decode cL_fromIn 19 = .ok (.iconst 2, 1) := by decide +kernel
theorem dL_fromIn_20 : decode cL_fromIn 20 = .ok (.ireturn, 1) := by decide +kernel
theorem dL_fromIn_21 : decode cL_fromIn 21 = .ok (.iconst 0, 1) := by decide +kernel
theorem dL_fromIn_22 : decode cL_fromIn 22 = .ok (.ireturn, 1) := by decide +kernel
theorem dL_waiting_0 : decode cL_waiting 0 = .ok (.aload_n 2, 1) := by decide +kernel
theorem dL_waiting_1 : decode cL_waiting 1 = .ok (.iconst 0, 1) := by decide +kernel
theorem dL_waiting_2 : decode cL_waiting 2 = .ok (.aload_n 0, 1) := by decide +kernel
theorem dL_waiting_3 : decode cL_waiting 3 = .ok (.iload_n 1, 1) := by decide +kernel
theorem dL_waiting_4 : decode cL_waiting 4 = .ok (.invokevirtual 80, 3) := by decide +kernel
theorem dL_waiting_7 : decode cL_waiting 7 = .ok (.i2l, 1) := by decide +kernel
theorem dL_waiting_8 : decode cL_waiting 8 = .ok (.lastore, 1) := by decide +kernel
theorem dL_waiting_9 : decode cL_waiting 9 = .ok (.goto 6, 3) := by decide +kernel
theorem dL_waiting_12 : decode cL_waiting 12 = .ok (.astore_n 3, 1) := by decide +kernel
theorem dL_waiting_13 : decode cL_waiting 13 = .ok (.iconst 1, 1) := by decide +kernel
theorem dL_waiting_14 : decode cL_waiting 14 = .ok (.ireturn, 1) := by decide +kernel
theorem dL_waiting_15 : decode cL_waiting 15 = .ok (.iconst 0, 1) := by decide +kernel
theorem dL_waiting_16 : decode cL_waiting 16 = .ok (.ireturn, 1) := by decide +kernel
theorem dL_carried_0 : decode cL_carried 0 = .ok (.aload_n 2, 1) := by decide +kernel
theorem dL_carried_1 : decode cL_carried 1 = .ok (.iconst 0, 1) := by decide +kernel
theorem dL_carried_2 : decode cL_carried 2 = .ok (.aload_n 0, 1) := by decide +kernel
theorem dL_carried_3 : decode cL_carried 3 = .ok (.iload_n 1, 1) := by decide +kernel
theorem dL_carried_4 : decode cL_carried 4 = .ok (.invokevirtual 83, 3) := by decide +kernel
theorem dL_carried_7 : decode cL_carried 7 = .ok (.i2l, 1) := by decide +kernel
theorem dL_carried_8 : decode cL_carried 8 = .ok (.lastore, 1) := by decide +kernel
theorem dL_carried_9 : decode cL_carried 9 = .ok (.goto 6, 3) := by decide +kernel
theorem dL_carried_12 : decode cL_carried 12 = .ok (.astore_n 3, 1) := by decide +kernel
theorem dL_carried_13 : decode cL_carried 13 = .ok (.iconst 1, 1) := by decide +kernel
theorem dL_carried_14 : decode cL_carried 14 = .ok (.ireturn, 1) := by decide +kernel
theorem dL_carried_15 : decode cL_carried 15 = .ok (.iconst 0, 1) := by decide +kernel
theorem dL_carried_16 : decode cL_carried 16 = .ok (.ireturn, 1) := by decide +kernel
theorem dL_letterOf_0 : decode cL_letterOf 0 = .ok (.aload_n 2, 1) := by decide +kernel
theorem dL_letterOf_1 : decode cL_letterOf 1 = .ok (.iconst 0, 1) := by decide +kernel
theorem dL_letterOf_2 : decode cL_letterOf 2 = .ok (.aload_n 0, 1) := by decide +kernel
theorem dL_letterOf_3 : decode cL_letterOf 3 = .ok (.iload_n 1, 1) := by decide +kernel
theorem dL_letterOf_4 : decode cL_letterOf 4 = .ok (.invokevirtual 86, 3) := by decide +kernel
theorem dL_letterOf_7 : decode cL_letterOf 7 = .ok (.i2l, 1) := by decide +kernel
theorem dL_letterOf_8 : decode cL_letterOf 8 = .ok (.lastore, 1) := by decide +kernel
theorem dL_letterOf_9 : decode cL_letterOf 9 = .ok (.goto 6, 3) := by decide +kernel
theorem dL_letterOf_12 : decode cL_letterOf 12 = .ok (.astore_n 3, 1) := by decide +kernel
theorem dL_letterOf_13 : decode cL_letterOf 13 = .ok (.iconst 1, 1) := by decide +kernel
theorem dL_letterOf_14 : decode cL_letterOf 14 = .ok (.ireturn, 1) := by decide +kernel
theorem dL_letterOf_15 : decode cL_letterOf 15 = .ok (.iconst 0, 1) := by decide +kernel
theorem dL_letterOf_16 : decode cL_letterOf 16 = .ok (.ireturn, 1) := by decide +kernel
theorem dL_letterByList_0 : decode cL_letterByList 0 = .ok (.aload_n 2, 1) := by decide +kernel
theorem dL_letterByList_1 : decode cL_letterByList 1 = .ok (.iconst 0, 1) := by decide +kernel
theorem dL_letterByList_2 : decode cL_letterByList 2 = .ok (.aload_n 0, 1) := by decide +kernel
theorem dL_letterByList_3 : decode cL_letterByList 3 = .ok (.iload_n 1, 1) := by decide +kernel
theorem dL_letterByList_4 : decode cL_letterByList 4 = .ok (.invokevirtual 90, 3) := by decide +kernel
theorem dL_letterByList_7 : decode cL_letterByList 7 = .ok (.i2l, 1) := by decide +kernel
theorem dL_letterByList_8 : decode cL_letterByList 8 = .ok (.lastore, 1) := by decide +kernel
theorem dL_letterByList_9 : decode cL_letterByList 9 = .ok (.goto 6, 3) := by decide +kernel
theorem dL_letterByList_12 : decode cL_letterByList 12 = .ok (.astore_n 3, 1) := by decide +kernel
theorem dL_letterByList_13 : decode cL_letterByList 13 = .ok (.iconst 1, 1) := by decide +kernel
theorem dL_letterByList_14 : decode cL_letterByList 14 = .ok (.ireturn, 1) := by decide +kernel
theorem dL_letterByList_15 : decode cL_letterByList 15 = .ok (.iconst 0, 1) := by decide +kernel
theorem dL_letterByList_16 : decode cL_letterByList 16 = .ok (.ireturn, 1) := by decide +kernel
theorem dL_minuteOf_0 : decode cL_minuteOf 0 = .ok (.aload_n 2, 1) := by decide +kernel
theorem dL_minuteOf_1 : decode cL_minuteOf 1 = .ok (.iconst 0, 1) := by decide +kernel
theorem dL_minuteOf_2 : decode cL_minuteOf 2 = .ok (.aload_n 0, 1) := by decide +kernel
theorem dL_minuteOf_3 : decode cL_minuteOf 3 = .ok (.iload_n 1, 1) := by decide +kernel
theorem dL_minuteOf_4 : decode cL_minuteOf 4 = .ok (.invokevirtual 93, 3) := by decide +kernel
theorem dL_minuteOf_7 : decode cL_minuteOf 7 = .ok (.i2l, 1) := by decide +kernel
theorem dL_minuteOf_8 : decode cL_minuteOf 8 = .ok (.lastore, 1) := by decide +kernel
theorem dL_minuteOf_9 : decode cL_minuteOf 9 = .ok (.goto 6, 3) := by decide +kernel
theorem dL_minuteOf_12 : decode cL_minuteOf 12 = .ok (.astore_n 3, 1) := by decide +kernel
theorem dL_minuteOf_13 : decode cL_minuteOf 13 = .ok (.iconst 1, 1) := by decide +kernel
theorem dL_minuteOf_14 : decode cL_minuteOf 14 = .ok (.ireturn, 1) := by decide +kernel
theorem dL_minuteOf_15 : decode cL_minuteOf 15 = .ok (.iconst 0, 1) := by decide +kernel
theorem dL_minuteOf_16 : decode cL_minuteOf 16 = .ok (.ireturn, 1) := by decide +kernel
theorem dL_versionAt_0 : decode cL_versionAt 0 = .ok (.aload_n 2, 1) := by decide +kernel
theorem dL_versionAt_1 : decode cL_versionAt 1 = .ok (.iconst 0, 1) := by decide +kernel
theorem dL_versionAt_2 : decode cL_versionAt 2 = .ok (.aload_n 0, 1) := by decide +kernel
theorem dL_versionAt_3 : decode cL_versionAt 3 = .ok (.iload_n 1, 1) := by decide +kernel
theorem dL_versionAt_4 : decode cL_versionAt 4 = .ok (.invokevirtual 96, 3) := by decide +kernel
theorem dL_versionAt_7 : decode cL_versionAt 7 = .ok (.i2l, 1) := by decide +kernel
theorem dL_versionAt_8 : decode cL_versionAt 8 = .ok (.lastore, 1) := by decide +kernel
theorem dL_versionAt_9 : decode cL_versionAt 9 = .ok (.goto 6, 3) := by decide +kernel
theorem dL_versionAt_12 : decode cL_versionAt 12 = .ok (.astore_n 3, 1) := by decide +kernel
theorem dL_versionAt_13 : decode cL_versionAt 13 = .ok (.iconst 1, 1) := by decide +kernel
theorem dL_versionAt_14 : decode cL_versionAt 14 = .ok (.ireturn, 1) := by decide +kernel
theorem dL_versionAt_15 : decode cL_versionAt 15 = .ok (.iconst 0, 1) := by decide +kernel
theorem dL_versionAt_16 : decode cL_versionAt 16 = .ok (.ireturn, 1) := by decide +kernel
theorem dL_hasArrived_0 : decode cL_hasArrived 0 = .ok (.aload_n 2, 1) := by decide +kernel
theorem dL_hasArrived_1 : decode cL_hasArrived 1 = .ok (.iconst 0, 1) := by decide +kernel
theorem dL_hasArrived_2 : decode cL_hasArrived 2 = .ok (.aload_n 0, 1) := by decide +kernel
theorem dL_hasArrived_3 : decode cL_hasArrived 3 = .ok (.iload_n 1, 1) := by decide +kernel
theorem dL_hasArrived_4 : decode cL_hasArrived 4 = .ok (.invokevirtual 99, 3) := by decide +kernel
theorem dL_hasArrived_7 : decode cL_hasArrived 7 = .ok (.ifCond .eq 7, 3) := by decide +kernel
theorem dL_hasArrived_10 : decode cL_hasArrived 10 = .ok (.lconst 1, 1) := by decide +kernel
theorem dL_hasArrived_11 : decode cL_hasArrived 11 = .ok (.goto 4, 3) := by decide +kernel
theorem dL_hasArrived_14 : decode cL_hasArrived 14 = .ok (.lconst 0, 1) := by decide +kernel
theorem dL_hasArrived_15 : decode cL_hasArrived 15 = .ok (.lastore, 1) := by decide +kernel
theorem dL_hasArrived_16 : decode cL_hasArrived 16 = .ok (.goto 6, 3) := by decide +kernel
theorem dL_hasArrived_19 : decode cL_hasArrived 19 = .ok (.astore_n 3, 1) := by decide +kernel
theorem dL_hasArrived_20 : decode cL_hasArrived 20 = .ok (.iconst 1, 1) := by decide +kernel
theorem dL_hasArrived_21 : decode cL_hasArrived 21 = .ok (.ireturn, 1) := by decide +kernel
theorem dL_hasArrived_22 : decode cL_hasArrived 22 = .ok (.iconst 0, 1) := by decide +kernel
theorem dL_hasArrived_23 : decode cL_hasArrived 23 = .ok (.ireturn, 1) := by decide +kernel
theorem dL_isBreach_0 : decode cL_isBreach 0 = .ok (.aload_n 2, 1) := by decide +kernel
theorem dL_isBreach_1 : decode cL_isBreach 1 = .ok (.iconst 0, 1) := by decide +kernel
theorem dL_isBreach_2 : decode cL_isBreach 2 = .ok (.aload_n 0, 1) := by decide +kernel
theorem dL_isBreach_3 : decode cL_isBreach 3 = .ok (.iload_n 1, 1) := by decide +kernel
theorem dL_isBreach_4 : decode cL_isBreach 4 = .ok (.invokevirtual 103, 3) := by decide +kernel
theorem dL_isBreach_7 : decode cL_isBreach 7 = .ok (.ifCond .eq 7, 3) := by decide +kernel
theorem dL_isBreach_10 : decode cL_isBreach 10 = .ok (.lconst 1, 1) := by decide +kernel
theorem dL_isBreach_11 : decode cL_isBreach 11 = .ok (.goto 4, 3) := by decide +kernel
theorem dL_isBreach_14 : decode cL_isBreach 14 = .ok (.lconst 0, 1) := by decide +kernel
theorem dL_isBreach_15 : decode cL_isBreach 15 = .ok (.lastore, 1) := by decide +kernel
theorem dL_isBreach_16 : decode cL_isBreach 16 = .ok (.goto 6, 3) := by decide +kernel
theorem dL_isBreach_19 : decode cL_isBreach 19 = .ok (.astore_n 3, 1) := by decide +kernel
theorem dL_isBreach_20 : decode cL_isBreach 20 = .ok (.iconst 1, 1) := by decide +kernel
theorem dL_isBreach_21 : decode cL_isBreach 21 = .ok (.ireturn, 1) := by decide +kernel
theorem dL_isBreach_22 : decode cL_isBreach 22 = .ok (.iconst 0, 1) := by decide +kernel
theorem dL_isBreach_23 : decode cL_isBreach 23 = .ok (.ireturn, 1) := by decide +kernel
theorem dL_breachesAt_0 : decode cL_breachesAt 0 = .ok (.aload_n 2, 1) := by decide +kernel
theorem dL_breachesAt_1 : decode cL_breachesAt 1 = .ok (.iconst 0, 1) := by decide +kernel
theorem dL_breachesAt_2 : decode cL_breachesAt 2 = .ok (.aload_n 0, 1) := by decide +kernel
theorem dL_breachesAt_3 : decode cL_breachesAt 3 = .ok (.iload_n 1, 1) := by decide +kernel
theorem dL_breachesAt_4 : decode cL_breachesAt 4 = .ok (.invokevirtual 106, 3) := by decide +kernel
theorem dL_breachesAt_7 : decode cL_breachesAt 7 = .ok (.i2l, 1) := by decide +kernel
theorem dL_breachesAt_8 : decode cL_breachesAt 8 = .ok (.lastore, 1) := by decide +kernel
theorem dL_breachesAt_9 : decode cL_breachesAt 9 = .ok (.goto 6, 3) := by decide +kernel
theorem dL_breachesAt_12 : decode cL_breachesAt 12 = .ok (.astore_n 3, 1) := by decide +kernel
theorem dL_breachesAt_13 : decode cL_breachesAt 13 = .ok (.iconst 1, 1) := by decide +kernel
theorem dL_breachesAt_14 : decode cL_breachesAt 14 = .ok (.ireturn, 1) := by decide +kernel
theorem dL_breachesAt_15 : decode cL_breachesAt 15 = .ok (.iconst 0, 1) := by decide +kernel
theorem dL_breachesAt_16 : decode cL_breachesAt 16 = .ok (.ireturn, 1) := by decide +kernel
theorem dL_meanDelay_0 : decode cL_meanDelay 0 = .ok (.aload_n 1, 1) := by decide +kernel
theorem dL_meanDelay_1 : decode cL_meanDelay 1 = .ok (.iconst 0, 1) := by decide +kernel
theorem dL_meanDelay_2 : decode cL_meanDelay 2 = .ok (.aload_n 0, 1) := by decide +kernel
theorem dL_meanDelay_3 : decode cL_meanDelay 3 = .ok (.invokevirtual 109, 3) := by decide +kernel
theorem dL_meanDelay_6 : decode cL_meanDelay 6 = .ok (.dastore, 1) := by decide +kernel
theorem dL_meanDelay_7 : decode cL_meanDelay 7 = .ok (.goto 6, 3) := by decide +kernel
theorem dL_meanDelay_10 : decode cL_meanDelay 10 = .ok (.astore_n 2, 1) := by decide +kernel
theorem dL_meanDelay_11 : decode cL_meanDelay 11 = .ok (.iconst 1, 1) := by decide +kernel
theorem dL_meanDelay_12 : decode cL_meanDelay 12 = .ok (.ireturn, 1) := by decide +kernel
theorem dL_meanDelay_13 : decode cL_meanDelay 13 = .ok (.iconst 0, 1) := by decide +kernel
theorem dL_meanDelay_14 : decode cL_meanDelay 14 = .ok (.ireturn, 1) := by decide +kernel
theorem dL_meanBits_0 : decode cL_meanBits 0 = .ok (.aload_n 1, 1) := by decide +kernel
theorem dL_meanBits_1 : decode cL_meanBits 1 = .ok (.iconst 0, 1) := by decide +kernel
theorem dL_meanBits_2 : decode cL_meanBits 2 = .ok (.aload_n 0, 1) := by decide +kernel
theorem dL_meanBits_3 : decode cL_meanBits 3 = .ok (.invokevirtual 115, 3) := by decide +kernel
theorem dL_meanBits_6 : decode cL_meanBits 6 = .ok (.lastore, 1) := by decide +kernel
theorem dL_meanBits_7 : decode cL_meanBits 7 = .ok (.goto 6, 3) := by decide +kernel
theorem dL_meanBits_10 : decode cL_meanBits 10 = .ok (.astore_n 2, 1) := by decide +kernel
theorem dL_meanBits_11 : decode cL_meanBits 11 = .ok (.iconst 1, 1) := by decide +kernel
theorem dL_meanBits_12 : decode cL_meanBits 12 = .ok (.ireturn, 1) := by decide +kernel
theorem dL_meanBits_13 : decode cL_meanBits 13 = .ok (.iconst 0, 1) := by decide +kernel
theorem dL_meanBits_14 : decode cL_meanBits 14 = .ok (.ireturn, 1) := by decide +kernel
theorem dL_arrivedShare_0 : decode cL_arrivedShare 0 = .ok (.aload_n 1, 1) := by decide +kernel
theorem dL_arrivedShare_1 : decode cL_arrivedShare 1 = .ok (.iconst 0, 1) := by decide +kernel
theorem dL_arrivedShare_2 : decode cL_arrivedShare 2 = .ok (.aload_n 0, 1) := by decide +kernel
theorem dL_arrivedShare_3 : decode cL_arrivedShare 3 = .ok (.invokevirtual 119, 3) := by decide +kernel
theorem dL_arrivedShare_6 : decode cL_arrivedShare 6 = .ok (.f2d, 1) := by decide +kernel
theorem dL_arrivedShare_7 : decode cL_arrivedShare 7 = .ok (.dastore, 1) := by decide +kernel
theorem dL_arrivedShare_8 : decode cL_arrivedShare 8 = .ok (.goto 6, 3) := by decide +kernel
theorem dL_arrivedShare_11 : decode cL_arrivedShare 11 = .ok (.astore_n 2, 1) := by decide +kernel
theorem dL_arrivedShare_12 : decode cL_arrivedShare 12 = .ok (.iconst 1, 1) := by decide +kernel
theorem dL_arrivedShare_13 : decode cL_arrivedShare 13 = .ok (.ireturn, 1) := by decide +kernel
theorem dL_arrivedShare_14 : decode cL_arrivedShare 14 = .ok (.iconst 0, 1) := by decide +kernel
theorem dL_arrivedShare_15 : decode cL_arrivedShare 15 = .ok (.ireturn, 1) := by decide +kernel
theorem dL_law_0 : decode cL_law 0 = .ok (.new 8, 3) := by decide +kernel
theorem dL_law_3 : decode cL_law 3 = .ok (.dup, 1) := by decide +kernel
theorem dL_law_4 : decode cL_law 4 = .ok (.invokespecial 123, 3) := by decide +kernel
theorem dL_law_7 : decode cL_law 7 = .ok (.astore_n 1, 1) := by decide +kernel
theorem dL_law_8 : decode cL_law 8 = .ok (.new 124, 3) := by decide +kernel
theorem dL_law_11 : decode cL_law 11 = .ok (.dup, 1) := by decide +kernel
theorem dL_law_12 : decode cL_law 12 = .ok (.invokespecial 126, 3) := by decide +kernel
theorem dL_law_15 : decode cL_law 15 = .ok (.astore_n 2, 1) := by decide +kernel
theorem dL_law_16 : decode cL_law 16 = .ok (.iconst 1, 1) := by decide +kernel
theorem dL_law_17 : decode cL_law 17 = .ok (.newarray .long, 2) := by decide +kernel
theorem dL_law_19 : decode cL_law 19 = .ok (.astore_n 3, 1) := by decide +kernel
theorem dL_law_20 : decode cL_law 20 = .ok (.iconst 1, 1) := by decide +kernel
theorem dL_law_21 : decode cL_law 21 = .ok (.newarray .double, 2) := by decide +kernel
theorem dL_law_23 : decode cL_law 23 = .ok (.astore 4, 2) := by decide +kernel
theorem dL_law_25 : decode cL_law 25 = .ok (.iconst 0, 1) := by decide +kernel
theorem dL_law_26 : decode cL_law 26 = .ok (.istore 5, 2) := by decide +kernel
theorem dL_law_28 : decode cL_law 28 = .ok (.iload 5, 2) := by decide +kernel
theorem dL_law_30 : decode cL_law 30 = .ok (.aload_n 0, 1) := by decide +kernel
theorem dL_law_31 : decode cL_law 31 = .ok (.arraylength, 1) := by decide +kernel
theorem dL_law_32 : decode cL_law 32 = .ok (.iconst 4, 1) := by decide +kernel
theorem dL_law_33 : decode cL_law 33 = .ok (.isub, 1) := by decide +kernel
theorem dL_law_34 : decode cL_law 34 = .ok (.if_icmp .gt 2133, 3) := by decide +kernel
theorem dL_law_37 : decode cL_law 37 = .ok (.aload_n 0, 1) := by decide +kernel
theorem dL_law_38 : decode cL_law 38 = .ok (.iload 5, 2) := by decide +kernel
theorem dL_law_40 : decode cL_law 40 = .ok (.iaload, 1) := by decide +kernel
theorem dL_law_41 : decode cL_law 41 = .ok (.bipush 63, 2) := by decide +kernel
theorem dL_law_43 : decode cL_law 43 = .ok (.iand, 1) := by decide +kernel
theorem dL_law_44 : decode cL_law 44 = .ok (.tableswitch 2117 0 36 #[164, 244, 324, 392, 448, 461, 505, 573, 617, 673, 686, 742, 810, 878, 946, 1002, 1080, 1136, 1192, 1248, 1304, 1372, 1428, 1484, 1497, 1553, 1609, 1665, 1721, 1784, 1847, 1860, 1916, 1930, 1995, 2038, 2104], 164) := by decide +kernel
theorem dL_law_208 : decode cL_law 208 = .ok (.aload_n 1, 1) := by decide +kernel
theorem dL_law_209 : decode cL_law 209 = .ok (.aload_n 0, 1) := by decide +kernel
theorem dL_law_210 : decode cL_law 210 = .ok (.iload 5, 2) := by decide +kernel
theorem dL_law_212 : decode cL_law 212 = .ok (.iconst 1, 1) := by decide +kernel
theorem dL_law_213 : decode cL_law 213 = .ok (.iadd, 1) := by decide +kernel
theorem dL_law_214 : decode cL_law 214 = .ok (.iaload, 1) := by decide +kernel
theorem dL_law_215 : decode cL_law 215 = .ok (.aload_n 0, 1) := by decide +kernel
theorem dL_law_216 : decode cL_law 216 = .ok (.iload 5, 2) := by decide +kernel
theorem dL_law_218 : decode cL_law 218 = .ok (.iconst 2, 1) := by decide +kernel
theorem dL_law_219 : decode cL_law 219 = .ok (.iadd, 1) := by decide +kernel
theorem dL_law_220 : decode cL_law 220 = .ok (.iaload, 1) := by decide +kernel
theorem dL_law_221 : decode cL_law 221 = .ok (.aload_n 0, 1) := by decide +kernel
theorem dL_law_222 : decode cL_law 222 = .ok (.iload 5, 2) := by decide +kernel
theorem dL_law_224 : decode cL_law 224 = .ok (.iconst 3, 1) := by decide +kernel
theorem dL_law_225 : decode cL_law 225 = .ok (.iadd, 1) := by decide +kernel
theorem dL_law_226 : decode cL_law 226 = .ok (.iaload, 1) := by decide +kernel
theorem dL_law_227 : decode cL_law 227 = .ok (.aload_n 3, 1) := by decide +kernel
theorem dL_law_228 : decode cL_law 228 = .ok (.invokestatic 127, 3) := by decide +kernel
theorem dL_law_231 : decode cL_law 231 = .ok (.istore 6, 2) := by decide +kernel
theorem dL_law_233 : decode cL_law 233 = .ok (.aload_n 2, 1) := by decide +kernel
theorem dL_law_234 : decode cL_law 234 = .ok (.aload_n 0, 1) := by decide +kernel
theorem dL_law_235 : decode cL_law 235 = .ok (.iload 5, 2) := by decide +kernel
theorem dL_law_237 : decode cL_law 237 = .ok (.iconst 1, 1) := by decide +kernel
theorem dL_law_238 : decode cL_law 238 = .ok (.iadd, 1) := by decide +kernel
theorem dL_law_239 : decode cL_law 239 = .ok (.iaload, 1) := by decide +kernel
theorem dL_law_240 : decode cL_law 240 = .ok (.aload_n 0, 1) := by decide +kernel
theorem dL_law_241 : decode cL_law 241 = .ok (.iload 5, 2) := by decide +kernel
theorem dL_law_243 : decode cL_law 243 = .ok (.iconst 2, 1) := by decide +kernel
theorem dL_law_244 : decode cL_law 244 = .ok (.iadd, 1) := by decide +kernel
theorem dL_law_245 : decode cL_law 245 = .ok (.iaload, 1) := by decide +kernel
theorem dL_law_246 : decode cL_law 246 = .ok (.aload_n 0, 1) := by decide +kernel
theorem dL_law_247 : decode cL_law 247 = .ok (.iload 5, 2) := by decide +kernel
theorem dL_law_249 : decode cL_law 249 = .ok (.iconst 3, 1) := by decide +kernel
theorem dL_law_250 : decode cL_law 250 = .ok (.iadd, 1) := by decide +kernel
theorem dL_law_251 : decode cL_law 251 = .ok (.iaload, 1) := by decide +kernel
theorem dL_law_252 : decode cL_law 252 = .ok (.invokevirtual 132, 3) := by decide +kernel
theorem dL_law_255 : decode cL_law 255 = .ok (.istore 7, 2) := by decide +kernel
theorem dL_law_257 : decode cL_law 257 = .ok (.aload_n 2, 1) := by decide +kernel
theorem dL_law_258 : decode cL_law 258 = .ok (.invokevirtual 133, 3) := by decide +kernel
theorem dL_law_261 : decode cL_law 261 = .ok (.iload 6, 2) := by decide +kernel
theorem dL_law_263 : decode cL_law 263 = .ok (.if_icmp .eq 5, 3) := by decide +kernel
theorem dL_law_266 : decode cL_law 266 = .ok (.iconst 0, 1) := by decide +kernel
theorem dL_law_267 : decode cL_law 267 = .ok (.ireturn, 1) := by decide +kernel
theorem dL_law_268 : decode cL_law 268 = .ok (.iload 6, 2) := by decide +kernel
theorem dL_law_270 : decode cL_law 270 = .ok (.ifCond .ne 15, 3) := by decide +kernel
theorem dL_law_273 : decode cL_law 273 = .ok (.aload_n 3, 1) := by decide +kernel
theorem dL_law_274 : decode cL_law 274 = .ok (.iconst 0, 1) := by decide +kernel
theorem dL_law_275 : decode cL_law 275 = .ok (.laload, 1) := by decide +kernel
theorem dL_law_276 : decode cL_law 276 = .ok (.iload 7, 2) := by decide +kernel
theorem dL_law_278 : decode cL_law 278 = .ok (.i2l, 1) := by decide +kernel
theorem dL_law_279 : decode cL_law 279 = .ok (.lcmp, 1) := by decide +kernel
theorem dL_law_280 : decode cL_law 280 = .ok (.ifCond .eq 5, 3) := by decide +kernel
theorem dL_law_283 : decode cL_law 283 = .ok (.iconst 0, 1) := by decide +kernel
theorem dL_law_284 : decode cL_law 284 = .ok (.ireturn, 1) := by decide +kernel
theorem dL_law_285 : decode cL_law 285 = .ok (.goto 1876, 3) := by decide +kernel
theorem dL_law_288 : decode cL_law 288 = .ok (.aload_n 1, 1) := by decide +kernel
theorem dL_law_289 : decode cL_law 289 = .ok (.aload_n 0, 1) := by decide +kernel
theorem dL_law_290 : decode cL_law 290 = .ok (.iload 5, 2) := by decide +kernel
theorem dL_law_292 : decode cL_law 292 = .ok (.iconst 1, 1) := by decide +kernel
theorem dL_law_293 : decode cL_law 293 = .ok (.iadd, 1) := by decide +kernel
theorem dL_law_294 : decode cL_law 294 = .ok (.iaload, 1) := by decide +kernel
theorem dL_law_295 : decode cL_law 295 = .ok (.aload_n 0, 1) := by decide +kernel
theorem dL_law_296 : decode cL_law 296 = .ok (.iload 5, 2) := by decide +kernel
theorem dL_law_298 : decode cL_law 298 = .ok (.iconst 2, 1) := by decide +kernel
theorem dL_law_299 : decode cL_law 299 = .ok (.iadd, 1) := by decide +kernel
theorem dL_law_300 : decode cL_law 300 = .ok (.iaload, 1) := by decide +kernel
theorem dL_law_301 : decode cL_law 301 = .ok (.aload_n 0, 1) := by decide +kernel
theorem dL_law_302 : decode cL_law 302 = .ok (.iload 5, 2) := by decide +kernel
theorem dL_law_304 : decode cL_law 304 = .ok (.iconst 3, 1) := by decide +kernel
theorem dL_law_305 : decode cL_law 305 = .ok (.iadd, 1) := by decide +kernel
theorem dL_law_306 : decode cL_law 306 = .ok (.iaload, 1) := by decide +kernel
theorem dL_law_307 : decode cL_law 307 = .ok (.aload_n 3, 1) := by decide +kernel
theorem dL_law_308 : decode cL_law 308 = .ok (.invokestatic 136, 3) := by decide +kernel
theorem dL_law_311 : decode cL_law 311 = .ok (.istore 6, 2) := by decide +kernel
theorem dL_law_313 : decode cL_law 313 = .ok (.aload_n 2, 1) := by decide +kernel
theorem dL_law_314 : decode cL_law 314 = .ok (.aload_n 0, 1) := by decide +kernel
theorem dL_law_315 : decode cL_law 315 = .ok (.iload 5, 2) := by decide +kernel
theorem dL_law_317 : decode cL_law 317 = .ok (.iconst 1, 1) := by decide +kernel
theorem dL_law_318 : decode cL_law 318 = .ok (.iadd, 1) := by decide +kernel
theorem dL_law_319 : decode cL_law 319 = .ok (.iaload, 1) := by decide +kernel
theorem dL_law_320 : decode cL_law 320 = .ok (.aload_n 0, 1) := by decide +kernel
theorem dL_law_321 : decode cL_law 321 = .ok (.iload 5, 2) := by decide +kernel
theorem dL_law_323 : decode cL_law 323 = .ok (.iconst 2, 1) := by decide +kernel
theorem dL_law_324 : decode cL_law 324 = .ok (.iadd, 1) := by decide +kernel
theorem dL_law_325 : decode cL_law 325 = .ok (.iaload, 1) := by decide +kernel
theorem dL_law_326 : decode cL_law 326 = .ok (.aload_n 0, 1) := by decide +kernel
theorem dL_law_327 : decode cL_law 327 = .ok (.iload 5, 2) := by decide +kernel
theorem dL_law_329 : decode cL_law 329 = .ok (.iconst 3, 1) := by decide +kernel
theorem dL_law_330 : decode cL_law 330 = .ok (.iadd, 1) := by decide +kernel
theorem dL_law_331 : decode cL_law 331 = .ok (.iaload, 1) := by decide +kernel
theorem dL_law_332 : decode cL_law 332 = .ok (.invokevirtual 138, 3) := by decide +kernel
theorem dL_law_335 : decode cL_law 335 = .ok (.istore 7, 2) := by decide +kernel
theorem dL_law_337 : decode cL_law 337 = .ok (.aload_n 2, 1) := by decide +kernel
theorem dL_law_338 : decode cL_law 338 = .ok (.invokevirtual 133, 3) := by decide +kernel
theorem dL_law_341 : decode cL_law 341 = .ok (.iload 6, 2) := by decide +kernel
theorem dL_law_343 : decode cL_law 343 = .ok (.if_icmp .eq 5, 3) := by decide +kernel
theorem dL_law_346 : decode cL_law 346 = .ok (.iconst 0, 1) := by decide +kernel
theorem dL_law_347 : decode cL_law 347 = .ok (.ireturn, 1) := by decide +kernel
theorem dL_law_348 : decode cL_law 348 = .ok (.iload 6, 2) := by decide +kernel
theorem dL_law_350 : decode cL_law 350 = .ok (.ifCond .ne 15, 3) := by decide +kernel
theorem dL_law_353 : decode cL_law 353 = .ok (.aload_n 3, 1) := by decide +kernel
theorem dL_law_354 : decode cL_law 354 = .ok (.iconst 0, 1) := by decide +kernel
theorem dL_law_355 : decode cL_law 355 = .ok (.laload, 1) := by decide +kernel
theorem dL_law_356 : decode cL_law 356 = .ok (.iload 7, 2) := by decide +kernel
theorem dL_law_358 : decode cL_law 358 = .ok (.i2l, 1) := by decide +kernel
theorem dL_law_359 : decode cL_law 359 = .ok (.lcmp, 1) := by decide +kernel
theorem dL_law_360 : decode cL_law 360 = .ok (.ifCond .eq 5, 3) := by decide +kernel
theorem dL_law_363 : decode cL_law 363 = .ok (.iconst 0, 1) := by decide +kernel
theorem dL_law_364 : decode cL_law 364 = .ok (.ireturn, 1) := by decide +kernel
theorem dL_law_365 : decode cL_law 365 = .ok (.goto 1796, 3) := by decide +kernel
theorem dL_law_368 : decode cL_law 368 = .ok (.aload_n 1, 1) := by decide +kernel
theorem dL_law_369 : decode cL_law 369 = .ok (.aload_n 0, 1) := by decide +kernel
theorem dL_law_370 : decode cL_law 370 = .ok (.iload 5, 2) := by decide +kernel
theorem dL_law_372 : decode cL_law 372 = .ok (.iconst 1, 1) := by decide +kernel
theorem dL_law_373 : decode cL_law 373 = .ok (.iadd, 1) := by decide +kernel
theorem dL_law_374 : decode cL_law 374 = .ok (.iaload, 1) := by decide +kernel
theorem dL_law_375 : decode cL_law 375 = .ok (.aload_n 0, 1) := by decide +kernel
theorem dL_law_376 : decode cL_law 376 = .ok (.iload 5, 2) := by decide +kernel
theorem dL_law_378 : decode cL_law 378 = .ok (.iconst 2, 1) := by decide +kernel
theorem dL_law_379 : decode cL_law 379 = .ok (.iadd, 1) := by decide +kernel
theorem dL_law_380 : decode cL_law 380 = .ok (.iaload, 1) := by decide +kernel
theorem dL_law_381 : decode cL_law 381 = .ok (.aload_n 3, 1) := by decide +kernel
theorem dL_law_382 : decode cL_law 382 = .ok (.invokestatic 139, 3) := by decide +kernel
theorem dL_law_385 : decode cL_law 385 = .ok (.istore 6, 2) := by decide +kernel
theorem dL_law_387 : decode cL_law 387 = .ok (.aload_n 2, 1) := by decide +kernel
theorem dL_law_388 : decode cL_law 388 = .ok (.aload_n 0, 1) := by decide +kernel
theorem dL_law_389 : decode cL_law 389 = .ok (.iload 5, 2) := by decide +kernel
theorem dL_law_391 : decode cL_law 391 = .ok (.iconst 1, 1) := by decide +kernel
theorem dL_law_392 : decode cL_law 392 = .ok (.iadd, 1) := by decide +kernel
theorem dL_law_393 : decode cL_law 393 = .ok (.iaload, 1) := by decide +kernel
theorem dL_law_394 : decode cL_law 394 = .ok (.aload_n 0, 1) := by decide +kernel
theorem dL_law_395 : decode cL_law 395 = .ok (.iload 5, 2) := by decide +kernel
theorem dL_law_397 : decode cL_law 397 = .ok (.iconst 2, 1) := by decide +kernel
theorem dL_law_398 : decode cL_law 398 = .ok (.iadd, 1) := by decide +kernel
theorem dL_law_399 : decode cL_law 399 = .ok (.iaload, 1) := by decide +kernel
theorem dL_law_400 : decode cL_law 400 = .ok (.invokevirtual 142, 3) := by decide +kernel
theorem dL_law_403 : decode cL_law 403 = .ok (.istore 7, 2) := by decide +kernel
theorem dL_law_405 : decode cL_law 405 = .ok (.aload_n 2, 1) := by decide +kernel
theorem dL_law_406 : decode cL_law 406 = .ok (.invokevirtual 133, 3) := by decide +kernel
theorem dL_law_409 : decode cL_law 409 = .ok (.iload 6, 2) := by decide +kernel
theorem dL_law_411 : decode cL_law 411 = .ok (.if_icmp .eq 5, 3) := by decide +kernel
theorem dL_law_414 : decode cL_law 414 = .ok (.iconst 0, 1) := by decide +kernel
theorem dL_law_415 : decode cL_law 415 = .ok (.ireturn, 1) := by decide +kernel
theorem dL_law_416 : decode cL_law 416 = .ok (.iload 6, 2) := by decide +kernel
theorem dL_law_418 : decode cL_law 418 = .ok (.ifCond .ne 15, 3) := by decide +kernel
theorem dL_law_421 : decode cL_law 421 = .ok (.aload_n 3, 1) := by decide +kernel
theorem dL_law_422 : decode cL_law 422 = .ok (.iconst 0, 1) := by decide +kernel
theorem dL_law_423 : decode cL_law 423 = .ok (.laload, 1) := by decide +kernel
theorem dL_law_424 : decode cL_law 424 = .ok (.iload 7, 2) := by decide +kernel
theorem dL_law_426 : decode cL_law 426 = .ok (.i2l, 1) := by decide +kernel
theorem dL_law_427 : decode cL_law 427 = .ok (.lcmp, 1) := by decide +kernel
theorem dL_law_428 : decode cL_law 428 = .ok (.ifCond .eq 5, 3) := by decide +kernel
theorem dL_law_431 : decode cL_law 431 = .ok (.iconst 0, 1) := by decide +kernel
theorem dL_law_432 : decode cL_law 432 = .ok (.ireturn, 1) := by decide +kernel
theorem dL_law_433 : decode cL_law 433 = .ok (.goto 1728, 3) := by decide +kernel
theorem dL_law_436 : decode cL_law 436 = .ok (.aload_n 1, 1) := by decide +kernel
theorem dL_law_437 : decode cL_law 437 = .ok (.aload_n 0, 1) := by decide +kernel
theorem dL_law_438 : decode cL_law 438 = .ok (.iload 5, 2) := by decide +kernel
theorem dL_law_440 : decode cL_law 440 = .ok (.iconst 1, 1) := by decide +kernel
theorem dL_law_441 : decode cL_law 441 = .ok (.iadd, 1) := by decide +kernel
theorem dL_law_442 : decode cL_law 442 = .ok (.iaload, 1) := by decide +kernel
theorem dL_law_443 : decode cL_law 443 = .ok (.aload_n 3, 1) := by decide +kernel
theorem dL_law_444 : decode cL_law 444 = .ok (.invokestatic 143, 3) := by decide +kernel
theorem dL_law_447 : decode cL_law 447 = .ok (.istore 6, 2) := by decide +kernel
theorem dL_law_449 : decode cL_law 449 = .ok (.aload_n 2, 1) := by decide +kernel
theorem dL_law_450 : decode cL_law 450 = .ok (.aload_n 0, 1) := by decide +kernel
theorem dL_law_451 : decode cL_law 451 = .ok (.iload 5, 2) := by decide +kernel
theorem dL_law_453 : decode cL_law 453 = .ok (.iconst 1, 1) := by decide +kernel
theorem dL_law_454 : decode cL_law 454 = .ok (.iadd, 1) := by decide +kernel
theorem dL_law_455 : decode cL_law 455 = .ok (.iaload, 1) := by decide +kernel
theorem dL_law_456 : decode cL_law 456 = .ok (.invokevirtual 146, 3) := by decide +kernel
theorem dL_law_459 : decode cL_law 459 = .ok (.istore 7, 2) := by decide +kernel
theorem dL_law_461 : decode cL_law 461 = .ok (.aload_n 2, 1) := by decide +kernel
theorem dL_law_462 : decode cL_law 462 = .ok (.invokevirtual 133, 3) := by decide +kernel
theorem dL_law_465 : decode cL_law 465 = .ok (.iload 6, 2) := by decide +kernel
theorem dL_law_467 : decode cL_law 467 = .ok (.if_icmp .eq 5, 3) := by decide +kernel
theorem dL_law_470 : decode cL_law 470 = .ok (.iconst 0, 1) := by decide +kernel
theorem dL_law_471 : decode cL_law 471 = .ok (.ireturn, 1) := by decide +kernel
theorem dL_law_472 : decode cL_law 472 = .ok (.iload 6, 2) := by decide +kernel
theorem dL_law_474 : decode cL_law 474 = .ok (.ifCond .ne 15, 3) := by decide +kernel
theorem dL_law_477 : decode cL_law 477 = .ok (.aload_n 3, 1) := by decide +kernel
theorem dL_law_478 : decode cL_law 478 = .ok (.iconst 0, 1) := by decide +kernel
theorem dL_law_479 : decode cL_law 479 = .ok (.laload, 1) := by decide +kernel
theorem dL_law_480 : decode cL_law 480 = .ok (.iload 7, 2) := by decide +kernel
theorem dL_law_482 : decode cL_law 482 = .ok (.i2l, 1) := by decide +kernel
theorem dL_law_483 : decode cL_law 483 = .ok (.lcmp, 1) := by decide +kernel
theorem dL_law_484 : decode cL_law 484 = .ok (.ifCond .eq 5, 3) := by decide +kernel
theorem dL_law_487 : decode cL_law 487 = .ok (.iconst 0, 1) := by decide +kernel
theorem dL_law_488 : decode cL_law 488 = .ok (.ireturn, 1) := by decide +kernel
theorem dL_law_489 : decode cL_law 489 = .ok (.goto 1672, 3) := by decide +kernel
theorem dL_law_492 : decode cL_law 492 = .ok (.aload_n 1, 1) := by decide +kernel
theorem dL_law_493 : decode cL_law 493 = .ok (.invokevirtual 147, 3) := by decide +kernel
theorem dL_law_496 : decode cL_law 496 = .ok (.aload_n 2, 1) := by decide +kernel
theorem dL_law_497 : decode cL_law 497 = .ok (.invokevirtual 150, 3) := by decide +kernel
theorem dL_law_500 : decode cL_law 500 = .ok (.if_icmp .eq 1661, 3) := by decide +kernel
theorem dL_law_503 : decode cL_law 503 = .ok (.iconst 0, 1) := by decide +kernel
theorem dL_law_504 : decode cL_law 504 = .ok (.ireturn, 1) := by decide +kernel
theorem dL_law_505 : decode cL_law 505 = .ok (.aload_n 1, 1) := by decide +kernel
theorem dL_law_506 : decode cL_law 506 = .ok (.aload_n 3, 1) := by decide +kernel
theorem dL_law_507 : decode cL_law 507 = .ok (.invokestatic 151, 3) := by decide +kernel
theorem dL_law_510 : decode cL_law 510 = .ok (.istore 6, 2) := by decide +kernel
theorem dL_law_512 : decode cL_law 512 = .ok (.aload_n 2, 1) := by decide +kernel
theorem dL_law_513 : decode cL_law 513 = .ok (.invokevirtual 154, 3) := by decide +kernel
theorem dL_law_516 : decode cL_law 516 = .ok (.istore 7, 2) := by decide +kernel
theorem dL_law_518 : decode cL_law 518 = .ok (.aload_n 2, 1) := by decide +kernel
theorem dL_law_519 : decode cL_law 519 = .ok (.invokevirtual 133, 3) := by decide +kernel
theorem dL_law_522 : decode cL_law 522 = .ok (.iload 6, 2) := by decide +kernel
theorem dL_law_524 : decode cL_law 524 = .ok (.if_icmp .eq 5, 3) := by decide +kernel
theorem dL_law_527 : decode cL_law 527 = .ok (.iconst 0, 1) := by decide +kernel
theorem dL_law_528 : decode cL_law 528 = .ok (.ireturn, 1) := by decide +kernel
theorem dL_law_529 : decode cL_law 529 = .ok (.iload 6, 2) := by decide +kernel
theorem dL_law_531 : decode cL_law 531 = .ok (.ifCond .ne 15, 3) := by decide +kernel
theorem dL_law_534 : decode cL_law 534 = .ok (.aload_n 3, 1) := by decide +kernel
theorem dL_law_535 : decode cL_law 535 = .ok (.iconst 0, 1) := by decide +kernel
theorem dL_law_536 : decode cL_law 536 = .ok (.laload, 1) := by decide +kernel
theorem dL_law_537 : decode cL_law 537 = .ok (.iload 7, 2) := by decide +kernel
theorem dL_law_539 : decode cL_law 539 = .ok (.i2l, 1) := by decide +kernel
theorem dL_law_540 : decode cL_law 540 = .ok (.lcmp, 1) := by decide +kernel
theorem dL_law_541 : decode cL_law 541 = .ok (.ifCond .eq 5, 3) := by decide +kernel
theorem dL_law_544 : decode cL_law 544 = .ok (.iconst 0, 1) := by decide +kernel
theorem dL_law_545 : decode cL_law 545 = .ok (.ireturn, 1) := by decide +kernel
theorem dL_law_546 : decode cL_law 546 = .ok (.goto 1615, 3) := by decide +kernel
theorem dL_law_549 : decode cL_law 549 = .ok (.aload_n 1, 1) := by decide +kernel
theorem dL_law_550 : decode cL_law 550 = .ok (.aload_n 0, 1) := by decide +kernel
theorem dL_law_551 : decode cL_law 551 = .ok (.iload 5, 2) := by decide +kernel
theorem dL_law_553 : decode cL_law 553 = .ok (.iconst 1, 1) := by decide +kernel
theorem dL_law_554 : decode cL_law 554 = .ok (.iadd, 1) := by decide +kernel
theorem dL_law_555 : decode cL_law 555 = .ok (.iaload, 1) := by decide +kernel
theorem dL_law_556 : decode cL_law 556 = .ok (.aload_n 0, 1) := by decide +kernel
theorem dL_law_557 : decode cL_law 557 = .ok (.iload 5, 2) := by decide +kernel
theorem dL_law_559 : decode cL_law 559 = .ok (.iconst 2, 1) := by decide +kernel
theorem dL_law_560 : decode cL_law 560 = .ok (.iadd, 1) := by decide +kernel
theorem dL_law_561 : decode cL_law 561 = .ok (.iaload, 1) := by decide +kernel
theorem dL_law_562 : decode cL_law 562 = .ok (.aload_n 3, 1) := by decide +kernel
theorem dL_law_563 : decode cL_law 563 = .ok (.invokestatic 155, 3) := by decide +kernel
theorem dL_law_566 : decode cL_law 566 = .ok (.istore 6, 2) := by decide +kernel
theorem dL_law_568 : decode cL_law 568 = .ok (.aload_n 2, 1) := by decide +kernel
theorem dL_law_569 : decode cL_law 569 = .ok (.aload_n 0, 1) := by decide +kernel
theorem dL_law_570 : decode cL_law 570 = .ok (.iload 5, 2) := by decide +kernel
theorem dL_law_572 : decode cL_law 572 = .ok (.iconst 1, 1) := by decide +kernel
theorem dL_law_573 : decode cL_law 573 = .ok (.iadd, 1) := by decide +kernel
theorem dL_law_574 : decode cL_law 574 = .ok (.iaload, 1) := by decide +kernel
theorem dL_law_575 : decode cL_law 575 = .ok (.aload_n 0, 1) := by decide +kernel
theorem dL_law_576 : decode cL_law 576 = .ok (.iload 5, 2) := by decide +kernel
theorem dL_law_578 : decode cL_law 578 = .ok (.iconst 2, 1) := by decide +kernel
theorem dL_law_579 : decode cL_law 579 = .ok (.iadd, 1) := by decide +kernel
theorem dL_law_580 : decode cL_law 580 = .ok (.iaload, 1) := by decide +kernel
theorem dL_law_581 : decode cL_law 581 = .ok (.invokevirtual 157, 3) := by decide +kernel
theorem dL_law_584 : decode cL_law 584 = .ok (.istore 7, 2) := by decide +kernel
theorem dL_law_586 : decode cL_law 586 = .ok (.aload_n 2, 1) := by decide +kernel
theorem dL_law_587 : decode cL_law 587 = .ok (.invokevirtual 133, 3) := by decide +kernel
theorem dL_law_590 : decode cL_law 590 = .ok (.iload 6, 2) := by decide +kernel
theorem dL_law_592 : decode cL_law 592 = .ok (.if_icmp .eq 5, 3) := by decide +kernel
theorem dL_law_595 : decode cL_law 595 = .ok (.iconst 0, 1) := by decide +kernel
theorem dL_law_596 : decode cL_law 596 = .ok (.ireturn, 1) := by decide +kernel
theorem dL_law_597 : decode cL_law 597 = .ok (.iload 6, 2) := by decide +kernel
theorem dL_law_599 : decode cL_law 599 = .ok (.ifCond .ne 15, 3) := by decide +kernel
theorem dL_law_602 : decode cL_law 602 = .ok (.aload_n 3, 1) := by decide +kernel
theorem dL_law_603 : decode cL_law 603 = .ok (.iconst 0, 1) := by decide +kernel
theorem dL_law_604 : decode cL_law 604 = .ok (.laload, 1) := by decide +kernel
theorem dL_law_605 : decode cL_law 605 = .ok (.iload 7, 2) := by decide +kernel
theorem dL_law_607 : decode cL_law 607 = .ok (.i2l, 1) := by decide +kernel
theorem dL_law_608 : decode cL_law 608 = .ok (.lcmp, 1) := by decide +kernel
theorem dL_law_609 : decode cL_law 609 = .ok (.ifCond .eq 5, 3) := by decide +kernel
theorem dL_law_612 : decode cL_law 612 = .ok (.iconst 0, 1) := by decide +kernel
theorem dL_law_613 : decode cL_law 613 = .ok (.ireturn, 1) := by decide +kernel
theorem dL_law_614 : decode cL_law 614 = .ok (.goto 1547, 3) := by decide +kernel
theorem dL_law_617 : decode cL_law 617 = .ok (.aload_n 1, 1) := by decide +kernel
theorem dL_law_618 : decode cL_law 618 = .ok (.aload_n 3, 1) := by decide +kernel
theorem dL_law_619 : decode cL_law 619 = .ok (.invokestatic 158, 3) := by decide +kernel
theorem dL_law_622 : decode cL_law 622 = .ok (.istore 6, 2) := by decide +kernel
theorem dL_law_624 : decode cL_law 624 = .ok (.aload_n 2, 1) := by decide +kernel
theorem dL_law_625 : decode cL_law 625 = .ok (.invokevirtual 160, 3) := by decide +kernel
theorem dL_law_628 : decode cL_law 628 = .ok (.istore 7, 2) := by decide +kernel
theorem dL_law_630 : decode cL_law 630 = .ok (.aload_n 2, 1) := by decide +kernel
theorem dL_law_631 : decode cL_law 631 = .ok (.invokevirtual 133, 3) := by decide +kernel
theorem dL_law_634 : decode cL_law 634 = .ok (.iload 6, 2) := by decide +kernel
theorem dL_law_636 : decode cL_law 636 = .ok (.if_icmp .eq 5, 3) := by decide +kernel
theorem dL_law_639 : decode cL_law 639 = .ok (.iconst 0, 1) := by decide +kernel
theorem dL_law_640 : decode cL_law 640 = .ok (.ireturn, 1) := by decide +kernel
theorem dL_law_641 : decode cL_law 641 = .ok (.iload 6, 2) := by decide +kernel
theorem dL_law_643 : decode cL_law 643 = .ok (.ifCond .ne 15, 3) := by decide +kernel
theorem dL_law_646 : decode cL_law 646 = .ok (.aload_n 3, 1) := by decide +kernel
theorem dL_law_647 : decode cL_law 647 = .ok (.iconst 0, 1) := by decide +kernel
theorem dL_law_648 : decode cL_law 648 = .ok (.laload, 1) := by decide +kernel
theorem dL_law_649 : decode cL_law 649 = .ok (.iload 7, 2) := by decide +kernel
theorem dL_law_651 : decode cL_law 651 = .ok (.i2l, 1) := by decide +kernel
theorem dL_law_652 : decode cL_law 652 = .ok (.lcmp, 1) := by decide +kernel
theorem dL_law_653 : decode cL_law 653 = .ok (.ifCond .eq 5, 3) := by decide +kernel
theorem dL_law_656 : decode cL_law 656 = .ok (.iconst 0, 1) := by decide +kernel
theorem dL_law_657 : decode cL_law 657 = .ok (.ireturn, 1) := by decide +kernel
theorem dL_law_658 : decode cL_law 658 = .ok (.goto 1503, 3) := by decide +kernel
theorem dL_law_661 : decode cL_law 661 = .ok (.aload_n 1, 1) := by decide +kernel
theorem dL_law_662 : decode cL_law 662 = .ok (.aload_n 0, 1) := by decide +kernel
theorem dL_law_663 : decode cL_law 663 = .ok (.iload 5, 2) := by decide +kernel
theorem dL_law_665 : decode cL_law 665 = .ok (.iconst 1, 1) := by decide +kernel
theorem dL_law_666 : decode cL_law 666 = .ok (.iadd, 1) := by decide +kernel
theorem dL_law_667 : decode cL_law 667 = .ok (.iaload, 1) := by decide +kernel
theorem dL_law_668 : decode cL_law 668 = .ok (.aload_n 3, 1) := by decide +kernel
theorem dL_law_669 : decode cL_law 669 = .ok (.invokestatic 161, 3) := by decide +kernel
theorem dL_law_672 : decode cL_law 672 = .ok (.istore 6, 2) := by decide +kernel
theorem dL_law_674 : decode cL_law 674 = .ok (.aload_n 2, 1) := by decide +kernel
theorem dL_law_675 : decode cL_law 675 = .ok (.aload_n 0, 1) := by decide +kernel
theorem dL_law_676 : decode cL_law 676 = .ok (.iload 5, 2) := by decide +kernel
theorem dL_law_678 : decode cL_law 678 = .ok (.iconst 1, 1) := by decide +kernel
theorem dL_law_679 : decode cL_law 679 = .ok (.iadd, 1) := by decide +kernel
theorem dL_law_680 : decode cL_law 680 = .ok (.iaload, 1) := by decide +kernel
theorem dL_law_681 : decode cL_law 681 = .ok (.invokevirtual 163, 3) := by decide +kernel
theorem dL_law_684 : decode cL_law 684 = .ok (.istore 7, 2) := by decide +kernel
theorem dL_law_686 : decode cL_law 686 = .ok (.aload_n 2, 1) := by decide +kernel
theorem dL_law_687 : decode cL_law 687 = .ok (.invokevirtual 133, 3) := by decide +kernel
theorem dL_law_690 : decode cL_law 690 = .ok (.iload 6, 2) := by decide +kernel
theorem dL_law_692 : decode cL_law 692 = .ok (.if_icmp .eq 5, 3) := by decide +kernel
theorem dL_law_695 : decode cL_law 695 = .ok (.iconst 0, 1) := by decide +kernel
theorem dL_law_696 : decode cL_law 696 = .ok (.ireturn, 1) := by decide +kernel
theorem dL_law_697 : decode cL_law 697 = .ok (.iload 6, 2) := by decide +kernel
theorem dL_law_699 : decode cL_law 699 = .ok (.ifCond .ne 15, 3) := by decide +kernel
theorem dL_law_702 : decode cL_law 702 = .ok (.aload_n 3, 1) := by decide +kernel
theorem dL_law_703 : decode cL_law 703 = .ok (.iconst 0, 1) := by decide +kernel
theorem dL_law_704 : decode cL_law 704 = .ok (.laload, 1) := by decide +kernel
theorem dL_law_705 : decode cL_law 705 = .ok (.iload 7, 2) := by decide +kernel
theorem dL_law_707 : decode cL_law 707 = .ok (.i2l, 1) := by decide +kernel
theorem dL_law_708 : decode cL_law 708 = .ok (.lcmp, 1) := by decide +kernel
theorem dL_law_709 : decode cL_law 709 = .ok (.ifCond .eq 5, 3) := by decide +kernel
theorem dL_law_712 : decode cL_law 712 = .ok (.iconst 0, 1) := by decide +kernel
theorem dL_law_713 : decode cL_law 713 = .ok (.ireturn, 1) := by decide +kernel
theorem dL_law_714 : decode cL_law 714 = .ok (.goto 1447, 3) := by decide +kernel
theorem dL_law_717 : decode cL_law 717 = .ok (.aload_n 1, 1) := by decide +kernel
theorem dL_law_718 : decode cL_law 718 = .ok (.invokevirtual 164, 3) := by decide +kernel
theorem dL_law_721 : decode cL_law 721 = .ok (.aload_n 2, 1) := by decide +kernel
theorem dL_law_722 : decode cL_law 722 = .ok (.invokevirtual 167, 3) := by decide +kernel
theorem dL_law_725 : decode cL_law 725 = .ok (.if_icmp .eq 1436, 3) := by decide +kernel
theorem dL_law_728 : decode cL_law 728 = .ok (.iconst 0, 1) := by decide +kernel
theorem dL_law_729 : decode cL_law 729 = .ok (.ireturn, 1) := by decide +kernel
theorem dL_law_730 : decode cL_law 730 = .ok (.aload_n 1, 1) := by decide +kernel
theorem dL_law_731 : decode cL_law 731 = .ok (.aload_n 0, 1) := by decide +kernel
theorem dL_law_732 : decode cL_law 732 = .ok (.iload 5, 2) := by decide +kernel
theorem dL_law_734 : decode cL_law 734 = .ok (.iconst 1, 1) := by decide +kernel
theorem dL_law_735 : decode cL_law 735 = .ok (.iadd, 1) := by decide +kernel
theorem dL_law_736 : decode cL_law 736 = .ok (.iaload, 1) := by decide +kernel
theorem dL_law_737 : decode cL_law 737 = .ok (.aload_n 3, 1) := by decide +kernel
theorem dL_law_738 : decode cL_law 738 = .ok (.invokestatic 168, 3) := by decide +kernel
theorem dL_law_741 : decode cL_law 741 = .ok (.istore 6, 2) := by decide +kernel
theorem dL_law_743 : decode cL_law 743 = .ok (.aload_n 2, 1) := by decide +kernel
theorem dL_law_744 : decode cL_law 744 = .ok (.aload_n 0, 1) := by decide +kernel
theorem dL_law_745 : decode cL_law 745 = .ok (.iload 5, 2) := by decide +kernel
theorem dL_law_747 : decode cL_law 747 = .ok (.iconst 1, 1) := by decide +kernel
theorem dL_law_748 : decode cL_law 748 = .ok (.iadd, 1) := by decide +kernel
theorem dL_law_749 : decode cL_law 749 = .ok (.iaload, 1) := by decide +kernel
theorem dL_law_750 : decode cL_law 750 = .ok (.invokevirtual 170, 3) := by decide +kernel
theorem dL_law_753 : decode cL_law 753 = .ok (.istore 7, 2) := by decide +kernel
theorem dL_law_755 : decode cL_law 755 = .ok (.aload_n 2, 1) := by decide +kernel
theorem dL_law_756 : decode cL_law 756 = .ok (.invokevirtual 133, 3) := by decide +kernel
theorem dL_law_759 : decode cL_law 759 = .ok (.iload 6, 2) := by decide +kernel
theorem dL_law_761 : decode cL_law 761 = .ok (.if_icmp .eq 5, 3) := by decide +kernel
theorem dL_law_764 : decode cL_law 764 = .ok (.iconst 0, 1) := by decide +kernel
theorem dL_law_765 : decode cL_law 765 = .ok (.ireturn, 1) := by decide +kernel
theorem dL_law_766 : decode cL_law 766 = .ok (.iload 6, 2) := by decide +kernel
theorem dL_law_768 : decode cL_law 768 = .ok (.ifCond .ne 15, 3) := by decide +kernel
theorem dL_law_771 : decode cL_law 771 = .ok (.aload_n 3, 1) := by decide +kernel
theorem dL_law_772 : decode cL_law 772 = .ok (.iconst 0, 1) := by decide +kernel
theorem dL_law_773 : decode cL_law 773 = .ok (.laload, 1) := by decide +kernel
theorem dL_law_774 : decode cL_law 774 = .ok (.iload 7, 2) := by decide +kernel
theorem dL_law_776 : decode cL_law 776 = .ok (.i2l, 1) := by decide +kernel
theorem dL_law_777 : decode cL_law 777 = .ok (.lcmp, 1) := by decide +kernel
theorem dL_law_778 : decode cL_law 778 = .ok (.ifCond .eq 5, 3) := by decide +kernel
theorem dL_law_781 : decode cL_law 781 = .ok (.iconst 0, 1) := by decide +kernel
theorem dL_law_782 : decode cL_law 782 = .ok (.ireturn, 1) := by decide +kernel
theorem dL_law_783 : decode cL_law 783 = .ok (.goto 1378, 3) := by decide +kernel
theorem dL_law_786 : decode cL_law 786 = .ok (.aload_n 1, 1) := by decide +kernel
theorem dL_law_787 : decode cL_law 787 = .ok (.aload_n 0, 1) := by decide +kernel
theorem dL_law_788 : decode cL_law 788 = .ok (.iload 5, 2) := by decide +kernel
theorem dL_law_790 : decode cL_law 790 = .ok (.iconst 1, 1) := by decide +kernel
theorem dL_law_791 : decode cL_law 791 = .ok (.iadd, 1) := by decide +kernel
theorem dL_law_792 : decode cL_law 792 = .ok (.iaload, 1) := by decide +kernel
theorem dL_law_793 : decode cL_law 793 = .ok (.aload_n 0, 1) := by decide +kernel
theorem dL_law_794 : decode cL_law 794 = .ok (.iload 5, 2) := by decide +kernel
theorem dL_law_796 : decode cL_law 796 = .ok (.iconst 2, 1) := by decide +kernel
theorem dL_law_797 : decode cL_law 797 = .ok (.iadd, 1) := by decide +kernel
theorem dL_law_798 : decode cL_law 798 = .ok (.iaload, 1) := by decide +kernel
theorem dL_law_799 : decode cL_law 799 = .ok (.aload_n 3, 1) := by decide +kernel
theorem dL_law_800 : decode cL_law 800 = .ok (.invokestatic 171, 3) := by decide +kernel
theorem dL_law_803 : decode cL_law 803 = .ok (.istore 6, 2) := by decide +kernel
theorem dL_law_805 : decode cL_law 805 = .ok (.aload_n 2, 1) := by decide +kernel
theorem dL_law_806 : decode cL_law 806 = .ok (.aload_n 0, 1) := by decide +kernel
theorem dL_law_807 : decode cL_law 807 = .ok (.iload 5, 2) := by decide +kernel
theorem dL_law_809 : decode cL_law 809 = .ok (.iconst 1, 1) := by decide +kernel
theorem dL_law_810 : decode cL_law 810 = .ok (.iadd, 1) := by decide +kernel
theorem dL_law_811 : decode cL_law 811 = .ok (.iaload, 1) := by decide +kernel
theorem dL_law_812 : decode cL_law 812 = .ok (.aload_n 0, 1) := by decide +kernel
theorem dL_law_813 : decode cL_law 813 = .ok (.iload 5, 2) := by decide +kernel
theorem dL_law_815 : decode cL_law 815 = .ok (.iconst 2, 1) := by decide +kernel
theorem dL_law_816 : decode cL_law 816 = .ok (.iadd, 1) := by decide +kernel
theorem dL_law_817 : decode cL_law 817 = .ok (.iaload, 1) := by decide +kernel
theorem dL_law_818 : decode cL_law 818 = .ok (.invokevirtual 173, 3) := by decide +kernel
theorem dL_law_821 : decode cL_law 821 = .ok (.istore 7, 2) := by decide +kernel
theorem dL_law_823 : decode cL_law 823 = .ok (.aload_n 2, 1) := by decide +kernel
theorem dL_law_824 : decode cL_law 824 = .ok (.invokevirtual 133, 3) := by decide +kernel
theorem dL_law_827 : decode cL_law 827 = .ok (.iload 6, 2) := by decide +kernel
theorem dL_law_829 : decode cL_law 829 = .ok (.if_icmp .eq 5, 3) := by decide +kernel
theorem dL_law_832 : decode cL_law 832 = .ok (.iconst 0, 1) := by decide +kernel
theorem dL_law_833 : decode cL_law 833 = .ok (.ireturn, 1) := by decide +kernel
theorem dL_law_834 : decode cL_law 834 = .ok (.iload 6, 2) := by decide +kernel
theorem dL_law_836 : decode cL_law 836 = .ok (.ifCond .ne 15, 3) := by decide +kernel
theorem dL_law_839 : decode cL_law 839 = .ok (.aload_n 3, 1) := by decide +kernel
theorem dL_law_840 : decode cL_law 840 = .ok (.iconst 0, 1) := by decide +kernel
theorem dL_law_841 : decode cL_law 841 = .ok (.laload, 1) := by decide +kernel
theorem dL_law_842 : decode cL_law 842 = .ok (.iload 7, 2) := by decide +kernel
theorem dL_law_844 : decode cL_law 844 = .ok (.i2l, 1) := by decide +kernel
theorem dL_law_845 : decode cL_law 845 = .ok (.lcmp, 1) := by decide +kernel
theorem dL_law_846 : decode cL_law 846 = .ok (.ifCond .eq 5, 3) := by decide +kernel
theorem dL_law_849 : decode cL_law 849 = .ok (.iconst 0, 1) := by decide +kernel
theorem dL_law_850 : decode cL_law 850 = .ok (.ireturn, 1) := by decide +kernel
theorem dL_law_851 : decode cL_law 851 = .ok (.goto 1310, 3) := by decide +kernel
theorem dL_law_854 : decode cL_law 854 = .ok (.aload_n 1, 1) := by decide +kernel
theorem dL_law_855 : decode cL_law 855 = .ok (.aload_n 0, 1) := by decide +kernel
theorem dL_law_856 : decode cL_law 856 = .ok (.iload 5, 2) := by decide +kernel
theorem dL_law_858 : decode cL_law 858 = .ok (.iconst 1, 1) := by decide +kernel
theorem dL_law_859 : decode cL_law 859 = .ok (.iadd, 1) := by decide +kernel
theorem dL_law_860 : decode cL_law 860 = .ok (.iaload, 1) := by decide +kernel
theorem dL_law_861 : decode cL_law 861 = .ok (.aload_n 0, 1) := by decide +kernel
theorem dL_law_862 : decode cL_law 862 = .ok (.iload 5, 2) := by decide +kernel
theorem dL_law_864 : decode cL_law 864 = .ok (.iconst 2, 1) := by decide +kernel
theorem dL_law_865 : decode cL_law 865 = .ok (.iadd, 1) := by decide +kernel
theorem dL_law_866 : decode cL_law 866 = .ok (.iaload, 1) := by decide +kernel
theorem dL_law_867 : decode cL_law 867 = .ok (.aload_n 3, 1) := by decide +kernel
theorem dL_law_868 : decode cL_law 868 = .ok (.invokestatic 174, 3) := by decide +kernel
theorem dL_law_871 : decode cL_law 871 = .ok (.istore 6, 2) := by decide +kernel
theorem dL_law_873 : decode cL_law 873 = .ok (.aload_n 2, 1) := by decide +kernel
theorem dL_law_874 : decode cL_law 874 = .ok (.aload_n 0, 1) := by decide +kernel
theorem dL_law_875 : decode cL_law 875 = .ok (.iload 5, 2) := by decide +kernel
theorem dL_law_877 : decode cL_law 877 = .ok (.iconst 1, 1) := by decide +kernel
theorem dL_law_878 : decode cL_law 878 = .ok (.iadd, 1) := by decide +kernel
theorem dL_law_879 : decode cL_law 879 = .ok (.iaload, 1) := by decide +kernel
theorem dL_law_880 : decode cL_law 880 = .ok (.aload_n 0, 1) := by decide +kernel
theorem dL_law_881 : decode cL_law 881 = .ok (.iload 5, 2) := by decide +kernel
theorem dL_law_883 : decode cL_law 883 = .ok (.iconst 2, 1) := by decide +kernel
theorem dL_law_884 : decode cL_law 884 = .ok (.iadd, 1) := by decide +kernel
theorem dL_law_885 : decode cL_law 885 = .ok (.iaload, 1) := by decide +kernel
theorem dL_law_886 : decode cL_law 886 = .ok (.invokevirtual 176, 3) := by decide +kernel
theorem dL_law_889 : decode cL_law 889 = .ok (.istore 7, 2) := by decide +kernel
theorem dL_law_891 : decode cL_law 891 = .ok (.aload_n 2, 1) := by decide +kernel
theorem dL_law_892 : decode cL_law 892 = .ok (.invokevirtual 133, 3) := by decide +kernel
theorem dL_law_895 : decode cL_law 895 = .ok (.iload 6, 2) := by decide +kernel
theorem dL_law_897 : decode cL_law 897 = .ok (.if_icmp .eq 5, 3) := by decide +kernel
theorem dL_law_900 : decode cL_law 900 = .ok (.iconst 0, 1) := by decide +kernel
theorem dL_law_901 : decode cL_law 901 = .ok (.ireturn, 1) := by decide +kernel
theorem dL_law_902 : decode cL_law 902 = .ok (.iload 6, 2) := by decide +kernel
theorem dL_law_904 : decode cL_law 904 = .ok (.ifCond .ne 15, 3) := by decide +kernel
theorem dL_law_907 : decode cL_law 907 = .ok (.aload_n 3, 1) := by decide +kernel
theorem dL_law_908 : decode cL_law 908 = .ok (.iconst 0, 1) := by decide +kernel
theorem dL_law_909 : decode cL_law 909 = .ok (.laload, 1) := by decide +kernel
theorem dL_law_910 : decode cL_law 910 = .ok (.iload 7, 2) := by decide +kernel
theorem dL_law_912 : decode cL_law 912 = .ok (.i2l, 1) := by decide +kernel
theorem dL_law_913 : decode cL_law 913 = .ok (.lcmp, 1) := by decide +kernel
theorem dL_law_914 : decode cL_law 914 = .ok (.ifCond .eq 5, 3) := by decide +kernel
theorem dL_law_917 : decode cL_law 917 = .ok (.iconst 0, 1) := by decide +kernel
theorem dL_law_918 : decode cL_law 918 = .ok (.ireturn, 1) := by decide +kernel
theorem dL_law_919 : decode cL_law 919 = .ok (.goto 1242, 3) := by decide +kernel
theorem dL_law_922 : decode cL_law 922 = .ok (.aload_n 1, 1) := by decide +kernel
theorem dL_law_923 : decode cL_law 923 = .ok (.aload_n 0, 1) := by decide +kernel
theorem dL_law_924 : decode cL_law 924 = .ok (.iload 5, 2) := by decide +kernel
theorem dL_law_926 : decode cL_law 926 = .ok (.iconst 1, 1) := by decide +kernel
theorem dL_law_927 : decode cL_law 927 = .ok (.iadd, 1) := by decide +kernel
theorem dL_law_928 : decode cL_law 928 = .ok (.iaload, 1) := by decide +kernel
theorem dL_law_929 : decode cL_law 929 = .ok (.aload_n 0, 1) := by decide +kernel
theorem dL_law_930 : decode cL_law 930 = .ok (.iload 5, 2) := by decide +kernel
theorem dL_law_932 : decode cL_law 932 = .ok (.iconst 2, 1) := by decide +kernel
theorem dL_law_933 : decode cL_law 933 = .ok (.iadd, 1) := by decide +kernel
theorem dL_law_934 : decode cL_law 934 = .ok (.iaload, 1) := by decide +kernel
theorem dL_law_935 : decode cL_law 935 = .ok (.aload_n 3, 1) := by decide +kernel
theorem dL_law_936 : decode cL_law 936 = .ok (.invokestatic 177, 3) := by decide +kernel
theorem dL_law_939 : decode cL_law 939 = .ok (.istore 6, 2) := by decide +kernel
theorem dL_law_941 : decode cL_law 941 = .ok (.aload_n 2, 1) := by decide +kernel
theorem dL_law_942 : decode cL_law 942 = .ok (.aload_n 0, 1) := by decide +kernel
theorem dL_law_943 : decode cL_law 943 = .ok (.iload 5, 2) := by decide +kernel
theorem dL_law_945 : decode cL_law 945 = .ok (.iconst 1, 1) := by decide +kernel
theorem dL_law_946 : decode cL_law 946 = .ok (.iadd, 1) := by decide +kernel
theorem dL_law_947 : decode cL_law 947 = .ok (.iaload, 1) := by decide +kernel
theorem dL_law_948 : decode cL_law 948 = .ok (.aload_n 0, 1) := by decide +kernel
theorem dL_law_949 : decode cL_law 949 = .ok (.iload 5, 2) := by decide +kernel
theorem dL_law_951 : decode cL_law 951 = .ok (.iconst 2, 1) := by decide +kernel
theorem dL_law_952 : decode cL_law 952 = .ok (.iadd, 1) := by decide +kernel
theorem dL_law_953 : decode cL_law 953 = .ok (.iaload, 1) := by decide +kernel
theorem dL_law_954 : decode cL_law 954 = .ok (.invokevirtual 179, 3) := by decide +kernel
theorem dL_law_957 : decode cL_law 957 = .ok (.istore 7, 2) := by decide +kernel
theorem dL_law_959 : decode cL_law 959 = .ok (.aload_n 2, 1) := by decide +kernel
theorem dL_law_960 : decode cL_law 960 = .ok (.invokevirtual 133, 3) := by decide +kernel
theorem dL_law_963 : decode cL_law 963 = .ok (.iload 6, 2) := by decide +kernel
theorem dL_law_965 : decode cL_law 965 = .ok (.if_icmp .eq 5, 3) := by decide +kernel
theorem dL_law_968 : decode cL_law 968 = .ok (.iconst 0, 1) := by decide +kernel
theorem dL_law_969 : decode cL_law 969 = .ok (.ireturn, 1) := by decide +kernel
theorem dL_law_970 : decode cL_law 970 = .ok (.iload 6, 2) := by decide +kernel
theorem dL_law_972 : decode cL_law 972 = .ok (.ifCond .ne 15, 3) := by decide +kernel
theorem dL_law_975 : decode cL_law 975 = .ok (.aload_n 3, 1) := by decide +kernel
theorem dL_law_976 : decode cL_law 976 = .ok (.iconst 0, 1) := by decide +kernel
theorem dL_law_977 : decode cL_law 977 = .ok (.laload, 1) := by decide +kernel
theorem dL_law_978 : decode cL_law 978 = .ok (.iload 7, 2) := by decide +kernel
theorem dL_law_980 : decode cL_law 980 = .ok (.i2l, 1) := by decide +kernel
theorem dL_law_981 : decode cL_law 981 = .ok (.lcmp, 1) := by decide +kernel
theorem dL_law_982 : decode cL_law 982 = .ok (.ifCond .eq 5, 3) := by decide +kernel
theorem dL_law_985 : decode cL_law 985 = .ok (.iconst 0, 1) := by decide +kernel
theorem dL_law_986 : decode cL_law 986 = .ok (.ireturn, 1) := by decide +kernel
theorem dL_law_987 : decode cL_law 987 = .ok (.goto 1174, 3) := by decide +kernel
theorem dL_law_990 : decode cL_law 990 = .ok (.aload_n 1, 1) := by decide +kernel
theorem dL_law_991 : decode cL_law 991 = .ok (.aload_n 0, 1) := by decide +kernel
theorem dL_law_992 : decode cL_law 992 = .ok (.iload 5, 2) := by decide +kernel
theorem dL_law_994 : decode cL_law 994 = .ok (.iconst 1, 1) := by decide +kernel
theorem dL_law_995 : decode cL_law 995 = .ok (.iadd, 1) := by decide +kernel
theorem dL_law_996 : decode cL_law 996 = .ok (.iaload, 1) := by decide +kernel
theorem dL_law_997 : decode cL_law 997 = .ok (.aload_n 3, 1) := by decide +kernel
theorem dL_law_998 : decode cL_law 998 = .ok (.invokestatic 180, 3) := by decide +kernel
theorem dL_law_1001 : decode cL_law 1001 = .ok (.istore 6, 2) := by decide +kernel
theorem dL_law_1003 : decode cL_law 1003 = .ok (.aload_n 2, 1) := by decide +kernel
theorem dL_law_1004 : decode cL_law 1004 = .ok (.aload_n 0, 1) := by decide +kernel
theorem dL_law_1005 : decode cL_law 1005 = .ok (.iload 5, 2) := by decide +kernel
theorem dL_law_1007 : decode cL_law 1007 = .ok (.iconst 1, 1) := by decide +kernel
theorem dL_law_1008 : decode cL_law 1008 = .ok (.iadd, 1) := by decide +kernel
theorem dL_law_1009 : decode cL_law 1009 = .ok (.iaload, 1) := by decide +kernel
theorem dL_law_1010 : decode cL_law 1010 = .ok (.invokevirtual 182, 3) := by decide +kernel
theorem dL_law_1013 : decode cL_law 1013 = .ok (.istore 7, 2) := by decide +kernel
theorem dL_law_1015 : decode cL_law 1015 = .ok (.aload_n 2, 1) := by decide +kernel
theorem dL_law_1016 : decode cL_law 1016 = .ok (.invokevirtual 133, 3) := by decide +kernel
theorem dL_law_1019 : decode cL_law 1019 = .ok (.iload 6, 2) := by decide +kernel
theorem dL_law_1021 : decode cL_law 1021 = .ok (.if_icmp .eq 5, 3) := by decide +kernel
theorem dL_law_1024 : decode cL_law 1024 = .ok (.iconst 0, 1) := by decide +kernel
theorem dL_law_1025 : decode cL_law 1025 = .ok (.ireturn, 1) := by decide +kernel
theorem dL_law_1026 : decode cL_law 1026 = .ok (.iload 6, 2) := by decide +kernel
theorem dL_law_1028 : decode cL_law 1028 = .ok (.ifCond .ne 15, 3) := by decide +kernel
theorem dL_law_1031 : decode cL_law 1031 = .ok (.aload_n 3, 1) := by decide +kernel
theorem dL_law_1032 : decode cL_law 1032 = .ok (.iconst 0, 1) := by decide +kernel
theorem dL_law_1033 : decode cL_law 1033 = .ok (.laload, 1) := by decide +kernel
theorem dL_law_1034 : decode cL_law 1034 = .ok (.iload 7, 2) := by decide +kernel
theorem dL_law_1036 : decode cL_law 1036 = .ok (.i2l, 1) := by decide +kernel
theorem dL_law_1037 : decode cL_law 1037 = .ok (.lcmp, 1) := by decide +kernel
theorem dL_law_1038 : decode cL_law 1038 = .ok (.ifCond .eq 5, 3) := by decide +kernel
theorem dL_law_1041 : decode cL_law 1041 = .ok (.iconst 0, 1) := by decide +kernel
theorem dL_law_1042 : decode cL_law 1042 = .ok (.ireturn, 1) := by decide +kernel
theorem dL_law_1043 : decode cL_law 1043 = .ok (.goto 1118, 3) := by decide +kernel
theorem dL_law_1046 : decode cL_law 1046 = .ok (.aload_n 1, 1) := by decide +kernel
theorem dL_law_1047 : decode cL_law 1047 = .ok (.aload_n 0, 1) := by decide +kernel
theorem dL_law_1048 : decode cL_law 1048 = .ok (.iload 5, 2) := by decide +kernel
theorem dL_law_1050 : decode cL_law 1050 = .ok (.iconst 1, 1) := by decide +kernel
theorem dL_law_1051 : decode cL_law 1051 = .ok (.iadd, 1) := by decide +kernel
theorem dL_law_1052 : decode cL_law 1052 = .ok (.iaload, 1) := by decide +kernel
theorem dL_law_1053 : decode cL_law 1053 = .ok (.aload 4, 2) := by decide +kernel
theorem dL_law_1055 : decode cL_law 1055 = .ok (.invokestatic 183, 3) := by decide +kernel
theorem dL_law_1058 : decode cL_law 1058 = .ok (.istore 6, 2) := by decide +kernel
theorem dL_law_1060 : decode cL_law 1060 = .ok (.aload_n 2, 1) := by decide +kernel
theorem dL_law_1061 : decode cL_law 1061 = .ok (.aload_n 0, 1) := by decide +kernel
theorem dL_law_1062 : decode cL_law 1062 = .ok (.iload 5, 2) := by decide +kernel
theorem dL_law_1064 : decode cL_law 1064 = .ok (.iconst 1, 1) := by decide +kernel
theorem dL_law_1065 : decode cL_law 1065 = .ok (.iadd, 1) := by decide +kernel
theorem dL_law_1066 : decode cL_law 1066 = .ok (.iaload, 1) := by decide +kernel
theorem dL_law_1067 : decode cL_law 1067 = .ok (.invokevirtual 186, 3) := by decide +kernel
theorem dL_law_1070 : decode cL_law 1070 = .ok (.fstore 7, 2) := by decide +kernel
theorem dL_law_1072 : decode cL_law 1072 = .ok (.aload_n 2, 1) := by decide +kernel
theorem dL_law_1073 : decode cL_law 1073 = .ok (.invokevirtual 133, 3) := by decide +kernel
theorem dL_law_1076 : decode cL_law 1076 = .ok (.iload 6, 2) := by decide +kernel
theorem dL_law_1078 : decode cL_law 1078 = .ok (.if_icmp .eq 5, 3) := by decide +kernel
theorem dL_law_1081 : decode cL_law 1081 = .ok (.iconst 0, 1) := by decide +kernel
theorem dL_law_1082 : decode cL_law 1082 = .ok (.ireturn, 1) := by decide +kernel
theorem dL_law_1083 : decode cL_law 1083 = .ok (.iload 6, 2) := by decide +kernel
theorem dL_law_1085 : decode cL_law 1085 = .ok (.ifCond .ne 36, 3) := by decide +kernel
theorem dL_law_1088 : decode cL_law 1088 = .ok (.aload 4, 2) := by decide +kernel
theorem dL_law_1090 : decode cL_law 1090 = .ok (.iconst 0, 1) := by decide +kernel
theorem dL_law_1091 : decode cL_law 1091 = .ok (.daload, 1) := by decide +kernel
theorem dL_law_1092 : decode cL_law 1092 = .ok (.fload 7, 2) := by decide +kernel
theorem dL_law_1094 : decode cL_law 1094 = .ok (.f2d, 1) := by decide +kernel
theorem dL_law_1095 : decode cL_law 1095 = .ok (.dcmp .l, 1) := by decide +kernel
theorem dL_law_1096 : decode cL_law 1096 = .ok (.ifCond .eq 25, 3) := by decide +kernel
theorem dL_law_1099 : decode cL_law 1099 = .ok (.aload 4, 2) := by decide +kernel
theorem dL_law_1101 : decode cL_law 1101 = .ok (.iconst 0, 1) := by decide +kernel
theorem dL_law_1102 : decode cL_law 1102 = .ok (.daload, 1) := by decide +kernel
theorem dL_law_1103 : decode cL_law 1103 = .ok (.aload 4, 2) := by decide +kernel
theorem dL_law_1105 : decode cL_law 1105 = .ok (.iconst 0, 1) := by decide +kernel
theorem dL_law_1106 : decode cL_law 1106 = .ok (.daload, 1) := by decide +kernel
theorem dL_law_1107 : decode cL_law 1107 = .ok (.dcmp .l, 1) := by decide +kernel
theorem dL_law_1108 : decode cL_law 1108 = .ok (.ifCond .eq 11, 3) := by decide +kernel
theorem dL_law_1111 : decode cL_law 1111 = .ok (.fload 7, 2) := by decide +kernel
theorem dL_law_1113 : decode cL_law 1113 = .ok (.fload 7, 2) := by decide +kernel
theorem dL_law_1115 : decode cL_law 1115 = .ok (.fcmp .l, 1) := by decide +kernel
theorem dL_law_1116 : decode cL_law 1116 = .ok (.ifCond .ne 5, 3) := by decide +kernel
theorem dL_law_1119 : decode cL_law 1119 = .ok (.iconst 0, 1) := by decide +kernel
theorem dL_law_1120 : decode cL_law 1120 = .ok (.ireturn, 1) := by decide +kernel
theorem dL_law_1121 : decode cL_law 1121 = .ok (.goto 1040, 3) := by decide +kernel
theorem dL_law_1124 : decode cL_law 1124 = .ok (.aload_n 1, 1) := by decide +kernel
theorem dL_law_1125 : decode cL_law 1125 = .ok (.aload_n 0, 1) := by decide +kernel
theorem dL_law_1126 : decode cL_law 1126 = .ok (.iload 5, 2) := by decide +kernel
theorem dL_law_1128 : decode cL_law 1128 = .ok (.iconst 1, 1) := by decide +kernel
theorem dL_law_1129 : decode cL_law 1129 = .ok (.iadd, 1) := by decide +kernel
theorem dL_law_1130 : decode cL_law 1130 = .ok (.iaload, 1) := by decide +kernel
theorem dL_law_1131 : decode cL_law 1131 = .ok (.aload_n 3, 1) := by decide +kernel
theorem dL_law_1132 : decode cL_law 1132 = .ok (.invokestatic 187, 3) := by decide +kernel
theorem dL_law_1135 : decode cL_law 1135 = .ok (.istore 6, 2) := by decide +kernel
theorem dL_law_1137 : decode cL_law 1137 = .ok (.aload_n 2, 1) := by decide +kernel
theorem dL_law_1138 : decode cL_law 1138 = .ok (.aload_n 0, 1) := by decide +kernel
theorem dL_law_1139 : decode cL_law 1139 = .ok (.iload 5, 2) := by decide +kernel
theorem dL_law_1141 : decode cL_law 1141 = .ok (.iconst 1, 1) := by decide +kernel
theorem dL_law_1142 : decode cL_law 1142 = .ok (.iadd, 1) := by decide +kernel
theorem dL_law_1143 : decode cL_law 1143 = .ok (.iaload, 1) := by decide +kernel
theorem dL_law_1144 : decode cL_law 1144 = .ok (.invokevirtual 189, 3) := by decide +kernel
theorem dL_law_1147 : decode cL_law 1147 = .ok (.istore 7, 2) := by decide +kernel
theorem dL_law_1149 : decode cL_law 1149 = .ok (.aload_n 2, 1) := by decide +kernel
theorem dL_law_1150 : decode cL_law 1150 = .ok (.invokevirtual 133, 3) := by decide +kernel
theorem dL_law_1153 : decode cL_law 1153 = .ok (.iload 6, 2) := by decide +kernel
theorem dL_law_1155 : decode cL_law 1155 = .ok (.if_icmp .eq 5, 3) := by decide +kernel
theorem dL_law_1158 : decode cL_law 1158 = .ok (.iconst 0, 1) := by decide +kernel
theorem dL_law_1159 : decode cL_law 1159 = .ok (.ireturn, 1) := by decide +kernel
theorem dL_law_1160 : decode cL_law 1160 = .ok (.iload 6, 2) := by decide +kernel
theorem dL_law_1162 : decode cL_law 1162 = .ok (.ifCond .ne 15, 3) := by decide +kernel
theorem dL_law_1165 : decode cL_law 1165 = .ok (.aload_n 3, 1) := by decide +kernel
theorem dL_law_1166 : decode cL_law 1166 = .ok (.iconst 0, 1) := by decide +kernel
theorem dL_law_1167 : decode cL_law 1167 = .ok (.laload, 1) := by decide +kernel
theorem dL_law_1168 : decode cL_law 1168 = .ok (.iload 7, 2) := by decide +kernel
theorem dL_law_1170 : decode cL_law 1170 = .ok (.i2l, 1) := by decide +kernel
theorem dL_law_1171 : decode cL_law 1171 = .ok (.lcmp, 1) := by decide +kernel
theorem dL_law_1172 : decode cL_law 1172 = .ok (.ifCond .eq 5, 3) := by decide +kernel
theorem dL_law_1175 : decode cL_law 1175 = .ok (.iconst 0, 1) := by decide +kernel
theorem dL_law_1176 : decode cL_law 1176 = .ok (.ireturn, 1) := by decide +kernel
theorem dL_law_1177 : decode cL_law 1177 = .ok (.goto 984, 3) := by decide +kernel
theorem dL_law_1180 : decode cL_law 1180 = .ok (.aload_n 1, 1) := by decide +kernel
theorem dL_law_1181 : decode cL_law 1181 = .ok (.aload_n 0, 1) := by decide +kernel
theorem dL_law_1182 : decode cL_law 1182 = .ok (.iload 5, 2) := by decide +kernel
theorem dL_law_1184 : decode cL_law 1184 = .ok (.iconst 1, 1) := by decide +kernel
theorem dL_law_1185 : decode cL_law 1185 = .ok (.iadd, 1) := by decide +kernel
theorem dL_law_1186 : decode cL_law 1186 = .ok (.iaload, 1) := by decide +kernel
theorem dL_law_1187 : decode cL_law 1187 = .ok (.aload_n 3, 1) := by decide +kernel
theorem dL_law_1188 : decode cL_law 1188 = .ok (.invokestatic 190, 3) := by decide +kernel
theorem dL_law_1191 : decode cL_law 1191 = .ok (.istore 6, 2) := by decide +kernel
theorem dL_law_1193 : decode cL_law 1193 = .ok (.aload_n 2, 1) := by decide +kernel
theorem dL_law_1194 : decode cL_law 1194 = .ok (.aload_n 0, 1) := by decide +kernel
theorem dL_law_1195 : decode cL_law 1195 = .ok (.iload 5, 2) := by decide +kernel
theorem dL_law_1197 : decode cL_law 1197 = .ok (.iconst 1, 1) := by decide +kernel
theorem dL_law_1198 : decode cL_law 1198 = .ok (.iadd, 1) := by decide +kernel
theorem dL_law_1199 : decode cL_law 1199 = .ok (.iaload, 1) := by decide +kernel
theorem dL_law_1200 : decode cL_law 1200 = .ok (.invokevirtual 192, 3) := by decide +kernel
theorem dL_law_1203 : decode cL_law 1203 = .ok (.istore 7, 2) := by decide +kernel
theorem dL_law_1205 : decode cL_law 1205 = .ok (.aload_n 2, 1) := by decide +kernel
theorem dL_law_1206 : decode cL_law 1206 = .ok (.invokevirtual 133, 3) := by decide +kernel
theorem dL_law_1209 : decode cL_law 1209 = .ok (.iload 6, 2) := by decide +kernel
theorem dL_law_1211 : decode cL_law 1211 = .ok (.if_icmp .eq 5, 3) := by decide +kernel
theorem dL_law_1214 : decode cL_law 1214 = .ok (.iconst 0, 1) := by decide +kernel
theorem dL_law_1215 : decode cL_law 1215 = .ok (.ireturn, 1) := by decide +kernel
theorem dL_law_1216 : decode cL_law 1216 = .ok (.iload 6, 2) := by decide +kernel
theorem dL_law_1218 : decode cL_law 1218 = .ok (.ifCond .ne 15, 3) := by decide +kernel
theorem dL_law_1221 : decode cL_law 1221 = .ok (.aload_n 3, 1) := by decide +kernel
theorem dL_law_1222 : decode cL_law 1222 = .ok (.iconst 0, 1) := by decide +kernel
theorem dL_law_1223 : decode cL_law 1223 = .ok (.laload, 1) := by decide +kernel
theorem dL_law_1224 : decode cL_law 1224 = .ok (.iload 7, 2) := by decide +kernel
theorem dL_law_1226 : decode cL_law 1226 = .ok (.i2l, 1) := by decide +kernel
theorem dL_law_1227 : decode cL_law 1227 = .ok (.lcmp, 1) := by decide +kernel
theorem dL_law_1228 : decode cL_law 1228 = .ok (.ifCond .eq 5, 3) := by decide +kernel
theorem dL_law_1231 : decode cL_law 1231 = .ok (.iconst 0, 1) := by decide +kernel
theorem dL_law_1232 : decode cL_law 1232 = .ok (.ireturn, 1) := by decide +kernel
theorem dL_law_1233 : decode cL_law 1233 = .ok (.goto 928, 3) := by decide +kernel
theorem dL_law_1236 : decode cL_law 1236 = .ok (.aload_n 1, 1) := by decide +kernel
theorem dL_law_1237 : decode cL_law 1237 = .ok (.aload_n 0, 1) := by decide +kernel
theorem dL_law_1238 : decode cL_law 1238 = .ok (.iload 5, 2) := by decide +kernel
theorem dL_law_1240 : decode cL_law 1240 = .ok (.iconst 1, 1) := by decide +kernel
theorem dL_law_1241 : decode cL_law 1241 = .ok (.iadd, 1) := by decide +kernel
theorem dL_law_1242 : decode cL_law 1242 = .ok (.iaload, 1) := by decide +kernel
theorem dL_law_1243 : decode cL_law 1243 = .ok (.aload_n 3, 1) := by decide +kernel
theorem dL_law_1244 : decode cL_law 1244 = .ok (.invokestatic 193, 3) := by decide +kernel
theorem dL_law_1247 : decode cL_law 1247 = .ok (.istore 6, 2) := by decide +kernel
theorem dL_law_1249 : decode cL_law 1249 = .ok (.aload_n 2, 1) := by decide +kernel
theorem dL_law_1250 : decode cL_law 1250 = .ok (.aload_n 0, 1) := by decide +kernel
theorem dL_law_1251 : decode cL_law 1251 = .ok (.iload 5, 2) := by decide +kernel
theorem dL_law_1253 : decode cL_law 1253 = .ok (.iconst 1, 1) := by decide +kernel
theorem dL_law_1254 : decode cL_law 1254 = .ok (.iadd, 1) := by decide +kernel
theorem dL_law_1255 : decode cL_law 1255 = .ok (.iaload, 1) := by decide +kernel
theorem dL_law_1256 : decode cL_law 1256 = .ok (.invokevirtual 195, 3) := by decide +kernel
theorem dL_law_1259 : decode cL_law 1259 = .ok (.istore 7, 2) := by decide +kernel
theorem dL_law_1261 : decode cL_law 1261 = .ok (.aload_n 2, 1) := by decide +kernel
theorem dL_law_1262 : decode cL_law 1262 = .ok (.invokevirtual 133, 3) := by decide +kernel
theorem dL_law_1265 : decode cL_law 1265 = .ok (.iload 6, 2) := by decide +kernel
theorem dL_law_1267 : decode cL_law 1267 = .ok (.if_icmp .eq 5, 3) := by decide +kernel
theorem dL_law_1270 : decode cL_law 1270 = .ok (.iconst 0, 1) := by decide +kernel
theorem dL_law_1271 : decode cL_law 1271 = .ok (.ireturn, 1) := by decide +kernel
theorem dL_law_1272 : decode cL_law 1272 = .ok (.iload 6, 2) := by decide +kernel
theorem dL_law_1274 : decode cL_law 1274 = .ok (.ifCond .ne 15, 3) := by decide +kernel
theorem dL_law_1277 : decode cL_law 1277 = .ok (.aload_n 3, 1) := by decide +kernel
theorem dL_law_1278 : decode cL_law 1278 = .ok (.iconst 0, 1) := by decide +kernel
theorem dL_law_1279 : decode cL_law 1279 = .ok (.laload, 1) := by decide +kernel
theorem dL_law_1280 : decode cL_law 1280 = .ok (.iload 7, 2) := by decide +kernel
theorem dL_law_1282 : decode cL_law 1282 = .ok (.i2l, 1) := by decide +kernel
theorem dL_law_1283 : decode cL_law 1283 = .ok (.lcmp, 1) := by decide +kernel
theorem dL_law_1284 : decode cL_law 1284 = .ok (.ifCond .eq 5, 3) := by decide +kernel
theorem dL_law_1287 : decode cL_law 1287 = .ok (.iconst 0, 1) := by decide +kernel
theorem dL_law_1288 : decode cL_law 1288 = .ok (.ireturn, 1) := by decide +kernel
theorem dL_law_1289 : decode cL_law 1289 = .ok (.goto 872, 3) := by decide +kernel
theorem dL_law_1292 : decode cL_law 1292 = .ok (.aload_n 1, 1) := by decide +kernel
theorem dL_law_1293 : decode cL_law 1293 = .ok (.aload_n 0, 1) := by decide +kernel
theorem dL_law_1294 : decode cL_law 1294 = .ok (.iload 5, 2) := by decide +kernel
theorem dL_law_1296 : decode cL_law 1296 = .ok (.iconst 1, 1) := by decide +kernel
theorem dL_law_1297 : decode cL_law 1297 = .ok (.iadd, 1) := by decide +kernel
theorem dL_law_1298 : decode cL_law 1298 = .ok (.iaload, 1) := by decide +kernel
theorem dL_law_1299 : decode cL_law 1299 = .ok (.aload_n 3, 1) := by decide +kernel
theorem dL_law_1300 : decode cL_law 1300 = .ok (.invokestatic 196, 3) := by decide +kernel
theorem dL_law_1303 : decode cL_law 1303 = .ok (.istore 6, 2) := by decide +kernel
theorem dL_law_1305 : decode cL_law 1305 = .ok (.aload_n 2, 1) := by decide +kernel
theorem dL_law_1306 : decode cL_law 1306 = .ok (.aload_n 0, 1) := by decide +kernel
theorem dL_law_1307 : decode cL_law 1307 = .ok (.iload 5, 2) := by decide +kernel
theorem dL_law_1309 : decode cL_law 1309 = .ok (.iconst 1, 1) := by decide +kernel
theorem dL_law_1310 : decode cL_law 1310 = .ok (.iadd, 1) := by decide +kernel
theorem dL_law_1311 : decode cL_law 1311 = .ok (.iaload, 1) := by decide +kernel
theorem dL_law_1312 : decode cL_law 1312 = .ok (.invokevirtual 198, 3) := by decide +kernel
theorem dL_law_1315 : decode cL_law 1315 = .ok (.istore 7, 2) := by decide +kernel
theorem dL_law_1317 : decode cL_law 1317 = .ok (.aload_n 2, 1) := by decide +kernel
theorem dL_law_1318 : decode cL_law 1318 = .ok (.invokevirtual 133, 3) := by decide +kernel
theorem dL_law_1321 : decode cL_law 1321 = .ok (.iload 6, 2) := by decide +kernel
theorem dL_law_1323 : decode cL_law 1323 = .ok (.if_icmp .eq 5, 3) := by decide +kernel
theorem dL_law_1326 : decode cL_law 1326 = .ok (.iconst 0, 1) := by decide +kernel
theorem dL_law_1327 : decode cL_law 1327 = .ok (.ireturn, 1) := by decide +kernel
theorem dL_law_1328 : decode cL_law 1328 = .ok (.iload 6, 2) := by decide +kernel
theorem dL_law_1330 : decode cL_law 1330 = .ok (.ifCond .ne 15, 3) := by decide +kernel
theorem dL_law_1333 : decode cL_law 1333 = .ok (.aload_n 3, 1) := by decide +kernel
theorem dL_law_1334 : decode cL_law 1334 = .ok (.iconst 0, 1) := by decide +kernel
theorem dL_law_1335 : decode cL_law 1335 = .ok (.laload, 1) := by decide +kernel
theorem dL_law_1336 : decode cL_law 1336 = .ok (.iload 7, 2) := by decide +kernel
theorem dL_law_1338 : decode cL_law 1338 = .ok (.i2l, 1) := by decide +kernel
theorem dL_law_1339 : decode cL_law 1339 = .ok (.lcmp, 1) := by decide +kernel
theorem dL_law_1340 : decode cL_law 1340 = .ok (.ifCond .eq 5, 3) := by decide +kernel
theorem dL_law_1343 : decode cL_law 1343 = .ok (.iconst 0, 1) := by decide +kernel
theorem dL_law_1344 : decode cL_law 1344 = .ok (.ireturn, 1) := by decide +kernel
theorem dL_law_1345 : decode cL_law 1345 = .ok (.goto 816, 3) := by decide +kernel
theorem dL_law_1348 : decode cL_law 1348 = .ok (.aload_n 1, 1) := by decide +kernel
theorem dL_law_1349 : decode cL_law 1349 = .ok (.aload_n 0, 1) := by decide +kernel
theorem dL_law_1350 : decode cL_law 1350 = .ok (.iload 5, 2) := by decide +kernel
theorem dL_law_1352 : decode cL_law 1352 = .ok (.iconst 1, 1) := by decide +kernel
theorem dL_law_1353 : decode cL_law 1353 = .ok (.iadd, 1) := by decide +kernel
theorem dL_law_1354 : decode cL_law 1354 = .ok (.iaload, 1) := by decide +kernel
theorem dL_law_1355 : decode cL_law 1355 = .ok (.aload_n 0, 1) := by decide +kernel
theorem dL_law_1356 : decode cL_law 1356 = .ok (.iload 5, 2) := by decide +kernel
theorem dL_law_1358 : decode cL_law 1358 = .ok (.iconst 2, 1) := by decide +kernel
theorem dL_law_1359 : decode cL_law 1359 = .ok (.iadd, 1) := by decide +kernel
theorem dL_law_1360 : decode cL_law 1360 = .ok (.iaload, 1) := by decide +kernel
theorem dL_law_1361 : decode cL_law 1361 = .ok (.aload_n 3, 1) := by decide +kernel
theorem dL_law_1362 : decode cL_law 1362 = .ok (.invokestatic 199, 3) := by decide +kernel
theorem dL_law_1365 : decode cL_law 1365 = .ok (.istore 6, 2) := by decide +kernel
theorem dL_law_1367 : decode cL_law 1367 = .ok (.aload_n 2, 1) := by decide +kernel
theorem dL_law_1368 : decode cL_law 1368 = .ok (.aload_n 0, 1) := by decide +kernel
theorem dL_law_1369 : decode cL_law 1369 = .ok (.iload 5, 2) := by decide +kernel
theorem dL_law_1371 : decode cL_law 1371 = .ok (.iconst 1, 1) := by decide +kernel
theorem dL_law_1372 : decode cL_law 1372 = .ok (.iadd, 1) := by decide +kernel
theorem dL_law_1373 : decode cL_law 1373 = .ok (.iaload, 1) := by decide +kernel
theorem dL_law_1374 : decode cL_law 1374 = .ok (.aload_n 0, 1) := by decide +kernel
theorem dL_law_1375 : decode cL_law 1375 = .ok (.iload 5, 2) := by decide +kernel
theorem dL_law_1377 : decode cL_law 1377 = .ok (.iconst 2, 1) := by decide +kernel
theorem dL_law_1378 : decode cL_law 1378 = .ok (.iadd, 1) := by decide +kernel
theorem dL_law_1379 : decode cL_law 1379 = .ok (.iaload, 1) := by decide +kernel
theorem dL_law_1380 : decode cL_law 1380 = .ok (.invokevirtual 201, 3) := by decide +kernel
theorem dL_law_1383 : decode cL_law 1383 = .ok (.istore 7, 2) := by decide +kernel
theorem dL_law_1385 : decode cL_law 1385 = .ok (.aload_n 2, 1) := by decide +kernel
theorem dL_law_1386 : decode cL_law 1386 = .ok (.invokevirtual 133, 3) := by decide +kernel
theorem dL_law_1389 : decode cL_law 1389 = .ok (.iload 6, 2) := by decide +kernel
theorem dL_law_1391 : decode cL_law 1391 = .ok (.if_icmp .eq 5, 3) := by decide +kernel
theorem dL_law_1394 : decode cL_law 1394 = .ok (.iconst 0, 1) := by decide +kernel
theorem dL_law_1395 : decode cL_law 1395 = .ok (.ireturn, 1) := by decide +kernel
theorem dL_law_1396 : decode cL_law 1396 = .ok (.iload 6, 2) := by decide +kernel
theorem dL_law_1398 : decode cL_law 1398 = .ok (.ifCond .ne 15, 3) := by decide +kernel
theorem dL_law_1401 : decode cL_law 1401 = .ok (.aload_n 3, 1) := by decide +kernel
theorem dL_law_1402 : decode cL_law 1402 = .ok (.iconst 0, 1) := by decide +kernel
theorem dL_law_1403 : decode cL_law 1403 = .ok (.laload, 1) := by decide +kernel
theorem dL_law_1404 : decode cL_law 1404 = .ok (.iload 7, 2) := by decide +kernel
theorem dL_law_1406 : decode cL_law 1406 = .ok (.i2l, 1) := by decide +kernel
theorem dL_law_1407 : decode cL_law 1407 = .ok (.lcmp, 1) := by decide +kernel
theorem dL_law_1408 : decode cL_law 1408 = .ok (.ifCond .eq 5, 3) := by decide +kernel
theorem dL_law_1411 : decode cL_law 1411 = .ok (.iconst 0, 1) := by decide +kernel
theorem dL_law_1412 : decode cL_law 1412 = .ok (.ireturn, 1) := by decide +kernel
theorem dL_law_1413 : decode cL_law 1413 = .ok (.goto 748, 3) := by decide +kernel
theorem dL_law_1416 : decode cL_law 1416 = .ok (.aload_n 1, 1) := by decide +kernel
theorem dL_law_1417 : decode cL_law 1417 = .ok (.aload_n 0, 1) := by decide +kernel
theorem dL_law_1418 : decode cL_law 1418 = .ok (.iload 5, 2) := by decide +kernel
theorem dL_law_1420 : decode cL_law 1420 = .ok (.iconst 1, 1) := by decide +kernel
theorem dL_law_1421 : decode cL_law 1421 = .ok (.iadd, 1) := by decide +kernel
theorem dL_law_1422 : decode cL_law 1422 = .ok (.iaload, 1) := by decide +kernel
theorem dL_law_1423 : decode cL_law 1423 = .ok (.aload_n 3, 1) := by decide +kernel
theorem dL_law_1424 : decode cL_law 1424 = .ok (.invokestatic 202, 3) := by decide +kernel
theorem dL_law_1427 : decode cL_law 1427 = .ok (.istore 6, 2) := by decide +kernel
theorem dL_law_1429 : decode cL_law 1429 = .ok (.aload_n 2, 1) := by decide +kernel
theorem dL_law_1430 : decode cL_law 1430 = .ok (.aload_n 0, 1) := by decide +kernel
theorem dL_law_1431 : decode cL_law 1431 = .ok (.iload 5, 2) := by decide +kernel
theorem dL_law_1433 : decode cL_law 1433 = .ok (.iconst 1, 1) := by decide +kernel
theorem dL_law_1434 : decode cL_law 1434 = .ok (.iadd, 1) := by decide +kernel
theorem dL_law_1435 : decode cL_law 1435 = .ok (.iaload, 1) := by decide +kernel
theorem dL_law_1436 : decode cL_law 1436 = .ok (.invokevirtual 204, 3) := by decide +kernel
theorem dL_law_1439 : decode cL_law 1439 = .ok (.istore 7, 2) := by decide +kernel
theorem dL_law_1441 : decode cL_law 1441 = .ok (.aload_n 2, 1) := by decide +kernel
theorem dL_law_1442 : decode cL_law 1442 = .ok (.invokevirtual 133, 3) := by decide +kernel
theorem dL_law_1445 : decode cL_law 1445 = .ok (.iload 6, 2) := by decide +kernel
theorem dL_law_1447 : decode cL_law 1447 = .ok (.if_icmp .eq 5, 3) := by decide +kernel
theorem dL_law_1450 : decode cL_law 1450 = .ok (.iconst 0, 1) := by decide +kernel
theorem dL_law_1451 : decode cL_law 1451 = .ok (.ireturn, 1) := by decide +kernel
theorem dL_law_1452 : decode cL_law 1452 = .ok (.iload 6, 2) := by decide +kernel
theorem dL_law_1454 : decode cL_law 1454 = .ok (.ifCond .ne 15, 3) := by decide +kernel
theorem dL_law_1457 : decode cL_law 1457 = .ok (.aload_n 3, 1) := by decide +kernel
theorem dL_law_1458 : decode cL_law 1458 = .ok (.iconst 0, 1) := by decide +kernel
theorem dL_law_1459 : decode cL_law 1459 = .ok (.laload, 1) := by decide +kernel
theorem dL_law_1460 : decode cL_law 1460 = .ok (.iload 7, 2) := by decide +kernel
theorem dL_law_1462 : decode cL_law 1462 = .ok (.i2l, 1) := by decide +kernel
theorem dL_law_1463 : decode cL_law 1463 = .ok (.lcmp, 1) := by decide +kernel
theorem dL_law_1464 : decode cL_law 1464 = .ok (.ifCond .eq 5, 3) := by decide +kernel
theorem dL_law_1467 : decode cL_law 1467 = .ok (.iconst 0, 1) := by decide +kernel
theorem dL_law_1468 : decode cL_law 1468 = .ok (.ireturn, 1) := by decide +kernel
theorem dL_law_1469 : decode cL_law 1469 = .ok (.goto 692, 3) := by decide +kernel
theorem dL_law_1472 : decode cL_law 1472 = .ok (.aload_n 1, 1) := by decide +kernel
theorem dL_law_1473 : decode cL_law 1473 = .ok (.aload_n 0, 1) := by decide +kernel
theorem dL_law_1474 : decode cL_law 1474 = .ok (.iload 5, 2) := by decide +kernel
theorem dL_law_1476 : decode cL_law 1476 = .ok (.iconst 1, 1) := by decide +kernel
theorem dL_law_1477 : decode cL_law 1477 = .ok (.iadd, 1) := by decide +kernel
theorem dL_law_1478 : decode cL_law 1478 = .ok (.iaload, 1) := by decide +kernel
theorem dL_law_1479 : decode cL_law 1479 = .ok (.aload_n 3, 1) := by decide +kernel
theorem dL_law_1480 : decode cL_law 1480 = .ok (.invokestatic 205, 3) := by decide +kernel
theorem dL_law_1483 : decode cL_law 1483 = .ok (.istore 6, 2) := by decide +kernel
theorem dL_law_1485 : decode cL_law 1485 = .ok (.aload_n 2, 1) := by decide +kernel
theorem dL_law_1486 : decode cL_law 1486 = .ok (.aload_n 0, 1) := by decide +kernel
theorem dL_law_1487 : decode cL_law 1487 = .ok (.iload 5, 2) := by decide +kernel
theorem dL_law_1489 : decode cL_law 1489 = .ok (.iconst 1, 1) := by decide +kernel
theorem dL_law_1490 : decode cL_law 1490 = .ok (.iadd, 1) := by decide +kernel
theorem dL_law_1491 : decode cL_law 1491 = .ok (.iaload, 1) := by decide +kernel
theorem dL_law_1492 : decode cL_law 1492 = .ok (.invokevirtual 207, 3) := by decide +kernel
theorem dL_law_1495 : decode cL_law 1495 = .ok (.istore 7, 2) := by decide +kernel
theorem dL_law_1497 : decode cL_law 1497 = .ok (.aload_n 2, 1) := by decide +kernel
theorem dL_law_1498 : decode cL_law 1498 = .ok (.invokevirtual 133, 3) := by decide +kernel
theorem dL_law_1501 : decode cL_law 1501 = .ok (.iload 6, 2) := by decide +kernel
theorem dL_law_1503 : decode cL_law 1503 = .ok (.if_icmp .eq 5, 3) := by decide +kernel
theorem dL_law_1506 : decode cL_law 1506 = .ok (.iconst 0, 1) := by decide +kernel
theorem dL_law_1507 : decode cL_law 1507 = .ok (.ireturn, 1) := by decide +kernel
theorem dL_law_1508 : decode cL_law 1508 = .ok (.iload 6, 2) := by decide +kernel
theorem dL_law_1510 : decode cL_law 1510 = .ok (.ifCond .ne 15, 3) := by decide +kernel
theorem dL_law_1513 : decode cL_law 1513 = .ok (.aload_n 3, 1) := by decide +kernel
theorem dL_law_1514 : decode cL_law 1514 = .ok (.iconst 0, 1) := by decide +kernel
theorem dL_law_1515 : decode cL_law 1515 = .ok (.laload, 1) := by decide +kernel
theorem dL_law_1516 : decode cL_law 1516 = .ok (.iload 7, 2) := by decide +kernel
theorem dL_law_1518 : decode cL_law 1518 = .ok (.i2l, 1) := by decide +kernel
theorem dL_law_1519 : decode cL_law 1519 = .ok (.lcmp, 1) := by decide +kernel
theorem dL_law_1520 : decode cL_law 1520 = .ok (.ifCond .eq 5, 3) := by decide +kernel
theorem dL_law_1523 : decode cL_law 1523 = .ok (.iconst 0, 1) := by decide +kernel
theorem dL_law_1524 : decode cL_law 1524 = .ok (.ireturn, 1) := by decide +kernel
theorem dL_law_1525 : decode cL_law 1525 = .ok (.goto 636, 3) := by decide +kernel
theorem dL_law_1528 : decode cL_law 1528 = .ok (.aload_n 1, 1) := by decide +kernel
theorem dL_law_1529 : decode cL_law 1529 = .ok (.invokevirtual 208, 3) := by decide +kernel
theorem dL_law_1532 : decode cL_law 1532 = .ok (.aload_n 2, 1) := by decide +kernel
theorem dL_law_1533 : decode cL_law 1533 = .ok (.invokevirtual 211, 3) := by decide +kernel
theorem dL_law_1536 : decode cL_law 1536 = .ok (.if_icmp .eq 625, 3) := by decide +kernel
theorem dL_law_1539 : decode cL_law 1539 = .ok (.iconst 0, 1) := by decide +kernel
theorem dL_law_1540 : decode cL_law 1540 = .ok (.ireturn, 1) := by decide +kernel
theorem dL_law_1541 : decode cL_law 1541 = .ok (.aload_n 1, 1) := by decide +kernel
theorem dL_law_1542 : decode cL_law 1542 = .ok (.aload_n 0, 1) := by decide +kernel
theorem dL_law_1543 : decode cL_law 1543 = .ok (.iload 5, 2) := by decide +kernel
theorem dL_law_1545 : decode cL_law 1545 = .ok (.iconst 1, 1) := by decide +kernel
theorem dL_law_1546 : decode cL_law 1546 = .ok (.iadd, 1) := by decide +kernel
theorem dL_law_1547 : decode cL_law 1547 = .ok (.iaload, 1) := by decide +kernel
theorem dL_law_1548 : decode cL_law 1548 = .ok (.aload_n 3, 1) := by decide +kernel
theorem dL_law_1549 : decode cL_law 1549 = .ok (.invokestatic 212, 3) := by decide +kernel
theorem dL_law_1552 : decode cL_law 1552 = .ok (.istore 6, 2) := by decide +kernel
theorem dL_law_1554 : decode cL_law 1554 = .ok (.aload_n 2, 1) := by decide +kernel
theorem dL_law_1555 : decode cL_law 1555 = .ok (.aload_n 0, 1) := by decide +kernel
theorem dL_law_1556 : decode cL_law 1556 = .ok (.iload 5, 2) := by decide +kernel
theorem dL_law_1558 : decode cL_law 1558 = .ok (.iconst 1, 1) := by decide +kernel
theorem dL_law_1559 : decode cL_law 1559 = .ok (.iadd, 1) := by decide +kernel
theorem dL_law_1560 : decode cL_law 1560 = .ok (.iaload, 1) := by decide +kernel
theorem dL_law_1561 : decode cL_law 1561 = .ok (.invokevirtual 214, 3) := by decide +kernel
theorem dL_law_1564 : decode cL_law 1564 = .ok (.istore 7, 2) := by decide +kernel
theorem dL_law_1566 : decode cL_law 1566 = .ok (.aload_n 2, 1) := by decide +kernel
theorem dL_law_1567 : decode cL_law 1567 = .ok (.invokevirtual 133, 3) := by decide +kernel
theorem dL_law_1570 : decode cL_law 1570 = .ok (.iload 6, 2) := by decide +kernel
theorem dL_law_1572 : decode cL_law 1572 = .ok (.if_icmp .eq 5, 3) := by decide +kernel
theorem dL_law_1575 : decode cL_law 1575 = .ok (.iconst 0, 1) := by decide +kernel
theorem dL_law_1576 : decode cL_law 1576 = .ok (.ireturn, 1) := by decide +kernel
theorem dL_law_1577 : decode cL_law 1577 = .ok (.iload 6, 2) := by decide +kernel
theorem dL_law_1579 : decode cL_law 1579 = .ok (.ifCond .ne 15, 3) := by decide +kernel
theorem dL_law_1582 : decode cL_law 1582 = .ok (.aload_n 3, 1) := by decide +kernel
theorem dL_law_1583 : decode cL_law 1583 = .ok (.iconst 0, 1) := by decide +kernel
theorem dL_law_1584 : decode cL_law 1584 = .ok (.laload, 1) := by decide +kernel
theorem dL_law_1585 : decode cL_law 1585 = .ok (.iload 7, 2) := by decide +kernel
theorem dL_law_1587 : decode cL_law 1587 = .ok (.i2l, 1) := by decide +kernel
theorem dL_law_1588 : decode cL_law 1588 = .ok (.lcmp, 1) := by decide +kernel
theorem dL_law_1589 : decode cL_law 1589 = .ok (.ifCond .eq 5, 3) := by decide +kernel
theorem dL_law_1592 : decode cL_law 1592 = .ok (.iconst 0, 1) := by decide +kernel
theorem dL_law_1593 : decode cL_law 1593 = .ok (.ireturn, 1) := by decide +kernel
theorem dL_law_1594 : decode cL_law 1594 = .ok (.goto 567, 3) := by decide +kernel
theorem dL_law_1597 : decode cL_law 1597 = .ok (.aload_n 1, 1) := by decide +kernel
theorem dL_law_1598 : decode cL_law 1598 = .ok (.aload_n 0, 1) := by decide +kernel
theorem dL_law_1599 : decode cL_law 1599 = .ok (.iload 5, 2) := by decide +kernel
theorem dL_law_1601 : decode cL_law 1601 = .ok (.iconst 1, 1) := by decide +kernel
theorem dL_law_1602 : decode cL_law 1602 = .ok (.iadd, 1) := by decide +kernel
theorem dL_law_1603 : decode cL_law 1603 = .ok (.iaload, 1) := by decide +kernel
theorem dL_law_1604 : decode cL_law 1604 = .ok (.aload_n 3, 1) := by decide +kernel
theorem dL_law_1605 : decode cL_law 1605 = .ok (.invokestatic 215, 3) := by decide +kernel
theorem dL_law_1608 : decode cL_law 1608 = .ok (.istore 6, 2) := by decide +kernel
theorem dL_law_1610 : decode cL_law 1610 = .ok (.aload_n 2, 1) := by decide +kernel
theorem dL_law_1611 : decode cL_law 1611 = .ok (.aload_n 0, 1) := by decide +kernel
theorem dL_law_1612 : decode cL_law 1612 = .ok (.iload 5, 2) := by decide +kernel
theorem dL_law_1614 : decode cL_law 1614 = .ok (.iconst 1, 1) := by decide +kernel
theorem dL_law_1615 : decode cL_law 1615 = .ok (.iadd, 1) := by decide +kernel
theorem dL_law_1616 : decode cL_law 1616 = .ok (.iaload, 1) := by decide +kernel
theorem dL_law_1617 : decode cL_law 1617 = .ok (.invokevirtual 217, 3) := by decide +kernel
theorem dL_law_1620 : decode cL_law 1620 = .ok (.istore 7, 2) := by decide +kernel
theorem dL_law_1622 : decode cL_law 1622 = .ok (.aload_n 2, 1) := by decide +kernel
theorem dL_law_1623 : decode cL_law 1623 = .ok (.invokevirtual 133, 3) := by decide +kernel
theorem dL_law_1626 : decode cL_law 1626 = .ok (.iload 6, 2) := by decide +kernel
theorem dL_law_1628 : decode cL_law 1628 = .ok (.if_icmp .eq 5, 3) := by decide +kernel
theorem dL_law_1631 : decode cL_law 1631 = .ok (.iconst 0, 1) := by decide +kernel
theorem dL_law_1632 : decode cL_law 1632 = .ok (.ireturn, 1) := by decide +kernel
theorem dL_law_1633 : decode cL_law 1633 = .ok (.iload 6, 2) := by decide +kernel
theorem dL_law_1635 : decode cL_law 1635 = .ok (.ifCond .ne 15, 3) := by decide +kernel
theorem dL_law_1638 : decode cL_law 1638 = .ok (.aload_n 3, 1) := by decide +kernel
theorem dL_law_1639 : decode cL_law 1639 = .ok (.iconst 0, 1) := by decide +kernel
theorem dL_law_1640 : decode cL_law 1640 = .ok (.laload, 1) := by decide +kernel
theorem dL_law_1641 : decode cL_law 1641 = .ok (.iload 7, 2) := by decide +kernel
theorem dL_law_1643 : decode cL_law 1643 = .ok (.i2l, 1) := by decide +kernel
theorem dL_law_1644 : decode cL_law 1644 = .ok (.lcmp, 1) := by decide +kernel
theorem dL_law_1645 : decode cL_law 1645 = .ok (.ifCond .eq 5, 3) := by decide +kernel
theorem dL_law_1648 : decode cL_law 1648 = .ok (.iconst 0, 1) := by decide +kernel
theorem dL_law_1649 : decode cL_law 1649 = .ok (.ireturn, 1) := by decide +kernel
theorem dL_law_1650 : decode cL_law 1650 = .ok (.goto 511, 3) := by decide +kernel
theorem dL_law_1653 : decode cL_law 1653 = .ok (.aload_n 1, 1) := by decide +kernel
theorem dL_law_1654 : decode cL_law 1654 = .ok (.aload_n 0, 1) := by decide +kernel
theorem dL_law_1655 : decode cL_law 1655 = .ok (.iload 5, 2) := by decide +kernel
theorem dL_law_1657 : decode cL_law 1657 = .ok (.iconst 1, 1) := by decide +kernel
theorem dL_law_1658 : decode cL_law 1658 = .ok (.iadd, 1) := by decide +kernel
theorem dL_law_1659 : decode cL_law 1659 = .ok (.iaload, 1) := by decide +kernel
theorem dL_law_1660 : decode cL_law 1660 = .ok (.aload_n 3, 1) := by decide +kernel
theorem dL_law_1661 : decode cL_law 1661 = .ok (.invokestatic 218, 3) := by decide +kernel
theorem dL_law_1664 : decode cL_law 1664 = .ok (.istore 6, 2) := by decide +kernel
theorem dL_law_1666 : decode cL_law 1666 = .ok (.aload_n 2, 1) := by decide +kernel
theorem dL_law_1667 : decode cL_law 1667 = .ok (.aload_n 0, 1) := by decide +kernel
theorem dL_law_1668 : decode cL_law 1668 = .ok (.iload 5, 2) := by decide +kernel
theorem dL_law_1670 : decode cL_law 1670 = .ok (.iconst 1, 1) := by decide +kernel
theorem dL_law_1671 : decode cL_law 1671 = .ok (.iadd, 1) := by decide +kernel
theorem dL_law_1672 : decode cL_law 1672 = .ok (.iaload, 1) := by decide +kernel
theorem dL_law_1673 : decode cL_law 1673 = .ok (.invokevirtual 220, 3) := by decide +kernel
theorem dL_law_1676 : decode cL_law 1676 = .ok (.istore 7, 2) := by decide +kernel
theorem dL_law_1678 : decode cL_law 1678 = .ok (.aload_n 2, 1) := by decide +kernel
theorem dL_law_1679 : decode cL_law 1679 = .ok (.invokevirtual 133, 3) := by decide +kernel
theorem dL_law_1682 : decode cL_law 1682 = .ok (.iload 6, 2) := by decide +kernel
theorem dL_law_1684 : decode cL_law 1684 = .ok (.if_icmp .eq 5, 3) := by decide +kernel
theorem dL_law_1687 : decode cL_law 1687 = .ok (.iconst 0, 1) := by decide +kernel
theorem dL_law_1688 : decode cL_law 1688 = .ok (.ireturn, 1) := by decide +kernel
theorem dL_law_1689 : decode cL_law 1689 = .ok (.iload 6, 2) := by decide +kernel
theorem dL_law_1691 : decode cL_law 1691 = .ok (.ifCond .ne 15, 3) := by decide +kernel
theorem dL_law_1694 : decode cL_law 1694 = .ok (.aload_n 3, 1) := by decide +kernel
theorem dL_law_1695 : decode cL_law 1695 = .ok (.iconst 0, 1) := by decide +kernel
theorem dL_law_1696 : decode cL_law 1696 = .ok (.laload, 1) := by decide +kernel
theorem dL_law_1697 : decode cL_law 1697 = .ok (.iload 7, 2) := by decide +kernel
theorem dL_law_1699 : decode cL_law 1699 = .ok (.i2l, 1) := by decide +kernel
theorem dL_law_1700 : decode cL_law 1700 = .ok (.lcmp, 1) := by decide +kernel
theorem dL_law_1701 : decode cL_law 1701 = .ok (.ifCond .eq 5, 3) := by decide +kernel
theorem dL_law_1704 : decode cL_law 1704 = .ok (.iconst 0, 1) := by decide +kernel
theorem dL_law_1705 : decode cL_law 1705 = .ok (.ireturn, 1) := by decide +kernel
theorem dL_law_1706 : decode cL_law 1706 = .ok (.goto 455, 3) := by decide +kernel
theorem dL_law_1709 : decode cL_law 1709 = .ok (.aload_n 1, 1) := by decide +kernel
theorem dL_law_1710 : decode cL_law 1710 = .ok (.aload_n 0, 1) := by decide +kernel
theorem dL_law_1711 : decode cL_law 1711 = .ok (.iload 5, 2) := by decide +kernel
theorem dL_law_1713 : decode cL_law 1713 = .ok (.iconst 1, 1) := by decide +kernel
theorem dL_law_1714 : decode cL_law 1714 = .ok (.iadd, 1) := by decide +kernel
theorem dL_law_1715 : decode cL_law 1715 = .ok (.iaload, 1) := by decide +kernel
theorem dL_law_1716 : decode cL_law 1716 = .ok (.aload_n 3, 1) := by decide +kernel
theorem dL_law_1717 : decode cL_law 1717 = .ok (.invokestatic 221, 3) := by decide +kernel
theorem dL_law_1720 : decode cL_law 1720 = .ok (.istore 6, 2) := by decide +kernel
theorem dL_law_1722 : decode cL_law 1722 = .ok (.aload_n 2, 1) := by decide +kernel
theorem dL_law_1723 : decode cL_law 1723 = .ok (.aload_n 0, 1) := by decide +kernel
theorem dL_law_1724 : decode cL_law 1724 = .ok (.iload 5, 2) := by decide +kernel
theorem dL_law_1726 : decode cL_law 1726 = .ok (.iconst 1, 1) := by decide +kernel
theorem dL_law_1727 : decode cL_law 1727 = .ok (.iadd, 1) := by decide +kernel
theorem dL_law_1728 : decode cL_law 1728 = .ok (.iaload, 1) := by decide +kernel
theorem dL_law_1729 : decode cL_law 1729 = .ok (.invokevirtual 223, 3) := by decide +kernel
theorem dL_law_1732 : decode cL_law 1732 = .ok (.istore 7, 2) := by decide +kernel
theorem dL_law_1734 : decode cL_law 1734 = .ok (.aload_n 2, 1) := by decide +kernel
theorem dL_law_1735 : decode cL_law 1735 = .ok (.invokevirtual 133, 3) := by decide +kernel
theorem dL_law_1738 : decode cL_law 1738 = .ok (.iload 6, 2) := by decide +kernel
theorem dL_law_1740 : decode cL_law 1740 = .ok (.if_icmp .eq 5, 3) := by decide +kernel
theorem dL_law_1743 : decode cL_law 1743 = .ok (.iconst 0, 1) := by decide +kernel
theorem dL_law_1744 : decode cL_law 1744 = .ok (.ireturn, 1) := by decide +kernel
theorem dL_law_1745 : decode cL_law 1745 = .ok (.iload 6, 2) := by decide +kernel
theorem dL_law_1747 : decode cL_law 1747 = .ok (.ifCond .ne 15, 3) := by decide +kernel
theorem dL_law_1750 : decode cL_law 1750 = .ok (.aload_n 3, 1) := by decide +kernel
theorem dL_law_1751 : decode cL_law 1751 = .ok (.iconst 0, 1) := by decide +kernel
theorem dL_law_1752 : decode cL_law 1752 = .ok (.laload, 1) := by decide +kernel
theorem dL_law_1753 : decode cL_law 1753 = .ok (.iload 7, 2) := by decide +kernel
theorem dL_law_1755 : decode cL_law 1755 = .ok (.i2l, 1) := by decide +kernel
theorem dL_law_1756 : decode cL_law 1756 = .ok (.lcmp, 1) := by decide +kernel
theorem dL_law_1757 : decode cL_law 1757 = .ok (.ifCond .eq 5, 3) := by decide +kernel
theorem dL_law_1760 : decode cL_law 1760 = .ok (.iconst 0, 1) := by decide +kernel
theorem dL_law_1761 : decode cL_law 1761 = .ok (.ireturn, 1) := by decide +kernel
theorem dL_law_1762 : decode cL_law 1762 = .ok (.goto 399, 3) := by decide +kernel
theorem dL_law_1765 : decode cL_law 1765 = .ok (.aload_n 1, 1) := by decide +kernel
theorem dL_law_1766 : decode cL_law 1766 = .ok (.aload_n 0, 1) := by decide +kernel
theorem dL_law_1767 : decode cL_law 1767 = .ok (.iload 5, 2) := by decide +kernel
theorem dL_law_1769 : decode cL_law 1769 = .ok (.iconst 1, 1) := by decide +kernel
theorem dL_law_1770 : decode cL_law 1770 = .ok (.iadd, 1) := by decide +kernel
theorem dL_law_1771 : decode cL_law 1771 = .ok (.iaload, 1) := by decide +kernel
theorem dL_law_1772 : decode cL_law 1772 = .ok (.aload_n 3, 1) := by decide +kernel
theorem dL_law_1773 : decode cL_law 1773 = .ok (.invokestatic 224, 3) := by decide +kernel
theorem dL_law_1776 : decode cL_law 1776 = .ok (.istore 6, 2) := by decide +kernel
theorem dL_law_1778 : decode cL_law 1778 = .ok (.aload_n 2, 1) := by decide +kernel
theorem dL_law_1779 : decode cL_law 1779 = .ok (.aload_n 0, 1) := by decide +kernel
theorem dL_law_1780 : decode cL_law 1780 = .ok (.iload 5, 2) := by decide +kernel
theorem dL_law_1782 : decode cL_law 1782 = .ok (.iconst 1, 1) := by decide +kernel
theorem dL_law_1783 : decode cL_law 1783 = .ok (.iadd, 1) := by decide +kernel
theorem dL_law_1784 : decode cL_law 1784 = .ok (.iaload, 1) := by decide +kernel
theorem dL_law_1785 : decode cL_law 1785 = .ok (.invokevirtual 226, 3) := by decide +kernel
theorem dL_law_1788 : decode cL_law 1788 = .ok (.istore 7, 2) := by decide +kernel
theorem dL_law_1790 : decode cL_law 1790 = .ok (.aload_n 2, 1) := by decide +kernel
theorem dL_law_1791 : decode cL_law 1791 = .ok (.invokevirtual 133, 3) := by decide +kernel
theorem dL_law_1794 : decode cL_law 1794 = .ok (.iload 6, 2) := by decide +kernel
theorem dL_law_1796 : decode cL_law 1796 = .ok (.if_icmp .eq 5, 3) := by decide +kernel
theorem dL_law_1799 : decode cL_law 1799 = .ok (.iconst 0, 1) := by decide +kernel
theorem dL_law_1800 : decode cL_law 1800 = .ok (.ireturn, 1) := by decide +kernel
theorem dL_law_1801 : decode cL_law 1801 = .ok (.iload 6, 2) := by decide +kernel
theorem dL_law_1803 : decode cL_law 1803 = .ok (.ifCond .ne 22, 3) := by decide +kernel
theorem dL_law_1806 : decode cL_law 1806 = .ok (.aload_n 3, 1) := by decide +kernel
theorem dL_law_1807 : decode cL_law 1807 = .ok (.iconst 0, 1) := by decide +kernel
theorem dL_law_1808 : decode cL_law 1808 = .ok (.laload, 1) := by decide +kernel
theorem dL_law_1809 : decode cL_law 1809 = .ok (.iload 7, 2) := by decide +kernel
theorem dL_law_1811 : decode cL_law 1811 = .ok (.ifCond .eq 7, 3) := by decide +kernel
theorem dL_law_1814 : decode cL_law 1814 = .ok (.lconst 1, 1) := by decide +kernel
theorem dL_law_1815 : decode cL_law 1815 = .ok (.goto 4, 3) := by decide +kernel
theorem dL_law_1818 : decode cL_law 1818 = .ok (.lconst 0, 1) := by decide +kernel
theorem dL_law_1819 : decode cL_law 1819 = .ok (.lcmp, 1) := by decide +kernel
theorem dL_law_1820 : decode cL_law 1820 = .ok (.ifCond .eq 5, 3) := by decide +kernel
theorem dL_law_1823 : decode cL_law 1823 = .ok (.iconst 0, 1) := by decide +kernel
theorem dL_law_1824 : decode cL_law 1824 = .ok (.ireturn, 1) := by decide +kernel
theorem dL_law_1825 : decode cL_law 1825 = .ok (.goto 336, 3) := by decide +kernel
theorem dL_law_1828 : decode cL_law 1828 = .ok (.aload_n 1, 1) := by decide +kernel
theorem dL_law_1829 : decode cL_law 1829 = .ok (.aload_n 0, 1) := by decide +kernel
theorem dL_law_1830 : decode cL_law 1830 = .ok (.iload 5, 2) := by decide +kernel
theorem dL_law_1832 : decode cL_law 1832 = .ok (.iconst 1, 1) := by decide +kernel
theorem dL_law_1833 : decode cL_law 1833 = .ok (.iadd, 1) := by decide +kernel
theorem dL_law_1834 : decode cL_law 1834 = .ok (.iaload, 1) := by decide +kernel
theorem dL_law_1835 : decode cL_law 1835 = .ok (.aload_n 3, 1) := by decide +kernel
theorem dL_law_1836 : decode cL_law 1836 = .ok (.invokestatic 227, 3) := by decide +kernel
theorem dL_law_1839 : decode cL_law 1839 = .ok (.istore 6, 2) := by decide +kernel
theorem dL_law_1841 : decode cL_law 1841 = .ok (.aload_n 2, 1) := by decide +kernel
theorem dL_law_1842 : decode cL_law 1842 = .ok (.aload_n 0, 1) := by decide +kernel
theorem dL_law_1843 : decode cL_law 1843 = .ok (.iload 5, 2) := by decide +kernel
theorem dL_law_1845 : decode cL_law 1845 = .ok (.iconst 1, 1) := by decide +kernel
theorem dL_law_1846 : decode cL_law 1846 = .ok (.iadd, 1) := by decide +kernel
theorem dL_law_1847 : decode cL_law 1847 = .ok (.iaload, 1) := by decide +kernel
theorem dL_law_1848 : decode cL_law 1848 = .ok (.invokevirtual 229, 3) := by decide +kernel
theorem dL_law_1851 : decode cL_law 1851 = .ok (.istore 7, 2) := by decide +kernel
theorem dL_law_1853 : decode cL_law 1853 = .ok (.aload_n 2, 1) := by decide +kernel
theorem dL_law_1854 : decode cL_law 1854 = .ok (.invokevirtual 133, 3) := by decide +kernel
theorem dL_law_1857 : decode cL_law 1857 = .ok (.iload 6, 2) := by decide +kernel
theorem dL_law_1859 : decode cL_law 1859 = .ok (.if_icmp .eq 5, 3) := by decide +kernel
theorem dL_law_1862 : decode cL_law 1862 = .ok (.iconst 0, 1) := by decide +kernel
theorem dL_law_1863 : decode cL_law 1863 = .ok (.ireturn, 1) := by decide +kernel
theorem dL_law_1864 : decode cL_law 1864 = .ok (.iload 6, 2) := by decide +kernel
theorem dL_law_1866 : decode cL_law 1866 = .ok (.ifCond .ne 22, 3) := by decide +kernel
theorem dL_law_1869 : decode cL_law 1869 = .ok (.aload_n 3, 1) := by decide +kernel
theorem dL_law_1870 : decode cL_law 1870 = .ok (.iconst 0, 1) := by decide +kernel
theorem dL_law_1871 : decode cL_law 1871 = .ok (.laload, 1) := by decide +kernel
theorem dL_law_1872 : decode cL_law 1872 = .ok (.iload 7, 2) := by decide +kernel
theorem dL_law_1874 : decode cL_law 1874 = .ok (.ifCond .eq 7, 3) := by decide +kernel
theorem dL_law_1877 : decode cL_law 1877 = .ok (.lconst 1, 1) := by decide +kernel
theorem dL_law_1878 : decode cL_law 1878 = .ok (.goto 4, 3) := by decide +kernel
theorem dL_law_1881 : decode cL_law 1881 = .ok (.lconst 0, 1) := by decide +kernel
theorem dL_law_1882 : decode cL_law 1882 = .ok (.lcmp, 1) := by decide +kernel
theorem dL_law_1883 : decode cL_law 1883 = .ok (.ifCond .eq 5, 3) := by decide +kernel
theorem dL_law_1886 : decode cL_law 1886 = .ok (.iconst 0, 1) := by decide +kernel
theorem dL_law_1887 : decode cL_law 1887 = .ok (.ireturn, 1) := by decide +kernel
theorem dL_law_1888 : decode cL_law 1888 = .ok (.goto 273, 3) := by decide +kernel
theorem dL_law_1891 : decode cL_law 1891 = .ok (.aload_n 1, 1) := by decide +kernel
theorem dL_law_1892 : decode cL_law 1892 = .ok (.invokevirtual 230, 3) := by decide +kernel
theorem dL_law_1895 : decode cL_law 1895 = .ok (.aload_n 2, 1) := by decide +kernel
theorem dL_law_1896 : decode cL_law 1896 = .ok (.invokevirtual 233, 3) := by decide +kernel
theorem dL_law_1899 : decode cL_law 1899 = .ok (.if_icmp .eq 262, 3) := by decide +kernel
theorem dL_law_1902 : decode cL_law 1902 = .ok (.iconst 0, 1) := by decide +kernel
theorem dL_law_1903 : decode cL_law 1903 = .ok (.ireturn, 1) := by decide +kernel
theorem dL_law_1904 : decode cL_law 1904 = .ok (.aload_n 1, 1) := by decide +kernel
theorem dL_law_1905 : decode cL_law 1905 = .ok (.aload_n 0, 1) := by decide +kernel
theorem dL_law_1906 : decode cL_law 1906 = .ok (.iload 5, 2) := by decide +kernel
theorem dL_law_1908 : decode cL_law 1908 = .ok (.iconst 1, 1) := by decide +kernel
theorem dL_law_1909 : decode cL_law 1909 = .ok (.iadd, 1) := by decide +kernel
theorem dL_law_1910 : decode cL_law 1910 = .ok (.iaload, 1) := by decide +kernel
theorem dL_law_1911 : decode cL_law 1911 = .ok (.aload_n 3, 1) := by decide +kernel
theorem dL_law_1912 : decode cL_law 1912 = .ok (.invokestatic 234, 3) := by decide +kernel
theorem dL_law_1915 : decode cL_law 1915 = .ok (.istore 6, 2) := by decide +kernel
theorem dL_law_1917 : decode cL_law 1917 = .ok (.aload_n 2, 1) := by decide +kernel
theorem dL_law_1918 : decode cL_law 1918 = .ok (.aload_n 0, 1) := by decide +kernel
theorem dL_law_1919 : decode cL_law 1919 = .ok (.iload 5, 2) := by decide +kernel
theorem dL_law_1921 : decode cL_law 1921 = .ok (.iconst 1, 1) := by decide +kernel
theorem dL_law_1922 : decode cL_law 1922 = .ok (.iadd, 1) := by decide +kernel
theorem dL_law_1923 : decode cL_law 1923 = .ok (.iaload, 1) := by decide +kernel
theorem dL_law_1924 : decode cL_law 1924 = .ok (.invokevirtual 236, 3) := by decide +kernel
theorem dL_law_1927 : decode cL_law 1927 = .ok (.istore 7, 2) := by decide +kernel
theorem dL_law_1929 : decode cL_law 1929 = .ok (.aload_n 2, 1) := by decide +kernel
theorem dL_law_1930 : decode cL_law 1930 = .ok (.invokevirtual 133, 3) := by decide +kernel
theorem dL_law_1933 : decode cL_law 1933 = .ok (.iload 6, 2) := by decide +kernel
theorem dL_law_1935 : decode cL_law 1935 = .ok (.if_icmp .eq 5, 3) := by decide +kernel
theorem dL_law_1938 : decode cL_law 1938 = .ok (.iconst 0, 1) := by decide +kernel
theorem dL_law_1939 : decode cL_law 1939 = .ok (.ireturn, 1) := by decide +kernel
theorem dL_law_1940 : decode cL_law 1940 = .ok (.iload 6, 2) := by decide +kernel
theorem dL_law_1942 : decode cL_law 1942 = .ok (.ifCond .ne 15, 3) := by decide +kernel
theorem dL_law_1945 : decode cL_law 1945 = .ok (.aload_n 3, 1) := by decide +kernel
theorem dL_law_1946 : decode cL_law 1946 = .ok (.iconst 0, 1) := by decide +kernel
theorem dL_law_1947 : decode cL_law 1947 = .ok (.laload, 1) := by decide +kernel
theorem dL_law_1948 : decode cL_law 1948 = .ok (.iload 7, 2) := by decide +kernel
theorem dL_law_1950 : decode cL_law 1950 = .ok (.i2l, 1) := by decide +kernel
theorem dL_law_1951 : decode cL_law 1951 = .ok (.lcmp, 1) := by decide +kernel
theorem dL_law_1952 : decode cL_law 1952 = .ok (.ifCond .eq 5, 3) := by decide +kernel
theorem dL_law_1955 : decode cL_law 1955 = .ok (.iconst 0, 1) := by decide +kernel
theorem dL_law_1956 : decode cL_law 1956 = .ok (.ireturn, 1) := by decide +kernel
theorem dL_law_1957 : decode cL_law 1957 = .ok (.goto 204, 3) := by decide +kernel
theorem dL_law_1960 : decode cL_law 1960 = .ok (.aload_n 1, 1) := by decide +kernel
theorem dL_law_1961 : decode cL_law 1961 = .ok (.invokevirtual 237, 3) := by decide +kernel
theorem dL_law_1964 : decode cL_law 1964 = .ok (.aload_n 2, 1) := by decide +kernel
theorem dL_law_1965 : decode cL_law 1965 = .ok (.invokevirtual 240, 3) := by decide +kernel
theorem dL_law_1968 : decode cL_law 1968 = .ok (.lcmp, 1) := by decide +kernel
theorem dL_law_1969 : decode cL_law 1969 = .ok (.ifCond .eq 192, 3) := by decide +kernel
theorem dL_law_1972 : decode cL_law 1972 = .ok (.iconst 0, 1) := by decide +kernel
theorem dL_law_1973 : decode cL_law 1973 = .ok (.ireturn, 1) := by decide +kernel
theorem dL_law_1974 : decode cL_law 1974 = .ok (.aload_n 1, 1) := by decide +kernel
theorem dL_law_1975 : decode cL_law 1975 = .ok (.aload 4, 2) := by decide +kernel
theorem dL_law_1977 : decode cL_law 1977 = .ok (.invokestatic 241, 3) := by decide +kernel
theorem dL_law_1980 : decode cL_law 1980 = .ok (.istore 6, 2) := by decide +kernel
theorem dL_law_1982 : decode cL_law 1982 = .ok (.aload_n 2, 1) := by decide +kernel
theorem dL_law_1983 : decode cL_law 1983 = .ok (.invokevirtual 244, 3) := by decide +kernel
theorem dL_law_1986 : decode cL_law 1986 = .ok (.dstore 7, 2) := by decide +kernel
theorem dL_law_1988 : decode cL_law 1988 = .ok (.aload_n 2, 1) := by decide +kernel
theorem dL_law_1989 : decode cL_law 1989 = .ok (.invokevirtual 133, 3) := by decide +kernel
theorem dL_law_1992 : decode cL_law 1992 = .ok (.iload 6, 2) := by decide +kernel
theorem dL_law_1994 : decode cL_law 1994 = .ok (.if_icmp .eq 5, 3) := by decide +kernel
theorem dL_law_1997 : decode cL_law 1997 = .ok (.iconst 0, 1) := by decide +kernel
theorem dL_law_1998 : decode cL_law 1998 = .ok (.ireturn, 1) := by decide +kernel
theorem dL_law_1999 : decode cL_law 1999 = .ok (.iload 6, 2) := by decide +kernel
theorem dL_law_2001 : decode cL_law 2001 = .ok (.ifCond .ne 35, 3) := by decide +kernel
theorem dL_law_2004 : decode cL_law 2004 = .ok (.aload 4, 2) := by decide +kernel
theorem dL_law_2006 : decode cL_law 2006 = .ok (.iconst 0, 1) := by decide +kernel
theorem dL_law_2007 : decode cL_law 2007 = .ok (.daload, 1) := by decide +kernel
theorem dL_law_2008 : decode cL_law 2008 = .ok (.dload 7, 2) := by decide +kernel
theorem dL_law_2010 : decode cL_law 2010 = .ok (.dcmp .l, 1) := by decide +kernel
theorem dL_law_2011 : decode cL_law 2011 = .ok (.ifCond .eq 25, 3) := by decide +kernel
theorem dL_law_2014 : decode cL_law 2014 = .ok (.aload 4, 2) := by decide +kernel
theorem dL_law_2016 : decode cL_law 2016 = .ok (.iconst 0, 1) := by decide +kernel
theorem dL_law_2017 : decode cL_law 2017 = .ok (.daload, 1) := by decide +kernel
theorem dL_law_2018 : decode cL_law 2018 = .ok (.aload 4, 2) := by decide +kernel
theorem dL_law_2020 : decode cL_law 2020 = .ok (.iconst 0, 1) := by decide +kernel
theorem dL_law_2021 : decode cL_law 2021 = .ok (.daload, 1) := by decide +kernel
theorem dL_law_2022 : decode cL_law 2022 = .ok (.dcmp .l, 1) := by decide +kernel
theorem dL_law_2023 : decode cL_law 2023 = .ok (.ifCond .eq 11, 3) := by decide +kernel
theorem dL_law_2026 : decode cL_law 2026 = .ok (.dload 7, 2) := by decide +kernel
theorem dL_law_2028 : decode cL_law 2028 = .ok (.dload 7, 2) := by decide +kernel
theorem dL_law_2030 : decode cL_law 2030 = .ok (.dcmp .l, 1) := by decide +kernel
theorem dL_law_2031 : decode cL_law 2031 = .ok (.ifCond .ne 5, 3) := by decide +kernel
theorem dL_law_2034 : decode cL_law 2034 = .ok (.iconst 0, 1) := by decide +kernel
theorem dL_law_2035 : decode cL_law 2035 = .ok (.ireturn, 1) := by decide +kernel
theorem dL_law_2036 : decode cL_law 2036 = .ok (.goto 125, 3) := by decide +kernel
theorem dL_law_2039 : decode cL_law 2039 = .ok (.aload_n 1, 1) := by decide +kernel
theorem dL_law_2040 : decode cL_law 2040 = .ok (.aload_n 3, 1) := by decide +kernel
theorem dL_law_2041 : decode cL_law 2041 = .ok (.invokestatic 245, 3) := by decide +kernel
theorem dL_law_2044 : decode cL_law 2044 = .ok (.istore 6, 2) := by decide +kernel
theorem dL_law_2046 : decode cL_law 2046 = .ok (.aload_n 2, 1) := by decide +kernel
theorem dL_law_2047 : decode cL_law 2047 = .ok (.invokevirtual 247, 3) := by decide +kernel
theorem dL_law_2050 : decode cL_law 2050 = .ok (.lstore 7, 2) := by decide +kernel
theorem dL_law_2052 : decode cL_law 2052 = .ok (.aload_n 2, 1) := by decide +kernel
theorem dL_law_2053 : decode cL_law 2053 = .ok (.invokevirtual 133, 3) := by decide +kernel
theorem dL_law_2056 : decode cL_law 2056 = .ok (.iload 6, 2) := by decide +kernel
theorem dL_law_2058 : decode cL_law 2058 = .ok (.if_icmp .eq 5, 3) := by decide +kernel
theorem dL_law_2061 : decode cL_law 2061 = .ok (.iconst 0, 1) := by decide +kernel
theorem dL_law_2062 : decode cL_law 2062 = .ok (.ireturn, 1) := by decide +kernel
theorem dL_law_2063 : decode cL_law 2063 = .ok (.iload 6, 2) := by decide +kernel
theorem dL_law_2065 : decode cL_law 2065 = .ok (.ifCond .ne 14, 3) := by decide +kernel
theorem dL_law_2068 : decode cL_law 2068 = .ok (.aload_n 3, 1) := by decide +kernel
theorem dL_law_2069 : decode cL_law 2069 = .ok (.iconst 0, 1) := by decide +kernel
theorem dL_law_2070 : decode cL_law 2070 = .ok (.laload, 1) := by decide +kernel
theorem dL_law_2071 : decode cL_law 2071 = .ok (.lload 7, 2) := by decide +kernel
theorem dL_law_2073 : decode cL_law 2073 = .ok (.lcmp, 1) := by decide +kernel
theorem dL_law_2074 : decode cL_law 2074 = .ok (.ifCond .eq 5, 3) := by decide +kernel
theorem dL_law_2077 : decode cL_law 2077 = .ok (.iconst 0, 1) := by decide +kernel
theorem dL_law_2078 : decode cL_law 2078 = .ok (.ireturn, 1) := by decide +kernel
theorem dL_law_2079 : decode cL_law 2079 = .ok (.goto 82, 3) := by decide +kernel
theorem dL_law_2082 : decode cL_law 2082 = .ok (.aload_n 1, 1) := by decide +kernel
theorem dL_law_2083 : decode cL_law 2083 = .ok (.aload 4, 2) := by decide +kernel
theorem dL_law_2085 : decode cL_law 2085 = .ok (.invokestatic 248, 3) := by decide +kernel
theorem dL_law_2088 : decode cL_law 2088 = .ok (.istore 6, 2) := by decide +kernel
theorem dL_law_2090 : decode cL_law 2090 = .ok (.aload_n 2, 1) := by decide +kernel
theorem dL_law_2091 : decode cL_law 2091 = .ok (.invokevirtual 250, 3) := by decide +kernel
theorem dL_law_2094 : decode cL_law 2094 = .ok (.fstore 7, 2) := by decide +kernel
theorem dL_law_2096 : decode cL_law 2096 = .ok (.aload_n 2, 1) := by decide +kernel
theorem dL_law_2097 : decode cL_law 2097 = .ok (.invokevirtual 133, 3) := by decide +kernel
theorem dL_law_2100 : decode cL_law 2100 = .ok (.iload 6, 2) := by decide +kernel
theorem dL_law_2102 : decode cL_law 2102 = .ok (.if_icmp .eq 5, 3) := by decide +kernel
theorem dL_law_2105 : decode cL_law 2105 = .ok (.iconst 0, 1) := by decide +kernel
theorem dL_law_2106 : decode cL_law 2106 = .ok (.ireturn, 1) := by decide +kernel
theorem dL_law_2107 : decode cL_law 2107 = .ok (.iload 6, 2) := by decide +kernel
theorem dL_law_2109 : decode cL_law 2109 = .ok (.ifCond .ne 36, 3) := by decide +kernel
theorem dL_law_2112 : decode cL_law 2112 = .ok (.aload 4, 2) := by decide +kernel
theorem dL_law_2114 : decode cL_law 2114 = .ok (.iconst 0, 1) := by decide +kernel
theorem dL_law_2115 : decode cL_law 2115 = .ok (.daload, 1) := by decide +kernel
theorem dL_law_2116 : decode cL_law 2116 = .ok (.fload 7, 2) := by decide +kernel
theorem dL_law_2118 : decode cL_law 2118 = .ok (.f2d, 1) := by decide +kernel
theorem dL_law_2119 : decode cL_law 2119 = .ok (.dcmp .l, 1) := by decide +kernel
theorem dL_law_2120 : decode cL_law 2120 = .ok (.ifCond .eq 25, 3) := by decide +kernel
theorem dL_law_2123 : decode cL_law 2123 = .ok (.aload 4, 2) := by decide +kernel
theorem dL_law_2125 : decode cL_law 2125 = .ok (.iconst 0, 1) := by decide +kernel
theorem dL_law_2126 : decode cL_law 2126 = .ok (.daload, 1) := by decide +kernel
theorem dL_law_2127 : decode cL_law 2127 = .ok (.aload 4, 2) := by decide +kernel
theorem dL_law_2129 : decode cL_law 2129 = .ok (.iconst 0, 1) := by decide +kernel
theorem dL_law_2130 : decode cL_law 2130 = .ok (.daload, 1) := by decide +kernel
theorem dL_law_2131 : decode cL_law 2131 = .ok (.dcmp .l, 1) := by decide +kernel
theorem dL_law_2132 : decode cL_law 2132 = .ok (.ifCond .eq 11, 3) := by decide +kernel
theorem dL_law_2135 : decode cL_law 2135 = .ok (.fload 7, 2) := by decide +kernel
theorem dL_law_2137 : decode cL_law 2137 = .ok (.fload 7, 2) := by decide +kernel
theorem dL_law_2139 : decode cL_law 2139 = .ok (.fcmp .l, 1) := by decide +kernel
theorem dL_law_2140 : decode cL_law 2140 = .ok (.ifCond .ne 5, 3) := by decide +kernel
theorem dL_law_2143 : decode cL_law 2143 = .ok (.iconst 0, 1) := by decide +kernel
theorem dL_law_2144 : decode cL_law 2144 = .ok (.ireturn, 1) := by decide +kernel
theorem dL_law_2145 : decode cL_law 2145 = .ok (.goto 16, 3) := by decide +kernel
theorem dL_law_2148 : decode cL_law 2148 = .ok (.aload_n 1, 1) := by decide +kernel
theorem dL_law_2149 : decode cL_law 2149 = .ok (.invokevirtual 251, 3) := by decide +kernel
theorem dL_law_2152 : decode cL_law 2152 = .ok (.aload_n 2, 1) := by decide +kernel
theorem dL_law_2153 : decode cL_law 2153 = .ok (.invokevirtual 255, 3) := by decide +kernel
theorem dL_law_2156 : decode cL_law 2156 = .ok (.if_icmp .eq 5, 3) := by decide +kernel
theorem dL_law_2159 : decode cL_law 2159 = .ok (.iconst 0, 1) := by decide +kernel
theorem dL_law_2160 : decode cL_law 2160 = .ok (.ireturn, 1) := by decide +kernel
theorem dL_law_2161 : decode cL_law 2161 = .ok (.iinc 5 4, 3) := by decide +kernel
theorem dL_law_2164 : decode cL_law 2164 = .ok (.goto (-2136), 3) := by decide +kernel
theorem dL_law_2167 : decode cL_law 2167 = .ok (.iconst 1, 1) := by decide +kernel
theorem dL_law_2168 : decode cL_law 2168 = .ok (.ireturn, 1) := by decide +kernel
end
section
/-! A WORLD AS A FUNCTION: what each address holds, where it is known; the whole picture of a method goes through it; a write is an update of the function, so no frame is carried by hand. -/
abbrev Hp : Type := Nat → Option va_E
def hup (h : Hp) (a : Nat) (o : va_E) : Hp := fun b => if b = a then some o else h b
theorem hup_self (h : Hp) (a : Nat) (o : va_E) : hup h a o a = some o := if_pos rfl
theorem hup_ne {h : Hp} {a b : Nat} {o : va_E} (e : b ≠ a) : hup h a o b = h b := if_neg e
theorem h_ne {h : Hp} {a b : Nat} {x y : va_E} (ha : h a = some x) (hb : h b = some y) (hn : x ≠ y) : a ≠ b := fun e => hn (Option.some.inj (ha.symm.trans ((congrArg h e).trans hb)))
theorem h_nn {h : Hp} {a b : Nat} {x : va_E} (ha : h a = some x) (hb : h b = none) : a ≠ b := fun e => by rw [e, hb] at ha; cases ha
theorem hup_h {h : Hp} {a b : Nat} {o x y : va_E} (ha : h a = some x) (hb : h b = some y) (hn : y ≠ x) : hup h a o b = some y := (hup_ne (h_ne hb ha hn)).trans hb
theorem hup_n {h : Hp} {a b : Nat} {o y : va_E} (ha : h a = none) (hb : h b = some y) : hup h a o b = some y := (hup_ne (h_nn hb ha)).trans hb
/-- the classes whose objects the worlds hold -/
abbrev zcl : List vw_C := [(RJx4a65c, TJx4a65c, 3), (RX0, TX0, 8), (RX2, TX2, 2), (RX3, TX3, 5), (RX4, TX4, 6), (RX5, TX5, 3), (RX6, TX6, 2), (RX7, TX7, 1), (RX8, TX8, 6), (RX9, TX9, 25)]
/-- the arrays' classes, at fixed places -/
abbrev zty (ca : Nat → ClassId) : List (ClassId × FieldType) := [(ca 0, .int), (ca 1, .long), (ca 2, .float), (ca 3, .double), (ca 4, .boolean), (ca 5, .char), (ca 6, .object "java/lang/Object"), (ca 7, .array .int), (ca 8, .array .boolean)]
/-- what is the same in all of one run of the law: the launch, its start, the script's address, the classes' numbers, the arrays' classes, the empty array of java.util.ArrayList -/
abbrev GT : Type := Launch × State × Nat × va_G × (Nat → ClassId) × Nat
abbrev gl (G : GT) : Launch := G.1
abbrev gs (G : GT) : State := G.2.1
abbrev gb (G : GT) : Nat := G.2.2.1
abbrev gD (G : GT) : va_G := G.2.2.2.1
abbrev gC (G : GT) : Nat → ClassId := G.2.2.2.2.1
abbrev gd (G : GT) : Nat := G.2.2.2.2.2
def zA (G : GT) : Nat → Prop := fun q => (gs G).heap.size ≤ q
def Base (G : GT) : Prop :=
  (∀ w ∈ lw_tbl, w.before #[Value.ref (gb G)] (gs G) = true) ∧ (Jvm.Cond.and given_1 narrow_1).before #[Value.ref (gb G)] (gs G) = true ∧ va_K (gD G) zcl (zty (gC G)) (gs G) ∧ (gl G).flags = flags0 ∧
  va_Z "java/util/ArrayList" "DEFAULTCAPACITY_EMPTY_ELEMENTDATA" "[Ljava/lang/Object;" (.ref (gd G)) (zA G) (gs G) (gs G).heap ∧ va_T (.object "java/lang/Object") (gd G) 0 (fun _ => .null) (zA G) (gs G) (gs G).heap
/-- a state of the run: the tables grown from the start's, the start's cells as they were -/
def Ev (G : GT) (U : State) : Prop := (gs G).WarmedH U.vm ∧ (gs G).heap.size ≤ U.heap.size ∧ ∀ q : Nat, q < (gs G).heap.size → U.heap[q]? = (gs G).heap[q]?
def Rep (G : GT) (h : Hp) (H : Heap) : Prop := ∀ (a : Nat) (o : va_E), h a = some o → zA G a ∧ va_at (gD G) zcl (a, o) H
/-- a word that the tables alone decide, and that stays -/
def zgood (w : Cond) : Bool := match w with
  | .fieldLinkNest .. => true
  | .methodLinkNest .. => true
  | .arrayClass _ => true
  | w => w.onTables && w.keepsFace
theorem zw_at {a a' : Array Value} {s U : State} {w : Cond} (hW : s.WarmedH U.vm) (hg : zgood w = true) (h : w.before a s = true) : w.before a' U = true := by
  have key : ∀ w : Cond, w.onTables = true → w.before a (s.setVm U.vm) = true → w.before a' U = true := fun w h1 h2 => by
    have e := Cond.onTables_vm (A := a) (A' := a') (U := s) (U' := U) U.vm w h1
    have h3 : U.setVm U.vm = U := rfl
    rw [h3] at e
    rw [← e]; exact h2
  have gen : ∀ w : Cond, (w.onTables && w.keepsFace) = true → w.before a s = true → w.before a' U = true := fun w h1 h2 => by
    simp only [Bool.and_eq_true] at h1
    exact key w h1.1 (Cond.before_shiftedFace (State.Shifted.of_warmed hW) w h1.2 h2)
  cases w with
  | fieldLinkNest c i r n d q => exact key _ rfl (Cond.fieldLinkNest_warmed (args := a) hW h)
  | methodLinkNest c i x q => exact key _ rfl (Cond.methodLinkNest_warmed (args := a) hW h)
  | arrayClass t => exact word_at hW (Or.inr ⟨t, rfl⟩) h
  | _ => exact gen _ hg h
theorem Base.w {G : GT} {U : State} {a : Array Value} {w : Cond} (hB : Base G) (hE : Ev G U) (hm : w ∈ lw_tbl) (hg : zgood w = true) : w.before a U = true := zw_at hE.1 hg (hB.1 w hm)
theorem Base.K {G : GT} {U : State} (hB : Base G) (hE : Ev G U) : va_K (gD G) zcl (zty (gC G)) U := hB.2.2.1.moved hE.1.alike
theorem Ev.go {G : GT} {s U : State} (hE : Ev G s) (hW : s.WarmedH U.vm) (hz : s.heap.size ≤ U.heap.size) (hk : ∀ q : Nat, q < (gs G).heap.size → U.heap[q]? = s.heap[q]?) : Ev G U :=
  ⟨State.WarmedH.trans hE.1 hW, Nat.le_trans hE.2.1 hz, fun q hq => (hk q hq).trans (hE.2.2 q hq)⟩
theorem zA_not {G : GT} {q : Nat} (h : q < (gs G).heap.size) : ¬ zA G q := Nat.not_le.mpr h
/-! the world as a list, for the kit's rows -/
def wl (h : Hp) (n : Nat) : va_W := (List.range n).filterMap (fun b => (h b).map (fun o => (b, o)))
theorem wl_mem {h : Hp} {n a : Nat} {o : va_E} : (a, o) ∈ wl h n ↔ a < n ∧ h a = some o := by
  constructor
  · intro hm
    obtain ⟨b, hb, e⟩ := List.mem_filterMap.mp hm
    cases hx : h b with
    | none => rw [hx] at e; cases e
    | some x =>
      rw [hx] at e
      cases e
      exact ⟨List.mem_range.mp hb, hx⟩
  · intro ⟨h1, h2⟩
    exact List.mem_filterMap.mpr ⟨a, List.mem_range.mpr h1, by rw [h2]; rfl⟩
theorem wl_fst (h : Hp) : ∀ l : List Nat, (l.filterMap (fun b => (h b).map (fun o => (b, o)))).map (fun q => q.1) = l.filter (fun b => (h b).isSome)
  | [] => rfl
  | b :: l => by
    have ih := wl_fst h l
    cases hx : h b with
    | none =>
      rw [List.filterMap_cons_none (by rw [hx]; rfl), List.filter_cons_of_neg (by rw [hx]; decide)]
      exact ih
    | some x =>
      rw [List.filterMap_cons_some (b := (b, x)) (by rw [hx]; rfl), List.filter_cons_of_pos (by rw [hx]; rfl), List.map_cons, ih]
theorem wl_inj {h : Hp} {n i j : Nat} {p q : Nat × va_E} (hi : (wl h n)[i]? = some p) (hj : (wl h n)[j]? = some q) (e : p.1 = q.1) : i = j := by
  have hn : ((wl h n).map (fun q => q.1)).Nodup := by
    unfold wl
    rw [wl_fst]
    exact List.Pairwise.filter _ List.nodup_range
  have h1 : ((wl h n).map (fun q => q.1))[i]? = some p.1 := by rw [List.getElem?_map, hi]; rfl
  have h2 : ((wl h n).map (fun q => q.1))[j]? = some q.1 := by rw [List.getElem?_map, hj]; rfl
  exact (List.getElem?_inj (List.getElem?_eq_some_iff.mp h1).1 hn).mp (by rw [h1, h2, e])
theorem wl_at {h : Hp} {n a : Nat} {o : va_E} (ha : h a = some o) (hn : a < n) : ∃ k : Nat, (wl h n)[k]? = some (a, o) := List.getElem?_of_mem (wl_mem.mpr ⟨hn, ha⟩)
theorem Rep.lt {G : GT} {h : Hp} {H : Heap} (hR : Rep G h H) {a : Nat} {o : va_E} (ha : h a = some o) : a < H.size := (hR a o ha).2.lt
theorem Rep.P {G : GT} {h : Hp} {H : Heap} (hR : Rep G h H) : va_P (gD G) zcl (wl h H.size) H := fun k q hk => (hR q.1 q.2 (wl_mem.mp (List.mem_of_getElem? hk)).2).2
theorem Rep.D {G : GT} {h : Hp} {H : Heap} (hR : Rep G h H) : va_D (zA G) (wl h H.size) := ⟨fun i j p q hi hj e => wl_inj hi hj e, fun k q hk => (hR q.1 q.2 (wl_mem.mp (List.mem_of_getElem? hk)).2).1⟩
theorem Rep.one {G : GT} {h : Hp} {H : Heap} (hR : Rep G h H) {a : Nat} {o : va_E} (ha : h a = some o) : va_P (gD G) zcl [(a, o)] H := fun k q hk => by
  have hz : k < 1 := (List.getElem?_eq_some_iff.mp hk).1
  rw [show k = 0 by omega] at hk
  cases hk
  exact (hR a o ha).2
theorem Rep.fresh {G : GT} {h : Hp} {H : Heap} (hR : Rep G h H) {q : Nat} (hq : H.size ≤ q) : h q = none := by
  cases hx : h q with
  | none => rfl
  | some o => exact absurd (hR.lt hx) (Nat.not_lt.mpr hq)
theorem Rep.set {G : GT} {h : Hp} {H H1 : Heap} (hR : Rep G h H) {k a : Nat} {o e : va_E} (hk : (wl h H.size)[k]? = some (a, o)) (hP : va_P (gD G) zcl ((wl h H.size).set k (a, e)) H1) : Rep G (hup h a e) H1 := by
  intro b o' hb
  have ha : h a = some o := (wl_mem.mp (List.mem_of_getElem? hk)).2
  by_cases hba : b = a
  · subst hba
    rw [hup_self] at hb
    cases hb
    exact ⟨(hR b o ha).1, hP k (b, e) (by rw [List.getElem?_set_self (List.getElem?_eq_some_iff.mp hk).1])⟩
  · rw [hup_ne hba] at hb
    obtain ⟨k', hk'⟩ := wl_at hb (hR.lt hb)
    have hne : k ≠ k' := fun z => by
      subst z
      rw [hk] at hk'
      cases hk'
      exact hba rfl
    exact ⟨(hR b o' hb).1, hP k' (b, o') (by rw [List.getElem?_set_ne hne]; exact hk')⟩
theorem Rep.push {G : GT} {h : Hp} {H H1 : Heap} (hR : Rep G h H) {q : Nat} {e : va_E} (hP : va_P (gD G) zcl (wl h H.size ++ [(q, e)]) H1) (hD : va_D (zA G) (wl h H.size ++ [(q, e)])) : Rep G (hup h q e) H1 ∧ h q = none := by
  have hl : (wl h H.size ++ [(q, e)])[(wl h H.size).length]? = some (q, e) := by rw [List.getElem?_append_right (Nat.le_refl _), Nat.sub_self]; rfl
  have hn : h q = none := by
    cases hx : h q with
    | none => rfl
    | some o =>
      obtain ⟨k, hk⟩ := wl_at hx (hR.lt hx)
      have hlt := (List.getElem?_eq_some_iff.mp hk).1
      have h1 : (wl h H.size ++ [(q, e)])[k]? = some (q, o) := by rw [List.getElem?_append_left hlt]; exact hk
      have := hD.1 _ _ _ _ h1 hl rfl
      omega
  refine ⟨fun b o' hb => ?_, hn⟩
  by_cases hba : b = q
  · subst hba
    rw [hup_self] at hb
    cases hb
    exact ⟨hD.2 _ _ hl, hP _ _ hl⟩
  · rw [hup_ne hba] at hb
    obtain ⟨k, hk⟩ := wl_at hb (hR.lt hb)
    exact ⟨(hR b o' hb).1, hP k (b, o') (by rw [List.getElem?_append_left (List.getElem?_eq_some_iff.mp hk).1]; exact hk)⟩
/-! the locals, by their places -/
def lp_has (ls : Array Slot) (nL : Nat) (L : List (Option Value)) : Prop := ls.size = nL ∧ lv_wf ls ∧ ∀ (i : Nat) (v : Value), L[i]? = some (some v) → ls[i]? = some (.val v)
def lpa (L : List (Option Value)) : List (Nat × Value) := (List.range L.length).filterMap (fun i => (L[i]?.join).map (fun v => (i, v)))
theorem lpa_mem {L : List (Option Value)} {i : Nat} {v : Value} : (i, v) ∈ lpa L ↔ L[i]? = some (some v) := by
  constructor
  · intro hm
    obtain ⟨b, hb, e⟩ := List.mem_filterMap.mp hm
    cases hx : L[b]? with
    | none => rw [hx] at e; cases e
    | some x =>
      rw [hx] at e
      cases x with
      | none => cases e
      | some w => cases e; exact hx
  · intro h
    exact List.mem_filterMap.mpr ⟨i, List.mem_range.mpr (List.getElem?_eq_some_iff.mp h).1, by rw [h]; rfl⟩
theorem lp_lv {ls : Array Slot} {nL : Nat} {L : List (Option Value)} (h : lp_has ls nL L) : lv_has ls nL (lpa L) := ⟨h.1, h.2.1, fun q hq => h.2.2 q.1 q.2 (lpa_mem.mp hq)⟩
theorem lp_of {ls : Array Slot} {nL : Nat} {l : List (Nat × Value)} {L : List (Option Value)} (h : lv_has ls nL l) (hL : ∀ (i : Nat) (v : Value), L[i]? = some (some v) → (i, v) ∈ l) : lp_has ls nL L := ⟨h.1, h.2.1, fun i v hi => h.2.2 (i, v) (hL i v hi)⟩
def lclr (L : List (Option Value)) (i : Nat) : List (Option Value) := match i with
  | 0 => L
  | j + 1 => match L[j]? with
    | some (some v) => if v.category = 2 then L.set j none else L
    | _ => L
theorem lclr_get {L : List (Option Value)} {i j : Nat} {w : Value} (h : (lclr L i)[j]? = some (some w)) : L[j]? = some (some w) ∧ ¬ (j + 1 = i ∧ w.category = 2) := by
  cases i with
  | zero => exact ⟨h, fun z => absurd z.1 (by omega)⟩
  | succ k =>
    cases hv : L[k]? with
    | none =>
      simp only [lclr, hv] at h
      refine ⟨h, fun z => ?_⟩
      have e : j = k := by omega
      subst e
      rw [hv] at h
      cases h
    | some x =>
      cases x with
      | none =>
        simp only [lclr, hv] at h
        refine ⟨h, fun z => ?_⟩
        have e : j = k := by omega
        subst e
        rw [hv] at h
        cases h
      | some v =>
        simp only [lclr, hv] at h
        by_cases hc : v.category = 2
        · rw [if_pos hc, List.getElem?_set] at h
          split at h
          · split at h <;> cases h
          · next hne => exact ⟨h, fun z => hne (by omega)⟩
        · rw [if_neg hc] at h
          refine ⟨h, fun z => ?_⟩
          have e : j = k := by omega
          subst e
          rw [hv] at h
          cases h
          exact hc z.2
def lset1 (L : List (Option Value)) (i : Nat) (v : Value) : List (Option Value) := (lclr L i).set i (some v)
def lset2 (L : List (Option Value)) (i : Nat) (v : Value) : List (Option Value) := ((lclr L i).set i (some v)).set (i + 1) none
theorem lset1_mem {L : List (Option Value)} {i j : Nat} {v w : Value} (h : (lset1 L i v)[j]? = some (some w)) : (j, w) ∈ (i, v) :: (lpa L).filter (fun q => !(q.1 == i) && !(q.1 + 1 == i && q.2.category == 2)) := by
  unfold lset1 at h
  rw [List.getElem?_set] at h
  split at h
  · next e =>
    split at h
    · cases h; rw [e]; exact List.mem_cons_self
    · cases h
  · next hne =>
    obtain ⟨h1, h2⟩ := lclr_get h
    refine List.mem_cons_of_mem _ (List.mem_filter.mpr ⟨lpa_mem.mpr h1, ?_⟩)
    have e1 : (j == i) = false := beq_eq_false_iff_ne.mpr (Ne.symm hne)
    have e2 : (j + 1 == i && w.category == 2) = false := by
      cases hx : (j + 1 == i && w.category == 2) with
      | false => rfl
      | true =>
        rw [Bool.and_eq_true] at hx
        exact absurd ⟨eq_of_beq hx.1, eq_of_beq hx.2⟩ h2
    simp [e1, e2]
theorem lset2_mem {L : List (Option Value)} {i j : Nat} {v w : Value} (h : (lset2 L i v)[j]? = some (some w)) : (j, w) ∈ (i, v) :: (lpa L).filter (fun q => !(q.1 == i) && (!(q.1 == i + 1) && !(q.1 + 1 == i && q.2.category == 2))) := by
  unfold lset2 at h
  rw [List.getElem?_set] at h
  split at h
  · split at h <;> cases h
  · next hne2 =>
    rw [List.getElem?_set] at h
    split at h
    · next e =>
      split at h
      · cases h; rw [e]; exact List.mem_cons_self
      · cases h
    · next hne =>
      obtain ⟨h1, h2⟩ := lclr_get h
      refine List.mem_cons_of_mem _ (List.mem_filter.mpr ⟨lpa_mem.mpr h1, ?_⟩)
      have e1 : (j == i) = false := beq_eq_false_iff_ne.mpr (Ne.symm hne)
      have e3 : (j == i + 1) = false := beq_eq_false_iff_ne.mpr (Ne.symm hne2)
      have e2 : (j + 1 == i && w.category == 2) = false := by
        cases hx : (j + 1 == i && w.category == 2) with
        | false => rfl
        | true =>
          rw [Bool.and_eq_true] at hx
          exact absurd ⟨eq_of_beq hx.1, eq_of_beq hx.2⟩ h2
      simp [e1, e2, e3]
/-- the locals with which a method begins -/
def zarg (vs : List Value) : List (Option Value) := vs.flatMap (fun v => if v.category = 2 then [some v, none] else [some v])
theorem zarg_mem : ∀ (vs : List Value) (k i : Nat) (v : Value), (zarg vs)[i]? = some (some v) → (k + i, v) ∈ lv_args k vs
  | [], k, i, v, h => by simp [zarg] at h
  | x :: vs, k, i, v, h => by
    have ih := zarg_mem vs
    unfold zarg at h
    rw [List.flatMap_cons] at h
    show (k + i, v) ∈ (k, x) :: lv_args (if x.category = 2 then k + 2 else k + 1) vs
    by_cases hc : x.category = 2
    · rw [if_pos hc] at h ⊢
      match i, h with
      | 0, h => cases h; exact List.mem_cons_self
      | 1, h => cases h
      | i + 2, h =>
        have h2 : (zarg vs)[i]? = some (some v) := h
        have := ih (k + 2) i v h2
        rw [show k + (i + 2) = k + 2 + i by omega]
        exact List.mem_cons_of_mem _ this
    · rw [if_neg hc] at h ⊢
      match i, h with
      | 0, h => cases h; exact List.mem_cons_self
      | i + 1, h =>
        have h2 : (zarg vs)[i]? = some (some v) := h
        have := ih (k + 1) i v h2
        rw [show k + (i + 1) = k + 1 + i by omega]
        exact List.mem_cons_of_mem _ this
theorem lp_entry (vs : List Value) {n m : Nat} (h : (lg_sl vs).length ≤ n) : lp_has ((lg_sl vs ++ List.replicate (n - (lg_sl vs).length) Slot.unset).toArray) n (zarg vs ++ List.replicate m none) := by
  refine lp_of (lv_entry vs h) (fun i v hi => ?_)
  by_cases hl : i < (zarg vs).length
  · rw [List.getElem?_append_left hl] at hi
    have := zarg_mem vs 0 i v hi
    rw [Nat.zero_add] at this
    exact this
  · rw [List.getElem?_append_right (by omega)] at hi
    rw [List.getElem?_replicate] at hi
    split at hi <;> cases hi
/-- fewer locals: those that are marked -/
def lmask : List Bool → List (Option Value) → List (Option Value)
  | true :: bs, x :: L => x :: lmask bs L
  | false :: bs, _ :: L => none :: lmask bs L
  | [], L => L
  | _, [] => []
theorem lmask_get : ∀ (bs : List Bool) (L : List (Option Value)) (i : Nat) (v : Value), (lmask bs L)[i]? = some (some v) → L[i]? = some (some v)
  | true :: bs, x :: L, 0, v, h => h
  | true :: bs, x :: L, i + 1, v, h => lmask_get bs L i v h
  | false :: bs, x :: L, 0, v, h => by cases h
  | false :: bs, x :: L, i + 1, v, h => lmask_get bs L i v h
  | [], L, i, v, h => by cases L <;> exact h
  | true :: bs, [], i, v, h => h
  | false :: bs, [], i, v, h => h
/-! a method's surroundings in one, and the walk's judgement -/
abbrev XT : Type := Program × Env × Room × State × MethodId × Array Value × List Frame × Method × Code × (State → Prop)
abbrev Xp (X : XT) : Program := X.1
abbrev Xe (X : XT) : Env := X.2.1
abbrev XR (X : XT) : Room := X.2.2.1
abbrev Xs (X : XT) : State := X.2.2.2.1
abbrev Xm (X : XT) : MethodId := X.2.2.2.2.1
abbrev Xa (X : XT) : Array Value := X.2.2.2.2.2.1
abbrev Xb (X : XT) : List Frame := X.2.2.2.2.2.2.1
abbrev Xd (X : XT) : Method := X.2.2.2.2.2.2.2.1
abbrev Xc (X : XT) : Code := X.2.2.2.2.2.2.2.2.1
abbrev XQ (X : XT) : State → Prop := X.2.2.2.2.2.2.2.2.2
/-- at pc, with locals L and stack st, over a heap that holds h, with at most uc cells and us slots made so far: the machine comes to its end -/
def Zs (G : GT) (X : XT) (nL : Nat) (h : Hp) (uc us pc : Nat) (L : List (Option Value)) (st : List Value) : Prop :=
  ∀ (ls : Array Slot) (H : Heap) (locs : List Loc) (cells slots : Nat), lp_has ls nL L → Rep G h H → va_S (zA G) (Xs X).heap H locs → cells ≤ uc → slots ≤ us →
    W (Xp X) (gl G) (Xe X) (XR X) (Xs X) (Xm X) (Xa X) (Xb X) (Xd X) (Xc X) H locs cells slots (XQ X) (F0 (Xm X) pc ls st)
/-- .. with an exception of class E thrown over it -/
def Zx (G : GT) (X : XT) (nL : Nat) (h : Hp) (uc us pc : Nat) (L : List (Option Value)) (st : List Value) (E : String) : Prop :=
  ∀ (ls : Array Slot) (H : Heap) (locs : List Loc) (cells slots : Nat) (ce : Cell) (q : Addr), lp_has ls nL L → Rep G h H → va_S (zA G) (Xs X).heap H locs → cells ≤ uc → slots ≤ us → H[q]? = some ce → ce.vm = .none → (Xs X).vm.findClass E = some ce.cls →
    vx_W (Xp X) (gl G) (Xe X) (XR X) (Xs X) (Xm X) (Xa X) (Xb X) (Xd X) (Xc X) H locs cells slots (XQ X) (F0 (Xm X) pc ls st) q
/-- what a body may use: the run's base, its code, its class, its level and its room -/
def Cx (G : GT) (X : XT) (own : String) (cc : ByteArray) (nL k mc ms : Nat) : Prop :=
  Base G ∧ Ev G (Xs X) ∧ (Xp X).tables.exec = Jvm.exec ∧ (Xc X).code = cc ∧ (Xc X).maxLocals = nL ∧ (Xs X).vm.findClass own = some (Xm X).cls ∧ k ≤ (XR X).frames ∧ 64 * k + 128 ≤ (XR X).locals ∧ (XR X).cells = mc ∧ (XR X).slots = ms ∧ (Xd X).locks = false
section
variable {G : GT} {X : XT} {own : String} {cc : ByteArray} {nL k mc ms : Nat}
theorem Cx.hB (C : Cx G X own cc nL k mc ms) : Base G := C.1
theorem Cx.hE (C : Cx G X own cc nL k mc ms) : Ev G (Xs X) := C.2.1
theorem Cx.hx (C : Cx G X own cc nL k mc ms) : (Xp X).tables.exec = Jvm.exec := C.2.2.1
theorem Cx.hb (C : Cx G X own cc nL k mc ms) : (Xc X).code = cc := C.2.2.2.1
theorem Cx.hml (C : Cx G X own cc nL k mc ms) : (Xc X).maxLocals = nL := C.2.2.2.2.1
theorem Cx.ho (C : Cx G X own cc nL k mc ms) : (Xs X).vm.findClass own = some (Xm X).cls := C.2.2.2.2.2.1
theorem Cx.hf (C : Cx G X own cc nL k mc ms) : k ≤ (XR X).frames := C.2.2.2.2.2.2.1
theorem Cx.hlo (C : Cx G X own cc nL k mc ms) : 64 * k + 128 ≤ (XR X).locals := C.2.2.2.2.2.2.2.1
theorem Cx.hc (C : Cx G X own cc nL k mc ms) : (XR X).cells = mc := C.2.2.2.2.2.2.2.2.1
theorem Cx.hs (C : Cx G X own cc nL k mc ms) : (XR X).slots = ms := C.2.2.2.2.2.2.2.2.2.1
theorem Cx.hk (C : Cx G X own cc nL k mc ms) : (Xd X).locks = false := C.2.2.2.2.2.2.2.2.2.2
theorem Cx.w (C : Cx G X own cc nL k mc ms) {w : Cond} (hm : w ∈ lw_tbl) (hg : zgood w = true) {a : Array Value} : w.before a (Xs X) = true := C.hB.w C.hE hm hg
theorem Cx.K (C : Cx G X own cc nL k mc ms) : va_K (gD G) zcl (zty (gC G)) (Xs X) := C.hB.K C.hE
theorem Cx.A (C : Cx G X own cc nL k mc ms) : ∀ q : Nat, (Xs X).heap.size ≤ q → zA G q := fun q hq => Nat.le_trans C.hE.2.1 hq
theorem lp_at {ls : Array Slot} {L : List (Option Value)} (h : lp_has ls nL L) {i : Nat} {v : Value} (hk : L[i]? = some (some v)) : ls[i]? = some (.val v) := h.2.2 i v hk
theorem Zs.mask (bs : List Bool) {h : Hp} {uc us pc : Nat} {L : List (Option Value)} {st : List Value} (kk : Zs G X nL h uc us pc (lmask bs L) st) : Zs G X nL h uc us pc L st := fun ls H locs cells slots hl => kk ls H locs cells slots ⟨hl.1, hl.2.1, fun i v hi => hl.2.2 i v (lmask_get bs L i v hi)⟩
theorem Zs.up {h : Hp} {uc us uc' us' pc : Nat} {L : List (Option Value)} {st : List Value} (hc : uc ≤ uc') (hs : us ≤ us') (kk : Zs G X nL h uc' us' pc L st) : Zs G X nL h uc us pc L st := fun ls H locs cells slots hl hR hS h1 h2 => kk ls H locs cells slots hl hR hS (Nat.le_trans h1 hc) (Nat.le_trans h2 hs)
end
end
section
section
variable {G : GT} {X : XT} {own : String} {cc : ByteArray} {nL k mc ms uc us pc : Nat} {h : Hp} {L : List (Option Value)} {st : List Value}
theorem z_iadd {x y : Int32} (C : Cx G X own cc nL k mc ms) (d : decode cc pc = .ok (.iadd, 1)) (kk : Zs G X nL h uc us (pc + 1) L (.int (x + y) :: st)) : Zs G X nL h uc us pc L (.int y :: .int x :: st) := fun ls H locs cells slots hl hR hS hc hs => lv_iadd C.hx C.hb d (kk ls H locs cells slots hl hR hS hc hs)
theorem z_isub {x y : Int32} (C : Cx G X own cc nL k mc ms) (d : decode cc pc = .ok (.isub, 1)) (kk : Zs G X nL h uc us (pc + 1) L (.int (x - y) :: st)) : Zs G X nL h uc us pc L (.int y :: .int x :: st) := fun ls H locs cells slots hl hR hS hc hs => lv_isub C.hx C.hb d (kk ls H locs cells slots hl hR hS hc hs)
theorem z_iand {x y : Int32} (C : Cx G X own cc nL k mc ms) (d : decode cc pc = .ok (.iand, 1)) (kk : Zs G X nL h uc us (pc + 1) L (.int (x &&& y) :: st)) : Zs G X nL h uc us pc L (.int y :: .int x :: st) := fun ls H locs cells slots hl hR hS hc hs => lv_iand C.hx C.hb d (kk ls H locs cells slots hl hR hS hc hs)
theorem z_ishl {x y : Int32} (C : Cx G X own cc nL k mc ms) (d : decode cc pc = .ok (.ishl, 1)) (kk : Zs G X nL h uc us (pc + 1) L (.int (x <<< (y &&& 31)) :: st)) : Zs G X nL h uc us pc L (.int y :: .int x :: st) := fun ls H locs cells slots hl hR hS hc hs => lv_ishl C.hx C.hb d (kk ls H locs cells slots hl hR hS hc hs)
theorem z_ishr {x y : Int32} (C : Cx G X own cc nL k mc ms) (d : decode cc pc = .ok (.ishr, 1)) (kk : Zs G X nL h uc us (pc + 1) L (.int (x >>> (y &&& 31)) :: st)) : Zs G X nL h uc us pc L (.int y :: .int x :: st) := fun ls H locs cells slots hl hR hS hc hs => lv_ishr C.hx C.hb d (kk ls H locs cells slots hl hR hS hc hs)
theorem z_ladd {x y : Int64} (C : Cx G X own cc nL k mc ms) (d : decode cc pc = .ok (.ladd, 1)) (kk : Zs G X nL h uc us (pc + 1) L (.long (x + y) :: st)) : Zs G X nL h uc us pc L (.long y :: .long x :: st) := fun ls H locs cells slots hl hR hS hc hs => lv_ladd C.hx C.hb d (kk ls H locs cells slots hl hR hS hc hs)
theorem z_lshl {x : Int64} {y : Int32} (C : Cx G X own cc nL k mc ms) (d : decode cc pc = .ok (.lshl, 1)) (kk : Zs G X nL h uc us (pc + 1) L (.long (x <<< (y.toInt64 &&& 63)) :: st)) : Zs G X nL h uc us pc L (.int y :: .long x :: st) := fun ls H locs cells slots hl hR hS hc hs => lv_lshl C.hx C.hb d rfl (kk ls H locs cells slots hl hR hS hc hs)
theorem z_lshr {x : Int64} {y : Int32} (C : Cx G X own cc nL k mc ms) (d : decode cc pc = .ok (.lshr, 1)) (kk : Zs G X nL h uc us (pc + 1) L (.long (x >>> (y.toInt64 &&& 63)) :: st)) : Zs G X nL h uc us pc L (.int y :: .long x :: st) := fun ls H locs cells slots hl hR hS hc hs => lv_lshr C.hx C.hb d rfl (kk ls H locs cells slots hl hR hS hc hs)
theorem z_i2l {x : Int32} (C : Cx G X own cc nL k mc ms) (d : decode cc pc = .ok (.i2l, 1)) (kk : Zs G X nL h uc us (pc + 1) L (.long x.toInt64 :: st)) : Zs G X nL h uc us pc L (.int x :: st) := fun ls H locs cells slots hl hR hS hc hs => lv_i2l C.hx C.hb d rfl (kk ls H locs cells slots hl hR hS hc hs)
theorem z_l2i {x : Int64} (C : Cx G X own cc nL k mc ms) (d : decode cc pc = .ok (.l2i, 1)) (kk : Zs G X nL h uc us (pc + 1) L (.int x.toInt32 :: st)) : Zs G X nL h uc us pc L (.long x :: st) := fun ls H locs cells slots hl hR hS hc hs => lv_l2i C.hx C.hb d rfl (kk ls H locs cells slots hl hR hS hc hs)
theorem z_i2c {x : Int32} (C : Cx G X own cc nL k mc ms) (d : decode cc pc = .ok (.i2c, 1)) (kk : Zs G X nL h uc us (pc + 1) L (.int (x.toUInt32 % 65536).toInt32 :: st)) : Zs G X nL h uc us pc L (.int x :: st) := fun ls H locs cells slots hl hR hS hc hs => lv_i2c C.hx C.hb d rfl (kk ls H locs cells slots hl hR hS hc hs)
theorem z_i2f {x : Int32} (C : Cx G X own cc nL k mc ms) (d : decode cc pc = .ok (.i2f, 1)) (kk : Zs G X nL h uc us (pc + 1) L (.float (FP.i2f x) :: st)) : Zs G X nL h uc us pc L (.int x :: st) := fun ls H locs cells slots hl hR hS hc hs => lv_i2f C.hx C.hb d (kk ls H locs cells slots hl hR hS hc hs)
theorem z_i2d {x : Int32} (C : Cx G X own cc nL k mc ms) (d : decode cc pc = .ok (.i2d, 1)) (kk : Zs G X nL h uc us (pc + 1) L (.double (FP.i2d x) :: st)) : Zs G X nL h uc us pc L (.int x :: st) := fun ls H locs cells slots hl hR hS hc hs => lv_i2d C.hx C.hb d (kk ls H locs cells slots hl hR hS hc hs)
theorem z_l2d {x : Int64} (C : Cx G X own cc nL k mc ms) (d : decode cc pc = .ok (.l2d, 1)) (kk : Zs G X nL h uc us (pc + 1) L (.double (FP.l2d x) :: st)) : Zs G X nL h uc us pc L (.long x :: st) := fun ls H locs cells slots hl hR hS hc hs => lv_l2d C.hx C.hb d (kk ls H locs cells slots hl hR hS hc hs)
theorem z_f2i {x : UInt32} (C : Cx G X own cc nL k mc ms) (d : decode cc pc = .ok (.f2i, 1)) (kk : Zs G X nL h uc us (pc + 1) L (.int (FP.f2i x) :: st)) : Zs G X nL h uc us pc L (.float x :: st) := fun ls H locs cells slots hl hR hS hc hs => lv_f2i C.hx C.hb d (kk ls H locs cells slots hl hR hS hc hs)
theorem z_d2l {x : UInt64} (C : Cx G X own cc nL k mc ms) (d : decode cc pc = .ok (.d2l, 1)) (kk : Zs G X nL h uc us (pc + 1) L (.long (FP.d2l x) :: st)) : Zs G X nL h uc us pc L (.double x :: st) := fun ls H locs cells slots hl hR hS hc hs => lv_d2l C.hx C.hb d (kk ls H locs cells slots hl hR hS hc hs)
theorem z_f2d {x : UInt32} (C : Cx G X own cc nL k mc ms) (d : decode cc pc = .ok (.f2d, 1)) (hn : vf_n64 (FP.f2d x)) (kk : Zs G X nL h uc us (pc + 1) L (.double (FP.f2d x) :: st)) : Zs G X nL h uc us pc L (.float x :: st) := fun ls H locs cells slots hl hR hS hc hs => lv_f2d C.hx C.hb d hn (kk ls H locs cells slots hl hR hS hc hs)
theorem z_fadd {x y : UInt32} (C : Cx G X own cc nL k mc ms) (d : decode cc pc = .ok (.fadd, 1)) (hn : vf_n32 (FP.fadd x y)) (kk : Zs G X nL h uc us (pc + 1) L (.float (FP.fadd x y) :: st)) : Zs G X nL h uc us pc L (.float y :: .float x :: st) := fun ls H locs cells slots hl hR hS hc hs => lv_fadd C.hx C.hb d hn (kk ls H locs cells slots hl hR hS hc hs)
theorem z_fmul {x y : UInt32} (C : Cx G X own cc nL k mc ms) (d : decode cc pc = .ok (.fmul, 1)) (hn : vf_n32 (FP.fmul x y)) (kk : Zs G X nL h uc us (pc + 1) L (.float (FP.fmul x y) :: st)) : Zs G X nL h uc us pc L (.float y :: .float x :: st) := fun ls H locs cells slots hl hR hS hc hs => lv_fmul C.hx C.hb d hn (kk ls H locs cells slots hl hR hS hc hs)
theorem z_fdiv {x y : UInt32} (C : Cx G X own cc nL k mc ms) (d : decode cc pc = .ok (.fdiv, 1)) (hn : vf_n32 (FP.fdiv x y)) (kk : Zs G X nL h uc us (pc + 1) L (.float (FP.fdiv x y) :: st)) : Zs G X nL h uc us pc L (.float y :: .float x :: st) := fun ls H locs cells slots hl hR hS hc hs => lv_fdiv C.hx C.hb d hn (kk ls H locs cells slots hl hR hS hc hs)
theorem z_dmul {x y : UInt64} (C : Cx G X own cc nL k mc ms) (d : decode cc pc = .ok (.dmul, 1)) (hn : vf_n64 (FP.dmul x y)) (kk : Zs G X nL h uc us (pc + 1) L (.double (FP.dmul x y) :: st)) : Zs G X nL h uc us pc L (.double y :: .double x :: st) := fun ls H locs cells slots hl hR hS hc hs => lv_dmul C.hx C.hb d hn (kk ls H locs cells slots hl hR hS hc hs)
theorem z_ddiv {x y : UInt64} (C : Cx G X own cc nL k mc ms) (d : decode cc pc = .ok (.ddiv, 1)) (hn : vf_n64 (FP.ddiv x y)) (kk : Zs G X nL h uc us (pc + 1) L (.double (FP.ddiv x y) :: st)) : Zs G X nL h uc us pc L (.double y :: .double x :: st) := fun ls H locs cells slots hl hR hS hc hs => lv_ddiv C.hx C.hb d hn (kk ls H locs cells slots hl hR hS hc hs)
theorem z_dsub {x y : UInt64} (C : Cx G X own cc nL k mc ms) (d : decode cc pc = .ok (.dsub, 1)) (hn : vf_n64 (FP.dsub x y)) (kk : Zs G X nL h uc us (pc + 1) L (.double (FP.dsub x y) :: st)) : Zs G X nL h uc us pc L (.double y :: .double x :: st) := fun ls H locs cells slots hl hR hS hc hs => lv_dsub C.hx C.hb d hn (kk ls H locs cells slots hl hR hS hc hs)
theorem z_fcmp {x y : UInt32} {op : CmpOp} (C : Cx G X own cc nL k mc ms) (d : decode cc pc = .ok (.fcmp op, 1)) (kk : Zs G X nL h uc us (pc + 1) L (.int (Op.cmpValue (FP.fcmp x y) op) :: st)) : Zs G X nL h uc us pc L (.float y :: .float x :: st) := fun ls H locs cells slots hl hR hS hc hs => lv_fcmp C.hx C.hb d (kk ls H locs cells slots hl hR hS hc hs)
theorem z_dcmp {x y : UInt64} {op : CmpOp} (C : Cx G X own cc nL k mc ms) (d : decode cc pc = .ok (.dcmp op, 1)) (kk : Zs G X nL h uc us (pc + 1) L (.int (Op.cmpValue (FP.dcmp x y) op) :: st)) : Zs G X nL h uc us pc L (.double y :: .double x :: st) := fun ls H locs cells slots hl hR hS hc hs => lv_dcmp C.hx C.hb d (kk ls H locs cells slots hl hR hS hc hs)
theorem z_lcmp {x y : Int64} (C : Cx G X own cc nL k mc ms) (d : decode cc pc = .ok (.lcmp, 1)) (kk : Zs G X nL h uc us (pc + 1) L (.int (lg_cmp x y) :: st)) : Zs G X nL h uc us pc L (.long y :: .long x :: st) := fun ls H locs cells slots hl hR hS hc hs => W.lcmp C.hx C.hb d (kk ls H locs cells slots hl hR hS hc hs)
theorem z_iconst {n : Int} {v : Int32} (C : Cx G X own cc nL k mc ms) (d : decode cc pc = .ok (.iconst n, 1)) (hv : Int32.ofInt n = v) (kk : Zs G X nL h uc us (pc + 1) L (.int v :: st)) : Zs G X nL h uc us pc L st := fun ls H locs cells slots hl hR hS hc hs => lv_iconst C.hx C.hb d hv (kk ls H locs cells slots hl hR hS hc hs)
theorem z_bipush {n : Int} {v : Int32} (C : Cx G X own cc nL k mc ms) (d : decode cc pc = .ok (.bipush n, 2)) (hv : (Int8.ofInt n).toInt32 = v) (kk : Zs G X nL h uc us (pc + 2) L (.int v :: st)) : Zs G X nL h uc us pc L st := fun ls H locs cells slots hl hR hS hc hs => lv_bipush C.hx C.hb d hv (kk ls H locs cells slots hl hR hS hc hs)
theorem z_sipush {n : Int} {v : Int32} (C : Cx G X own cc nL k mc ms) (d : decode cc pc = .ok (.sipush n, 3)) (hv : (Int16.ofInt n).toInt32 = v) (kk : Zs G X nL h uc us (pc + 3) L (.int v :: st)) : Zs G X nL h uc us pc L st := fun ls H locs cells slots hl hR hS hc hs => lv_sipush C.hx C.hb d hv (kk ls H locs cells slots hl hR hS hc hs)
theorem z_lconst {n : Fin 2} {v : Int64} (C : Cx G X own cc nL k mc ms) (d : decode cc pc = .ok (.lconst n, 1)) (hv : Int64.ofNat (n : Nat) = v) (kk : Zs G X nL h uc us (pc + 1) L (.long v :: st)) : Zs G X nL h uc us pc L st := fun ls H locs cells slots hl hR hS hc hs => lv_lconst C.hx C.hb d hv (kk ls H locs cells slots hl hR hS hc hs)
theorem z_fconst0 (C : Cx G X own cc nL k mc ms) (d : decode cc pc = .ok (.fconst 0, 1)) (kk : Zs G X nL h uc us (pc + 1) L (.float FP.fconst0 :: st)) : Zs G X nL h uc us pc L st := fun ls H locs cells slots hl hR hS hc hs => lv_fconst0 C.hx C.hb d (kk ls H locs cells slots hl hR hS hc hs)
theorem z_fconst1 (C : Cx G X own cc nL k mc ms) (d : decode cc pc = .ok (.fconst 1, 1)) (kk : Zs G X nL h uc us (pc + 1) L (.float FP.fconst1 :: st)) : Zs G X nL h uc us pc L st := fun ls H locs cells slots hl hR hS hc hs => lv_fconst1 C.hx C.hb d (kk ls H locs cells slots hl hR hS hc hs)
theorem z_dconst0 (C : Cx G X own cc nL k mc ms) (d : decode cc pc = .ok (.dconst 0, 1)) (kk : Zs G X nL h uc us (pc + 1) L (.double FP.dconst0 :: st)) : Zs G X nL h uc us pc L st := fun ls H locs cells slots hl hR hS hc hs => lv_dconst0 C.hx C.hb d (kk ls H locs cells slots hl hR hS hc hs)
theorem z_dconst1 (C : Cx G X own cc nL k mc ms) (d : decode cc pc = .ok (.dconst 1, 1)) (kk : Zs G X nL h uc us (pc + 1) L (.double FP.dconst1 :: st)) : Zs G X nL h uc us pc L st := fun ls H locs cells slots hl hR hS hc hs => lv_dconst1 C.hx C.hb d (kk ls H locs cells slots hl hR hS hc hs)
theorem z_null (C : Cx G X own cc nL k mc ms) (d : decode cc pc = .ok (.aconst_null, 1)) (kk : Zs G X nL h uc us (pc + 1) L (.null :: st)) : Zs G X nL h uc us pc L st := fun ls H locs cells slots hl hR hS hc hs => lv_null C.hx C.hb d (kk ls H locs cells slots hl hR hS hc hs)
theorem z_dup {va : Value} (C : Cx G X own cc nL k mc ms) (d : decode cc pc = .ok (.dup, 1)) (hv : va.category = 1) (kk : Zs G X nL h uc us (pc + 1) L (va :: va :: st)) : Zs G X nL h uc us pc L (va :: st) := fun ls H locs cells slots hl hR hS hc hs => lv_dup C.hx C.hb d hv (kk ls H locs cells slots hl hR hS hc hs)
theorem z_pop {va : Value} (C : Cx G X own cc nL k mc ms) (d : decode cc pc = .ok (.pop, 1)) (hv : va.category = 1) (kk : Zs G X nL h uc us (pc + 1) L st) : Zs G X nL h uc us pc L (va :: st) := fun ls H locs cells slots hl hR hS hc hs => lv_pop C.hx C.hb d hv (kk ls H locs cells slots hl hR hS hc hs)
theorem z_dup_x1 {va vb : Value} (C : Cx G X own cc nL k mc ms) (d : decode cc pc = .ok (.dup_x1, 1)) (hv : va.category = 1) (hw : vb.category = 1) (kk : Zs G X nL h uc us (pc + 1) L (va :: vb :: va :: st)) : Zs G X nL h uc us pc L (va :: vb :: st) := fun ls H locs cells slots hl hR hS hc hs => lv_dup_x1 C.hx C.hb d hv hw (kk ls H locs cells slots hl hR hS hc hs)
theorem z_dup2 {va vb : Value} (C : Cx G X own cc nL k mc ms) (d : decode cc pc = .ok (.dup2, 1)) (hv : va.category = 1) (hw : vb.category = 1) (kk : Zs G X nL h uc us (pc + 1) L (va :: vb :: va :: vb :: st)) : Zs G X nL h uc us pc L (va :: vb :: st) := fun ls H locs cells slots hl hR hS hc hs => lv_dup2_11 C.hx C.hb d hv hw (kk ls H locs cells slots hl hR hS hc hs)
theorem z_iload_n {j : Fin 4} {x : Int32} (C : Cx G X own cc nL k mc ms) (d : decode cc pc = .ok (.iload_n j, 1)) (hL : L[(j : Nat)]? = some (some (.int x))) (kk : Zs G X nL h uc us (pc + 1) L (.int x :: st)) : Zs G X nL h uc us pc L st := fun ls H locs cells slots hl hR hS hc hs => lv_iload_n C.hx C.hb d rfl (lp_at hl hL) (kk ls H locs cells slots hl hR hS hc hs)
theorem z_iload {i : Nat} {x : Int32} (C : Cx G X own cc nL k mc ms) (d : decode cc pc = .ok (.iload i, 2)) (hL : L[i]? = some (some (.int x))) (kk : Zs G X nL h uc us (pc + 2) L (.int x :: st)) : Zs G X nL h uc us pc L st := fun ls H locs cells slots hl hR hS hc hs => lv_iload C.hx C.hb d (lp_at hl hL) (kk ls H locs cells slots hl hR hS hc hs)
theorem z_istore_n {j : Fin 4} {x : Int32} (C : Cx G X own cc nL k mc ms) (d : decode cc pc = .ok (.istore_n j, 1)) (hn : (j : Nat) < nL) (kk : Zs G X nL h uc us (pc + 1) (lset1 L (j : Nat) (.int x)) st) : Zs G X nL h uc us pc L (.int x :: st) := fun ls H locs cells slots hl hR hS hc hs => lv_istore_n C.hx C.hb d rfl (lp_lv hl) hn rfl (fun ls' hl' => kk ls' H locs cells slots (lp_of hl' (fun _ _ q => lset1_mem q)) hR hS hc hs)
theorem z_istore {i : Nat} {x : Int32} (C : Cx G X own cc nL k mc ms) (d : decode cc pc = .ok (.istore i, 2)) (hn : i < nL) (kk : Zs G X nL h uc us (pc + 2) (lset1 L i (.int x)) st) : Zs G X nL h uc us pc L (.int x :: st) := fun ls H locs cells slots hl hR hS hc hs => lv_istore C.hx C.hb d (lp_lv hl) hn rfl (fun ls' hl' => kk ls' H locs cells slots (lp_of hl' (fun _ _ q => lset1_mem q)) hR hS hc hs)
theorem z_lload_n {j : Fin 4} {x : Int64} (C : Cx G X own cc nL k mc ms) (d : decode cc pc = .ok (.lload_n j, 1)) (hL : L[(j : Nat)]? = some (some (.long x))) (kk : Zs G X nL h uc us (pc + 1) L (.long x :: st)) : Zs G X nL h uc us pc L st := fun ls H locs cells slots hl hR hS hc hs => lv_lload_n C.hx C.hb d rfl (lp_at hl hL) (kk ls H locs cells slots hl hR hS hc hs)
theorem z_lload {i : Nat} {x : Int64} (C : Cx G X own cc nL k mc ms) (d : decode cc pc = .ok (.lload i, 2)) (hL : L[i]? = some (some (.long x))) (kk : Zs G X nL h uc us (pc + 2) L (.long x :: st)) : Zs G X nL h uc us pc L st := fun ls H locs cells slots hl hR hS hc hs => lv_lload C.hx C.hb d (lp_at hl hL) (kk ls H locs cells slots hl hR hS hc hs)
theorem z_lstore_n {j : Fin 4} {x : Int64} (C : Cx G X own cc nL k mc ms) (d : decode cc pc = .ok (.lstore_n j, 1)) (hn : (j : Nat) + 1 < nL) (kk : Zs G X nL h uc us (pc + 1) (lset2 L (j : Nat) (.long x)) st) : Zs G X nL h uc us pc L (.long x :: st) := fun ls H locs cells slots hl hR hS hc hs => lv_lstore_n C.hx C.hb d rfl (lp_lv hl) hn rfl (fun ls' hl' => kk ls' H locs cells slots (lp_of hl' (fun _ _ q => lset2_mem q)) hR hS hc hs)
theorem z_lstore {i : Nat} {x : Int64} (C : Cx G X own cc nL k mc ms) (d : decode cc pc = .ok (.lstore i, 2)) (hn : i + 1 < nL) (kk : Zs G X nL h uc us (pc + 2) (lset2 L i (.long x)) st) : Zs G X nL h uc us pc L (.long x :: st) := fun ls H locs cells slots hl hR hS hc hs => lv_lstore C.hx C.hb d (lp_lv hl) hn rfl (fun ls' hl' => kk ls' H locs cells slots (lp_of hl' (fun _ _ q => lset2_mem q)) hR hS hc hs)
theorem z_fload_n {j : Fin 4} {x : UInt32} (C : Cx G X own cc nL k mc ms) (d : decode cc pc = .ok (.fload_n j, 1)) (hL : L[(j : Nat)]? = some (some (.float x))) (kk : Zs G X nL h uc us (pc + 1) L (.float x :: st)) : Zs G X nL h uc us pc L st := fun ls H locs cells slots hl hR hS hc hs => lv_fload_n C.hx C.hb d rfl (lp_at hl hL) (kk ls H locs cells slots hl hR hS hc hs)
theorem z_fload {i : Nat} {x : UInt32} (C : Cx G X own cc nL k mc ms) (d : decode cc pc = .ok (.fload i, 2)) (hL : L[i]? = some (some (.float x))) (kk : Zs G X nL h uc us (pc + 2) L (.float x :: st)) : Zs G X nL h uc us pc L st := fun ls H locs cells slots hl hR hS hc hs => lv_fload C.hx C.hb d (lp_at hl hL) (kk ls H locs cells slots hl hR hS hc hs)
theorem z_fstore_n {j : Fin 4} {x : UInt32} (C : Cx G X own cc nL k mc ms) (d : decode cc pc = .ok (.fstore_n j, 1)) (hn : (j : Nat) < nL) (kk : Zs G X nL h uc us (pc + 1) (lset1 L (j : Nat) (.float x)) st) : Zs G X nL h uc us pc L (.float x :: st) := fun ls H locs cells slots hl hR hS hc hs => lv_fstore_n C.hx C.hb d rfl (lp_lv hl) hn rfl (fun ls' hl' => kk ls' H locs cells slots (lp_of hl' (fun _ _ q => lset1_mem q)) hR hS hc hs)
theorem z_fstore {i : Nat} {x : UInt32} (C : Cx G X own cc nL k mc ms) (d : decode cc pc = .ok (.fstore i, 2)) (hn : i < nL) (kk : Zs G X nL h uc us (pc + 2) (lset1 L i (.float x)) st) : Zs G X nL h uc us pc L (.float x :: st) := fun ls H locs cells slots hl hR hS hc hs => lv_fstore C.hx C.hb d (lp_lv hl) hn rfl (fun ls' hl' => kk ls' H locs cells slots (lp_of hl' (fun _ _ q => lset1_mem q)) hR hS hc hs)
theorem z_dload_n {j : Fin 4} {x : UInt64} (C : Cx G X own cc nL k mc ms) (d : decode cc pc = .ok (.dload_n j, 1)) (hL : L[(j : Nat)]? = some (some (.double x))) (kk : Zs G X nL h uc us (pc + 1) L (.double x :: st)) : Zs G X nL h uc us pc L st := fun ls H locs cells slots hl hR hS hc hs => lv_dload_n C.hx C.hb d rfl (lp_at hl hL) (kk ls H locs cells slots hl hR hS hc hs)
theorem z_dload {i : Nat} {x : UInt64} (C : Cx G X own cc nL k mc ms) (d : decode cc pc = .ok (.dload i, 2)) (hL : L[i]? = some (some (.double x))) (kk : Zs G X nL h uc us (pc + 2) L (.double x :: st)) : Zs G X nL h uc us pc L st := fun ls H locs cells slots hl hR hS hc hs => lv_dload C.hx C.hb d (lp_at hl hL) (kk ls H locs cells slots hl hR hS hc hs)
theorem z_dstore_n {j : Fin 4} {x : UInt64} (C : Cx G X own cc nL k mc ms) (d : decode cc pc = .ok (.dstore_n j, 1)) (hn : (j : Nat) + 1 < nL) (kk : Zs G X nL h uc us (pc + 1) (lset2 L (j : Nat) (.double x)) st) : Zs G X nL h uc us pc L (.double x :: st) := fun ls H locs cells slots hl hR hS hc hs => lv_dstore_n C.hx C.hb d rfl (lp_lv hl) hn rfl (fun ls' hl' => kk ls' H locs cells slots (lp_of hl' (fun _ _ q => lset2_mem q)) hR hS hc hs)
theorem z_dstore {i : Nat} {x : UInt64} (C : Cx G X own cc nL k mc ms) (d : decode cc pc = .ok (.dstore i, 2)) (hn : i + 1 < nL) (kk : Zs G X nL h uc us (pc + 2) (lset2 L i (.double x)) st) : Zs G X nL h uc us pc L (.double x :: st) := fun ls H locs cells slots hl hR hS hc hs => lv_dstore C.hx C.hb d (lp_lv hl) hn rfl (fun ls' hl' => kk ls' H locs cells slots (lp_of hl' (fun _ _ q => lset2_mem q)) hR hS hc hs)
theorem z_aload_n {j : Fin 4} {x : Nat} (C : Cx G X own cc nL k mc ms) (d : decode cc pc = .ok (.aload_n j, 1)) (hL : L[(j : Nat)]? = some (some (.ref x))) (kk : Zs G X nL h uc us (pc + 1) L (.ref x :: st)) : Zs G X nL h uc us pc L st := fun ls H locs cells slots hl hR hS hc hs => lv_aload_n C.hx C.hb d rfl (lp_at hl hL) (kk ls H locs cells slots hl hR hS hc hs)
theorem z_aload {i : Nat} {x : Nat} (C : Cx G X own cc nL k mc ms) (d : decode cc pc = .ok (.aload i, 2)) (hL : L[i]? = some (some (.ref x))) (kk : Zs G X nL h uc us (pc + 2) L (.ref x :: st)) : Zs G X nL h uc us pc L st := fun ls H locs cells slots hl hR hS hc hs => lv_aload C.hx C.hb d (lp_at hl hL) (kk ls H locs cells slots hl hR hS hc hs)
theorem z_astore_n {j : Fin 4} {x : Nat} (C : Cx G X own cc nL k mc ms) (d : decode cc pc = .ok (.astore_n j, 1)) (hn : (j : Nat) < nL) (kk : Zs G X nL h uc us (pc + 1) (lset1 L (j : Nat) (.ref x)) st) : Zs G X nL h uc us pc L (.ref x :: st) := fun ls H locs cells slots hl hR hS hc hs => lv_astore_n C.hx C.hb d rfl (lp_lv hl) hn rfl (fun ls' hl' => kk ls' H locs cells slots (lp_of hl' (fun _ _ q => lset1_mem q)) hR hS hc hs)
theorem z_astore {i : Nat} {x : Nat} (C : Cx G X own cc nL k mc ms) (d : decode cc pc = .ok (.astore i, 2)) (hn : i < nL) (kk : Zs G X nL h uc us (pc + 2) (lset1 L i (.ref x)) st) : Zs G X nL h uc us pc L (.ref x :: st) := fun ls H locs cells slots hl hR hS hc hs => lv_astore C.hx C.hb d (lp_lv hl) hn rfl (fun ls' hl' => kk ls' H locs cells slots (lp_of hl' (fun _ _ q => lset1_mem q)) hR hS hc hs)
theorem z_aload_nN {j : Fin 4} (C : Cx G X own cc nL k mc ms) (d : decode cc pc = .ok (.aload_n j, 1)) (hL : L[(j : Nat)]? = some (some .null)) (kk : Zs G X nL h uc us (pc + 1) L (.null :: st)) : Zs G X nL h uc us pc L st := fun ls H locs cells slots hl hR hS hc hs => lv_aload_nN C.hx C.hb d rfl (lp_at hl hL) (kk ls H locs cells slots hl hR hS hc hs)
theorem z_aloadN {i : Nat} (C : Cx G X own cc nL k mc ms) (d : decode cc pc = .ok (.aload i, 2)) (hL : L[i]? = some (some .null)) (kk : Zs G X nL h uc us (pc + 2) L (.null :: st)) : Zs G X nL h uc us pc L st := fun ls H locs cells slots hl hR hS hc hs => lv_aloadN C.hx C.hb d (lp_at hl hL) (kk ls H locs cells slots hl hR hS hc hs)
theorem z_astore_nN {j : Fin 4} (C : Cx G X own cc nL k mc ms) (d : decode cc pc = .ok (.astore_n j, 1)) (hn : (j : Nat) < nL) (kk : Zs G X nL h uc us (pc + 1) (lset1 L (j : Nat) .null) st) : Zs G X nL h uc us pc L (.null :: st) := fun ls H locs cells slots hl hR hS hc hs => lv_astore_nN C.hx C.hb d rfl (lp_lv hl) hn rfl (fun ls' hl' => kk ls' H locs cells slots (lp_of hl' (fun _ _ q => lset1_mem q)) hR hS hc hs)
theorem z_astoreN {i : Nat} (C : Cx G X own cc nL k mc ms) (d : decode cc pc = .ok (.astore i, 2)) (hn : i < nL) (kk : Zs G X nL h uc us (pc + 2) (lset1 L i .null) st) : Zs G X nL h uc us pc L (.null :: st) := fun ls H locs cells slots hl hR hS hc hs => lv_astoreN C.hx C.hb d (lp_lv hl) hn rfl (fun ls' hl' => kk ls' H locs cells slots (lp_of hl' (fun _ _ q => lset1_mem q)) hR hS hc hs)
theorem z_iinc {i : Nat} {n : Int} {x : Int32} (v : Int32) (C : Cx G X own cc nL k mc ms) (d : decode cc pc = .ok (.iinc i n, 3)) (hL : L[i]? = some (some (.int x))) (hv : x + Int32.ofInt n = v) (hn : i < nL) (kk : Zs G X nL h uc us (pc + 3) (lset1 L i (.int v)) st) : Zs G X nL h uc us pc L st := by
  obtain ⟨q, hq⟩ := List.getElem?_of_mem (lpa_mem.mpr hL)
  exact fun ls H locs cells slots hl hR hS hc hs => lv_iinc C.hx C.hb d (lp_lv hl) hq hv hn rfl (fun ls' hl' => kk ls' H locs cells slots (lp_of hl' (fun _ _ q => lset1_mem q)) hR hS hc hs)
theorem z_if_eq {x : Int32} {off : Int} {tgt : Nat} (C : Cx G X own cc nL k mc ms) (d : decode cc pc = .ok (.ifCond .eq off, 3)) (ht : (pc : Int) + off = (tgt : Int)) (kt : x = 0 → Zs G X nL h uc us tgt L st) (kf : ¬ x = 0 → Zs G X nL h uc us (pc + 3) L st) : Zs G X nL h uc us pc L (.int x :: st) := fun ls H locs cells slots hl hR hS hc hs => lv_if_eq C.hx C.hb d ht (fun q => kt q ls H locs cells slots hl hR hS hc hs) (fun q => kf q ls H locs cells slots hl hR hS hc hs)
theorem z_icmp_eq {x y : Int32} {off : Int} {tgt : Nat} (C : Cx G X own cc nL k mc ms) (d : decode cc pc = .ok (.if_icmp .eq off, 3)) (ht : (pc : Int) + off = (tgt : Int)) (kt : x = y → Zs G X nL h uc us tgt L st) (kf : ¬ x = y → Zs G X nL h uc us (pc + 3) L st) : Zs G X nL h uc us pc L (.int y :: .int x :: st) := fun ls H locs cells slots hl hR hS hc hs => lv_icmp_eq C.hx C.hb d ht (fun q => kt q ls H locs cells slots hl hR hS hc hs) (fun q => kf q ls H locs cells slots hl hR hS hc hs)
theorem z_if_ne {x : Int32} {off : Int} {tgt : Nat} (C : Cx G X own cc nL k mc ms) (d : decode cc pc = .ok (.ifCond .ne off, 3)) (ht : (pc : Int) + off = (tgt : Int)) (kt : ¬ x = 0 → Zs G X nL h uc us tgt L st) (kf : x = 0 → Zs G X nL h uc us (pc + 3) L st) : Zs G X nL h uc us pc L (.int x :: st) := fun ls H locs cells slots hl hR hS hc hs => lv_if_ne C.hx C.hb d ht (fun q => kt q ls H locs cells slots hl hR hS hc hs) (fun q => kf q ls H locs cells slots hl hR hS hc hs)
theorem z_icmp_ne {x y : Int32} {off : Int} {tgt : Nat} (C : Cx G X own cc nL k mc ms) (d : decode cc pc = .ok (.if_icmp .ne off, 3)) (ht : (pc : Int) + off = (tgt : Int)) (kt : ¬ x = y → Zs G X nL h uc us tgt L st) (kf : x = y → Zs G X nL h uc us (pc + 3) L st) : Zs G X nL h uc us pc L (.int y :: .int x :: st) := fun ls H locs cells slots hl hR hS hc hs => lv_icmp_ne C.hx C.hb d ht (fun q => kt q ls H locs cells slots hl hR hS hc hs) (fun q => kf q ls H locs cells slots hl hR hS hc hs)
theorem z_if_lt {x : Int32} {off : Int} {tgt : Nat} (C : Cx G X own cc nL k mc ms) (d : decode cc pc = .ok (.ifCond .lt off, 3)) (ht : (pc : Int) + off = (tgt : Int)) (kt : x < 0 → Zs G X nL h uc us tgt L st) (kf : ¬ x < 0 → Zs G X nL h uc us (pc + 3) L st) : Zs G X nL h uc us pc L (.int x :: st) := fun ls H locs cells slots hl hR hS hc hs => lv_if_lt C.hx C.hb d ht (fun q => kt q ls H locs cells slots hl hR hS hc hs) (fun q => kf q ls H locs cells slots hl hR hS hc hs)
theorem z_icmp_lt {x y : Int32} {off : Int} {tgt : Nat} (C : Cx G X own cc nL k mc ms) (d : decode cc pc = .ok (.if_icmp .lt off, 3)) (ht : (pc : Int) + off = (tgt : Int)) (kt : x < y → Zs G X nL h uc us tgt L st) (kf : ¬ x < y → Zs G X nL h uc us (pc + 3) L st) : Zs G X nL h uc us pc L (.int y :: .int x :: st) := fun ls H locs cells slots hl hR hS hc hs => lv_icmp_lt C.hx C.hb d ht (fun q => kt q ls H locs cells slots hl hR hS hc hs) (fun q => kf q ls H locs cells slots hl hR hS hc hs)
theorem z_if_ge {x : Int32} {off : Int} {tgt : Nat} (C : Cx G X own cc nL k mc ms) (d : decode cc pc = .ok (.ifCond .ge off, 3)) (ht : (pc : Int) + off = (tgt : Int)) (kt : 0 ≤ x → Zs G X nL h uc us tgt L st) (kf : ¬ 0 ≤ x → Zs G X nL h uc us (pc + 3) L st) : Zs G X nL h uc us pc L (.int x :: st) := fun ls H locs cells slots hl hR hS hc hs => lv_if_ge C.hx C.hb d ht (fun q => kt q ls H locs cells slots hl hR hS hc hs) (fun q => kf q ls H locs cells slots hl hR hS hc hs)
theorem z_icmp_ge {x y : Int32} {off : Int} {tgt : Nat} (C : Cx G X own cc nL k mc ms) (d : decode cc pc = .ok (.if_icmp .ge off, 3)) (ht : (pc : Int) + off = (tgt : Int)) (kt : y ≤ x → Zs G X nL h uc us tgt L st) (kf : ¬ y ≤ x → Zs G X nL h uc us (pc + 3) L st) : Zs G X nL h uc us pc L (.int y :: .int x :: st) := fun ls H locs cells slots hl hR hS hc hs => lv_icmp_ge C.hx C.hb d ht (fun q => kt q ls H locs cells slots hl hR hS hc hs) (fun q => kf q ls H locs cells slots hl hR hS hc hs)
theorem z_if_gt {x : Int32} {off : Int} {tgt : Nat} (C : Cx G X own cc nL k mc ms) (d : decode cc pc = .ok (.ifCond .gt off, 3)) (ht : (pc : Int) + off = (tgt : Int)) (kt : 0 < x → Zs G X nL h uc us tgt L st) (kf : ¬ 0 < x → Zs G X nL h uc us (pc + 3) L st) : Zs G X nL h uc us pc L (.int x :: st) := fun ls H locs cells slots hl hR hS hc hs => lv_if_gt C.hx C.hb d ht (fun q => kt q ls H locs cells slots hl hR hS hc hs) (fun q => kf q ls H locs cells slots hl hR hS hc hs)
theorem z_icmp_gt {x y : Int32} {off : Int} {tgt : Nat} (C : Cx G X own cc nL k mc ms) (d : decode cc pc = .ok (.if_icmp .gt off, 3)) (ht : (pc : Int) + off = (tgt : Int)) (kt : y < x → Zs G X nL h uc us tgt L st) (kf : ¬ y < x → Zs G X nL h uc us (pc + 3) L st) : Zs G X nL h uc us pc L (.int y :: .int x :: st) := fun ls H locs cells slots hl hR hS hc hs => lv_icmp_gt C.hx C.hb d ht (fun q => kt q ls H locs cells slots hl hR hS hc hs) (fun q => kf q ls H locs cells slots hl hR hS hc hs)
theorem z_if_le {x : Int32} {off : Int} {tgt : Nat} (C : Cx G X own cc nL k mc ms) (d : decode cc pc = .ok (.ifCond .le off, 3)) (ht : (pc : Int) + off = (tgt : Int)) (kt : x ≤ 0 → Zs G X nL h uc us tgt L st) (kf : ¬ x ≤ 0 → Zs G X nL h uc us (pc + 3) L st) : Zs G X nL h uc us pc L (.int x :: st) := fun ls H locs cells slots hl hR hS hc hs => lv_if_le C.hx C.hb d ht (fun q => kt q ls H locs cells slots hl hR hS hc hs) (fun q => kf q ls H locs cells slots hl hR hS hc hs)
theorem z_icmp_le {x y : Int32} {off : Int} {tgt : Nat} (C : Cx G X own cc nL k mc ms) (d : decode cc pc = .ok (.if_icmp .le off, 3)) (ht : (pc : Int) + off = (tgt : Int)) (kt : x ≤ y → Zs G X nL h uc us tgt L st) (kf : ¬ x ≤ y → Zs G X nL h uc us (pc + 3) L st) : Zs G X nL h uc us pc L (.int y :: .int x :: st) := fun ls H locs cells slots hl hR hS hc hs => lv_icmp_le C.hx C.hb d ht (fun q => kt q ls H locs cells slots hl hR hS hc hs) (fun q => kf q ls H locs cells slots hl hR hS hc hs)
theorem z_goto {off : Int} {tgt : Nat} (C : Cx G X own cc nL k mc ms) (d : decode cc pc = .ok (.goto off, 3)) (ht : (pc : Int) + off = (tgt : Int)) (kk : Zs G X nL h uc us tgt L st) : Zs G X nL h uc us pc L st := fun ls H locs cells slots hl hR hS hc hs => lv_goto C.hx C.hb d ht (kk ls H locs cells slots hl hR hS hc hs)
theorem z_ifnonnull {x : Nat} {off : Int} {tgt : Nat} (C : Cx G X own cc nL k mc ms) (d : decode cc pc = .ok (.ifnonnull off, 3)) (ht : (pc : Int) + off = (tgt : Int)) (kk : Zs G X nL h uc us tgt L st) : Zs G X nL h uc us pc L (.ref x :: st) := fun ls H locs cells slots hl hR hS hc hs => lv_ifnonnull C.hx C.hb d ht (kk ls H locs cells slots hl hR hS hc hs)
theorem z_ifnonnullN {off : Int} (C : Cx G X own cc nL k mc ms) (d : decode cc pc = .ok (.ifnonnull off, 3)) (kk : Zs G X nL h uc us (pc + 3) L st) : Zs G X nL h uc us pc L (.null :: st) := fun ls H locs cells slots hl hR hS hc hs => lv_ifnonnullN C.hx C.hb d (kk ls H locs cells slots hl hR hS hc hs)
theorem z_acmp_eq {rx ry : Option Nat} {off : Int} {tgt : Nat} (C : Cx G X own cc nL k mc ms) (d : decode cc pc = .ok (.if_acmp .eq off, 3)) (ht : (pc : Int) + off = (tgt : Int)) (kt : rx = ry → Zs G X nL h uc us tgt L st) (kf : ¬ rx = ry → Zs G X nL h uc us (pc + 3) L st) : Zs G X nL h uc us pc L (va_rf ry :: va_rf rx :: st) := fun ls H locs cells slots hl hR hS hc hs => lv_acmp_eq C.hx C.hb d ht (fun q => kt q ls H locs cells slots hl hR hS hc hs) (fun q => kf q ls H locs cells slots hl hR hS hc hs)
theorem z_acmp_ne {rx ry : Option Nat} {off : Int} {tgt : Nat} (C : Cx G X own cc nL k mc ms) (d : decode cc pc = .ok (.if_acmp .ne off, 3)) (ht : (pc : Int) + off = (tgt : Int)) (kt : ¬ rx = ry → Zs G X nL h uc us tgt L st) (kf : rx = ry → Zs G X nL h uc us (pc + 3) L st) : Zs G X nL h uc us pc L (va_rf ry :: va_rf rx :: st) := fun ls H locs cells slots hl hR hS hc hs => lv_acmp_ne C.hx C.hb d ht (fun q => kt q ls H locs cells slots hl hR hS hc hs) (fun q => kf q ls H locs cells slots hl hR hS hc hs)
theorem z_ldc {idx : Nat} {v : Int32} (C : Cx G X own cc nL k mc ms) (hw : Cond.constant own idx v ∈ lw_tbl) (d : decode cc pc = .ok (.ldc idx, 2)) (kk : Zs G X nL h uc us (pc + 2) L (.int v :: st)) : Zs G X nL h uc us pc L st := fun ls H locs cells slots hl hR hS hc hs => lv_ldc C.hx C.hb C.ho (C.w hw rfl) d (kk ls H locs cells slots hl hR hS hc hs)
theorem z_ldcw {idx : Nat} {v : Int32} (C : Cx G X own cc nL k mc ms) (hw : Cond.constant own idx v ∈ lw_tbl) (d : decode cc pc = .ok (.ldc_w idx, 3)) (kk : Zs G X nL h uc us (pc + 3) L (.int v :: st)) : Zs G X nL h uc us pc L st := fun ls H locs cells slots hl hR hS hc hs => lv_ldcw C.hx C.hb C.ho (C.w hw rfl) d (kk ls H locs cells slots hl hR hS hc hs)
theorem z_ldcf {idx : Nat} {v : UInt32} (C : Cx G X own cc nL k mc ms) (hw : Cond.constantFloat own idx v ∈ lw_tbl) (d : decode cc pc = .ok (.ldc idx, 2)) (kk : Zs G X nL h uc us (pc + 2) L (.float v :: st)) : Zs G X nL h uc us pc L st := fun ls H locs cells slots hl hR hS hc hs => lv_ldcf C.hx C.hb C.ho (C.w hw rfl) d (kk ls H locs cells slots hl hR hS hc hs)
theorem z_ldc2 {idx : Nat} {v : Int64} (C : Cx G X own cc nL k mc ms) (hw : Cond.constantLong own idx v ∈ lw_tbl) (d : decode cc pc = .ok (.ldc2_w idx, 3)) (kk : Zs G X nL h uc us (pc + 3) L (.long v :: st)) : Zs G X nL h uc us pc L st := fun ls H locs cells slots hl hR hS hc hs => lv_ldc2 C.hx C.hb C.ho (C.w hw rfl) d (kk ls H locs cells slots hl hR hS hc hs)
theorem z_ldc2d {idx : Nat} {v : UInt64} (C : Cx G X own cc nL k mc ms) (hw : Cond.constantDouble own idx v ∈ lw_tbl) (d : decode cc pc = .ok (.ldc2_w idx, 3)) (kk : Zs G X nL h uc us (pc + 3) L (.double v :: st)) : Zs G X nL h uc us pc L st := fun ls H locs cells slots hl hR hS hc hs => lv_ldc2d C.hx C.hb C.ho (C.w hw rfl) d (kk ls H locs cells slots hl hR hS hc hs)
end
end
section
/-! rows on fields, arrays, new cells, the JDK's natives -/
def KC (ci : Nat) (Cn : String) (T : u_T) (N : Nat) (ty : Nat → FieldType) : Prop := zcl[ci]? = some (Cn, T, N) ∧ (∀ w ∈ u_ws Cn T N, w ∈ lw_tbl) ∧ (∀ k, k < N → parseFieldDescriptor (T k).2.2.1 = some (ty k)) ∧ (∀ a, a < N → ∀ b, b < N → a ≠ b → (T a).2.1 ≠ (T b).2.1)
def FL (own : String) (idx : Nat) (T : u_T) (N k : Nat) : Prop := k < N ∧ (Cond.fieldLink own idx (T k).1 (T k).2.1 (T k).2.2.1 ∈ lw_tbl ∨ (∃ host : String, Cond.fieldLinkNest own idx (T k).1 (T k).2.1 (T k).2.2.1 host ∈ lw_tbl) ∨
  ∃ ref : String, Cond.fieldLink own idx ref (T k).2.1 (T k).2.2.1 ∈ lw_tbl ∧ Cond.sameField ref (T k).1 (T k).2.1 (T k).2.2.1 ∈ lw_tbl)
theorem u_ws_good {Cn : String} {T : u_T} {N : Nat} : ∀ w ∈ u_ws Cn T N, zgood w = true := fun w hw => by
  obtain ⟨k, -, rfl⟩ := List.mem_map.mp hw
  unfold u_lay
  split <;> rfl
abbrev oI (G : GT) (n : Nat) (f : Nat → Int32) : va_E := .inl (gC G 0, n, .inl f)
abbrev oJ (G : GT) (n : Nat) (f : Nat → Int64) : va_E := .inl (gC G 1, n, .inr (.inl f))
abbrev oF (G : GT) (n : Nat) (f : Nat → UInt32) : va_E := .inl (gC G 2, n, .inr (.inr (.inl f)))
abbrev oD (G : GT) (n : Nat) (f : Nat → UInt64) : va_E := .inl (gC G 3, n, .inr (.inr (.inr (.inl f))))
abbrev oZ (G : GT) (n : Nat) (f : Nat → Int32) : va_E := .inl (gC G 4, n, .inl f)
abbrev oC (G : GT) (n : Nat) (f : Nat → Int32) : va_E := .inl (gC G 5, n, .inl f)
abbrev oO (G : GT) (n : Nat) (f : Nat → Option Nat) : va_E := .inl (gC G 6, n, .inr (.inr (.inr (.inr f))))
abbrev oII (G : GT) (n : Nat) (f : Nat → Option Nat) : va_E := .inl (gC G 7, n, .inr (.inr (.inr (.inr f))))
abbrev oZZ (G : GT) (n : Nat) (f : Nat → Option Nat) : va_E := .inl (gC G 8, n, .inr (.inr (.inr (.inr f))))
section
variable {G : GT} {X : XT} {own : String} {cc : ByteArray} {nL k mc ms uc us pc : Nat} {h : Hp} {L : List (Option Value)} {st : List Value}
theorem KC.ts {ci N : Nat} {Cn : String} {T : u_T} {ty : Nat → FieldType} (kc : KC ci Cn T N ty) (C : Cx G X own cc nL k mc ms) {a : Array Value} : ∀ w ∈ u_ws Cn T N, w.before a (Xs X) = true := fun w hw => C.w (kc.2.1 w hw) (u_ws_good w hw)
theorem z_getf {ci kf N a idx : Nat} {Cn : String} {T : u_T} {ty : Nat → FieldType} {fs : List Value} {v : Value} (C : Cx G X own cc nL k mc ms) (kc : KC ci Cn T N ty) (fl : FL own idx T N kf) (hg : h a = some (.inr (ci, fs))) (hv : fs[kf]? = some v) (d : decode cc pc = .ok (.getfield idx, 3))
    (kk : Zs G X nL h uc us (pc + 3) L (v :: st)) : Zs G X nL h uc us pc L (.ref a :: st) := by
  obtain ⟨hk, h1 | ⟨host, h1⟩ | ⟨ref, h1, h2⟩⟩ := fl
  · exact fun ls H locs cells slots hl hR hS hc hs => va_get C.hx C.hb (kc.ts C) (fun w q => q) C.ho C.K (hR.one hg) 0 rfl kc.1 kf hk (C.w h1 rfl) (fun _ q => q) hv d (kk ls H locs cells slots hl hR hS hc hs)
  · exact fun ls H locs cells slots hl hR hS hc hs => va_getN C.hx C.hb (kc.ts C) (fun w q => q) C.ho C.K (hR.one hg) 0 rfl kc.1 kf hk (C.w h1 rfl) (fun _ q => q) hv d (kk ls H locs cells slots hl hR hS hc hs)
  · exact fun ls H locs cells slots hl hR hS hc hs => va_get C.hx C.hb (kc.ts C) (fun w q => q) C.ho C.K (hR.one hg) 0 rfl kc.1 kf hk (C.w h1 rfl) (u_same (C.w h2 rfl (a := #[]))) hv d (kk ls H locs cells slots hl hR hS hc hs)
theorem z_putf {ci kf N a idx : Nat} {Cn : String} {T : u_T} {ty : Nat → FieldType} {fs : List Value} {v : Value} (C : Cx G X own cc nL k mc ms) (kc : KC ci Cn T N ty) (fl : FL own idx T N kf) (hg : h a = some (.inr (ci, fs))) (hfin : (T kf).2.2.2 = false) (hn : narrow (ty kf) v = v) (hfit : fits (ty kf) v = true) (hlen : kf < fs.length) (d : decode cc pc = .ok (.putfield idx, 3))
    (kk : ∀ h1 : Hp, h1 = hup h a (.inr (ci, fs.set kf v)) → Zs G X nL h1 uc us (pc + 3) L st) : Zs G X nL h uc us pc L (v :: .ref a :: st) := by
  obtain ⟨hk, h1 | ⟨host, h1⟩ | ⟨ref, h1, h2⟩⟩ := fl
  · intro ls H locs cells slots hl hR hS hc hs
    obtain ⟨q, hq⟩ := wl_at hg (hR.lt hg)
    exact va_put C.hx C.hb (kc.ts C) (fun w q => q) ty kc.2.2.1 kc.2.2.2 C.ho C.K hR.P hR.D hS q hq kc.1 kf hk (C.w h1 rfl) (fun _ q => q) hfin (kc.2.2.1 kf hk) hn hfit hlen d (fun H1 locs1 hP hD hS1 => kk _ rfl ls H1 locs1 cells slots hl (hR.set hq hP) hS1 hc hs)
  · intro ls H locs cells slots hl hR hS hc hs
    obtain ⟨q, hq⟩ := wl_at hg (hR.lt hg)
    exact va_putN C.hx C.hb (kc.ts C) (fun w q => q) ty kc.2.2.1 kc.2.2.2 C.ho C.K hR.P hR.D hS q hq kc.1 kf hk (C.w h1 rfl) (fun _ q => q) hfin (kc.2.2.1 kf hk) hn hfit hlen d (fun H1 locs1 hP hD hS1 => kk _ rfl ls H1 locs1 cells slots hl (hR.set hq hP) hS1 hc hs)
  · intro ls H locs cells slots hl hR hS hc hs
    obtain ⟨q, hq⟩ := wl_at hg (hR.lt hg)
    exact va_put C.hx C.hb (kc.ts C) (fun w q => q) ty kc.2.2.1 kc.2.2.2 C.ho C.K hR.P hR.D hS q hq kc.1 kf hk (C.w h1 rfl) (u_same (C.w h2 rfl (a := #[]))) hfin (kc.2.2.1 kf hk) hn hfit hlen d (fun H1 locs1 hP hD hS1 => kk _ rfl ls H1 locs1 cells slots hl (hR.set hq hP) hS1 hc hs)
/-- a final field, in its class's constructor -/
theorem z_putfF {ci kf N a idx : Nat} {Cn : String} {T : u_T} {ty : Nat → FieldType} {fs : List Value} {v : Value} (C : Cx G X own cc nL k mc ms) (kc : KC ci Cn T N ty) (fl : kf < N ∧ Cond.fieldLink own idx (T kf).1 (T kf).2.1 (T kf).2.2.1 ∈ lw_tbl) (hi : (Xd X).name = "<init>") (hdecl : (T kf).1 = own) (hg : h a = some (.inr (ci, fs))) (hfin : (T kf).2.2.2 = true) (hn : narrow (ty kf) v = v) (hfit : fits (ty kf) v = true) (hlen : kf < fs.length) (d : decode cc pc = .ok (.putfield idx, 3))
    (kk : ∀ h1 : Hp, h1 = hup h a (.inr (ci, fs.set kf v)) → Zs G X nL h1 uc us (pc + 3) L st) : Zs G X nL h uc us pc L (v :: .ref a :: st) := by
  obtain ⟨hk, h1⟩ := fl
  intro ls H locs cells slots hl hR hS hc hs
  obtain ⟨q, hq⟩ := wl_at hg (hR.lt hg)
  exact va_putF C.hx C.hb (kc.ts C) (fun w q => q) ty kc.2.2.1 kc.2.2.2 C.ho C.K hR.P hR.D hS q hq kc.1 kf hk (C.w h1 rfl) (fun _ q => q) hfin hi hdecl (kc.2.2.1 kf hk) hn hfit hlen d (fun H1 locs1 hP hD hS1 => kk _ rfl ls H1 locs1 cells slots hl (hR.set hq hP) hS1 hc hs)
theorem z_new {ci N idx : Nat} {Cn : String} {T : u_T} {ty : Nat → FieldType} (fs : List Value) (C : Cx G X own cc nL k mc ms) (kc : KC ci Cn T N ty) (hcl : Cond.classLink own idx Cn ∈ lw_tbl) (hin : Cond.instantiable Cn N ∈ lw_tbl) (hini : Cond.initialized Cn ∈ lw_tbl) (hfs : ∀ j, j < N → defaultValue (ty j) = vp_V fs j) (h1 : uc + 1 ≤ mc) (h2 : us + N ≤ ms) (d : decode cc pc = .ok (.new idx, 3))
    (kk : ∀ (q : Nat) (h1 : Hp), h q = none → h1 = hup h q (.inr (ci, fs)) → Zs G X nL h1 (uc + 1) (us + N) (pc + 3) L (.ref q :: st)) : Zs G X nL h uc us pc L st := by
  intro ls H locs cells slots hl hR hS hc hs
  have g1 := C.hc
  have g2 := C.hs
  exact va_new C.hx C.hb (kc.ts C) (fun w q => q) ty kc.2.2.1 C.ho (C.w hcl rfl) (C.w hin rfl) (C.w hini rfl) C.K hR.P hR.D hS C.A kc.1 hfs (by omega) (by omega) d (fun q H1 hP hD hS1 => by
    obtain ⟨hR1, hn⟩ := hR.push hP hD
    exact kk q _ hn rfl ls H1 locs (cells + 1) (slots + N) hl hR1 hS1 (by omega) (by omega))
/-! arrays -/
theorem z_iald {a n : Nat} {f : Nat → Int32} {i : Int32} (C : Cx G X own cc nL k mc ms) (hg : h a = some (oI G n f)) (hin : vp_in i n) (d : decode cc pc = .ok (.iaload, 1)) (kk : Zs G X nL h uc us (pc + 1) L (.int (f i.toNatClampNeg) :: st)) : Zs G X nL h uc us pc L (.int i :: .ref a :: st) :=
  fun ls H locs cells slots hl hR hS hc hs => va_iald C.hx C.hb C.K (hR.one hg) 0 0 rfl rfl hin d (kk ls H locs cells slots hl hR hS hc hs)
theorem z_zald {a n : Nat} {f : Nat → Int32} {i : Int32} (C : Cx G X own cc nL k mc ms) (hg : h a = some (oZ G n f)) (hin : vp_in i n) (d : decode cc pc = .ok (.baload, 1)) (kk : Zs G X nL h uc us (pc + 1) L (.int (f i.toNatClampNeg) :: st)) : Zs G X nL h uc us pc L (.int i :: .ref a :: st) :=
  fun ls H locs cells slots hl hR hS hc hs => va_zald C.hx C.hb C.K (hR.one hg) 0 4 rfl rfl hin d (kk ls H locs cells slots hl hR hS hc hs)
theorem z_cald {a n : Nat} {f : Nat → Int32} {i : Int32} (C : Cx G X own cc nL k mc ms) (hg : h a = some (oC G n f)) (hin : vp_in i n) (d : decode cc pc = .ok (.caload, 1)) (kk : Zs G X nL h uc us (pc + 1) L (.int (f i.toNatClampNeg) :: st)) : Zs G X nL h uc us pc L (.int i :: .ref a :: st) :=
  fun ls H locs cells slots hl hR hS hc hs => va_cald C.hx C.hb C.K (hR.one hg) 0 5 rfl rfl hin d (kk ls H locs cells slots hl hR hS hc hs)
theorem z_lald {a n : Nat} {f : Nat → Int64} {i : Int32} (C : Cx G X own cc nL k mc ms) (hg : h a = some (oJ G n f)) (hin : vp_in i n) (d : decode cc pc = .ok (.laload, 1)) (kk : Zs G X nL h uc us (pc + 1) L (.long (f i.toNatClampNeg) :: st)) : Zs G X nL h uc us pc L (.int i :: .ref a :: st) :=
  fun ls H locs cells slots hl hR hS hc hs => va_lald C.hx C.hb C.K (hR.one hg) 0 1 rfl rfl hin d (kk ls H locs cells slots hl hR hS hc hs)
theorem z_fald {a n : Nat} {f : Nat → UInt32} {i : Int32} (C : Cx G X own cc nL k mc ms) (hg : h a = some (oF G n f)) (hin : vp_in i n) (d : decode cc pc = .ok (.faload, 1)) (kk : Zs G X nL h uc us (pc + 1) L (.float (f i.toNatClampNeg) :: st)) : Zs G X nL h uc us pc L (.int i :: .ref a :: st) :=
  fun ls H locs cells slots hl hR hS hc hs => va_fald C.hx C.hb C.K (hR.one hg) 0 2 rfl rfl hin d (kk ls H locs cells slots hl hR hS hc hs)
theorem z_dald {a n : Nat} {f : Nat → UInt64} {i : Int32} (C : Cx G X own cc nL k mc ms) (hg : h a = some (oD G n f)) (hin : vp_in i n) (d : decode cc pc = .ok (.daload, 1)) (kk : Zs G X nL h uc us (pc + 1) L (.double (f i.toNatClampNeg) :: st)) : Zs G X nL h uc us pc L (.int i :: .ref a :: st) :=
  fun ls H locs cells slots hl hR hS hc hs => va_dald C.hx C.hb C.K (hR.one hg) 0 3 rfl rfl hin d (kk ls H locs cells slots hl hR hS hc hs)
theorem z_aaldO {a n : Nat} {f : Nat → Option Nat} {i : Int32} (C : Cx G X own cc nL k mc ms) (hg : h a = some (oO G n f)) (hin : vp_in i n) (d : decode cc pc = .ok (.aaload, 1)) (kk : Zs G X nL h uc us (pc + 1) L (va_rf (f i.toNatClampNeg) :: st)) : Zs G X nL h uc us pc L (.int i :: .ref a :: st) :=
  fun ls H locs cells slots hl hR hS hc hs => va_aldq C.hx C.hb C.K (hR.one hg) 0 6 rfl rfl hin d (kk ls H locs cells slots hl hR hS hc hs)
/-- from an array of arrays -/
theorem z_aaldA {t a n : Nat} {ty : FieldType} {f : Nat → Option Nat} {i : Int32} (C : Cx G X own cc nL k mc ms) (ht : (zty (gC G))[t]? = some (gC G t, .array ty)) (hg : h a = some (.inl (gC G t, n, .inr (.inr (.inr (.inr f)))))) (hin : vp_in i n) (d : decode cc pc = .ok (.aaload, 1)) (kk : Zs G X nL h uc us (pc + 1) L (va_rf (f i.toNatClampNeg) :: st)) : Zs G X nL h uc us pc L (.int i :: .ref a :: st) := by
  have hlt : i.toNatClampNeg < n := Nat.not_le.mp fun q => hin (Or.inr q)
  exact fun ls H locs cells slots hl hR hS hc hs => W.aald (v := va_rf (f i.toNatClampNeg)) (ty := .array ty) C.hx C.hb (hR.one hg 0 _ rfl) ((C.K.2 t _ ht).1 n (fun j => va_rf (f j))) rfl (fun q => by cases q) (by show ¬ (i < 0 ∨ (arrV _ _ _).slots.size ≤ _); rw [arrV_size]; exact hin) (by show (arrV _ _ _).slots[_]? = _; rw [arrV_read _ _ hlt]) rfl rfl d (kk ls H locs cells slots hl hR hS hc hs)
theorem z_alen {t a : Nat} {ty : FieldType} {x : vp_A} (C : Cx G X own cc nL k mc ms) (ht : (zty (gC G))[t]? = some (gC G t, ty)) (hg : h a = some (.inl (gC G t, x))) (d : decode cc pc = .ok (.arraylength, 1)) (kk : Zs G X nL h uc us (pc + 1) L (.int (nI x.1) :: st)) : Zs G X nL h uc us pc L (.ref a :: st) :=
  fun ls H locs cells slots hl hR hS hc hs => va_alen C.hx C.hb C.K (hR.one hg) 0 t rfl ht rfl d (kk ls H locs cells slots hl hR hS hc hs)
theorem z_iast {a n : Nat} {f : Nat → Int32} {i x : Int32} (C : Cx G X own cc nL k mc ms) (hg : h a = some (oI G n f)) (hin : vp_in i n) (d : decode cc pc = .ok (.iastore, 1)) (kk : ∀ h1 : Hp, h1 = hup h a (oI G n (upd f i.toNatClampNeg x)) → Zs G X nL h1 uc us (pc + 1) L st) : Zs G X nL h uc us pc L (.int x :: .int i :: .ref a :: st) := by
  intro ls H locs cells slots hl hR hS hc hs
  obtain ⟨q, hq⟩ := wl_at hg (hR.lt hg)
  exact va_iast C.hx C.hb C.K hR.P hR.D hS q 0 hq rfl hin d (fun H1 locs1 hP hD hS1 => kk _ rfl ls H1 locs1 cells slots hl (hR.set hq hP) hS1 hc hs)
theorem z_zast {a n : Nat} {f : Nat → Int32} {i x : Int32} (C : Cx G X own cc nL k mc ms) (hg : h a = some (oZ G n f)) (hin : vp_in i n) (d : decode cc pc = .ok (.bastore, 1)) (kk : ∀ h1 : Hp, h1 = hup h a (oZ G n (upd f i.toNatClampNeg (vp_nar .boolean x))) → Zs G X nL h1 uc us (pc + 1) L st) : Zs G X nL h uc us pc L (.int x :: .int i :: .ref a :: st) := by
  intro ls H locs cells slots hl hR hS hc hs
  obtain ⟨q, hq⟩ := wl_at hg (hR.lt hg)
  exact va_zast C.hx C.hb C.K hR.P hR.D hS q 4 hq rfl hin d (fun H1 locs1 hP hD hS1 => kk _ rfl ls H1 locs1 cells slots hl (hR.set hq hP) hS1 hc hs)
theorem z_cast {a n : Nat} {f : Nat → Int32} {i x : Int32} (C : Cx G X own cc nL k mc ms) (hg : h a = some (oC G n f)) (hin : vp_in i n) (d : decode cc pc = .ok (.castore, 1)) (kk : ∀ h1 : Hp, h1 = hup h a (oC G n (upd f i.toNatClampNeg (vp_nar .char x))) → Zs G X nL h1 uc us (pc + 1) L st) : Zs G X nL h uc us pc L (.int x :: .int i :: .ref a :: st) := by
  intro ls H locs cells slots hl hR hS hc hs
  obtain ⟨q, hq⟩ := wl_at hg (hR.lt hg)
  exact va_cast C.hx C.hb C.K hR.P hR.D hS q 5 hq rfl hin d (fun H1 locs1 hP hD hS1 => kk _ rfl ls H1 locs1 cells slots hl (hR.set hq hP) hS1 hc hs)
theorem z_last {a n : Nat} {f : Nat → Int64} {i : Int32} {x : Int64} (C : Cx G X own cc nL k mc ms) (hg : h a = some (oJ G n f)) (hin : vp_in i n) (d : decode cc pc = .ok (.lastore, 1)) (kk : ∀ (f1 : Nat → Int64) (h1 : Hp), f1 i.toNatClampNeg = x → h1 = hup h a (oJ G n f1) → Zs G X nL h1 uc us (pc + 1) L st) : Zs G X nL h uc us pc L (.long x :: .int i :: .ref a :: st) := by
  intro ls H locs cells slots hl hR hS hc hs
  obtain ⟨q, hq⟩ := wl_at hg (hR.lt hg)
  exact va_last C.hx C.hb C.K hR.P hR.D hS q 1 hq rfl hin d (fun H1 locs1 hP hD hS1 => kk _ _ (by simp [vp_updL]) rfl ls H1 locs1 cells slots hl (hR.set hq hP) hS1 hc hs)
theorem z_fast {a n : Nat} {f : Nat → UInt32} {i : Int32} {x : UInt32} (C : Cx G X own cc nL k mc ms) (hg : h a = some (oF G n f)) (hin : vp_in i n) (d : decode cc pc = .ok (.fastore, 1)) (kk : ∀ (f1 : Nat → UInt32) (h1 : Hp), (∀ j, f1 j = if j = i.toNatClampNeg then x else f j) → h1 = hup h a (oF G n f1) → Zs G X nL h1 uc us (pc + 1) L st) : Zs G X nL h uc us pc L (.float x :: .int i :: .ref a :: st) := by
  intro ls H locs cells slots hl hR hS hc hs
  obtain ⟨q, hq⟩ := wl_at hg (hR.lt hg)
  exact va_fast C.hx C.hb C.K hR.P hR.D hS q 2 hq rfl hin d (fun H1 locs1 hP hD hS1 => kk _ _ (fun j => rfl) rfl ls H1 locs1 cells slots hl (hR.set hq hP) hS1 hc hs)
theorem z_dast {a n : Nat} {f : Nat → UInt64} {i : Int32} {x : UInt64} (C : Cx G X own cc nL k mc ms) (hg : h a = some (oD G n f)) (hin : vp_in i n) (d : decode cc pc = .ok (.dastore, 1)) (kk : ∀ (f1 : Nat → UInt64) (h1 : Hp), (∀ j, f1 j = if j = i.toNatClampNeg then x else f j) → h1 = hup h a (oD G n f1) → Zs G X nL h1 uc us (pc + 1) L st) : Zs G X nL h uc us pc L (.double x :: .int i :: .ref a :: st) := by
  intro ls H locs cells slots hl hR hS hc hs
  obtain ⟨q, hq⟩ := wl_at hg (hR.lt hg)
  exact va_dast C.hx C.hb C.K hR.P hR.D hS q 3 hq rfl hin d (fun H1 locs1 hP hD hS1 => kk _ _ (fun j => rfl) rfl ls H1 locs1 cells slots hl (hR.set hq hP) hS1 hc hs)
/-- an object of ours into an array of Object -/
theorem z_aast {ci a n v : Nat} {Cn : String} {T : u_T} {N : Nat} {ty : Nat → FieldType} {f : Nat → Option Nat} {vs : List Value} {i : Int32} (C : Cx G X own cc nL k mc ms) (kc : KC ci Cn T N ty) (hca : Cond.castable Cn "java/lang/Object" ∈ lw_tbl) (hg : h a = some (oO G n f)) (hv : h v = some (.inr (ci, vs))) (hin : vp_in i n) (d : decode cc pc = .ok (.aastore, 1))
    (kk : ∀ h1 : Hp, h1 = hup h a (oO G n (va_up f i.toNatClampNeg (some v))) → Zs G X nL h1 uc us (pc + 1) L st) : Zs G X nL h uc us pc L (.ref v :: .int i :: .ref a :: st) := by
  intro ls H locs cells slots hl hR hS hc hs
  obtain ⟨q, hq⟩ := wl_at hg (hR.lt hg)
  obtain ⟨q2, hq2⟩ := wl_at hv (hR.lt hv)
  exact va_astqO C.hx C.hb C.K hR.P hR.D hS q 6 q2 ci (r := (Cn, T, N)) hq rfl (C.w hca rfl) hq2 kc.1 hin d (fun H1 locs1 hP hD hS1 => kk _ rfl ls H1 locs1 cells slots hl (hR.set hq hP) hS1 hc hs)
theorem z_newa {t n : Nat} {atype : ArrayType} {ty : FieldType} (a0 : vp_A) {v : Int32} (C : Cx G X own cc nL k mc ms) (ha : Cond.arrayClass (newarray.typeOf atype) ∈ lw_tbl) (hty : newarray.typeOf atype = ty) (hp : ∀ cA : ClassId, va_RA (Xs X) cA ty → (Xs X).vm.findClass ("[" ++ ty.toString) = some cA) (ht : (zty (gC G))[t]? = some (gC G t, ty)) (ha0 : ∀ cA : ClassId, vp_cell cA a0 = arrV cA n (fun _ => defaultValue ty)) (hv : v = nI n) (hn : n < 100000) (hb : componentBytes ty ≤ 8) (h1 : uc + 1 ≤ mc) (h2 : us + n ≤ ms) (d : decode cc pc = .ok (.newarray atype, 2))
    (kk : ∀ (q : Nat) (h1 : Hp), h q = none → h1 = hup h q (.inl (gC G t, a0)) → Zs G X nL h1 (uc + 1) (us + n) (pc + 2) L (.ref q :: st)) : Zs G X nL h uc us pc L (.int v :: st) := by
  intro ls H locs cells slots hl hR hS hc hs
  have g1 := C.hc
  have g2 := C.hs
  subst hv
  have hm : n * componentBytes ty ≤ n * 8 := Nat.mul_le_mul_left n hb
  exact va_newa C.hx C.hb (C.w ha rfl) hty C.K hR.P hR.D hS C.A (a0 := a0) (N' := n) ha0 (nI_pos (by omega)) (nI_clamp (by omega)) (by omega) (by omega) (by omega) d (fun q cA H1 hK hP hD hS1 => by
    have e : cA = gC G t := by
      have k1 := hp _ (hK.2 (zty (gC G)).length (cA, ty) (by rw [List.getElem?_append_right (Nat.le_refl _), Nat.sub_self]; rfl)).2
      have k2 := hp _ (C.K.2 t _ ht).2
      exact Option.some.inj (k1.symm.trans k2)
    subst e
    obtain ⟨hR1, hn⟩ := hR.push hP hD
    exact kk q _ hn rfl ls H1 locs (cells + 1) (slots + n) hl hR1 hS1 (by omega) (by omega))
/-- an array of Object -/
theorem z_newO {n idx : Nat} {v : Int32} (C : Cx G X own cc nL k mc ms) (hcl : Cond.classLink own idx "java/lang/Object" ∈ lw_tbl) (hao : Cond.arrayOver (.object "java/lang/Object") ∈ lw_tbl) (hv : v = nI n) (hn : n < 100000) (h1 : uc + 1 ≤ mc) (h2 : us + n ≤ ms) (d : decode cc pc = .ok (.anewarray idx, 3))
    (kk : ∀ (q : Nat) (h1 : Hp), h q = none → h1 = hup h q (oO G n (fun _ => none)) → Zs G X nL h1 (uc + 1) (us + n) (pc + 3) L (.ref q :: st)) : Zs G X nL h uc us pc L (.int v :: st) := by
  intro ls H locs cells slots hl hR hS hc hs
  have g1 := C.hc
  have g2 := C.hs
  subst hv
  have hov : va_AO "java/lang/Object" (Xs X) := va_AO.moved C.hE.1.alike (va_AO.of (C.hB.1 _ hao))
  exact va_newq C.hx C.hb C.ho (C.w hcl rfl) hov C.K hR.P hR.D hS C.A (N' := n) (nI_pos (by omega)) (nI_clamp (by omega)) (by omega) (by omega) (by omega) d (fun q cA H1 hK hP hD hS1 => by
    have e : cA = gC G 6 := by
      obtain ⟨_, _, -, -, -, k1⟩ := (hK.2 (zty (gC G)).length (cA, .object "java/lang/Object") (by rw [List.getElem?_append_right (Nat.le_refl _), Nat.sub_self]; rfl)).2
      obtain ⟨_, _, -, -, -, k2⟩ := (C.K.2 6 _ rfl).2
      exact Option.some.inj (k1.symm.trans k2)
    subst e
    obtain ⟨hR1, hn⟩ := hR.push hP hD
    exact kk q _ hn rfl ls H1 locs (cells + 1) (slots + n) hl hR1 hS1 (by omega) (by omega))
/-! casts, statics, the JDK's natives -/
theorem z_checkcast {ci N a idx : Nat} {Cn : String} {T : u_T} {ty : Nat → FieldType} {fs : List Value} (C : Cx G X own cc nL k mc ms) (kc : KC ci Cn T N ty) (hcl : Cond.classLink own idx Cn ∈ lw_tbl) (hg : h a = some (.inr (ci, fs))) (d : decode cc pc = .ok (.checkcast idx, 3)) (kk : Zs G X nL h uc us (pc + 3) L (.ref a :: st)) : Zs G X nL h uc us pc L (.ref a :: st) :=
  fun ls H locs cells slots hl hR hS hc hs => va_castS C.hx C.hb C.ho (C.w hcl rfl) (C.K.1 ci _ kc.1).2 (va_recv C.K (hR.one hg) kc.1 (q0 := 0) rfl) d (kk ls H locs cells slots hl hR hS hc hs)
theorem Cx.Z (C : Cx G X own cc nL k mc ms) : va_Z "java/util/ArrayList" "DEFAULTCAPACITY_EMPTY_ELEMENTDATA" "[Ljava/lang/Object;" (.ref (gd G)) (zA G) (Xs X) (Xs X).heap :=
  va_Z.moved C.hE.1.alike (C.hB.2.2.2.2.1.kept (fun a ha _ => C.hE.2.2 a ha))
theorem Cx.T (C : Cx G X own cc nL k mc ms) : va_T (.object "java/lang/Object") (gd G) 0 (fun _ => .null) (zA G) (Xs X) (Xs X).heap :=
  va_T.moved C.hE.1.alike (C.hB.2.2.2.2.2.kept (fun a ha _ => C.hE.2.2 a ha))
theorem z_getsD {idx : Nat} (C : Cx G X own cc nL k mc ms) (hl : Cond.fieldLink own idx "java/util/ArrayList" "DEFAULTCAPACITY_EMPTY_ELEMENTDATA" "[Ljava/lang/Object;" ∈ lw_tbl) (d : decode cc pc = .ok (.getstatic idx, 3)) (kk : Zs G X nL h uc us (pc + 3) L (.ref (gd G) :: st)) : Zs G X nL h uc us pc L st :=
  fun ls H locs cells slots hl2 hR hS hc hs => va_gets C.hx C.hb C.Z hS C.ho (C.w hl rfl) (fun _ q => q) d (kk ls H locs cells slots hl2 hR hS hc hs)
theorem z_alenD (C : Cx G X own cc nL k mc ms) (d : decode cc pc = .ok (.arraylength, 1)) (kk : Zs G X nL h uc us (pc + 1) L (.int 0 :: st)) : Zs G X nL h uc us pc L (.ref (gd G) :: st) :=
  fun ls H locs cells slots hl hR hS hc hs => va_tlen C.hx C.hb C.T hS rfl d (kk ls H locs cells slots hl hR hS hc hs)
theorem gd_not {G : GT} {h : Hp} {H : Heap} (hB : Base G) (hR : Rep G h H) {a : Nat} {o : va_E} (ha : h a = some o) : a ≠ gd G := fun e => (hB.2.2.2.2.2).out (by rw [← e]; exact (hR a o ha).1)
/-- two references, compared -/
theorem z_acmp_eqR {x y : Nat} {off : Int} {tgt : Nat} (C : Cx G X own cc nL k mc ms) (d : decode cc pc = .ok (.if_acmp .eq off, 3)) (ht : (pc : Int) + off = (tgt : Int)) (kt : x = y → Zs G X nL h uc us tgt L st) (kf : ¬ x = y → Zs G X nL h uc us (pc + 3) L st) : Zs G X nL h uc us pc L (.ref y :: .ref x :: st) :=
  z_acmp_eq (rx := some x) (ry := some y) C d ht (fun q => kt (Option.some.inj q)) (fun q => kf (fun e => q (by rw [e])))
theorem z_acmp_neR {x y : Nat} {off : Int} {tgt : Nat} (C : Cx G X own cc nL k mc ms) (d : decode cc pc = .ok (.if_acmp .ne off, 3)) (ht : (pc : Int) + off = (tgt : Int)) (kt : ¬ x = y → Zs G X nL h uc us tgt L st) (kf : x = y → Zs G X nL h uc us (pc + 3) L st) : Zs G X nL h uc us pc L (.ref y :: .ref x :: st) :=
  z_acmp_ne (rx := some x) (ry := some y) C d ht (fun q => kt (fun e => q (by rw [e]))) (fun q => kf (Option.some.inj q))
theorem z_objInit {idx a : Nat} (C : Cx G X own cc nL k mc ms) (h1 : Cond.methodLink own idx objectInit ∈ lw_tbl) (h2 : Cond.instanceMethod objectInit ∈ lw_tbl) (h3 : Cond.code objectInit ⟨#[0xb1]⟩ 1 none ∈ lw_tbl) (hk : 1 ≤ k) (hst : (st.map fun v => v.category).sum ≤ 100) (d : decode cc pc = .ok (.invokespecial idx, 3)) (kk : Zs G X nL h uc us (pc + 3) L st) : Zs G X nL h uc us pc L (.ref a :: st) := by
  intro ls H locs cells slots hl hR hS hc hs
  have g1 := C.hlo
  have g2 := C.hf
  refine W.objInit C.hx C.hb C.ho (C.w h1 rfl) (C.w h2 rfl) (C.w h3 rfl) rfl (by rw [C.hml]; exact hl.1) rfl d (by omega) ?_ (kk ls H locs cells slots hl hR hS hc hs)
  show 2 * 0 + _ + 12 ≤ _
  omega
theorem z_mmin {idx : Nat} {x y : Int32} (C : Cx G X own cc nL k mc ms) (h1 : Cond.methodLink own idx Lib.Math.min.name ∈ lw_tbl) (h2 : Cond.static Lib.Math.min.name ∈ lw_tbl) (h3 : Cond.initialized "java/lang/Math" ∈ lw_tbl) (h4 : Cond.code Lib.Math.min.name Lib.Math.min.code 2 (some .int) ∈ lw_tbl) (hk : 1 ≤ k) (hst : (st.map fun v => v.category).sum ≤ 100) (huc : uc ≤ mc) (hus : us ≤ ms) (d : decode cc pc = .ok (.invokestatic idx, 3))
    (kk : Zs G X nL h uc us (pc + 3) L (.int (if y < x then y else x) :: st)) : Zs G X nL h uc us pc L (.int y :: .int x :: st) := by
  intro ls H locs cells slots hl hR hS hc hs
  have g1 := C.hlo
  have g2 := C.hf
  have g3 := C.hc
  have g4 := C.hs
  exact va_mmin C.hx C.hb (by rw [C.hml]; exact hl.1.symm) C.ho (C.w h1 rfl) (C.w h2 rfl) (C.w h3 rfl) (C.w h4 rfl) (by omega) (by omega) (by omega) (by omega) d (kk ls H locs cells slots hl hR hS hc hs)
theorem z_mmax {idx : Nat} {x y : Int32} (C : Cx G X own cc nL k mc ms) (h1 : Cond.methodLink own idx Lib.Math.max.name ∈ lw_tbl) (h2 : Cond.static Lib.Math.max.name ∈ lw_tbl) (h3 : Cond.initialized "java/lang/Math" ∈ lw_tbl) (h4 : Cond.code Lib.Math.max.name Lib.Math.max.code 2 (some .int) ∈ lw_tbl) (hk : 1 ≤ k) (hst : (st.map fun v => v.category).sum ≤ 100) (huc : uc ≤ mc) (hus : us ≤ ms) (d : decode cc pc = .ok (.invokestatic idx, 3))
    (kk : Zs G X nL h uc us (pc + 3) L (.int (if x < y then y else x) :: st)) : Zs G X nL h uc us pc L (.int y :: .int x :: st) := by
  intro ls H locs cells slots hl hR hS hc hs
  have g1 := C.hlo
  have g2 := C.hf
  have g3 := C.hc
  have g4 := C.hs
  exact va_mmax C.hx C.hb (by rw [C.hml]; exact hl.1.symm) C.ho (C.w h1 rfl) (C.w h2 rfl) (C.w h3 rfl) (C.w h4 rfl) (by omega) (by omega) (by omega) (by omega) d (kk ls H locs cells slots hl hR hS hc hs)
theorem z_f2bits {idx : Nat} {b : UInt32} (C : Cx G X own cc nL k mc ms) (h1 : Cond.methodLink own idx ⟨"java/lang/Float", "floatToRawIntBits", "(F)I"⟩ ∈ lw_tbl) (h2 : Cond.native ⟨"java/lang/Float", "floatToRawIntBits", "(F)I"⟩ ∈ lw_tbl) (h3 : Cond.static ⟨"java/lang/Float", "floatToRawIntBits", "(F)I"⟩ ∈ lw_tbl) (h4 : Cond.initialized "java/lang/Float" ∈ lw_tbl) (hk : 1 ≤ k) (hst : (st.map fun v => v.category).sum ≤ 100) (d : decode cc pc = .ok (.invokestatic idx, 3))
    (kk : Zs G X nL h uc us (pc + 3) L (.int b.toInt32 :: st)) : Zs G X nL h uc us pc L (.float b :: st) := by
  intro ls H locs cells slots hl hR hS hc hs
  have g1 := C.hlo
  have g2 := C.hf
  exact vn_f2i C.hx C.hb (by rw [C.hml]; exact hl.1.symm) C.ho (C.w h1 rfl) (C.w h2 rfl) (C.w h3 rfl) (C.w h4 rfl) (by omega) (by omega) d (kk ls H locs cells slots hl hR hS hc hs)
theorem z_d2bits {idx : Nat} {b : UInt64} (C : Cx G X own cc nL k mc ms) (h1 : Cond.methodLink own idx ⟨"java/lang/Double", "doubleToRawLongBits", "(D)J"⟩ ∈ lw_tbl) (h2 : Cond.native ⟨"java/lang/Double", "doubleToRawLongBits", "(D)J"⟩ ∈ lw_tbl) (h3 : Cond.static ⟨"java/lang/Double", "doubleToRawLongBits", "(D)J"⟩ ∈ lw_tbl) (h4 : Cond.initialized "java/lang/Double" ∈ lw_tbl) (hk : 1 ≤ k) (hst : (st.map fun v => v.category).sum ≤ 100) (d : decode cc pc = .ok (.invokestatic idx, 3))
    (kk : Zs G X nL h uc us (pc + 3) L (.long b.toInt64 :: st)) : Zs G X nL h uc us pc L (.double b :: st) := by
  intro ls H locs cells slots hl hR hS hc hs
  have g1 := C.hlo
  have g2 := C.hf
  exact vn_d2l C.hx C.hb (by rw [C.hml]; exact hl.1.symm) C.ho (C.w h1 rfl) (C.w h2 rfl) (C.w h3 rfl) (C.w h4 rfl) (by omega) (by omega) d (kk ls H locs cells slots hl hR hS hc hs)
/-- what the start says of the class object of Object[] -/
theorem Cx.mirror (C : Cx G X own cc nL k mc ms) : ∃ mi : Nat, va_Mi "[Ljava/lang/Object;" mi (gs G) ∧ va_Mi "[Ljava/lang/Object;" mi (Xs X) := by
  obtain ⟨mi, hm⟩ := va_Mi.of (C := "[Ljava/lang/Object;") (flat_of_before _ C.hB.2.1 _ (by decide +kernel))
  exact ⟨mi, hm, hm.moved C.hE.1.alike⟩
theorem z_getCls {idx a mi n : Nat} {f : Nat → Option Nat} (C : Cx G X own cc nL k mc ms) (hM : va_Mi "[Ljava/lang/Object;" mi (gs G)) (h1 : Cond.methodLink own idx ⟨"java/lang/Object", "getClass", "()Ljava/lang/Class;"⟩ ∈ lw_tbl) (h2 : Cond.declares ⟨"java/lang/Object", "getClass", "()Ljava/lang/Class;"⟩ ∈ lw_tbl) (h3 : Cond.selects "[Ljava/lang/Object;" ⟨"java/lang/Object", "getClass", "()Ljava/lang/Class;"⟩ ⟨"java/lang/Object", "getClass", "()Ljava/lang/Class;"⟩ ∈ lw_tbl) (h4 : Cond.instanceMethod ⟨"java/lang/Object", "getClass", "()Ljava/lang/Class;"⟩ ∈ lw_tbl) (h5 : Cond.native ⟨"java/lang/Object", "getClass", "()Ljava/lang/Class;"⟩ ∈ lw_tbl)
    (hg : h a = some (oO G n f)) (hk : 1 ≤ k) (hst : (st.map fun v => v.category).sum ≤ 100) (d : decode cc pc = .ok (.invokevirtual idx, 3)) (kk : Zs G X nL h uc us (pc + 3) L (.ref mi :: st)) : Zs G X nL h uc us pc L (.ref a :: st) := by
  intro ls H locs cells slots hl hR hS hc hs
  have g1 := C.hlo
  have g2 := C.hf
  exact va_getC C.hx C.hb (by rw [C.hml]; exact hl.1.symm) C.ho (C.w h1 rfl) (C.w h2 rfl) (C.w h3 rfl) (C.w h4 rfl) (C.w h5 rfl) (hM.moved C.hE.1.alike) ⟨_, hR.one hg 0 _ rfl, rfl, va_nmO (C.K.2 6 _ rfl).2 (by decide +kernel)⟩ (by omega) (by omega) d (kk ls H locs cells slots hl hR hS hc hs)
theorem z_ldcM {idx mi : Nat} (C : Cx G X own cc nL k mc ms) (hM : va_Mi "[Ljava/lang/Object;" mi (gs G)) (hl : Cond.classLink own idx "[Ljava/lang/Object;" ∈ lw_tbl) (d : decode cc pc = .ok (.ldc idx, 2)) (kk : Zs G X nL h uc us (pc + 2) L (.ref mi :: st)) : Zs G X nL h uc us pc L st :=
  fun ls H locs cells slots hl2 hR hS hc hs => va_ldcM C.hx C.hb C.ho (C.w hl rfl) (hM.moved C.hE.1.alike) d (kk ls H locs cells slots hl2 hR hS hc hs)
/-- System.arraycopy between arrays of Object, all of whose elements are of one class of ours -/
theorem z_copy {idx ci a0 a1 n0 n1 n : Nat} {Cn : String} {T : u_T} {N : Nat} {ty : Nat → FieldType} {f g : Nat → Option Nat} {v : Int32} (C : Cx G X own cc nL k mc ms) (kc : KC ci Cn T N ty) (hca : Cond.castable Cn "java/lang/Object" ∈ lw_tbl) (h1 : Cond.methodLink own idx arraycopyName ∈ lw_tbl) (h2 : Cond.native arraycopyName ∈ lw_tbl) (h3 : Cond.static arraycopyName ∈ lw_tbl) (h4 : Cond.initialized "java/lang/System" ∈ lw_tbl)
    (hg0 : h a0 = some (oO G n0 f)) (hg1 : h a1 = some (oO G n1 g)) (hv : v = nI n) (hn0 : n ≤ n0) (hn1 : n ≤ n1) (hn : n < 2 ^ 31) (hel : ∀ i, i < n → ∀ y, f i = some y → ∃ fs, h y = some (.inr (ci, fs))) (hk : 1 ≤ k) (hst : (st.map fun v => v.category).sum ≤ 100) (d : decode cc pc = .ok (.invokestatic idx, 3))
    (kk : ∀ h1 : Hp, h1 = hup h a1 (oO G n1 (va_cpy f g 0 0 n)) → Zs G X nL h1 uc us (pc + 3) L st) : Zs G X nL h uc us pc L (.int v :: .int 0 :: .ref a1 :: .int 0 :: .ref a0 :: st) := by
  intro ls H locs cells slots hl hR hS hc hs
  have g1 := C.hlo
  have g2 := C.hf
  subst hv
  obtain ⟨q0, hq0⟩ := wl_at hg0 (hR.lt hg0)
  obtain ⟨q1, hq1⟩ := wl_at hg1 (hR.lt hg1)
  have e0 : (0 : Int32).toNatClampNeg = 0 := by decide
  have en : (nI n).toNatClampNeg = n := nI_clamp hn
  have hw : nativeFrameWords "java/lang/System" "arraycopy" 5 ≤ 20 := by decide
  refine va_copyq (C := Cn) C.hx C.hb (by rw [C.hml]; exact hl.1.symm) C.ho (C.w h1 rfl) (C.w h2 rfl) (C.w h3 rfl) (C.w h4 rfl) C.K hR.P hR.D hS q0 q1 6 6 hq0 hq1 rfl rfl (by decide) (by decide) (nI_pos hn) (by rw [e0, en]; omega) (by rw [e0, en]; omega) (fun i hi y hy => ?_) (fun comp c0 hc1 hc2 => ?_) (by omega) (by omega) d (fun H1 locs1 hP hD hS1 => ?_)
  · rw [en] at hi
    rw [e0, Nat.zero_add] at hy
    obtain ⟨fs, hfs⟩ := hel i hi y hy
    exact va_recv C.K (hR.one hfs) kc.1 (q0 := 0) rfl
  · obtain ⟨c3, t3, f1, f2, f3⟩ := Cond.castable_spec (C.w hca rfl (a := #[]))
    cases hc2.symm.trans f1
    cases hc1.symm.trans f2
    exact f3
  · rw [e0, en] at hP
    exact kk _ rfl ls H1 locs1 cells slots hl (hR.set hq1 hP) hS1 hc hs
end
end
section
/-! contracts over the functional world, their ends, calls, exceptions -/
abbrev MD : Type := MethodName × ByteArray × Nat × Option FieldType
def RMk (k mc ms : Nat) : Room := { frames := k, cells := mc, slots := ms, locals := 64 * k + 128 }
def zP (G : GT) (av : List Value) (h : Hp) : Array Value → State → Prop := fun v U => v = av.toArray ∧ Ev G U ∧ Rep G h U.heap
def zQ (G : GT) (post : Option Value → Hp → Prop) : Array Value → State → Outcome → State → Prop := fun _ st o t => (∃ (v : Option Value) (h' : Hp), o = .returned v ∧ post v h' ∧ Rep G h' t.heap) ∧ va_F (zA G) st t
def zX (G : GT) (px : String → Hp → Prop) : String → State → State → Prop := fun E st t => (∃ h' : Hp, px E h' ∧ Rep G h' t.heap) ∧ va_F (zA G) st t
/-- method md, called with av over a heap that holds h: it returns v with post v h', or throws E with px E h' -/
def Ct (G : GT) (md : MD) (k mc ms : Nat) (av : List Value) (h : Hp) (post : Option Value → Hp → Prop) (px : String → Hp → Prop) : Prop :=
  vx_Met (gl G) md.1 [Cond.code md.1 md.2.1 md.2.2.1 md.2.2.2] (RMk k mc ms) (zP G av h) (zQ G post) (zX G px) mc ms (zA G)
/-- .. for a method with a table of handlers -/
def CtW (G : GT) (md : MD) (hh : List (Nat × Nat × Nat × Nat)) (k mc ms : Nat) (av : List Value) (h : Hp) (post : Option Value → Hp → Prop) (px : String → Hp → Prop) : Prop :=
  vx_Met (gl G) md.1 [Cond.codeWith md.1 md.2.1 md.2.2.1 md.2.2.2 hh] (RMk k mc ms) (zP G av h) (zQ G post) (zX G px) mc ms (zA G)
def noX : String → Hp → Prop := fun _ _ => False
/-- what a body owes at its end -/
def Ed (G : GT) (X : XT) (nm : String) (ret : Option FieldType) (tb : List ExceptionTableEntry) (mc ms : Nat) (post : Option Value → Hp → Prop) (px : String → Hp → Prop) : Prop :=
  XQ X = vx_MQ (Xb X) (zQ G post) (zX G px) (Xa X) (Xs X) mc ms (zA G) ∧ (Xd X).sig.returnType = ret ∧ (Xd X).name = nm ∧ (Xc X).exceptionTable.toList = tb
theorem Ct.intro {G : GT} {md : MD} {k mc ms m : Nat} {av : List Value} {h : Hp} {post : Option Value → Hp → Prop} {px : String → Hp → Prop} (hB : Base G) (hy : plainName md.1.cls = true) (hn : (lg_sl av).length ≤ md.2.2.1)
    (body : ∀ X : XT, Cx G X md.1.cls md.2.1 md.2.2.1 k mc ms → Ed G X md.1.name md.2.2.2 [] mc ms post px → Zs G X md.2.2.1 h 0 0 0 (zarg av ++ List.replicate m none) []) : Ct G md k mc ms av h post px := by
  refine vx_ofW (cc := md.2.1) (maxL := md.2.2.1) (ret := md.2.2.2) hy rfl ?_
  intro p e s m9 args below meth c s₁ B hml htab hv
  obtain ⟨rfl, hE, hR⟩ := hv
  rw [lg_entry_eq]
  exact body (p, e, (headSpec [Cond.code md.1 md.2.1 md.2.2.1 md.2.2.2] (RMk k mc ms)).room, s, m9, av.toArray, below, meth, c, vx_MQ below (zQ G post) (zX G px) av.toArray s mc ms (zA G))
    ⟨hB, hE, B.exec, B.bytes, hml, findClass_of_methodNamed B.named, Nat.le_refl _, Nat.le_refl _, rfl, rfl, B.notSynchronized⟩ ⟨rfl, B.returns, (name_of_methodNamed B.named B.method).1, List.eq_nil_iff_forall_not_mem.mpr htab⟩ _ s.heap [] 0 0 (lp_entry av hn) hR va_S.rf (Nat.le_refl _) (Nat.le_refl _)
theorem CtW.intro {G : GT} {md : MD} {hh : List (Nat × Nat × Nat × Nat)} {k mc ms m : Nat} {av : List Value} {h : Hp} {post : Option Value → Hp → Prop} {px : String → Hp → Prop} (hB : Base G) (hy : plainName md.1.cls = true) (hn : (lg_sl av).length ≤ md.2.2.1)
    (body : ∀ X : XT, Cx G X md.1.cls md.2.1 md.2.2.1 k mc ms → Ed G X md.1.name md.2.2.2 (tableOf hh) mc ms post px → Zs G X md.2.2.1 h 0 0 0 (zarg av ++ List.replicate m none) []) : CtW G md hh k mc ms av h post px := by
  refine vx_ofWH (cc := md.2.1) (maxL := md.2.2.1) (ret := md.2.2.2) (hh := hh) hy rfl ?_
  intro p e s m9 args below meth c s₁ B hml hv
  obtain ⟨rfl, hE, hR⟩ := hv
  rw [lg_entry_eq]
  exact body (p, e, (headSpec [Cond.codeWith md.1 md.2.1 md.2.2.1 md.2.2.2 hh] (RMk k mc ms)).room, s, m9, av.toArray, below, meth, c, vx_MQ below (zQ G post) (zX G px) av.toArray s mc ms (zA G))
    ⟨hB, hE, B.exec, B.bytes, hml, findClass_of_methodNamed B.named, Nat.le_refl _, Nat.le_refl _, rfl, rfl, B.notSynchronized⟩ ⟨rfl, B.returns, (name_of_methodNamed B.named B.method).1, vx_table (x := md.1) B (atoms_spec (ws := [Cond.codeWith md.1 md.2.1 md.2.2.1 md.2.2.2 hh]) B.pre _ List.mem_cons_self)⟩ _ s.heap [] 0 0 (lp_entry av hn) hR va_S.rf (Nat.le_refl _) (Nat.le_refl _)
/-- a contract of a member of a class that has entries of the machine's -/
theorem Ct.introF {G : GT} {md : MD} {k mc ms m : Nat} {av : List Value} {h : Hp} {post : Option Value → Hp → Prop} {px : String → Hp → Prop} (hB : Base G) (hy : plainFor md.1 = true) (hn : (lg_sl av).length ≤ md.2.2.1)
    (body : ∀ X : XT, Cx G X md.1.cls md.2.1 md.2.2.1 k mc ms → Ed G X md.1.name md.2.2.2 [] mc ms post px → Zs G X md.2.2.1 h 0 0 0 (zarg av ++ List.replicate m none) []) : Ct G md k mc ms av h post px := by
  refine MetFree.of_bodySF (code := md.2.1) (maxLocals := md.2.2.1) (ret := md.2.2.2) hy ?_ ?_
  · intro args s m h hn
    obtain ⟨meth, c, h1, h2, h3, h4, h5, h6, -, -⟩ := Cond.code_spec hn (atoms_spec (ws := [Cond.code md.1 md.2.1 md.2.2.1 md.2.2.2]) h _ List.mem_cons_self)
    exact ⟨meth, c, h1, h2, h3, h4, h5, h6⟩
  · intro p e s m9 args below meth c s₁ B hml hv _
    have hh0 : s₁.heap = s.heap := by rw [B.state]; rfl
    have ht : ∀ x ∈ c.exceptionTable.toList, False := by
      obtain ⟨meth9, c9, h1, h2, -, -, -, -, h7, -⟩ := Cond.code_spec B.named (atoms_spec (ws := [Cond.code md.1 md.2.1 md.2.2.1 md.2.2.2]) B.pre _ List.mem_cons_self)
      cases Option.some.inj (h1.symm.trans B.method)
      cases Option.some.inj (h2.symm.trans (Stand.of_body B).code)
      intro x hx
      rw [Array.isEmpty_iff.mp h7] at hx
      cases hx
    obtain ⟨rfl, hE, hR⟩ := hv
    have K : W p (gl G) e (headSpec [Cond.code md.1 md.2.1 md.2.2.1 md.2.2.2] (RMk k mc ms)).room s m9 av.toArray below meth c s.heap [] 0 0 (vx_MQ below (zQ G post) (zX G px) av.toArray s mc ms (zA G)) (entryFrame m9 av.toArray md.2.2.1) := by
      rw [lg_entry_eq]
      exact body (p, e, (headSpec [Cond.code md.1 md.2.1 md.2.2.1 md.2.2.2] (RMk k mc ms)).room, s, m9, av.toArray, below, meth, c, vx_MQ below (zQ G post) (zX G px) av.toArray s mc ms (zA G))
        ⟨hB, hE, B.exec, B.bytes, hml, findClass_of_methodNamed B.named, Nat.le_refl _, Nat.le_refl _, rfl, rfl, B.notSynchronized⟩ ⟨rfl, B.returns, (name_of_methodNamed B.named B.method).1, List.eq_nil_iff_forall_not_mem.mpr ht⟩ _ s.heap [] 0 0 (lp_entry av hn) hR va_S.rf (Nat.le_refl _) (Nat.le_refl _)
    obtain ⟨t, a1, o, b1, b2, b3⟩ := K s₁ hh0 (Stand.of_body B)
    exact ⟨t, o, a1, b1, b2, b3⟩
theorem Ct.mono {G : GT} {md : MD} {k mc ms : Nat} {av : List Value} {h : Hp} {post post' : Option Value → Hp → Prop} {px px' : String → Hp → Prop} (hc : Ct G md k mc ms av h post px) (h1 : ∀ v h', post v h' → post' v h') (h2 : ∀ E h', px E h' → px' E h') : Ct G md k mc ms av h post' px' := by
  intro p e a1 a2 a3 s m args below a4 a5 a6 a7
  obtain ⟨n, o, b1, b2, b3, b4⟩ := hc p e a1 a2 a3 s m args below a4 a5 a6 a7
  refine ⟨n, o, b1, b2, b3, ?_⟩
  rcases b4 with ⟨⟨⟨v, h', e1, e2, e3⟩, e4⟩, e5⟩ | ⟨q, e1, E, ce, L, ⟨⟨h', e2, e3⟩, e4⟩, e5⟩
  · exact Or.inl ⟨⟨⟨v, h', e1, h1 v h' e2, e3⟩, e4⟩, e5⟩
  · exact Or.inr ⟨q, e1, E, ce, L, ⟨⟨h', h2 E h' e2, e3⟩, e4⟩, e5⟩
section
variable {G : GT} {X : XT} {own nm : String} {cc : ByteArray} {nL k mc ms uc us pc : Nat} {h : Hp} {L : List (Option Value)} {st st0 : List Value} {tb : List ExceptionTableEntry} {post : Option Value → Hp → Prop} {px : String → Hp → Prop}
theorem Zs.fin {ret : Option FieldType} (E : Ed G X nm ret tb mc ms post px) {H : Heap} {locs : List Loc} {cells slots : Nat} (hc : cells ≤ mc) (hs : slots ≤ ms) {g : JFrame} (kk : W (Xp X) (gl G) (Xe X) (XR X) (Xs X) (Xm X) (Xa X) (Xb X) (Xd X) (Xc X) H locs mc ms (MQ (Xb X) (zQ G post) (Xa X) (Xs X) mc ms (zA G)) g) : W (Xp X) (gl G) (Xe X) (XR X) (Xs X) (Xm X) (Xa X) (Xb X) (Xd X) (Xc X) H locs cells slots (XQ X) g := by
  rw [E.1]
  exact W.widen hc hs (vx_ret kk)
theorem z_iret {v : Int32} (C : Cx G X own cc nL k mc ms) (E : Ed G X nm (some .int) tb mc ms post px) (d : decode cc pc = .ok (.ireturn, 1)) (hp : post (some (.int v)) h) (h1 : uc ≤ mc) (h2 : us ≤ ms) : Zs G X nL h uc us pc L [.int v] :=
  fun ls H locs cells slots hl hR hS hc hs => Zs.fin E (Nat.le_trans hc h1) (Nat.le_trans hs h2) (W.iret C.hx C.hb E.2.1 (fun t ht hW => ⟨⟨some (.int v), h, rfl, hp, by rw [ht]; exact hR⟩, hS.F ht⟩) hS.2.2 d (hlocks := C.hk))
theorem z_lret {v : Int64} (C : Cx G X own cc nL k mc ms) (E : Ed G X nm (some .long) tb mc ms post px) (d : decode cc pc = .ok (.lreturn, 1)) (hp : post (some (.long v)) h) (h1 : uc ≤ mc) (h2 : us ≤ ms) : Zs G X nL h uc us pc L [.long v] :=
  fun ls H locs cells slots hl hR hS hc hs => Zs.fin E (Nat.le_trans hc h1) (Nat.le_trans hs h2) (W.lret C.hx C.hb E.2.1 (fun t ht hW => ⟨⟨some (.long v), h, rfl, hp, by rw [ht]; exact hR⟩, hS.F ht⟩) hS.2.2 d (hlocks := C.hk))
theorem z_fret {v : UInt32} (C : Cx G X own cc nL k mc ms) (E : Ed G X nm (some .float) tb mc ms post px) (d : decode cc pc = .ok (.freturn, 1)) (hp : post (some (.float v)) h) (h1 : uc ≤ mc) (h2 : us ≤ ms) : Zs G X nL h uc us pc L [.float v] :=
  fun ls H locs cells slots hl hR hS hc hs => Zs.fin E (Nat.le_trans hc h1) (Nat.le_trans hs h2) (W.fret C.hx C.hb E.2.1 (fun t ht hW => ⟨⟨some (.float v), h, rfl, hp, by rw [ht]; exact hR⟩, hS.F ht⟩) hS.2.2 d (hlocks := C.hk))
theorem z_dret {v : UInt64} (C : Cx G X own cc nL k mc ms) (E : Ed G X nm (some .double) tb mc ms post px) (d : decode cc pc = .ok (.dreturn, 1)) (hp : post (some (.double v)) h) (h1 : uc ≤ mc) (h2 : us ≤ ms) : Zs G X nL h uc us pc L [.double v] :=
  fun ls H locs cells slots hl hR hS hc hs => Zs.fin E (Nat.le_trans hc h1) (Nat.le_trans hs h2) (W.dret C.hx C.hb E.2.1 (fun t ht hW => ⟨⟨some (.double v), h, rfl, hp, by rw [ht]; exact hR⟩, hS.F ht⟩) hS.2.2 d (hlocks := C.hk))
/-- a boolean or a char -/
theorem z_zret {v : Int32} {ty : FieldType} (C : Cx G X own cc nL k mc ms) (E : Ed G X nm (some ty) tb mc ms post px) (hn : narrow ty (.int v) = .int v) (d : decode cc pc = .ok (.ireturn, 1)) (hp : post (some (.int v)) h) (h1 : uc ≤ mc) (h2 : us ≤ ms) : Zs G X nL h uc us pc L [.int v] :=
  fun ls H locs cells slots hl hR hS hc hs => Zs.fin E (Nat.le_trans hc h1) (Nat.le_trans hs h2) (W.zret C.hx C.hb E.2.1 hn (fun t ht hW => ⟨⟨some (.int v), h, rfl, hp, by rw [ht]; exact hR⟩, hS.F ht⟩) hS.2.2 d (hlocks := C.hk))
theorem z_vret (C : Cx G X own cc nL k mc ms) (E : Ed G X nm none tb mc ms post px) (d : decode cc pc = .ok (.return_, 1)) (hp : post none h) (h1 : uc ≤ mc) (h2 : us ≤ ms) : Zs G X nL h uc us pc L [] :=
  fun ls H locs cells slots hl hR hS hc hs => Zs.fin E (Nat.le_trans hc h1) (Nat.le_trans hs h2) (W.vret C.hx C.hb E.2.1 (fun t ht hW => ⟨⟨none, h, rfl, hp, by rw [ht]; exact hR⟩, hS.F ht⟩) hS.2.2 d (hlocks := C.hk))
theorem z_aret {v : Value} {rt : FieldType} (C : Cx G X own cc nL k mc ms) (E : Ed G X nm (some rt) tb mc ms post px) (hrt : (∃ n, rt = .object n) ∨ ∃ t, rt = .array t) (hv : v = .null ∨ ∃ a, v = .ref a) (d : decode cc pc = .ok (.areturn, 1)) (hp : post (some v) h) (h1 : uc ≤ mc) (h2 : us ≤ ms) : Zs G X nL h uc us pc L [v] :=
  fun ls H locs cells slots hl hR hS hc hs => Zs.fin E (Nat.le_trans hc h1) (Nat.le_trans hs h2) (W.aret C.hx C.hb E.2.1 hrt hv (fun t ht hW => ⟨⟨some v, h, rfl, hp, by rw [ht]; exact hR⟩, hS.F ht⟩) hS.2.2 d (hlocks := C.hk))
/-! calls -/
def KV (md : MD) (n : Nat) : Prop := Cond.instanceMethod md.1 ∈ lw_tbl ∧ Cond.selects md.1.cls md.1 md.1 ∈ lw_tbl ∧ Cond.initialized md.1.cls ∈ lw_tbl ∧ Cond.code md.1 md.2.1 md.2.2.1 md.2.2.2 ∈ lw_tbl ∧ (md.1.cls ≠ "java/lang/invoke/MethodHandle" ∧ md.1.cls ≠ "java/lang/invoke/VarHandle") ∧ (parseMethodDescriptor md.1.desc).map (fun d => d.parameters.length) = some n ∧ md.2.2.1 ≤ 40
def KS (md : MD) (n : Nat) : Prop := Cond.static md.1 ∈ lw_tbl ∧ Cond.initialized md.1.cls ∈ lw_tbl ∧ Cond.code md.1 md.2.1 md.2.2.1 md.2.2.2 ∈ lw_tbl ∧ (md.1.cls ≠ "java/lang/invoke/MethodHandle" ∧ md.1.cls ≠ "java/lang/invoke/VarHandle") ∧ (parseMethodDescriptor md.1.desc).map (fun d => d.parameters.length) = some n ∧ md.2.2.1 ≤ 40
def KI (md : MD) (n : Nat) : Prop := Cond.instanceMethod md.1 ∈ lw_tbl ∧ Cond.initialized md.1.cls ∈ lw_tbl ∧ Cond.code md.1 md.2.1 md.2.2.1 md.2.2.2 ∈ lw_tbl ∧ (md.1.cls ≠ "java/lang/invoke/MethodHandle" ∧ md.1.cls ≠ "java/lang/invoke/VarHandle") ∧ (parseMethodDescriptor md.1.desc).map (fun d => d.parameters.length) = some n ∧ md.2.2.1 ≤ 40 ∧ md.1.name = "<init>" ∧ md.2.2.2 = none
def KW (md : MD) (hh : List (Nat × Nat × Nat × Nat)) (n : Nat) : Prop := Cond.static md.1 ∈ lw_tbl ∧ Cond.initialized md.1.cls ∈ lw_tbl ∧ Cond.codeWith md.1 md.2.1 md.2.2.1 md.2.2.2 hh ∈ lw_tbl ∧ (md.1.cls ≠ "java/lang/invoke/MethodHandle" ∧ md.1.cls ≠ "java/lang/invoke/VarHandle") ∧ (parseMethodDescriptor md.1.desc).map (fun d => d.parameters.length) = some n ∧ md.2.2.1 ≤ 40
theorem zP_blind {av : List Value} : FrameBlind (zP G av h) := fun a U g mk q => ⟨q.1, q.2.1, q.2.2⟩
theorem zP_in {H : Heap} {locs : List Loc} {av : List Value} (C : Cx G X own cc nL k mc ms) (hR : Rep G h H) (hS : va_S (zA G) (Xs X).heap H locs) : ∀ U : State, U.heap = H → (Xs X).WarmedH U.vm → zP G av h av.toArray U := fun U hU hW =>
  ⟨rfl, C.hE.go hW (by rw [hU]; exact hS.1) (fun q hq => by rw [hU]; exact hS.2.1 q (Nat.lt_of_lt_of_le hq C.hE.2.1) (zA_not hq)), by rw [hU]; exact hR⟩
theorem arity_of {y : MethodName} {n : Nat} (h2 : (parseMethodDescriptor y.desc).map (fun d => d.parameters.length) = some n) : ∀ sig, parseMethodDescriptor y.desc = some sig → n = sig.parameters.length := fun sig h => by
  rw [h] at h2
  exact (Option.some.inj h2).symm
/-- the run of a callee by its contract -/
def ZRun (G : GT) (X : XT) (nL : Nat) (h : Hp) (uc us mc2 ms2 pc : Nat) (L : List (Option Value)) (st0 st : List Value) (av : List Value) (post : Option Value → Hp → Prop) (px : String → Hp → Prop) : Prop :=
  ∀ (ls : Array Slot) (H : Heap) (locs : List Loc) (cells slots : Nat), lp_has ls nL L → Rep G h H → va_S (zA G) (Xs X).heap H locs → cells ≤ uc → slots ≤ us →
    vx_Run (Xp X) (gl G) (Xe X) (XR X) (Xs X) (Xm X) (Xa X) (Xb X) (Xd X) (Xc X) H locs cells slots mc2 ms2 (F0 (Xm X) pc ls st0) st (zQ G post av.toArray) (zX G px) (zA G)
theorem z_run {mc2 ms2 : Nat} {av : List Value} {post2 : Option Value → Hp → Prop} {px2 : String → Hp → Prop} (hr : ZRun G X nL h uc us mc2 ms2 pc L st0 st av post2 px2)
    (kx : ∀ (E : String) (h' : Hp), px2 E h' → Zx G X nL h' (uc + mc2) (us + ms2) pc L st E)
    (kk : ∀ (v : Option Value) (h' : Hp), post2 v h' → Zs G X nL h' (uc + mc2) (us + ms2) (pc + 3) L (v.toList ++ st)) : Zs G X nL h uc us pc L st0 := by
  intro ls H locs cells slots hl hR hS hc hs T hT XX
  rcases hr ls H locs cells slots hl hR hS hc hs T hT XX with ⟨v, st₀, t, T', L1, h0, X', hL, e1, e2, ⟨⟨v1, h', hv1, hp, hR'⟩, hF⟩, goes⟩ | ⟨q, st₀, t, T', L1, E, ce, h0, X', hL, e1, e2, ⟨⟨h', hp, hR'⟩, hF⟩, hce, hcv, hcl, steps⟩
  · cases hv1
    obtain ⟨-, -, k3⟩ := vx_keep h0 e1 hS (fun q _ z => z) (fun q z => z) hL hF
    obtain ⟨t2, a1, b1⟩ := kk v h' hp ls T'.heap (locs ++ L1) (cells + mc2) (slots + ms2) hl (by rw [e1]; exact hR') k3 (by omega) (by omega) T' rfl X'
    exact ⟨t2, goes t2 a1, b1⟩
  · obtain ⟨-, -, k3⟩ := vx_keep h0 e1 hS (fun q _ z => z) (fun q z => z) hL hF
    obtain ⟨t2, a1, b1⟩ := kx E h' hp ls T'.heap (locs ++ L1) (cells + mc2) (slots + ms2) ce q hl (by rw [e1]; exact hR') k3 (by omega) (by omega) (by rw [e1]; exact hce) hcv hcl T' rfl X'
    exact ⟨t2, steps.trans a1, b1⟩
theorem z_runV {md : MD} {k2 mc2 ms2 n idx ci b N : Nat} {T : u_T} {ty : Nat → FieldType} {fs As : List Value} {post2 : Option Value → Hp → Prop} {px2 : String → Hp → Prop} (C : Cx G X own cc nL k mc ms) (kv : KV md n) (hl : Cond.methodLink own idx md.1 ∈ lw_tbl) (kc : KC ci md.1.cls T N ty) (hM : Ct G md k2 mc2 ms2 (.ref b :: As) h post2 px2) (hg : h b = some (.inr (ci, fs)))
    (hst : st0 = As.reverse ++ .ref b :: st) (hn : As.length = n) (hw : (st.map fun v => v.category).sum ≤ 8) (hk : k2 < k) (h1 : uc + mc2 ≤ mc) (h2 : us + ms2 ≤ ms) (d : decode cc pc = .ok (.invokevirtual idx, 3)) : ZRun G X nL h uc us mc2 ms2 pc L st0 st (.ref b :: As) post2 px2 := by
  intro ls H locs cells slots hls hR hS hc hs
  obtain ⟨w1, w2, w3, w4, w5, w6, w7⟩ := kv
  have g1 := C.hlo
  have g2 := C.hf
  have g3 := C.hc
  have g4 := C.hs
  subst hst
  refine vx_runV (Ts := []) ⟨C.hx, C.hb, C.hml, C.ho, fun w hw => by cases hw⟩ hM ⟨⟨rfl, rfl, by show k2 + 1 ≤ _; omega, by show 8 + (md.2.2.1 + 11) + (64 * k2 + 128) ≤ _; omega, fun w hw a' U hW => ?_, List.mem_cons_self, C.w w4 rfl, C.w w3 rfl, w5, arity_of w6, C.w hl rfl⟩, C.w w1 rfl, C.w w2 rfl⟩
    ⟨zP_blind, va_recv C.K (hR.one hg) kc.1 (q0 := 0) rfl, zP_in C hR hS⟩ rfl hn hls.1 rfl (by show 2 * 0 + _ ≤ 8; omega) d ⟨by omega, by omega⟩
  rw [List.mem_singleton.mp hw]
  exact zw_at hW rfl (C.w w4 rfl (a := #[]))
theorem z_runS {md : MD} {k2 mc2 ms2 n idx : Nat} {As : List Value} {post2 : Option Value → Hp → Prop} {px2 : String → Hp → Prop} (C : Cx G X own cc nL k mc ms) (kv : KS md n) (hl : Cond.methodLink own idx md.1 ∈ lw_tbl) (hM : Ct G md k2 mc2 ms2 As h post2 px2)
    (hst : st0 = As.reverse ++ st) (hn : As.length = n) (hw : (st.map fun v => v.category).sum ≤ 8) (hk : k2 < k) (h1 : uc + mc2 ≤ mc) (h2 : us + ms2 ≤ ms) (d : decode cc pc = .ok (.invokestatic idx, 3)) : ZRun G X nL h uc us mc2 ms2 pc L st0 st As post2 px2 := by
  intro ls H locs cells slots hls hR hS hc hs
  obtain ⟨w1, w3, w4, w5, w6, w7⟩ := kv
  have g1 := C.hlo
  have g2 := C.hf
  have g3 := C.hc
  have g4 := C.hs
  subst hst
  refine vx_runS (Ts := []) ⟨C.hx, C.hb, C.hml, C.ho, fun w hw => by cases hw⟩ hM ⟨⟨rfl, rfl, by show k2 + 1 ≤ _; omega, by show 8 + (md.2.2.1 + 11) + (64 * k2 + 128) ≤ _; omega, fun w hw a' U hW => ?_, List.mem_cons_self, C.w w4 rfl, C.w w3 rfl, w5, arity_of w6, C.w hl rfl⟩, C.w w1 rfl⟩
    ⟨zP_blind, zP_in C hR hS⟩ rfl hn hls.1 rfl (by show 2 * 0 + _ ≤ 8; omega) d ⟨by omega, by omega⟩
  rw [List.mem_singleton.mp hw]
  exact zw_at hW rfl (C.w w4 rfl (a := #[]))
theorem z_runW {md : MD} {hh : List (Nat × Nat × Nat × Nat)} {k2 mc2 ms2 n idx : Nat} {As : List Value} {post2 : Option Value → Hp → Prop} {px2 : String → Hp → Prop} (C : Cx G X own cc nL k mc ms) (kv : KW md hh n) (hl : Cond.methodLink own idx md.1 ∈ lw_tbl) (hM : CtW G md hh k2 mc2 ms2 As h post2 px2)
    (hst : st0 = As.reverse ++ st) (hn : As.length = n) (hw : (st.map fun v => v.category).sum ≤ 8) (hk : k2 < k) (h1 : uc + mc2 ≤ mc) (h2 : us + ms2 ≤ ms) (d : decode cc pc = .ok (.invokestatic idx, 3)) : ZRun G X nL h uc us mc2 ms2 pc L st0 st As post2 px2 := by
  intro ls H locs cells slots hls hR hS hc hs
  obtain ⟨w1, w3, w4, w5, w6, w7⟩ := kv
  have g1 := C.hlo
  have g2 := C.hf
  have g3 := C.hc
  have g4 := C.hs
  subst hst
  refine vx_runSX (Ts := []) (hh := hh) ⟨C.hx, C.hb, C.hml, C.ho, fun w hw => by cases hw⟩ hM ⟨⟨rfl, rfl, by show k2 + 1 ≤ _; omega, by show 8 + (md.2.2.1 + 11) + (64 * k2 + 128) ≤ _; omega, fun w hw a' U hW => ?_, List.mem_cons_self⟩, C.w w4 rfl, C.w w3 rfl, w5, arity_of w6, C.w hl rfl, C.w w1 rfl⟩
    ⟨zP_blind, zP_in C hR hS⟩ rfl hn hls.1 rfl (by show 2 * 0 + _ ≤ 8; omega) d ⟨by omega, by omega⟩
  rw [List.mem_singleton.mp hw]
  exact zw_at hW rfl (C.w w4 rfl (a := #[]))
/-- a contract without exceptions, in the kit's own form -/
theorem Ct.met {md : MD} {k2 mc2 ms2 : Nat} {av : List Value} {post2 : Option Value → Hp → Prop} (hM : Ct G md k2 mc2 ms2 av h post2 noX) : Met (gl G) md.1 [Cond.code md.1 md.2.1 md.2.2.1 md.2.2.2] (RMk k2 mc2 ms2) (zP G av h) (zQ G post2) mc2 ms2 (zA G) := by
  intro p e a1 a2 a3 s m args below a4 a5 a6 a7
  obtain ⟨n, o, b1, b2, b3, b4⟩ := hM p e a1 a2 a3 s m args below a4 a5 a6 a7
  refine ⟨n, o, b1, b2, b3, ?_⟩
  rcases b4 with q | ⟨q, e1, E, ce, L, ⟨⟨h', e2, e3⟩, e4⟩, e5⟩
  · exact q
  · exact e2.elim
theorem ZRun.of {mc2 ms2 : Nat} {av : List Value} {post2 : Option Value → Hp → Prop} {px2 : String → Hp → Prop} (hr : ∀ (ls : Array Slot) (H : Heap) (locs : List Loc) (cells slots : Nat), lp_has ls nL L → Rep G h H → va_S (zA G) (Xs X).heap H locs → cells ≤ uc → slots ≤ us →
    va_Run (Xp X) (gl G) (Xe X) (XR X) (Xs X) (Xm X) (Xa X) (Xb X) (Xd X) (Xc X) H locs cells slots mc2 ms2 (F0 (Xm X) pc ls st0) st (zQ G post2 av.toArray) (zA G)) : ZRun G X nL h uc us mc2 ms2 pc L st0 st av post2 px2 :=
  fun ls H locs cells slots hl hR hS hc hs T hT XX => Or.inl (hr ls H locs cells slots hl hR hS hc hs T hT XX)
theorem z_runI {md : MD} {k2 mc2 ms2 n idx b : Nat} {As : List Value} {post2 : Option Value → Hp → Prop} (C : Cx G X own cc nL k mc ms) (kv : KI md n) (hl : Cond.methodLink own idx md.1 ∈ lw_tbl ∨ ∃ host : String, Cond.methodLinkNest own idx md.1 host ∈ lw_tbl) (hM : Ct G md k2 mc2 ms2 (.ref b :: As) h post2 noX)
    (hst : st0 = As.reverse ++ .ref b :: st) (hn : As.length = n) (hw : (st.map fun v => v.category).sum ≤ 8) (hk : k2 < k) (h1 : uc + mc2 ≤ mc) (h2 : us + ms2 ≤ ms) (d : decode cc pc = .ok (.invokespecial idx, 3)) : ZRun G X nL h uc us mc2 ms2 pc L st0 st (.ref b :: As) post2 noX := by
  refine ZRun.of fun ls H locs cells slots hls hR hS hc hs => ?_
  obtain ⟨y, cd, mL, rt⟩ := md
  obtain ⟨w1, w3, w4, w5, w6, w7, w8, w9⟩ := kv
  dsimp only at w1 w3 w4 w5 w6 w7 w8 w9 hl
  subst w9
  have g1 := C.hlo
  have g2 := C.hf
  have g3 := C.hc
  have g4 := C.hs
  have hws : ∀ w ∈ [Cond.code y cd mL none], ∀ (a' : Array Value) (U : State), (Xs X).WarmedH U.vm → w.before a' U = true := fun w hw a' U hW => by
    rw [List.mem_singleton.mp hw]
    exact zw_at hW rfl (C.w w4 rfl (a := #[]))
  subst hst
  rcases hl with hl | ⟨host, hl⟩
  · exact va_runI (Ts := []) ⟨C.hx, C.hb, C.hml, C.ho, fun w hw => by cases hw⟩ hM.met ⟨⟨rfl, rfl, by show k2 + 1 ≤ _; omega, by show 8 + (mL + 11) + (64 * k2 + 128) ≤ _; omega, hws, List.mem_cons_self, C.w w4 rfl, C.w w3 rfl, w5, arity_of w6, C.w hl rfl⟩, w8, C.w w1 rfl⟩
      ⟨zP_blind, zP_in C hR hS⟩ rfl hn hls.1 rfl (by show 2 * 0 + _ ≤ 8; omega) d ⟨by omega, by omega⟩
  · exact va_runIN (Ts := []) (host := host) ⟨C.hx, C.hb, C.hml, C.ho, fun w hw => by cases hw⟩ hM.met ⟨⟨⟨rfl, rfl, by show k2 + 1 ≤ _; omega, by show 8 + (mL + 11) + (64 * k2 + 128) ≤ _; omega, hws, List.mem_cons_self⟩, C.w w4 rfl, C.w w3 rfl, w5, arity_of w6, C.w hl rfl⟩, w8, C.w w1 rfl⟩
      ⟨zP_blind, zP_in C hR hS⟩ rfl hn hls.1 rfl (by show 2 * 0 + _ ≤ 8; omega) d ⟨by omega, by omega⟩
/-! exceptions -/
theorem z_out {En : String} {ret : Option FieldType} (C : Cx G X own cc nL k mc ms) (E : Ed G X nm ret [] mc ms post px) (hp : px En h) (h1 : uc ≤ mc) (h2 : us ≤ ms) : Zx G X nL h uc us pc L st En := by
  intro ls H locs cells slots ce q hl hR hS hc hs hce hcv hcl
  obtain ⟨e1, e2, e3, e4⟩ := E
  rw [e1]
  exact vx_out (by rw [e4]; exact fun x hx => nomatch hx) C.hk hce hcv hcl (fun t ht hA => ⟨⟨h, hp, by rw [ht]; exact hR⟩, hS.F ht⟩) hS.2.2 (Nat.le_trans hc h1) (Nat.le_trans hs h2)
/-- what a throw of a new cls(text) asks of the tables -/
def KT (own : String) (ik is ic : Nat) (cls text : String) (names : List String) : Prop := Bundle.fit cls = true ∧ (∀ n ∈ names, Bundle.fit n = true) ∧ Cond.classLink own ik cls ∈ lw_tbl ∧ Cond.initialized cls ∈ lw_tbl ∧ Cond.stringRef own is text ∈ lw_tbl ∧ (∀ w ∈ vx_atS own ic cls names, w ∈ lw_tbl ∧ zgood w = true) ∧
  Cond.exactly (Term.string own is) "java/lang/String" ∈ flatC (Jvm.Cond.and given_1 narrow_1) ∧ names.length ≤ 3
theorem zgood_ot {w : Cond} (h : zgood w = true) : vx_ot w = true := by
  cases w <;> first | rfl | (simp only [zgood, Bool.and_eq_true] at h; simp only [vx_ot, Bool.or_eq_true]; exact Or.inl h.1)
theorem flags_st {l : Launch} (h : l.flags = flags0) : l.stackTraces = false := by
  unfold Launch.stackTraces
  rw [h]
  decide +kernel
theorem KT.str {ik is ic : Nat} {cls text : String} {names : List String} (hK : KT own ik is ic cls text names) (C : Cx G X own cc nL k mc ms) : ∃ sa : Nat, vk_R own is text sa (Xs X) := by
  obtain ⟨-, -, -, -, h1, -, h2, -⟩ := hK
  obtain ⟨a, c, cell, kk, q1, -⟩ := Cond.exactly_spec (args := #[Value.ref (gb G)]) (first := gs G) (o := none) (s := gs G) (idx := []) (t := Term.string own is) (cls := "java/lang/String") (flat_of_before _ C.hB.2.1 _ h2)
  exact ⟨a, vk_R.warm C.hE.1 (vk_R.of (C.hB.1 _ h1) q1)⟩
theorem Cx.Zq (C : Cx G X own cc nL k mc ms) {n d : String} (h1 : Cond.laysStatic Bundle.tN n d ∈ lw_tbl) (h2 : Cond.initialized Bundle.tN ∈ lw_tbl) (h3 : Cond.isRef (.static Bundle.tN n d) ∈ flatC (Jvm.Cond.and given_1 narrow_1)) : vx_Zq Bundle.tN n d (zA G) (Xs X) (Xs X).heap := by
  have h0 : vx_Zq Bundle.tN n d (zA G) (gs G) (gs G).heap := vx_Zqof (args := #[Value.ref (gb G)]) (C.hB.1 _ h1) (C.hB.1 _ h2) (flat_of_before _ C.hB.2.1 _ h3) (fun a ha => zA_not ha)
  exact vx_Zq.moved C.hE.1.alike (h0.kept (fun a ha _ => C.hE.2.2 a ha))
def KTn : Prop := Cond.laysStatic Bundle.tN "UNASSIGNED_STACK" Bundle.steD ∈ lw_tbl ∧ Cond.laysStatic Bundle.tN "SUPPRESSED_SENTINEL" Bundle.listD ∈ lw_tbl ∧ Cond.initialized Bundle.tN ∈ lw_tbl ∧ Cond.isRef (.static Bundle.tN "UNASSIGNED_STACK" Bundle.steD) ∈ flatC (Jvm.Cond.and given_1 narrow_1) ∧ Cond.isRef (.static Bundle.tN "SUPPRESSED_SENTINEL" Bundle.listD) ∈ flatC (Jvm.Cond.and given_1 narrow_1)
theorem z_throw {ik is ic : Nat} {cls text : String} {names : List String} {ret : Option FieldType} (C : Cx G X own cc nL k mc ms) (E : Ed G X nm ret [] mc ms post px) (kn : KTn) (hK : KT own ik is ic cls text names) (hk : 8 ≤ k) (hst : (st.map fun v => v.category).sum ≤ 100)
    (d0 : decode cc pc = .ok (.new ik, 3)) (d3 : decode cc (pc + 3) = .ok (.dup, 1)) (d4 : decode cc (pc + 4) = .ok (.ldc is, 2)) (d6 : decode cc (pc + 6) = .ok (.invokespecial ic, 3)) (d9 : decode cc (pc + 9) = .ok (.athrow, 1)) (hp : px cls h) (h1 : uc + 1 ≤ mc) (h2 : us + 6 ≤ ms) : Zs G X nL h uc us pc L st := by
  intro ls H locs cells slots hl hR hS hc hs
  obtain ⟨sa, hsa⟩ := hK.str C
  obtain ⟨f1, f2, f3, f4, f5, f6, f7, f8⟩ := hK
  obtain ⟨n1, n2, n3, n4, n5⟩ := kn
  obtain ⟨e1, e2, e3, e4⟩ := E
  have g1 := C.hlo
  have g2 := C.hf
  have g3 := C.hc
  have g4 := C.hs
  rw [e1]
  refine vx_throwS C.hx C.hb (flags_st C.hB.2.2.2.1) C.ho f1 f2 (C.w f3 rfl) (C.w f4 rfl) hsa (fun w hw => C.w (f6 w hw).1 (f6 w hw).2) (fun w hw => ?_) (C.Zq n1 n3 n4) (C.Zq n2 n3 n5) hS (hl.1.trans C.hml.symm) d0 d3 d4 d6 d9 (by rw [e4]; exact fun x hx => nomatch hx) (by omega) (by omega) (by omega) (by omega) C.hk (fun t hA hz hq => ⟨⟨h, hp, fun a o ha => ⟨(hR a o ha).1, (hR a o ha).2.kept (hq a (hR.lt ha))⟩⟩, ?_⟩) hS.2.2 (by omega) (by omega)
  · rcases List.mem_cons.mp hw with rfl | hw
    · rfl
    · rcases List.mem_cons.mp hw with rfl | hw
      · rfl
      · exact zgood_ot (f6 w hw).2
  · exact ⟨Nat.le_trans hS.1 hz, fun q h5 h6 => (hq q (Nat.lt_of_lt_of_le h5 hS.1)).trans (hS.2.1 q h5 h6)⟩
theorem z_throwW {ik is ic : Nat} {cls text : String} {names : List String} {ret : Option FieldType} (C : Cx G X own cc nL k mc ms) (E : Ed G X nm ret [] mc ms post px) (kn : KTn) (hK : KT own ik is ic cls text names) (hk : 8 ≤ k) (hst : (st.map fun v => v.category).sum ≤ 100)
    (d0 : decode cc pc = .ok (.new ik, 3)) (d3 : decode cc (pc + 3) = .ok (.dup, 1)) (d4 : decode cc (pc + 4) = .ok (.ldc_w is, 3)) (d6 : decode cc (pc + 7) = .ok (.invokespecial ic, 3)) (d9 : decode cc (pc + 10) = .ok (.athrow, 1)) (hp : px cls h) (h1 : uc + 1 ≤ mc) (h2 : us + 6 ≤ ms) : Zs G X nL h uc us pc L st := by
  intro ls H locs cells slots hl hR hS hc hs
  obtain ⟨sa, hsa⟩ := hK.str C
  obtain ⟨f1, f2, f3, f4, f5, f6, f7, f8⟩ := hK
  obtain ⟨n1, n2, n3, n4, n5⟩ := kn
  obtain ⟨e1, e2, e3, e4⟩ := E
  have g1 := C.hlo
  have g2 := C.hf
  have g3 := C.hc
  have g4 := C.hs
  rw [e1]
  refine vx_throwSW C.hx C.hb (flags_st C.hB.2.2.2.1) C.ho f1 f2 (C.w f3 rfl) (C.w f4 rfl) hsa (fun w hw => C.w (f6 w hw).1 (f6 w hw).2) (fun w hw => ?_) (C.Zq n1 n3 n4) (C.Zq n2 n3 n5) hS (hl.1.trans C.hml.symm) d0 d3 d4 d6 d9 (by rw [e4]; exact fun x hx => nomatch hx) (by omega) (by omega) (by omega) (by omega) C.hk (fun t hA hz hq => ⟨⟨h, hp, fun a o ha => ⟨(hR a o ha).1, (hR a o ha).2.kept (hq a (hR.lt ha))⟩⟩, ?_⟩) hS.2.2 (by omega) (by omega)
  · rcases List.mem_cons.mp hw with rfl | hw
    · rfl
    · rcases List.mem_cons.mp hw with rfl | hw
      · rfl
      · exact zgood_ot (f6 w hw).2
  · exact ⟨Nat.le_trans hS.1 hz, fun q h5 h6 => (hq q (Nat.lt_of_lt_of_le h5 hS.1)).trans (hS.2.1 q h5 h6)⟩
/-- caught by the handler x: the rows ahead of it take classes that En isn't; the exception's address is no part of the world -/
theorem z_catch {En nm9 : String} {ret : Option FieldType} (C : Cx G X own cc nL k mc ms) (E : Ed G X nm ret tb mc ms post px) (pre : List ExceptionTableEntry) (x : ExceptionTableEntry) (suf : List ExceptionTableEntry) (hsplit : tb = pre ++ x :: suf)
    (hpass : ∀ z ∈ pre, z.catchType ≠ 0 ∧ ∃ n : String, Cond.classLink own z.catchType n ∈ lw_tbl ∧ Cond.not (.castable En n) ∈ flatC (Jvm.Cond.and given_1 narrow_1)) (hx : covers x pc = true) (h0 : x.catchType ≠ 0) (hl : Cond.classLink own x.catchType nm9 ∈ lw_tbl) (hca : Cond.castable En nm9 ∈ lw_tbl)
    (kk : ∀ q : Nat, Zs G X nL h uc us x.handlerPc L [.ref q]) : Zx G X nL h uc us pc L st En := by
  intro ls H locs cells slots ce q hls hR hS hc hs hce hcv hcl
  obtain ⟨e1, e2, e3, e4⟩ := E
  exact vx_catch C.ho pre x suf (e4.trans hsplit) (fun z hz => Or.inr ⟨(hpass z hz).1, by
    obtain ⟨-, n, h5, h6⟩ := hpass z hz
    exact ⟨n, C.w h5 rfl, (va_Nc.of (flat_of_before _ C.hB.2.1 _ h6)).moved C.hE.1.alike⟩⟩) hx h0 (C.w hl rfl) (C.w hca rfl) hce hcv hcl (kk q ls H locs cells slots hls hR hS hc hs)
end
end
section
/-! the words of the tables that the rows use, each by its place -/
theorem kcJx4a65c : KC 0 RJx4a65c TJx4a65c 3 tyJx4a65c := ⟨rfl, by decide +kernel, tyJx4a65c_ok, nmJx4a65c⟩
theorem kcX0 : KC 1 RX0 TX0 8 tyX0 := ⟨rfl, by decide +kernel, tyX0_ok, nmX0⟩
theorem kcX2 : KC 2 RX2 TX2 2 tyX2 := ⟨rfl, by decide +kernel, tyX2_ok, nmX2⟩
theorem kcX3 : KC 3 RX3 TX3 5 tyX3 := ⟨rfl, by decide +kernel, tyX3_ok, nmX3⟩
theorem kcX4 : KC 4 RX4 TX4 6 tyX4 := ⟨rfl, by decide +kernel, tyX4_ok, nmX4⟩
theorem kcX5 : KC 5 RX5 TX5 3 tyX5 := ⟨rfl, by decide +kernel, tyX5_ok, nmX5⟩
theorem kcX6 : KC 6 RX6 TX6 2 tyX6 := ⟨rfl, by decide +kernel, tyX6_ok, nmX6⟩
theorem kcX7 : KC 7 RX7 TX7 1 tyX7 := ⟨rfl, by decide +kernel, tyX7_ok, nmX7⟩
theorem kcX8 : KC 8 RX8 TX8 6 tyX8 := ⟨rfl, by decide +kernel, tyX8_ok, nmX8⟩
theorem kcX9 : KC 9 RX9 TX9 25 tyX9 := ⟨rfl, by decide +kernel, tyX9_ok, nmX9⟩
abbrev mX8_init : MD := (yX8_init, cX8_init, 1, (Option.none : Option FieldType))
abbrev mX2_init : MD := (yX2_init, cX2_init, 1, (Option.none : Option FieldType))
abbrev mJx4a65c_init_da8c8 : MD := (yJx4a65c_init_da8c8, cJx4a65c_init_da8c8, 1, (Option.none : Option FieldType))
abbrev mJxc12de_init_da8c8 : MD := (yJxc12de_init_da8c8, cJxc12de_init_da8c8, 1, (Option.none : Option FieldType))
abbrev mJxa1e45_init_da8c8 : MD := (yJxa1e45_init_da8c8, cJxa1e45_init_da8c8, 1, (Option.none : Option FieldType))
abbrev mX6_init : MD := (yX6_init, cX6_init, 1, (Option.none : Option FieldType))
abbrev mX8_version : MD := (yX8_version, cX8_version, 1, (Option.some Jvm.ClassFile.FieldType.int : Option FieldType))
abbrev mX2_newest : MD := (yX2_newest, cX2_newest, 1, (Option.some Jvm.ClassFile.FieldType.int : Option FieldType))
abbrev mJx4a65c_size_8abf5 : MD := (yJx4a65c_size_8abf5, cJx4a65c_size_8abf5, 1, (Option.some Jvm.ClassFile.FieldType.int : Option FieldType))
abbrev mX8_time : MD := (yX8_time, cX8_time, 1, (Option.some Jvm.ClassFile.FieldType.int : Option FieldType))
abbrev mX8_audits : MD := (yX8_audits, cX8_audits, 1, (Option.some Jvm.ClassFile.FieldType.int : Option FieldType))
abbrev mX8_breaches : MD := (yX8_breaches, cX8_breaches, 3, (Option.some Jvm.ClassFile.FieldType.int : Option FieldType))
abbrev mJx4a65c_get_915e3 : MD := (yJx4a65c_get_915e3, cJx4a65c_get_915e3, 2, (Option.some (Jvm.ClassFile.FieldType.object "java/lang/Object") : Option FieldType))
abbrev mJ15_checkIndex_7cf53 : MD := (yJ15_checkIndex_7cf53, cJ15_checkIndex_7cf53, 2, (Option.some Jvm.ClassFile.FieldType.int : Option FieldType))
abbrev mJ3_checkIndex_8e157 : MD := (yJ3_checkIndex_8e157, cJ3_checkIndex_8e157, 3, (Option.some Jvm.ClassFile.FieldType.int : Option FieldType))
abbrev mJx4a65c_elementData_915e3 : MD := (yJx4a65c_elementData_915e3, cJx4a65c_elementData_915e3, 2, (Option.some (Jvm.ClassFile.FieldType.object "java/lang/Object") : Option FieldType))
abbrev mX8_isToldAsBreach : MD := (yX8_isToldAsBreach, cX8_isToldAsBreach, 3, (Option.some Jvm.ClassFile.FieldType.boolean : Option FieldType))
abbrev mX0_isInCloud : MD := (yX0_isInCloud, cX0_isInCloud, 1, (Option.some Jvm.ClassFile.FieldType.boolean : Option FieldType))
abbrev mX2_newestAt : MD := (yX2_newestAt, cX2_newestAt, 3, (Option.some Jvm.ClassFile.FieldType.int : Option FieldType))
abbrev mX2_letterIn : MD := (yX2_letterIn, cX2_letterIn, 6, (Option.some Jvm.ClassFile.FieldType.char : Option FieldType))
abbrev mX2_keyIn : MD := (yX2_keyIn, cX2_keyIn, 5, (Option.some (Jvm.ClassFile.FieldType.object "Doorledger$KeyState") : Option FieldType))
abbrev mJ9_min_7cf53 : MD := (yJ9_min_7cf53, cJ9_min_7cf53, 2, (Option.some Jvm.ClassFile.FieldType.int : Option FieldType))
abbrev mX4_letterAt : MD := (yX4_letterAt, cX4_letterAt, 3, (Option.some Jvm.ClassFile.FieldType.char : Option FieldType))
abbrev mX8_delays : MD := (yX8_delays, cX8_delays, 5, (Option.some Jvm.ClassFile.FieldType.long : Option FieldType))
abbrev mX8_isSound : MD := (yX8_isSound, cX8_isSound, 1, (Option.some Jvm.ClassFile.FieldType.boolean : Option FieldType))
abbrev mX8_areDoorsSound : MD := (yX8_areDoorsSound, cX8_areDoorsSound, 3, (Option.some Jvm.ClassFile.FieldType.boolean : Option FieldType))
abbrev mX6_replay : MD := (yX6_replay, cX6_replay, 7, (Option.some Jvm.ClassFile.FieldType.int : Option FieldType))
abbrev mJ7_fill_53178 : MD := (yJ7_fill_53178, cJ7_fill_53178, 4, (Option.none : Option FieldType))
abbrev mJ9_max_7cf53 : MD := (yJ9_max_7cf53, cJ9_max_7cf53, 2, (Option.some Jvm.ClassFile.FieldType.int : Option FieldType))
abbrev mX8_arePhonesSound : MD := (yX8_arePhonesSound, cX8_arePhonesSound, 2, (Option.some Jvm.ClassFile.FieldType.boolean : Option FieldType))
abbrev mX8_areAuditsSound : MD := (yX8_areAuditsSound, cX8_areAuditsSound, 3, (Option.some Jvm.ClassFile.FieldType.boolean : Option FieldType))
abbrev mX8_letterAgain : MD := (yX8_letterAgain, cX8_letterAgain, 2, (Option.some Jvm.ClassFile.FieldType.char : Option FieldType))
abbrev mL_addKey : MD := (yL_addKey, cL_addKey, 6, (Option.some Jvm.ClassFile.FieldType.int : Option FieldType))
abbrev hhL_addKey : List (Nat × Nat × Nat × Nat) := [(0, 12, 15, 13), (0, 12, 19, 15)]
abbrev mX8_addKey : MD := (yX8_addKey, cX8_addKey, 5, (Option.some Jvm.ClassFile.FieldType.int : Option FieldType))
abbrev mX8_checkDoorSet : MD := (yX8_checkDoorSet, cX8_checkDoorSet, 1, (Option.none : Option FieldType))
abbrev mX8_checkTimes : MD := (yX8_checkTimes, cX8_checkTimes, 2, (Option.none : Option FieldType))
abbrev mX8_checkRoomForChange : MD := (yX8_checkRoomForChange, cX8_checkRoomForChange, 1, (Option.none : Option FieldType))
abbrev mX4_init : MD := (yX4_init, cX4_init, 7, (Option.none : Option FieldType))
abbrev mX2_keep : MD := (yX2_keep, cX2_keep, 2, (Option.some Jvm.ClassFile.FieldType.int : Option FieldType))
abbrev mJx4a65c_add_9ea2d : MD := (yJx4a65c_add_9ea2d, cJx4a65c_add_9ea2d, 2, (Option.some Jvm.ClassFile.FieldType.boolean : Option FieldType))
abbrev mJx4a65c_add_72be8 : MD := (yJx4a65c_add_72be8, cJx4a65c_add_72be8, 4, (Option.none : Option FieldType))
abbrev mJx4a65c_grow_d5877 : MD := (yJx4a65c_grow_d5877, cJx4a65c_grow_d5877, 1, (Option.some (Jvm.ClassFile.FieldType.array (Jvm.ClassFile.FieldType.object "java/lang/Object")) : Option FieldType))
abbrev mJx4a65c_grow_92f84 : MD := (yJx4a65c_grow_92f84, cJx4a65c_grow_92f84, 4, (Option.some (Jvm.ClassFile.FieldType.array (Jvm.ClassFile.FieldType.object "java/lang/Object")) : Option FieldType))
abbrev mJ8_newLength_cabcc : MD := (yJ8_newLength_cabcc, cJ8_newLength_cabcc, 4, (Option.some Jvm.ClassFile.FieldType.int : Option FieldType))
abbrev mJ8_hugeLength_7cf53 : MD := (yJ8_hugeLength_7cf53, cJ8_hugeLength_7cf53, 3, (Option.some Jvm.ClassFile.FieldType.int : Option FieldType))
abbrev mJ7_copyOf_1904c : MD := (yJ7_copyOf_1904c, cJ7_copyOf_1904c, 2, (Option.some (Jvm.ClassFile.FieldType.array (Jvm.ClassFile.FieldType.object "java/lang/Object")) : Option FieldType))
abbrev mJ7_copyOf_6403c : MD := (yJ7_copyOf_6403c, cJ7_copyOf_6403c, 4, (Option.some (Jvm.ClassFile.FieldType.array (Jvm.ClassFile.FieldType.object "java/lang/Object")) : Option FieldType))
abbrev mL_setTimes : MD := (yL_setTimes, cL_setTimes, 6, (Option.some Jvm.ClassFile.FieldType.int : Option FieldType))
abbrev hhL_setTimes : List (Nat × Nat × Nat × Nat) := [(0, 12, 15, 20), (0, 12, 19, 13), (0, 12, 23, 15)]
abbrev mX8_setTimes : MD := (yX8_setTimes, cX8_setTimes, 5, (Option.some Jvm.ClassFile.FieldType.int : Option FieldType))
abbrev mX8_presentKey : MD := (yX8_presentKey, cX8_presentKey, 3, (Option.some (Jvm.ClassFile.FieldType.object "Doorledger$KeyState") : Option FieldType))
abbrev mX8_checkNotRevoked : MD := (yX8_checkNotRevoked, cX8_checkNotRevoked, 1, (Option.none : Option FieldType))
abbrev mL_setDoors : MD := (yL_setDoors, cL_setDoors, 5, (Option.some Jvm.ClassFile.FieldType.int : Option FieldType))
abbrev hhL_setDoors : List (Nat × Nat × Nat × Nat) := [(0, 10, 13, 20), (0, 10, 17, 13), (0, 10, 21, 15)]
abbrev mX8_setDoors : MD := (yX8_setDoors, cX8_setDoors, 4, (Option.some Jvm.ClassFile.FieldType.int : Option FieldType))
abbrev mL_revoke : MD := (yL_revoke, cL_revoke, 4, (Option.some Jvm.ClassFile.FieldType.int : Option FieldType))
abbrev hhL_revoke : List (Nat × Nat × Nat × Nat) := [(0, 9, 12, 20), (0, 9, 15, 15)]
abbrev mX8_revoke : MD := (yX8_revoke, cX8_revoke, 3, (Option.some Jvm.ClassFile.FieldType.int : Option FieldType))
abbrev mL_addDoor : MD := (yL_addDoor, cL_addDoor, 3, (Option.some Jvm.ClassFile.FieldType.int : Option FieldType))
abbrev hhL_addDoor : List (Nat × Nat × Nat × Nat) := [(0, 8, 11, 15)]
abbrev mX8_addDoor : MD := (yX8_addDoor, cX8_addDoor, 1, (Option.some Jvm.ClassFile.FieldType.int : Option FieldType))
abbrev mX3_init : MD := (yX3_init, cX3_init, 3, (Option.none : Option FieldType))
abbrev mL_setRate : MD := (yL_setRate, cL_setRate, 5, (Option.some Jvm.ClassFile.FieldType.int : Option FieldType))
abbrev hhL_setRate : List (Nat × Nat × Nat × Nat) := [(0, 10, 13, 37), (0, 10, 17, 13)]
abbrev mJx00060_init_a7421 : MD := (yJx00060_init_a7421, cJx00060_init_a7421, 2, (Option.none : Option FieldType))
abbrev mX8_setRate : MD := (yX8_setRate, cX8_setRate, 5, (Option.some Jvm.ClassFile.FieldType.int : Option FieldType))
abbrev mX8_doorOf : MD := (yX8_doorOf, cX8_doorOf, 2, (Option.some (Jvm.ClassFile.FieldType.object "Doorledger$Door") : Option FieldType))
abbrev mX3_minuteAt : MD := (yX3_minuteAt, cX3_minuteAt, 2, (Option.some Jvm.ClassFile.FieldType.int : Option FieldType))
abbrev mX3_driftAt : MD := (yX3_driftAt, cX3_driftAt, 2, (Option.some Jvm.ClassFile.FieldType.float : Option FieldType))
abbrev mX3_setClock : MD := (yX3_setClock, cX3_setClock, 3, (Option.none : Option FieldType))
abbrev mL_addPhone : MD := (yL_addPhone, cL_addPhone, 3, (Option.some Jvm.ClassFile.FieldType.int : Option FieldType))
abbrev hhL_addPhone : List (Nat × Nat × Nat × Nat) := [(0, 8, 11, 15)]
abbrev mX8_addPhone : MD := (yX8_addPhone, cX8_addPhone, 1, (Option.some Jvm.ClassFile.FieldType.int : Option FieldType))
abbrev mX7_init : MD := (yX7_init, cX7_init, 1, (Option.none : Option FieldType))
abbrev mL_pass : MD := (yL_pass, cL_pass, 4, (Option.some Jvm.ClassFile.FieldType.int : Option FieldType))
abbrev hhL_pass : List (Nat × Nat × Nat × Nat) := [(0, 9, 12, 13)]
abbrev mX8_pass : MD := (yX8_pass, cX8_pass, 2, (Option.some Jvm.ClassFile.FieldType.int : Option FieldType))
abbrev mL_meetCloud : MD := (yL_meetCloud, cL_meetCloud, 4, (Option.some Jvm.ClassFile.FieldType.int : Option FieldType))
abbrev hhL_meetCloud : List (Nat × Nat × Nat × Nat) := [(0, 9, 12, 37)]
abbrev mX8_meetCloud : MD := (yX8_meetCloud, cX8_meetCloud, 6, (Option.some Jvm.ClassFile.FieldType.int : Option FieldType))
abbrev mX8_phoneOf : MD := (yX8_phoneOf, cX8_phoneOf, 2, (Option.some (Jvm.ClassFile.FieldType.object "Doorledger$Phone") : Option FieldType))
abbrev mX5_init : MD := (yX5_init, cX5_init, 4, (Option.none : Option FieldType))
abbrev mX6_keep : MD := (yX6_keep, cX6_keep, 2, (Option.none : Option FieldType))
abbrev mX0_isCarriedBy : MD := (yX0_isCarriedBy, cX0_isCarriedBy, 2, (Option.some Jvm.ClassFile.FieldType.boolean : Option FieldType))
abbrev mL_meetDoor : MD := (yL_meetDoor, cL_meetDoor, 5, (Option.some Jvm.ClassFile.FieldType.int : Option FieldType))
abbrev hhL_meetDoor : List (Nat × Nat × Nat × Nat) := [(0, 10, 13, 37)]
abbrev mX8_meetDoor : MD := (yX8_meetDoor, cX8_meetDoor, 8, (Option.some Jvm.ClassFile.FieldType.int : Option FieldType))
abbrev mX0_isWaitingAt : MD := (yX0_isWaitingAt, cX0_isWaitingAt, 2, (Option.some Jvm.ClassFile.FieldType.boolean : Option FieldType))
abbrev mL_open : MD := (yL_open, cL_open, 5, (Option.some Jvm.ClassFile.FieldType.int : Option FieldType))
abbrev hhL_open : List (Nat × Nat × Nat × Nat) := [(0, 10, 13, 37), (0, 10, 17, 20), (0, 10, 21, 15)]
abbrev mX8_open : MD := (yX8_open, cX8_open, 6, (Option.some Jvm.ClassFile.FieldType.char : Option FieldType))
abbrev mX0_init : MD := (yX0_init, cX0_init, 7, (Option.none : Option FieldType))
abbrev mL_answer : MD := (yL_answer, cL_answer, 5, (Option.some Jvm.ClassFile.FieldType.int : Option FieldType))
abbrev hhL_answer : List (Nat × Nat × Nat × Nat) := [(0, 10, 13, 37), (0, 10, 17, 20)]
abbrev mX8_answer : MD := (yX8_answer, cX8_answer, 4, (Option.some Jvm.ClassFile.FieldType.char : Option FieldType))
abbrev mL_clock : MD := (yL_clock, cL_clock, 4, (Option.some Jvm.ClassFile.FieldType.int : Option FieldType))
abbrev hhL_clock : List (Nat × Nat × Nat × Nat) := [(0, 9, 12, 37)]
abbrev mX8_clock : MD := (yX8_clock, cX8_clock, 2, (Option.some Jvm.ClassFile.FieldType.int : Option FieldType))
abbrev mL_drifted : MD := (yL_drifted, cL_drifted, 4, (Option.some Jvm.ClassFile.FieldType.int : Option FieldType))
abbrev hhL_drifted : List (Nat × Nat × Nat × Nat) := [(0, 9, 12, 37)]
abbrev mX8_drifted : MD := (yX8_drifted, cX8_drifted, 2, (Option.some Jvm.ClassFile.FieldType.float : Option FieldType))
abbrev mL_driftedBits : MD := (yL_driftedBits, cL_driftedBits, 4, (Option.some Jvm.ClassFile.FieldType.int : Option FieldType))
abbrev hhL_driftedBits : List (Nat × Nat × Nat × Nat) := [(0, 9, 12, 37)]
abbrev mX8_driftedBits : MD := (yX8_driftedBits, cX8_driftedBits, 2, (Option.some Jvm.ClassFile.FieldType.int : Option FieldType))
abbrev mX1_ofFloat : MD := (yX1_ofFloat, cX1_ofFloat, 5, (Option.some Jvm.ClassFile.FieldType.int : Option FieldType))
abbrev mX1_ofDouble : MD := (yX1_ofDouble, cX1_ofDouble, 7, (Option.some Jvm.ClassFile.FieldType.long : Option FieldType))
abbrev mL_versionOf : MD := (yL_versionOf, cL_versionOf, 4, (Option.some Jvm.ClassFile.FieldType.int : Option FieldType))
abbrev hhL_versionOf : List (Nat × Nat × Nat × Nat) := [(0, 9, 12, 37)]
abbrev mX8_versionOf : MD := (yX8_versionOf, cX8_versionOf, 2, (Option.some Jvm.ClassFile.FieldType.int : Option FieldType))
abbrev mL_versionByReplay : MD := (yL_versionByReplay, cL_versionByReplay, 4, (Option.some Jvm.ClassFile.FieldType.int : Option FieldType))
abbrev hhL_versionByReplay : List (Nat × Nat × Nat × Nat) := [(0, 9, 12, 37)]
abbrev mX8_versionByReplay : MD := (yX8_versionByReplay, cX8_versionByReplay, 2, (Option.some Jvm.ClassFile.FieldType.int : Option FieldType))
abbrev mL_versionOn : MD := (yL_versionOn, cL_versionOn, 4, (Option.some Jvm.ClassFile.FieldType.int : Option FieldType))
abbrev hhL_versionOn : List (Nat × Nat × Nat × Nat) := [(0, 9, 12, 37)]
abbrev mX8_versionOn : MD := (yX8_versionOn, cX8_versionOn, 2, (Option.some Jvm.ClassFile.FieldType.int : Option FieldType))
abbrev mL_fromIn : MD := (yL_fromIn, cL_fromIn, 5, (Option.some Jvm.ClassFile.FieldType.int : Option FieldType))
abbrev hhL_fromIn : List (Nat × Nat × Nat × Nat) := [(0, 10, 13, 37), (0, 10, 17, 20)]
abbrev mX8_fromIn : MD := (yX8_fromIn, cX8_fromIn, 4, (Option.some Jvm.ClassFile.FieldType.int : Option FieldType))
abbrev mL_waiting : MD := (yL_waiting, cL_waiting, 4, (Option.some Jvm.ClassFile.FieldType.int : Option FieldType))
abbrev hhL_waiting : List (Nat × Nat × Nat × Nat) := [(0, 9, 12, 37)]
abbrev mX8_waiting : MD := (yX8_waiting, cX8_waiting, 4, (Option.some Jvm.ClassFile.FieldType.int : Option FieldType))
abbrev mL_carried : MD := (yL_carried, cL_carried, 4, (Option.some Jvm.ClassFile.FieldType.int : Option FieldType))
abbrev hhL_carried : List (Nat × Nat × Nat × Nat) := [(0, 9, 12, 37)]
abbrev mX8_carried : MD := (yX8_carried, cX8_carried, 4, (Option.some Jvm.ClassFile.FieldType.int : Option FieldType))
abbrev mL_letterOf : MD := (yL_letterOf, cL_letterOf, 4, (Option.some Jvm.ClassFile.FieldType.int : Option FieldType))
abbrev hhL_letterOf : List (Nat × Nat × Nat × Nat) := [(0, 9, 12, 20)]
abbrev mX8_letterOf : MD := (yX8_letterOf, cX8_letterOf, 2, (Option.some Jvm.ClassFile.FieldType.char : Option FieldType))
abbrev mX8_auditOf : MD := (yX8_auditOf, cX8_auditOf, 2, (Option.some (Jvm.ClassFile.FieldType.object "Doorledger$Audit") : Option FieldType))
abbrev mL_letterByList : MD := (yL_letterByList, cL_letterByList, 4, (Option.some Jvm.ClassFile.FieldType.int : Option FieldType))
abbrev hhL_letterByList : List (Nat × Nat × Nat × Nat) := [(0, 9, 12, 20)]
abbrev mX8_letterByList : MD := (yX8_letterByList, cX8_letterByList, 2, (Option.some Jvm.ClassFile.FieldType.char : Option FieldType))
abbrev mL_minuteOf : MD := (yL_minuteOf, cL_minuteOf, 4, (Option.some Jvm.ClassFile.FieldType.int : Option FieldType))
abbrev hhL_minuteOf : List (Nat × Nat × Nat × Nat) := [(0, 9, 12, 20)]
abbrev mX8_minuteOf : MD := (yX8_minuteOf, cX8_minuteOf, 2, (Option.some Jvm.ClassFile.FieldType.int : Option FieldType))
abbrev mL_versionAt : MD := (yL_versionAt, cL_versionAt, 4, (Option.some Jvm.ClassFile.FieldType.int : Option FieldType))
abbrev hhL_versionAt : List (Nat × Nat × Nat × Nat) := [(0, 9, 12, 20)]
abbrev mX8_versionAt : MD := (yX8_versionAt, cX8_versionAt, 2, (Option.some Jvm.ClassFile.FieldType.int : Option FieldType))
abbrev mL_hasArrived : MD := (yL_hasArrived, cL_hasArrived, 4, (Option.some Jvm.ClassFile.FieldType.int : Option FieldType))
abbrev hhL_hasArrived : List (Nat × Nat × Nat × Nat) := [(0, 16, 19, 20)]
abbrev mX8_hasArrived : MD := (yX8_hasArrived, cX8_hasArrived, 2, (Option.some Jvm.ClassFile.FieldType.boolean : Option FieldType))
abbrev mL_isBreach : MD := (yL_isBreach, cL_isBreach, 4, (Option.some Jvm.ClassFile.FieldType.int : Option FieldType))
abbrev hhL_isBreach : List (Nat × Nat × Nat × Nat) := [(0, 16, 19, 20)]
abbrev mX8_isBreach : MD := (yX8_isBreach, cX8_isBreach, 2, (Option.some Jvm.ClassFile.FieldType.boolean : Option FieldType))
abbrev mL_breachesAt : MD := (yL_breachesAt, cL_breachesAt, 4, (Option.some Jvm.ClassFile.FieldType.int : Option FieldType))
abbrev hhL_breachesAt : List (Nat × Nat × Nat × Nat) := [(0, 9, 12, 37)]
abbrev mX8_breachesAt : MD := (yX8_breachesAt, cX8_breachesAt, 5, (Option.some Jvm.ClassFile.FieldType.int : Option FieldType))
abbrev mL_meanDelay : MD := (yL_meanDelay, cL_meanDelay, 3, (Option.some Jvm.ClassFile.FieldType.int : Option FieldType))
abbrev hhL_meanDelay : List (Nat × Nat × Nat × Nat) := [(0, 7, 10, 113)]
abbrev mX8_meanDelay : MD := (yX8_meanDelay, cX8_meanDelay, 1, (Option.some Jvm.ClassFile.FieldType.double : Option FieldType))
abbrev mX8_meanOfDelays : MD := (yX8_meanOfDelays, cX8_meanOfDelays, 2, (Option.some Jvm.ClassFile.FieldType.double : Option FieldType))
abbrev mX8_arrivedCount : MD := (yX8_arrivedCount, cX8_arrivedCount, 3, (Option.some Jvm.ClassFile.FieldType.int : Option FieldType))
abbrev mL_meanBits : MD := (yL_meanBits, cL_meanBits, 3, (Option.some Jvm.ClassFile.FieldType.int : Option FieldType))
abbrev hhL_meanBits : List (Nat × Nat × Nat × Nat) := [(0, 7, 10, 113)]
abbrev mX8_meanBits : MD := (yX8_meanBits, cX8_meanBits, 1, (Option.some Jvm.ClassFile.FieldType.long : Option FieldType))
abbrev mL_arrivedShare : MD := (yL_arrivedShare, cL_arrivedShare, 3, (Option.some Jvm.ClassFile.FieldType.int : Option FieldType))
abbrev hhL_arrivedShare : List (Nat × Nat × Nat × Nat) := [(0, 8, 11, 113)]
abbrev mX8_arrivedShare : MD := (yX8_arrivedShare, cX8_arrivedShare, 2, (Option.some Jvm.ClassFile.FieldType.float : Option FieldType))
abbrev mX9_init : MD := (yX9_init, cX9_init, 1, (Option.none : Option FieldType))
abbrev mX9_thrown : MD := (yX9_thrown, cX9_thrown, 1, (Option.some Jvm.ClassFile.FieldType.int : Option FieldType))
abbrev mX9_addKey : MD := (yX9_addKey, cX9_addKey, 5, (Option.some Jvm.ClassFile.FieldType.int : Option FieldType))
abbrev mX9_isBetween : MD := (yX9_isBetween, cX9_isBetween, 3, (Option.some Jvm.ClassFile.FieldType.boolean : Option FieldType))
abbrev mX9_areTimes : MD := (yX9_areTimes, cX9_areTimes, 2, (Option.some Jvm.ClassFile.FieldType.boolean : Option FieldType))
abbrev mX9_fails : MD := (yX9_fails, cX9_fails, 2, (Option.some Jvm.ClassFile.FieldType.int : Option FieldType))
abbrev mX9_changes : MD := (yX9_changes, cX9_changes, 3, (Option.none : Option FieldType))
abbrev mX9_setTimes : MD := (yX9_setTimes, cX9_setTimes, 4, (Option.some Jvm.ClassFile.FieldType.int : Option FieldType))
abbrev mX9_isKey : MD := (yX9_isKey, cX9_isKey, 2, (Option.some Jvm.ClassFile.FieldType.boolean : Option FieldType))
abbrev mX9_isStuck : MD := (yX9_isStuck, cX9_isStuck, 2, (Option.some Jvm.ClassFile.FieldType.boolean : Option FieldType))
abbrev mX9_setDoors : MD := (yX9_setDoors, cX9_setDoors, 3, (Option.some Jvm.ClassFile.FieldType.int : Option FieldType))
abbrev mX9_revoke : MD := (yX9_revoke, cX9_revoke, 2, (Option.some Jvm.ClassFile.FieldType.int : Option FieldType))
abbrev mX9_version : MD := (yX9_version, cX9_version, 1, (Option.some Jvm.ClassFile.FieldType.int : Option FieldType))
abbrev mX9_addDoor : MD := (yX9_addDoor, cX9_addDoor, 1, (Option.some Jvm.ClassFile.FieldType.int : Option FieldType))
abbrev mX9_setRate : MD := (yX9_setRate, cX9_setRate, 3, (Option.some Jvm.ClassFile.FieldType.int : Option FieldType))
abbrev mX9_isDoor : MD := (yX9_isDoor, cX9_isDoor, 2, (Option.some Jvm.ClassFile.FieldType.boolean : Option FieldType))
abbrev mX9_clockOf : MD := (yX9_clockOf, cX9_clockOf, 2, (Option.some Jvm.ClassFile.FieldType.int : Option FieldType))
abbrev mX9_driftedOf : MD := (yX9_driftedOf, cX9_driftedOf, 2, (Option.some Jvm.ClassFile.FieldType.float : Option FieldType))
abbrev mX9_sets : MD := (yX9_sets, cX9_sets, 3, (Option.none : Option FieldType))
abbrev mX9_addPhone : MD := (yX9_addPhone, cX9_addPhone, 1, (Option.some Jvm.ClassFile.FieldType.int : Option FieldType))
abbrev mX9_pass : MD := (yX9_pass, cX9_pass, 2, (Option.some Jvm.ClassFile.FieldType.int : Option FieldType))
abbrev mX9_time : MD := (yX9_time, cX9_time, 1, (Option.some Jvm.ClassFile.FieldType.int : Option FieldType))
abbrev mX9_meetCloud : MD := (yX9_meetCloud, cX9_meetCloud, 4, (Option.some Jvm.ClassFile.FieldType.int : Option FieldType))
abbrev mX9_isPhone : MD := (yX9_isPhone, cX9_isPhone, 2, (Option.some Jvm.ClassFile.FieldType.boolean : Option FieldType))
abbrev mX9_meetDoor : MD := (yX9_meetDoor, cX9_meetDoor, 5, (Option.some Jvm.ClassFile.FieldType.int : Option FieldType))
abbrev mX9_open : MD := (yX9_open, cX9_open, 3, (Option.some Jvm.ClassFile.FieldType.char : Option FieldType))
abbrev mX9_isNone : MD := (yX9_isNone, cX9_isNone, 3, (Option.some Jvm.ClassFile.FieldType.boolean : Option FieldType))
abbrev mX9_letter : MD := (yX9_letter, cX9_letter, 5, (Option.some Jvm.ClassFile.FieldType.char : Option FieldType))
abbrev mX9_answer : MD := (yX9_answer, cX9_answer, 3, (Option.some Jvm.ClassFile.FieldType.char : Option FieldType))
abbrev mX9_clock : MD := (yX9_clock, cX9_clock, 2, (Option.some Jvm.ClassFile.FieldType.int : Option FieldType))
abbrev mX9_isNowhere : MD := (yX9_isNowhere, cX9_isNowhere, 2, (Option.some Jvm.ClassFile.FieldType.boolean : Option FieldType))
abbrev mX9_drifted : MD := (yX9_drifted, cX9_drifted, 2, (Option.some Jvm.ClassFile.FieldType.float : Option FieldType))
abbrev mX9_driftedBits : MD := (yX9_driftedBits, cX9_driftedBits, 2, (Option.some Jvm.ClassFile.FieldType.int : Option FieldType))
abbrev mJxf58ca_floatToIntBits_5c35a : MD := (yJxf58ca_floatToIntBits_5c35a, cJxf58ca_floatToIntBits_5c35a, 1, (Option.some Jvm.ClassFile.FieldType.int : Option FieldType))
abbrev mJxf58ca_isNaN_12338 : MD := (yJxf58ca_isNaN_12338, cJxf58ca_isNaN_12338, 1, (Option.some Jvm.ClassFile.FieldType.boolean : Option FieldType))
abbrev mX9_versionOf : MD := (yX9_versionOf, cX9_versionOf, 2, (Option.some Jvm.ClassFile.FieldType.int : Option FieldType))
abbrev mX9_versionByReplay : MD := (yX9_versionByReplay, cX9_versionByReplay, 2, (Option.some Jvm.ClassFile.FieldType.int : Option FieldType))
abbrev mX9_versionOn : MD := (yX9_versionOn, cX9_versionOn, 2, (Option.some Jvm.ClassFile.FieldType.int : Option FieldType))
abbrev mX9_fromIn : MD := (yX9_fromIn, cX9_fromIn, 3, (Option.some Jvm.ClassFile.FieldType.int : Option FieldType))
abbrev mX9_waiting : MD := (yX9_waiting, cX9_waiting, 4, (Option.some Jvm.ClassFile.FieldType.int : Option FieldType))
abbrev mX9_carried : MD := (yX9_carried, cX9_carried, 4, (Option.some Jvm.ClassFile.FieldType.int : Option FieldType))
abbrev mX9_audits : MD := (yX9_audits, cX9_audits, 1, (Option.some Jvm.ClassFile.FieldType.int : Option FieldType))
abbrev mX9_letterOf : MD := (yX9_letterOf, cX9_letterOf, 2, (Option.some Jvm.ClassFile.FieldType.char : Option FieldType))
abbrev mX9_isNoAudit : MD := (yX9_isNoAudit, cX9_isNoAudit, 2, (Option.some Jvm.ClassFile.FieldType.boolean : Option FieldType))
abbrev mX9_isAudit : MD := (yX9_isAudit, cX9_isAudit, 2, (Option.some Jvm.ClassFile.FieldType.boolean : Option FieldType))
abbrev mX9_letterByList : MD := (yX9_letterByList, cX9_letterByList, 2, (Option.some Jvm.ClassFile.FieldType.char : Option FieldType))
abbrev mX9_minuteOf : MD := (yX9_minuteOf, cX9_minuteOf, 2, (Option.some Jvm.ClassFile.FieldType.int : Option FieldType))
abbrev mX9_versionAt : MD := (yX9_versionAt, cX9_versionAt, 2, (Option.some Jvm.ClassFile.FieldType.int : Option FieldType))
abbrev mX9_hasArrived : MD := (yX9_hasArrived, cX9_hasArrived, 2, (Option.some Jvm.ClassFile.FieldType.boolean : Option FieldType))
abbrev mX9_isBreach : MD := (yX9_isBreach, cX9_isBreach, 2, (Option.some Jvm.ClassFile.FieldType.boolean : Option FieldType))
abbrev mX9_isBroken : MD := (yX9_isBroken, cX9_isBroken, 3, (Option.some Jvm.ClassFile.FieldType.boolean : Option FieldType))
abbrev mX9_breaches : MD := (yX9_breaches, cX9_breaches, 3, (Option.some Jvm.ClassFile.FieldType.int : Option FieldType))
abbrev mX9_breachesAt : MD := (yX9_breachesAt, cX9_breachesAt, 4, (Option.some Jvm.ClassFile.FieldType.int : Option FieldType))
abbrev mX9_delays : MD := (yX9_delays, cX9_delays, 1, (Option.some Jvm.ClassFile.FieldType.long : Option FieldType))
abbrev mX9_delaySum : MD := (yX9_delaySum, cX9_delaySum, 4, (Option.some Jvm.ClassFile.FieldType.long : Option FieldType))
abbrev mX9_meanDelay : MD := (yX9_meanDelay, cX9_meanDelay, 1, (Option.some Jvm.ClassFile.FieldType.double : Option FieldType))
abbrev mX9_mean : MD := (yX9_mean, cX9_mean, 1, (Option.some Jvm.ClassFile.FieldType.double : Option FieldType))
abbrev mX9_arrivedMany : MD := (yX9_arrivedMany, cX9_arrivedMany, 3, (Option.some Jvm.ClassFile.FieldType.int : Option FieldType))
abbrev mX9_meanBits : MD := (yX9_meanBits, cX9_meanBits, 1, (Option.some Jvm.ClassFile.FieldType.long : Option FieldType))
abbrev mJxe99ae_doubleToLongBits_ccdee : MD := (yJxe99ae_doubleToLongBits_ccdee, cJxe99ae_doubleToLongBits_ccdee, 2, (Option.some Jvm.ClassFile.FieldType.long : Option FieldType))
abbrev mJxe99ae_isNaN_b9ae7 : MD := (yJxe99ae_isNaN_b9ae7, cJxe99ae_isNaN_b9ae7, 2, (Option.some Jvm.ClassFile.FieldType.boolean : Option FieldType))
abbrev mX9_arrivedShare : MD := (yX9_arrivedShare, cX9_arrivedShare, 1, (Option.some Jvm.ClassFile.FieldType.float : Option FieldType))
abbrev mX9_isSound : MD := (yX9_isSound, cX9_isSound, 1, (Option.some Jvm.ClassFile.FieldType.boolean : Option FieldType))
theorem kiX8_init : KI mX8_init 0 := ⟨(List.mem_of_getElem? (i := 70) (by decide +kernel)), (List.mem_of_getElem? (i := 35) (by decide +kernel)), (List.mem_of_getElem? (i := 71) (by decide +kernel)), ⟨by decide +kernel, by decide +kernel⟩, by decide +kernel, by decide, rfl, rfl⟩
theorem kiX2_init : KI mX2_init 0 := ⟨(List.mem_of_getElem? (i := 78) (by decide +kernel)), (List.mem_of_getElem? (i := 36) (by decide +kernel)), (List.mem_of_getElem? (i := 79) (by decide +kernel)), ⟨by decide +kernel, by decide +kernel⟩, by decide +kernel, by decide, rfl, rfl⟩
theorem kiJx4a65c_init_da8c8 : KI mJx4a65c_init_da8c8 0 := ⟨(List.mem_of_getElem? (i := 84) (by decide +kernel)), (List.mem_of_getElem? (i := 39) (by decide +kernel)), (List.mem_of_getElem? (i := 85) (by decide +kernel)), ⟨by decide +kernel, by decide +kernel⟩, by decide +kernel, by decide, rfl, rfl⟩
theorem kiJxc12de_init_da8c8 : KI mJxc12de_init_da8c8 0 := ⟨(List.mem_of_getElem? (i := 87) (by decide +kernel)), (List.mem_of_getElem? (i := 38) (by decide +kernel)), (List.mem_of_getElem? (i := 88) (by decide +kernel)), ⟨by decide +kernel, by decide +kernel⟩, by decide +kernel, by decide, rfl, rfl⟩
theorem kiJxa1e45_init_da8c8 : KI mJxa1e45_init_da8c8 0 := ⟨(List.mem_of_getElem? (i := 90) (by decide +kernel)), (List.mem_of_getElem? (i := 37) (by decide +kernel)), (List.mem_of_getElem? (i := 91) (by decide +kernel)), ⟨by decide +kernel, by decide +kernel⟩, by decide +kernel, by decide, rfl, rfl⟩
theorem kiX6_init : KI mX6_init 0 := ⟨(List.mem_of_getElem? (i := 120) (by decide +kernel)), (List.mem_of_getElem? (i := 40) (by decide +kernel)), (List.mem_of_getElem? (i := 121) (by decide +kernel)), ⟨by decide +kernel, by decide +kernel⟩, by decide +kernel, by decide, rfl, rfl⟩
theorem kvX8_version : KV mX8_version 0 := ⟨(List.mem_of_getElem? (i := 153) (by decide +kernel)), (List.mem_of_getElem? (i := 154) (by decide +kernel)), (List.mem_of_getElem? (i := 35) (by decide +kernel)), (List.mem_of_getElem? (i := 155) (by decide +kernel)), ⟨by decide +kernel, by decide +kernel⟩, by decide +kernel, by decide⟩
theorem kvX2_newest : KV mX2_newest 0 := ⟨(List.mem_of_getElem? (i := 157) (by decide +kernel)), (List.mem_of_getElem? (i := 158) (by decide +kernel)), (List.mem_of_getElem? (i := 36) (by decide +kernel)), (List.mem_of_getElem? (i := 159) (by decide +kernel)), ⟨by decide +kernel, by decide +kernel⟩, by decide +kernel, by decide⟩
theorem kvJx4a65c_size_8abf5 : KV mJx4a65c_size_8abf5 0 := ⟨(List.mem_of_getElem? (i := 161) (by decide +kernel)), (List.mem_of_getElem? (i := 162) (by decide +kernel)), (List.mem_of_getElem? (i := 39) (by decide +kernel)), (List.mem_of_getElem? (i := 163) (by decide +kernel)), ⟨by decide +kernel, by decide +kernel⟩, by decide +kernel, by decide⟩
theorem kvX8_time : KV mX8_time 0 := ⟨(List.mem_of_getElem? (i := 165) (by decide +kernel)), (List.mem_of_getElem? (i := 166) (by decide +kernel)), (List.mem_of_getElem? (i := 35) (by decide +kernel)), (List.mem_of_getElem? (i := 167) (by decide +kernel)), ⟨by decide +kernel, by decide +kernel⟩, by decide +kernel, by decide⟩
theorem kvX8_audits : KV mX8_audits 0 := ⟨(List.mem_of_getElem? (i := 169) (by decide +kernel)), (List.mem_of_getElem? (i := 170) (by decide +kernel)), (List.mem_of_getElem? (i := 35) (by decide +kernel)), (List.mem_of_getElem? (i := 171) (by decide +kernel)), ⟨by decide +kernel, by decide +kernel⟩, by decide +kernel, by decide⟩
theorem kvX8_breaches : KV mX8_breaches 0 := ⟨(List.mem_of_getElem? (i := 174) (by decide +kernel)), (List.mem_of_getElem? (i := 175) (by decide +kernel)), (List.mem_of_getElem? (i := 35) (by decide +kernel)), (List.mem_of_getElem? (i := 176) (by decide +kernel)), ⟨by decide +kernel, by decide +kernel⟩, by decide +kernel, by decide⟩
theorem kvJx4a65c_get_915e3 : KV mJx4a65c_get_915e3 1 := ⟨(List.mem_of_getElem? (i := 178) (by decide +kernel)), (List.mem_of_getElem? (i := 179) (by decide +kernel)), (List.mem_of_getElem? (i := 39) (by decide +kernel)), (List.mem_of_getElem? (i := 180) (by decide +kernel)), ⟨by decide +kernel, by decide +kernel⟩, by decide +kernel, by decide⟩
theorem ksJ15_checkIndex_7cf53 : KS mJ15_checkIndex_7cf53 2 := ⟨(List.mem_of_getElem? (i := 182) (by decide +kernel)), (List.mem_of_getElem? (i := 52) (by decide +kernel)), (List.mem_of_getElem? (i := 183) (by decide +kernel)), ⟨by decide +kernel, by decide +kernel⟩, by decide +kernel, by decide⟩
theorem ksJ3_checkIndex_8e157 : KS mJ3_checkIndex_8e157 3 := ⟨(List.mem_of_getElem? (i := 185) (by decide +kernel)), (List.mem_of_getElem? (i := 53) (by decide +kernel)), (List.mem_of_getElem? (i := 186) (by decide +kernel)), ⟨by decide +kernel, by decide +kernel⟩, by decide +kernel, by decide⟩
theorem kvJx4a65c_elementData_915e3 : KV mJx4a65c_elementData_915e3 1 := ⟨(List.mem_of_getElem? (i := 188) (by decide +kernel)), (List.mem_of_getElem? (i := 189) (by decide +kernel)), (List.mem_of_getElem? (i := 39) (by decide +kernel)), (List.mem_of_getElem? (i := 190) (by decide +kernel)), ⟨by decide +kernel, by decide +kernel⟩, by decide +kernel, by decide⟩
theorem kvX8_isToldAsBreach : KV mX8_isToldAsBreach 1 := ⟨(List.mem_of_getElem? (i := 194) (by decide +kernel)), (List.mem_of_getElem? (i := 0) (by decide +kernel)), (List.mem_of_getElem? (i := 35) (by decide +kernel)), (List.mem_of_getElem? (i := 195) (by decide +kernel)), ⟨by decide +kernel, by decide +kernel⟩, by decide +kernel, by decide⟩
theorem kvX0_isInCloud : KV mX0_isInCloud 0 := ⟨(List.mem_of_getElem? (i := 197) (by decide +kernel)), (List.mem_of_getElem? (i := 198) (by decide +kernel)), (List.mem_of_getElem? (i := 61) (by decide +kernel)), (List.mem_of_getElem? (i := 199) (by decide +kernel)), ⟨by decide +kernel, by decide +kernel⟩, by decide +kernel, by decide⟩
theorem kvX2_newestAt : KV mX2_newestAt 1 := ⟨(List.mem_of_getElem? (i := 201) (by decide +kernel)), (List.mem_of_getElem? (i := 202) (by decide +kernel)), (List.mem_of_getElem? (i := 36) (by decide +kernel)), (List.mem_of_getElem? (i := 203) (by decide +kernel)), ⟨by decide +kernel, by decide +kernel⟩, by decide +kernel, by decide⟩
theorem kvX2_letterIn : KV mX2_letterIn 4 := ⟨(List.mem_of_getElem? (i := 207) (by decide +kernel)), (List.mem_of_getElem? (i := 208) (by decide +kernel)), (List.mem_of_getElem? (i := 36) (by decide +kernel)), (List.mem_of_getElem? (i := 209) (by decide +kernel)), ⟨by decide +kernel, by decide +kernel⟩, by decide +kernel, by decide⟩
theorem kvX2_keyIn : KV mX2_keyIn 2 := ⟨(List.mem_of_getElem? (i := 211) (by decide +kernel)), (List.mem_of_getElem? (i := 212) (by decide +kernel)), (List.mem_of_getElem? (i := 36) (by decide +kernel)), (List.mem_of_getElem? (i := 213) (by decide +kernel)), ⟨by decide +kernel, by decide +kernel⟩, by decide +kernel, by decide⟩
theorem ksJ9_min_7cf53 : KS mJ9_min_7cf53 2 := ⟨(List.mem_of_getElem? (i := 215) (by decide +kernel)), (List.mem_of_getElem? (i := 49) (by decide +kernel)), (List.mem_of_getElem? (i := 216) (by decide +kernel)), ⟨by decide +kernel, by decide +kernel⟩, by decide +kernel, by decide⟩
theorem kvX4_letterAt : KV mX4_letterAt 2 := ⟨(List.mem_of_getElem? (i := 218) (by decide +kernel)), (List.mem_of_getElem? (i := 219) (by decide +kernel)), (List.mem_of_getElem? (i := 47) (by decide +kernel)), (List.mem_of_getElem? (i := 220) (by decide +kernel)), ⟨by decide +kernel, by decide +kernel⟩, by decide +kernel, by decide⟩
theorem kvX8_delays : KV mX8_delays 0 := ⟨(List.mem_of_getElem? (i := 222) (by decide +kernel)), (List.mem_of_getElem? (i := 223) (by decide +kernel)), (List.mem_of_getElem? (i := 35) (by decide +kernel)), (List.mem_of_getElem? (i := 224) (by decide +kernel)), ⟨by decide +kernel, by decide +kernel⟩, by decide +kernel, by decide⟩
theorem kvX8_isSound : KV mX8_isSound 0 := ⟨(List.mem_of_getElem? (i := 226) (by decide +kernel)), (List.mem_of_getElem? (i := 227) (by decide +kernel)), (List.mem_of_getElem? (i := 35) (by decide +kernel)), (List.mem_of_getElem? (i := 228) (by decide +kernel)), ⟨by decide +kernel, by decide +kernel⟩, by decide +kernel, by decide⟩
theorem kvX8_areDoorsSound : KV mX8_areDoorsSound 0 := ⟨(List.mem_of_getElem? (i := 231) (by decide +kernel)), (List.mem_of_getElem? (i := 1) (by decide +kernel)), (List.mem_of_getElem? (i := 35) (by decide +kernel)), (List.mem_of_getElem? (i := 232) (by decide +kernel)), ⟨by decide +kernel, by decide +kernel⟩, by decide +kernel, by decide⟩
theorem kvX6_replay : KV mX6_replay 2 := ⟨(List.mem_of_getElem? (i := 235) (by decide +kernel)), (List.mem_of_getElem? (i := 236) (by decide +kernel)), (List.mem_of_getElem? (i := 40) (by decide +kernel)), (List.mem_of_getElem? (i := 237) (by decide +kernel)), ⟨by decide +kernel, by decide +kernel⟩, by decide +kernel, by decide⟩
theorem ksJ7_fill_53178 : KS mJ7_fill_53178 2 := ⟨(List.mem_of_getElem? (i := 239) (by decide +kernel)), (List.mem_of_getElem? (i := 50) (by decide +kernel)), (List.mem_of_getElem? (i := 240) (by decide +kernel)), ⟨by decide +kernel, by decide +kernel⟩, by decide +kernel, by decide⟩
theorem ksJ9_max_7cf53 : KS mJ9_max_7cf53 2 := ⟨(List.mem_of_getElem? (i := 245) (by decide +kernel)), (List.mem_of_getElem? (i := 49) (by decide +kernel)), (List.mem_of_getElem? (i := 246) (by decide +kernel)), ⟨by decide +kernel, by decide +kernel⟩, by decide +kernel, by decide⟩
theorem kvX8_arePhonesSound : KV mX8_arePhonesSound 0 := ⟨(List.mem_of_getElem? (i := 249) (by decide +kernel)), (List.mem_of_getElem? (i := 2) (by decide +kernel)), (List.mem_of_getElem? (i := 35) (by decide +kernel)), (List.mem_of_getElem? (i := 250) (by decide +kernel)), ⟨by decide +kernel, by decide +kernel⟩, by decide +kernel, by decide⟩
theorem kvX8_areAuditsSound : KV mX8_areAuditsSound 0 := ⟨(List.mem_of_getElem? (i := 254) (by decide +kernel)), (List.mem_of_getElem? (i := 3) (by decide +kernel)), (List.mem_of_getElem? (i := 35) (by decide +kernel)), (List.mem_of_getElem? (i := 255) (by decide +kernel)), ⟨by decide +kernel, by decide +kernel⟩, by decide +kernel, by decide⟩
theorem kvX8_letterAgain : KV mX8_letterAgain 1 := ⟨(List.mem_of_getElem? (i := 258) (by decide +kernel)), (List.mem_of_getElem? (i := 4) (by decide +kernel)), (List.mem_of_getElem? (i := 35) (by decide +kernel)), (List.mem_of_getElem? (i := 259) (by decide +kernel)), ⟨by decide +kernel, by decide +kernel⟩, by decide +kernel, by decide⟩
theorem kwL_addKey : KW mL_addKey hhL_addKey 5 := ⟨(List.mem_of_getElem? (i := 261) (by decide +kernel)), (List.mem_of_getElem? (i := 34) (by decide +kernel)), (List.mem_of_getElem? (i := 262) (by decide +kernel)), ⟨by decide +kernel, by decide +kernel⟩, by decide +kernel, by decide⟩
theorem kvX8_addKey : KV mX8_addKey 3 := ⟨(List.mem_of_getElem? (i := 266) (by decide +kernel)), (List.mem_of_getElem? (i := 267) (by decide +kernel)), (List.mem_of_getElem? (i := 35) (by decide +kernel)), (List.mem_of_getElem? (i := 268) (by decide +kernel)), ⟨by decide +kernel, by decide +kernel⟩, by decide +kernel, by decide⟩
theorem ksX8_checkDoorSet : KS mX8_checkDoorSet 1 := ⟨(List.mem_of_getElem? (i := 270) (by decide +kernel)), (List.mem_of_getElem? (i := 35) (by decide +kernel)), (List.mem_of_getElem? (i := 271) (by decide +kernel)), ⟨by decide +kernel, by decide +kernel⟩, by decide +kernel, by decide⟩
theorem ksX8_checkTimes : KS mX8_checkTimes 2 := ⟨(List.mem_of_getElem? (i := 344) (by decide +kernel)), (List.mem_of_getElem? (i := 35) (by decide +kernel)), (List.mem_of_getElem? (i := 345) (by decide +kernel)), ⟨by decide +kernel, by decide +kernel⟩, by decide +kernel, by decide⟩
theorem kvX8_checkRoomForChange : KV mX8_checkRoomForChange 0 := ⟨(List.mem_of_getElem? (i := 366) (by decide +kernel)), (List.mem_of_getElem? (i := 6) (by decide +kernel)), (List.mem_of_getElem? (i := 35) (by decide +kernel)), (List.mem_of_getElem? (i := 367) (by decide +kernel)), ⟨by decide +kernel, by decide +kernel⟩, by decide +kernel, by decide⟩
theorem kiX4_init : KI mX4_init 6 := ⟨(List.mem_of_getElem? (i := 372) (by decide +kernel)), (List.mem_of_getElem? (i := 47) (by decide +kernel)), (List.mem_of_getElem? (i := 373) (by decide +kernel)), ⟨by decide +kernel, by decide +kernel⟩, by decide +kernel, by decide, rfl, rfl⟩
theorem kvX2_keep : KV mX2_keep 1 := ⟨(List.mem_of_getElem? (i := 401) (by decide +kernel)), (List.mem_of_getElem? (i := 402) (by decide +kernel)), (List.mem_of_getElem? (i := 36) (by decide +kernel)), (List.mem_of_getElem? (i := 403) (by decide +kernel)), ⟨by decide +kernel, by decide +kernel⟩, by decide +kernel, by decide⟩
theorem kvJx4a65c_add_9ea2d : KV mJx4a65c_add_9ea2d 1 := ⟨(List.mem_of_getElem? (i := 405) (by decide +kernel)), (List.mem_of_getElem? (i := 406) (by decide +kernel)), (List.mem_of_getElem? (i := 39) (by decide +kernel)), (List.mem_of_getElem? (i := 407) (by decide +kernel)), ⟨by decide +kernel, by decide +kernel⟩, by decide +kernel, by decide⟩
theorem kvJx4a65c_add_72be8 : KV mJx4a65c_add_72be8 3 := ⟨(List.mem_of_getElem? (i := 410) (by decide +kernel)), (List.mem_of_getElem? (i := 7) (by decide +kernel)), (List.mem_of_getElem? (i := 39) (by decide +kernel)), (List.mem_of_getElem? (i := 411) (by decide +kernel)), ⟨by decide +kernel, by decide +kernel⟩, by decide +kernel, by decide⟩
theorem kvJx4a65c_grow_d5877 : KV mJx4a65c_grow_d5877 0 := ⟨(List.mem_of_getElem? (i := 414) (by decide +kernel)), (List.mem_of_getElem? (i := 8) (by decide +kernel)), (List.mem_of_getElem? (i := 39) (by decide +kernel)), (List.mem_of_getElem? (i := 415) (by decide +kernel)), ⟨by decide +kernel, by decide +kernel⟩, by decide +kernel, by decide⟩
theorem kvJx4a65c_grow_92f84 : KV mJx4a65c_grow_92f84 1 := ⟨(List.mem_of_getElem? (i := 418) (by decide +kernel)), (List.mem_of_getElem? (i := 9) (by decide +kernel)), (List.mem_of_getElem? (i := 39) (by decide +kernel)), (List.mem_of_getElem? (i := 419) (by decide +kernel)), ⟨by decide +kernel, by decide +kernel⟩, by decide +kernel, by decide⟩
theorem ksJ8_newLength_cabcc : KS mJ8_newLength_cabcc 3 := ⟨(List.mem_of_getElem? (i := 421) (by decide +kernel)), (List.mem_of_getElem? (i := 48) (by decide +kernel)), (List.mem_of_getElem? (i := 422) (by decide +kernel)), ⟨by decide +kernel, by decide +kernel⟩, by decide +kernel, by decide⟩
theorem ksJ8_hugeLength_7cf53 : KS mJ8_hugeLength_7cf53 2 := ⟨(List.mem_of_getElem? (i := 426) (by decide +kernel)), (List.mem_of_getElem? (i := 48) (by decide +kernel)), (List.mem_of_getElem? (i := 427) (by decide +kernel)), ⟨by decide +kernel, by decide +kernel⟩, by decide +kernel, by decide⟩
theorem ksJ7_copyOf_1904c : KS mJ7_copyOf_1904c 2 := ⟨(List.mem_of_getElem? (i := 429) (by decide +kernel)), (List.mem_of_getElem? (i := 50) (by decide +kernel)), (List.mem_of_getElem? (i := 430) (by decide +kernel)), ⟨by decide +kernel, by decide +kernel⟩, by decide +kernel, by decide⟩
theorem ksJ7_copyOf_6403c : KS mJ7_copyOf_6403c 3 := ⟨(List.mem_of_getElem? (i := 452) (by decide +kernel)), (List.mem_of_getElem? (i := 50) (by decide +kernel)), (List.mem_of_getElem? (i := 453) (by decide +kernel)), ⟨by decide +kernel, by decide +kernel⟩, by decide +kernel, by decide⟩
theorem kwL_setTimes : KW mL_setTimes hhL_setTimes 5 := ⟨(List.mem_of_getElem? (i := 464) (by decide +kernel)), (List.mem_of_getElem? (i := 34) (by decide +kernel)), (List.mem_of_getElem? (i := 465) (by decide +kernel)), ⟨by decide +kernel, by decide +kernel⟩, by decide +kernel, by decide⟩
theorem kvX8_setTimes : KV mX8_setTimes 3 := ⟨(List.mem_of_getElem? (i := 468) (by decide +kernel)), (List.mem_of_getElem? (i := 469) (by decide +kernel)), (List.mem_of_getElem? (i := 35) (by decide +kernel)), (List.mem_of_getElem? (i := 470) (by decide +kernel)), ⟨by decide +kernel, by decide +kernel⟩, by decide +kernel, by decide⟩
theorem kvX8_presentKey : KV mX8_presentKey 1 := ⟨(List.mem_of_getElem? (i := 473) (by decide +kernel)), (List.mem_of_getElem? (i := 10) (by decide +kernel)), (List.mem_of_getElem? (i := 35) (by decide +kernel)), (List.mem_of_getElem? (i := 474) (by decide +kernel)), ⟨by decide +kernel, by decide +kernel⟩, by decide +kernel, by decide⟩
theorem ksX8_checkNotRevoked : KS mX8_checkNotRevoked 1 := ⟨(List.mem_of_getElem? (i := 493) (by decide +kernel)), (List.mem_of_getElem? (i := 35) (by decide +kernel)), (List.mem_of_getElem? (i := 494) (by decide +kernel)), ⟨by decide +kernel, by decide +kernel⟩, by decide +kernel, by decide⟩
theorem kwL_setDoors : KW mL_setDoors hhL_setDoors 4 := ⟨(List.mem_of_getElem? (i := 497) (by decide +kernel)), (List.mem_of_getElem? (i := 34) (by decide +kernel)), (List.mem_of_getElem? (i := 498) (by decide +kernel)), ⟨by decide +kernel, by decide +kernel⟩, by decide +kernel, by decide⟩
theorem kvX8_setDoors : KV mX8_setDoors 2 := ⟨(List.mem_of_getElem? (i := 500) (by decide +kernel)), (List.mem_of_getElem? (i := 501) (by decide +kernel)), (List.mem_of_getElem? (i := 35) (by decide +kernel)), (List.mem_of_getElem? (i := 502) (by decide +kernel)), ⟨by decide +kernel, by decide +kernel⟩, by decide +kernel, by decide⟩
theorem kwL_revoke : KW mL_revoke hhL_revoke 3 := ⟨(List.mem_of_getElem? (i := 504) (by decide +kernel)), (List.mem_of_getElem? (i := 34) (by decide +kernel)), (List.mem_of_getElem? (i := 505) (by decide +kernel)), ⟨by decide +kernel, by decide +kernel⟩, by decide +kernel, by decide⟩
theorem kvX8_revoke : KV mX8_revoke 1 := ⟨(List.mem_of_getElem? (i := 507) (by decide +kernel)), (List.mem_of_getElem? (i := 508) (by decide +kernel)), (List.mem_of_getElem? (i := 35) (by decide +kernel)), (List.mem_of_getElem? (i := 509) (by decide +kernel)), ⟨by decide +kernel, by decide +kernel⟩, by decide +kernel, by decide⟩
theorem kwL_addDoor : KW mL_addDoor hhL_addDoor 2 := ⟨(List.mem_of_getElem? (i := 511) (by decide +kernel)), (List.mem_of_getElem? (i := 34) (by decide +kernel)), (List.mem_of_getElem? (i := 512) (by decide +kernel)), ⟨by decide +kernel, by decide +kernel⟩, by decide +kernel, by decide⟩
theorem kvX8_addDoor : KV mX8_addDoor 0 := ⟨(List.mem_of_getElem? (i := 514) (by decide +kernel)), (List.mem_of_getElem? (i := 515) (by decide +kernel)), (List.mem_of_getElem? (i := 35) (by decide +kernel)), (List.mem_of_getElem? (i := 516) (by decide +kernel)), ⟨by decide +kernel, by decide +kernel⟩, by decide +kernel, by decide⟩
theorem kiX3_init : KI mX3_init 2 := ⟨(List.mem_of_getElem? (i := 520) (by decide +kernel)), (List.mem_of_getElem? (i := 55) (by decide +kernel)), (List.mem_of_getElem? (i := 521) (by decide +kernel)), ⟨by decide +kernel, by decide +kernel⟩, by decide +kernel, by decide, rfl, rfl⟩
theorem kwL_setRate : KW mL_setRate hhL_setRate 4 := ⟨(List.mem_of_getElem? (i := 544) (by decide +kernel)), (List.mem_of_getElem? (i := 34) (by decide +kernel)), (List.mem_of_getElem? (i := 545) (by decide +kernel)), ⟨by decide +kernel, by decide +kernel⟩, by decide +kernel, by decide⟩
theorem kiJx00060_init_a7421 : KI mJx00060_init_a7421 1 := ⟨(List.mem_of_getElem? (i := 548) (by decide +kernel)), (List.mem_of_getElem? (i := 57) (by decide +kernel)), (List.mem_of_getElem? (i := 549) (by decide +kernel)), ⟨by decide +kernel, by decide +kernel⟩, by decide +kernel, by decide, rfl, rfl⟩
theorem kvX8_setRate : KV mX8_setRate 2 := ⟨(List.mem_of_getElem? (i := 571) (by decide +kernel)), (List.mem_of_getElem? (i := 572) (by decide +kernel)), (List.mem_of_getElem? (i := 35) (by decide +kernel)), (List.mem_of_getElem? (i := 573) (by decide +kernel)), ⟨by decide +kernel, by decide +kernel⟩, by decide +kernel, by decide⟩
theorem kvX8_doorOf : KV mX8_doorOf 1 := ⟨(List.mem_of_getElem? (i := 576) (by decide +kernel)), (List.mem_of_getElem? (i := 11) (by decide +kernel)), (List.mem_of_getElem? (i := 35) (by decide +kernel)), (List.mem_of_getElem? (i := 577) (by decide +kernel)), ⟨by decide +kernel, by decide +kernel⟩, by decide +kernel, by decide⟩
theorem kvX3_minuteAt : KV mX3_minuteAt 1 := ⟨(List.mem_of_getElem? (i := 593) (by decide +kernel)), (List.mem_of_getElem? (i := 594) (by decide +kernel)), (List.mem_of_getElem? (i := 55) (by decide +kernel)), (List.mem_of_getElem? (i := 595) (by decide +kernel)), ⟨by decide +kernel, by decide +kernel⟩, by decide +kernel, by decide⟩
theorem kvX3_driftAt : KV mX3_driftAt 1 := ⟨(List.mem_of_getElem? (i := 597) (by decide +kernel)), (List.mem_of_getElem? (i := 598) (by decide +kernel)), (List.mem_of_getElem? (i := 55) (by decide +kernel)), (List.mem_of_getElem? (i := 599) (by decide +kernel)), ⟨by decide +kernel, by decide +kernel⟩, by decide +kernel, by decide⟩
theorem kvX3_setClock : KV mX3_setClock 2 := ⟨(List.mem_of_getElem? (i := 601) (by decide +kernel)), (List.mem_of_getElem? (i := 602) (by decide +kernel)), (List.mem_of_getElem? (i := 55) (by decide +kernel)), (List.mem_of_getElem? (i := 603) (by decide +kernel)), ⟨by decide +kernel, by decide +kernel⟩, by decide +kernel, by decide⟩
theorem kwL_addPhone : KW mL_addPhone hhL_addPhone 2 := ⟨(List.mem_of_getElem? (i := 606) (by decide +kernel)), (List.mem_of_getElem? (i := 34) (by decide +kernel)), (List.mem_of_getElem? (i := 607) (by decide +kernel)), ⟨by decide +kernel, by decide +kernel⟩, by decide +kernel, by decide⟩
theorem kvX8_addPhone : KV mX8_addPhone 0 := ⟨(List.mem_of_getElem? (i := 609) (by decide +kernel)), (List.mem_of_getElem? (i := 610) (by decide +kernel)), (List.mem_of_getElem? (i := 35) (by decide +kernel)), (List.mem_of_getElem? (i := 611) (by decide +kernel)), ⟨by decide +kernel, by decide +kernel⟩, by decide +kernel, by decide⟩
theorem kiX7_init : KI mX7_init 0 := ⟨(List.mem_of_getElem? (i := 615) (by decide +kernel)), (List.mem_of_getElem? (i := 59) (by decide +kernel)), (List.mem_of_getElem? (i := 616) (by decide +kernel)), ⟨by decide +kernel, by decide +kernel⟩, by decide +kernel, by decide, rfl, rfl⟩
theorem kwL_pass : KW mL_pass hhL_pass 3 := ⟨(List.mem_of_getElem? (i := 624) (by decide +kernel)), (List.mem_of_getElem? (i := 34) (by decide +kernel)), (List.mem_of_getElem? (i := 625) (by decide +kernel)), ⟨by decide +kernel, by decide +kernel⟩, by decide +kernel, by decide⟩
theorem kvX8_pass : KV mX8_pass 1 := ⟨(List.mem_of_getElem? (i := 627) (by decide +kernel)), (List.mem_of_getElem? (i := 628) (by decide +kernel)), (List.mem_of_getElem? (i := 35) (by decide +kernel)), (List.mem_of_getElem? (i := 629) (by decide +kernel)), ⟨by decide +kernel, by decide +kernel⟩, by decide +kernel, by decide⟩
theorem kwL_meetCloud : KW mL_meetCloud hhL_meetCloud 3 := ⟨(List.mem_of_getElem? (i := 633) (by decide +kernel)), (List.mem_of_getElem? (i := 34) (by decide +kernel)), (List.mem_of_getElem? (i := 634) (by decide +kernel)), ⟨by decide +kernel, by decide +kernel⟩, by decide +kernel, by decide⟩
theorem kvX8_meetCloud : KV mX8_meetCloud 1 := ⟨(List.mem_of_getElem? (i := 636) (by decide +kernel)), (List.mem_of_getElem? (i := 637) (by decide +kernel)), (List.mem_of_getElem? (i := 35) (by decide +kernel)), (List.mem_of_getElem? (i := 638) (by decide +kernel)), ⟨by decide +kernel, by decide +kernel⟩, by decide +kernel, by decide⟩
theorem kvX8_phoneOf : KV mX8_phoneOf 1 := ⟨(List.mem_of_getElem? (i := 641) (by decide +kernel)), (List.mem_of_getElem? (i := 12) (by decide +kernel)), (List.mem_of_getElem? (i := 35) (by decide +kernel)), (List.mem_of_getElem? (i := 642) (by decide +kernel)), ⟨by decide +kernel, by decide +kernel⟩, by decide +kernel, by decide⟩
theorem kiX5_init : KI mX5_init 3 := ⟨(List.mem_of_getElem? (i := 647) (by decide +kernel)), (List.mem_of_getElem? (i := 60) (by decide +kernel)), (List.mem_of_getElem? (i := 648) (by decide +kernel)), ⟨by decide +kernel, by decide +kernel⟩, by decide +kernel, by decide, rfl, rfl⟩
theorem kvX6_keep : KV mX6_keep 1 := ⟨(List.mem_of_getElem? (i := 664) (by decide +kernel)), (List.mem_of_getElem? (i := 665) (by decide +kernel)), (List.mem_of_getElem? (i := 40) (by decide +kernel)), (List.mem_of_getElem? (i := 666) (by decide +kernel)), ⟨by decide +kernel, by decide +kernel⟩, by decide +kernel, by decide⟩
theorem kvX0_isCarriedBy : KV mX0_isCarriedBy 1 := ⟨(List.mem_of_getElem? (i := 669) (by decide +kernel)), (List.mem_of_getElem? (i := 670) (by decide +kernel)), (List.mem_of_getElem? (i := 61) (by decide +kernel)), (List.mem_of_getElem? (i := 671) (by decide +kernel)), ⟨by decide +kernel, by decide +kernel⟩, by decide +kernel, by decide⟩
theorem kwL_meetDoor : KW mL_meetDoor hhL_meetDoor 4 := ⟨(List.mem_of_getElem? (i := 673) (by decide +kernel)), (List.mem_of_getElem? (i := 34) (by decide +kernel)), (List.mem_of_getElem? (i := 674) (by decide +kernel)), ⟨by decide +kernel, by decide +kernel⟩, by decide +kernel, by decide⟩
theorem kvX8_meetDoor : KV mX8_meetDoor 2 := ⟨(List.mem_of_getElem? (i := 676) (by decide +kernel)), (List.mem_of_getElem? (i := 677) (by decide +kernel)), (List.mem_of_getElem? (i := 35) (by decide +kernel)), (List.mem_of_getElem? (i := 678) (by decide +kernel)), ⟨by decide +kernel, by decide +kernel⟩, by decide +kernel, by decide⟩
theorem kvX0_isWaitingAt : KV mX0_isWaitingAt 1 := ⟨(List.mem_of_getElem? (i := 681) (by decide +kernel)), (List.mem_of_getElem? (i := 682) (by decide +kernel)), (List.mem_of_getElem? (i := 61) (by decide +kernel)), (List.mem_of_getElem? (i := 683) (by decide +kernel)), ⟨by decide +kernel, by decide +kernel⟩, by decide +kernel, by decide⟩
theorem kwL_open : KW mL_open hhL_open 4 := ⟨(List.mem_of_getElem? (i := 685) (by decide +kernel)), (List.mem_of_getElem? (i := 34) (by decide +kernel)), (List.mem_of_getElem? (i := 686) (by decide +kernel)), ⟨by decide +kernel, by decide +kernel⟩, by decide +kernel, by decide⟩
theorem kvX8_open : KV mX8_open 2 := ⟨(List.mem_of_getElem? (i := 688) (by decide +kernel)), (List.mem_of_getElem? (i := 689) (by decide +kernel)), (List.mem_of_getElem? (i := 35) (by decide +kernel)), (List.mem_of_getElem? (i := 690) (by decide +kernel)), ⟨by decide +kernel, by decide +kernel⟩, by decide +kernel, by decide⟩
theorem kiX0_init : KI mX0_init 6 := ⟨(List.mem_of_getElem? (i := 694) (by decide +kernel)), (List.mem_of_getElem? (i := 61) (by decide +kernel)), (List.mem_of_getElem? (i := 695) (by decide +kernel)), ⟨by decide +kernel, by decide +kernel⟩, by decide +kernel, by decide, rfl, rfl⟩
theorem kwL_answer : KW mL_answer hhL_answer 4 := ⟨(List.mem_of_getElem? (i := 731) (by decide +kernel)), (List.mem_of_getElem? (i := 34) (by decide +kernel)), (List.mem_of_getElem? (i := 732) (by decide +kernel)), ⟨by decide +kernel, by decide +kernel⟩, by decide +kernel, by decide⟩
theorem kvX8_answer : KV mX8_answer 2 := ⟨(List.mem_of_getElem? (i := 734) (by decide +kernel)), (List.mem_of_getElem? (i := 735) (by decide +kernel)), (List.mem_of_getElem? (i := 35) (by decide +kernel)), (List.mem_of_getElem? (i := 736) (by decide +kernel)), ⟨by decide +kernel, by decide +kernel⟩, by decide +kernel, by decide⟩
theorem kwL_clock : KW mL_clock hhL_clock 3 := ⟨(List.mem_of_getElem? (i := 738) (by decide +kernel)), (List.mem_of_getElem? (i := 34) (by decide +kernel)), (List.mem_of_getElem? (i := 739) (by decide +kernel)), ⟨by decide +kernel, by decide +kernel⟩, by decide +kernel, by decide⟩
theorem kvX8_clock : KV mX8_clock 1 := ⟨(List.mem_of_getElem? (i := 741) (by decide +kernel)), (List.mem_of_getElem? (i := 742) (by decide +kernel)), (List.mem_of_getElem? (i := 35) (by decide +kernel)), (List.mem_of_getElem? (i := 743) (by decide +kernel)), ⟨by decide +kernel, by decide +kernel⟩, by decide +kernel, by decide⟩
theorem kwL_drifted : KW mL_drifted hhL_drifted 3 := ⟨(List.mem_of_getElem? (i := 745) (by decide +kernel)), (List.mem_of_getElem? (i := 34) (by decide +kernel)), (List.mem_of_getElem? (i := 746) (by decide +kernel)), ⟨by decide +kernel, by decide +kernel⟩, by decide +kernel, by decide⟩
theorem kvX8_drifted : KV mX8_drifted 1 := ⟨(List.mem_of_getElem? (i := 748) (by decide +kernel)), (List.mem_of_getElem? (i := 749) (by decide +kernel)), (List.mem_of_getElem? (i := 35) (by decide +kernel)), (List.mem_of_getElem? (i := 750) (by decide +kernel)), ⟨by decide +kernel, by decide +kernel⟩, by decide +kernel, by decide⟩
theorem kwL_driftedBits : KW mL_driftedBits hhL_driftedBits 3 := ⟨(List.mem_of_getElem? (i := 753) (by decide +kernel)), (List.mem_of_getElem? (i := 34) (by decide +kernel)), (List.mem_of_getElem? (i := 754) (by decide +kernel)), ⟨by decide +kernel, by decide +kernel⟩, by decide +kernel, by decide⟩
theorem kvX8_driftedBits : KV mX8_driftedBits 1 := ⟨(List.mem_of_getElem? (i := 756) (by decide +kernel)), (List.mem_of_getElem? (i := 757) (by decide +kernel)), (List.mem_of_getElem? (i := 35) (by decide +kernel)), (List.mem_of_getElem? (i := 758) (by decide +kernel)), ⟨by decide +kernel, by decide +kernel⟩, by decide +kernel, by decide⟩
theorem ksX1_ofFloat : KS mX1_ofFloat 1 := ⟨(List.mem_of_getElem? (i := 760) (by decide +kernel)), (List.mem_of_getElem? (i := 62) (by decide +kernel)), (List.mem_of_getElem? (i := 761) (by decide +kernel)), ⟨by decide +kernel, by decide +kernel⟩, by decide +kernel, by decide⟩
theorem ksX1_ofDouble : KS mX1_ofDouble 1 := ⟨(List.mem_of_getElem? (i := 763) (by decide +kernel)), (List.mem_of_getElem? (i := 62) (by decide +kernel)), (List.mem_of_getElem? (i := 764) (by decide +kernel)), ⟨by decide +kernel, by decide +kernel⟩, by decide +kernel, by decide⟩
theorem kwL_versionOf : KW mL_versionOf hhL_versionOf 3 := ⟨(List.mem_of_getElem? (i := 769) (by decide +kernel)), (List.mem_of_getElem? (i := 34) (by decide +kernel)), (List.mem_of_getElem? (i := 770) (by decide +kernel)), ⟨by decide +kernel, by decide +kernel⟩, by decide +kernel, by decide⟩
theorem kvX8_versionOf : KV mX8_versionOf 1 := ⟨(List.mem_of_getElem? (i := 772) (by decide +kernel)), (List.mem_of_getElem? (i := 773) (by decide +kernel)), (List.mem_of_getElem? (i := 35) (by decide +kernel)), (List.mem_of_getElem? (i := 774) (by decide +kernel)), ⟨by decide +kernel, by decide +kernel⟩, by decide +kernel, by decide⟩
theorem kwL_versionByReplay : KW mL_versionByReplay hhL_versionByReplay 3 := ⟨(List.mem_of_getElem? (i := 776) (by decide +kernel)), (List.mem_of_getElem? (i := 34) (by decide +kernel)), (List.mem_of_getElem? (i := 777) (by decide +kernel)), ⟨by decide +kernel, by decide +kernel⟩, by decide +kernel, by decide⟩
theorem kvX8_versionByReplay : KV mX8_versionByReplay 1 := ⟨(List.mem_of_getElem? (i := 779) (by decide +kernel)), (List.mem_of_getElem? (i := 780) (by decide +kernel)), (List.mem_of_getElem? (i := 35) (by decide +kernel)), (List.mem_of_getElem? (i := 781) (by decide +kernel)), ⟨by decide +kernel, by decide +kernel⟩, by decide +kernel, by decide⟩
theorem kwL_versionOn : KW mL_versionOn hhL_versionOn 3 := ⟨(List.mem_of_getElem? (i := 783) (by decide +kernel)), (List.mem_of_getElem? (i := 34) (by decide +kernel)), (List.mem_of_getElem? (i := 784) (by decide +kernel)), ⟨by decide +kernel, by decide +kernel⟩, by decide +kernel, by decide⟩
theorem kvX8_versionOn : KV mX8_versionOn 1 := ⟨(List.mem_of_getElem? (i := 786) (by decide +kernel)), (List.mem_of_getElem? (i := 787) (by decide +kernel)), (List.mem_of_getElem? (i := 35) (by decide +kernel)), (List.mem_of_getElem? (i := 788) (by decide +kernel)), ⟨by decide +kernel, by decide +kernel⟩, by decide +kernel, by decide⟩
theorem kwL_fromIn : KW mL_fromIn hhL_fromIn 4 := ⟨(List.mem_of_getElem? (i := 790) (by decide +kernel)), (List.mem_of_getElem? (i := 34) (by decide +kernel)), (List.mem_of_getElem? (i := 791) (by decide +kernel)), ⟨by decide +kernel, by decide +kernel⟩, by decide +kernel, by decide⟩
theorem kvX8_fromIn : KV mX8_fromIn 2 := ⟨(List.mem_of_getElem? (i := 793) (by decide +kernel)), (List.mem_of_getElem? (i := 794) (by decide +kernel)), (List.mem_of_getElem? (i := 35) (by decide +kernel)), (List.mem_of_getElem? (i := 795) (by decide +kernel)), ⟨by decide +kernel, by decide +kernel⟩, by decide +kernel, by decide⟩
theorem kwL_waiting : KW mL_waiting hhL_waiting 3 := ⟨(List.mem_of_getElem? (i := 798) (by decide +kernel)), (List.mem_of_getElem? (i := 34) (by decide +kernel)), (List.mem_of_getElem? (i := 799) (by decide +kernel)), ⟨by decide +kernel, by decide +kernel⟩, by decide +kernel, by decide⟩
theorem kvX8_waiting : KV mX8_waiting 1 := ⟨(List.mem_of_getElem? (i := 801) (by decide +kernel)), (List.mem_of_getElem? (i := 802) (by decide +kernel)), (List.mem_of_getElem? (i := 35) (by decide +kernel)), (List.mem_of_getElem? (i := 803) (by decide +kernel)), ⟨by decide +kernel, by decide +kernel⟩, by decide +kernel, by decide⟩
theorem kwL_carried : KW mL_carried hhL_carried 3 := ⟨(List.mem_of_getElem? (i := 805) (by decide +kernel)), (List.mem_of_getElem? (i := 34) (by decide +kernel)), (List.mem_of_getElem? (i := 806) (by decide +kernel)), ⟨by decide +kernel, by decide +kernel⟩, by decide +kernel, by decide⟩
theorem kvX8_carried : KV mX8_carried 1 := ⟨(List.mem_of_getElem? (i := 808) (by decide +kernel)), (List.mem_of_getElem? (i := 809) (by decide +kernel)), (List.mem_of_getElem? (i := 35) (by decide +kernel)), (List.mem_of_getElem? (i := 810) (by decide +kernel)), ⟨by decide +kernel, by decide +kernel⟩, by decide +kernel, by decide⟩
theorem kwL_letterOf : KW mL_letterOf hhL_letterOf 3 := ⟨(List.mem_of_getElem? (i := 812) (by decide +kernel)), (List.mem_of_getElem? (i := 34) (by decide +kernel)), (List.mem_of_getElem? (i := 813) (by decide +kernel)), ⟨by decide +kernel, by decide +kernel⟩, by decide +kernel, by decide⟩
theorem kvX8_letterOf : KV mX8_letterOf 1 := ⟨(List.mem_of_getElem? (i := 815) (by decide +kernel)), (List.mem_of_getElem? (i := 816) (by decide +kernel)), (List.mem_of_getElem? (i := 35) (by decide +kernel)), (List.mem_of_getElem? (i := 817) (by decide +kernel)), ⟨by decide +kernel, by decide +kernel⟩, by decide +kernel, by decide⟩
theorem kvX8_auditOf : KV mX8_auditOf 1 := ⟨(List.mem_of_getElem? (i := 820) (by decide +kernel)), (List.mem_of_getElem? (i := 13) (by decide +kernel)), (List.mem_of_getElem? (i := 35) (by decide +kernel)), (List.mem_of_getElem? (i := 821) (by decide +kernel)), ⟨by decide +kernel, by decide +kernel⟩, by decide +kernel, by decide⟩
theorem kwL_letterByList : KW mL_letterByList hhL_letterByList 3 := ⟨(List.mem_of_getElem? (i := 824) (by decide +kernel)), (List.mem_of_getElem? (i := 34) (by decide +kernel)), (List.mem_of_getElem? (i := 825) (by decide +kernel)), ⟨by decide +kernel, by decide +kernel⟩, by decide +kernel, by decide⟩
theorem kvX8_letterByList : KV mX8_letterByList 1 := ⟨(List.mem_of_getElem? (i := 827) (by decide +kernel)), (List.mem_of_getElem? (i := 828) (by decide +kernel)), (List.mem_of_getElem? (i := 35) (by decide +kernel)), (List.mem_of_getElem? (i := 829) (by decide +kernel)), ⟨by decide +kernel, by decide +kernel⟩, by decide +kernel, by decide⟩
theorem kwL_minuteOf : KW mL_minuteOf hhL_minuteOf 3 := ⟨(List.mem_of_getElem? (i := 831) (by decide +kernel)), (List.mem_of_getElem? (i := 34) (by decide +kernel)), (List.mem_of_getElem? (i := 832) (by decide +kernel)), ⟨by decide +kernel, by decide +kernel⟩, by decide +kernel, by decide⟩
theorem kvX8_minuteOf : KV mX8_minuteOf 1 := ⟨(List.mem_of_getElem? (i := 834) (by decide +kernel)), (List.mem_of_getElem? (i := 835) (by decide +kernel)), (List.mem_of_getElem? (i := 35) (by decide +kernel)), (List.mem_of_getElem? (i := 836) (by decide +kernel)), ⟨by decide +kernel, by decide +kernel⟩, by decide +kernel, by decide⟩
theorem kwL_versionAt : KW mL_versionAt hhL_versionAt 3 := ⟨(List.mem_of_getElem? (i := 838) (by decide +kernel)), (List.mem_of_getElem? (i := 34) (by decide +kernel)), (List.mem_of_getElem? (i := 839) (by decide +kernel)), ⟨by decide +kernel, by decide +kernel⟩, by decide +kernel, by decide⟩
theorem kvX8_versionAt : KV mX8_versionAt 1 := ⟨(List.mem_of_getElem? (i := 841) (by decide +kernel)), (List.mem_of_getElem? (i := 842) (by decide +kernel)), (List.mem_of_getElem? (i := 35) (by decide +kernel)), (List.mem_of_getElem? (i := 843) (by decide +kernel)), ⟨by decide +kernel, by decide +kernel⟩, by decide +kernel, by decide⟩
theorem kwL_hasArrived : KW mL_hasArrived hhL_hasArrived 3 := ⟨(List.mem_of_getElem? (i := 845) (by decide +kernel)), (List.mem_of_getElem? (i := 34) (by decide +kernel)), (List.mem_of_getElem? (i := 846) (by decide +kernel)), ⟨by decide +kernel, by decide +kernel⟩, by decide +kernel, by decide⟩
theorem kvX8_hasArrived : KV mX8_hasArrived 1 := ⟨(List.mem_of_getElem? (i := 848) (by decide +kernel)), (List.mem_of_getElem? (i := 849) (by decide +kernel)), (List.mem_of_getElem? (i := 35) (by decide +kernel)), (List.mem_of_getElem? (i := 850) (by decide +kernel)), ⟨by decide +kernel, by decide +kernel⟩, by decide +kernel, by decide⟩
theorem kwL_isBreach : KW mL_isBreach hhL_isBreach 3 := ⟨(List.mem_of_getElem? (i := 852) (by decide +kernel)), (List.mem_of_getElem? (i := 34) (by decide +kernel)), (List.mem_of_getElem? (i := 853) (by decide +kernel)), ⟨by decide +kernel, by decide +kernel⟩, by decide +kernel, by decide⟩
theorem kvX8_isBreach : KV mX8_isBreach 1 := ⟨(List.mem_of_getElem? (i := 855) (by decide +kernel)), (List.mem_of_getElem? (i := 856) (by decide +kernel)), (List.mem_of_getElem? (i := 35) (by decide +kernel)), (List.mem_of_getElem? (i := 857) (by decide +kernel)), ⟨by decide +kernel, by decide +kernel⟩, by decide +kernel, by decide⟩
theorem kwL_breachesAt : KW mL_breachesAt hhL_breachesAt 3 := ⟨(List.mem_of_getElem? (i := 859) (by decide +kernel)), (List.mem_of_getElem? (i := 34) (by decide +kernel)), (List.mem_of_getElem? (i := 860) (by decide +kernel)), ⟨by decide +kernel, by decide +kernel⟩, by decide +kernel, by decide⟩
theorem kvX8_breachesAt : KV mX8_breachesAt 1 := ⟨(List.mem_of_getElem? (i := 862) (by decide +kernel)), (List.mem_of_getElem? (i := 863) (by decide +kernel)), (List.mem_of_getElem? (i := 35) (by decide +kernel)), (List.mem_of_getElem? (i := 864) (by decide +kernel)), ⟨by decide +kernel, by decide +kernel⟩, by decide +kernel, by decide⟩
theorem kwL_meanDelay : KW mL_meanDelay hhL_meanDelay 2 := ⟨(List.mem_of_getElem? (i := 866) (by decide +kernel)), (List.mem_of_getElem? (i := 34) (by decide +kernel)), (List.mem_of_getElem? (i := 867) (by decide +kernel)), ⟨by decide +kernel, by decide +kernel⟩, by decide +kernel, by decide⟩
theorem kvX8_meanDelay : KV mX8_meanDelay 0 := ⟨(List.mem_of_getElem? (i := 883) (by decide +kernel)), (List.mem_of_getElem? (i := 884) (by decide +kernel)), (List.mem_of_getElem? (i := 35) (by decide +kernel)), (List.mem_of_getElem? (i := 885) (by decide +kernel)), ⟨by decide +kernel, by decide +kernel⟩, by decide +kernel, by decide⟩
theorem kvX8_meanOfDelays : KV mX8_meanOfDelays 0 := ⟨(List.mem_of_getElem? (i := 888) (by decide +kernel)), (List.mem_of_getElem? (i := 14) (by decide +kernel)), (List.mem_of_getElem? (i := 35) (by decide +kernel)), (List.mem_of_getElem? (i := 889) (by decide +kernel)), ⟨by decide +kernel, by decide +kernel⟩, by decide +kernel, by decide⟩
theorem kvX8_arrivedCount : KV mX8_arrivedCount 0 := ⟨(List.mem_of_getElem? (i := 892) (by decide +kernel)), (List.mem_of_getElem? (i := 15) (by decide +kernel)), (List.mem_of_getElem? (i := 35) (by decide +kernel)), (List.mem_of_getElem? (i := 893) (by decide +kernel)), ⟨by decide +kernel, by decide +kernel⟩, by decide +kernel, by decide⟩
theorem kwL_meanBits : KW mL_meanBits hhL_meanBits 2 := ⟨(List.mem_of_getElem? (i := 899) (by decide +kernel)), (List.mem_of_getElem? (i := 34) (by decide +kernel)), (List.mem_of_getElem? (i := 900) (by decide +kernel)), ⟨by decide +kernel, by decide +kernel⟩, by decide +kernel, by decide⟩
theorem kvX8_meanBits : KV mX8_meanBits 0 := ⟨(List.mem_of_getElem? (i := 902) (by decide +kernel)), (List.mem_of_getElem? (i := 903) (by decide +kernel)), (List.mem_of_getElem? (i := 35) (by decide +kernel)), (List.mem_of_getElem? (i := 904) (by decide +kernel)), ⟨by decide +kernel, by decide +kernel⟩, by decide +kernel, by decide⟩
theorem kwL_arrivedShare : KW mL_arrivedShare hhL_arrivedShare 2 := ⟨(List.mem_of_getElem? (i := 907) (by decide +kernel)), (List.mem_of_getElem? (i := 34) (by decide +kernel)), (List.mem_of_getElem? (i := 908) (by decide +kernel)), ⟨by decide +kernel, by decide +kernel⟩, by decide +kernel, by decide⟩
theorem kvX8_arrivedShare : KV mX8_arrivedShare 0 := ⟨(List.mem_of_getElem? (i := 910) (by decide +kernel)), (List.mem_of_getElem? (i := 911) (by decide +kernel)), (List.mem_of_getElem? (i := 35) (by decide +kernel)), (List.mem_of_getElem? (i := 912) (by decide +kernel)), ⟨by decide +kernel, by decide +kernel⟩, by decide +kernel, by decide⟩
theorem kiX9_init : KI mX9_init 0 := ⟨(List.mem_of_getElem? (i := 917) (by decide +kernel)), (List.mem_of_getElem? (i := 41) (by decide +kernel)), (List.mem_of_getElem? (i := 918) (by decide +kernel)), ⟨by decide +kernel, by decide +kernel⟩, by decide +kernel, by decide, rfl, rfl⟩
theorem kvX9_thrown : KV mX9_thrown 0 := ⟨(List.mem_of_getElem? (i := 1004) (by decide +kernel)), (List.mem_of_getElem? (i := 1005) (by decide +kernel)), (List.mem_of_getElem? (i := 41) (by decide +kernel)), (List.mem_of_getElem? (i := 1006) (by decide +kernel)), ⟨by decide +kernel, by decide +kernel⟩, by decide +kernel, by decide⟩
theorem kvX9_addKey : KV mX9_addKey 3 := ⟨(List.mem_of_getElem? (i := 1008) (by decide +kernel)), (List.mem_of_getElem? (i := 1009) (by decide +kernel)), (List.mem_of_getElem? (i := 41) (by decide +kernel)), (List.mem_of_getElem? (i := 1010) (by decide +kernel)), ⟨by decide +kernel, by decide +kernel⟩, by decide +kernel, by decide⟩
theorem ksX9_isBetween : KS mX9_isBetween 3 := ⟨(List.mem_of_getElem? (i := 1012) (by decide +kernel)), (List.mem_of_getElem? (i := 41) (by decide +kernel)), (List.mem_of_getElem? (i := 1013) (by decide +kernel)), ⟨by decide +kernel, by decide +kernel⟩, by decide +kernel, by decide⟩
theorem ksX9_areTimes : KS mX9_areTimes 2 := ⟨(List.mem_of_getElem? (i := 1015) (by decide +kernel)), (List.mem_of_getElem? (i := 41) (by decide +kernel)), (List.mem_of_getElem? (i := 1016) (by decide +kernel)), ⟨by decide +kernel, by decide +kernel⟩, by decide +kernel, by decide⟩
theorem kvX9_fails : KV mX9_fails 1 := ⟨(List.mem_of_getElem? (i := 1021) (by decide +kernel)), (List.mem_of_getElem? (i := 16) (by decide +kernel)), (List.mem_of_getElem? (i := 41) (by decide +kernel)), (List.mem_of_getElem? (i := 1022) (by decide +kernel)), ⟨by decide +kernel, by decide +kernel⟩, by decide +kernel, by decide⟩
theorem kvX9_changes : KV mX9_changes 0 := ⟨(List.mem_of_getElem? (i := 1025) (by decide +kernel)), (List.mem_of_getElem? (i := 17) (by decide +kernel)), (List.mem_of_getElem? (i := 41) (by decide +kernel)), (List.mem_of_getElem? (i := 1026) (by decide +kernel)), ⟨by decide +kernel, by decide +kernel⟩, by decide +kernel, by decide⟩
theorem kvX9_setTimes : KV mX9_setTimes 3 := ⟨(List.mem_of_getElem? (i := 1028) (by decide +kernel)), (List.mem_of_getElem? (i := 1029) (by decide +kernel)), (List.mem_of_getElem? (i := 41) (by decide +kernel)), (List.mem_of_getElem? (i := 1030) (by decide +kernel)), ⟨by decide +kernel, by decide +kernel⟩, by decide +kernel, by decide⟩
theorem kvX9_isKey : KV mX9_isKey 1 := ⟨(List.mem_of_getElem? (i := 1033) (by decide +kernel)), (List.mem_of_getElem? (i := 18) (by decide +kernel)), (List.mem_of_getElem? (i := 41) (by decide +kernel)), (List.mem_of_getElem? (i := 1034) (by decide +kernel)), ⟨by decide +kernel, by decide +kernel⟩, by decide +kernel, by decide⟩
theorem kvX9_isStuck : KV mX9_isStuck 1 := ⟨(List.mem_of_getElem? (i := 1037) (by decide +kernel)), (List.mem_of_getElem? (i := 19) (by decide +kernel)), (List.mem_of_getElem? (i := 41) (by decide +kernel)), (List.mem_of_getElem? (i := 1038) (by decide +kernel)), ⟨by decide +kernel, by decide +kernel⟩, by decide +kernel, by decide⟩
theorem kvX9_setDoors : KV mX9_setDoors 2 := ⟨(List.mem_of_getElem? (i := 1040) (by decide +kernel)), (List.mem_of_getElem? (i := 1041) (by decide +kernel)), (List.mem_of_getElem? (i := 41) (by decide +kernel)), (List.mem_of_getElem? (i := 1042) (by decide +kernel)), ⟨by decide +kernel, by decide +kernel⟩, by decide +kernel, by decide⟩
theorem kvX9_revoke : KV mX9_revoke 1 := ⟨(List.mem_of_getElem? (i := 1044) (by decide +kernel)), (List.mem_of_getElem? (i := 1045) (by decide +kernel)), (List.mem_of_getElem? (i := 41) (by decide +kernel)), (List.mem_of_getElem? (i := 1046) (by decide +kernel)), ⟨by decide +kernel, by decide +kernel⟩, by decide +kernel, by decide⟩
theorem kvX9_version : KV mX9_version 0 := ⟨(List.mem_of_getElem? (i := 1048) (by decide +kernel)), (List.mem_of_getElem? (i := 1049) (by decide +kernel)), (List.mem_of_getElem? (i := 41) (by decide +kernel)), (List.mem_of_getElem? (i := 1050) (by decide +kernel)), ⟨by decide +kernel, by decide +kernel⟩, by decide +kernel, by decide⟩
theorem kvX9_addDoor : KV mX9_addDoor 0 := ⟨(List.mem_of_getElem? (i := 1052) (by decide +kernel)), (List.mem_of_getElem? (i := 1053) (by decide +kernel)), (List.mem_of_getElem? (i := 41) (by decide +kernel)), (List.mem_of_getElem? (i := 1054) (by decide +kernel)), ⟨by decide +kernel, by decide +kernel⟩, by decide +kernel, by decide⟩
theorem kvX9_setRate : KV mX9_setRate 2 := ⟨(List.mem_of_getElem? (i := 1056) (by decide +kernel)), (List.mem_of_getElem? (i := 1057) (by decide +kernel)), (List.mem_of_getElem? (i := 41) (by decide +kernel)), (List.mem_of_getElem? (i := 1058) (by decide +kernel)), ⟨by decide +kernel, by decide +kernel⟩, by decide +kernel, by decide⟩
theorem kvX9_isDoor : KV mX9_isDoor 1 := ⟨(List.mem_of_getElem? (i := 1061) (by decide +kernel)), (List.mem_of_getElem? (i := 20) (by decide +kernel)), (List.mem_of_getElem? (i := 41) (by decide +kernel)), (List.mem_of_getElem? (i := 1062) (by decide +kernel)), ⟨by decide +kernel, by decide +kernel⟩, by decide +kernel, by decide⟩
theorem kvX9_clockOf : KV mX9_clockOf 1 := ⟨(List.mem_of_getElem? (i := 1065) (by decide +kernel)), (List.mem_of_getElem? (i := 21) (by decide +kernel)), (List.mem_of_getElem? (i := 41) (by decide +kernel)), (List.mem_of_getElem? (i := 1066) (by decide +kernel)), ⟨by decide +kernel, by decide +kernel⟩, by decide +kernel, by decide⟩
theorem kvX9_driftedOf : KV mX9_driftedOf 1 := ⟨(List.mem_of_getElem? (i := 1069) (by decide +kernel)), (List.mem_of_getElem? (i := 22) (by decide +kernel)), (List.mem_of_getElem? (i := 41) (by decide +kernel)), (List.mem_of_getElem? (i := 1070) (by decide +kernel)), ⟨by decide +kernel, by decide +kernel⟩, by decide +kernel, by decide⟩
theorem kvX9_sets : KV mX9_sets 2 := ⟨(List.mem_of_getElem? (i := 1073) (by decide +kernel)), (List.mem_of_getElem? (i := 23) (by decide +kernel)), (List.mem_of_getElem? (i := 41) (by decide +kernel)), (List.mem_of_getElem? (i := 1074) (by decide +kernel)), ⟨by decide +kernel, by decide +kernel⟩, by decide +kernel, by decide⟩
theorem kvX9_addPhone : KV mX9_addPhone 0 := ⟨(List.mem_of_getElem? (i := 1077) (by decide +kernel)), (List.mem_of_getElem? (i := 1078) (by decide +kernel)), (List.mem_of_getElem? (i := 41) (by decide +kernel)), (List.mem_of_getElem? (i := 1079) (by decide +kernel)), ⟨by decide +kernel, by decide +kernel⟩, by decide +kernel, by decide⟩
theorem kvX9_pass : KV mX9_pass 1 := ⟨(List.mem_of_getElem? (i := 1081) (by decide +kernel)), (List.mem_of_getElem? (i := 1082) (by decide +kernel)), (List.mem_of_getElem? (i := 41) (by decide +kernel)), (List.mem_of_getElem? (i := 1083) (by decide +kernel)), ⟨by decide +kernel, by decide +kernel⟩, by decide +kernel, by decide⟩
theorem kvX9_time : KV mX9_time 0 := ⟨(List.mem_of_getElem? (i := 1085) (by decide +kernel)), (List.mem_of_getElem? (i := 1086) (by decide +kernel)), (List.mem_of_getElem? (i := 41) (by decide +kernel)), (List.mem_of_getElem? (i := 1087) (by decide +kernel)), ⟨by decide +kernel, by decide +kernel⟩, by decide +kernel, by decide⟩
theorem kvX9_meetCloud : KV mX9_meetCloud 1 := ⟨(List.mem_of_getElem? (i := 1089) (by decide +kernel)), (List.mem_of_getElem? (i := 1090) (by decide +kernel)), (List.mem_of_getElem? (i := 41) (by decide +kernel)), (List.mem_of_getElem? (i := 1091) (by decide +kernel)), ⟨by decide +kernel, by decide +kernel⟩, by decide +kernel, by decide⟩
theorem kvX9_isPhone : KV mX9_isPhone 1 := ⟨(List.mem_of_getElem? (i := 1094) (by decide +kernel)), (List.mem_of_getElem? (i := 24) (by decide +kernel)), (List.mem_of_getElem? (i := 41) (by decide +kernel)), (List.mem_of_getElem? (i := 1095) (by decide +kernel)), ⟨by decide +kernel, by decide +kernel⟩, by decide +kernel, by decide⟩
theorem kvX9_meetDoor : KV mX9_meetDoor 2 := ⟨(List.mem_of_getElem? (i := 1097) (by decide +kernel)), (List.mem_of_getElem? (i := 1098) (by decide +kernel)), (List.mem_of_getElem? (i := 41) (by decide +kernel)), (List.mem_of_getElem? (i := 1099) (by decide +kernel)), ⟨by decide +kernel, by decide +kernel⟩, by decide +kernel, by decide⟩
theorem kvX9_open : KV mX9_open 2 := ⟨(List.mem_of_getElem? (i := 1102) (by decide +kernel)), (List.mem_of_getElem? (i := 1103) (by decide +kernel)), (List.mem_of_getElem? (i := 41) (by decide +kernel)), (List.mem_of_getElem? (i := 1104) (by decide +kernel)), ⟨by decide +kernel, by decide +kernel⟩, by decide +kernel, by decide⟩
theorem kvX9_isNone : KV mX9_isNone 2 := ⟨(List.mem_of_getElem? (i := 1107) (by decide +kernel)), (List.mem_of_getElem? (i := 25) (by decide +kernel)), (List.mem_of_getElem? (i := 41) (by decide +kernel)), (List.mem_of_getElem? (i := 1108) (by decide +kernel)), ⟨by decide +kernel, by decide +kernel⟩, by decide +kernel, by decide⟩
theorem kvX9_letter : KV mX9_letter 4 := ⟨(List.mem_of_getElem? (i := 1111) (by decide +kernel)), (List.mem_of_getElem? (i := 26) (by decide +kernel)), (List.mem_of_getElem? (i := 41) (by decide +kernel)), (List.mem_of_getElem? (i := 1112) (by decide +kernel)), ⟨by decide +kernel, by decide +kernel⟩, by decide +kernel, by decide⟩
theorem kvX9_answer : KV mX9_answer 2 := ⟨(List.mem_of_getElem? (i := 1114) (by decide +kernel)), (List.mem_of_getElem? (i := 1115) (by decide +kernel)), (List.mem_of_getElem? (i := 41) (by decide +kernel)), (List.mem_of_getElem? (i := 1116) (by decide +kernel)), ⟨by decide +kernel, by decide +kernel⟩, by decide +kernel, by decide⟩
theorem kvX9_clock : KV mX9_clock 1 := ⟨(List.mem_of_getElem? (i := 1118) (by decide +kernel)), (List.mem_of_getElem? (i := 1119) (by decide +kernel)), (List.mem_of_getElem? (i := 41) (by decide +kernel)), (List.mem_of_getElem? (i := 1120) (by decide +kernel)), ⟨by decide +kernel, by decide +kernel⟩, by decide +kernel, by decide⟩
theorem kvX9_isNowhere : KV mX9_isNowhere 1 := ⟨(List.mem_of_getElem? (i := 1123) (by decide +kernel)), (List.mem_of_getElem? (i := 27) (by decide +kernel)), (List.mem_of_getElem? (i := 41) (by decide +kernel)), (List.mem_of_getElem? (i := 1124) (by decide +kernel)), ⟨by decide +kernel, by decide +kernel⟩, by decide +kernel, by decide⟩
theorem kvX9_drifted : KV mX9_drifted 1 := ⟨(List.mem_of_getElem? (i := 1126) (by decide +kernel)), (List.mem_of_getElem? (i := 1127) (by decide +kernel)), (List.mem_of_getElem? (i := 41) (by decide +kernel)), (List.mem_of_getElem? (i := 1128) (by decide +kernel)), ⟨by decide +kernel, by decide +kernel⟩, by decide +kernel, by decide⟩
theorem kvX9_driftedBits : KV mX9_driftedBits 1 := ⟨(List.mem_of_getElem? (i := 1130) (by decide +kernel)), (List.mem_of_getElem? (i := 1131) (by decide +kernel)), (List.mem_of_getElem? (i := 41) (by decide +kernel)), (List.mem_of_getElem? (i := 1132) (by decide +kernel)), ⟨by decide +kernel, by decide +kernel⟩, by decide +kernel, by decide⟩
theorem ksJxf58ca_floatToIntBits_5c35a : KS mJxf58ca_floatToIntBits_5c35a 1 := ⟨(List.mem_of_getElem? (i := 1134) (by decide +kernel)), (List.mem_of_getElem? (i := 64) (by decide +kernel)), (List.mem_of_getElem? (i := 1135) (by decide +kernel)), ⟨by decide +kernel, by decide +kernel⟩, by decide +kernel, by decide⟩
theorem ksJxf58ca_isNaN_12338 : KS mJxf58ca_isNaN_12338 1 := ⟨(List.mem_of_getElem? (i := 1137) (by decide +kernel)), (List.mem_of_getElem? (i := 64) (by decide +kernel)), (List.mem_of_getElem? (i := 1138) (by decide +kernel)), ⟨by decide +kernel, by decide +kernel⟩, by decide +kernel, by decide⟩
theorem kvX9_versionOf : KV mX9_versionOf 1 := ⟨(List.mem_of_getElem? (i := 1144) (by decide +kernel)), (List.mem_of_getElem? (i := 1145) (by decide +kernel)), (List.mem_of_getElem? (i := 41) (by decide +kernel)), (List.mem_of_getElem? (i := 1146) (by decide +kernel)), ⟨by decide +kernel, by decide +kernel⟩, by decide +kernel, by decide⟩
theorem kvX9_versionByReplay : KV mX9_versionByReplay 1 := ⟨(List.mem_of_getElem? (i := 1148) (by decide +kernel)), (List.mem_of_getElem? (i := 1149) (by decide +kernel)), (List.mem_of_getElem? (i := 41) (by decide +kernel)), (List.mem_of_getElem? (i := 1150) (by decide +kernel)), ⟨by decide +kernel, by decide +kernel⟩, by decide +kernel, by decide⟩
theorem kvX9_versionOn : KV mX9_versionOn 1 := ⟨(List.mem_of_getElem? (i := 1153) (by decide +kernel)), (List.mem_of_getElem? (i := 1154) (by decide +kernel)), (List.mem_of_getElem? (i := 41) (by decide +kernel)), (List.mem_of_getElem? (i := 1155) (by decide +kernel)), ⟨by decide +kernel, by decide +kernel⟩, by decide +kernel, by decide⟩
theorem kvX9_fromIn : KV mX9_fromIn 2 := ⟨(List.mem_of_getElem? (i := 1157) (by decide +kernel)), (List.mem_of_getElem? (i := 1158) (by decide +kernel)), (List.mem_of_getElem? (i := 41) (by decide +kernel)), (List.mem_of_getElem? (i := 1159) (by decide +kernel)), ⟨by decide +kernel, by decide +kernel⟩, by decide +kernel, by decide⟩
theorem kvX9_waiting : KV mX9_waiting 1 := ⟨(List.mem_of_getElem? (i := 1161) (by decide +kernel)), (List.mem_of_getElem? (i := 1162) (by decide +kernel)), (List.mem_of_getElem? (i := 41) (by decide +kernel)), (List.mem_of_getElem? (i := 1163) (by decide +kernel)), ⟨by decide +kernel, by decide +kernel⟩, by decide +kernel, by decide⟩
theorem kvX9_carried : KV mX9_carried 1 := ⟨(List.mem_of_getElem? (i := 1165) (by decide +kernel)), (List.mem_of_getElem? (i := 1166) (by decide +kernel)), (List.mem_of_getElem? (i := 41) (by decide +kernel)), (List.mem_of_getElem? (i := 1167) (by decide +kernel)), ⟨by decide +kernel, by decide +kernel⟩, by decide +kernel, by decide⟩
theorem kvX9_audits : KV mX9_audits 0 := ⟨(List.mem_of_getElem? (i := 1169) (by decide +kernel)), (List.mem_of_getElem? (i := 1170) (by decide +kernel)), (List.mem_of_getElem? (i := 41) (by decide +kernel)), (List.mem_of_getElem? (i := 1171) (by decide +kernel)), ⟨by decide +kernel, by decide +kernel⟩, by decide +kernel, by decide⟩
theorem kvX9_letterOf : KV mX9_letterOf 1 := ⟨(List.mem_of_getElem? (i := 1173) (by decide +kernel)), (List.mem_of_getElem? (i := 1174) (by decide +kernel)), (List.mem_of_getElem? (i := 41) (by decide +kernel)), (List.mem_of_getElem? (i := 1175) (by decide +kernel)), ⟨by decide +kernel, by decide +kernel⟩, by decide +kernel, by decide⟩
theorem kvX9_isNoAudit : KV mX9_isNoAudit 1 := ⟨(List.mem_of_getElem? (i := 1178) (by decide +kernel)), (List.mem_of_getElem? (i := 28) (by decide +kernel)), (List.mem_of_getElem? (i := 41) (by decide +kernel)), (List.mem_of_getElem? (i := 1179) (by decide +kernel)), ⟨by decide +kernel, by decide +kernel⟩, by decide +kernel, by decide⟩
theorem kvX9_isAudit : KV mX9_isAudit 1 := ⟨(List.mem_of_getElem? (i := 1182) (by decide +kernel)), (List.mem_of_getElem? (i := 29) (by decide +kernel)), (List.mem_of_getElem? (i := 41) (by decide +kernel)), (List.mem_of_getElem? (i := 1183) (by decide +kernel)), ⟨by decide +kernel, by decide +kernel⟩, by decide +kernel, by decide⟩
theorem kvX9_letterByList : KV mX9_letterByList 1 := ⟨(List.mem_of_getElem? (i := 1185) (by decide +kernel)), (List.mem_of_getElem? (i := 1186) (by decide +kernel)), (List.mem_of_getElem? (i := 41) (by decide +kernel)), (List.mem_of_getElem? (i := 1187) (by decide +kernel)), ⟨by decide +kernel, by decide +kernel⟩, by decide +kernel, by decide⟩
theorem kvX9_minuteOf : KV mX9_minuteOf 1 := ⟨(List.mem_of_getElem? (i := 1189) (by decide +kernel)), (List.mem_of_getElem? (i := 1190) (by decide +kernel)), (List.mem_of_getElem? (i := 41) (by decide +kernel)), (List.mem_of_getElem? (i := 1191) (by decide +kernel)), ⟨by decide +kernel, by decide +kernel⟩, by decide +kernel, by decide⟩
theorem kvX9_versionAt : KV mX9_versionAt 1 := ⟨(List.mem_of_getElem? (i := 1193) (by decide +kernel)), (List.mem_of_getElem? (i := 1194) (by decide +kernel)), (List.mem_of_getElem? (i := 41) (by decide +kernel)), (List.mem_of_getElem? (i := 1195) (by decide +kernel)), ⟨by decide +kernel, by decide +kernel⟩, by decide +kernel, by decide⟩
theorem kvX9_hasArrived : KV mX9_hasArrived 1 := ⟨(List.mem_of_getElem? (i := 1197) (by decide +kernel)), (List.mem_of_getElem? (i := 1198) (by decide +kernel)), (List.mem_of_getElem? (i := 41) (by decide +kernel)), (List.mem_of_getElem? (i := 1199) (by decide +kernel)), ⟨by decide +kernel, by decide +kernel⟩, by decide +kernel, by decide⟩
theorem kvX9_isBreach : KV mX9_isBreach 1 := ⟨(List.mem_of_getElem? (i := 1201) (by decide +kernel)), (List.mem_of_getElem? (i := 1202) (by decide +kernel)), (List.mem_of_getElem? (i := 41) (by decide +kernel)), (List.mem_of_getElem? (i := 1203) (by decide +kernel)), ⟨by decide +kernel, by decide +kernel⟩, by decide +kernel, by decide⟩
theorem kvX9_isBroken : KV mX9_isBroken 1 := ⟨(List.mem_of_getElem? (i := 1206) (by decide +kernel)), (List.mem_of_getElem? (i := 30) (by decide +kernel)), (List.mem_of_getElem? (i := 41) (by decide +kernel)), (List.mem_of_getElem? (i := 1207) (by decide +kernel)), ⟨by decide +kernel, by decide +kernel⟩, by decide +kernel, by decide⟩
theorem kvX9_breaches : KV mX9_breaches 0 := ⟨(List.mem_of_getElem? (i := 1209) (by decide +kernel)), (List.mem_of_getElem? (i := 1210) (by decide +kernel)), (List.mem_of_getElem? (i := 41) (by decide +kernel)), (List.mem_of_getElem? (i := 1211) (by decide +kernel)), ⟨by decide +kernel, by decide +kernel⟩, by decide +kernel, by decide⟩
theorem kvX9_breachesAt : KV mX9_breachesAt 1 := ⟨(List.mem_of_getElem? (i := 1213) (by decide +kernel)), (List.mem_of_getElem? (i := 1214) (by decide +kernel)), (List.mem_of_getElem? (i := 41) (by decide +kernel)), (List.mem_of_getElem? (i := 1215) (by decide +kernel)), ⟨by decide +kernel, by decide +kernel⟩, by decide +kernel, by decide⟩
theorem kvX9_delays : KV mX9_delays 0 := ⟨(List.mem_of_getElem? (i := 1217) (by decide +kernel)), (List.mem_of_getElem? (i := 1218) (by decide +kernel)), (List.mem_of_getElem? (i := 41) (by decide +kernel)), (List.mem_of_getElem? (i := 1219) (by decide +kernel)), ⟨by decide +kernel, by decide +kernel⟩, by decide +kernel, by decide⟩
theorem kvX9_delaySum : KV mX9_delaySum 0 := ⟨(List.mem_of_getElem? (i := 1222) (by decide +kernel)), (List.mem_of_getElem? (i := 31) (by decide +kernel)), (List.mem_of_getElem? (i := 41) (by decide +kernel)), (List.mem_of_getElem? (i := 1223) (by decide +kernel)), ⟨by decide +kernel, by decide +kernel⟩, by decide +kernel, by decide⟩
theorem kvX9_meanDelay : KV mX9_meanDelay 0 := ⟨(List.mem_of_getElem? (i := 1225) (by decide +kernel)), (List.mem_of_getElem? (i := 1226) (by decide +kernel)), (List.mem_of_getElem? (i := 41) (by decide +kernel)), (List.mem_of_getElem? (i := 1227) (by decide +kernel)), ⟨by decide +kernel, by decide +kernel⟩, by decide +kernel, by decide⟩
theorem kvX9_mean : KV mX9_mean 0 := ⟨(List.mem_of_getElem? (i := 1230) (by decide +kernel)), (List.mem_of_getElem? (i := 32) (by decide +kernel)), (List.mem_of_getElem? (i := 41) (by decide +kernel)), (List.mem_of_getElem? (i := 1231) (by decide +kernel)), ⟨by decide +kernel, by decide +kernel⟩, by decide +kernel, by decide⟩
theorem kvX9_arrivedMany : KV mX9_arrivedMany 0 := ⟨(List.mem_of_getElem? (i := 1234) (by decide +kernel)), (List.mem_of_getElem? (i := 33) (by decide +kernel)), (List.mem_of_getElem? (i := 41) (by decide +kernel)), (List.mem_of_getElem? (i := 1235) (by decide +kernel)), ⟨by decide +kernel, by decide +kernel⟩, by decide +kernel, by decide⟩
theorem kvX9_meanBits : KV mX9_meanBits 0 := ⟨(List.mem_of_getElem? (i := 1237) (by decide +kernel)), (List.mem_of_getElem? (i := 1238) (by decide +kernel)), (List.mem_of_getElem? (i := 41) (by decide +kernel)), (List.mem_of_getElem? (i := 1239) (by decide +kernel)), ⟨by decide +kernel, by decide +kernel⟩, by decide +kernel, by decide⟩
theorem ksJxe99ae_doubleToLongBits_ccdee : KS mJxe99ae_doubleToLongBits_ccdee 1 := ⟨(List.mem_of_getElem? (i := 1241) (by decide +kernel)), (List.mem_of_getElem? (i := 66) (by decide +kernel)), (List.mem_of_getElem? (i := 1242) (by decide +kernel)), ⟨by decide +kernel, by decide +kernel⟩, by decide +kernel, by decide⟩
theorem ksJxe99ae_isNaN_b9ae7 : KS mJxe99ae_isNaN_b9ae7 1 := ⟨(List.mem_of_getElem? (i := 1244) (by decide +kernel)), (List.mem_of_getElem? (i := 66) (by decide +kernel)), (List.mem_of_getElem? (i := 1245) (by decide +kernel)), ⟨by decide +kernel, by decide +kernel⟩, by decide +kernel, by decide⟩
theorem kvX9_arrivedShare : KV mX9_arrivedShare 0 := ⟨(List.mem_of_getElem? (i := 1251) (by decide +kernel)), (List.mem_of_getElem? (i := 1252) (by decide +kernel)), (List.mem_of_getElem? (i := 41) (by decide +kernel)), (List.mem_of_getElem? (i := 1253) (by decide +kernel)), ⟨by decide +kernel, by decide +kernel⟩, by decide +kernel, by decide⟩
theorem kvX9_isSound : KV mX9_isSound 0 := ⟨(List.mem_of_getElem? (i := 1255) (by decide +kernel)), (List.mem_of_getElem? (i := 1256) (by decide +kernel)), (List.mem_of_getElem? (i := 41) (by decide +kernel)), (List.mem_of_getElem? (i := 1257) (by decide +kernel)), ⟨by decide +kernel, by decide +kernel⟩, by decide +kernel, by decide⟩
theorem lkL_123 : Cond.methodLink RL 123 mX8_init.1 ∈ lw_tbl := (List.mem_of_getElem? (i := 69) (by decide +kernel))
theorem lkX8_1 : Cond.methodLink RX8 1 objectInit ∈ lw_tbl := (List.mem_of_getElem? (i := 72) (by decide +kernel))
theorem lkX8_9 : Cond.methodLinkNest RX8 9 mX2_init.1 "Doorledger" ∈ lw_tbl := (List.mem_of_getElem? (i := 77) (by decide +kernel))
theorem lkX2_1 : Cond.methodLink RX2 1 objectInit ∈ lw_tbl := (List.mem_of_getElem? (i := 80) (by decide +kernel))
theorem lkX2_9 : Cond.methodLink RX2 9 mJx4a65c_init_da8c8.1 ∈ lw_tbl := (List.mem_of_getElem? (i := 83) (by decide +kernel))
theorem lkJx4a65c_1 : Cond.methodLink RJx4a65c 1 mJxc12de_init_da8c8.1 ∈ lw_tbl := (List.mem_of_getElem? (i := 86) (by decide +kernel))
theorem lkJxc12de_1 : Cond.methodLink RJxc12de 1 mJxa1e45_init_da8c8.1 ∈ lw_tbl := (List.mem_of_getElem? (i := 89) (by decide +kernel))
theorem lkJxa1e45_1 : Cond.methodLink RJxa1e45 1 objectInit ∈ lw_tbl := (List.mem_of_getElem? (i := 92) (by decide +kernel))
theorem lkX8_18 : Cond.methodLink RX8 18 mJx4a65c_init_da8c8.1 ∈ lw_tbl := (List.mem_of_getElem? (i := 116) (by decide +kernel))
theorem lkX8_31 : Cond.methodLinkNest RX8 31 mX6_init.1 "Doorledger" ∈ lw_tbl := (List.mem_of_getElem? (i := 119) (by decide +kernel))
theorem lkX6_3 : Cond.methodLink RX6 3 objectInit ∈ lw_tbl := (List.mem_of_getElem? (i := 122) (by decide +kernel))
theorem lkX6_11 : Cond.methodLink RX6 11 mJx4a65c_init_da8c8.1 ∈ lw_tbl := (List.mem_of_getElem? (i := 124) (by decide +kernel))
theorem lkL_147 : Cond.methodLink RL 147 mX8_version.1 ∈ lw_tbl := (List.mem_of_getElem? (i := 152) (by decide +kernel))
theorem lkX8_86 : Cond.methodLink RX8 86 mX2_newest.1 ∈ lw_tbl := (List.mem_of_getElem? (i := 156) (by decide +kernel))
theorem lkX2_20 : Cond.methodLink RX2 20 mJx4a65c_size_8abf5.1 ∈ lw_tbl := (List.mem_of_getElem? (i := 160) (by decide +kernel))
theorem lkL_164 : Cond.methodLink RL 164 mX8_time.1 ∈ lw_tbl := (List.mem_of_getElem? (i := 164) (by decide +kernel))
theorem lkL_208 : Cond.methodLink RL 208 mX8_audits.1 ∈ lw_tbl := (List.mem_of_getElem? (i := 168) (by decide +kernel))
theorem lkX8_90 : Cond.methodLink RX8 90 mJx4a65c_size_8abf5.1 ∈ lw_tbl := (List.mem_of_getElem? (i := 172) (by decide +kernel))
theorem lkL_230 : Cond.methodLink RL 230 mX8_breaches.1 ∈ lw_tbl := (List.mem_of_getElem? (i := 173) (by decide +kernel))
theorem lkX8_149 : Cond.methodLink RX8 149 mJx4a65c_get_915e3.1 ∈ lw_tbl := (List.mem_of_getElem? (i := 177) (by decide +kernel))
theorem lkJx4a65c_118 : Cond.methodLink RJx4a65c 118 mJ15_checkIndex_7cf53.1 ∈ lw_tbl := (List.mem_of_getElem? (i := 181) (by decide +kernel))
theorem lkJ15_105 : Cond.methodLink RJ15 105 mJ3_checkIndex_8e157.1 ∈ lw_tbl := (List.mem_of_getElem? (i := 184) (by decide +kernel))
theorem lkJx4a65c_123 : Cond.methodLink RJx4a65c 123 mJx4a65c_elementData_915e3.1 ∈ lw_tbl := (List.mem_of_getElem? (i := 187) (by decide +kernel))
theorem lkX8_229 : Cond.methodLink RX8 229 mX8_isToldAsBreach.1 ∈ lw_tbl := (List.mem_of_getElem? (i := 192) (by decide +kernel))
theorem lkX8_225 : Cond.methodLink RX8 225 mX0_isInCloud.1 ∈ lw_tbl := (List.mem_of_getElem? (i := 196) (by decide +kernel))
theorem lkX8_290 : Cond.methodLink RX8 290 mX2_newestAt.1 ∈ lw_tbl := (List.mem_of_getElem? (i := 200) (by decide +kernel))
theorem lkX2_24 : Cond.methodLink RX2 24 mJx4a65c_get_915e3.1 ∈ lw_tbl := (List.mem_of_getElem? (i := 204) (by decide +kernel))
theorem lkX8_177 : Cond.methodLink RX8 177 mX2_letterIn.1 ∈ lw_tbl := (List.mem_of_getElem? (i := 206) (by decide +kernel))
theorem lkX2_46 : Cond.methodLink RX2 46 mX2_keyIn.1 ∈ lw_tbl := (List.mem_of_getElem? (i := 210) (by decide +kernel))
theorem lkX2_37 : Cond.methodLink RX2 37 mJ9_min_7cf53.1 ∈ lw_tbl := (List.mem_of_getElem? (i := 214) (by decide +kernel))
theorem lkX2_50 : Cond.methodLink RX2 50 mX4_letterAt.1 ∈ lw_tbl := (List.mem_of_getElem? (i := 217) (by decide +kernel))
theorem lkL_237 : Cond.methodLink RL 237 mX8_delays.1 ∈ lw_tbl := (List.mem_of_getElem? (i := 221) (by decide +kernel))
theorem lkL_251 : Cond.methodLink RL 251 mX8_isSound.1 ∈ lw_tbl := (List.mem_of_getElem? (i := 225) (by decide +kernel))
theorem lkX8_255 : Cond.methodLink RX8 255 mX8_areDoorsSound.1 ∈ lw_tbl := (List.mem_of_getElem? (i := 229) (by decide +kernel))
theorem lkX8_197 : Cond.methodLink RX8 197 mX6_replay.1 ∈ lw_tbl := (List.mem_of_getElem? (i := 234) (by decide +kernel))
theorem lkX6_30 : Cond.methodLink RX6 30 mJ7_fill_53178.1 ∈ lw_tbl := (List.mem_of_getElem? (i := 238) (by decide +kernel))
theorem lkX6_22 : Cond.methodLink RX6 22 mJx4a65c_size_8abf5.1 ∈ lw_tbl := (List.mem_of_getElem? (i := 241) (by decide +kernel))
theorem lkX6_36 : Cond.methodLink RX6 36 mJx4a65c_get_915e3.1 ∈ lw_tbl := (List.mem_of_getElem? (i := 242) (by decide +kernel))
theorem lkX6_52 : Cond.methodLink RX6 52 mJ9_max_7cf53.1 ∈ lw_tbl := (List.mem_of_getElem? (i := 244) (by decide +kernel))
theorem lkX8_258 : Cond.methodLink RX8 258 mX8_arePhonesSound.1 ∈ lw_tbl := (List.mem_of_getElem? (i := 247) (by decide +kernel))
theorem lkX8_261 : Cond.methodLink RX8 261 mX8_areAuditsSound.1 ∈ lw_tbl := (List.mem_of_getElem? (i := 252) (by decide +kernel))
theorem lkX8_217 : Cond.methodLink RX8 217 mX8_letterAgain.1 ∈ lw_tbl := (List.mem_of_getElem? (i := 256) (by decide +kernel))
theorem lkL_127 : Cond.methodLink RL 127 mL_addKey.1 ∈ lw_tbl := (List.mem_of_getElem? (i := 260) (by decide +kernel))
theorem lkL_7 : Cond.methodLink RL 7 mX8_addKey.1 ∈ lw_tbl := (List.mem_of_getElem? (i := 265) (by decide +kernel))
theorem lkX8_40 : Cond.methodLink RX8 40 mX8_checkDoorSet.1 ∈ lw_tbl := (List.mem_of_getElem? (i := 269) (by decide +kernel))
theorem lkX8_44 : Cond.methodLink RX8 44 mX8_checkTimes.1 ∈ lw_tbl := (List.mem_of_getElem? (i := 343) (by decide +kernel))
theorem lkX8_58 : Cond.methodLink RX8 58 mX8_checkRoomForChange.1 ∈ lw_tbl := (List.mem_of_getElem? (i := 364) (by decide +kernel))
theorem lkX8_63 : Cond.methodLink RX8 63 mX4_init.1 ∈ lw_tbl := (List.mem_of_getElem? (i := 371) (by decide +kernel))
theorem lkX4_1 : Cond.methodLink RX4 1 objectInit ∈ lw_tbl := (List.mem_of_getElem? (i := 374) (by decide +kernel))
theorem lkX8_66 : Cond.methodLink RX8 66 mX2_keep.1 ∈ lw_tbl := (List.mem_of_getElem? (i := 400) (by decide +kernel))
theorem lkX2_33 : Cond.methodLink RX2 33 mJx4a65c_add_9ea2d.1 ∈ lw_tbl := (List.mem_of_getElem? (i := 404) (by decide +kernel))
theorem lkJx4a65c_131 : Cond.methodLink RJx4a65c 131 mJx4a65c_add_72be8.1 ∈ lw_tbl := (List.mem_of_getElem? (i := 408) (by decide +kernel))
theorem lkJx4a65c_129 : Cond.methodLink RJx4a65c 129 mJx4a65c_grow_d5877.1 ∈ lw_tbl := (List.mem_of_getElem? (i := 412) (by decide +kernel))
theorem lkJx4a65c_69 : Cond.methodLink RJx4a65c 69 mJx4a65c_grow_92f84.1 ∈ lw_tbl := (List.mem_of_getElem? (i := 416) (by decide +kernel))
theorem lkJx4a65c_73 : Cond.methodLink RJx4a65c 73 mJ8_newLength_cabcc.1 ∈ lw_tbl := (List.mem_of_getElem? (i := 420) (by decide +kernel))
theorem lkJ8_194 : Cond.methodLink RJ8 194 mJ9_max_7cf53.1 ∈ lw_tbl := (List.mem_of_getElem? (i := 423) (by decide +kernel))
theorem lkJ8_201 : Cond.methodLink RJ8 201 mJ8_hugeLength_7cf53.1 ∈ lw_tbl := (List.mem_of_getElem? (i := 425) (by decide +kernel))
theorem lkJx4a65c_66 : Cond.methodLink RJx4a65c 66 mJ7_copyOf_1904c.1 ∈ lw_tbl := (List.mem_of_getElem? (i := 428) (by decide +kernel))
theorem lkJ7_86 : Cond.methodLink RJ7 86 ⟨"java/lang/Object", "getClass", "()Ljava/lang/Class;"⟩ ∈ lw_tbl := (List.mem_of_getElem? (i := 431) (by decide +kernel))
theorem lkJ7_300 : Cond.methodLink RJ7 300 mJ7_copyOf_6403c.1 ∈ lw_tbl := (List.mem_of_getElem? (i := 451) (by decide +kernel))
theorem lkJ7_304 : Cond.methodLink RJ7 304 mJ9_min_7cf53.1 ∈ lw_tbl := (List.mem_of_getElem? (i := 457) (by decide +kernel))
theorem lkJ7_150 : Cond.methodLink RJ7 150 arraycopyName ∈ lw_tbl := (List.mem_of_getElem? (i := 458) (by decide +kernel))
theorem lkJx4a65c_79 : Cond.methodLink RJx4a65c 79 mJ9_max_7cf53.1 ∈ lw_tbl := (List.mem_of_getElem? (i := 461) (by decide +kernel))
theorem lkL_136 : Cond.methodLink RL 136 mL_setTimes.1 ∈ lw_tbl := (List.mem_of_getElem? (i := 463) (by decide +kernel))
theorem lkL_17 : Cond.methodLink RL 17 mX8_setTimes.1 ∈ lw_tbl := (List.mem_of_getElem? (i := 467) (by decide +kernel))
theorem lkX8_70 : Cond.methodLink RX8 70 mX8_presentKey.1 ∈ lw_tbl := (List.mem_of_getElem? (i := 471) (by decide +kernel))
theorem lkX8_200 : Cond.methodLink RX8 200 mX2_keyIn.1 ∈ lw_tbl := (List.mem_of_getElem? (i := 475) (by decide +kernel))
theorem lkX8_74 : Cond.methodLink RX8 74 mX8_checkNotRevoked.1 ∈ lw_tbl := (List.mem_of_getElem? (i := 492) (by decide +kernel))
theorem lkL_139 : Cond.methodLink RL 139 mL_setDoors.1 ∈ lw_tbl := (List.mem_of_getElem? (i := 496) (by decide +kernel))
theorem lkL_22 : Cond.methodLink RL 22 mX8_setDoors.1 ∈ lw_tbl := (List.mem_of_getElem? (i := 499) (by decide +kernel))
theorem lkL_143 : Cond.methodLink RL 143 mL_revoke.1 ∈ lw_tbl := (List.mem_of_getElem? (i := 503) (by decide +kernel))
theorem lkL_26 : Cond.methodLink RL 26 mX8_revoke.1 ∈ lw_tbl := (List.mem_of_getElem? (i := 506) (by decide +kernel))
theorem lkL_151 : Cond.methodLink RL 151 mL_addDoor.1 ∈ lw_tbl := (List.mem_of_getElem? (i := 510) (by decide +kernel))
theorem lkL_30 : Cond.methodLink RL 30 mX8_addDoor.1 ∈ lw_tbl := (List.mem_of_getElem? (i := 513) (by decide +kernel))
theorem lkX8_97 : Cond.methodLink RX8 97 mX3_init.1 ∈ lw_tbl := (List.mem_of_getElem? (i := 519) (by decide +kernel))
theorem lkX3_1 : Cond.methodLink RX3 1 objectInit ∈ lw_tbl := (List.mem_of_getElem? (i := 522) (by decide +kernel))
theorem lkX8_99 : Cond.methodLink RX8 99 mJx4a65c_add_9ea2d.1 ∈ lw_tbl := (List.mem_of_getElem? (i := 542) (by decide +kernel))
theorem lkL_155 : Cond.methodLink RL 155 mL_setRate.1 ∈ lw_tbl := (List.mem_of_getElem? (i := 543) (by decide +kernel))
theorem lkL_34 : Cond.methodLink RL 34 mX8_setRate.1 ∈ lw_tbl := (List.mem_of_getElem? (i := 570) (by decide +kernel))
theorem lkX8_103 : Cond.methodLink RX8 103 mX8_doorOf.1 ∈ lw_tbl := (List.mem_of_getElem? (i := 574) (by decide +kernel))
theorem lkX8_112 : Cond.methodLink RX8 112 mX3_minuteAt.1 ∈ lw_tbl := (List.mem_of_getElem? (i := 592) (by decide +kernel))
theorem lkX3_26 : Cond.methodLink RX3 26 mX3_driftAt.1 ∈ lw_tbl := (List.mem_of_getElem? (i := 596) (by decide +kernel))
theorem lkX8_116 : Cond.methodLink RX8 116 mX3_setClock.1 ∈ lw_tbl := (List.mem_of_getElem? (i := 600) (by decide +kernel))
theorem lkL_158 : Cond.methodLink RL 158 mL_addPhone.1 ∈ lw_tbl := (List.mem_of_getElem? (i := 605) (by decide +kernel))
theorem lkL_39 : Cond.methodLink RL 39 mX8_addPhone.1 ∈ lw_tbl := (List.mem_of_getElem? (i := 608) (by decide +kernel))
theorem lkX8_128 : Cond.methodLinkNest RX8 128 mX7_init.1 "Doorledger" ∈ lw_tbl := (List.mem_of_getElem? (i := 614) (by decide +kernel))
theorem lkX7_1 : Cond.methodLink RX7 1 objectInit ∈ lw_tbl := (List.mem_of_getElem? (i := 617) (by decide +kernel))
theorem lkL_161 : Cond.methodLink RL 161 mL_pass.1 ∈ lw_tbl := (List.mem_of_getElem? (i := 623) (by decide +kernel))
theorem lkL_42 : Cond.methodLink RL 42 mX8_pass.1 ∈ lw_tbl := (List.mem_of_getElem? (i := 626) (by decide +kernel))
theorem lkL_168 : Cond.methodLink RL 168 mL_meetCloud.1 ∈ lw_tbl := (List.mem_of_getElem? (i := 632) (by decide +kernel))
theorem lkL_45 : Cond.methodLink RL 45 mX8_meetCloud.1 ∈ lw_tbl := (List.mem_of_getElem? (i := 635) (by decide +kernel))
theorem lkX8_134 : Cond.methodLink RX8 134 mX8_phoneOf.1 ∈ lw_tbl := (List.mem_of_getElem? (i := 639) (by decide +kernel))
theorem lkX8_143 : Cond.methodLink RX8 143 mX5_init.1 ∈ lw_tbl := (List.mem_of_getElem? (i := 646) (by decide +kernel))
theorem lkX5_1 : Cond.methodLink RX5 1 objectInit ∈ lw_tbl := (List.mem_of_getElem? (i := 649) (by decide +kernel))
theorem lkX8_146 : Cond.methodLink RX8 146 mX6_keep.1 ∈ lw_tbl := (List.mem_of_getElem? (i := 663) (by decide +kernel))
theorem lkX6_26 : Cond.methodLink RX6 26 mJx4a65c_add_9ea2d.1 ∈ lw_tbl := (List.mem_of_getElem? (i := 667) (by decide +kernel))
theorem lkX8_155 : Cond.methodLink RX8 155 mX0_isCarriedBy.1 ∈ lw_tbl := (List.mem_of_getElem? (i := 668) (by decide +kernel))
theorem lkL_171 : Cond.methodLink RL 171 mL_meetDoor.1 ∈ lw_tbl := (List.mem_of_getElem? (i := 672) (by decide +kernel))
theorem lkL_48 : Cond.methodLink RL 48 mX8_meetDoor.1 ∈ lw_tbl := (List.mem_of_getElem? (i := 675) (by decide +kernel))
theorem lkX8_163 : Cond.methodLink RX8 163 mJ9_max_7cf53.1 ∈ lw_tbl := (List.mem_of_getElem? (i := 679) (by decide +kernel))
theorem lkX8_169 : Cond.methodLink RX8 169 mX0_isWaitingAt.1 ∈ lw_tbl := (List.mem_of_getElem? (i := 680) (by decide +kernel))
theorem lkL_174 : Cond.methodLink RL 174 mL_open.1 ∈ lw_tbl := (List.mem_of_getElem? (i := 684) (by decide +kernel))
theorem lkL_51 : Cond.methodLink RL 51 mX8_open.1 ∈ lw_tbl := (List.mem_of_getElem? (i := 687) (by decide +kernel))
theorem lkX8_181 : Cond.methodLink RX8 181 mX0_init.1 ∈ lw_tbl := (List.mem_of_getElem? (i := 693) (by decide +kernel))
theorem lkX0_1 : Cond.methodLink RX0 1 objectInit ∈ lw_tbl := (List.mem_of_getElem? (i := 696) (by decide +kernel))
theorem lkL_177 : Cond.methodLink RL 177 mL_answer.1 ∈ lw_tbl := (List.mem_of_getElem? (i := 730) (by decide +kernel))
theorem lkL_55 : Cond.methodLink RL 55 mX8_answer.1 ∈ lw_tbl := (List.mem_of_getElem? (i := 733) (by decide +kernel))
theorem lkL_180 : Cond.methodLink RL 180 mL_clock.1 ∈ lw_tbl := (List.mem_of_getElem? (i := 737) (by decide +kernel))
theorem lkL_58 : Cond.methodLink RL 58 mX8_clock.1 ∈ lw_tbl := (List.mem_of_getElem? (i := 740) (by decide +kernel))
theorem lkL_183 : Cond.methodLink RL 183 mL_drifted.1 ∈ lw_tbl := (List.mem_of_getElem? (i := 744) (by decide +kernel))
theorem lkL_61 : Cond.methodLink RL 61 mX8_drifted.1 ∈ lw_tbl := (List.mem_of_getElem? (i := 747) (by decide +kernel))
theorem lkX8_184 : Cond.methodLink RX8 184 mX3_driftAt.1 ∈ lw_tbl := (List.mem_of_getElem? (i := 751) (by decide +kernel))
theorem lkL_187 : Cond.methodLink RL 187 mL_driftedBits.1 ∈ lw_tbl := (List.mem_of_getElem? (i := 752) (by decide +kernel))
theorem lkL_65 : Cond.methodLink RL 65 mX8_driftedBits.1 ∈ lw_tbl := (List.mem_of_getElem? (i := 755) (by decide +kernel))
theorem lkX8_188 : Cond.methodLink RX8 188 mX1_ofFloat.1 ∈ lw_tbl := (List.mem_of_getElem? (i := 759) (by decide +kernel))
theorem lkX1_13 : Cond.methodLink RX1 13 mX1_ofDouble.1 ∈ lw_tbl := (List.mem_of_getElem? (i := 762) (by decide +kernel))
theorem lkL_190 : Cond.methodLink RL 190 mL_versionOf.1 ∈ lw_tbl := (List.mem_of_getElem? (i := 768) (by decide +kernel))
theorem lkL_68 : Cond.methodLink RL 68 mX8_versionOf.1 ∈ lw_tbl := (List.mem_of_getElem? (i := 771) (by decide +kernel))
theorem lkL_193 : Cond.methodLink RL 193 mL_versionByReplay.1 ∈ lw_tbl := (List.mem_of_getElem? (i := 775) (by decide +kernel))
theorem lkL_71 : Cond.methodLink RL 71 mX8_versionByReplay.1 ∈ lw_tbl := (List.mem_of_getElem? (i := 778) (by decide +kernel))
theorem lkL_196 : Cond.methodLink RL 196 mL_versionOn.1 ∈ lw_tbl := (List.mem_of_getElem? (i := 782) (by decide +kernel))
theorem lkL_74 : Cond.methodLink RL 74 mX8_versionOn.1 ∈ lw_tbl := (List.mem_of_getElem? (i := 785) (by decide +kernel))
theorem lkL_199 : Cond.methodLink RL 199 mL_fromIn.1 ∈ lw_tbl := (List.mem_of_getElem? (i := 789) (by decide +kernel))
theorem lkL_77 : Cond.methodLink RL 77 mX8_fromIn.1 ∈ lw_tbl := (List.mem_of_getElem? (i := 792) (by decide +kernel))
theorem lkL_202 : Cond.methodLink RL 202 mL_waiting.1 ∈ lw_tbl := (List.mem_of_getElem? (i := 797) (by decide +kernel))
theorem lkL_80 : Cond.methodLink RL 80 mX8_waiting.1 ∈ lw_tbl := (List.mem_of_getElem? (i := 800) (by decide +kernel))
theorem lkL_205 : Cond.methodLink RL 205 mL_carried.1 ∈ lw_tbl := (List.mem_of_getElem? (i := 804) (by decide +kernel))
theorem lkL_83 : Cond.methodLink RL 83 mX8_carried.1 ∈ lw_tbl := (List.mem_of_getElem? (i := 807) (by decide +kernel))
theorem lkL_212 : Cond.methodLink RL 212 mL_letterOf.1 ∈ lw_tbl := (List.mem_of_getElem? (i := 811) (by decide +kernel))
theorem lkL_86 : Cond.methodLink RL 86 mX8_letterOf.1 ∈ lw_tbl := (List.mem_of_getElem? (i := 814) (by decide +kernel))
theorem lkX8_209 : Cond.methodLink RX8 209 mX8_auditOf.1 ∈ lw_tbl := (List.mem_of_getElem? (i := 818) (by decide +kernel))
theorem lkL_215 : Cond.methodLink RL 215 mL_letterByList.1 ∈ lw_tbl := (List.mem_of_getElem? (i := 823) (by decide +kernel))
theorem lkL_90 : Cond.methodLink RL 90 mX8_letterByList.1 ∈ lw_tbl := (List.mem_of_getElem? (i := 826) (by decide +kernel))
theorem lkL_218 : Cond.methodLink RL 218 mL_minuteOf.1 ∈ lw_tbl := (List.mem_of_getElem? (i := 830) (by decide +kernel))
theorem lkL_93 : Cond.methodLink RL 93 mX8_minuteOf.1 ∈ lw_tbl := (List.mem_of_getElem? (i := 833) (by decide +kernel))
theorem lkL_221 : Cond.methodLink RL 221 mL_versionAt.1 ∈ lw_tbl := (List.mem_of_getElem? (i := 837) (by decide +kernel))
theorem lkL_96 : Cond.methodLink RL 96 mX8_versionAt.1 ∈ lw_tbl := (List.mem_of_getElem? (i := 840) (by decide +kernel))
theorem lkL_224 : Cond.methodLink RL 224 mL_hasArrived.1 ∈ lw_tbl := (List.mem_of_getElem? (i := 844) (by decide +kernel))
theorem lkL_99 : Cond.methodLink RL 99 mX8_hasArrived.1 ∈ lw_tbl := (List.mem_of_getElem? (i := 847) (by decide +kernel))
theorem lkL_227 : Cond.methodLink RL 227 mL_isBreach.1 ∈ lw_tbl := (List.mem_of_getElem? (i := 851) (by decide +kernel))
theorem lkL_103 : Cond.methodLink RL 103 mX8_isBreach.1 ∈ lw_tbl := (List.mem_of_getElem? (i := 854) (by decide +kernel))
theorem lkL_234 : Cond.methodLink RL 234 mL_breachesAt.1 ∈ lw_tbl := (List.mem_of_getElem? (i := 858) (by decide +kernel))
theorem lkL_106 : Cond.methodLink RL 106 mX8_breachesAt.1 ∈ lw_tbl := (List.mem_of_getElem? (i := 861) (by decide +kernel))
theorem lkL_241 : Cond.methodLink RL 241 mL_meanDelay.1 ∈ lw_tbl := (List.mem_of_getElem? (i := 865) (by decide +kernel))
theorem lkL_109 : Cond.methodLink RL 109 mX8_meanDelay.1 ∈ lw_tbl := (List.mem_of_getElem? (i := 882) (by decide +kernel))
theorem lkX8_239 : Cond.methodLink RX8 239 mX8_meanOfDelays.1 ∈ lw_tbl := (List.mem_of_getElem? (i := 886) (by decide +kernel))
theorem lkX8_252 : Cond.methodLink RX8 252 mX8_arrivedCount.1 ∈ lw_tbl := (List.mem_of_getElem? (i := 890) (by decide +kernel))
theorem lkX8_295 : Cond.methodLink RX8 295 mX8_delays.1 ∈ lw_tbl := (List.mem_of_getElem? (i := 897) (by decide +kernel))
theorem lkL_245 : Cond.methodLink RL 245 mL_meanBits.1 ∈ lw_tbl := (List.mem_of_getElem? (i := 898) (by decide +kernel))
theorem lkL_115 : Cond.methodLink RL 115 mX8_meanBits.1 ∈ lw_tbl := (List.mem_of_getElem? (i := 901) (by decide +kernel))
theorem lkX8_243 : Cond.methodLink RX8 243 mX1_ofDouble.1 ∈ lw_tbl := (List.mem_of_getElem? (i := 905) (by decide +kernel))
theorem lkL_248 : Cond.methodLink RL 248 mL_arrivedShare.1 ∈ lw_tbl := (List.mem_of_getElem? (i := 906) (by decide +kernel))
theorem lkL_119 : Cond.methodLink RL 119 mX8_arrivedShare.1 ∈ lw_tbl := (List.mem_of_getElem? (i := 909) (by decide +kernel))
theorem lkL_126 : Cond.methodLink RL 126 mX9_init.1 ∈ lw_tbl := (List.mem_of_getElem? (i := 916) (by decide +kernel))
theorem lkX9_1 : Cond.methodLink RX9 1 objectInit ∈ lw_tbl := (List.mem_of_getElem? (i := 919) (by decide +kernel))
theorem lkL_133 : Cond.methodLink RL 133 mX9_thrown.1 ∈ lw_tbl := (List.mem_of_getElem? (i := 1003) (by decide +kernel))
theorem lkL_132 : Cond.methodLink RL 132 mX9_addKey.1 ∈ lw_tbl := (List.mem_of_getElem? (i := 1007) (by decide +kernel))
theorem lkX9_80 : Cond.methodLink RX9 80 mX9_isBetween.1 ∈ lw_tbl := (List.mem_of_getElem? (i := 1011) (by decide +kernel))
theorem lkX9_98 : Cond.methodLink RX9 98 mX9_areTimes.1 ∈ lw_tbl := (List.mem_of_getElem? (i := 1014) (by decide +kernel))
theorem lkX9_102 : Cond.methodLink RX9 102 mX9_fails.1 ∈ lw_tbl := (List.mem_of_getElem? (i := 1019) (by decide +kernel))
theorem lkX9_106 : Cond.methodLink RX9 106 mX9_changes.1 ∈ lw_tbl := (List.mem_of_getElem? (i := 1023) (by decide +kernel))
theorem lkL_138 : Cond.methodLink RL 138 mX9_setTimes.1 ∈ lw_tbl := (List.mem_of_getElem? (i := 1027) (by decide +kernel))
theorem lkX9_109 : Cond.methodLink RX9 109 mX9_isKey.1 ∈ lw_tbl := (List.mem_of_getElem? (i := 1031) (by decide +kernel))
theorem lkX9_113 : Cond.methodLink RX9 113 mX9_isStuck.1 ∈ lw_tbl := (List.mem_of_getElem? (i := 1035) (by decide +kernel))
theorem lkL_142 : Cond.methodLink RL 142 mX9_setDoors.1 ∈ lw_tbl := (List.mem_of_getElem? (i := 1039) (by decide +kernel))
theorem lkL_146 : Cond.methodLink RL 146 mX9_revoke.1 ∈ lw_tbl := (List.mem_of_getElem? (i := 1043) (by decide +kernel))
theorem lkL_150 : Cond.methodLink RL 150 mX9_version.1 ∈ lw_tbl := (List.mem_of_getElem? (i := 1047) (by decide +kernel))
theorem lkL_154 : Cond.methodLink RL 154 mX9_addDoor.1 ∈ lw_tbl := (List.mem_of_getElem? (i := 1051) (by decide +kernel))
theorem lkL_157 : Cond.methodLink RL 157 mX9_setRate.1 ∈ lw_tbl := (List.mem_of_getElem? (i := 1055) (by decide +kernel))
theorem lkX9_120 : Cond.methodLink RX9 120 mX9_isDoor.1 ∈ lw_tbl := (List.mem_of_getElem? (i := 1059) (by decide +kernel))
theorem lkX9_123 : Cond.methodLink RX9 123 mX9_clockOf.1 ∈ lw_tbl := (List.mem_of_getElem? (i := 1063) (by decide +kernel))
theorem lkX9_116 : Cond.methodLink RX9 116 mX9_driftedOf.1 ∈ lw_tbl := (List.mem_of_getElem? (i := 1067) (by decide +kernel))
theorem lkX9_126 : Cond.methodLink RX9 126 mX9_sets.1 ∈ lw_tbl := (List.mem_of_getElem? (i := 1071) (by decide +kernel))
theorem lkL_160 : Cond.methodLink RL 160 mX9_addPhone.1 ∈ lw_tbl := (List.mem_of_getElem? (i := 1076) (by decide +kernel))
theorem lkL_163 : Cond.methodLink RL 163 mX9_pass.1 ∈ lw_tbl := (List.mem_of_getElem? (i := 1080) (by decide +kernel))
theorem lkL_167 : Cond.methodLink RL 167 mX9_time.1 ∈ lw_tbl := (List.mem_of_getElem? (i := 1084) (by decide +kernel))
theorem lkL_170 : Cond.methodLink RL 170 mX9_meetCloud.1 ∈ lw_tbl := (List.mem_of_getElem? (i := 1088) (by decide +kernel))
theorem lkX9_131 : Cond.methodLink RX9 131 mX9_isPhone.1 ∈ lw_tbl := (List.mem_of_getElem? (i := 1092) (by decide +kernel))
theorem lkL_173 : Cond.methodLink RL 173 mX9_meetDoor.1 ∈ lw_tbl := (List.mem_of_getElem? (i := 1096) (by decide +kernel))
theorem lkX9_134 : Cond.methodLink RX9 134 mJ9_max_7cf53.1 ∈ lw_tbl := (List.mem_of_getElem? (i := 1100) (by decide +kernel))
theorem lkL_176 : Cond.methodLink RL 176 mX9_open.1 ∈ lw_tbl := (List.mem_of_getElem? (i := 1101) (by decide +kernel))
theorem lkX9_140 : Cond.methodLink RX9 140 mX9_isNone.1 ∈ lw_tbl := (List.mem_of_getElem? (i := 1105) (by decide +kernel))
theorem lkX9_143 : Cond.methodLink RX9 143 mX9_letter.1 ∈ lw_tbl := (List.mem_of_getElem? (i := 1109) (by decide +kernel))
theorem lkL_179 : Cond.methodLink RL 179 mX9_answer.1 ∈ lw_tbl := (List.mem_of_getElem? (i := 1113) (by decide +kernel))
theorem lkL_182 : Cond.methodLink RL 182 mX9_clock.1 ∈ lw_tbl := (List.mem_of_getElem? (i := 1117) (by decide +kernel))
theorem lkX9_147 : Cond.methodLink RX9 147 mX9_isNowhere.1 ∈ lw_tbl := (List.mem_of_getElem? (i := 1121) (by decide +kernel))
theorem lkL_186 : Cond.methodLink RL 186 mX9_drifted.1 ∈ lw_tbl := (List.mem_of_getElem? (i := 1125) (by decide +kernel))
theorem lkL_189 : Cond.methodLink RL 189 mX9_driftedBits.1 ∈ lw_tbl := (List.mem_of_getElem? (i := 1129) (by decide +kernel))
theorem lkX9_150 : Cond.methodLink RX9 150 mJxf58ca_floatToIntBits_5c35a.1 ∈ lw_tbl := (List.mem_of_getElem? (i := 1133) (by decide +kernel))
theorem lkJxf58ca_59 : Cond.methodLink RJxf58ca 59 mJxf58ca_isNaN_12338.1 ∈ lw_tbl := (List.mem_of_getElem? (i := 1136) (by decide +kernel))
theorem lkJxf58ca_74 : Cond.methodLink RJxf58ca 74 ⟨"java/lang/Float", "floatToRawIntBits", "(F)I"⟩ ∈ lw_tbl := (List.mem_of_getElem? (i := 1139) (by decide +kernel))
theorem lkL_192 : Cond.methodLink RL 192 mX9_versionOf.1 ∈ lw_tbl := (List.mem_of_getElem? (i := 1143) (by decide +kernel))
theorem lkL_195 : Cond.methodLink RL 195 mX9_versionByReplay.1 ∈ lw_tbl := (List.mem_of_getElem? (i := 1147) (by decide +kernel))
theorem lkX9_156 : Cond.methodLink RX9 156 mX9_versionOf.1 ∈ lw_tbl := (List.mem_of_getElem? (i := 1151) (by decide +kernel))
theorem lkL_198 : Cond.methodLink RL 198 mX9_versionOn.1 ∈ lw_tbl := (List.mem_of_getElem? (i := 1152) (by decide +kernel))
theorem lkL_201 : Cond.methodLink RL 201 mX9_fromIn.1 ∈ lw_tbl := (List.mem_of_getElem? (i := 1156) (by decide +kernel))
theorem lkL_204 : Cond.methodLink RL 204 mX9_waiting.1 ∈ lw_tbl := (List.mem_of_getElem? (i := 1160) (by decide +kernel))
theorem lkL_207 : Cond.methodLink RL 207 mX9_carried.1 ∈ lw_tbl := (List.mem_of_getElem? (i := 1164) (by decide +kernel))
theorem lkL_211 : Cond.methodLink RL 211 mX9_audits.1 ∈ lw_tbl := (List.mem_of_getElem? (i := 1168) (by decide +kernel))
theorem lkL_214 : Cond.methodLink RL 214 mX9_letterOf.1 ∈ lw_tbl := (List.mem_of_getElem? (i := 1172) (by decide +kernel))
theorem lkX9_162 : Cond.methodLink RX9 162 mX9_isNoAudit.1 ∈ lw_tbl := (List.mem_of_getElem? (i := 1176) (by decide +kernel))
theorem lkX9_159 : Cond.methodLink RX9 159 mX9_isAudit.1 ∈ lw_tbl := (List.mem_of_getElem? (i := 1180) (by decide +kernel))
theorem lkL_217 : Cond.methodLink RL 217 mX9_letterByList.1 ∈ lw_tbl := (List.mem_of_getElem? (i := 1184) (by decide +kernel))
theorem lkL_220 : Cond.methodLink RL 220 mX9_minuteOf.1 ∈ lw_tbl := (List.mem_of_getElem? (i := 1188) (by decide +kernel))
theorem lkL_223 : Cond.methodLink RL 223 mX9_versionAt.1 ∈ lw_tbl := (List.mem_of_getElem? (i := 1192) (by decide +kernel))
theorem lkL_226 : Cond.methodLink RL 226 mX9_hasArrived.1 ∈ lw_tbl := (List.mem_of_getElem? (i := 1196) (by decide +kernel))
theorem lkL_229 : Cond.methodLink RL 229 mX9_isBreach.1 ∈ lw_tbl := (List.mem_of_getElem? (i := 1200) (by decide +kernel))
theorem lkX9_165 : Cond.methodLink RX9 165 mX9_isBroken.1 ∈ lw_tbl := (List.mem_of_getElem? (i := 1204) (by decide +kernel))
theorem lkL_233 : Cond.methodLink RL 233 mX9_breaches.1 ∈ lw_tbl := (List.mem_of_getElem? (i := 1208) (by decide +kernel))
theorem lkL_236 : Cond.methodLink RL 236 mX9_breachesAt.1 ∈ lw_tbl := (List.mem_of_getElem? (i := 1212) (by decide +kernel))
theorem lkL_240 : Cond.methodLink RL 240 mX9_delays.1 ∈ lw_tbl := (List.mem_of_getElem? (i := 1216) (by decide +kernel))
theorem lkX9_168 : Cond.methodLink RX9 168 mX9_delaySum.1 ∈ lw_tbl := (List.mem_of_getElem? (i := 1220) (by decide +kernel))
theorem lkL_244 : Cond.methodLink RL 244 mX9_meanDelay.1 ∈ lw_tbl := (List.mem_of_getElem? (i := 1224) (by decide +kernel))
theorem lkX9_176 : Cond.methodLink RX9 176 mX9_mean.1 ∈ lw_tbl := (List.mem_of_getElem? (i := 1228) (by decide +kernel))
theorem lkX9_172 : Cond.methodLink RX9 172 mX9_arrivedMany.1 ∈ lw_tbl := (List.mem_of_getElem? (i := 1232) (by decide +kernel))
theorem lkL_247 : Cond.methodLink RL 247 mX9_meanBits.1 ∈ lw_tbl := (List.mem_of_getElem? (i := 1236) (by decide +kernel))
theorem lkX9_180 : Cond.methodLink RX9 180 mJxe99ae_doubleToLongBits_ccdee.1 ∈ lw_tbl := (List.mem_of_getElem? (i := 1240) (by decide +kernel))
theorem lkJxe99ae_122 : Cond.methodLink RJxe99ae 122 mJxe99ae_isNaN_b9ae7.1 ∈ lw_tbl := (List.mem_of_getElem? (i := 1243) (by decide +kernel))
theorem lkJxe99ae_134 : Cond.methodLink RJxe99ae 134 ⟨"java/lang/Double", "doubleToRawLongBits", "(D)J"⟩ ∈ lw_tbl := (List.mem_of_getElem? (i := 1246) (by decide +kernel))
theorem lkL_250 : Cond.methodLink RL 250 mX9_arrivedShare.1 ∈ lw_tbl := (List.mem_of_getElem? (i := 1250) (by decide +kernel))
theorem lkL_255 : Cond.methodLink RL 255 mX9_isSound.1 ∈ lw_tbl := (List.mem_of_getElem? (i := 1254) (by decide +kernel))
theorem st_min : Cond.static Lib.Math.min.name ∈ lw_tbl := (List.mem_of_getElem? (i := 215) (by decide +kernel))
theorem co_min : Cond.code Lib.Math.min.name Lib.Math.min.code 2 (some .int) ∈ lw_tbl := (List.mem_of_getElem? (i := 216) (by decide +kernel))
theorem st_max : Cond.static Lib.Math.max.name ∈ lw_tbl := (List.mem_of_getElem? (i := 245) (by decide +kernel))
theorem co_max : Cond.code Lib.Math.max.name Lib.Math.max.code 2 (some .int) ∈ lw_tbl := (List.mem_of_getElem? (i := 246) (by decide +kernel))
theorem im_obj : Cond.instanceMethod objectInit ∈ lw_tbl := (List.mem_of_getElem? (i := 73) (by decide +kernel))
theorem co_obj : Cond.code objectInit ⟨#[0xb1]⟩ 1 none ∈ lw_tbl := (List.mem_of_getElem? (i := 74) (by decide +kernel))
theorem ini_L : Cond.initialized RL ∈ lw_tbl := (List.mem_of_getElem? (i := 34) (by decide +kernel))
theorem ini_X8 : Cond.initialized RX8 ∈ lw_tbl := (List.mem_of_getElem? (i := 35) (by decide +kernel))
theorem ini_X2 : Cond.initialized RX2 ∈ lw_tbl := (List.mem_of_getElem? (i := 36) (by decide +kernel))
theorem ini_Jxa1e45 : Cond.initialized RJxa1e45 ∈ lw_tbl := (List.mem_of_getElem? (i := 37) (by decide +kernel))
theorem ini_Jxc12de : Cond.initialized RJxc12de ∈ lw_tbl := (List.mem_of_getElem? (i := 38) (by decide +kernel))
theorem ini_Jx4a65c : Cond.initialized RJx4a65c ∈ lw_tbl := (List.mem_of_getElem? (i := 39) (by decide +kernel))
theorem ini_X6 : Cond.initialized RX6 ∈ lw_tbl := (List.mem_of_getElem? (i := 40) (by decide +kernel))
theorem ini_X9 : Cond.initialized RX9 ∈ lw_tbl := (List.mem_of_getElem? (i := 41) (by decide +kernel))
theorem ini_X4 : Cond.initialized RX4 ∈ lw_tbl := (List.mem_of_getElem? (i := 47) (by decide +kernel))
theorem ini_J8 : Cond.initialized RJ8 ∈ lw_tbl := (List.mem_of_getElem? (i := 48) (by decide +kernel))
theorem ini_J9 : Cond.initialized RJ9 ∈ lw_tbl := (List.mem_of_getElem? (i := 49) (by decide +kernel))
theorem ini_J7 : Cond.initialized RJ7 ∈ lw_tbl := (List.mem_of_getElem? (i := 50) (by decide +kernel))
theorem ini_J10 : Cond.initialized RJ10 ∈ lw_tbl := (List.mem_of_getElem? (i := 51) (by decide +kernel))
theorem ini_J15 : Cond.initialized RJ15 ∈ lw_tbl := (List.mem_of_getElem? (i := 52) (by decide +kernel))
theorem ini_J3 : Cond.initialized RJ3 ∈ lw_tbl := (List.mem_of_getElem? (i := 53) (by decide +kernel))
theorem ini_X3 : Cond.initialized RX3 ∈ lw_tbl := (List.mem_of_getElem? (i := 55) (by decide +kernel))
theorem ini_Jx00060 : Cond.initialized RJx00060 ∈ lw_tbl := (List.mem_of_getElem? (i := 57) (by decide +kernel))
theorem ini_J0 : Cond.initialized RJ0 ∈ lw_tbl := (List.mem_of_getElem? (i := 58) (by decide +kernel))
theorem ini_X7 : Cond.initialized RX7 ∈ lw_tbl := (List.mem_of_getElem? (i := 59) (by decide +kernel))
theorem ini_X5 : Cond.initialized RX5 ∈ lw_tbl := (List.mem_of_getElem? (i := 60) (by decide +kernel))
theorem ini_X0 : Cond.initialized RX0 ∈ lw_tbl := (List.mem_of_getElem? (i := 61) (by decide +kernel))
theorem ini_X1 : Cond.initialized RX1 ∈ lw_tbl := (List.mem_of_getElem? (i := 62) (by decide +kernel))
theorem ini_Jxd2413 : Cond.initialized RJxd2413 ∈ lw_tbl := (List.mem_of_getElem? (i := 63) (by decide +kernel))
theorem ini_Jxf58ca : Cond.initialized RJxf58ca ∈ lw_tbl := (List.mem_of_getElem? (i := 64) (by decide +kernel))
theorem ini_Jxe99ae : Cond.initialized RJxe99ae ∈ lw_tbl := (List.mem_of_getElem? (i := 66) (by decide +kernel))
theorem na_fillInStackTrace : Cond.native ⟨"java/lang/Throwable", "fillInStackTrace", "(I)Ljava/lang/Throwable;"⟩ ∈ lw_tbl := (List.mem_of_getElem? (i := 315) (by decide +kernel))
theorem im_fillInStackTrace : Cond.instanceMethod ⟨"java/lang/Throwable", "fillInStackTrace", "(I)Ljava/lang/Throwable;"⟩ ∈ lw_tbl := (List.mem_of_getElem? (i := 313) (by decide +kernel))
theorem na_getClass : Cond.native ⟨"java/lang/Object", "getClass", "()Ljava/lang/Class;"⟩ ∈ lw_tbl := (List.mem_of_getElem? (i := 450) (by decide +kernel))
theorem im_getClass : Cond.instanceMethod ⟨"java/lang/Object", "getClass", "()Ljava/lang/Class;"⟩ ∈ lw_tbl := (List.mem_of_getElem? (i := 432) (by decide +kernel))
theorem de_getClass : Cond.declares ⟨"java/lang/Object", "getClass", "()Ljava/lang/Class;"⟩ ∈ lw_tbl := (List.mem_of_getElem? (i := 1282) (by decide +kernel))
theorem na_arraycopy : Cond.native ⟨"java/lang/System", "arraycopy", "(Ljava/lang/Object;ILjava/lang/Object;II)V"⟩ ∈ lw_tbl := (List.mem_of_getElem? (i := 460) (by decide +kernel))
theorem st_arraycopy : Cond.static ⟨"java/lang/System", "arraycopy", "(Ljava/lang/Object;ILjava/lang/Object;II)V"⟩ ∈ lw_tbl := (List.mem_of_getElem? (i := 459) (by decide +kernel))
theorem na_floatToRawIntBits : Cond.native ⟨"java/lang/Float", "floatToRawIntBits", "(F)I"⟩ ∈ lw_tbl := (List.mem_of_getElem? (i := 1141) (by decide +kernel))
theorem st_floatToRawIntBits : Cond.static ⟨"java/lang/Float", "floatToRawIntBits", "(F)I"⟩ ∈ lw_tbl := (List.mem_of_getElem? (i := 1140) (by decide +kernel))
theorem na_doubleToRawLongBits : Cond.native ⟨"java/lang/Double", "doubleToRawLongBits", "(D)J"⟩ ∈ lw_tbl := (List.mem_of_getElem? (i := 1248) (by decide +kernel))
theorem st_doubleToRawLongBits : Cond.static ⟨"java/lang/Double", "doubleToRawLongBits", "(D)J"⟩ ∈ lw_tbl := (List.mem_of_getElem? (i := 1247) (by decide +kernel))
theorem se_getClass : Cond.selects "[Ljava/lang/Object;" ⟨"java/lang/Object", "getClass", "()Ljava/lang/Class;"⟩ ⟨"java/lang/Object", "getClass", "()Ljava/lang/Class;"⟩ ∈ lw_tbl := (List.mem_of_getElem? (i := 1281) (by decide +kernel))
theorem clL_8 : Cond.classLink RL 8 RX8 ∈ lw_tbl := (List.mem_of_getElem? (i := 67) (by decide +kernel))
theorem inX8 : Cond.instantiable RX8 6 ∈ lw_tbl := (List.mem_of_getElem? (i := 68) (by decide +kernel))
theorem clX8_7 : Cond.classLink RX8 7 RX2 ∈ lw_tbl := (List.mem_of_getElem? (i := 75) (by decide +kernel))
theorem inX2 : Cond.instantiable RX2 2 ∈ lw_tbl := (List.mem_of_getElem? (i := 76) (by decide +kernel))
theorem clX2_7 : Cond.classLink RX2 7 RJx4a65c ∈ lw_tbl := (List.mem_of_getElem? (i := 81) (by decide +kernel))
theorem inJx4a65c : Cond.instantiable RJx4a65c 3 ∈ lw_tbl := (List.mem_of_getElem? (i := 82) (by decide +kernel))
theorem clX8_16 : Cond.classLink RX8 16 RJx4a65c ∈ lw_tbl := (List.mem_of_getElem? (i := 115) (by decide +kernel))
theorem clX8_29 : Cond.classLink RX8 29 RX6 ∈ lw_tbl := (List.mem_of_getElem? (i := 117) (by decide +kernel))
theorem inX6 : Cond.instantiable RX6 2 ∈ lw_tbl := (List.mem_of_getElem? (i := 118) (by decide +kernel))
theorem clX6_9 : Cond.classLink RX6 9 RJx4a65c ∈ lw_tbl := (List.mem_of_getElem? (i := 123) (by decide +kernel))
theorem clX8_153 : Cond.classLink RX8 153 RX0 ∈ lw_tbl := (List.mem_of_getElem? (i := 191) (by decide +kernel))
theorem clX2_28 : Cond.classLink RX2 28 RX4 ∈ lw_tbl := (List.mem_of_getElem? (i := 205) (by decide +kernel))
theorem clX8_95 : Cond.classLink RX8 95 RX3 ∈ lw_tbl := (List.mem_of_getElem? (i := 233) (by decide +kernel))
theorem clX6_40 : Cond.classLink RX6 40 RX5 ∈ lw_tbl := (List.mem_of_getElem? (i := 243) (by decide +kernel))
theorem clX8_126 : Cond.classLink RX8 126 RX7 ∈ lw_tbl := (List.mem_of_getElem? (i := 251) (by decide +kernel))
theorem clL_13 : Cond.classLink RL 13 "java/lang/IllegalArgumentException" ∈ lw_tbl := (List.mem_of_getElem? (i := 263) (by decide +kernel))
theorem clL_15 : Cond.classLink RL 15 "java/lang/IllegalStateException" ∈ lw_tbl := (List.mem_of_getElem? (i := 264) (by decide +kernel))
theorem clX8_107 : Cond.classLink RX8 107 "java/lang/IllegalArgumentException" ∈ lw_tbl := (List.mem_of_getElem? (i := 272) (by decide +kernel))
theorem clX8_51 : Cond.classLink RX8 51 "java/lang/IllegalStateException" ∈ lw_tbl := (List.mem_of_getElem? (i := 348) (by decide +kernel))
theorem clX8_61 : Cond.classLink RX8 61 RX4 ∈ lw_tbl := (List.mem_of_getElem? (i := 369) (by decide +kernel))
theorem inX4 : Cond.instantiable RX4 6 ∈ lw_tbl := (List.mem_of_getElem? (i := 370) (by decide +kernel))
theorem clJ7_110 : Cond.classLink RJ7 110 "[Ljava/lang/Object;" ∈ lw_tbl := (List.mem_of_getElem? (i := 454) (by decide +kernel))
theorem clJ7_2 : Cond.classLink RJ7 2 "java/lang/Object" ∈ lw_tbl := (List.mem_of_getElem? (i := 456) (by decide +kernel))
theorem clJx4a65c_7 : Cond.classLink RJx4a65c 7 "java/lang/Object" ∈ lw_tbl := (List.mem_of_getElem? (i := 462) (by decide +kernel))
theorem clL_20 : Cond.classLink RL 20 "java/util/NoSuchElementException" ∈ lw_tbl := (List.mem_of_getElem? (i := 466) (by decide +kernel))
theorem clX8_204 : Cond.classLink RX8 204 "java/util/NoSuchElementException" ∈ lw_tbl := (List.mem_of_getElem? (i := 476) (by decide +kernel))
theorem inX3 : Cond.instantiable RX3 5 ∈ lw_tbl := (List.mem_of_getElem? (i := 518) (by decide +kernel))
theorem clL_37 : Cond.classLink RL 37 "java/lang/IndexOutOfBoundsException" ∈ lw_tbl := (List.mem_of_getElem? (i := 546) (by decide +kernel))
theorem clX8_278 : Cond.classLink RX8 278 "java/lang/IndexOutOfBoundsException" ∈ lw_tbl := (List.mem_of_getElem? (i := 578) (by decide +kernel))
theorem inX7 : Cond.instantiable RX7 1 ∈ lw_tbl := (List.mem_of_getElem? (i := 613) (by decide +kernel))
theorem clX8_141 : Cond.classLink RX8 141 RX5 ∈ lw_tbl := (List.mem_of_getElem? (i := 644) (by decide +kernel))
theorem inX5 : Cond.instantiable RX5 3 ∈ lw_tbl := (List.mem_of_getElem? (i := 645) (by decide +kernel))
theorem inX0 : Cond.instantiable RX0 8 ∈ lw_tbl := (List.mem_of_getElem? (i := 692) (by decide +kernel))
theorem clL_113 : Cond.classLink RL 113 "java/lang/ArithmeticException" ∈ lw_tbl := (List.mem_of_getElem? (i := 868) (by decide +kernel))
theorem clX8_247 : Cond.classLink RX8 247 "java/lang/ArithmeticException" ∈ lw_tbl := (List.mem_of_getElem? (i := 894) (by decide +kernel))
theorem clL_124 : Cond.classLink RL 124 RX9 ∈ lw_tbl := (List.mem_of_getElem? (i := 914) (by decide +kernel))
theorem inX9 : Cond.instantiable RX9 25 ∈ lw_tbl := (List.mem_of_getElem? (i := 915) (by decide +kernel))
theorem clX9_16 : Cond.classLink RX9 16 "[[I" ∈ lw_tbl := (List.mem_of_getElem? (i := 920) (by decide +kernel))
theorem clX9_27 : Cond.classLink RX9 27 "[[Z" ∈ lw_tbl := (List.mem_of_getElem? (i := 922) (by decide +kernel))
theorem caX8 : Cond.castable RX8 "java/lang/Object" ∈ lw_tbl := (List.mem_of_getElem? (i := 1262) (by decide +kernel))
theorem caX2 : Cond.castable RX2 "java/lang/Object" ∈ lw_tbl := (List.mem_of_getElem? (i := 1263) (by decide +kernel))
theorem caJx4a65c : Cond.castable RJx4a65c "java/lang/Object" ∈ lw_tbl := (List.mem_of_getElem? (i := 1264) (by decide +kernel))
theorem caX6 : Cond.castable RX6 "java/lang/Object" ∈ lw_tbl := (List.mem_of_getElem? (i := 1265) (by decide +kernel))
theorem caX9 : Cond.castable RX9 "java/lang/Object" ∈ lw_tbl := (List.mem_of_getElem? (i := 1266) (by decide +kernel))
theorem caX4 : Cond.castable RX4 "java/lang/Object" ∈ lw_tbl := (List.mem_of_getElem? (i := 1269) (by decide +kernel))
theorem caX3 : Cond.castable RX3 "java/lang/Object" ∈ lw_tbl := (List.mem_of_getElem? (i := 1271) (by decide +kernel))
theorem caX7 : Cond.castable RX7 "java/lang/Object" ∈ lw_tbl := (List.mem_of_getElem? (i := 1274) (by decide +kernel))
theorem caX5 : Cond.castable RX5 "java/lang/Object" ∈ lw_tbl := (List.mem_of_getElem? (i := 1275) (by decide +kernel))
theorem caX0 : Cond.castable RX0 "java/lang/Object" ∈ lw_tbl := (List.mem_of_getElem? (i := 1276) (by decide +kernel))
theorem flJx4a65c_9 : FL RJx4a65c 9 TJx4a65c 3 1 := ⟨by decide, Or.inl (List.mem_of_getElem? (i := 95) (by decide +kernel))⟩
theorem flJx4a65c_48 : FL RJx4a65c 48 TJx4a65c 3 2 := ⟨by decide, Or.inl (List.mem_of_getElem? (i := 96) (by decide +kernel))⟩
theorem flJxc12de_7 : FL RJxc12de 7 TJx4a65c 3 0 := ⟨by decide, Or.inl (List.mem_of_getElem? (i := 97) (by decide +kernel))⟩
theorem flJx4a65c_63 : FL RJx4a65c 63 TJx4a65c 3 0 := ⟨by decide, Or.inr (Or.inr ⟨"java/util/ArrayList", (List.mem_of_getElem? (i := 98) (by decide +kernel)), (List.mem_of_getElem? (i := 99) (by decide +kernel))⟩)⟩
theorem flX2_10 : FL RX2 10 TX2 2 0 := ⟨by decide, Or.inl (List.mem_of_getElem? (i := 107) (by decide +kernel))⟩
theorem fiX2_10 : 0 < 2 ∧ Cond.fieldLink RX2 10 (TX2 0).1 (TX2 0).2.1 (TX2 0).2.2.1 ∈ lw_tbl := ⟨by decide, (List.mem_of_getElem? (i := 107) (by decide +kernel))⟩
theorem flX2_16 : FL RX2 16 TX2 2 1 := ⟨by decide, Or.inl (List.mem_of_getElem? (i := 108) (by decide +kernel))⟩
theorem flX8_48 : FL RX8 48 TX2 2 1 := ⟨by decide, Or.inr (Or.inl ⟨"Doorledger", (List.mem_of_getElem? (i := 109) (by decide +kernel))⟩)⟩
theorem flX6_12 : FL RX6 12 TX6 2 0 := ⟨by decide, Or.inl (List.mem_of_getElem? (i := 125) (by decide +kernel))⟩
theorem fiX6_12 : 0 < 2 ∧ Cond.fieldLink RX6 12 (TX6 0).1 (TX6 0).2.1 (TX6 0).2.2.1 ∈ lw_tbl := ⟨by decide, (List.mem_of_getElem? (i := 125) (by decide +kernel))⟩
theorem flX6_18 : FL RX6 18 TX6 2 1 := ⟨by decide, Or.inl (List.mem_of_getElem? (i := 126) (by decide +kernel))⟩
theorem fiX6_18 : 1 < 2 ∧ Cond.fieldLink RX6 18 (TX6 1).1 (TX6 1).2.1 (TX6 1).2.2.1 ∈ lw_tbl := ⟨by decide, (List.mem_of_getElem? (i := 126) (by decide +kernel))⟩
theorem flX8_10 : FL RX8 10 TX8 6 0 := ⟨by decide, Or.inl (List.mem_of_getElem? (i := 133) (by decide +kernel))⟩
theorem fiX8_10 : 0 < 6 ∧ Cond.fieldLink RX8 10 (TX8 0).1 (TX8 0).2.1 (TX8 0).2.2.1 ∈ lw_tbl := ⟨by decide, (List.mem_of_getElem? (i := 133) (by decide +kernel))⟩
theorem flX8_19 : FL RX8 19 TX8 6 1 := ⟨by decide, Or.inl (List.mem_of_getElem? (i := 134) (by decide +kernel))⟩
theorem fiX8_19 : 1 < 6 ∧ Cond.fieldLink RX8 19 (TX8 1).1 (TX8 1).2.1 (TX8 1).2.2.1 ∈ lw_tbl := ⟨by decide, (List.mem_of_getElem? (i := 134) (by decide +kernel))⟩
theorem flX8_23 : FL RX8 23 TX8 6 2 := ⟨by decide, Or.inl (List.mem_of_getElem? (i := 135) (by decide +kernel))⟩
theorem fiX8_23 : 2 < 6 ∧ Cond.fieldLink RX8 23 (TX8 2).1 (TX8 2).2.1 (TX8 2).2.2.1 ∈ lw_tbl := ⟨by decide, (List.mem_of_getElem? (i := 135) (by decide +kernel))⟩
theorem flX8_26 : FL RX8 26 TX8 6 3 := ⟨by decide, Or.inl (List.mem_of_getElem? (i := 136) (by decide +kernel))⟩
theorem fiX8_26 : 3 < 6 ∧ Cond.fieldLink RX8 26 (TX8 3).1 (TX8 3).2.1 (TX8 3).2.2.1 ∈ lw_tbl := ⟨by decide, (List.mem_of_getElem? (i := 136) (by decide +kernel))⟩
theorem flX8_32 : FL RX8 32 TX8 6 4 := ⟨by decide, Or.inl (List.mem_of_getElem? (i := 137) (by decide +kernel))⟩
theorem fiX8_32 : 4 < 6 ∧ Cond.fieldLink RX8 32 (TX8 4).1 (TX8 4).2.1 (TX8 4).2.2.1 ∈ lw_tbl := ⟨by decide, (List.mem_of_getElem? (i := 137) (by decide +kernel))⟩
theorem flX8_36 : FL RX8 36 TX8 6 5 := ⟨by decide, Or.inl (List.mem_of_getElem? (i := 138) (by decide +kernel))⟩
theorem flX4_7 : FL RX4 7 TX4 6 0 := ⟨by decide, Or.inl (List.mem_of_getElem? (i := 375) (by decide +kernel))⟩
theorem fiX4_7 : 0 < 6 ∧ Cond.fieldLink RX4 7 (TX4 0).1 (TX4 0).2.1 (TX4 0).2.2.1 ∈ lw_tbl := ⟨by decide, (List.mem_of_getElem? (i := 375) (by decide +kernel))⟩
theorem flX2_43 : FL RX2 43 TX4 6 0 := ⟨by decide, Or.inr (Or.inl ⟨"Doorledger", (List.mem_of_getElem? (i := 376) (by decide +kernel))⟩)⟩
theorem flX4_13 : FL RX4 13 TX4 6 1 := ⟨by decide, Or.inl (List.mem_of_getElem? (i := 377) (by decide +kernel))⟩
theorem fiX4_13 : 1 < 6 ∧ Cond.fieldLink RX4 13 (TX4 1).1 (TX4 1).2.1 (TX4 1).2.2.1 ∈ lw_tbl := ⟨by decide, (List.mem_of_getElem? (i := 377) (by decide +kernel))⟩
theorem flX8_78 : FL RX8 78 TX4 6 1 := ⟨by decide, Or.inr (Or.inl ⟨"Doorledger", (List.mem_of_getElem? (i := 378) (by decide +kernel))⟩)⟩
theorem flX4_16 : FL RX4 16 TX4 6 2 := ⟨by decide, Or.inl (List.mem_of_getElem? (i := 379) (by decide +kernel))⟩
theorem fiX4_16 : 2 < 6 ∧ Cond.fieldLink RX4 16 (TX4 2).1 (TX4 2).2.1 (TX4 2).2.2.1 ∈ lw_tbl := ⟨by decide, (List.mem_of_getElem? (i := 379) (by decide +kernel))⟩
theorem flX8_80 : FL RX8 80 TX4 6 2 := ⟨by decide, Or.inr (Or.inl ⟨"Doorledger", (List.mem_of_getElem? (i := 380) (by decide +kernel))⟩)⟩
theorem flX4_19 : FL RX4 19 TX4 6 3 := ⟨by decide, Or.inl (List.mem_of_getElem? (i := 381) (by decide +kernel))⟩
theorem fiX4_19 : 3 < 6 ∧ Cond.fieldLink RX4 19 (TX4 3).1 (TX4 3).2.1 (TX4 3).2.2.1 ∈ lw_tbl := ⟨by decide, (List.mem_of_getElem? (i := 381) (by decide +kernel))⟩
theorem flX8_83 : FL RX8 83 TX4 6 3 := ⟨by decide, Or.inr (Or.inl ⟨"Doorledger", (List.mem_of_getElem? (i := 382) (by decide +kernel))⟩)⟩
theorem flX4_22 : FL RX4 22 TX4 6 4 := ⟨by decide, Or.inl (List.mem_of_getElem? (i := 383) (by decide +kernel))⟩
theorem fiX4_22 : 4 < 6 ∧ Cond.fieldLink RX4 22 (TX4 4).1 (TX4 4).2.1 (TX4 4).2.2.1 ∈ lw_tbl := ⟨by decide, (List.mem_of_getElem? (i := 383) (by decide +kernel))⟩
theorem flX8_268 : FL RX8 268 TX4 6 4 := ⟨by decide, Or.inr (Or.inl ⟨"Doorledger", (List.mem_of_getElem? (i := 384) (by decide +kernel))⟩)⟩
theorem flX4_26 : FL RX4 26 TX4 6 5 := ⟨by decide, Or.inl (List.mem_of_getElem? (i := 385) (by decide +kernel))⟩
theorem fiX4_26 : 5 < 6 ∧ Cond.fieldLink RX4 26 (TX4 5).1 (TX4 5).2.1 (TX4 5).2.2.1 ∈ lw_tbl := ⟨by decide, (List.mem_of_getElem? (i := 385) (by decide +kernel))⟩
theorem flX2_30 : FL RX2 30 TX4 6 5 := ⟨by decide, Or.inr (Or.inl ⟨"Doorledger", (List.mem_of_getElem? (i := 386) (by decide +kernel))⟩)⟩
theorem flX3_13 : FL RX3 13 TX3 5 0 := ⟨by decide, Or.inl (List.mem_of_getElem? (i := 523) (by decide +kernel))⟩
theorem fiX3_13 : 0 < 5 ∧ Cond.fieldLink RX3 13 (TX3 0).1 (TX3 0).2.1 (TX3 0).2.2.1 ∈ lw_tbl := ⟨by decide, (List.mem_of_getElem? (i := 523) (by decide +kernel))⟩
theorem flX8_194 : FL RX8 194 TX3 5 0 := ⟨by decide, Or.inr (Or.inl ⟨"Doorledger", (List.mem_of_getElem? (i := 524) (by decide +kernel))⟩)⟩
theorem flX3_17 : FL RX3 17 TX3 5 1 := ⟨by decide, Or.inl (List.mem_of_getElem? (i := 525) (by decide +kernel))⟩
theorem flX8_162 : FL RX8 162 TX3 5 1 := ⟨by decide, Or.inr (Or.inl ⟨"Doorledger", (List.mem_of_getElem? (i := 526) (by decide +kernel))⟩)⟩
theorem flX3_7 : FL RX3 7 TX3 5 2 := ⟨by decide, Or.inl (List.mem_of_getElem? (i := 527) (by decide +kernel))⟩
theorem flX8_120 : FL RX8 120 TX3 5 2 := ⟨by decide, Or.inr (Or.inl ⟨"Doorledger", (List.mem_of_getElem? (i := 528) (by decide +kernel))⟩)⟩
theorem flX3_20 : FL RX3 20 TX3 5 3 := ⟨by decide, Or.inl (List.mem_of_getElem? (i := 529) (by decide +kernel))⟩
theorem flX3_23 : FL RX3 23 TX3 5 4 := ⟨by decide, Or.inl (List.mem_of_getElem? (i := 530) (by decide +kernel))⟩
theorem flX7_7 : FL RX7 7 TX7 1 0 := ⟨by decide, Or.inl (List.mem_of_getElem? (i := 618) (by decide +kernel))⟩
theorem flX8_138 : FL RX8 138 TX7 1 0 := ⟨by decide, Or.inr (Or.inl ⟨"Doorledger", (List.mem_of_getElem? (i := 619) (by decide +kernel))⟩)⟩
theorem flX5_7 : FL RX5 7 TX5 3 0 := ⟨by decide, Or.inl (List.mem_of_getElem? (i := 650) (by decide +kernel))⟩
theorem fiX5_7 : 0 < 3 ∧ Cond.fieldLink RX5 7 (TX5 0).1 (TX5 0).2.1 (TX5 0).2.2.1 ∈ lw_tbl := ⟨by decide, (List.mem_of_getElem? (i := 650) (by decide +kernel))⟩
theorem flX6_42 : FL RX6 42 TX5 3 0 := ⟨by decide, Or.inr (Or.inl ⟨"Doorledger", (List.mem_of_getElem? (i := 651) (by decide +kernel))⟩)⟩
theorem flX5_13 : FL RX5 13 TX5 3 1 := ⟨by decide, Or.inl (List.mem_of_getElem? (i := 652) (by decide +kernel))⟩
theorem fiX5_13 : 1 < 3 ∧ Cond.fieldLink RX5 13 (TX5 1).1 (TX5 1).2.1 (TX5 1).2.2.1 ∈ lw_tbl := ⟨by decide, (List.mem_of_getElem? (i := 652) (by decide +kernel))⟩
theorem flX6_46 : FL RX6 46 TX5 3 1 := ⟨by decide, Or.inr (Or.inl ⟨"Doorledger", (List.mem_of_getElem? (i := 653) (by decide +kernel))⟩)⟩
theorem flX5_16 : FL RX5 16 TX5 3 2 := ⟨by decide, Or.inl (List.mem_of_getElem? (i := 654) (by decide +kernel))⟩
theorem fiX5_16 : 2 < 3 ∧ Cond.fieldLink RX5 16 (TX5 2).1 (TX5 2).2.1 (TX5 2).2.2.1 ∈ lw_tbl := ⟨by decide, (List.mem_of_getElem? (i := 654) (by decide +kernel))⟩
theorem flX6_49 : FL RX6 49 TX5 3 2 := ⟨by decide, Or.inr (Or.inl ⟨"Doorledger", (List.mem_of_getElem? (i := 655) (by decide +kernel))⟩)⟩
theorem flX0_16 : FL RX0 16 TX0 8 0 := ⟨by decide, Or.inl (List.mem_of_getElem? (i := 697) (by decide +kernel))⟩
theorem fiX0_16 : 0 < 8 ∧ Cond.fieldLink RX0 16 (TX0 0).1 (TX0 0).2.1 (TX0 0).2.2.1 ∈ lw_tbl := ⟨by decide, (List.mem_of_getElem? (i := 697) (by decide +kernel))⟩
theorem flX8_233 : FL RX8 233 TX0 8 0 := ⟨by decide, Or.inr (Or.inl ⟨"Doorledger", (List.mem_of_getElem? (i := 698) (by decide +kernel))⟩)⟩
theorem flX0_19 : FL RX0 19 TX0 8 1 := ⟨by decide, Or.inl (List.mem_of_getElem? (i := 699) (by decide +kernel))⟩
theorem fiX0_19 : 1 < 8 ∧ Cond.fieldLink RX0 19 (TX0 1).1 (TX0 1).2.1 (TX0 1).2.2.1 ∈ lw_tbl := ⟨by decide, (List.mem_of_getElem? (i := 699) (by decide +kernel))⟩
theorem flX8_287 : FL RX8 287 TX0 8 1 := ⟨by decide, Or.inr (Or.inl ⟨"Doorledger", (List.mem_of_getElem? (i := 700) (by decide +kernel))⟩)⟩
theorem flX0_22 : FL RX0 22 TX0 8 2 := ⟨by decide, Or.inl (List.mem_of_getElem? (i := 701) (by decide +kernel))⟩
theorem fiX0_22 : 2 < 8 ∧ Cond.fieldLink RX0 22 (TX0 2).1 (TX0 2).2.1 (TX0 2).2.2.1 ∈ lw_tbl := ⟨by decide, (List.mem_of_getElem? (i := 701) (by decide +kernel))⟩
theorem flX8_221 : FL RX8 221 TX0 8 2 := ⟨by decide, Or.inr (Or.inl ⟨"Doorledger", (List.mem_of_getElem? (i := 702) (by decide +kernel))⟩)⟩
theorem flX0_25 : FL RX0 25 TX0 8 3 := ⟨by decide, Or.inl (List.mem_of_getElem? (i := 703) (by decide +kernel))⟩
theorem fiX0_25 : 3 < 8 ∧ Cond.fieldLink RX0 25 (TX0 3).1 (TX0 3).2.1 (TX0 3).2.2.1 ∈ lw_tbl := ⟨by decide, (List.mem_of_getElem? (i := 703) (by decide +kernel))⟩
theorem flX8_213 : FL RX8 213 TX0 8 3 := ⟨by decide, Or.inr (Or.inl ⟨"Doorledger", (List.mem_of_getElem? (i := 704) (by decide +kernel))⟩)⟩
theorem flX0_29 : FL RX0 29 TX0 8 4 := ⟨by decide, Or.inl (List.mem_of_getElem? (i := 705) (by decide +kernel))⟩
theorem fiX0_29 : 4 < 8 ∧ Cond.fieldLink RX0 29 (TX0 4).1 (TX0 4).2.1 (TX0 4).2.2.1 ∈ lw_tbl := ⟨by decide, (List.mem_of_getElem? (i := 705) (by decide +kernel))⟩
theorem flX8_224 : FL RX8 224 TX0 8 4 := ⟨by decide, Or.inr (Or.inl ⟨"Doorledger", (List.mem_of_getElem? (i := 706) (by decide +kernel))⟩)⟩
theorem flX0_32 : FL RX0 32 TX0 8 5 := ⟨by decide, Or.inl (List.mem_of_getElem? (i := 707) (by decide +kernel))⟩
theorem fiX0_32 : 5 < 8 ∧ Cond.fieldLink RX0 32 (TX0 5).1 (TX0 5).2.1 (TX0 5).2.2.1 ∈ lw_tbl := ⟨by decide, (List.mem_of_getElem? (i := 707) (by decide +kernel))⟩
theorem flX8_236 : FL RX8 236 TX0 8 5 := ⟨by decide, Or.inr (Or.inl ⟨"Doorledger", (List.mem_of_getElem? (i := 708) (by decide +kernel))⟩)⟩
theorem flX0_9 : FL RX0 9 TX0 8 6 := ⟨by decide, Or.inl (List.mem_of_getElem? (i := 709) (by decide +kernel))⟩
theorem flX8_172 : FL RX8 172 TX0 8 6 := ⟨by decide, Or.inr (Or.inl ⟨"Doorledger", (List.mem_of_getElem? (i := 710) (by decide +kernel))⟩)⟩
theorem flX0_13 : FL RX0 13 TX0 8 7 := ⟨by decide, Or.inl (List.mem_of_getElem? (i := 711) (by decide +kernel))⟩
theorem flX8_159 : FL RX8 159 TX0 8 7 := ⟨by decide, Or.inr (Or.inl ⟨"Doorledger", (List.mem_of_getElem? (i := 712) (by decide +kernel))⟩)⟩
theorem flX9_73 : FL RX9 73 TX9 25 0 := ⟨by decide, Or.inl (List.mem_of_getElem? (i := 924) (by decide +kernel))⟩
theorem flX9_9 : FL RX9 9 TX9 25 1 := ⟨by decide, Or.inl (List.mem_of_getElem? (i := 925) (by decide +kernel))⟩
theorem fiX9_9 : 1 < 25 ∧ Cond.fieldLink RX9 9 (TX9 1).1 (TX9 1).2.1 (TX9 1).2.2.1 ∈ lw_tbl := ⟨by decide, (List.mem_of_getElem? (i := 925) (by decide +kernel))⟩
theorem flX9_13 : FL RX9 13 TX9 25 2 := ⟨by decide, Or.inl (List.mem_of_getElem? (i := 926) (by decide +kernel))⟩
theorem fiX9_13 : 2 < 25 ∧ Cond.fieldLink RX9 13 (TX9 2).1 (TX9 2).2.1 (TX9 2).2.2.1 ∈ lw_tbl := ⟨by decide, (List.mem_of_getElem? (i := 926) (by decide +kernel))⟩
theorem flX9_18 : FL RX9 18 TX9 25 3 := ⟨by decide, Or.inl (List.mem_of_getElem? (i := 927) (by decide +kernel))⟩
theorem fiX9_18 : 3 < 25 ∧ Cond.fieldLink RX9 18 (TX9 3).1 (TX9 3).2.1 (TX9 3).2.2.1 ∈ lw_tbl := ⟨by decide, (List.mem_of_getElem? (i := 927) (by decide +kernel))⟩
theorem flX9_21 : FL RX9 21 TX9 25 4 := ⟨by decide, Or.inl (List.mem_of_getElem? (i := 928) (by decide +kernel))⟩
theorem fiX9_21 : 4 < 25 ∧ Cond.fieldLink RX9 21 (TX9 4).1 (TX9 4).2.1 (TX9 4).2.2.1 ∈ lw_tbl := ⟨by decide, (List.mem_of_getElem? (i := 928) (by decide +kernel))⟩
theorem flX9_24 : FL RX9 24 TX9 25 5 := ⟨by decide, Or.inl (List.mem_of_getElem? (i := 929) (by decide +kernel))⟩
theorem fiX9_24 : 5 < 25 ∧ Cond.fieldLink RX9 24 (TX9 5).1 (TX9 5).2.1 (TX9 5).2.2.1 ∈ lw_tbl := ⟨by decide, (List.mem_of_getElem? (i := 929) (by decide +kernel))⟩
theorem flX9_29 : FL RX9 29 TX9 25 6 := ⟨by decide, Or.inl (List.mem_of_getElem? (i := 930) (by decide +kernel))⟩
theorem fiX9_29 : 6 < 25 ∧ Cond.fieldLink RX9 29 (TX9 6).1 (TX9 6).2.1 (TX9 6).2.2.1 ∈ lw_tbl := ⟨by decide, (List.mem_of_getElem? (i := 930) (by decide +kernel))⟩
theorem flX9_77 : FL RX9 77 TX9 25 7 := ⟨by decide, Or.inl (List.mem_of_getElem? (i := 931) (by decide +kernel))⟩
theorem flX9_95 : FL RX9 95 TX9 25 8 := ⟨by decide, Or.inl (List.mem_of_getElem? (i := 932) (by decide +kernel))⟩
theorem flX9_32 : FL RX9 32 TX9 25 9 := ⟨by decide, Or.inl (List.mem_of_getElem? (i := 933) (by decide +kernel))⟩
theorem fiX9_32 : 9 < 25 ∧ Cond.fieldLink RX9 32 (TX9 9).1 (TX9 9).2.1 (TX9 9).2.2.1 ∈ lw_tbl := ⟨by decide, (List.mem_of_getElem? (i := 933) (by decide +kernel))⟩
theorem flX9_35 : FL RX9 35 TX9 25 10 := ⟨by decide, Or.inl (List.mem_of_getElem? (i := 934) (by decide +kernel))⟩
theorem fiX9_35 : 10 < 25 ∧ Cond.fieldLink RX9 35 (TX9 10).1 (TX9 10).2.1 (TX9 10).2.2.1 ∈ lw_tbl := ⟨by decide, (List.mem_of_getElem? (i := 934) (by decide +kernel))⟩
theorem flX9_38 : FL RX9 38 TX9 25 11 := ⟨by decide, Or.inl (List.mem_of_getElem? (i := 935) (by decide +kernel))⟩
theorem fiX9_38 : 11 < 25 ∧ Cond.fieldLink RX9 38 (TX9 11).1 (TX9 11).2.1 (TX9 11).2.2.1 ∈ lw_tbl := ⟨by decide, (List.mem_of_getElem? (i := 935) (by decide +kernel))⟩
theorem flX9_41 : FL RX9 41 TX9 25 12 := ⟨by decide, Or.inl (List.mem_of_getElem? (i := 936) (by decide +kernel))⟩
theorem fiX9_41 : 12 < 25 ∧ Cond.fieldLink RX9 41 (TX9 12).1 (TX9 12).2.1 (TX9 12).2.2.1 ∈ lw_tbl := ⟨by decide, (List.mem_of_getElem? (i := 936) (by decide +kernel))⟩
theorem flX9_44 : FL RX9 44 TX9 25 13 := ⟨by decide, Or.inl (List.mem_of_getElem? (i := 937) (by decide +kernel))⟩
theorem fiX9_44 : 13 < 25 ∧ Cond.fieldLink RX9 44 (TX9 13).1 (TX9 13).2.1 (TX9 13).2.2.1 ∈ lw_tbl := ⟨by decide, (List.mem_of_getElem? (i := 937) (by decide +kernel))⟩
theorem flX9_84 : FL RX9 84 TX9 25 14 := ⟨by decide, Or.inl (List.mem_of_getElem? (i := 938) (by decide +kernel))⟩
theorem flX9_87 : FL RX9 87 TX9 25 15 := ⟨by decide, Or.inl (List.mem_of_getElem? (i := 939) (by decide +kernel))⟩
theorem flX9_48 : FL RX9 48 TX9 25 16 := ⟨by decide, Or.inl (List.mem_of_getElem? (i := 940) (by decide +kernel))⟩
theorem fiX9_48 : 16 < 25 ∧ Cond.fieldLink RX9 48 (TX9 16).1 (TX9 16).2.1 (TX9 16).2.2.1 ∈ lw_tbl := ⟨by decide, (List.mem_of_getElem? (i := 940) (by decide +kernel))⟩
theorem flX9_51 : FL RX9 51 TX9 25 17 := ⟨by decide, Or.inl (List.mem_of_getElem? (i := 941) (by decide +kernel))⟩
theorem fiX9_51 : 17 < 25 ∧ Cond.fieldLink RX9 51 (TX9 17).1 (TX9 17).2.1 (TX9 17).2.2.1 ∈ lw_tbl := ⟨by decide, (List.mem_of_getElem? (i := 941) (by decide +kernel))⟩
theorem flX9_54 : FL RX9 54 TX9 25 18 := ⟨by decide, Or.inl (List.mem_of_getElem? (i := 942) (by decide +kernel))⟩
theorem fiX9_54 : 18 < 25 ∧ Cond.fieldLink RX9 54 (TX9 18).1 (TX9 18).2.1 (TX9 18).2.2.1 ∈ lw_tbl := ⟨by decide, (List.mem_of_getElem? (i := 942) (by decide +kernel))⟩
theorem flX9_57 : FL RX9 57 TX9 25 19 := ⟨by decide, Or.inl (List.mem_of_getElem? (i := 943) (by decide +kernel))⟩
theorem fiX9_57 : 19 < 25 ∧ Cond.fieldLink RX9 57 (TX9 19).1 (TX9 19).2.1 (TX9 19).2.2.1 ∈ lw_tbl := ⟨by decide, (List.mem_of_getElem? (i := 943) (by decide +kernel))⟩
theorem flX9_60 : FL RX9 60 TX9 25 20 := ⟨by decide, Or.inl (List.mem_of_getElem? (i := 944) (by decide +kernel))⟩
theorem fiX9_60 : 20 < 25 ∧ Cond.fieldLink RX9 60 (TX9 20).1 (TX9 20).2.1 (TX9 20).2.2.1 ∈ lw_tbl := ⟨by decide, (List.mem_of_getElem? (i := 944) (by decide +kernel))⟩
theorem flX9_63 : FL RX9 63 TX9 25 21 := ⟨by decide, Or.inl (List.mem_of_getElem? (i := 945) (by decide +kernel))⟩
theorem fiX9_63 : 21 < 25 ∧ Cond.fieldLink RX9 63 (TX9 21).1 (TX9 21).2.1 (TX9 21).2.2.1 ∈ lw_tbl := ⟨by decide, (List.mem_of_getElem? (i := 945) (by decide +kernel))⟩
theorem flX9_66 : FL RX9 66 TX9 25 22 := ⟨by decide, Or.inl (List.mem_of_getElem? (i := 946) (by decide +kernel))⟩
theorem fiX9_66 : 22 < 25 ∧ Cond.fieldLink RX9 66 (TX9 22).1 (TX9 22).2.1 (TX9 22).2.2.1 ∈ lw_tbl := ⟨by decide, (List.mem_of_getElem? (i := 946) (by decide +kernel))⟩
theorem flX9_69 : FL RX9 69 TX9 25 23 := ⟨by decide, Or.inl (List.mem_of_getElem? (i := 947) (by decide +kernel))⟩
theorem fiX9_69 : 23 < 25 ∧ Cond.fieldLink RX9 69 (TX9 23).1 (TX9 23).2.1 (TX9 23).2.2.1 ∈ lw_tbl := ⟨by decide, (List.mem_of_getElem? (i := 947) (by decide +kernel))⟩
theorem flX9_90 : FL RX9 90 TX9 25 24 := ⟨by decide, Or.inl (List.mem_of_getElem? (i := 948) (by decide +kernel))⟩
theorem kstX8_131 : Cond.constant RX8 131 (100000) ∈ lw_tbl := (List.mem_of_getElem? (i := 346) (by decide +kernel))
theorem kstJ8_200 : Cond.constant RJ8 200 (2147483639) ∈ lw_tbl := (List.mem_of_getElem? (i := 424) (by decide +kernel))
theorem kstX8_119 : Cond.constantFloat RX8 119 (1148846080) ∈ lw_tbl := (List.mem_of_getElem? (i := 604) (by decide +kernel))
theorem kstX1_7 : Cond.constantDouble RX1 7 (4611686018427387904) ∈ lw_tbl := (List.mem_of_getElem? (i := 765) (by decide +kernel))
theorem kstX1_11 : Cond.constantDouble RX1 11 (4841369599423283200) ∈ lw_tbl := (List.mem_of_getElem? (i := 766) (by decide +kernel))
theorem kstX1_17 : Cond.constant RX1 17 (8388607) ∈ lw_tbl := (List.mem_of_getElem? (i := 767) (by decide +kernel))
theorem kstX9_93 : Cond.constant RX9 93 (99999) ∈ lw_tbl := (List.mem_of_getElem? (i := 1017) (by decide +kernel))
theorem kstX9_94 : Cond.constant RX9 94 (100000) ∈ lw_tbl := (List.mem_of_getElem? (i := 1018) (by decide +kernel))
theorem kstX9_130 : Cond.constantFloat RX9 130 (1148846080) ∈ lw_tbl := (List.mem_of_getElem? (i := 1075) (by decide +kernel))
theorem kstJxf58ca_77 : Cond.constant RJxf58ca 77 (2143289344) ∈ lw_tbl := (List.mem_of_getElem? (i := 1142) (by decide +kernel))
theorem kstJxe99ae_137 : Cond.constantLong RJxe99ae 137 (9221120237041090560) ∈ lw_tbl := (List.mem_of_getElem? (i := 1249) (by decide +kernel))
theorem ac_int : Cond.arrayClass (Jvm.ClassFile.FieldType.int) ∈ lw_tbl := (List.mem_of_getElem? (i := 132) (by decide +kernel))
theorem ac_byte : Cond.arrayClass (Jvm.ClassFile.FieldType.byte) ∈ lw_tbl := (List.mem_of_getElem? (i := 342) (by decide +kernel))
theorem ao_object : Cond.arrayOver (Jvm.ClassFile.FieldType.object "java/lang/Object") ∈ lw_tbl := (List.mem_of_getElem? (i := 455) (by decide +kernel))
theorem ao_int2 : Cond.arrayOver (Jvm.ClassFile.FieldType.array Jvm.ClassFile.FieldType.int) ∈ lw_tbl := (List.mem_of_getElem? (i := 921) (by decide +kernel))
theorem ao_boolean2 : Cond.arrayOver (Jvm.ClassFile.FieldType.array Jvm.ClassFile.FieldType.boolean) ∈ lw_tbl := (List.mem_of_getElem? (i := 923) (by decide +kernel))
theorem ac_boolean : Cond.arrayClass (Jvm.ClassFile.FieldType.boolean) ∈ lw_tbl := (List.mem_of_getElem? (i := 1000) (by decide +kernel))
theorem ac_float : Cond.arrayClass (Jvm.ClassFile.FieldType.float) ∈ lw_tbl := (List.mem_of_getElem? (i := 1001) (by decide +kernel))
theorem ac_char : Cond.arrayClass (Jvm.ClassFile.FieldType.char) ∈ lw_tbl := (List.mem_of_getElem? (i := 1002) (by decide +kernel))
theorem ac_long : Cond.arrayClass (Jvm.ClassFile.FieldType.long) ∈ lw_tbl := (List.mem_of_getElem? (i := 1258) (by decide +kernel))
theorem ac_double : Cond.arrayClass (Jvm.ClassFile.FieldType.double) ∈ lw_tbl := (List.mem_of_getElem? (i := 1259) (by decide +kernel))
theorem fl_empty : Cond.fieldLink RJx4a65c 39 "java/util/ArrayList" "DEFAULTCAPACITY_EMPTY_ELEMENTDATA" "[Ljava/lang/Object;" ∈ lw_tbl := (List.mem_of_getElem? (i := 93) (by decide +kernel))
theorem ktn : KTn := by
  unfold KTn
  decide +kernel
theorem ktX8_51_53_55 : KT RX8 51 53 55 "java/lang/IllegalStateException" "there are 8 keys" ["java/lang/RuntimeException", "java/lang/Exception"] := by
  unfold KT
  decide +kernel
theorem ktX8_51_93_55 : KT RX8 51 93 55 "java/lang/IllegalStateException" "there are 5 doors" ["java/lang/RuntimeException", "java/lang/Exception"] := by
  unfold KT
  decide +kernel
theorem ktX8_107_109_111 : KT RX8 107 109 111 "java/lang/IllegalArgumentException" "the thousandths are not in -500 to 500" ["java/lang/RuntimeException", "java/lang/Exception"] := by
  unfold KT
  decide +kernel
theorem ktX8_51_124_55 : KT RX8 51 124 55 "java/lang/IllegalStateException" "there are 3 phones" ["java/lang/RuntimeException", "java/lang/Exception"] := by
  unfold KT
  decide +kernel
theorem ktX8_107_129_111 : KT RX8 107 129 111 "java/lang/IllegalArgumentException" "the minutes are not in 1 to 10000" ["java/lang/RuntimeException", "java/lang/Exception"] := by
  unfold KT
  decide +kernel
theorem ktX8_107_132_111 : KT RX8 107 132 111 "java/lang/IllegalArgumentException" "the time would be greater than 100000" ["java/lang/RuntimeException", "java/lang/Exception"] := by
  unfold KT
  decide +kernel
theorem ktX8_51_175_55 : KT RX8 51 175 55 "java/lang/IllegalStateException" "there are 60 audits" ["java/lang/RuntimeException", "java/lang/Exception"] := by
  unfold KT
  decide +kernel
theorem ktX8_247_249_251 : KT RX8 247 249 251 "java/lang/ArithmeticException" "there are no audits" ["java/lang/RuntimeException", "java/lang/Exception"] := by
  unfold KT
  decide +kernel
theorem ktX8_107_264_111 : KT RX8 107 264 111 "java/lang/IllegalArgumentException" "the set of doors is not in 0 to 31" ["java/lang/RuntimeException", "java/lang/Exception"] := by
  unfold KT
  decide +kernel
theorem ktX8_107_266_111 : KT RX8 107 266 111 "java/lang/IllegalArgumentException" "the times are not in 0 to 100000, or end before they begin" ["java/lang/RuntimeException", "java/lang/Exception"] := by
  unfold KT
  decide +kernel
theorem ktX8_51_272_55 : KT RX8 51 272 55 "java/lang/IllegalStateException" "the key is revoked" ["java/lang/RuntimeException", "java/lang/Exception"] := by
  unfold KT
  decide +kernel
theorem ktX8_51_274_55 : KT RX8 51 274 55 "java/lang/IllegalStateException" "50 changes were made" ["java/lang/RuntimeException", "java/lang/Exception"] := by
  unfold KT
  decide +kernel
theorem ktX8_278_280_282 : KT RX8 278 280 282 "java/lang/IndexOutOfBoundsException" "no such door" ["java/lang/RuntimeException", "java/lang/Exception"] := by
  unfold KT
  decide +kernel
theorem ktX8_278_283_282 : KT RX8 278 283 282 "java/lang/IndexOutOfBoundsException" "no such phone" ["java/lang/RuntimeException", "java/lang/Exception"] := by
  unfold KT
  decide +kernel
theorem ktX8_247_293_251 : KT RX8 247 293 251 "java/lang/ArithmeticException" "no audit has arrived" ["java/lang/RuntimeException", "java/lang/Exception"] := by
  unfold KT
  decide +kernel
end
section
/-! 'throw new NoSuchElementException("text")': its constructor has the link to its super's at place 13 of its pool, where the kit's own rows ask for place 7 -/
abbrev vy_N : String := "java/util/NoSuchElementException"
abbrev vy_R : String := "java/lang/RuntimeException"
abbrev vy_E : String := "java/lang/Exception"
def vy_six : ByteArray := ⟨#[0x2a, 0x2b, 0xb7, 0x00, 0x0d, 0xb1]⟩
theorem vy_0 : decode vy_six 0 = .ok (.aload_n 0, 1) := by decide +kernel
theorem vy_1 : decode vy_six 1 = .ok (.aload_n 1, 1) := by decide +kernel
theorem vy_2 : decode vy_six 2 = .ok (.invokespecial 13, 3) := by decide +kernel
theorem vy_5 : decode vy_six 5 = .ok (.return_, 1) := by decide +kernel
def vy_A : List Cond := (Bundle.ownAtoms RX8 208 vy_N [vy_R, vy_E]).filter (fun w => decide (w ∉ Bundle.passSAtoms vy_N vy_R 7 Bundle.six)) ++ Bundle.passSAtoms vy_N vy_R 13 vy_six
theorem vy_t1 : ∀ w ∈ Bundle.throwableAtoms, w ∈ vy_A := by decide +kernel
theorem vy_t2 : ∀ w ∈ Bundle.throwableSAtoms, w ∈ vy_A := by decide +kernel
theorem vy_t3 : ∀ w ∈ Bundle.chainSAtoms vy_R [vy_E], w ∈ vy_A := by decide +kernel
theorem vy_t4 : ∀ w ∈ Bundle.passSAtoms vy_N vy_R 13 vy_six, w ∈ vy_A := by decide +kernel
theorem vy_t5 : ∀ w ∈ [Cond.methodLink RX8 208 (Bundle.initS vy_N), .instantiable vy_N 6, .castable vy_N vy_N, .selects vy_N Bundle.tFill0 Bundle.tFill0, .selects vy_N Bundle.tFill Bundle.tFill, .lays vy_N Bundle.tN "cause" "Ljava/lang/Throwable;", .lays vy_N Bundle.tN "stackTrace" Bundle.steD, .lays vy_N Bundle.tN "suppressedExceptions" Bundle.listD, .lays vy_N Bundle.tN "detailMessage" "Ljava/lang/String;", .isRef (.static Bundle.tN "UNASSIGNED_STACK" Bundle.steD), .isRef (.static Bundle.tN "SUPPRESSED_SENTINEL" Bundle.listD), .fieldLink Bundle.tN 198 Bundle.tN "backtrace" "Ljava/lang/Object;", .lays Bundle.tN Bundle.tN "backtrace" "Ljava/lang/Object;", .lays vy_N Bundle.tN "backtrace" "Ljava/lang/Object;"], w ∈ vy_A := by decide +kernel
theorem vy_tbl : ∀ w ∈ vy_A.filter vx_no, w ∈ lw_tbl ∧ zgood w = true := by decide +kernel
section
variable {p : Program} {l : Launch} {e : Env} {R : Room} {s : State} {m₀ : MethodId} {args : Array Value} {below : List Frame} {meth : Method} {c : Code} {T : State} {locs : List Loc} {cells slots : Nat}
set_option maxHeartbeats 1000000 in
theorem vy_ctor (X : Stand p l e R s m₀ args below meth c T locs cells slots) (hexec : p.tables.exec = Jvm.exec) (htr : e.platform.stackTraces = false) (hown : s.vm.findClass RX8 = some m₀.cls)
    (h : ∀ w ∈ vy_A, w.before args s = true) (hlocs : ∀ x ∈ locs, ∀ cell, s.heap[x.base]? = some cell → cell.vm.isStatics = false)
    {a : Addr} {cX : ClassId} {kX : Class} (hfoundX : s.vm.findClass vy_N = some cX) (hkX : s.vm.classes[cX]? = some kX) (hcell : T.heap[a]? = some (freshCell cX kX)) (hnew : s.heap.size ≤ a) {msg : Value} (hmsg : msg.isRef = true)
    {g : JFrame} (hg : g.method = m₀) (hsize : g.locals.size = c.maxLocals) (hlocked : g.locked = none) (hentered : g.entered = []) {rest : List Value} (hstack : g.stack = msg :: .ref a :: .ref a :: rest)
    (hd6 : decode c.code g.pc = .ok (.invokespecial 208, 3)) (hd9 : decode c.code (g.pc + 3) = .ok (.athrow, 1)) (hout : ∀ x ∈ c.exceptionTable.toList, covers x (g.pc + 3) = false)
    (hRf : 5 < R.frames) (hRl : 2 * g.monitorRoom + ((Value.ref a :: rest).map fun v => v.category).sum + 81 ≤ R.locals) (hlocks : meth.locks = false) :
    ∃ U : State, Steps p.tables e below (T.setTop g) U ∧ U.status = .running ∧ Ended U below (.threw a) ∧ s.WarmedH U.vm ∧ s.sameButNew ({ U with vm := s.vm } : State) locs cells slots ∧ ∃ ce, U.heap[a]? = some ce ∧ ce.vm = .none ∧ ce.cls = cX := by
  have howns : e.platform.frameOwnsMonitors = true := by rw [X.admits.platform]
  have hfin : e.platform.finalization = false := by rw [X.admits.platform]
  have hpl : e.platform.magicAccessors = ({} : Platform).magicAccessors := by rw [X.admits.platform]
  have h5 : ∀ w ∈ [Cond.methodLink RX8 208 (Bundle.initS vy_N), .instantiable vy_N 6, .castable vy_N vy_N, .selects vy_N Bundle.tFill0 Bundle.tFill0, .selects vy_N Bundle.tFill Bundle.tFill, .lays vy_N Bundle.tN "cause" "Ljava/lang/Throwable;", .lays vy_N Bundle.tN "stackTrace" Bundle.steD, .lays vy_N Bundle.tN "suppressedExceptions" Bundle.listD, .lays vy_N Bundle.tN "detailMessage" "Ljava/lang/String;", .isRef (.static Bundle.tN "UNASSIGNED_STACK" Bundle.steD), .isRef (.static Bundle.tN "SUPPRESSED_SENTINEL" Bundle.listD), .fieldLink Bundle.tN 198 Bundle.tN "backtrace" "Ljava/lang/Object;", .lays Bundle.tN Bundle.tN "backtrace" "Ljava/lang/Object;", .lays vy_N Bundle.tN "backtrace" "Ljava/lang/Object;"], w.before args s = true := fun w hw => h w (vy_t5 w hw)
  have a4 : ∀ w ∈ Bundle.passSAtoms vy_N vy_R 13 vy_six, w.before args s = true := fun w hw => h w (vy_t4 w hw)
  obtain ⟨T9, Z0, L, -, Y⟩ := ThrowableC.of_atoms (args := args) howns hfin hpl (fun x hx => h x (vy_t1 x hx))
  obtain ⟨Z, M, LZ, LM, hnZ⟩ := Init0T.ofS_atoms (args := args) hpl L Y (fun x hx => h x (vy_t2 x hx))
  obtain ⟨P1, L1, hP1m, hP1s⟩ := PassC.ofS_atoms (args := args) (s := s) hpl (X := vy_N) (Y := vy_R) (index := 13) (bytes := vy_six) (by decide +kernel) (by decide +kernel) vy_0 vy_1 vy_2 vy_5 a4
  obtain ⟨P2, Ps, hlen, L2, hL, hP2m, hlink2, hlink⟩ := Bundle.chainS (args := args) hpl hnZ [vy_E] vy_R (by decide +kernel) (by decide +kernel) (fun x hx => h x (vy_t3 x hx))
  have hlink1 : P1.sup = P2.m := Option.some.inj (hP1s.symm.trans hP2m)
  have hfound : s.vm.findClass vy_N = some P1.m.cls := findClass_of_methodNamed hP1m
  cases Option.some.inj (hfoundX.symm.trans hfound)
  obtain ⟨c1, kX', hc1, hk, hord, -, -, hn6⟩ := Cond.instantiable_spec (h5 (.instantiable vy_N 6) (by simp))
  cases Option.some.inj (hc1.symm.trans hfound)
  cases Option.some.inj (hkX.symm.trans hk)
  have hsel0 : selectMethod e.platform s.vm P1.m.cls T9.fill0 = .method T9.fill0 := by
    obtain ⟨c2, r2, m2, q1, q2, q3, q4, -⟩ := Cond.selects_spec (h5 (.selects vy_N Bundle.tFill0 Bundle.tFill0) (by simp))
    cases Option.some.inj (q1.symm.trans hfound)
    cases Option.some.inj (q2.symm.trans (State.methodFound?_of_named Y.fill0 (by decide)))
    cases Option.some.inj (q3.symm.trans Y.fill0)
    rw [Launch.admits_selectMethod X.admits]; exact q4
  have hselF : selectMethod e.platform s.vm P1.m.cls T9.fill = .method T9.fill := by
    obtain ⟨c2, r2, m2, q1, q2, q3, q4, -⟩ := Cond.selects_spec (h5 (.selects vy_N Bundle.tFill Bundle.tFill) (by simp))
    cases Option.some.inj (q1.symm.trans hfound)
    cases Option.some.inj (q2.symm.trans (State.methodFound?_of_named Y.fill (by decide)))
    cases Option.some.inj (q3.symm.trans Y.fill)
    rw [Launch.admits_selectMethod X.admits]; exact q4
  obtain ⟨cellS0, hcS0, hiss⟩ := Y.statics
  obtain ⟨u0, hu0⟩ := Cond.staticRefV Y.unassigned L.unassignedStatic L.statics hcS0 hiss (h5 (.isRef (.static Bundle.tN "UNASSIGNED_STACK" Bundle.steD)) (by simp))
  obtain ⟨sen, hsen⟩ := Cond.staticRefV Y.sentinel L.sentinelStatic L.statics hcS0 hiss (h5 (.isRef (.static Bundle.tN "SUPPRESSED_SENTINEL" Bundle.listD)) (by simp))
  obtain ⟨ci198, i198, fB, hk198, hg198, ha198, hsB, -, hnB, htB, hffB⟩ := Cond.ownField (t := .object "java/lang/Object") Y.found L.cls (by decide +kernel) (h5 (.fieldLink Bundle.tN 198 Bundle.tN "backtrace" "Ljava/lang/Object;") (by simp)) (h5 (.lays Bundle.tN Bundle.tN "backtrace" "Ljava/lang/Object;") (by simp)) e.platform hpl
  obtain ⟨cellS, hcellS, heS, -, hkeep⟩ := X.same.2.2.2.2.2 T9.aS cellS0 hcS0
  have hout' : ∀ i, (⟨T9.aS, i⟩ : Loc) ∉ locs := fun i hmem => by
    have h9 := hlocs _ hmem cellS0 hcS0
    rw [hiss] at h9; cases h9
  have hknownS : cellS.vm ≠ .unknown := by
    rw [heS]; intro hu
    rw [show cellS0.vm = .unknown from hu] at hiss
    cases hiss
  have hneS : T9.aS ≠ a := Nat.ne_of_lt (Nat.lt_of_lt_of_le (Array.getElem?_eq_some_iff.mp hcS0).1 hnew)
  obtain ⟨iM, hffM⟩ := Y.msg
  obtain ⟨tyC, dC, hdC, hdnC⟩ := Cond.laysAt hfound hk Y.cause (h5 (.lays vy_N Bundle.tN "cause" "Ljava/lang/Throwable;") (by simp))
  obtain ⟨tyS, dS, hdS, hdnS⟩ := Cond.laysAt hfound hk Y.stack (h5 (.lays vy_N Bundle.tN "stackTrace" Bundle.steD) (by simp))
  obtain ⟨tyP, dP, hdP, hdnP⟩ := Cond.laysAt hfound hk Y.supp (h5 (.lays vy_N Bundle.tN "suppressedExceptions" Bundle.listD) (by simp))
  obtain ⟨tyM, dM, hdM, hdnM⟩ := Cond.laysAt hfound hk hffM (h5 (.lays vy_N Bundle.tN "detailMessage" "Ljava/lang/String;") (by simp))
  obtain ⟨tyB, dB, hdB, hdnB⟩ := Cond.laysAt hfound hk hffB (h5 (.lays vy_N Bundle.tN "backtrace" "Ljava/lang/Object;") (by simp))
  have bC := Cond.laysApart hdB hdC hdnB hdnC (by rw [hnB, Y.causeName]; decide)
  have bS := Cond.laysApart hdB hdS hdnB hdnS (by rw [hnB, Y.stackName]; decide)
  have bP := Cond.laysApart hdB hdP hdnB hdnP (by rw [hnB, Y.suppName]; decide)
  have hskip : SkipFacts T9 e.platform s (fun u => u) u0 ((preparedCellV T9.toThrowableT (freshCell P1.m.cls kX) a u0 sen).withEntry T.cur) :=
    ⟨{ ci198 := ci198, i198 := i198, fBack := fB }, ⟨hk198, hg198, ha198, hsB⟩, by
      have h9 := fresh_default (c := P1.m.cls) tyB
      rw [htB] at h9
      simpa [preparedCellV, Cell.setSlot, Cell.withEntry, Array.getElem?_setIfInBounds, bC, bS, bP, bC.symm, bS.symm, bP.symm, defaultValue] using h9, fun _ _ => rfl⟩
  obtain ⟨tm, methC, cdC, kC, vm₁, hnC, -, -, -, -, -, -, -, hW₁, st1⟩ := Steps.initColdS (tb := p.tables) (e := e) (below := below) (s := s) (U := T) X.here hexec X.warmed hpl hown (t := Bundle.initS vy_N) rfl rfl (by decide +kernel)
    (h5 (.methodLink RX8 208 (Bundle.initS vy_N)) (by simp)) (a4 (.instanceMethod (Bundle.initS vy_N)) (by simp [Bundle.passSAtoms])) (bytes := vy_six) (maxL := 2) (a4 (.code (Bundle.initS vy_N) vy_six 2 none) (by simp [Bundle.passSAtoms]))
    (f := g) hg (a := a) (msg := msg) (rest := .ref a :: rest) hstack hd6
  cases Option.some.inj (hnC.symm.trans hP1m)
  have X₁ := X.noted hW₁
  obtain ⟨vm₂, X₂, st2⟩ := X₁.ctorMessageOffV hexec (g := { g with stack := .ref a :: rest }) hg hsize T9 L Z LZ M LM (P1 :: P2 :: Ps)
    (fun P hP => by
      rcases List.mem_cons.mp hP with rfl | hP
      · exact L1
      · rcases List.mem_cons.mp hP with rfl | hP
        · exact L2
        · exact hL P hP) ⟨hlink1, ⟨hlink2, hlink⟩⟩ (u0 := u0) (sen := sen) (self := a) hmsg (cell := freshCell P1.m.cls kX) (cellS := cellS)
    hcell (fun _ => by simp) (by simp) rfl rfl hsel0 hselF hcellS hneS hknownS (by rw [hkeep _ (hout' _)]; exact hu0) (by rw [hkeep _ (hout' _)]; exact hsen)
    (Takes.of_laid hk hord tyC (by rw [Y.causeType]; rfl)) (Takes.of_laid hk hord tyS (by rw [Y.stackType]; exact fits_refV_array _ u0)) (Takes.of_laid hk hord tyP (by rw [Y.suppType]; exact fits_refV_object _ sen))
    (Takes.of_laid hk hord tyM (by rw [Y.msgType]; exact fits_refV_object _ ⟨msg, hmsg⟩)) Y.objLocals hskip htr [] hd6
    (by
      have e1 : Ps.length = 1 := hlen
      simp only [List.length_cons, e1]; omega) (by
      have e1 : Ps.length = 1 := hlen
      simp only [List.length_cons, e1]; exact hRl)
  obtain ⟨hwalk, hrun, hended, hWU, hsame⟩ := X₂.athrowLeaves hexec (g := { g with stack := .ref a :: rest, pc := g.pc + 3 }) hg hlocked hentered hout (a := a) (rest := rest) rfl hd9
  have hlt : a < ((T.setVm vm₁).setVm vm₂).heap.size := (Array.getElem?_eq_some_iff.mp hcell).1
  have hU := heapAt_setCell_self (s := (T.setVm vm₁).setVm vm₂) (plainBareV T9.toThrowableT (freshCell P1.m.cls kX) a u0 sen msg) hlt
  refine ⟨_, st1 _ (fun acts => ?_), hrun, hended, hWU, hsame.weaken (fun y hy hlt' => ?_) (Nat.le_refl _) (Nat.le_refl _), _, hU, rfl, rfl⟩
  · rw [doInvoke_state]
    exact st2 _ hwalk
  · rcases List.mem_append.mp hy with h1 | h1
    · exact h1
    · exfalso
      have hb : y.base = a := by
        simp only [List.mem_cons, List.not_mem_nil, or_false] at h1
        rcases h1 with rfl | rfl | rfl | rfl | rfl <;> rfl
      rw [hb] at hlt'
      exact Nat.not_lt.mpr hnew hlt'
end
section
variable {p : Program} {l : Launch} {e : Env} {R : Room} {s : State} {m : MethodId} {args : Array Value} {below : List Frame} {meth : Method} {c : Code} {H : Heap} {locs : List Loc} {cells slots : Nat} {ls : Array Slot} {rest : List Value} {Qc : Array Value → State → Outcome → State → Prop} {XC : String → State → State → Prop} {free : Nat → Prop}
/-- the throw; w says whether the text's index is wide (then it is 3 bytes, else 2) -/
theorem vy_throw {cc : ByteArray} {pc w : Nat} (hexec : p.tables.exec = Jvm.exec) (hb : c.code = cc) (hl : l.stackTraces = false) {text : String} {is mc ms sa : Nat} {A : Nat → Prop}
    (hown : s.vm.findClass RX8 = some m.cls) (hk : (Cond.classLink RX8 204 vy_N).before args s = true) (hini : (Cond.initialized vy_N).before args s = true) (hstr : vk_R RX8 is text sa s) (hat : ∀ w ∈ vy_A.filter vx_no, w.before args s = true)
    (hgood : ∀ w ∈ Cond.classLink RX8 204 vy_N :: Cond.initialized vy_N :: vy_A.filter vx_no, vx_ot w = true)
    (hU : vx_Zq Bundle.tN "UNASSIGNED_STACK" Bundle.steD A s s.heap) (hN : vx_Zq Bundle.tN "SUPPRESSED_SENTINEL" Bundle.listD A s s.heap) (hS : va_S A s.heap H locs) (hsize : ls.size = c.maxLocals)
    (d0 : decode cc pc = .ok (.new 204, 3)) (d3 : decode cc (pc + 3) = .ok (.dup, 1)) (d4 : (w = 2 ∧ decode cc (pc + 4) = .ok (.ldc is, 2)) ∨ (w = 3 ∧ decode cc (pc + 4) = .ok (.ldc_w is, 3))) (d6 : decode cc (pc + 4 + w) = .ok (.invokespecial 208, 3)) (d9 : decode cc (pc + 4 + w + 3) = .ok (.athrow, 1))
    (hout : ∀ x ∈ c.exceptionTable.toList, covers x (pc + 4 + w + 3) = false)
    (hRframes : 5 < R.frames) (hRlocals : (rest.map fun v => v.category).sum + 82 ≤ R.locals) (hRcells : cells + 1 ≤ R.cells) (hRslots : slots + 6 ≤ R.slots) (hlocks : meth.locks = false)
    (hx : ∀ t : State, s.vm.Alike t.vm → H.size ≤ t.heap.size → (∀ q : Nat, q < H.size → t.heap[q]? = H[q]?) → XC vy_N s t)
    (hf : ∀ z ∈ locs, free z.base) (hc : cells + 1 ≤ mc) (hs : slots + 6 ≤ ms) :
    W p l e R s m args below meth c H locs cells slots (vx_MQ below Qc XC args s mc ms free) (F0 m pc ls rest) := by
  intro T hT X
  have htr : e.platform.stackTraces = false := (show e.platform.stackTraces = l.stackTraces by rw [X.admits.platform]).trans hl
  have Y := vx_rebase X (R' := { frames := R.frames, locals := R.locals, cells := 1, slots := 6 }) (Nat.le_refl _) (Nat.le_refl _) hRcells hRslots
  obtain ⟨s', hA⟩ : ∃ z, z = (T.setVm s.vm).setFrames (.invoking m args :: below) := ⟨_, rfl⟩
  rw [← hA] at Y
  have hvm : s'.vm = s.vm := by rw [hA]; rfl
  have hhp : s'.heap = H := by rw [hA]; exact hT
  have hW0 : s.WarmedH s'.vm := by rw [hvm]; exact State.WarmedH.refl s
  have hat' : ∀ w ∈ vy_A.filter vx_no, w.before args s' = true := fun w hw => vx_ot_at hW0 hvm.symm (hgood w (List.mem_cons_of_mem _ (List.mem_cons_of_mem _ hw))) (hat w hw)
  have hk' : (Cond.classLink RX8 204 vy_N).before args s' = true := vx_ot_at hW0 hvm.symm (hgood _ List.mem_cons_self) hk
  have hini' : (Cond.initialized vy_N).before args s' = true := vx_ot_at hW0 hvm.symm (hgood _ (List.mem_cons_of_mem _ List.mem_cons_self)) hini
  have hU' : vx_Zq Bundle.tN "UNASSIGNED_STACK" Bundle.steD A s' s'.heap := by rw [hhp]; exact vx_Zq.moved hW0.alike (hU.kept hS.2.1)
  have hN' : vx_Zq Bundle.tN "SUPPRESSED_SENTINEL" Bundle.listD A s' s'.heap := by rw [hhp]; exact vx_Zq.moved hW0.alike (hN.kept hS.2.1)
  have h : ∀ w ∈ vy_A, w.before args s' = true := vx_own hat' (vx_isRefq hU'.1) (vx_isRefq hN'.1) hU'.2.word hN'.2.word
  have hown' : s'.vm.findClass RX8 = some m.cls := by rw [hvm]; exact hown
  have hins : (Cond.instantiable vy_N 6).before args s' = true := h _ (vy_t5 _ (by simp))
  obtain ⟨vm₁, cX, kX, hfX, hkX, -, -, X₁, st1⟩ := Y.newCold hexec (own := RX8) (C := vy_N) (index := 204) (n := 6) hown' hk' hins hini'
    (g := F0 m pc ls rest) rfl (by rw [hb]; exact d0) (Nat.le_refl _) (Nat.le_refl _)
  generalize hT1 : (T.setVm vm₁).pushCell { cls := cX, slots := kX.instanceTypes.map defaultValue, vm := .none } = T1 at X₁ st1
  have hcat : (Value.ref T.heap.size).category = 1 := rfl
  have hcellA : T1.heap[T.heap.size]? = some (freshCell cX kX) := by rw [← hT1]; exact State.heap_pushCell_size _ _
  have d3' : decode c.code (pc + 3) = .ok (.dup, 1) := by rw [hb]; exact d3
  have hstr' : vk_R RX8 is text sa s' := vk_R.warm hW0 hstr
  obtain ⟨U, hsteps, hrun, hend, hW, hsame, ce, hce, hcv, hcc⟩ := vy_ctor X₁ hexec htr hown' h (fun x hx => nomatch hx) hfX hkX hcellA (by rw [hhp, hT]; exact Nat.le_refl _) (msg := .ref sa) rfl
    (g := { method := m, pc := pc + 4 + w, locals := ls, stack := .ref sa :: .ref T.heap.size :: .ref T.heap.size :: rest, locked := none }) rfl hsize rfl rfl (rest := rest) rfl
    (by rw [hb]; exact d6) (by rw [hb]; exact d9) hout hRframes (by
      show 2 * 0 + _ + 81 ≤ R.locals
      simp only [List.map_cons, List.sum_cons, hcat]; omega) hlocks
  obtain ⟨f1, f2⟩ := vx_frame hsame
  rw [hhp] at f1 f2
  have hWs : s.WarmedH U.vm := State.WarmedH.trans hW0 hW
  have hcl : s.vm.findClass vy_N = some ce.cls := by
    rw [hcc, ← hvm]
    exact hfX
  have hall : s.sameButNew ({ U with vm := s.vm } : State) locs mc ms := by
    subst hA
    obtain ⟨e1, e2⟩ := hsame
    rw [State.setFrames_setFrames] at e1
    have h2 : (T.setVm s.vm).sameButNew ({ U with vm := s.vm } : State) [] (0 + 1) (0 + 6) := ⟨e1, e2⟩
    have h3 := X.same.trans h2
    rw [List.append_nil] at h3
    exact h3.mono hc hs
  refine ⟨U, ?_, .threw T.heap.size, hrun, hend, Or.inr ⟨T.heap.size, rfl, vy_N, ce, locs, hx U hWs.alike f1 (fun q hq => f2 q hq (fun z hz => nomatch hz)), hce, hcv, hcl, hWs, hall, hf⟩⟩
  refine st1 _ ?_
  show Steps p.tables e below (T1.setTop { method := m, pc := pc + 3, locals := ls, stack := .ref T.heap.size :: rest, locked := none }) _
  jvm_step X₁.here [X₁.here.top, hexec, d3', Value.category]
  rcases d4 with ⟨rfl, d4⟩ | ⟨rfl, d4⟩
  · have d4' : decode c.code (pc + 4) = .ok (.ldc is, 2) := by rw [hb]; exact d4
    exact X₁.ldcString hexec (own := RX8) (text := text) (index := is) (a := sa) hown' hstr'.1 hstr'.2
      (g := { method := m, pc := pc + 4, locals := ls, stack := .ref T.heap.size :: .ref T.heap.size :: rest, locked := none }) rfl d4' _ hsteps
  · have d4' : decode c.code (pc + 4) = .ok (.ldc_w is, 3) := by rw [hb]; exact d4
    exact X₁.ldcStringW hexec (own := RX8) (text := text) (index := is) (a := sa) hown' hstr'.1 hstr'.2
      (g := { method := m, pc := pc + 4, locals := ls, stack := .ref T.heap.size :: .ref T.heap.size :: rest, locked := none }) rfl d4' _ hsteps
end
def KT3 (is : Nat) (text : String) : Prop := Cond.classLink RX8 204 vy_N ∈ lw_tbl ∧ Cond.initialized vy_N ∈ lw_tbl ∧ Cond.stringRef RX8 is text ∈ lw_tbl ∧ Cond.exactly (Term.string RX8 is) "java/lang/String" ∈ flatC (Jvm.Cond.and given_1 narrow_1)
section
variable {G : GT} {X : XT} {nm : String} {cc : ByteArray} {nL k mc ms uc us pc : Nat} {h : Hp} {L : List (Option Value)} {st : List Value} {tb : List ExceptionTableEntry} {post : Option Value → Hp → Prop} {px : String → Hp → Prop}
theorem z_throw3 {is : Nat} {text : String} {ret : Option FieldType} (w : Nat) (C : Cx G X RX8 cc nL k mc ms) (E : Ed G X nm ret [] mc ms post px) (hK : KT3 is text) (hk : 8 ≤ k) (hst : (st.map fun v => v.category).sum ≤ 100)
    (d0 : decode cc pc = .ok (.new 204, 3)) (d3 : decode cc (pc + 3) = .ok (.dup, 1)) (d4 : (w = 2 ∧ decode cc (pc + 4) = .ok (.ldc is, 2)) ∨ (w = 3 ∧ decode cc (pc + 4) = .ok (.ldc_w is, 3))) (d6 : decode cc (pc + 4 + w) = .ok (.invokespecial 208, 3)) (d9 : decode cc (pc + 4 + w + 3) = .ok (.athrow, 1)) (hp : px vy_N h) (h1 : uc + 1 ≤ mc) (h2 : us + 6 ≤ ms) : Zs G X nL h uc us pc L st := by
  intro ls H locs cells slots hl hR hS hc hs
  obtain ⟨f1, f2, f3, f4⟩ := hK
  obtain ⟨sa, hsa⟩ : ∃ sa : Nat, vk_R RX8 is text sa (Xs X) := by
    obtain ⟨a, c, cell, kk, q1, -⟩ := Cond.exactly_spec (args := #[Value.ref (gb G)]) (first := gs G) (o := none) (s := gs G) (idx := []) (t := Term.string RX8 is) (cls := "java/lang/String") (flat_of_before _ C.hB.2.1 _ f4)
    exact ⟨a, vk_R.warm C.hE.1 (vk_R.of (C.hB.1 _ f3) q1)⟩
  obtain ⟨n1, n2, n3, n4, n5⟩ := ktn
  obtain ⟨e1, e2, e3, e4⟩ := E
  have g1 := C.hlo
  have g2 := C.hf
  have g3 := C.hc
  have g4 := C.hs
  rw [e1]
  refine vy_throw (w := w) C.hx C.hb (flags_st C.hB.2.2.2.1) C.ho (C.w f1 rfl) (C.w f2 rfl) hsa (fun w hw => C.w (vy_tbl w hw).1 (vy_tbl w hw).2) (fun w hw => ?_) (C.Zq n1 n3 n4) (C.Zq n2 n3 n5) hS (hl.1.trans C.hml.symm) d0 d3 d4 d6 d9 (by rw [e4]; exact fun x hx => nomatch hx) (by omega) (by omega) (by omega) (by omega) C.hk (fun t hA hz hq => ⟨⟨h, hp, fun a o ha => ⟨(hR a o ha).1, (hR a o ha).2.kept (hq a (hR.lt ha))⟩⟩, ?_⟩) hS.2.2 (by omega) (by omega)
  · rcases List.mem_cons.mp hw with rfl | hw
    · rfl
    · rcases List.mem_cons.mp hw with rfl | hw
      · rfl
      · exact zgood_ot (vy_tbl _ hw).2
  · exact ⟨Nat.le_trans hS.1 hz, fun q h5 h6 => (hq q (Nat.lt_of_lt_of_le h5 hS.1)).trans (hS.2.1 q h5 h6)⟩
end
theorem ktX8_204_206_208 : KT3 206 "the list of the door does not have the key" := by
  unfold KT3
  decide +kernel
theorem ktX8_204_276_208 : KT3 276 "no such key" := by
  unfold KT3
  decide +kernel
theorem ktX8_204_285_208 : KT3 285 "no such audit" := by
  unfold KT3
  decide +kernel
end
section
/-! short forms of posts, and the JDK's methods -/
theorem zb {a b : Nat} (h : Nat.ble a b = true) : a ≤ b := Nat.le_of_ble_eq_true h
def rd (h : Hp) (v : Value) : Option Value → Hp → Prop := fun o h' => h = h' ∧ o = some v
def rv (h : Hp) : Option Value → Hp → Prop := fun o h' => h = h' ∧ o = none
def wr (h1 : Hp) : Option Value → Hp → Prop := fun o h' => h1 = h' ∧ o = none
def rc (c : Prop) (h : Hp) (v : Value) : Option Value → Hp → Prop := fun o h' => c ∧ h = h' ∧ o = some v
def rcv (c : Prop) (h : Hp) : Option Value → Hp → Prop := fun o h' => c ∧ h = h' ∧ o = none
def xc (c : Prop) (En : String) (h : Hp) : String → Hp → Prop := fun E h' => c ∧ h = h' ∧ E = En
theorem hup_hup (h : Hp) (a : Nat) (o o' : va_E) : hup (hup h a o) a o' = hup h a o' := by
  funext b
  by_cases e : b = a
  · rw [e, hup_self, hup_self]
  · rw [hup_ne e, hup_ne e, hup_ne e]
theorem hup_id {h : Hp} {a : Nat} {o : va_E} (e : h a = some o) : hup h a o = h := by
  funext b
  by_cases e1 : b = a
  · rw [e1, hup_self, e]
  · rw [hup_ne e1]
theorem hup_comm {h : Hp} {a b : Nat} {x y : va_E} (e : a ≠ b) : hup (hup h a x) b y = hup (hup h b y) a x := by
  funext c
  by_cases e1 : c = b
  · rw [e1, hup_self, hup_ne (Ne.symm e), hup_self]
  · rw [hup_ne e1]
    by_cases e2 : c = a
    · rw [e2, hup_self, hup_self]
    · rw [hup_ne e2, hup_ne e2, hup_ne e1]
section
variable {G : GT} {X : XT} {own : String} {cc : ByteArray} {nL k mc ms uc us pc mc2 ms2 : Nat} {h h1 : Hp} {L : List (Option Value)} {st st0 av : List Value} {c c2 : Prop} {v : Value} {En : String} {post2 : Option Value → Hp → Prop}
theorem z_rd (hr : ZRun G X nL h uc us mc2 ms2 pc L st0 st av (rd h v) noX) (kk : Zs G X nL h (uc + mc2) (us + ms2) (pc + 3) L (v :: st)) : Zs G X nL h uc us pc L st0 :=
  z_run hr (fun _ _ q => q.elim) (fun o h' hp => by obtain ⟨rfl, rfl⟩ := hp; exact kk)
theorem z_rv (hr : ZRun G X nL h uc us mc2 ms2 pc L st0 st av (rv h) noX) (kk : Zs G X nL h (uc + mc2) (us + ms2) (pc + 3) L st) : Zs G X nL h uc us pc L st0 :=
  z_run hr (fun _ _ q => q.elim) (fun o h' hp => by obtain ⟨rfl, rfl⟩ := hp; exact kk)
theorem z_wr (hr : ZRun G X nL h uc us mc2 ms2 pc L st0 st av (wr h1) noX) (kk : Zs G X nL h1 (uc + mc2) (us + ms2) (pc + 3) L st) : Zs G X nL h uc us pc L st0 :=
  z_run hr (fun _ _ q => q.elim) (fun o h' hp => by obtain ⟨rfl, rfl⟩ := hp; exact kk)
theorem z_rn (hr : ZRun G X nL h uc us mc2 ms2 pc L st0 st av post2 noX) (kk : ∀ (v : Option Value) (h' : Hp), post2 v h' → Zs G X nL h' (uc + mc2) (us + ms2) (pc + 3) L (v.toList ++ st)) : Zs G X nL h uc us pc L st0 :=
  z_run hr (fun _ _ q => q.elim) kk
theorem z_rc (hr : ZRun G X nL h uc us mc2 ms2 pc L st0 st av (rc c h v) (xc c2 En h)) (kx : c2 → Zx G X nL h (uc + mc2) (us + ms2) pc L st En) (kk : c → Zs G X nL h (uc + mc2) (us + ms2) (pc + 3) L (v :: st)) : Zs G X nL h uc us pc L st0 :=
  z_run hr (fun E h' q => by obtain ⟨q, rfl, rfl⟩ := q; exact kx q) (fun o h' hp => by obtain ⟨hp, rfl, rfl⟩ := hp; exact kk hp)
theorem z_rcv (hr : ZRun G X nL h uc us mc2 ms2 pc L st0 st av (rcv c h) (xc c2 En h)) (kx : c2 → Zx G X nL h (uc + mc2) (us + ms2) pc L st En) (kk : c → Zs G X nL h (uc + mc2) (us + ms2) (pc + 3) L st) : Zs G X nL h uc us pc L st0 :=
  z_run hr (fun E h' q => by obtain ⟨q, rfl, rfl⟩ := q; exact kx q) (fun o h' hp => by obtain ⟨hp, rfl, rfl⟩ := hp; exact kk hp)
/-- a loop up to N -/
theorem z_loop {I : Nat → Prop} (N : Nat) (step : ∀ i, i ≤ N → (i < N → I (i + 1)) → I i) : ∀ i, i ≤ N → I i := by
  have key : ∀ d i, i + d = N → I i := fun d => by
    induction d with
    | zero => exact fun i hi => step i (by omega) (fun q => by omega)
    | succ d ih => exact fun i hi => step i (by omega) (fun _ => ih (i + 1) (by omega))
  exact fun i hi => key (N - i) i (by omega)
end
section
variable {G : GT} {h : Hp}
theorem k_pre (hB : Base G) {i n : Int32} (h0 : ¬ i < 0) (h1 : i < n) : Ct G mJ3_checkIndex_8e157 1 0 0 [.int i, .int n, .null] h (rd h (.int i)) noX := by
  refine Ct.introF (m := 0) hB (by decide +kernel) (zb rfl) fun X C E => ?_
  refine z_iload_n C dJ3_checkIndex_8e157_0 rfl ?_
  refine z_if_lt (tgt := 9) C dJ3_checkIndex_8e157_1 (by decide) (fun e9 => absurd e9 (h0)) (fun _ => ?_)
  refine z_iload_n C dJ3_checkIndex_8e157_4 rfl ?_
  refine z_iload_n C dJ3_checkIndex_8e157_5 rfl ?_
  refine z_icmp_lt (tgt := 16) C dJ3_checkIndex_8e157_6 (by decide) (fun _ => ?_) (fun e9 => absurd (h1) e9)
  refine z_iload_n C dJ3_checkIndex_8e157_16 rfl ?_
  exact z_iret C E dJ3_checkIndex_8e157_17 (⟨rfl, rfl⟩) (zb rfl) (zb rfl)
theorem k_chk (hB : Base G) {i n : Int32} (h0 : ¬ i < 0) (h1 : i < n) : Ct G mJ15_checkIndex_7cf53 2 0 0 [.int i, .int n] h (rd h (.int i)) noX := by
  refine Ct.introF (m := 0) hB (by decide +kernel) (zb rfl) fun X C E => ?_
  refine z_iload_n C dJ15_checkIndex_7cf53_0 rfl ?_
  refine z_iload_n C dJ15_checkIndex_7cf53_1 rfl ?_
  refine z_null C dJ15_checkIndex_7cf53_2 ?_
  refine z_rd (z_runS C ksJ3_checkIndex_8e157 lkJ15_105 (k_pre hB h0 h1) rfl rfl (zb rfl) (zb rfl) (zb rfl) (zb rfl) dJ15_checkIndex_7cf53_3) ?_
  exact z_iret C E dJ15_checkIndex_7cf53_6 (⟨rfl, rfl⟩) (zb rfl) (zb rfl)
theorem k_max1 {k : Nat} (hk : k < 2 ^ 20) : (if (1 : Int32) < nI (k / 2) then nI (k / 2) else 1) = nI (max 1 (k / 2)) := by
  have e1 : (1 : Int32) = nI 1 := by decide
  rw [e1]
  by_cases e : 1 < k / 2
  · rw [if_pos ((nI_ltI (by omega) (by omega)).mpr e), Nat.max_eq_right (by omega)]
  · rw [if_neg (fun q => e ((nI_ltI (by omega) (by omega)).mp q)), Nat.max_eq_left (by omega)]
theorem k_newLength (hB : Base G) {x y z r : Int32} (hr : x + (if y < z then z else y) = r) (h0 : 0 < r) (h1 : r ≤ 2147483639) : Ct G mJ8_newLength_cabcc 1 0 0 [.int x, .int y, .int z] h (rd h (.int r)) noX := by
  refine Ct.introF (m := 1) hB (by decide +kernel) (zb rfl) fun X C E => ?_
  refine z_iload_n C dJ8_newLength_cabcc_0 rfl ?_
  refine z_iload_n C dJ8_newLength_cabcc_1 rfl ?_
  refine z_iload_n C dJ8_newLength_cabcc_2 rfl ?_
  refine z_mmax C lkJ8_194 st_max ini_J9 co_max (zb rfl) (zb rfl) (zb rfl) (zb rfl) dJ8_newLength_cabcc_3 ?_
  refine z_iadd C dJ8_newLength_cabcc_6 ?_
  rw [hr]
  have g0 : ¬ r ≤ 0 := by
    rw [Int32.not_le]; exact h0
  have g1 : ¬ (2147483639 : Int32) < r := by
    rw [Int32.not_lt]; exact h1
  refine z_istore_n C dJ8_newLength_cabcc_7 (zb rfl) ?_
  refine z_iconst (v := 0) C dJ8_newLength_cabcc_8 (by decide) ?_
  refine z_iload_n C dJ8_newLength_cabcc_9 rfl ?_
  refine z_icmp_ge (tgt := 21) C dJ8_newLength_cabcc_10 (by decide) (fun e9 => absurd e9 (g0)) (fun _ => ?_)
  refine z_iload_n C dJ8_newLength_cabcc_13 rfl ?_
  refine z_ldc C kstJ8_200 dJ8_newLength_cabcc_14 ?_
  refine z_icmp_gt (tgt := 21) C dJ8_newLength_cabcc_16 (by decide) (fun e9 => absurd e9 (g1)) (fun _ => ?_)
  refine z_iload_n C dJ8_newLength_cabcc_19 rfl ?_
  exact z_iret C E dJ8_newLength_cabcc_20 (⟨rfl, rfl⟩) (zb rfl) (zb rfl)
theorem k_size (hB : Base G) {a : Nat} {m n v : Value} {i : Int32} (ha : h a = some (.inr (0, [m, v, .int i]))) : Ct G mJx4a65c_size_8abf5 1 0 0 [.ref a] h (rd h (.int i)) noX := by
  refine Ct.introF (m := 0) hB (by decide +kernel) (zb rfl) fun X C E => ?_
  refine z_aload_n C dJx4a65c_size_8abf5_0 rfl ?_
  refine z_getf C kcJx4a65c flJx4a65c_48 (ha) rfl dJx4a65c_size_8abf5_1 ?_
  exact z_iret C E dJx4a65c_size_8abf5_4 (⟨rfl, rfl⟩) (zb rfl) (zb rfl)
theorem k_elem (hB : Base G) {a arr e cap : Nat} {m n : Value} {i : Int32} {f : Nat → Option Nat} (ha : h a = some (.inr (0, [m, .ref arr, n]))) (he : h arr = some (oO G cap f)) (hin : vp_in i cap) (hf : f i.toNatClampNeg = some e) : Ct G mJx4a65c_elementData_915e3 1 0 0 [.ref a, .int i] h (rd h (.ref e)) noX := by
  refine Ct.introF (m := 0) hB (by decide +kernel) (zb rfl) fun X C E => ?_
  refine z_aload_n C dJx4a65c_elementData_915e3_0 rfl ?_
  refine z_getf C kcJx4a65c flJx4a65c_9 (ha) rfl dJx4a65c_elementData_915e3_1 ?_
  refine z_iload_n C dJx4a65c_elementData_915e3_4 rfl ?_
  refine z_aaldO C (he) (hin) dJx4a65c_elementData_915e3_5 ?_
  rw [hf]
  exact z_aret C E (Or.inl ⟨_, rfl⟩) (Or.inr ⟨_, rfl⟩) dJx4a65c_elementData_915e3_6 (⟨rfl, rfl⟩) (zb rfl) (zb rfl)
theorem k_get (hB : Base G) {a arr e cap : Nat} {m : Value} {i n : Int32} {f : Nat → Option Nat} (ha : h a = some (.inr (0, [m, .ref arr, .int n]))) (he : h arr = some (oO G cap f)) (h0 : ¬ i < 0) (h1 : i < n) (hin : vp_in i cap) (hf : f i.toNatClampNeg = some e) : Ct G mJx4a65c_get_915e3 3 0 0 [.ref a, .int i] h (rd h (.ref e)) noX := by
  refine Ct.introF (m := 0) hB (by decide +kernel) (zb rfl) fun X C E => ?_
  refine z_iload_n C dJx4a65c_get_915e3_0 rfl ?_
  refine z_aload_n C dJx4a65c_get_915e3_1 rfl ?_
  refine z_getf C kcJx4a65c flJx4a65c_48 (ha) rfl dJx4a65c_get_915e3_2 ?_
  refine z_rd (z_runS C ksJ15_checkIndex_7cf53 lkJx4a65c_118 (k_chk hB h0 h1) rfl rfl (zb rfl) (zb rfl) (zb rfl) (zb rfl) dJx4a65c_get_915e3_5) ?_
  refine z_pop C dJx4a65c_get_915e3_8 rfl ?_
  refine z_aload_n C dJx4a65c_get_915e3_9 rfl ?_
  refine z_iload_n C dJx4a65c_get_915e3_10 rfl ?_
  refine z_rd (z_runV C kvJx4a65c_elementData_915e3 lkJx4a65c_123 kcJx4a65c (k_elem hB ha he hin hf) (ha) rfl rfl (zb rfl) (zb rfl) (zb rfl) (zb rfl) dJx4a65c_get_915e3_11) ?_
  exact z_aret C E (Or.inl ⟨_, rfl⟩) (Or.inr ⟨_, rfl⟩) dJx4a65c_get_915e3_14 (⟨rfl, rfl⟩) (zb rfl) (zb rfl)
theorem k_acInit (hB : Base G) {a : Nat} : Ct G mJxa1e45_init_da8c8 2 0 0 [.ref a] h (rv h) noX := by
  refine Ct.introF (m := 0) hB (by decide +kernel) (zb rfl) fun X C E => ?_
  refine z_aload_n C dJxa1e45_init_da8c8_0 rfl ?_
  refine z_objInit C lkJxa1e45_1 im_obj co_obj (zb rfl) (zb rfl) dJxa1e45_init_da8c8_1 ?_
  exact z_vret C E dJxa1e45_init_da8c8_4 (⟨rfl, rfl⟩) (zb rfl) (zb rfl)
theorem k_alInit (hB : Base G) {a : Nat} {m x n : Value} (ha : h a = some (.inr (0, [m, x, n]))) : Ct G mJxc12de_init_da8c8 3 0 0 [.ref a] h (wr (hup h a (.inr (0, [.int 0, x, n])))) noX := by
  refine Ct.introF (m := 0) hB (by decide +kernel) (zb rfl) fun X C E => ?_
  refine z_aload_n C dJxc12de_init_da8c8_0 rfl ?_
  refine z_rv (z_runI C kiJxa1e45_init_da8c8 (Or.inl lkJxc12de_1) (k_acInit hB) rfl rfl (zb rfl) (zb rfl) (zb rfl) (zb rfl) dJxc12de_init_da8c8_1) ?_
  refine z_aload_n C dJxc12de_init_da8c8_4 rfl ?_
  refine z_iconst (v := 0) C dJxc12de_init_da8c8_5 (by decide) ?_
  refine z_putf C kcJx4a65c flJxc12de_7 (ha) rfl (rfl) rfl (zb rfl) dJxc12de_init_da8c8_6 ?_
  intro _ e8; subst e8
  exact z_vret C E dJxc12de_init_da8c8_9 (⟨rfl, rfl⟩) (zb rfl) (zb rfl)
theorem k_listInit (hB : Base G) {a : Nat} {m x n : Value} (ha : h a = some (.inr (0, [m, x, n]))) : Ct G mJx4a65c_init_da8c8 4 0 0 [.ref a] h (wr (hup h a (.inr (0, [.int 0, .ref (gd G), n])))) noX := by
  refine Ct.introF (m := 0) hB (by decide +kernel) (zb rfl) fun X C E => ?_
  refine z_aload_n C dJx4a65c_init_da8c8_0 rfl ?_
  refine z_wr (z_runI C kiJxc12de_init_da8c8 (Or.inl lkJx4a65c_1) (k_alInit hB ha) rfl rfl (zb rfl) (zb rfl) (zb rfl) (zb rfl) dJx4a65c_init_da8c8_1) ?_
  refine z_aload_n C dJx4a65c_init_da8c8_4 rfl ?_
  refine z_getsD C fl_empty dJx4a65c_init_da8c8_5 ?_
  refine z_putf C kcJx4a65c flJx4a65c_9 (hup_self _ _ _) rfl (rfl) rfl (zb rfl) dJx4a65c_init_da8c8_8 ?_
  intro _ e8; subst e8
  exact z_vret C E dJx4a65c_init_da8c8_11 (⟨(hup_hup _ _ _ _).symm, rfl⟩) (zb rfl) (zb rfl)
/-- the capacity of a list that has had n elements added -/
def cpf : Nat → Nat
  | 0 => 0
  | k + 1 => if k < cpf k then cpf k else if k = 0 then 10 else k + max 1 (k / 2)
theorem cpf_le : ∀ n : Nat, n ≤ cpf n ∧ cpf n ≤ 2 * n + 10
  | 0 => by simp [cpf]
  | k + 1 => by
    have ih := cpf_le k
    unfold cpf
    split
    · omega
    · split <;> omega
theorem k_copy3 (hB : Base G) {ci : Nat} {Cn : String} {T : u_T} {N9 : Nat} {ty : Nat → FieldType} (kc : KC ci Cn T N9 ty) (hca : Cond.castable Cn "java/lang/Object" ∈ lw_tbl) {a n0 n mi : Nat} {f : Nat → Option Nat} {v : Int32} (hM : va_Mi "[Ljava/lang/Object;" mi (gs G)) (ha : h a = some (oO G n0 f)) (hv : v = nI n) (hn : n0 ≤ n) (hn2 : n < 4000)
    (hf : ∀ i, n0 ≤ i → f i = none) (hel : ∀ i, i < n0 → ∀ y, f i = some y → ∃ fs, h y = some (.inr (ci, fs))) : Ct G mJ7_copyOf_6403c 1 1 4000 [.ref a, .int v, .ref mi] h (fun o h' => ∃ q, h q = none ∧ h' = hup h q (oO G n f) ∧ o = some (.ref q)) noX := by
  refine Ct.introF (m := 1) hB (by decide +kernel) (zb rfl) fun X C E => ?_
  refine z_aload_n C dJ7_copyOf_6403c_0 rfl ?_
  refine z_ldcM C (hM) clJ7_110 dJ7_copyOf_6403c_1 ?_
  refine z_acmp_neR (tgt := 13) C dJ7_copyOf_6403c_3 (by decide) (fun e9 => absurd e9 ((fun e => e rfl))) (fun _ => ?_)
  refine z_iload_n C dJ7_copyOf_6403c_6 rfl ?_
  refine z_newO C clJ7_2 ao_object (hv) ((by omega)) (zb rfl) ((by omega)) dJ7_copyOf_6403c_7 ?_
  intro q1 _ hq1 e8; subst e8
  refine Zs.up (uc' := 1) (us' := 4000) (by omega) (by omega) ?_
  have g0 : hup h q1 (oO G n (fun _ => none)) a = some (oO G n0 f) := hup_n hq1 ha
  refine z_goto (tgt := 24) C dJ7_copyOf_6403c_10 (by decide) ?_
  refine z_astore_n C dJ7_copyOf_6403c_24 (zb rfl) ?_
  refine z_aload_n C dJ7_copyOf_6403c_25 rfl ?_
  refine z_iconst (v := 0) C dJ7_copyOf_6403c_26 (by decide) ?_
  refine z_aload_n C dJ7_copyOf_6403c_27 rfl ?_
  refine z_iconst (v := 0) C dJ7_copyOf_6403c_28 (by decide) ?_
  refine z_aload_n C dJ7_copyOf_6403c_29 rfl ?_
  refine z_alen C rfl (g0) dJ7_copyOf_6403c_30 ?_
  refine z_iload_n C dJ7_copyOf_6403c_31 rfl ?_
  have e1 : (if v < nI n0 then v else nI n0) = nI n0 := by
    rw [hv]
    by_cases e : n < n0
    · omega
    · rw [if_neg (fun q => e ((nI_ltI (by omega) (by omega)).mp q))]
  refine z_mmin C lkJ7_304 st_min ini_J9 co_min (zb rfl) (zb rfl) (zb rfl) (zb rfl) dJ7_copyOf_6403c_32 ?_
  rw [e1]
  have e2 : va_cpy f (fun _ => none) 0 0 n0 = f := by
    funext i
    unfold va_cpy
    by_cases hi : i < n0
    · rw [if_pos (by omega)]; congr 1; omega
    · rw [if_neg (by omega), hf i (by omega)]
  refine z_copy C kc hca lkJ7_150 na_arraycopy st_arraycopy ini_J10 g0 (hup_self _ _ _) rfl (Nat.le_refl _) hn (by omega) (fun i hi y hy => (hel i hi y hy).imp (fun fs hfs => hup_n hq1 hfs)) (zb rfl) (zb rfl) dJ7_copyOf_6403c_35 ?_
  intro _ e8; subst e8
  rw [e2]
  refine z_aload_n C dJ7_copyOf_6403c_38 rfl ?_
  exact z_aret C E (Or.inr ⟨_, rfl⟩) (Or.inr ⟨_, rfl⟩) dJ7_copyOf_6403c_39 (⟨q1, hq1, hup_hup _ _ _ _, rfl⟩) (zb rfl) (zb rfl)
theorem k_copy2 (hB : Base G) {ci : Nat} {Cn : String} {T : u_T} {N9 : Nat} {ty : Nat → FieldType} (kc : KC ci Cn T N9 ty) (hca : Cond.castable Cn "java/lang/Object" ∈ lw_tbl) {a n0 n : Nat} {f : Nat → Option Nat} {v : Int32} (ha : h a = some (oO G n0 f)) (hv : v = nI n) (hn : n0 ≤ n) (hn2 : n < 4000)
    (hf : ∀ i, n0 ≤ i → f i = none) (hel : ∀ i, i < n0 → ∀ y, f i = some y → ∃ fs, h y = some (.inr (ci, fs))) : Ct G mJ7_copyOf_1904c 2 1 4000 [.ref a, .int v] h (fun o h' => ∃ q, h q = none ∧ h' = hup h q (oO G n f) ∧ o = some (.ref q)) noX := by
  refine Ct.introF (m := 0) hB (by decide +kernel) (zb rfl) fun X C E => ?_
  obtain ⟨mi, hM, -⟩ := C.mirror
  refine z_aload_n C dJ7_copyOf_1904c_0 rfl ?_
  refine z_iload_n C dJ7_copyOf_1904c_1 rfl ?_
  refine z_aload_n C dJ7_copyOf_1904c_2 rfl ?_
  refine z_getCls C (hM) lkJ7_86 de_getClass se_getClass im_getClass na_getClass (ha) (zb rfl) (zb rfl) dJ7_copyOf_1904c_3 ?_
  refine z_rn (z_runS C ksJ7_copyOf_6403c lkJ7_300 (k_copy3 hB kc hca hM ha hv hn hn2 hf hel) rfl rfl (zb rfl) (zb rfl) (zb rfl) (zb rfl) dJ7_copyOf_1904c_6) (fun v9 h9 hv => ?_)
  obtain ⟨q, hq, rfl, rfl⟩ := hv
  exact z_aret C E (Or.inr ⟨_, rfl⟩) (Or.inr ⟨_, rfl⟩) dJ7_copyOf_1904c_9 (⟨q, hq, rfl, rfl⟩) (zb rfl) (zb rfl)
theorem k_half {k : Nat} (hk : k < 2 ^ 31) : nI k >>> (1 &&& 31) = nI (k / 2) := pk_shrN hk _ 1 (by decide)
theorem cpf_grow {k : Nat} (hk : k = cpf k) : cpf (k + 1) = if k = 0 then 10 else k + max 1 (k / 2) := by
  rw [show cpf (k + 1) = if k < cpf k then cpf k else if k = 0 then 10 else k + max 1 (k / 2) from rfl, if_neg (by omega)]
/-- grow(int): a bigger array, the elements in it -/
theorem k_grow1 (hB : Base G) {ci : Nat} {Cn : String} {T : u_T} {N9 : Nat} {ty : Nat → FieldType} (kc : KC ci Cn T N9 ty) (hca : Cond.castable Cn "java/lang/Object" ∈ lw_tbl) {a arr k : Nat} {f : Nat → Option Nat} {v : Int32} {m s : Value} (ha : h a = some (.inr (0, [m, .ref arr, s]))) (hk : k = cpf k) (hk2 : k ≤ 600) (hv : v = nI (k + 1)) (harr : (k = 0 ∧ arr = gd G) ∨ (0 < k ∧ h arr = some (oO G (cpf k) f)))
    (hf : ∀ i, k ≤ i → f i = none) (hel : ∀ i, i < k → ∀ y, f i = some y → ∃ fs, h y = some (.inr (ci, fs))) : Ct G mJx4a65c_grow_92f84 3 1 4000 [.ref a, .int v] h (fun o h' => ∃ q, h q = none ∧ h' = hup (hup h q (oO G (cpf (k + 1)) f)) a (.inr (0, [m, .ref q, s])) ∧ o = some (.ref q)) noX := by
  refine Ct.introF (m := 2) hB (by decide +kernel) (zb rfl) fun X C E => ?_
  have hc := cpf_le (k + 1)
  rcases harr with ⟨rfl, rfl⟩ | ⟨h0, harr⟩
  · have e1 : (if (10 : Int32) < v then v else 10) = nI 10 := by rw [hv]; decide
    have e2 : f = fun _ => none := funext fun i => hf i (Nat.zero_le _)
    refine z_aload_n C dJx4a65c_grow_92f84_0 rfl ?_
    refine z_getf C kcJx4a65c flJx4a65c_9 (ha) rfl dJx4a65c_grow_92f84_1 ?_
    refine z_alenD C dJx4a65c_grow_92f84_4 ?_
    refine z_istore_n C dJx4a65c_grow_92f84_5 (zb rfl) ?_
    refine z_iload_n C dJx4a65c_grow_92f84_6 rfl ?_
    refine z_if_gt (tgt := 20) C dJx4a65c_grow_92f84_7 (by decide) (fun e9 => absurd e9 ((by decide))) (fun _ => ?_)
    refine z_aload_n C dJx4a65c_grow_92f84_10 rfl ?_
    refine z_getf C kcJx4a65c flJx4a65c_9 (ha) rfl dJx4a65c_grow_92f84_11 ?_
    refine z_getsD C fl_empty dJx4a65c_grow_92f84_14 ?_
    refine z_acmp_eqR (tgt := 45) C dJx4a65c_grow_92f84_17 (by decide) (fun _ => ?_) (fun e9 => absurd (rfl) e9)
    refine z_aload_n C dJx4a65c_grow_92f84_45 rfl ?_
    refine z_bipush (v := 10) C dJx4a65c_grow_92f84_46 (by decide) ?_
    refine z_iload_n C dJx4a65c_grow_92f84_48 rfl ?_
    refine z_mmax C lkJx4a65c_79 st_max ini_J9 co_max (zb rfl) (zb rfl) (zb rfl) (zb rfl) dJx4a65c_grow_92f84_49 ?_
    rw [e1]
    refine z_newO C clJx4a65c_7 ao_object (rfl) ((by omega)) (zb rfl) ((zb rfl)) dJx4a65c_grow_92f84_52 ?_
    intro q1 _ hq1 e8; subst e8
    refine z_dup_x1 C dJx4a65c_grow_92f84_55 rfl rfl ?_
    refine z_putf C kcJx4a65c flJx4a65c_9 (hup_n hq1 ha) rfl (rfl) rfl (zb rfl) dJx4a65c_grow_92f84_56 ?_
    intro _ e8; subst e8
    exact z_aret C E (Or.inr ⟨_, rfl⟩) (Or.inr ⟨_, rfl⟩) dJx4a65c_grow_92f84_59 (⟨q1, hq1, by rw [e2]; rfl, rfl⟩) (zb rfl) (zb rfl)
  · have e1 : nI k + (if nI (k + 1) - nI k < nI k >>> (1 &&& 31) then nI k >>> (1 &&& 31) else nI (k + 1) - nI k) = nI (k + max 1 (k / 2)) := by
      have e3 : nI (k + 1) - nI k = 1 := by
        rw [nI_succ, Int32.add_comm]
        exact Int32.add_sub_cancel _ _
      rw [k_half (by omega), e3, k_max1 (by omega), nI_add]
    have e2 : cpf (k + 1) = k + max 1 (k / 2) := by rw [cpf_grow hk, if_neg (by omega)]
    have hne : h a = some (.inr (0, [m, .ref arr, s])) := ha
    have g1 : ¬ nI (cpf k) ≤ 0 := nI_nle (by omega) (by omega)
    have g2 : 0 < nI (cpf k) := Int32.not_le.mp g1
    rw [← hk] at harr g1 g2
    have g3 : 0 < nI (k + max 1 (k / 2)) := Int32.not_le.mp (nI_nle (by omega) (by omega))
    have g4 : nI (k + max 1 (k / 2)) ≤ 2147483639 := by
      rw [show (2147483639 : Int32) = nI 2147483639 by decide]
      exact nI_le (by omega) (by omega)
    subst hv
    refine z_aload_n C dJx4a65c_grow_92f84_0 rfl ?_
    refine z_getf C kcJx4a65c flJx4a65c_9 (ha) rfl dJx4a65c_grow_92f84_1 ?_
    refine z_alen C rfl (harr) dJx4a65c_grow_92f84_4 ?_
    refine z_istore_n C dJx4a65c_grow_92f84_5 (zb rfl) ?_
    refine z_iload_n C dJx4a65c_grow_92f84_6 rfl ?_
    refine z_if_gt (tgt := 20) C dJx4a65c_grow_92f84_7 (by decide) (fun _ => ?_) (fun e9 => absurd (g2) e9)
    refine z_iload_n C dJx4a65c_grow_92f84_20 rfl ?_
    refine z_iload_n C dJx4a65c_grow_92f84_21 rfl ?_
    refine z_iload_n C dJx4a65c_grow_92f84_22 rfl ?_
    refine z_isub C dJx4a65c_grow_92f84_23 ?_
    refine z_iload_n C dJx4a65c_grow_92f84_24 rfl ?_
    refine z_iconst (v := 1) C dJx4a65c_grow_92f84_25 (by decide) ?_
    refine z_ishr C dJx4a65c_grow_92f84_26 ?_
    refine z_rd (z_runS C ksJ8_newLength_cabcc lkJx4a65c_73 (k_newLength hB e1 g3 g4) rfl rfl (zb rfl) (zb rfl) (zb rfl) (zb rfl) dJx4a65c_grow_92f84_27) ?_
    refine z_istore_n C dJx4a65c_grow_92f84_30 (zb rfl) ?_
    refine z_aload_n C dJx4a65c_grow_92f84_31 rfl ?_
    refine z_aload_n C dJx4a65c_grow_92f84_32 rfl ?_
    refine z_getf C kcJx4a65c flJx4a65c_9 (ha) rfl dJx4a65c_grow_92f84_33 ?_
    refine z_iload_n C dJx4a65c_grow_92f84_36 rfl ?_
    refine z_rn (z_runS C ksJ7_copyOf_1904c lkJx4a65c_66 (k_copy2 hB kc hca harr rfl (by omega) (by omega) hf hel) rfl rfl (zb rfl) (zb rfl) (zb rfl) (zb rfl) dJx4a65c_grow_92f84_37) (fun v9 h9 hv => ?_)
    obtain ⟨q, hq, rfl, rfl⟩ := hv
    refine z_dup_x1 C dJx4a65c_grow_92f84_40 rfl rfl ?_
    refine z_putf C kcJx4a65c flJx4a65c_9 (hup_n hq ha) rfl (rfl) rfl (zb rfl) dJx4a65c_grow_92f84_41 ?_
    intro _ e8; subst e8
    exact z_aret C E (Or.inr ⟨_, rfl⟩) (Or.inr ⟨_, rfl⟩) dJx4a65c_grow_92f84_44 (⟨q, hq, by rw [e2]; rfl, rfl⟩) (zb rfl) (zb rfl)
theorem k_grow0 (hB : Base G) {ci : Nat} {Cn : String} {T : u_T} {N9 : Nat} {ty : Nat → FieldType} (kc : KC ci Cn T N9 ty) (hca : Cond.castable Cn "java/lang/Object" ∈ lw_tbl) {a arr k : Nat} {f : Nat → Option Nat} {m : Value} (ha : h a = some (.inr (0, [m, .ref arr, .int (nI k)]))) (hk : k = cpf k) (hk2 : k ≤ 600) (harr : (k = 0 ∧ arr = gd G) ∨ (0 < k ∧ h arr = some (oO G (cpf k) f)))
    (hf : ∀ i, k ≤ i → f i = none) (hel : ∀ i, i < k → ∀ y, f i = some y → ∃ fs, h y = some (.inr (ci, fs))) : Ct G mJx4a65c_grow_d5877 4 1 4000 [.ref a] h (fun o h' => ∃ q, h q = none ∧ h' = hup (hup h q (oO G (cpf (k + 1)) f)) a (.inr (0, [m, .ref q, .int (nI k)])) ∧ o = some (.ref q)) noX := by
  refine Ct.introF (m := 0) hB (by decide +kernel) (zb rfl) fun X C E => ?_
  refine z_aload_n C dJx4a65c_grow_d5877_0 rfl ?_
  refine z_aload_n C dJx4a65c_grow_d5877_1 rfl ?_
  refine z_getf C kcJx4a65c flJx4a65c_48 (ha) rfl dJx4a65c_grow_d5877_2 ?_
  refine z_iconst (v := 1) C dJx4a65c_grow_d5877_5 (by decide) ?_
  refine z_iadd C dJx4a65c_grow_d5877_6 ?_
  refine z_rn (z_runV C kvJx4a65c_grow_92f84 lkJx4a65c_69 kcJx4a65c (k_grow1 hB kc hca ha hk hk2 (nI_1 k) harr hf hel) (ha) rfl rfl (zb rfl) (zb rfl) (zb rfl) (zb rfl) dJx4a65c_grow_d5877_7) (fun v9 h9 hv => ?_)
  obtain ⟨q, hq, rfl, rfl⟩ := hv
  exact z_aret C E (Or.inr ⟨_, rfl⟩) (Or.inr ⟨_, rfl⟩) dJx4a65c_grow_d5877_10 (⟨q, hq, rfl, rfl⟩) (zb rfl) (zb rfl)
/-- the inner add -/
theorem k_add3 (hB : Base G) {ci : Nat} {Cn : String} {T : u_T} {N9 : Nat} {ty : Nat → FieldType} (kc : KC ci Cn T N9 ty) (hca : Cond.castable Cn "java/lang/Object" ∈ lw_tbl) {a arr k x : Nat} {f : Nat → Option Nat} {m : Value} {xs : List Value} (ha : h a = some (.inr (0, [m, .ref arr, .int (nI k)]))) (hk2 : k ≤ 600) (harr : (k = 0 ∧ arr = gd G) ∨ (0 < k ∧ h arr = some (oO G (cpf k) f)))
    (hf : ∀ i, k ≤ i → f i = none) (hel : ∀ i, i < k → ∀ y, f i = some y → ∃ fs, h y = some (.inr (ci, fs))) (hx : h x = some (.inr (ci, xs))) (hxa : x ≠ a) :
    Ct G mJx4a65c_add_72be8 5 1 4000 [.ref a, .ref x, .ref arr, .int (nI k)] h (fun o h' => ∃ q, ((q = arr ∧ 0 < k) ∨ h q = none) ∧ h' = hup (hup h q (oO G (cpf (k + 1)) (va_up f k (some x)))) a (.inr (0, [m, .ref q, .int (nI (k + 1))])) ∧ o = none) noX := by
  refine Ct.introF (m := 0) hB (by decide +kernel) (zb rfl) fun X C E => ?_
  have hc := cpf_le k
  have hc1 := cpf_le (k + 1)
  have grown : k = cpf k → Zs G X 4 h 0 0 6 [some (.ref a), some (.ref x), some (.ref arr), some (.int (nI k))] [] := fun hk => by
    refine z_aload_n C dJx4a65c_add_72be8_6 rfl ?_
    refine z_rn (z_runV C kvJx4a65c_grow_d5877 lkJx4a65c_129 kcJx4a65c (k_grow0 hB kc hca ha hk hk2 harr hf hel) (ha) rfl rfl (zb rfl) (zb rfl) (zb rfl) (zb rfl) dJx4a65c_add_72be8_7) (fun v9 h9 hv => ?_)
    obtain ⟨q, hq, rfl, rfl⟩ := hv
    have hqa : q ≠ a := (h_nn ha hq).symm
    have hqx : q ≠ x := (h_nn hx hq).symm
    have g1 : hup (hup h q (oO G (cpf (k + 1)) f)) a (.inr (0, [m, .ref q, .int (nI k)])) q = some (oO G (cpf (k + 1)) f) := by rw [hup_ne hqa, hup_self]
    have g2 : hup (hup h q (oO G (cpf (k + 1)) f)) a (.inr (0, [m, .ref q, .int (nI k)])) x = some (.inr (ci, xs)) := by rw [hup_ne hxa, hup_ne (Ne.symm hqx), hx]
    refine z_astore_n C dJx4a65c_add_72be8_10 (zb rfl) ?_
    refine z_aload_n C dJx4a65c_add_72be8_11 rfl ?_
    refine z_iload_n C dJx4a65c_add_72be8_12 rfl ?_
    refine z_aload_n C dJx4a65c_add_72be8_13 rfl ?_
    refine z_aast C kc hca (g1) (g2) (nI_in (by omega) (by omega)) dJx4a65c_add_72be8_14 ?_
    intro _ e8; subst e8
    rw [nI_clamp (by omega)]
    have e1 : hup (hup (hup h q (oO G (cpf (k + 1)) f)) a (.inr (0, [m, .ref q, .int (nI k)]))) q (oO G (cpf (k + 1)) (va_up f k (some x))) = hup (hup h q (oO G (cpf (k + 1)) (va_up f k (some x)))) a (.inr (0, [m, .ref q, .int (nI k)])) := by
      rw [hup_comm hqa, hup_hup, hup_comm (Ne.symm hqa)]
    rw [e1]
    refine z_aload_n C dJx4a65c_add_72be8_15 rfl ?_
    refine z_iload_n C dJx4a65c_add_72be8_16 rfl ?_
    refine z_iconst (v := 1) C dJx4a65c_add_72be8_17 (by decide) ?_
    refine z_iadd C dJx4a65c_add_72be8_18 ?_
    rw [nI_1]
    refine z_putf C kcJx4a65c flJx4a65c_48 (hup_self _ _ _) rfl (rfl) rfl (zb rfl) dJx4a65c_add_72be8_19 ?_
    intro _ e8; subst e8
    rw [hup_hup]
    exact z_vret C E dJx4a65c_add_72be8_22 (⟨q, Or.inr hq, rfl, rfl⟩) (zb rfl) (zb rfl)
  rcases harr with ⟨rfl, rfl⟩ | ⟨h0, harr⟩
  · refine z_iload_n C dJx4a65c_add_72be8_0 rfl ?_
    refine z_aload_n C dJx4a65c_add_72be8_1 rfl ?_
    refine z_alenD C dJx4a65c_add_72be8_2 ?_
    refine z_icmp_ne (tgt := 11) C dJx4a65c_add_72be8_3 (by decide) (fun e9 => absurd e9 ((fun e => e rfl))) (fun _ => ?_)
    exact grown rfl
  · refine z_iload_n C dJx4a65c_add_72be8_0 rfl ?_
    refine z_aload_n C dJx4a65c_add_72be8_1 rfl ?_
    refine z_alen C rfl (harr) dJx4a65c_add_72be8_2 ?_
    refine z_icmp_ne (tgt := 11) C dJx4a65c_add_72be8_3 (by decide) (fun e => ?_) (fun e => ?_)
    · have hlt : k < cpf k := by
        rcases Nat.lt_or_ge k (cpf k) with q | q
        · exact q
        · exact absurd (congrArg nI (show k = cpf k by omega)) e
      have e2 : cpf (k + 1) = cpf k := if_pos hlt
      refine z_aload_n C dJx4a65c_add_72be8_11 rfl ?_
      refine z_iload_n C dJx4a65c_add_72be8_12 rfl ?_
      refine z_aload_n C dJx4a65c_add_72be8_13 rfl ?_
      refine z_aast C kc hca (harr) (hx) (nI_in hlt (by omega)) dJx4a65c_add_72be8_14 ?_
      intro _ e8; subst e8
      rw [nI_clamp (by omega)]
      have hra : arr ≠ a := fun q => by rw [q, ha] at harr; cases harr
      refine z_aload_n C dJx4a65c_add_72be8_15 rfl ?_
      refine z_iload_n C dJx4a65c_add_72be8_16 rfl ?_
      refine z_iconst (v := 1) C dJx4a65c_add_72be8_17 (by decide) ?_
      refine z_iadd C dJx4a65c_add_72be8_18 ?_
      rw [nI_1]
      refine z_putf C kcJx4a65c flJx4a65c_48 ((hup_ne (Ne.symm hra)).trans ha) rfl (rfl) rfl (zb rfl) dJx4a65c_add_72be8_19 ?_
      intro _ e8; subst e8
      exact z_vret C E dJx4a65c_add_72be8_22 (⟨arr, Or.inl ⟨rfl, h0⟩, by rw [e2]; rfl, rfl⟩) (zb rfl) (zb rfl)
    · exact grown ((nI_eq (by omega) (by omega)).mp e)
theorem k_add (hB : Base G) {ci : Nat} {Cn : String} {T : u_T} {N9 : Nat} {ty : Nat → FieldType} (kc : KC ci Cn T N9 ty) (hca : Cond.castable Cn "java/lang/Object" ∈ lw_tbl) {a arr k x : Nat} {f : Nat → Option Nat} {m : Int32} {xs : List Value} (ha : h a = some (.inr (0, [.int m, .ref arr, .int (nI k)]))) (hk2 : k ≤ 600) (harr : (k = 0 ∧ arr = gd G) ∨ (0 < k ∧ h arr = some (oO G (cpf k) f)))
    (hf : ∀ i, k ≤ i → f i = none) (hel : ∀ i, i < k → ∀ y, f i = some y → (∃ fs, h y = some (.inr (ci, fs))) ∧ y ≠ a) (hx : h x = some (.inr (ci, xs))) (hxa : x ≠ a) :
    Ct G mJx4a65c_add_9ea2d 6 1 4000 [.ref a, .ref x] h (fun o h' => ∃ q, ((q = arr ∧ 0 < k) ∨ h q = none) ∧ h' = hup (hup h q (oO G (cpf (k + 1)) (va_up f k (some x)))) a (.inr (0, [.int (m + 1), .ref q, .int (nI (k + 1))])) ∧ o = some (.int 1)) noX := by
  refine Ct.introF (m := 0) hB (by decide +kernel) (zb rfl) fun X C E => ?_
  have g1 : hup h a (.inr (0, [.int (m + 1), .ref arr, .int (nI k)])) a = some (.inr (0, [.int (m + 1), .ref arr, .int (nI k)])) := hup_self _ _ _
  have g2 : (k = 0 ∧ arr = gd G) ∨ (0 < k ∧ hup h a (.inr (0, [.int (m + 1), .ref arr, .int (nI k)])) arr = some (oO G (cpf k) f)) := harr.imp id (fun q => ⟨q.1, by
    have hra : arr ≠ a := fun q9 => by rw [q9, ha] at q; cases q.2
    rw [hup_ne hra]; exact q.2⟩)
  refine z_aload_n C dJx4a65c_add_9ea2d_0 rfl ?_
  refine z_dup C dJx4a65c_add_9ea2d_1 rfl ?_
  refine z_getf C kcJx4a65c flJx4a65c_63 (ha) rfl dJx4a65c_add_9ea2d_2 ?_
  refine z_iconst (v := 1) C dJx4a65c_add_9ea2d_5 (by decide) ?_
  refine z_iadd C dJx4a65c_add_9ea2d_6 ?_
  refine z_putf C kcJx4a65c flJx4a65c_63 (ha) rfl (rfl) rfl (zb rfl) dJx4a65c_add_9ea2d_7 ?_
  intro _ e8; subst e8
  refine z_aload_n C dJx4a65c_add_9ea2d_10 rfl ?_
  refine z_aload_n C dJx4a65c_add_9ea2d_11 rfl ?_
  refine z_aload_n C dJx4a65c_add_9ea2d_12 rfl ?_
  refine z_getf C kcJx4a65c flJx4a65c_9 (g1) rfl dJx4a65c_add_9ea2d_13 ?_
  refine z_aload_n C dJx4a65c_add_9ea2d_16 rfl ?_
  refine z_getf C kcJx4a65c flJx4a65c_48 (g1) rfl dJx4a65c_add_9ea2d_17 ?_
  refine z_rn (z_runV C kvJx4a65c_add_72be8 lkJx4a65c_131 kcJx4a65c (k_add3 hB kc hca g1 hk2 g2 hf (fun i hi y hy => by rw [hup_ne (hel i hi y hy).2]; exact (hel i hi y hy).1) (by rw [hup_ne hxa]; exact hx) hxa) (g1) rfl rfl (zb rfl) (zb rfl) (zb rfl) (zb rfl) dJx4a65c_add_9ea2d_20) (fun v9 h9 hv => ?_)
  obtain ⟨q, hq, rfl, rfl⟩ := hv
  have hqa : q ≠ a := by
    rcases hq with ⟨rfl, h0⟩ | hq
    · intro q9
      rcases harr with q8 | q8
      · omega
      · rw [q9, ha] at q8; cases q8.2
    · intro q9
      rw [q9, hup_self] at hq; cases hq
  refine z_iconst (v := 1) C dJx4a65c_add_9ea2d_23 (by decide) ?_
  exact z_zret C E (rfl) dJx4a65c_add_9ea2d_24 (⟨q, hq.imp id (fun q9 => by rw [hup_ne hqa] at q9; exact q9), by rw [hup_comm (Ne.symm hqa), hup_hup], rfl⟩) (zb rfl) (zb rfl)
theorem k_fIsNaN (hB : Base G) {b : UInt32} (hb : FP.fcmp b b = some .eq) : Ct G mJxf58ca_isNaN_12338 1 0 0 [.float b] h (rd h (.int 0)) noX := by
  refine Ct.introF (m := 0) hB (by decide +kernel) (zb rfl) fun X C E => ?_
  refine z_fload_n C dJxf58ca_isNaN_12338_0 rfl ?_
  refine z_fload_n C dJxf58ca_isNaN_12338_1 rfl ?_
  refine z_fcmp C dJxf58ca_isNaN_12338_2 ?_
  rw [hb]
  refine z_if_eq (tgt := 10) C dJxf58ca_isNaN_12338_3 (by decide) (fun _ => ?_) (fun e9 => absurd e9 ((fun e => e rfl)))
  refine z_iconst (v := 0) C dJxf58ca_isNaN_12338_10 (by decide) ?_
  exact z_zret C E (rfl) dJxf58ca_isNaN_12338_11 (⟨rfl, rfl⟩) (zb rfl) (zb rfl)
theorem k_fBits (hB : Base G) {b : UInt32} (hb : FP.fcmp b b = some .eq) : Ct G mJxf58ca_floatToIntBits_5c35a 2 0 0 [.float b] h (rd h (.int b.toInt32)) noX := by
  refine Ct.introF (m := 0) hB (by decide +kernel) (zb rfl) fun X C E => ?_
  refine z_fload_n C dJxf58ca_floatToIntBits_5c35a_0 rfl ?_
  refine z_rd (z_runS C ksJxf58ca_isNaN_12338 lkJxf58ca_59 (k_fIsNaN hB hb) rfl rfl (zb rfl) (zb rfl) (zb rfl) (zb rfl) dJxf58ca_floatToIntBits_5c35a_1) ?_
  refine z_if_ne (tgt := 12) C dJxf58ca_floatToIntBits_5c35a_4 (by decide) (fun e9 => absurd e9 ((fun e => e rfl))) (fun _ => ?_)
  refine z_fload_n C dJxf58ca_floatToIntBits_5c35a_7 rfl ?_
  refine z_f2bits C lkJxf58ca_74 na_floatToRawIntBits st_floatToRawIntBits ini_Jxf58ca (zb rfl) (zb rfl) dJxf58ca_floatToIntBits_5c35a_8 ?_
  exact z_iret C E dJxf58ca_floatToIntBits_5c35a_11 (⟨rfl, rfl⟩) (zb rfl) (zb rfl)
theorem k_dIsNaN (hB : Base G) {b : UInt64} (hb : FP.dcmp b b = some .eq) : Ct G mJxe99ae_isNaN_b9ae7 1 0 0 [.double b] h (rd h (.int 0)) noX := by
  refine Ct.introF (m := 0) hB (by decide +kernel) (zb rfl) fun X C E => ?_
  refine z_dload_n C dJxe99ae_isNaN_b9ae7_0 rfl ?_
  refine z_dload_n C dJxe99ae_isNaN_b9ae7_1 rfl ?_
  refine z_dcmp C dJxe99ae_isNaN_b9ae7_2 ?_
  rw [hb]
  refine z_if_eq (tgt := 10) C dJxe99ae_isNaN_b9ae7_3 (by decide) (fun _ => ?_) (fun e9 => absurd e9 ((fun e => e rfl)))
  refine z_iconst (v := 0) C dJxe99ae_isNaN_b9ae7_10 (by decide) ?_
  exact z_zret C E (rfl) dJxe99ae_isNaN_b9ae7_11 (⟨rfl, rfl⟩) (zb rfl) (zb rfl)
theorem k_dBits (hB : Base G) {b : UInt64} (hb : FP.dcmp b b = some .eq) : Ct G mJxe99ae_doubleToLongBits_ccdee 2 0 0 [.double b] h (rd h (.long b.toInt64)) noX := by
  refine Ct.introF (m := 0) hB (by decide +kernel) (zb rfl) fun X C E => ?_
  refine z_dload_n C dJxe99ae_doubleToLongBits_ccdee_0 rfl ?_
  refine z_rd (z_runS C ksJxe99ae_isNaN_b9ae7 lkJxe99ae_122 (k_dIsNaN hB hb) rfl rfl (zb rfl) (zb rfl) (zb rfl) (zb rfl) dJxe99ae_doubleToLongBits_ccdee_1) ?_
  refine z_if_ne (tgt := 12) C dJxe99ae_doubleToLongBits_ccdee_4 (by decide) (fun e9 => absurd e9 ((fun e => e rfl))) (fun _ => ?_)
  refine z_dload_n C dJxe99ae_doubleToLongBits_ccdee_7 rfl ?_
  refine z_d2bits C lkJxe99ae_134 na_doubleToRawLongBits st_doubleToRawLongBits ini_Jxe99ae (zb rfl) (zb rfl) dJxe99ae_doubleToLongBits_ccdee_8 ?_
  exact z_lret C E dJxe99ae_doubleToLongBits_ccdee_11 (⟨rfl, rfl⟩) (zb rfl) (zb rfl)
theorem k_fill (hB : Base G) {a n : Nat} {f : Nat → Int32} {v : Int32} (ha : h a = some (oI G n f)) (hn : n < 100000) : Ct G mJ7_fill_53178 1 0 0 [.ref a, .int v] h (wr (hup h a (oI G n (fun j => if j < n then v else f j)))) noX := by
  refine Ct.introF (m := 2) hB (by decide +kernel) (zb rfl) fun X C E => ?_
  refine z_iconst (v := 0) C dJ7_fill_53178_0 (by decide) ?_
  refine z_istore_n C dJ7_fill_53178_1 (zb rfl) ?_
  refine z_aload_n C dJ7_fill_53178_2 rfl ?_
  refine z_alen C rfl (ha) dJ7_fill_53178_3 ?_
  refine z_istore_n C dJ7_fill_53178_4 (zb rfl) ?_
  have key := z_loop (I := fun i => Zs G X 4 (hup h a (oI G n (fun j => if j < i then v else f j))) 0 0 5 [some (.ref a), some (.int v), some (.int (nI i)), some (.int (nI n))] []) n (fun i hi ih => by
    refine z_iload_n C dJ7_fill_53178_5 rfl ?_
    refine z_iload_n C dJ7_fill_53178_6 rfl ?_
    refine z_icmp_ge (tgt := 20) C dJ7_fill_53178_7 (by decide) (fun e => ?_) (fun e => ?_)
    · have e1 : i = n := by
        have := (nI_leI (by omega) (by omega)).mp e
        omega
      subst e1
      exact z_vret C E dJ7_fill_53178_20 (⟨rfl, rfl⟩) (zb rfl) (zb rfl)
    · have e1 : i < n := by
        rcases Nat.lt_or_ge i n with q | q
        · exact q
        · exact absurd (nI_le q (by omega)) e
      have e2 : hup (hup h a (oI G n (fun j => if j < i then v else f j))) a (oI G n (upd (fun j => if j < i then v else f j) (nI i).toNatClampNeg v)) = hup h a (oI G n (fun j => if j < i + 1 then v else f j)) := by
        rw [hup_hup]
        congr 4
        funext j
        rw [nI_clamp (by omega)]
        unfold upd
        by_cases q : j = i
        · rw [if_pos q, if_pos (by omega)]
        · rw [if_neg q]
          by_cases q2 : j < i
          · show (if j < i then v else f j) = _
            rw [if_pos q2, if_pos (by omega)]
          · show (if j < i then v else f j) = _
            rw [if_neg q2, if_neg (by omega)]
      refine z_aload_n C dJ7_fill_53178_10 rfl ?_
      refine z_iload_n C dJ7_fill_53178_11 rfl ?_
      refine z_iload_n C dJ7_fill_53178_12 rfl ?_
      refine z_iast C (hup_self _ _ _) (nI_in e1 (by omega)) dJ7_fill_53178_13 ?_
      intro _ e8; subst e8
      rw [e2]
      refine z_iinc _ C dJ7_fill_53178_14 rfl (nI_1 i) (zb rfl) ?_
      refine z_goto (tgt := 5) C dJ7_fill_53178_17 (by decide) ?_
      exact ih e1) 0 (Nat.zero_le _)
  have e3 : hup h a (oI G n (fun j => if j < 0 then v else f j)) = h := hup_id ha
  rw [e3] at key
  exact key
end
end
