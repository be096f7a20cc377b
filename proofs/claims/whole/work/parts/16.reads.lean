/-! the ledger's questions -/
abbrev xIO : String := "java/lang/IndexOutOfBoundsException"
abbrev xNS : String := "java/util/NoSuchElementException"
abbrev xIA : String := "java/lang/IllegalArgumentException"
abbrev xIS : String := "java/lang/IllegalStateException"
abbrev xAR : String := "java/lang/ArithmeticException"
theorem cnt_pos {p : Nat → Bool} {i : Nat} (h : p i = true) : cnt p (i + 1) = cnt p i + 1 := by
  show cnt p i + (if p i = true then 1 else 0) = _
  rw [if_pos h]
theorem cnt_neg {p : Nat → Bool} {i : Nat} (h : p i = false) : cnt p (i + 1) = cnt p i := by
  show cnt p i + (if p i = true then 1 else 0) = _
  rw [if_neg (by rw [h]; decide)]; rfl
theorem i_top {i N : Nat} (hN : N ≤ 600) (hi : i ≤ N) (e : nI N ≤ nI i) : i = N := by
  have := (nI_leI (by omega) (by omega)).mp e
  omega
theorem i_in {i N : Nat} (hN : N ≤ 600) (hi : i ≤ N) (e : ¬ nI N ≤ nI i) : i < N := by
  rcases Nat.lt_or_ge i N with q | q
  · exact q
  · exact absurd (nI_le q (by omega)) e
section
variable {G : GT} {h : Hp} {loc : Nat → Nat → Nat} {σ σ' : SG} {ρ : RG}
theorem k_getD (hB : Base G) (P : PW G h loc σ ρ) {j : Nat} {d : Int32} (hj : j < 5) (hd : In d (tn σ j)) : Ct G mJx4a65c_get_915e3 3 0 0 [.ref (loc 1 j), .int d] h (rd h (.ref (loc (3 + j) (ix d)))) noX := by
  have hb := P.lt j
  obtain ⟨e1, e2⟩ := hd.ix (by omega)
  have := k_getL hB P hj e1
  rw [← e2] at this
  exact this
theorem k_letterD (hB : Base G) (P : PW G h loc σ ρ) {w k door minute : Int32} (hw : OkV σ w) : Ct G mX2_letterIn 5 0 0 [.ref (loc 0 1), .int w, .int k, .int door, .int minute] h (rd h (.int (letter σ (ix w) k door minute))) noX := by
  obtain ⟨v, hv, rfl⟩ := hw
  have hb := P.lt 3
  have e : ix (nI v) = v := nI_clamp (by omega)
  rw [e]
  exact k_letterIn hB P hv
theorem k_keyD (hB : Base G) (P : PW G h loc σ ρ) {w k : Int32} (hw : OkV σ w) : Ct G mX2_keyIn 4 0 0 [.ref (loc 0 1), .int w, .int k] h (rd h (kref loc (lastc (tT σ 0) k (ix w)))) noX := by
  obtain ⟨v, hv, rfl⟩ := hw
  have hb := P.lt 3
  have e : ix (nI v) = v := nI_clamp (by omega)
  rw [e]
  exact k_keyIn hB P hv
theorem k_checkDoorSet (hB : Base G) {d : Int32} : Ct G mX8_checkDoorSet 8 1 6 [.int d] h (rcv (okSet d) h) (xc (¬ okSet d) xIA h) := by
  refine Ct.intro (m := 0) hB (by decide +kernel) (zb rfl) fun X C E => ?_
  refine z_iload_n C dX8_checkDoorSet_0 rfl ?_
  refine z_if_lt (tgt := 10) C dX8_checkDoorSet_1 (by decide) (fun e1 => ?_) (fun e1 => ?_)
  · exact z_throwW C E ktn ktX8_107_264_111 (zb rfl) (zb rfl) dX8_checkDoorSet_10 dX8_checkDoorSet_13 dX8_checkDoorSet_14 dX8_checkDoorSet_17 dX8_checkDoorSet_20 (⟨fun q => absurd e1 (Int32.not_lt.mpr q.1), rfl, rfl⟩) (zb rfl) (zb rfl)
  · refine z_iload_n C dX8_checkDoorSet_4 rfl ?_
    refine z_bipush (v := 31) C dX8_checkDoorSet_5 (by decide) ?_
    refine z_icmp_le (tgt := 21) C dX8_checkDoorSet_7 (by decide) (fun e2 => ?_) (fun e2 => ?_)
    · exact z_vret C E dX8_checkDoorSet_21 (⟨⟨Int32.not_lt.mp e1, e2⟩, rfl, rfl⟩) (zb rfl) (zb rfl)
    · exact z_throwW C E ktn ktX8_107_264_111 (zb rfl) (zb rfl) dX8_checkDoorSet_10 dX8_checkDoorSet_13 dX8_checkDoorSet_14 dX8_checkDoorSet_17 dX8_checkDoorSet_20 (⟨fun q => e2 q.2, rfl, rfl⟩) (zb rfl) (zb rfl)
theorem k_checkTimes (hB : Base G) {f t : Int32} : Ct G mX8_checkTimes 8 1 6 [.int f, .int t] h (rcv (okTimes f t) h) (xc (¬ okTimes f t) xIA h) := by
  refine Ct.intro (m := 0) hB (by decide +kernel) (zb rfl) fun X C E => ?_
  refine z_iload_n C dX8_checkTimes_0 rfl ?_
  refine z_if_lt (tgt := 15) C dX8_checkTimes_1 (by decide) (fun e1 => ?_) (fun e1 => ?_)
  · exact z_throwW C E ktn ktX8_107_266_111 (zb rfl) (zb rfl) dX8_checkTimes_15 dX8_checkTimes_18 dX8_checkTimes_19 dX8_checkTimes_22 dX8_checkTimes_25 (⟨fun q => absurd e1 (Int32.not_lt.mpr q.1), rfl, rfl⟩) (zb rfl) (zb rfl)
  · refine z_iload_n C dX8_checkTimes_4 rfl ?_
    refine z_iload_n C dX8_checkTimes_5 rfl ?_
    refine z_icmp_le (tgt := 15) C dX8_checkTimes_6 (by decide) (fun e2 => ?_) (fun e2 => ?_)
    · exact z_throwW C E ktn ktX8_107_266_111 (zb rfl) (zb rfl) dX8_checkTimes_15 dX8_checkTimes_18 dX8_checkTimes_19 dX8_checkTimes_22 dX8_checkTimes_25 (⟨fun q => absurd e2 (Int32.not_le.mpr q.2.1), rfl, rfl⟩) (zb rfl) (zb rfl)
    · refine z_iload_n C dX8_checkTimes_9 rfl ?_
      refine z_ldc C kstX8_131 dX8_checkTimes_10 ?_
      refine z_icmp_le (tgt := 26) C dX8_checkTimes_12 (by decide) (fun e3 => ?_) (fun e3 => ?_)
      · exact z_vret C E dX8_checkTimes_26 (⟨⟨Int32.not_lt.mp e1, Int32.not_le.mp e2, e3⟩, rfl, rfl⟩) (zb rfl) (zb rfl)
      · exact z_throwW C E ktn ktX8_107_266_111 (zb rfl) (zb rfl) dX8_checkTimes_15 dX8_checkTimes_18 dX8_checkTimes_19 dX8_checkTimes_22 dX8_checkTimes_25 (⟨fun q => e3 q.2.2, rfl, rfl⟩) (zb rfl) (zb rfl)
theorem k_checkNotRevoked (hB : Base G) {a : Nat} {x0 x1 x2 x3 x5 : Value} {r : Int32} (ha : h a = some (.inr (4, [x0, x1, x2, x3, .int r, x5]))) : Ct G mX8_checkNotRevoked 8 1 6 [.ref a] h (rcv (r = 0) h) (xc (¬ r = 0) xIS h) := by
  refine Ct.intro (m := 0) hB (by decide +kernel) (zb rfl) fun X C E => ?_
  refine z_aload_n C dX8_checkNotRevoked_0 rfl ?_
  refine z_getf C kcX4 flX8_268 (ha) rfl dX8_checkNotRevoked_1 ?_
  refine z_if_eq (tgt := 18) C dX8_checkNotRevoked_4 (by decide) (fun e1 => ?_) (fun e1 => ?_)
  · exact z_vret C E dX8_checkNotRevoked_18 (⟨e1, rfl, rfl⟩) (zb rfl) (zb rfl)
  · exact z_throwW C E ktn ktX8_51_272_55 (zb rfl) (zb rfl) dX8_checkNotRevoked_7 dX8_checkNotRevoked_10 dX8_checkNotRevoked_11 dX8_checkNotRevoked_14 dX8_checkNotRevoked_17 (⟨e1, rfl, rfl⟩) (zb rfl) (zb rfl)
theorem k_checkRoom (hB : Base G) (P : PW G h loc σ ρ) : Ct G mX8_checkRoomForChange 8 1 6 [.ref (loc 0 0)] h (rcv (tn σ 3 < 50) h) (xc (¬ tn σ 3 < 50) xIS h) := by
  refine Ct.intro (m := 0) hB (by decide +kernel) (zb rfl) fun X C E => ?_
  have hb := P.lt 3
  have h50 : (50 : Int32) = nI 50 := by decide
  refine z_aload_n C dX8_checkRoomForChange_0 rfl ?_
  refine z_getf C kcX8 flX8_10 (P.x) rfl dX8_checkRoomForChange_1 ?_
  refine z_rd (z_runV C kvX2_newest lkX8_86 kcX2 (k_newest hB P) (P.cl) rfl rfl (zb rfl) (zb rfl) (zb rfl) (zb rfl) dX8_checkRoomForChange_4) ?_
  refine z_bipush (v := 50) C dX8_checkRoomForChange_7 (by decide) ?_
  refine z_icmp_lt (tgt := 23) C dX8_checkRoomForChange_9 (by decide) (fun e1 => ?_) (fun e1 => ?_)
  · rw [h50] at e1
    exact z_vret C E dX8_checkRoomForChange_23 (⟨(nI_ltI (by omega) (by omega)).mp e1, rfl, rfl⟩) (zb rfl) (zb rfl)
  · rw [h50] at e1
    exact z_throwW C E ktn ktX8_51_274_55 (zb rfl) (zb rfl) dX8_checkRoomForChange_12 dX8_checkRoomForChange_15 dX8_checkRoomForChange_16 dX8_checkRoomForChange_19 dX8_checkRoomForChange_22 (⟨fun q => e1 ((nI_ltI (by omega) (by omega)).mpr q), rfl, rfl⟩) (zb rfl) (zb rfl)
theorem k_presentKey (hB : Base G) (P : PW G h loc σ ρ) {k : Int32} : Ct G mX8_presentKey 8 1 6 [.ref (loc 0 0), .int k] h (fun o h' => ∃ c, lastc (tT σ 0) k (tn σ 3) = some c ∧ h = h' ∧ o = some (.ref (loc 6 c))) (xc (lastc (tT σ 0) k (tn σ 3) = none) xNS h) := by
  refine Ct.intro (m := 1) hB (by decide +kernel) (zb rfl) fun X C E => ?_
  refine z_aload_n C dX8_presentKey_0 rfl ?_
  refine z_getf C kcX8 flX8_10 (P.x) rfl dX8_presentKey_1 ?_
  refine z_aload_n C dX8_presentKey_4 rfl ?_
  refine z_getf C kcX8 flX8_10 (P.x) rfl dX8_presentKey_5 ?_
  refine z_rd (z_runV C kvX2_newest lkX8_86 kcX2 (k_newest hB P) (P.cl) rfl rfl (zb rfl) (zb rfl) (zb rfl) (zb rfl) dX8_presentKey_8) ?_
  refine z_iload_n C dX8_presentKey_11 rfl ?_
  refine z_rd (z_runV C kvX2_keyIn lkX8_200 kcX2 (k_keyIn hB P (Nat.le_refl _)) (P.cl) rfl rfl (zb rfl) (zb rfl) (zb rfl) (zb rfl) dX8_presentKey_12) ?_
  cases hl : lastc (tT σ 0) k (tn σ 3) with
  | none =>
    refine z_astore_nN C dX8_presentKey_15 (zb rfl) ?_
    refine z_aload_nN C dX8_presentKey_16 rfl ?_
    refine z_ifnonnullN C dX8_presentKey_17 ?_
    exact z_throw3 3 C E ktX8_204_276_208 (zb rfl) (zb rfl) dX8_presentKey_20 dX8_presentKey_23 (Or.inr ⟨rfl, dX8_presentKey_24⟩) dX8_presentKey_27 dX8_presentKey_30 (⟨hl, rfl, rfl⟩) (zb rfl) (zb rfl)
  | some c =>
    refine z_astore_n C dX8_presentKey_15 (zb rfl) ?_
    refine z_aload_n C dX8_presentKey_16 rfl ?_
    refine z_ifnonnull (tgt := 31) C dX8_presentKey_17 (by decide) ?_
    refine z_aload_n C dX8_presentKey_31 rfl ?_
    exact z_aret C E (Or.inl ⟨_, rfl⟩) (Or.inr ⟨_, rfl⟩) dX8_presentKey_32 (⟨c, hl, rfl, rfl⟩) (zb rfl) (zb rfl)
theorem k_doorOf (hB : Base G) (P : PW G h loc σ ρ) {d : Int32} : Ct G mX8_doorOf 8 1 6 [.ref (loc 0 0), .int d] h (rc (In d (tn σ 0)) h (.ref (loc 3 (ix d)))) (xc (¬ In d (tn σ 0)) xIO h) := by
  refine Ct.intro (m := 0) hB (by decide +kernel) (zb rfl) fun X C E => ?_
  have hb := P.lt 0
  refine z_iload_n C dX8_doorOf_0 rfl ?_
  refine z_if_lt (tgt := 15) C dX8_doorOf_1 (by decide) (fun e1 => ?_) (fun e1 => ?_)
  · exact z_throwW C E ktn ktX8_278_280_282 (zb rfl) (zb rfl) dX8_doorOf_15 dX8_doorOf_18 dX8_doorOf_19 dX8_doorOf_22 dX8_doorOf_25 (⟨fun q => q.1 e1, rfl, rfl⟩) (zb rfl) (zb rfl)
  · refine z_iload_n C dX8_doorOf_4 rfl ?_
    refine z_aload_n C dX8_doorOf_5 rfl ?_
    refine z_getf C kcX8 flX8_19 (P.x) rfl dX8_doorOf_6 ?_
    refine z_rd (z_runV C kvJx4a65c_size_8abf5 lkX8_90 kcJx4a65c (k_sizeL hB P (j := 0) (by decide)) (P.list (by decide)) rfl rfl (zb rfl) (zb rfl) (zb rfl) (zb rfl) dX8_doorOf_9) ?_
    refine z_icmp_lt (tgt := 26) C dX8_doorOf_12 (by decide) (fun e2 => ?_) (fun e2 => ?_)
    · have hd : In d (tn σ 0) := ⟨e1, e2⟩
      have hi := (hd.ix (by omega)).1
      refine z_aload_n C dX8_doorOf_26 rfl ?_
      refine z_getf C kcX8 flX8_19 (P.x) rfl dX8_doorOf_27 ?_
      refine z_iload_n C dX8_doorOf_30 rfl ?_
      refine z_rd (z_runV C kvJx4a65c_get_915e3 lkX8_149 kcJx4a65c (k_getD hB P (j := 0) (by decide) hd) (P.list (by decide)) rfl rfl (zb rfl) (zb rfl) (zb rfl) (zb rfl) dX8_doorOf_31) ?_
      refine z_checkcast C kcX3 clX8_95 (P.door hi) dX8_doorOf_34 ?_
      exact z_aret C E (Or.inl ⟨_, rfl⟩) (Or.inr ⟨_, rfl⟩) dX8_doorOf_37 (⟨hd, rfl, rfl⟩) (zb rfl) (zb rfl)
    · exact z_throwW C E ktn ktX8_278_280_282 (zb rfl) (zb rfl) dX8_doorOf_15 dX8_doorOf_18 dX8_doorOf_19 dX8_doorOf_22 dX8_doorOf_25 (⟨fun q => e2 q.2, rfl, rfl⟩) (zb rfl) (zb rfl)
theorem k_phoneOf (hB : Base G) (P : PW G h loc σ ρ) {d : Int32} : Ct G mX8_phoneOf 8 1 6 [.ref (loc 0 0), .int d] h (rc (In d (tn σ 1)) h (.ref (loc 4 (ix d)))) (xc (¬ In d (tn σ 1)) xIO h) := by
  refine Ct.intro (m := 0) hB (by decide +kernel) (zb rfl) fun X C E => ?_
  have hb := P.lt 1
  refine z_iload_n C dX8_phoneOf_0 rfl ?_
  refine z_if_lt (tgt := 15) C dX8_phoneOf_1 (by decide) (fun e1 => ?_) (fun e1 => ?_)
  · exact z_throwW C E ktn ktX8_278_283_282 (zb rfl) (zb rfl) dX8_phoneOf_15 dX8_phoneOf_18 dX8_phoneOf_19 dX8_phoneOf_22 dX8_phoneOf_25 (⟨fun q => q.1 e1, rfl, rfl⟩) (zb rfl) (zb rfl)
  · refine z_iload_n C dX8_phoneOf_4 rfl ?_
    refine z_aload_n C dX8_phoneOf_5 rfl ?_
    refine z_getf C kcX8 flX8_23 (P.x) rfl dX8_phoneOf_6 ?_
    refine z_rd (z_runV C kvJx4a65c_size_8abf5 lkX8_90 kcJx4a65c (k_sizeL hB P (j := 1) (by decide)) (P.list (by decide)) rfl rfl (zb rfl) (zb rfl) (zb rfl) (zb rfl) dX8_phoneOf_9) ?_
    refine z_icmp_lt (tgt := 26) C dX8_phoneOf_12 (by decide) (fun e2 => ?_) (fun e2 => ?_)
    · have hd : In d (tn σ 1) := ⟨e1, e2⟩
      have hi := (hd.ix (by omega)).1
      refine z_aload_n C dX8_phoneOf_26 rfl ?_
      refine z_getf C kcX8 flX8_23 (P.x) rfl dX8_phoneOf_27 ?_
      refine z_iload_n C dX8_phoneOf_30 rfl ?_
      refine z_rd (z_runV C kvJx4a65c_get_915e3 lkX8_149 kcJx4a65c (k_getD hB P (j := 1) (by decide) hd) (P.list (by decide)) rfl rfl (zb rfl) (zb rfl) (zb rfl) (zb rfl) dX8_phoneOf_31) ?_
      refine z_checkcast C kcX7 clX8_126 (P.phone hi) dX8_phoneOf_34 ?_
      exact z_aret C E (Or.inl ⟨_, rfl⟩) (Or.inr ⟨_, rfl⟩) dX8_phoneOf_37 (⟨hd, rfl, rfl⟩) (zb rfl) (zb rfl)
    · exact z_throwW C E ktn ktX8_278_283_282 (zb rfl) (zb rfl) dX8_phoneOf_15 dX8_phoneOf_18 dX8_phoneOf_19 dX8_phoneOf_22 dX8_phoneOf_25 (⟨fun q => e2 q.2, rfl, rfl⟩) (zb rfl) (zb rfl)
theorem k_auditOf (hB : Base G) (P : PW G h loc σ ρ) {d : Int32} : Ct G mX8_auditOf 8 1 6 [.ref (loc 0 0), .int d] h (rc (In d (tn σ 2)) h (.ref (loc 5 (ix d)))) (xc (¬ In d (tn σ 2)) xNS h) := by
  refine Ct.intro (m := 0) hB (by decide +kernel) (zb rfl) fun X C E => ?_
  have hb := P.lt 2
  refine z_iload_n C dX8_auditOf_0 rfl ?_
  refine z_if_lt (tgt := 15) C dX8_auditOf_1 (by decide) (fun e1 => ?_) (fun e1 => ?_)
  · exact z_throw3 3 C E ktX8_204_285_208 (zb rfl) (zb rfl) dX8_auditOf_15 dX8_auditOf_18 (Or.inr ⟨rfl, dX8_auditOf_19⟩) dX8_auditOf_22 dX8_auditOf_25 (⟨fun q => q.1 e1, rfl, rfl⟩) (zb rfl) (zb rfl)
  · refine z_iload_n C dX8_auditOf_4 rfl ?_
    refine z_aload_n C dX8_auditOf_5 rfl ?_
    refine z_getf C kcX8 flX8_26 (P.x) rfl dX8_auditOf_6 ?_
    refine z_rd (z_runV C kvJx4a65c_size_8abf5 lkX8_90 kcJx4a65c (k_sizeL hB P (j := 2) (by decide)) (P.list (by decide)) rfl rfl (zb rfl) (zb rfl) (zb rfl) (zb rfl) dX8_auditOf_9) ?_
    refine z_icmp_lt (tgt := 26) C dX8_auditOf_12 (by decide) (fun e2 => ?_) (fun e2 => ?_)
    · have hd : In d (tn σ 2) := ⟨e1, e2⟩
      have hi := (hd.ix (by omega)).1
      refine z_aload_n C dX8_auditOf_26 rfl ?_
      refine z_getf C kcX8 flX8_26 (P.x) rfl dX8_auditOf_27 ?_
      refine z_iload_n C dX8_auditOf_30 rfl ?_
      refine z_rd (z_runV C kvJx4a65c_get_915e3 lkX8_149 kcJx4a65c (k_getD hB P (j := 2) (by decide) hd) (P.list (by decide)) rfl rfl (zb rfl) (zb rfl) (zb rfl) (zb rfl) dX8_auditOf_31) ?_
      refine z_checkcast C kcX0 clX8_153 (P.audit hi) dX8_auditOf_34 ?_
      exact z_aret C E (Or.inl ⟨_, rfl⟩) (Or.inr ⟨_, rfl⟩) dX8_auditOf_37 (⟨hd, rfl, rfl⟩) (zb rfl) (zb rfl)
    · exact z_throw3 3 C E ktX8_204_285_208 (zb rfl) (zb rfl) dX8_auditOf_15 dX8_auditOf_18 (Or.inr ⟨rfl, dX8_auditOf_19⟩) dX8_auditOf_22 dX8_auditOf_25 (⟨fun q => e2 q.2, rfl, rfl⟩) (zb rfl) (zb rfl)
theorem k_version (hB : Base G) (P : PW G h loc σ ρ) : Ct G mX8_version 3 0 0 [.ref (loc 0 0)] h (rd h (.int (nI (tn σ 3)))) noX := by
  refine Ct.intro (m := 0) hB (by decide +kernel) (zb rfl) fun X C E => ?_
  refine z_aload_n C dX8_version_0 rfl ?_
  refine z_getf C kcX8 flX8_10 (P.x) rfl dX8_version_1 ?_
  refine z_rd (z_runV C kvX2_newest lkX8_86 kcX2 (k_newest hB P) (P.cl) rfl rfl (zb rfl) (zb rfl) (zb rfl) (zb rfl) dX8_version_4) ?_
  exact z_iret C E dX8_version_7 (⟨rfl, rfl⟩) (zb rfl) (zb rfl)
theorem k_time (hB : Base G) (P : PW G h loc σ ρ) : Ct G mX8_time 1 0 0 [.ref (loc 0 0)] h (rd h (.int (now σ))) noX := by
  refine Ct.intro (m := 0) hB (by decide +kernel) (zb rfl) fun X C E => ?_
  refine z_aload_n C dX8_time_0 rfl ?_
  refine z_getf C kcX8 flX8_36 (P.x) rfl dX8_time_1 ?_
  exact z_iret C E dX8_time_4 (⟨rfl, rfl⟩) (zb rfl) (zb rfl)
theorem k_audits (hB : Base G) (P : PW G h loc σ ρ) : Ct G mX8_audits 2 0 0 [.ref (loc 0 0)] h (rd h (.int (nI (tn σ 2)))) noX := by
  refine Ct.intro (m := 0) hB (by decide +kernel) (zb rfl) fun X C E => ?_
  refine z_aload_n C dX8_audits_0 rfl ?_
  refine z_getf C kcX8 flX8_26 (P.x) rfl dX8_audits_1 ?_
  refine z_rd (z_runV C kvJx4a65c_size_8abf5 lkX8_90 kcJx4a65c (k_sizeL hB P (j := 2) (by decide)) (P.list (by decide)) rfl rfl (zb rfl) (zb rfl) (zb rfl) (zb rfl) dX8_audits_4) ?_
  exact z_iret C E dX8_audits_7 (⟨rfl, rfl⟩) (zb rfl) (zb rfl)
theorem k_clock (hB : Base G) (P : PW G h loc σ ρ) (I : Inv σ) {d : Int32} : Ct G mX8_clock 9 1 6 [.ref (loc 0 0), .int d] h (rc (In d (tn σ 0)) h (.int (clk σ (ix d)))) (xc (¬ In d (tn σ 0)) xIO h) := by
  refine Ct.intro (m := 0) hB (by decide +kernel) (zb rfl) fun X C E => ?_
  have hb := P.lt 0
  refine z_aload_n C dX8_clock_0 rfl ?_
  refine z_iload_n C dX8_clock_1 rfl ?_
  refine z_rc (z_runV C kvX8_doorOf lkX8_103 kcX8 (k_doorOf hB P) (P.x) rfl rfl (zb rfl) (zb rfl) (zb rfl) (zb rfl) dX8_clock_2) (fun hc9 => z_out C E (⟨hc9, rfl, rfl⟩) (zb rfl) (zb rfl)) (fun hd => ?_)
  have hi := (hd.ix (by omega)).1
  refine z_aload_n C dX8_clock_5 rfl ?_
  refine z_getf C kcX8 flX8_36 (P.x) rfl dX8_clock_6 ?_
  refine z_rd (z_runV C kvX3_minuteAt lkX8_112 kcX3 (k_minuteAt hB (P.door hi) (I.dr hi).1) (P.door hi) rfl rfl (zb rfl) (zb rfl) (zb rfl) (zb rfl) dX8_clock_9) ?_
  exact z_iret C E dX8_clock_12 (⟨hd, rfl, rfl⟩) (zb rfl) (zb rfl)
theorem k_drifted (hB : Base G) (P : PW G h loc σ ρ) (I : Inv σ) {d : Int32} : Ct G mX8_drifted 9 1 6 [.ref (loc 0 0), .int d] h (rc (In d (tn σ 0)) h (.float (drift σ (ix d)))) (xc (¬ In d (tn σ 0)) xIO h) := by
  refine Ct.intro (m := 0) hB (by decide +kernel) (zb rfl) fun X C E => ?_
  have hb := P.lt 0
  refine z_aload_n C dX8_drifted_0 rfl ?_
  refine z_iload_n C dX8_drifted_1 rfl ?_
  refine z_rc (z_runV C kvX8_doorOf lkX8_103 kcX8 (k_doorOf hB P) (P.x) rfl rfl (zb rfl) (zb rfl) (zb rfl) (zb rfl) dX8_drifted_2) (fun hc9 => z_out C E (⟨hc9, rfl, rfl⟩) (zb rfl) (zb rfl)) (fun hd => ?_)
  have hi := (hd.ix (by omega)).1
  refine z_aload_n C dX8_drifted_5 rfl ?_
  refine z_getf C kcX8 flX8_36 (P.x) rfl dX8_drifted_6 ?_
  refine z_rd (z_runV C kvX3_driftAt lkX8_184 kcX3 (k_driftAt hB (P.door hi) (I.dr hi).1) (P.door hi) rfl rfl (zb rfl) (zb rfl) (zb rfl) (zb rfl) dX8_drifted_9) ?_
  exact z_fret C E dX8_drifted_12 (⟨hd, rfl, rfl⟩) (zb rfl) (zb rfl)
theorem k_driftedBits (hB : Base G) (P : PW G h loc σ ρ) (I : Inv σ) {d : Int32} : Ct G mX8_driftedBits 9 1 6 [.ref (loc 0 0), .int d] h (rc (In d (tn σ 0)) h (.int (drift σ (ix d)).toInt32)) (xc (¬ In d (tn σ 0)) xIO h) := by
  refine Ct.intro (m := 0) hB (by decide +kernel) (zb rfl) fun X C E => ?_
  have hb := P.lt 0
  refine z_aload_n C dX8_driftedBits_0 rfl ?_
  refine z_iload_n C dX8_driftedBits_1 rfl ?_
  refine z_rc (z_runV C kvX8_doorOf lkX8_103 kcX8 (k_doorOf hB P) (P.x) rfl rfl (zb rfl) (zb rfl) (zb rfl) (zb rfl) dX8_driftedBits_2) (fun hc9 => z_out C E (⟨hc9, rfl, rfl⟩) (zb rfl) (zb rfl)) (fun hd => ?_)
  have hi := (hd.ix (by omega)).1
  refine z_aload_n C dX8_driftedBits_5 rfl ?_
  refine z_getf C kcX8 flX8_36 (P.x) rfl dX8_driftedBits_6 ?_
  refine z_rd (z_runV C kvX3_driftAt lkX8_184 kcX3 (k_driftAt hB (P.door hi) (I.dr hi).1) (P.door hi) rfl rfl (zb rfl) (zb rfl) (zb rfl) (zb rfl) dX8_driftedBits_9) ?_
  refine z_rd (z_runS C ksX1_ofFloat lkX8_188 (k_ofFloat hB (I.dr hi).2.2.2) rfl rfl (zb rfl) (zb rfl) (zb rfl) (zb rfl) dX8_driftedBits_12) ?_
  exact z_iret C E dX8_driftedBits_15 (⟨hd, rfl, rfl⟩) (zb rfl) (zb rfl)
theorem k_versionOf (hB : Base G) (P : PW G h loc σ ρ) (I : Inv σ) {d : Int32} : Ct G mX8_versionOf 9 1 6 [.ref (loc 0 0), .int d] h (rc (In d (tn σ 0)) h (.int (tT σ 7 (ix d)))) (xc (¬ In d (tn σ 0)) xIO h) := by
  refine Ct.intro (m := 0) hB (by decide +kernel) (zb rfl) fun X C E => ?_
  have hb := P.lt 0
  refine z_aload_n C dX8_versionOf_0 rfl ?_
  refine z_iload_n C dX8_versionOf_1 rfl ?_
  refine z_rc (z_runV C kvX8_doorOf lkX8_103 kcX8 (k_doorOf hB P) (P.x) rfl rfl (zb rfl) (zb rfl) (zb rfl) (zb rfl) dX8_versionOf_2) (fun hc9 => z_out C E (⟨hc9, rfl, rfl⟩) (zb rfl) (zb rfl)) (fun hd => ?_)
  have hi := (hd.ix (by omega)).1
  refine z_getf C kcX3 flX8_162 (P.door hi) rfl dX8_versionOf_5 ?_
  exact z_iret C E dX8_versionOf_8 (⟨hd, rfl, rfl⟩) (zb rfl) (zb rfl)
theorem k_versionOn (hB : Base G) (P : PW G h loc σ ρ) {d : Int32} : Ct G mX8_versionOn 9 1 6 [.ref (loc 0 0), .int d] h (rc (In d (tn σ 1)) h (.int (tT σ 10 (ix d)))) (xc (¬ In d (tn σ 1)) xIO h) := by
  refine Ct.intro (m := 0) hB (by decide +kernel) (zb rfl) fun X C E => ?_
  have hb := P.lt 1
  refine z_aload_n C dX8_versionOn_0 rfl ?_
  refine z_iload_n C dX8_versionOn_1 rfl ?_
  refine z_rc (z_runV C kvX8_phoneOf lkX8_134 kcX8 (k_phoneOf hB P) (P.x) rfl rfl (zb rfl) (zb rfl) (zb rfl) (zb rfl) dX8_versionOn_2) (fun hc9 => z_out C E (⟨hc9, rfl, rfl⟩) (zb rfl) (zb rfl)) (fun hd => ?_)
  have hi := (hd.ix (by omega)).1
  refine z_getf C kcX7 flX8_138 (P.phone hi) rfl dX8_versionOn_5 ?_
  exact z_iret C E dX8_versionOn_8 (⟨hd, rfl, rfl⟩) (zb rfl) (zb rfl)
theorem k_fromIn (hB : Base G) (P : PW G h loc σ ρ) (I : Inv σ) {d k : Int32} : Ct G mX8_fromIn 9 2 12 [.ref (loc 0 0), .int d, .int k] h (fun o h' => In d (tn σ 0) ∧ h = h' ∧ ∃ c, lastc (tT σ 0) k (ix (tT σ 7 (ix d))) = some c ∧ o = some (.int (tT σ 2 c))) (fun E h' => h = h' ∧ ((¬ In d (tn σ 0) ∧ E = xIO) ∨ (In d (tn σ 0) ∧ lastc (tT σ 0) k (ix (tT σ 7 (ix d))) = none ∧ E = xNS))) := by
  refine Ct.intro (m := 1) hB (by decide +kernel) (zb rfl) fun X C E => ?_
  have hb := P.lt 0
  have hb3 := P.lt 3
  refine z_aload_n C dX8_fromIn_0 rfl ?_
  refine z_getf C kcX8 flX8_10 (P.x) rfl dX8_fromIn_1 ?_
  refine z_aload_n C dX8_fromIn_4 rfl ?_
  refine z_iload_n C dX8_fromIn_5 rfl ?_
  refine z_rc (z_runV C kvX8_doorOf lkX8_103 kcX8 (k_doorOf hB P) (P.x) rfl rfl (zb rfl) (zb rfl) (zb rfl) (zb rfl) dX8_fromIn_6) (fun hc9 => z_out C E (⟨rfl, Or.inl ⟨hc9, rfl⟩⟩) (zb rfl) (zb rfl)) (fun hd => ?_)
  have hi := (hd.ix (by omega)).1
  obtain ⟨v, hv, hv2⟩ := (I.D _ hi).2.2.2.1
  refine z_getf C kcX3 flX8_162 (P.door hi) rfl dX8_fromIn_9 ?_
  refine z_iload_n C dX8_fromIn_12 rfl ?_
  refine z_rd (z_runV C kvX2_keyIn lkX8_200 kcX2 (k_keyD hB P (I.D _ hi).2.2.2.1) (P.cl) rfl rfl (zb rfl) (zb rfl) (zb rfl) (zb rfl) dX8_fromIn_13) ?_
  cases hl : lastc (tT σ 0) k (ix (tT σ 7 (ix d))) with
  | none =>
    refine z_astore_nN C dX8_fromIn_16 (zb rfl) ?_
    refine z_aload_nN C dX8_fromIn_17 rfl ?_
    refine z_ifnonnullN C dX8_fromIn_18 ?_
    exact z_throw3 2 C E ktX8_204_206_208 (zb rfl) (zb rfl) dX8_fromIn_21 dX8_fromIn_24 (Or.inl ⟨rfl, dX8_fromIn_25⟩) dX8_fromIn_27 dX8_fromIn_30 (⟨rfl, Or.inr ⟨hd, hl, rfl⟩⟩) (zb rfl) (zb rfl)
  | some c =>
    have hc : c < tn σ 3 := by
      have h1 := (lastc_lt hl).1
      rw [hv2] at h1
      have e : ix (nI v) = v := nI_clamp (by omega)
      omega
    refine z_astore_n C dX8_fromIn_16 (zb rfl) ?_
    refine z_aload_n C dX8_fromIn_17 rfl ?_
    refine z_ifnonnull (tgt := 31) C dX8_fromIn_18 (by decide) ?_
    refine z_aload_n C dX8_fromIn_31 rfl ?_
    refine z_getf C kcX4 flX8_80 (P.key hc) rfl dX8_fromIn_32 ?_
    exact z_iret C E dX8_fromIn_35 (⟨hd, rfl, c, hl, rfl⟩) (zb rfl) (zb rfl)
theorem k_letterOf (hB : Base G) (P : PW G h loc σ ρ) (I : Inv σ) {d : Int32} : Ct G mX8_letterOf 9 1 6 [.ref (loc 0 0), .int d] h (rc (In d (tn σ 2)) h (.int (tT σ 14 (ix d)))) (xc (¬ In d (tn σ 2)) xNS h) := by
  refine Ct.intro (m := 0) hB (by decide +kernel) (zb rfl) fun X C E => ?_
  have hb := P.lt 2
  refine z_aload_n C dX8_letterOf_0 rfl ?_
  refine z_iload_n C dX8_letterOf_1 rfl ?_
  refine z_rc (z_runV C kvX8_auditOf lkX8_209 kcX8 (k_auditOf hB P) (P.x) rfl rfl (zb rfl) (zb rfl) (zb rfl) (zb rfl) dX8_letterOf_2) (fun hc9 => z_out C E (⟨hc9, rfl, rfl⟩) (zb rfl) (zb rfl)) (fun hd => ?_)
  have hi := (hd.ix (by omega)).1
  refine z_getf C kcX0 flX8_213 (P.audit hi) rfl dX8_letterOf_5 ?_
  exact z_zret C E ((by rw [(I.A _ hi).2.2.2.1]; exact letter_nar _ _ _ _ _)) dX8_letterOf_8 (⟨hd, rfl, rfl⟩) (zb rfl) (zb rfl)
theorem k_minuteOf (hB : Base G) (P : PW G h loc σ ρ) (I : Inv σ) {d : Int32} : Ct G mX8_minuteOf 9 1 6 [.ref (loc 0 0), .int d] h (rc (In d (tn σ 2)) h (.int (tT σ 13 (ix d)))) (xc (¬ In d (tn σ 2)) xNS h) := by
  refine Ct.intro (m := 0) hB (by decide +kernel) (zb rfl) fun X C E => ?_
  have hb := P.lt 2
  refine z_aload_n C dX8_minuteOf_0 rfl ?_
  refine z_iload_n C dX8_minuteOf_1 rfl ?_
  refine z_rc (z_runV C kvX8_auditOf lkX8_209 kcX8 (k_auditOf hB P) (P.x) rfl rfl (zb rfl) (zb rfl) (zb rfl) (zb rfl) dX8_minuteOf_2) (fun hc9 => z_out C E (⟨hc9, rfl, rfl⟩) (zb rfl) (zb rfl)) (fun hd => ?_)
  have hi := (hd.ix (by omega)).1
  refine z_getf C kcX0 flX8_221 (P.audit hi) rfl dX8_minuteOf_5 ?_
  exact z_iret C E dX8_minuteOf_8 (⟨hd, rfl, rfl⟩) (zb rfl) (zb rfl)
theorem k_versionAt (hB : Base G) (P : PW G h loc σ ρ) (I : Inv σ) {d : Int32} : Ct G mX8_versionAt 9 1 6 [.ref (loc 0 0), .int d] h (rc (In d (tn σ 2)) h (.int (tT σ 15 (ix d)))) (xc (¬ In d (tn σ 2)) xNS h) := by
  refine Ct.intro (m := 0) hB (by decide +kernel) (zb rfl) fun X C E => ?_
  have hb := P.lt 2
  refine z_aload_n C dX8_versionAt_0 rfl ?_
  refine z_iload_n C dX8_versionAt_1 rfl ?_
  refine z_rc (z_runV C kvX8_auditOf lkX8_209 kcX8 (k_auditOf hB P) (P.x) rfl rfl (zb rfl) (zb rfl) (zb rfl) (zb rfl) dX8_versionAt_2) (fun hc9 => z_out C E (⟨hc9, rfl, rfl⟩) (zb rfl) (zb rfl)) (fun hd => ?_)
  have hi := (hd.ix (by omega)).1
  refine z_getf C kcX0 flX8_224 (P.audit hi) rfl dX8_versionAt_5 ?_
  exact z_iret C E dX8_versionAt_8 (⟨hd, rfl, rfl⟩) (zb rfl) (zb rfl)
theorem k_hasArrived (hB : Base G) (P : PW G h loc σ ρ) {d : Int32} : Ct G mX8_hasArrived 9 1 6 [.ref (loc 0 0), .int d] h (rc (In d (tn σ 2)) h (.int (if tT σ 18 (ix d) = -1 then 0 else 1))) (xc (¬ In d (tn σ 2)) xNS h) := by
  refine Ct.intro (m := 0) hB (by decide +kernel) (zb rfl) fun X C E => ?_
  have hb := P.lt 2
  refine z_aload_n C dX8_hasArrived_0 rfl ?_
  refine z_iload_n C dX8_hasArrived_1 rfl ?_
  refine z_rc (z_runV C kvX8_auditOf lkX8_209 kcX8 (k_auditOf hB P) (P.x) rfl rfl (zb rfl) (zb rfl) (zb rfl) (zb rfl) dX8_hasArrived_2) (fun hc9 => z_out C E (⟨hc9, rfl, rfl⟩) (zb rfl) (zb rfl)) (fun hd => ?_)
  have hi := (hd.ix (by omega)).1
  refine z_rd (z_runV C kvX0_isInCloud lkX8_225 kcX0 (k_isInCloud hB (P.audit hi)) (P.audit hi) rfl rfl (zb rfl) (zb rfl) (zb rfl) (zb rfl) dX8_hasArrived_5) ?_
  have e1 : narrow .boolean (.int (if tT σ 18 (ix d) = -1 then 0 else 1)) = .int (if tT σ 18 (ix d) = -1 then 0 else 1) := by split <;> rfl
  exact z_zret C E (e1) dX8_hasArrived_8 (⟨hd, rfl, rfl⟩) (zb rfl) (zb rfl)
theorem k_letterAgain (hB : Base G) (P : PW G h loc σ ρ) (I : Inv σ) {i : Nat} (hi : i < tn σ 2) : Ct G mX8_letterAgain 6 0 0 [.ref (loc 0 0), .ref (loc 5 i)] h (rd h (.int (letter σ (ix (tT σ 15 i)) (tT σ 12 i) (tT σ 11 i) (tT σ 13 i)))) noX := by
  refine Ct.intro (m := 0) hB (by decide +kernel) (zb rfl) fun X C E => ?_
  refine z_aload_n C dX8_letterAgain_0 rfl ?_
  refine z_getf C kcX8 flX8_10 (P.x) rfl dX8_letterAgain_1 ?_
  refine z_aload_n C dX8_letterAgain_4 rfl ?_
  refine z_getf C kcX0 flX8_224 (P.audit hi) rfl dX8_letterAgain_5 ?_
  refine z_aload_n C dX8_letterAgain_8 rfl ?_
  refine z_getf C kcX0 flX8_287 (P.audit hi) rfl dX8_letterAgain_9 ?_
  refine z_aload_n C dX8_letterAgain_12 rfl ?_
  refine z_getf C kcX0 flX8_233 (P.audit hi) rfl dX8_letterAgain_13 ?_
  refine z_aload_n C dX8_letterAgain_16 rfl ?_
  refine z_getf C kcX0 flX8_221 (P.audit hi) rfl dX8_letterAgain_17 ?_
  refine z_rd (z_runV C kvX2_letterIn lkX8_177 kcX2 (k_letterD hB P (I.A i hi).1) (P.cl) rfl rfl (zb rfl) (zb rfl) (zb rfl) (zb rfl) dX8_letterAgain_20) ?_
  exact z_zret C E (letter_nar _ _ _ _ _) dX8_letterAgain_23 (⟨rfl, rfl⟩) (zb rfl) (zb rfl)
theorem k_letterByList (hB : Base G) (P : PW G h loc σ ρ) (I : Inv σ) {d : Int32} : Ct G mX8_letterByList 9 1 6 [.ref (loc 0 0), .int d] h (rc (In d (tn σ 2)) h (.int (letter σ (ix (tT σ 15 (ix d))) (tT σ 12 (ix d)) (tT σ 11 (ix d)) (tT σ 13 (ix d))))) (xc (¬ In d (tn σ 2)) xNS h) := by
  refine Ct.intro (m := 0) hB (by decide +kernel) (zb rfl) fun X C E => ?_
  have hb := P.lt 2
  refine z_aload_n C dX8_letterByList_0 rfl ?_
  refine z_aload_n C dX8_letterByList_1 rfl ?_
  refine z_iload_n C dX8_letterByList_2 rfl ?_
  refine z_rc (z_runV C kvX8_auditOf lkX8_209 kcX8 (k_auditOf hB P) (P.x) rfl rfl (zb rfl) (zb rfl) (zb rfl) (zb rfl) dX8_letterByList_3) (fun hc9 => z_out C E (⟨hc9, rfl, rfl⟩) (zb rfl) (zb rfl)) (fun hd => ?_)
  have hi := (hd.ix (by omega)).1
  refine z_rd (z_runV C kvX8_letterAgain lkX8_217 kcX8 (k_letterAgain hB P I hi) (P.x) rfl rfl (zb rfl) (zb rfl) (zb rfl) (zb rfl) dX8_letterByList_6) ?_
  exact z_zret C E (letter_nar _ _ _ _ _) dX8_letterByList_9 (⟨hd, rfl, rfl⟩) (zb rfl) (zb rfl)
theorem k_isToldAsBreach (hB : Base G) (P : PW G h loc σ ρ) {i : Nat} (hi : i < tn σ 2) : Ct G mX8_isToldAsBreach 6 0 0 [.ref (loc 0 0), .ref (loc 5 i)] h (rd h (.int (if told σ i = true then 1 else 0))) noX := by
  refine Ct.intro (m := 1) hB (by decide +kernel) (zb rfl) fun X C E => ?_
  have hb := P.lt 3
  have hnw := nwAt_le (tT σ 5) (tT σ 13 i) (tn σ 3)
  refine z_aload_n C dX8_isToldAsBreach_0 rfl ?_
  refine z_rd (z_runV C kvX0_isInCloud lkX8_225 kcX0 (k_isInCloud hB (P.audit hi)) (P.audit hi) rfl rfl (zb rfl) (zb rfl) (zb rfl) (zb rfl) dX8_isToldAsBreach_1) ?_
  by_cases c1 : tT σ 18 i = -1
  · have et : ¬ told σ i = true := fun q => (of_decide_eq_true q).1 c1
    rw [if_pos c1]
    refine z_if_eq (tgt := 16) C dX8_isToldAsBreach_4 (by decide) (fun _ => ?_) (fun e9 => absurd e9 ((fun e => e rfl)))
    refine z_iconst (v := 0) C dX8_isToldAsBreach_16 (by decide) ?_
    exact z_zret C E (rfl) dX8_isToldAsBreach_17 (⟨rfl, by rw [if_neg et]⟩) (zb rfl) (zb rfl)
  · rw [if_neg c1]
    refine z_if_eq (tgt := 16) C dX8_isToldAsBreach_4 (by decide) (fun e9 => absurd e9 ((by decide))) (fun _ => ?_)
    refine z_aload_n C dX8_isToldAsBreach_7 rfl ?_
    refine z_getf C kcX0 flX8_213 (P.audit hi) rfl dX8_isToldAsBreach_8 ?_
    refine z_bipush (v := 111) C dX8_isToldAsBreach_11 (by decide) ?_
    refine z_icmp_eq (tgt := 18) C dX8_isToldAsBreach_13 (by decide) (fun e1 => ?_) (fun e1 => ?_)
    · refine z_aload_n C dX8_isToldAsBreach_18 rfl ?_
      refine z_getf C kcX8 flX8_10 (P.x) rfl dX8_isToldAsBreach_19 ?_
      refine z_aload_n C dX8_isToldAsBreach_22 rfl ?_
      refine z_getf C kcX0 flX8_221 (P.audit hi) rfl dX8_isToldAsBreach_23 ?_
      refine z_rd (z_runV C kvX2_newestAt lkX8_290 kcX2 (k_newestAt hB P) (P.cl) rfl rfl (zb rfl) (zb rfl) (zb rfl) (zb rfl) dX8_isToldAsBreach_26) ?_
      refine z_istore_n C dX8_isToldAsBreach_29 (zb rfl) ?_
      refine z_aload_n C dX8_isToldAsBreach_30 rfl ?_
      refine z_getf C kcX8 flX8_10 (P.x) rfl dX8_isToldAsBreach_31 ?_
      refine z_iload_n C dX8_isToldAsBreach_34 rfl ?_
      refine z_aload_n C dX8_isToldAsBreach_35 rfl ?_
      refine z_getf C kcX0 flX8_287 (P.audit hi) rfl dX8_isToldAsBreach_36 ?_
      refine z_aload_n C dX8_isToldAsBreach_39 rfl ?_
      refine z_getf C kcX0 flX8_233 (P.audit hi) rfl dX8_isToldAsBreach_40 ?_
      refine z_aload_n C dX8_isToldAsBreach_43 rfl ?_
      refine z_getf C kcX0 flX8_221 (P.audit hi) rfl dX8_isToldAsBreach_44 ?_
      refine z_rd (z_runV C kvX2_letterIn lkX8_177 kcX2 (k_letterIn hB P hnw) (P.cl) rfl rfl (zb rfl) (zb rfl) (zb rfl) (zb rfl) dX8_isToldAsBreach_47) ?_
      refine z_bipush (v := 111) C dX8_isToldAsBreach_50 (by decide) ?_
      refine z_icmp_eq (tgt := 59) C dX8_isToldAsBreach_52 (by decide) (fun e2 => ?_) (fun e2 => ?_)
      · have et : ¬ told σ i = true := fun q => (of_decide_eq_true q).2.2 e2
        refine z_iconst (v := 0) C dX8_isToldAsBreach_59 (by decide) ?_
        exact z_zret C E (rfl) dX8_isToldAsBreach_60 (⟨rfl, by rw [if_neg et]⟩) (zb rfl) (zb rfl)
      · have et : told σ i = true := decide_eq_true ⟨c1, e1, e2⟩
        refine z_iconst (v := 1) C dX8_isToldAsBreach_55 (by decide) ?_
        refine z_goto (tgt := 60) C dX8_isToldAsBreach_56 (by decide) ?_
        exact z_zret C E (rfl) dX8_isToldAsBreach_60 (⟨rfl, by rw [if_pos et]⟩) (zb rfl) (zb rfl)
    · have et : ¬ told σ i = true := fun q => e1 (of_decide_eq_true q).2.1
      refine z_iconst (v := 0) C dX8_isToldAsBreach_16 (by decide) ?_
      exact z_zret C E (rfl) dX8_isToldAsBreach_17 (⟨rfl, by rw [if_neg et]⟩) (zb rfl) (zb rfl)
theorem k_isBreach (hB : Base G) (P : PW G h loc σ ρ) {d : Int32} : Ct G mX8_isBreach 9 1 6 [.ref (loc 0 0), .int d] h (rc (In d (tn σ 2)) h (.int (if told σ (ix d) = true then 1 else 0))) (xc (¬ In d (tn σ 2)) xNS h) := by
  refine Ct.intro (m := 0) hB (by decide +kernel) (zb rfl) fun X C E => ?_
  have hb := P.lt 2
  refine z_aload_n C dX8_isBreach_0 rfl ?_
  refine z_aload_n C dX8_isBreach_1 rfl ?_
  refine z_iload_n C dX8_isBreach_2 rfl ?_
  refine z_rc (z_runV C kvX8_auditOf lkX8_209 kcX8 (k_auditOf hB P) (P.x) rfl rfl (zb rfl) (zb rfl) (zb rfl) (zb rfl) dX8_isBreach_3) (fun hc9 => z_out C E (⟨hc9, rfl, rfl⟩) (zb rfl) (zb rfl)) (fun hd => ?_)
  have hi := (hd.ix (by omega)).1
  have e1 : narrow .boolean (.int (if told σ (ix d) = true then 1 else 0)) = .int (if told σ (ix d) = true then 1 else 0) := by split <;> rfl
  refine z_rd (z_runV C kvX8_isToldAsBreach lkX8_229 kcX8 (k_isToldAsBreach hB P hi) (P.x) rfl rfl (zb rfl) (zb rfl) (zb rfl) (zb rfl) dX8_isBreach_6) ?_
  exact z_zret C E (e1) dX8_isBreach_9 (⟨hd, rfl, rfl⟩) (zb rfl) (zb rfl)
theorem k_waiting (hB : Base G) (P : PW G h loc σ ρ) {d : Int32} : Ct G mX8_waiting 9 1 6 [.ref (loc 0 0), .int d] h (rc (In d (tn σ 0)) h (.int (nI (cnt (pWait σ d) (tn σ 2))))) (xc (¬ In d (tn σ 0)) xIO h) := by
  refine Ct.intro (m := 2) hB (by decide +kernel) (zb rfl) fun X C E => ?_
  have hb := P.lt 2
  refine z_aload_n C dX8_waiting_0 rfl ?_
  refine z_iload_n C dX8_waiting_1 rfl ?_
  refine z_rc (z_runV C kvX8_doorOf lkX8_103 kcX8 (k_doorOf hB P) (P.x) rfl rfl (zb rfl) (zb rfl) (zb rfl) (zb rfl) dX8_waiting_2) (fun hc9 => z_out C E (⟨hc9, rfl, rfl⟩) (zb rfl) (zb rfl)) (fun hd => ?_)
  refine z_pop C dX8_waiting_5 rfl ?_
  refine z_iconst (v := 0) C dX8_waiting_6 (by decide) ?_
  refine z_istore_n C dX8_waiting_7 (zb rfl) ?_
  refine z_iconst (v := 0) C dX8_waiting_8 (by decide) ?_
  refine z_istore_n C dX8_waiting_9 (zb rfl) ?_
  refine z_loop (I := fun i => Zs G X 4 h 1 6 10 [some (.ref (loc 0 0)), some (.int d), some (.int (nI (cnt (pWait σ d) i))), some (.int (nI i))] []) (tn σ 2) (fun i hi ih => ?_) 0 (Nat.zero_le _)
  refine z_iload_n C dX8_waiting_10 rfl ?_
  refine z_aload_n C dX8_waiting_11 rfl ?_
  refine z_getf C kcX8 flX8_26 (P.x) rfl dX8_waiting_12 ?_
  refine z_rd (z_runV C kvJx4a65c_size_8abf5 lkX8_90 kcJx4a65c (k_sizeL hB P (j := 2) (by decide)) (P.list (by decide)) rfl rfl (zb rfl) (zb rfl) (zb rfl) (zb rfl) dX8_waiting_15) ?_
  refine z_icmp_ge (tgt := 48) C dX8_waiting_18 (by decide) (fun e1 => ?_) (fun e1 => ?_)
  · have ei := i_top hb hi e1
    refine z_iload_n C dX8_waiting_48 rfl ?_
    exact z_iret C E dX8_waiting_49 (⟨hd, rfl, by rw [ei]⟩) (zb rfl) (zb rfl)
  · have ei := i_in hb hi e1
    have ih := ih ei
    refine z_aload_n C dX8_waiting_21 rfl ?_
    refine z_getf C kcX8 flX8_26 (P.x) rfl dX8_waiting_22 ?_
    refine z_iload_n C dX8_waiting_25 rfl ?_
    refine z_rd (z_runV C kvJx4a65c_get_915e3 lkX8_149 kcJx4a65c (k_getL hB P (j := 2) (by decide) ei) (P.list (by decide)) rfl rfl (zb rfl) (zb rfl) (zb rfl) (zb rfl) dX8_waiting_26) ?_
    refine z_checkcast C kcX0 clX8_153 (P.audit ei) dX8_waiting_29 ?_
    refine z_iload_n C dX8_waiting_32 rfl ?_
    refine z_rd (z_runV C kvX0_isWaitingAt lkX8_169 kcX0 (k_isWaitingAt hB (P.audit ei)) (P.audit ei) rfl rfl (zb rfl) (zb rfl) (zb rfl) (zb rfl) dX8_waiting_33) ?_
    cases hp : pWait σ d i with
    | true =>
      rw [if_pos (of_decide_eq_true hp)]
      rw [cnt_pos hp] at ih
      refine z_if_eq (tgt := 42) C dX8_waiting_36 (by decide) (fun e9 => absurd e9 ((by decide))) (fun _ => ?_)
      refine z_iinc _ C dX8_waiting_39 rfl (nI_1 _) (zb rfl) ?_
      refine z_iinc _ C dX8_waiting_42 rfl (nI_1 _) (zb rfl) ?_
      refine z_goto (tgt := 10) C dX8_waiting_45 (by decide) ?_
      exact ih
    | false =>
      rw [if_neg (of_decide_eq_false hp)]
      rw [cnt_neg hp] at ih
      refine z_if_eq (tgt := 42) C dX8_waiting_36 (by decide) (fun _ => ?_) (fun e9 => absurd e9 ((fun e => e rfl)))
      refine z_iinc _ C dX8_waiting_42 rfl (nI_1 _) (zb rfl) ?_
      refine z_goto (tgt := 10) C dX8_waiting_45 (by decide) ?_
      exact ih
theorem k_carried (hB : Base G) (P : PW G h loc σ ρ) {d : Int32} : Ct G mX8_carried 9 1 6 [.ref (loc 0 0), .int d] h (rc (In d (tn σ 1)) h (.int (nI (cnt (pCarr σ d) (tn σ 2))))) (xc (¬ In d (tn σ 1)) xIO h) := by
  refine Ct.intro (m := 2) hB (by decide +kernel) (zb rfl) fun X C E => ?_
  have hb := P.lt 2
  refine z_aload_n C dX8_carried_0 rfl ?_
  refine z_iload_n C dX8_carried_1 rfl ?_
  refine z_rc (z_runV C kvX8_phoneOf lkX8_134 kcX8 (k_phoneOf hB P) (P.x) rfl rfl (zb rfl) (zb rfl) (zb rfl) (zb rfl) dX8_carried_2) (fun hc9 => z_out C E (⟨hc9, rfl, rfl⟩) (zb rfl) (zb rfl)) (fun hd => ?_)
  refine z_pop C dX8_carried_5 rfl ?_
  refine z_iconst (v := 0) C dX8_carried_6 (by decide) ?_
  refine z_istore_n C dX8_carried_7 (zb rfl) ?_
  refine z_iconst (v := 0) C dX8_carried_8 (by decide) ?_
  refine z_istore_n C dX8_carried_9 (zb rfl) ?_
  refine z_loop (I := fun i => Zs G X 4 h 1 6 10 [some (.ref (loc 0 0)), some (.int d), some (.int (nI (cnt (pCarr σ d) i))), some (.int (nI i))] []) (tn σ 2) (fun i hi ih => ?_) 0 (Nat.zero_le _)
  refine z_iload_n C dX8_carried_10 rfl ?_
  refine z_aload_n C dX8_carried_11 rfl ?_
  refine z_getf C kcX8 flX8_26 (P.x) rfl dX8_carried_12 ?_
  refine z_rd (z_runV C kvJx4a65c_size_8abf5 lkX8_90 kcJx4a65c (k_sizeL hB P (j := 2) (by decide)) (P.list (by decide)) rfl rfl (zb rfl) (zb rfl) (zb rfl) (zb rfl) dX8_carried_15) ?_
  refine z_icmp_ge (tgt := 48) C dX8_carried_18 (by decide) (fun e1 => ?_) (fun e1 => ?_)
  · have ei := i_top hb hi e1
    refine z_iload_n C dX8_carried_48 rfl ?_
    exact z_iret C E dX8_carried_49 (⟨hd, rfl, by rw [ei]⟩) (zb rfl) (zb rfl)
  · have ei := i_in hb hi e1
    have ih := ih ei
    refine z_aload_n C dX8_carried_21 rfl ?_
    refine z_getf C kcX8 flX8_26 (P.x) rfl dX8_carried_22 ?_
    refine z_iload_n C dX8_carried_25 rfl ?_
    refine z_rd (z_runV C kvJx4a65c_get_915e3 lkX8_149 kcJx4a65c (k_getL hB P (j := 2) (by decide) ei) (P.list (by decide)) rfl rfl (zb rfl) (zb rfl) (zb rfl) (zb rfl) dX8_carried_26) ?_
    refine z_checkcast C kcX0 clX8_153 (P.audit ei) dX8_carried_29 ?_
    refine z_iload_n C dX8_carried_32 rfl ?_
    refine z_rd (z_runV C kvX0_isCarriedBy lkX8_155 kcX0 (k_isCarriedBy hB (P.audit ei)) (P.audit ei) rfl rfl (zb rfl) (zb rfl) (zb rfl) (zb rfl) dX8_carried_33) ?_
    cases hp : pCarr σ d i with
    | true =>
      rw [if_pos (of_decide_eq_true hp)]
      rw [cnt_pos hp] at ih
      refine z_if_eq (tgt := 42) C dX8_carried_36 (by decide) (fun e9 => absurd e9 ((by decide))) (fun _ => ?_)
      refine z_iinc _ C dX8_carried_39 rfl (nI_1 _) (zb rfl) ?_
      refine z_iinc _ C dX8_carried_42 rfl (nI_1 _) (zb rfl) ?_
      refine z_goto (tgt := 10) C dX8_carried_45 (by decide) ?_
      exact ih
    | false =>
      rw [if_neg (of_decide_eq_false hp)]
      rw [cnt_neg hp] at ih
      refine z_if_eq (tgt := 42) C dX8_carried_36 (by decide) (fun _ => ?_) (fun e9 => absurd e9 ((fun e => e rfl)))
      refine z_iinc _ C dX8_carried_42 rfl (nI_1 _) (zb rfl) ?_
      refine z_goto (tgt := 10) C dX8_carried_45 (by decide) ?_
      exact ih
theorem k_breaches (hB : Base G) (P : PW G h loc σ ρ) : Ct G mX8_breaches 7 0 0 [.ref (loc 0 0)] h (rd h (.int (nI (cnt (told σ) (tn σ 2))))) noX := by
  refine Ct.intro (m := 2) hB (by decide +kernel) (zb rfl) fun X C E => ?_
  have hb := P.lt 2
  refine z_iconst (v := 0) C dX8_breaches_0 (by decide) ?_
  refine z_istore_n C dX8_breaches_1 (zb rfl) ?_
  refine z_iconst (v := 0) C dX8_breaches_2 (by decide) ?_
  refine z_istore_n C dX8_breaches_3 (zb rfl) ?_
  refine z_loop (I := fun i => Zs G X 3 h 0 0 4 [some (.ref (loc 0 0)), some (.int (nI (cnt (told σ) i))), some (.int (nI i))] []) (tn σ 2) (fun i hi ih => ?_) 0 (Nat.zero_le _)
  refine z_iload_n C dX8_breaches_4 rfl ?_
  refine z_aload_n C dX8_breaches_5 rfl ?_
  refine z_getf C kcX8 flX8_26 (P.x) rfl dX8_breaches_6 ?_
  refine z_rd (z_runV C kvJx4a65c_size_8abf5 lkX8_90 kcJx4a65c (k_sizeL hB P (j := 2) (by decide)) (P.list (by decide)) rfl rfl (zb rfl) (zb rfl) (zb rfl) (zb rfl) dX8_breaches_9) ?_
  refine z_icmp_ge (tgt := 42) C dX8_breaches_12 (by decide) (fun e1 => ?_) (fun e1 => ?_)
  · have ei := i_top hb hi e1
    refine z_iload_n C dX8_breaches_42 rfl ?_
    exact z_iret C E dX8_breaches_43 (⟨rfl, by rw [ei]⟩) (zb rfl) (zb rfl)
  · have ei := i_in hb hi e1
    have ih := ih ei
    refine z_aload_n C dX8_breaches_15 rfl ?_
    refine z_aload_n C dX8_breaches_16 rfl ?_
    refine z_getf C kcX8 flX8_26 (P.x) rfl dX8_breaches_17 ?_
    refine z_iload_n C dX8_breaches_20 rfl ?_
    refine z_rd (z_runV C kvJx4a65c_get_915e3 lkX8_149 kcJx4a65c (k_getL hB P (j := 2) (by decide) ei) (P.list (by decide)) rfl rfl (zb rfl) (zb rfl) (zb rfl) (zb rfl) dX8_breaches_21) ?_
    refine z_checkcast C kcX0 clX8_153 (P.audit ei) dX8_breaches_24 ?_
    refine z_rd (z_runV C kvX8_isToldAsBreach lkX8_229 kcX8 (k_isToldAsBreach hB P ei) (P.x) rfl rfl (zb rfl) (zb rfl) (zb rfl) (zb rfl) dX8_breaches_27) ?_
    cases hp : told σ i with
    | true =>
      rw [if_pos rfl]
      rw [cnt_pos hp] at ih
      refine z_if_eq (tgt := 36) C dX8_breaches_30 (by decide) (fun e9 => absurd e9 ((by decide))) (fun _ => ?_)
      refine z_iinc _ C dX8_breaches_33 rfl (nI_1 _) (zb rfl) ?_
      refine z_iinc _ C dX8_breaches_36 rfl (nI_1 _) (zb rfl) ?_
      refine z_goto (tgt := 4) C dX8_breaches_39 (by decide) ?_
      exact ih
    | false =>
      rw [if_neg (by decide)]
      rw [cnt_neg hp] at ih
      refine z_if_eq (tgt := 36) C dX8_breaches_30 (by decide) (fun _ => ?_) (fun e9 => absurd e9 ((fun e => e rfl)))
      refine z_iinc _ C dX8_breaches_36 rfl (nI_1 _) (zb rfl) ?_
      refine z_goto (tgt := 4) C dX8_breaches_39 (by decide) ?_
      exact ih
theorem k_arrivedCount (hB : Base G) (P : PW G h loc σ ρ) : Ct G mX8_arrivedCount 7 0 0 [.ref (loc 0 0)] h (rd h (.int (nI (cnt (pArr σ) (tn σ 2))))) noX := by
  refine Ct.intro (m := 2) hB (by decide +kernel) (zb rfl) fun X C E => ?_
  have hb := P.lt 2
  refine z_iconst (v := 0) C dX8_arrivedCount_0 (by decide) ?_
  refine z_istore_n C dX8_arrivedCount_1 (zb rfl) ?_
  refine z_iconst (v := 0) C dX8_arrivedCount_2 (by decide) ?_
  refine z_istore_n C dX8_arrivedCount_3 (zb rfl) ?_
  refine z_loop (I := fun i => Zs G X 3 h 0 0 4 [some (.ref (loc 0 0)), some (.int (nI (cnt (pArr σ) i))), some (.int (nI i))] []) (tn σ 2) (fun i hi ih => ?_) 0 (Nat.zero_le _)
  refine z_iload_n C dX8_arrivedCount_4 rfl ?_
  refine z_aload_n C dX8_arrivedCount_5 rfl ?_
  refine z_getf C kcX8 flX8_26 (P.x) rfl dX8_arrivedCount_6 ?_
  refine z_rd (z_runV C kvJx4a65c_size_8abf5 lkX8_90 kcJx4a65c (k_sizeL hB P (j := 2) (by decide)) (P.list (by decide)) rfl rfl (zb rfl) (zb rfl) (zb rfl) (zb rfl) dX8_arrivedCount_9) ?_
  refine z_icmp_ge (tgt := 41) C dX8_arrivedCount_12 (by decide) (fun e1 => ?_) (fun e1 => ?_)
  · have ei := i_top hb hi e1
    refine z_iload_n C dX8_arrivedCount_41 rfl ?_
    exact z_iret C E dX8_arrivedCount_42 (⟨rfl, by rw [ei]⟩) (zb rfl) (zb rfl)
  · have ei := i_in hb hi e1
    have ih := ih ei
    refine z_aload_n C dX8_arrivedCount_15 rfl ?_
    refine z_getf C kcX8 flX8_26 (P.x) rfl dX8_arrivedCount_16 ?_
    refine z_iload_n C dX8_arrivedCount_19 rfl ?_
    refine z_rd (z_runV C kvJx4a65c_get_915e3 lkX8_149 kcJx4a65c (k_getL hB P (j := 2) (by decide) ei) (P.list (by decide)) rfl rfl (zb rfl) (zb rfl) (zb rfl) (zb rfl) dX8_arrivedCount_20) ?_
    refine z_checkcast C kcX0 clX8_153 (P.audit ei) dX8_arrivedCount_23 ?_
    refine z_rd (z_runV C kvX0_isInCloud lkX8_225 kcX0 (k_isInCloud hB (P.audit ei)) (P.audit ei) rfl rfl (zb rfl) (zb rfl) (zb rfl) (zb rfl) dX8_arrivedCount_26) ?_
    cases hp : pArr σ i with
    | true =>
      rw [if_neg (of_decide_eq_true hp)]
      rw [cnt_pos hp] at ih
      refine z_if_eq (tgt := 35) C dX8_arrivedCount_29 (by decide) (fun e9 => absurd e9 ((by decide))) (fun _ => ?_)
      refine z_iinc _ C dX8_arrivedCount_32 rfl (nI_1 _) (zb rfl) ?_
      refine z_iinc _ C dX8_arrivedCount_35 rfl (nI_1 _) (zb rfl) ?_
      refine z_goto (tgt := 4) C dX8_arrivedCount_38 (by decide) ?_
      exact ih
    | false =>
      rw [if_pos (Classical.not_not.mp (of_decide_eq_false hp))]
      rw [cnt_neg hp] at ih
      refine z_if_eq (tgt := 35) C dX8_arrivedCount_29 (by decide) (fun _ => ?_) (fun e9 => absurd e9 ((fun e => e rfl)))
      refine z_iinc _ C dX8_arrivedCount_35 rfl (nI_1 _) (zb rfl) ?_
      refine z_goto (tgt := 4) C dX8_arrivedCount_38 (by decide) ?_
      exact ih
theorem k_breachesAt (hB : Base G) (P : PW G h loc σ ρ) {d : Int32} : Ct G mX8_breachesAt 9 1 6 [.ref (loc 0 0), .int d] h (rc (In d (tn σ 0)) h (.int (nI (cnt (pTold σ d) (tn σ 2))))) (xc (¬ In d (tn σ 0)) xIO h) := by
  refine Ct.intro (m := 3) hB (by decide +kernel) (zb rfl) fun X C E => ?_
  have hb := P.lt 2
  refine z_aload_n C dX8_breachesAt_0 rfl ?_
  refine z_iload_n C dX8_breachesAt_1 rfl ?_
  refine z_rc (z_runV C kvX8_doorOf lkX8_103 kcX8 (k_doorOf hB P) (P.x) rfl rfl (zb rfl) (zb rfl) (zb rfl) (zb rfl) dX8_breachesAt_2) (fun hc9 => z_out C E (⟨hc9, rfl, rfl⟩) (zb rfl) (zb rfl)) (fun hd => ?_)
  refine z_pop C dX8_breachesAt_5 rfl ?_
  refine z_iconst (v := 0) C dX8_breachesAt_6 (by decide) ?_
  refine z_istore_n C dX8_breachesAt_7 (zb rfl) ?_
  refine z_iconst (v := 0) C dX8_breachesAt_8 (by decide) ?_
  refine z_istore_n C dX8_breachesAt_9 (zb rfl) ?_
  refine z_loop (I := fun i => Zs G X 5 h 1 6 10 [some (.ref (loc 0 0)), some (.int d), some (.int (nI (cnt (pTold σ d) i))), some (.int (nI i)), none] []) (tn σ 2) (fun i hi ih => ?_) 0 (Nat.zero_le _)
  refine z_iload_n C dX8_breachesAt_10 rfl ?_
  refine z_aload_n C dX8_breachesAt_11 rfl ?_
  refine z_getf C kcX8 flX8_26 (P.x) rfl dX8_breachesAt_12 ?_
  refine z_rd (z_runV C kvJx4a65c_size_8abf5 lkX8_90 kcJx4a65c (k_sizeL hB P (j := 2) (by decide)) (P.list (by decide)) rfl rfl (zb rfl) (zb rfl) (zb rfl) (zb rfl) dX8_breachesAt_15) ?_
  refine z_icmp_ge (tgt := 61) C dX8_breachesAt_18 (by decide) (fun e1 => ?_) (fun e1 => ?_)
  · have ei := i_top hb hi e1
    refine z_iload_n C dX8_breachesAt_61 rfl ?_
    exact z_iret C E dX8_breachesAt_62 (⟨hd, rfl, by rw [ei]⟩) (zb rfl) (zb rfl)
  · have ei := i_in hb hi e1
    have ih := ih ei
    refine z_aload_n C dX8_breachesAt_21 rfl ?_
    refine z_getf C kcX8 flX8_26 (P.x) rfl dX8_breachesAt_22 ?_
    refine z_iload_n C dX8_breachesAt_25 rfl ?_
    refine z_rd (z_runV C kvJx4a65c_get_915e3 lkX8_149 kcJx4a65c (k_getL hB P (j := 2) (by decide) ei) (P.list (by decide)) rfl rfl (zb rfl) (zb rfl) (zb rfl) (zb rfl) dX8_breachesAt_26) ?_
    refine z_checkcast C kcX0 clX8_153 (P.audit ei) dX8_breachesAt_29 ?_
    refine z_astore C dX8_breachesAt_32 (zb rfl) ?_
    refine z_aload C dX8_breachesAt_34 rfl ?_
    refine z_getf C kcX0 flX8_233 (P.audit ei) rfl dX8_breachesAt_36 ?_
    refine z_iload_n C dX8_breachesAt_39 rfl ?_
    refine z_icmp_ne (tgt := 55) C dX8_breachesAt_40 (by decide) (fun e2 => ?_) (fun e2 => ?_)
    · have hp : pTold σ d i = false := decide_eq_false (fun q => e2 q.1)
      rw [cnt_neg hp] at ih
      refine z_iinc _ C dX8_breachesAt_55 rfl (nI_1 _) (zb rfl) ?_
      refine z_goto (tgt := 10) C dX8_breachesAt_58 (by decide) ?_
      exact Zs.mask [true, true, true, true, false] ih
    · refine z_aload_n C dX8_breachesAt_43 rfl ?_
      refine z_aload C dX8_breachesAt_44 rfl ?_
      refine z_rd (z_runV C kvX8_isToldAsBreach lkX8_229 kcX8 (k_isToldAsBreach hB P ei) (P.x) rfl rfl (zb rfl) (zb rfl) (zb rfl) (zb rfl) dX8_breachesAt_46) ?_
      cases hp : told σ i with
      | true =>
        have hq : pTold σ d i = true := decide_eq_true ⟨e2, hp⟩
        rw [if_pos rfl]
        rw [cnt_pos hq] at ih
        refine z_if_eq (tgt := 55) C dX8_breachesAt_49 (by decide) (fun e9 => absurd e9 ((by decide))) (fun _ => ?_)
        refine z_iinc _ C dX8_breachesAt_52 rfl (nI_1 _) (zb rfl) ?_
        refine z_iinc _ C dX8_breachesAt_55 rfl (nI_1 _) (zb rfl) ?_
        refine z_goto (tgt := 10) C dX8_breachesAt_58 (by decide) ?_
        exact Zs.mask [true, true, true, true, false] ih
      | false =>
        have hq : pTold σ d i = false := decide_eq_false (fun q => by rw [hp] at q; exact absurd q.2 (by decide))
        rw [if_neg (by decide)]
        rw [cnt_neg hq] at ih
        refine z_if_eq (tgt := 55) C dX8_breachesAt_49 (by decide) (fun _ => ?_) (fun e9 => absurd e9 ((fun e => e rfl)))
        refine z_iinc _ C dX8_breachesAt_55 rfl (nI_1 _) (zb rfl) ?_
        refine z_goto (tgt := 10) C dX8_breachesAt_58 (by decide) ?_
        exact Zs.mask [true, true, true, true, false] ih
theorem k_delays (hB : Base G) (P : PW G h loc σ ρ) : Ct G mX8_delays 7 0 0 [.ref (loc 0 0)] h (rd h (.long (dsum σ (tn σ 2)))) noX := by
  refine Ct.intro (m := 4) hB (by decide +kernel) (zb rfl) fun X C E => ?_
  have hb := P.lt 2
  refine z_lconst (v := 0) C dX8_delays_0 (by decide) ?_
  refine z_lstore_n C dX8_delays_1 (zb rfl) ?_
  refine z_iconst (v := 0) C dX8_delays_2 (by decide) ?_
  refine z_istore_n C dX8_delays_3 (zb rfl) ?_
  refine z_loop (I := fun i => Zs G X 5 h 0 0 4 [some (.ref (loc 0 0)), some (.long (dsum σ i)), none, some (.int (nI i)), none] []) (tn σ 2) (fun i hi ih => ?_) 0 (Nat.zero_le _)
  refine z_iload_n C dX8_delays_4 rfl ?_
  refine z_aload_n C dX8_delays_5 rfl ?_
  refine z_getf C kcX8 flX8_26 (P.x) rfl dX8_delays_6 ?_
  refine z_rd (z_runV C kvJx4a65c_size_8abf5 lkX8_90 kcJx4a65c (k_sizeL hB P (j := 2) (by decide)) (P.list (by decide)) rfl rfl (zb rfl) (zb rfl) (zb rfl) (zb rfl) dX8_delays_9) ?_
  refine z_icmp_ge (tgt := 57) C dX8_delays_12 (by decide) (fun e1 => ?_) (fun e1 => ?_)
  · have ei := i_top hb hi e1
    refine z_lload_n C dX8_delays_57 rfl ?_
    exact z_lret C E dX8_delays_58 (⟨rfl, by rw [ei]⟩) (zb rfl) (zb rfl)
  · have ei := i_in hb hi e1
    have ih := ih ei
    refine z_aload_n C dX8_delays_15 rfl ?_
    refine z_getf C kcX8 flX8_26 (P.x) rfl dX8_delays_16 ?_
    refine z_iload_n C dX8_delays_19 rfl ?_
    refine z_rd (z_runV C kvJx4a65c_get_915e3 lkX8_149 kcJx4a65c (k_getL hB P (j := 2) (by decide) ei) (P.list (by decide)) rfl rfl (zb rfl) (zb rfl) (zb rfl) (zb rfl) dX8_delays_20) ?_
    refine z_checkcast C kcX0 clX8_153 (P.audit ei) dX8_delays_23 ?_
    refine z_astore C dX8_delays_26 (zb rfl) ?_
    refine z_aload C dX8_delays_28 rfl ?_
    refine z_rd (z_runV C kvX0_isInCloud lkX8_225 kcX0 (k_isInCloud hB (P.audit ei)) (P.audit ei) rfl rfl (zb rfl) (zb rfl) (zb rfl) (zb rfl) dX8_delays_30) ?_
    by_cases c1 : tT σ 18 i = -1
    · rw [if_pos c1]
      rw [show dsum σ (i + 1) = dsum σ i from if_pos c1] at ih
      refine z_if_eq (tgt := 51) C dX8_delays_33 (by decide) (fun _ => ?_) (fun e9 => absurd e9 ((fun e => e rfl)))
      refine z_iinc _ C dX8_delays_51 rfl (nI_1 _) (zb rfl) ?_
      refine z_goto (tgt := 4) C dX8_delays_54 (by decide) ?_
      exact Zs.mask [true, true, true, true, false] ih
    · rw [if_neg c1]
      rw [show dsum σ (i + 1) = dsum σ i + (tT σ 18 i - tT σ 16 i).toInt64 from if_neg c1] at ih
      refine z_if_eq (tgt := 51) C dX8_delays_33 (by decide) (fun e9 => absurd e9 ((by decide))) (fun _ => ?_)
      refine z_lload_n C dX8_delays_36 rfl ?_
      refine z_aload C dX8_delays_37 rfl ?_
      refine z_getf C kcX0 flX8_159 (P.audit ei) rfl dX8_delays_39 ?_
      refine z_aload C dX8_delays_42 rfl ?_
      refine z_getf C kcX0 flX8_236 (P.audit ei) rfl dX8_delays_44 ?_
      refine z_isub C dX8_delays_47 ?_
      refine z_i2l C dX8_delays_48 ?_
      refine z_ladd C dX8_delays_49 ?_
      refine z_lstore_n C dX8_delays_50 (zb rfl) ?_
      refine z_iinc _ C dX8_delays_51 rfl (nI_1 _) (zb rfl) ?_
      refine z_goto (tgt := 4) C dX8_delays_54 (by decide) ?_
      exact Zs.mask [true, true, true, true, false] ih
/-- the sum of the delays is small -/
theorem Inv.dsm {σ : SG} (I : Inv σ) : ∀ i, i ≤ tn σ 2 → 0 ≤ (dsum σ i).toInt ∧ (dsum σ i).toInt ≤ 100000 * (i : Int)
  | 0, _ => ⟨by show (0 : Int) ≤ Int64.toInt 0; decide, by show Int64.toInt 0 ≤ _; decide⟩
  | i + 1, hi => by
    obtain ⟨a1, a2⟩ := Inv.dsm I i (by omega)
    have hn := I.N.2.2.1
    obtain ⟨-, -, -, -, -, b1, b2, -⟩ := I.A i (by omega)
    obtain ⟨ht1, ht2⟩ := I.T
    show 0 ≤ (if tT σ 18 i = -1 then dsum σ i else _).toInt ∧ (if tT σ 18 i = -1 then dsum σ i else _).toInt ≤ _
    by_cases c1 : tT σ 18 i = -1
    · rw [if_pos c1]; omega
    · rw [if_neg c1]
      rcases b2 with b2 | ⟨b2, b3⟩
      · exact absurd b2 c1
      · have e1 : (tT σ 18 i - tT σ 16 i).toInt64.toInt = (tT σ 18 i).toInt - (tT σ 16 i).toInt := by rw [Int32.toInt_toInt64, i_sub b1 b2]
        have e2 : (dsum σ i + (tT σ 18 i - tT σ 16 i).toInt64).toInt = (dsum σ i).toInt + ((tT σ 18 i).toInt - (tT σ 16 i).toInt) := by
          rw [Int64.toInt_add, e1]
          exact Int.bmod_eq_of_le (by omega) (by omega)
        omega
theorem Inv.men {σ : SG} (I : Inv σ) (h0 : ¬ cnt (pArr σ) (tn σ 2) = 0) : vf_n64 (mean σ) ∧ okD (mean σ) := by
  have h1 := I.dsm (tn σ 2) (Nat.le_refl _)
  have hn := I.N.2.2.1
  have hc := cnt_le (pArr σ) (tn σ 2)
  exact fp_mean h1.1 (by omega) (by omega) (by omega)
theorem k_meanOfDelays (hB : Base G) (P : PW G h loc σ ρ) (I : Inv σ) : Ct G mX8_meanOfDelays 8 1 6 [.ref (loc 0 0)] h (rc (¬ cnt (pArr σ) (tn σ 2) = 0) h (.double (mean σ))) (xc (cnt (pArr σ) (tn σ 2) = 0) xAR h) := by
  refine Ct.intro (m := 1) hB (by decide +kernel) (zb rfl) fun X C E => ?_
  have hb := P.lt 2
  have hc := cnt_le (pArr σ) (tn σ 2)
  refine z_aload_n C dX8_meanOfDelays_0 rfl ?_
  refine z_rd (z_runV C kvX8_arrivedCount lkX8_252 kcX8 (k_arrivedCount hB P) (P.x) rfl rfl (zb rfl) (zb rfl) (zb rfl) (zb rfl) dX8_meanOfDelays_1) ?_
  refine z_istore_n C dX8_meanOfDelays_4 (zb rfl) ?_
  refine z_iload_n C dX8_meanOfDelays_5 rfl ?_
  refine z_if_ne (tgt := 20) C dX8_meanOfDelays_6 (by decide) (fun e1 => ?_) (fun e1 => ?_)
  · have c0 : ¬ cnt (pArr σ) (tn σ 2) = 0 := fun q => e1 (by rw [q]; rfl)
    refine z_aload_n C dX8_meanOfDelays_20 rfl ?_
    refine z_rd (z_runV C kvX8_delays lkX8_295 kcX8 (k_delays hB P) (P.x) rfl rfl (zb rfl) (zb rfl) (zb rfl) (zb rfl) dX8_meanOfDelays_21) ?_
    refine z_l2d C dX8_meanOfDelays_24 ?_
    refine z_iload_n C dX8_meanOfDelays_25 rfl ?_
    refine z_i2d C dX8_meanOfDelays_26 ?_
    refine z_ddiv C dX8_meanOfDelays_27 ((I.men c0).1) ?_
    exact z_dret C E dX8_meanOfDelays_28 (⟨c0, rfl, rfl⟩) (zb rfl) (zb rfl)
  · have c0 : cnt (pArr σ) (tn σ 2) = 0 := (nI_eq (by omega) (by omega)).mp e1
    exact z_throwW C E ktn ktX8_247_293_251 (zb rfl) (zb rfl) dX8_meanOfDelays_9 dX8_meanOfDelays_12 dX8_meanOfDelays_13 dX8_meanOfDelays_16 dX8_meanOfDelays_19 (⟨c0, rfl, rfl⟩) (zb rfl) (zb rfl)
theorem k_meanDelay (hB : Base G) (P : PW G h loc σ ρ) (I : Inv σ) : Ct G mX8_meanDelay 9 1 6 [.ref (loc 0 0)] h (rc (¬ cnt (pArr σ) (tn σ 2) = 0) h (.double (mean σ))) (xc (cnt (pArr σ) (tn σ 2) = 0) xAR h) := by
  refine Ct.intro (m := 0) hB (by decide +kernel) (zb rfl) fun X C E => ?_
  refine z_aload_n C dX8_meanDelay_0 rfl ?_
  refine z_rc (z_runV C kvX8_meanOfDelays lkX8_239 kcX8 (k_meanOfDelays hB P I) (P.x) rfl rfl (zb rfl) (zb rfl) (zb rfl) (zb rfl) dX8_meanDelay_1) (fun hc9 => z_out C E (⟨hc9, rfl, rfl⟩) (zb rfl) (zb rfl)) (fun hd => ?_)
  exact z_dret C E dX8_meanDelay_4 (⟨hd, rfl, rfl⟩) (zb rfl) (zb rfl)
theorem k_meanBits (hB : Base G) (P : PW G h loc σ ρ) (I : Inv σ) : Ct G mX8_meanBits 9 1 6 [.ref (loc 0 0)] h (rc (¬ cnt (pArr σ) (tn σ 2) = 0) h (.long (mean σ).toInt64)) (xc (cnt (pArr σ) (tn σ 2) = 0) xAR h) := by
  refine Ct.intro (m := 0) hB (by decide +kernel) (zb rfl) fun X C E => ?_
  refine z_aload_n C dX8_meanBits_0 rfl ?_
  refine z_rc (z_runV C kvX8_meanOfDelays lkX8_239 kcX8 (k_meanOfDelays hB P I) (P.x) rfl rfl (zb rfl) (zb rfl) (zb rfl) (zb rfl) dX8_meanBits_1) (fun hc9 => z_out C E (⟨hc9, rfl, rfl⟩) (zb rfl) (zb rfl)) (fun hd => ?_)
  refine z_rd (z_runS C ksX1_ofDouble lkX8_243 (k_ofDouble hB (I.men hd).2) rfl rfl (zb rfl) (zb rfl) (zb rfl) (zb rfl) dX8_meanBits_4) ?_
  exact z_lret C E dX8_meanBits_7 (⟨hd, rfl, rfl⟩) (zb rfl) (zb rfl)
theorem k_arrivedShare (hB : Base G) (P : PW G h loc σ ρ) (I : Inv σ) : Ct G mX8_arrivedShare 8 1 6 [.ref (loc 0 0)] h (rc (¬ tn σ 2 = 0) h (.float (share σ))) (xc (tn σ 2 = 0) xAR h) := by
  refine Ct.intro (m := 1) hB (by decide +kernel) (zb rfl) fun X C E => ?_
  have hb := P.lt 2
  have hc := cnt_le (pArr σ) (tn σ 2)
  have hn := I.N.2.2.1
  refine z_aload_n C dX8_arrivedShare_0 rfl ?_
  refine z_getf C kcX8 flX8_26 (P.x) rfl dX8_arrivedShare_1 ?_
  refine z_rd (z_runV C kvJx4a65c_size_8abf5 lkX8_90 kcJx4a65c (k_sizeL hB P (j := 2) (by decide)) (P.list (by decide)) rfl rfl (zb rfl) (zb rfl) (zb rfl) (zb rfl) dX8_arrivedShare_4) ?_
  refine z_istore_n C dX8_arrivedShare_7 (zb rfl) ?_
  refine z_iload_n C dX8_arrivedShare_8 rfl ?_
  refine z_if_ne (tgt := 22) C dX8_arrivedShare_9 (by decide) (fun e1 => ?_) (fun e1 => ?_)
  · have c0 : ¬ tn σ 2 = 0 := fun q => e1 (by rw [q]; rfl)
    refine z_aload_n C dX8_arrivedShare_22 rfl ?_
    refine z_rd (z_runV C kvX8_arrivedCount lkX8_252 kcX8 (k_arrivedCount hB P) (P.x) rfl rfl (zb rfl) (zb rfl) (zb rfl) (zb rfl) dX8_arrivedShare_23) ?_
    refine z_i2f C dX8_arrivedShare_26 ?_
    refine z_iload_n C dX8_arrivedShare_27 rfl ?_
    refine z_i2f C dX8_arrivedShare_28 ?_
    refine z_fdiv C dX8_arrivedShare_29 ((fp_share hc (by omega) hn).1) ?_
    exact z_fret C E dX8_arrivedShare_30 (⟨c0, rfl, rfl⟩) (zb rfl) (zb rfl)
  · have c0 : tn σ 2 = 0 := (nI_eq (by omega) (by omega)).mp e1
    exact z_throw C E ktn ktX8_247_249_251 (zb rfl) (zb rfl) dX8_arrivedShare_12 dX8_arrivedShare_15 dX8_arrivedShare_16 dX8_arrivedShare_18 dX8_arrivedShare_21 (⟨c0, rfl, rfl⟩) (zb rfl) (zb rfl)
theorem ob_F {g : Nat → Int32} {k i : Nat} (e : k ≠ 0) : ob G loc σ (g, ρ.2) k i = ob G loc σ ρ k i := by
  match k, e with
  | 0, e => exact absurd rfl e
  | 1, _ => rfl
  | 2, _ => rfl
  | 3, _ => rfl
  | 4, _ => rfl
  | 5, _ => rfl
  | 6, _ => rfl
  | 7, _ => rfl
  | 8, _ => rfl
  | 9, _ => rfl
  | 10, _ => rfl
  | 11, _ => rfl
  | k + 12, _ => rfl
theorem k_replay (hB : Base G) (P : PW G h loc σ ρ) (M : IvM σ) (hp : tn σ 1 ≤ 3) {d f : Int32} : Ct G mX6_replay 4 0 0 [.ref (loc 0 2), .int d, .int f] h (fun o h' => o = some (.int (rpv σ d f (tn σ 4))) ∧ ∃ g, h' = hup h (loc 0 3) (oI G 3 g)) noX := by
  refine Ct.intro (m := 4) hB (by decide +kernel) (zb rfl) fun X C E => ?_
  have hb := P.lt 4
  have hoff : ∀ g, PW G (hup h (loc 0 3) (oI G 3 g)) loc σ (g, ρ.2) := fun g => P.set (k := 0) (i := 3) (show 3 < 7 by decide) rfl rfl (fun i' e hd => by
    match i', e with
    | 0, _ => rfl
    | 1, _ => rfl
    | 2, _ => rfl
    | 3, e => exact absurd rfl e
    | 4, _ => rfl
    | 5, _ => rfl
    | i + 6, _ => rfl) (fun k' i' e hd => ob_F e)
  refine z_aload_n C dX6_replay_0 rfl ?_
  refine z_getf C kcX6 flX6_18 (P.ms) rfl dX6_replay_1 ?_
  refine z_iconst (v := 0) C dX6_replay_4 (by decide) ?_
  refine z_wr (z_runS C ksJ7_fill_53178 lkX6_30 (k_fill hB P.on (by decide)) rfl rfl (zb rfl) (zb rfl) (zb rfl) (zb rfl) dX6_replay_5) ?_
  refine z_iload_n C dX6_replay_8 rfl ?_
  refine z_istore_n C dX6_replay_9 (zb rfl) ?_
  refine z_iconst (v := 0) C dX6_replay_10 (by decide) ?_
  refine z_istore C dX6_replay_11 (zb rfl) ?_
  have e0 : (fun j => if j < 3 then (0 : Int32) else rF ρ j) = (fun j => if j < 3 then rpo σ 0 j else rF ρ j) := rfl
  rw [e0]
  refine z_loop (I := fun i => Zs G X 7 (hup h (loc 0 3) (oI G 3 (fun j => if j < 3 then rpo σ i j else rF ρ j))) 0 0 13 [some (.ref (loc 0 2)), some (.int d), some (.int f), some (.int (rpv σ d f i)), some (.int (nI i)), none, none] []) (tn σ 4) (fun i hi ih => ?_) 0 (Nat.zero_le _)
  have P := hoff (fun j => if j < 3 then rpo σ i j else rF ρ j)
  refine z_iload C dX6_replay_13 rfl ?_
  refine z_aload_n C dX6_replay_15 rfl ?_
  refine z_getf C kcX6 flX6_12 (P.ms) rfl dX6_replay_16 ?_
  refine z_rd (z_runV C kvJx4a65c_size_8abf5 lkX6_22 kcJx4a65c (k_sizeL hB P (j := 4) (by decide)) (P.list (by decide)) rfl rfl (zb rfl) (zb rfl) (zb rfl) (zb rfl) dX6_replay_19) ?_
  refine z_icmp_ge (tgt := 115) C dX6_replay_22 (by decide) (fun e1 => ?_) (fun e1 => ?_)
  · have ei := i_top hb hi e1
    refine z_iload_n C dX6_replay_115 rfl ?_
    exact z_iret C E dX6_replay_116 (⟨by rw [ei], _, rfl⟩) (zb rfl) (zb rfl)
  · have ei := i_in hb hi e1
    have ih := ih ei
    obtain ⟨hpi, -, -⟩ := M i ei
    obtain ⟨hp1, hp2⟩ := hpi.ix (by omega)
    have hp3 : ix (tT σ 19 i) < 3 := by omega
    have h3 : (nI 3 : Int32) = 3 := by decide
    have hlt : tT σ 19 i < nI 3 := by rw [hp2]; exact nI_lt hp3 (by decide)
    refine z_aload_n C dX6_replay_25 rfl ?_
    refine z_getf C kcX6 flX6_12 (P.ms) rfl dX6_replay_26 ?_
    refine z_iload C dX6_replay_29 rfl ?_
    refine z_rd (z_runV C kvJx4a65c_get_915e3 lkX6_36 kcJx4a65c (k_getL hB P (j := 4) (by decide) ei) (P.list (by decide)) rfl rfl (zb rfl) (zb rfl) (zb rfl) (zb rfl) dX6_replay_31) ?_
    refine z_checkcast C kcX5 clX6_40 (P.meet ei) dX6_replay_34 ?_
    refine z_astore C dX6_replay_37 (zb rfl) ?_
    refine z_aload C dX6_replay_39 rfl ?_
    refine z_getf C kcX5 flX6_42 (P.meet ei) rfl dX6_replay_41 ?_
    refine z_istore C dX6_replay_44 (zb rfl) ?_
    refine z_iload C dX6_replay_46 rfl ?_
    refine z_if_lt (tgt := 109) C dX6_replay_48 (by decide) (fun e9 => absurd e9 (hpi.1)) (fun _ => ?_)
    refine z_iload C dX6_replay_51 rfl ?_
    refine z_aload_n C dX6_replay_53 rfl ?_
    refine z_getf C kcX6 flX6_18 (P.ms) rfl dX6_replay_54 ?_
    refine z_alen C rfl (P.on) dX6_replay_57 ?_
    refine z_icmp_lt (tgt := 64) C dX6_replay_58 (by decide) (fun _ => ?_) (fun e9 => absurd (hlt) e9)
    refine z_aload C dX6_replay_64 rfl ?_
    refine z_getf C kcX5 flX6_46 (P.meet ei) rfl dX6_replay_66 ?_
    refine z_iconst (v := (-1)) C dX6_replay_69 (by decide) ?_
    refine z_icmp_ne (tgt := 88) C dX6_replay_70 (by decide) (fun e2 => ?_) (fun e2 => ?_)
    · refine z_aload C dX6_replay_88 rfl ?_
      refine z_getf C kcX5 flX6_46 (P.meet ei) rfl dX6_replay_90 ?_
      refine z_iload_n C dX6_replay_93 rfl ?_
      refine z_icmp_ne (tgt := 109) C dX6_replay_94 (by decide) (fun e3 => ?_) (fun e3 => ?_)
      · rw [show rpv σ d f (i + 1) = rpv σ d f i by
          show (if _ then _ else if _ then _ else _) = _
          rw [if_neg e2, if_neg e3], show rpo σ (i + 1) = rpo σ i from if_neg e2] at ih
        refine z_iinc _ C dX6_replay_109 rfl (nI_1 _) (zb rfl) ?_
        refine z_goto (tgt := 13) C dX6_replay_112 (by decide) ?_
        exact Zs.mask [true, true, true, true, true, false, false] ih
      · rw [show rpv σ d f (i + 1) = i32max (rpv σ d f i) (rpo σ i (ix (tT σ 19 i))) by
          show (if _ then _ else if _ then _ else _) = _
          rw [if_neg e2, if_pos e3], show rpo σ (i + 1) = rpo σ i from if_neg e2] at ih
        have hv : vp_in (tT σ 19 i) 3 := by rw [hp2]; exact nI_in hp3 (by decide)
        refine z_iload_n C dX6_replay_97 rfl ?_
        refine z_aload_n C dX6_replay_98 rfl ?_
        refine z_getf C kcX6 flX6_18 (P.ms) rfl dX6_replay_99 ?_
        refine z_iload C dX6_replay_102 rfl ?_
        refine z_iald C (P.on) (hv) dX6_replay_104 ?_
        rw [show rF (fun j => if j < 3 then rpo σ i j else rF ρ j, ρ.2) (tT σ 19 i).toNatClampNeg = rpo σ i (ix (tT σ 19 i)) from if_pos hp3]
        refine z_mmax C lkX6_52 st_max ini_J9 co_max (zb rfl) (zb rfl) (zb rfl) (zb rfl) dX6_replay_105 ?_
        refine z_istore_n C dX6_replay_108 (zb rfl) ?_
        refine z_iinc _ C dX6_replay_109 rfl (nI_1 _) (zb rfl) ?_
        refine z_goto (tgt := 13) C dX6_replay_112 (by decide) ?_
        exact Zs.mask [true, true, true, true, true, false, false] ih
    · rw [show rpv σ d f (i + 1) = rpv σ d f i from if_pos e2, show rpo σ (i + 1) = upd (rpo σ i) (ix (tT σ 19 i)) (tT σ 21 i) from if_pos e2] at ih
      have hv : vp_in (tT σ 19 i) 3 := by rw [hp2]; exact nI_in hp3 (by decide)
      refine z_aload_n C dX6_replay_73 rfl ?_
      refine z_getf C kcX6 flX6_18 (P.ms) rfl dX6_replay_74 ?_
      refine z_iload C dX6_replay_77 rfl ?_
      refine z_aload C dX6_replay_79 rfl ?_
      refine z_getf C kcX5 flX6_49 (P.meet ei) rfl dX6_replay_81 ?_
      refine z_iast C (P.on) (hv) dX6_replay_84 ?_
      intro _ e8; subst e8
      rw [hup_hup]
      have e4 : upd (fun j => if j < 3 then rpo σ i j else rF ρ j) (tT σ 19 i).toNatClampNeg (tT σ 21 i) = fun j => if j < 3 then upd (rpo σ i) (ix (tT σ 19 i)) (tT σ 21 i) j else rF ρ j := by
        funext j
        unfold upd
        by_cases q : j = (tT σ 19 i).toNatClampNeg
        · rw [if_pos q, q, if_pos hp3, if_pos rfl]
        · rw [if_neg q]
          show (if j < 3 then rpo σ i j else rF ρ j) = if j < 3 then (if j = (tT σ 19 i).toNatClampNeg then _ else _) else _
          rw [if_neg q]
      show Zs G X 7 (hup h (loc 0 3) (oI G 3 (upd (fun j => if j < 3 then rpo σ i j else rF ρ j) (tT σ 19 i).toNatClampNeg (tT σ 21 i)))) _ _ _ _ _
      rw [e4]
      refine z_goto (tgt := 109) C dX6_replay_85 (by decide) ?_
      refine z_iinc _ C dX6_replay_109 rfl (nI_1 _) (zb rfl) ?_
      refine z_goto (tgt := 13) C dX6_replay_112 (by decide) ?_
      exact Zs.mask [true, true, true, true, true, false, false] ih
/-- the replay's array, written -/
theorem PW.setF (P : PW G h loc σ ρ) (g : Nat → Int32) : PW G (hup h (loc 0 3) (oI G 3 g)) loc σ (g, ρ.2) := P.set (k := 0) (i := 3) (show 3 < 7 by decide) rfl rfl (fun i' e hd => by
    match i', e with
    | 0, _ => rfl
    | 1, _ => rfl
    | 2, _ => rfl
    | 3, e => exact absurd rfl e
    | 4, _ => rfl
    | 5, _ => rfl
    | i + 6, _ => rfl) (fun k' i' e hd => ob_F e)
theorem k_versionByReplay (hB : Base G) (P : PW G h loc σ ρ) (I : Inv σ) {d : Int32} : Ct G mX8_versionByReplay 9 1 6 [.ref (loc 0 0), .int d] h (fun o h' => In d (tn σ 0) ∧ (∃ g, PW G h' loc σ (g, ρ.2)) ∧ o = some (.int (tT σ 7 (ix d)))) (xc (¬ In d (tn σ 0)) xIO h) := by
  refine Ct.intro (m := 0) hB (by decide +kernel) (zb rfl) fun X C E => ?_
  have hb := P.lt 0
  refine z_aload_n C dX8_versionByReplay_0 rfl ?_
  refine z_getf C kcX8 flX8_32 (P.x) rfl dX8_versionByReplay_1 ?_
  refine z_iload_n C dX8_versionByReplay_4 rfl ?_
  refine z_aload_n C dX8_versionByReplay_5 rfl ?_
  refine z_iload_n C dX8_versionByReplay_6 rfl ?_
  refine z_rc (z_runV C kvX8_doorOf lkX8_103 kcX8 (k_doorOf hB P) (P.x) rfl rfl (zb rfl) (zb rfl) (zb rfl) (zb rfl) dX8_versionByReplay_7) (fun hc9 => z_out C E (⟨hc9, rfl, rfl⟩) (zb rfl) (zb rfl)) (fun hd => ?_)
  have hi := hd.ix (by omega)
  have e1 : rpv σ d (tT σ 6 (ix d)) (tn σ 4) = tT σ 7 (ix d) := by
    have := I.R.2 _ hi.1
    rw [← hi.2] at this
    exact this
  refine z_getf C kcX3 flX8_194 (P.door hi.1) rfl dX8_versionByReplay_10 ?_
  refine z_rn (z_runV C kvX6_replay lkX8_197 kcX6 (k_replay hB P I.M I.N.2.1) (P.ms) rfl rfl (zb rfl) (zb rfl) (zb rfl) (zb rfl) dX8_versionByReplay_13) (fun v9 h9 hv => ?_)
  obtain ⟨rfl, g, rfl⟩ := hv
  exact z_iret C E dX8_versionByReplay_16 (⟨hd, ⟨g, P.setF g⟩, by rw [e1]⟩) (zb rfl) (zb rfl)
theorem k_areDoorsSound (hB : Base G) (P : PW G h loc σ ρ) (I : Inv σ) : Ct G mX8_areDoorsSound 8 0 0 [.ref (loc 0 0)] h (fun o h' => (∃ g, PW G h' loc σ (g, ρ.2)) ∧ o = some (.int 1)) noX := by
  refine Ct.intro (m := 2) hB (by decide +kernel) (zb rfl) fun X C E => ?_
  have hb := P.lt 0
  have hb3 := P.lt 3
  refine z_iconst (v := 0) C dX8_areDoorsSound_0 (by decide) ?_
  refine z_istore_n C dX8_areDoorsSound_1 (zb rfl) ?_
  refine z_loop (I := fun i => ∀ h1, (∃ g, PW G h1 loc σ (g, ρ.2)) → Zs G X 3 h1 0 0 2 [some (.ref (loc 0 0)), some (.int (nI i)), none] []) (tn σ 0) (fun i hi ih => ?_) 0 (Nat.zero_le _) h ⟨_, P⟩
  intro h1 ⟨g, P⟩
  refine z_iload_n C dX8_areDoorsSound_2 rfl ?_
  refine z_aload_n C dX8_areDoorsSound_3 rfl ?_
  refine z_getf C kcX8 flX8_19 (P.x) rfl dX8_areDoorsSound_4 ?_
  refine z_rd (z_runV C kvJx4a65c_size_8abf5 lkX8_90 kcJx4a65c (k_sizeL hB P (j := 0) (by decide)) (P.list (by decide)) rfl rfl (zb rfl) (zb rfl) (zb rfl) (zb rfl) dX8_areDoorsSound_7) ?_
  refine z_icmp_ge (tgt := 66) C dX8_areDoorsSound_10 (by decide) (fun e1 => ?_) (fun e1 => ?_)
  · refine z_iconst (v := 1) C dX8_areDoorsSound_66 (by decide) ?_
    exact z_zret C E (rfl) dX8_areDoorsSound_67 (⟨⟨g, P⟩, rfl⟩) (zb rfl) (zb rfl)
  · have ei := i_in hb hi e1
    have ih := ih ei
    obtain ⟨v, hv, hv2⟩ := (I.D i ei).2.2.2.1
    have g1 : ¬ nI (tn σ 3) < tT σ 7 i := by
      rw [hv2]
      exact fun q => by
        have := (nI_ltI (by omega) (by omega)).mp q
        omega
    refine z_aload_n C dX8_areDoorsSound_13 rfl ?_
    refine z_getf C kcX8 flX8_19 (P.x) rfl dX8_areDoorsSound_14 ?_
    refine z_iload_n C dX8_areDoorsSound_17 rfl ?_
    refine z_rd (z_runV C kvJx4a65c_get_915e3 lkX8_149 kcJx4a65c (k_getL hB P (j := 0) (by decide) ei) (P.list (by decide)) rfl rfl (zb rfl) (zb rfl) (zb rfl) (zb rfl) dX8_areDoorsSound_18) ?_
    refine z_checkcast C kcX3 clX8_95 (P.door ei) dX8_areDoorsSound_21 ?_
    refine z_astore_n C dX8_areDoorsSound_24 (zb rfl) ?_
    refine z_aload_n C dX8_areDoorsSound_25 rfl ?_
    refine z_getf C kcX3 flX8_162 (P.door ei) rfl dX8_areDoorsSound_26 ?_
    refine z_aload_n C dX8_areDoorsSound_29 rfl ?_
    refine z_getf C kcX8 flX8_10 (P.x) rfl dX8_areDoorsSound_30 ?_
    refine z_rd (z_runV C kvX2_newest lkX8_86 kcX2 (k_newest hB P) (P.cl) rfl rfl (zb rfl) (zb rfl) (zb rfl) (zb rfl) dX8_areDoorsSound_33) ?_
    refine z_icmp_gt (tgt := 58) C dX8_areDoorsSound_36 (by decide) (fun e9 => absurd e9 (g1)) (fun _ => ?_)
    refine z_aload_n C dX8_areDoorsSound_39 rfl ?_
    refine z_getf C kcX3 flX8_162 (P.door ei) rfl dX8_areDoorsSound_40 ?_
    refine z_aload_n C dX8_areDoorsSound_43 rfl ?_
    refine z_getf C kcX8 flX8_32 (P.x) rfl dX8_areDoorsSound_44 ?_
    refine z_iload_n C dX8_areDoorsSound_47 rfl ?_
    refine z_aload_n C dX8_areDoorsSound_48 rfl ?_
    refine z_getf C kcX3 flX8_194 (P.door ei) rfl dX8_areDoorsSound_49 ?_
    refine z_rn (z_runV C kvX6_replay lkX8_197 kcX6 (k_replay hB P I.M I.N.2.1) (P.ms) rfl rfl (zb rfl) (zb rfl) (zb rfl) (zb rfl) dX8_areDoorsSound_52) (fun v9 h9 hv => ?_)
    obtain ⟨rfl, g2, rfl⟩ := hv
    refine z_icmp_eq (tgt := 60) C dX8_areDoorsSound_55 (by decide) (fun _ => ?_) (fun e9 => absurd ((I.R.2 i ei).symm) e9)
    refine z_iinc _ C dX8_areDoorsSound_60 rfl (nI_1 _) (zb rfl) ?_
    refine z_goto (tgt := 2) C dX8_areDoorsSound_63 (by decide) ?_
    exact Zs.mask [true, true, false] (ih _ ⟨g2, P.setF g2⟩)
theorem k_arePhonesSound (hB : Base G) (P : PW G h loc σ ρ) (I : Inv σ) : Ct G mX8_arePhonesSound 8 0 0 [.ref (loc 0 0)] h (rd h (.int 1)) noX := by
  refine Ct.intro (m := 1) hB (by decide +kernel) (zb rfl) fun X C E => ?_
  have hb := P.lt 1
  have hb3 := P.lt 3
  refine z_iconst (v := 0) C dX8_arePhonesSound_0 (by decide) ?_
  refine z_istore_n C dX8_arePhonesSound_1 (zb rfl) ?_
  refine z_loop (I := fun i => Zs G X 2 h 0 0 2 [some (.ref (loc 0 0)), some (.int (nI i))] []) (tn σ 1) (fun i hi ih => ?_) 0 (Nat.zero_le _)
  refine z_iload_n C dX8_arePhonesSound_2 rfl ?_
  refine z_aload_n C dX8_arePhonesSound_3 rfl ?_
  refine z_getf C kcX8 flX8_23 (P.x) rfl dX8_arePhonesSound_4 ?_
  refine z_rd (z_runV C kvJx4a65c_size_8abf5 lkX8_90 kcJx4a65c (k_sizeL hB P (j := 1) (by decide)) (P.list (by decide)) rfl rfl (zb rfl) (zb rfl) (zb rfl) (zb rfl) dX8_arePhonesSound_7) ?_
  refine z_icmp_ge (tgt := 45) C dX8_arePhonesSound_10 (by decide) (fun e1 => ?_) (fun e1 => ?_)
  · refine z_iconst (v := 1) C dX8_arePhonesSound_45 (by decide) ?_
    exact z_zret C E (rfl) dX8_arePhonesSound_46 (⟨rfl, rfl⟩) (zb rfl) (zb rfl)
  · have ei := i_in hb hi e1
    have ih := ih ei
    obtain ⟨v, hv, hv2⟩ := I.P.1 i ei
    have g1 : tT σ 10 i ≤ nI (tn σ 3) := by
      rw [hv2]
      exact nI_le hv (by omega)
    refine z_aload_n C dX8_arePhonesSound_13 rfl ?_
    refine z_getf C kcX8 flX8_23 (P.x) rfl dX8_arePhonesSound_14 ?_
    refine z_iload_n C dX8_arePhonesSound_17 rfl ?_
    refine z_rd (z_runV C kvJx4a65c_get_915e3 lkX8_149 kcJx4a65c (k_getL hB P (j := 1) (by decide) ei) (P.list (by decide)) rfl rfl (zb rfl) (zb rfl) (zb rfl) (zb rfl) dX8_arePhonesSound_18) ?_
    refine z_checkcast C kcX7 clX8_126 (P.phone ei) dX8_arePhonesSound_21 ?_
    refine z_getf C kcX7 flX8_138 (P.phone ei) rfl dX8_arePhonesSound_24 ?_
    refine z_aload_n C dX8_arePhonesSound_27 rfl ?_
    refine z_getf C kcX8 flX8_10 (P.x) rfl dX8_arePhonesSound_28 ?_
    refine z_rd (z_runV C kvX2_newest lkX8_86 kcX2 (k_newest hB P) (P.cl) rfl rfl (zb rfl) (zb rfl) (zb rfl) (zb rfl) dX8_arePhonesSound_31) ?_
    refine z_icmp_le (tgt := 39) C dX8_arePhonesSound_34 (by decide) (fun _ => ?_) (fun e9 => absurd (g1) e9)
    refine z_iinc _ C dX8_arePhonesSound_39 rfl (nI_1 _) (zb rfl) ?_
    refine z_goto (tgt := 2) C dX8_arePhonesSound_42 (by decide) ?_
    exact ih
theorem k_areAuditsSound (hB : Base G) (P : PW G h loc σ ρ) (I : Inv σ) : Ct G mX8_areAuditsSound 8 0 0 [.ref (loc 0 0)] h (rd h (.int 1)) noX := by
  refine Ct.intro (m := 2) hB (by decide +kernel) (zb rfl) fun X C E => ?_
  have hb := P.lt 2
  refine z_iconst (v := 0) C dX8_areAuditsSound_0 (by decide) ?_
  refine z_istore_n C dX8_areAuditsSound_1 (zb rfl) ?_
  refine z_loop (I := fun i => Zs G X 3 h 0 0 2 [some (.ref (loc 0 0)), some (.int (nI i)), none] []) (tn σ 2) (fun i hi ih => ?_) 0 (Nat.zero_le _)
  refine z_iload_n C dX8_areAuditsSound_2 rfl ?_
  refine z_aload_n C dX8_areAuditsSound_3 rfl ?_
  refine z_getf C kcX8 flX8_26 (P.x) rfl dX8_areAuditsSound_4 ?_
  refine z_rd (z_runV C kvJx4a65c_size_8abf5 lkX8_90 kcJx4a65c (k_sizeL hB P (j := 2) (by decide)) (P.list (by decide)) rfl rfl (zb rfl) (zb rfl) (zb rfl) (zb rfl) dX8_areAuditsSound_7) ?_
  refine z_icmp_ge (tgt := 45) C dX8_areAuditsSound_10 (by decide) (fun e1 => ?_) (fun e1 => ?_)
  · refine z_iconst (v := 1) C dX8_areAuditsSound_45 (by decide) ?_
    exact z_zret C E (rfl) dX8_areAuditsSound_46 (⟨rfl, rfl⟩) (zb rfl) (zb rfl)
  · have ei := i_in hb hi e1
    have ih := ih ei
    refine z_aload_n C dX8_areAuditsSound_13 rfl ?_
    refine z_getf C kcX8 flX8_26 (P.x) rfl dX8_areAuditsSound_14 ?_
    refine z_iload_n C dX8_areAuditsSound_17 rfl ?_
    refine z_rd (z_runV C kvJx4a65c_get_915e3 lkX8_149 kcJx4a65c (k_getL hB P (j := 2) (by decide) ei) (P.list (by decide)) rfl rfl (zb rfl) (zb rfl) (zb rfl) (zb rfl) dX8_areAuditsSound_18) ?_
    refine z_checkcast C kcX0 clX8_153 (P.audit ei) dX8_areAuditsSound_21 ?_
    refine z_astore_n C dX8_areAuditsSound_24 (zb rfl) ?_
    refine z_aload_n C dX8_areAuditsSound_25 rfl ?_
    refine z_getf C kcX0 flX8_213 (P.audit ei) rfl dX8_areAuditsSound_26 ?_
    refine z_aload_n C dX8_areAuditsSound_29 rfl ?_
    refine z_aload_n C dX8_areAuditsSound_30 rfl ?_
    refine z_rd (z_runV C kvX8_letterAgain lkX8_217 kcX8 (k_letterAgain hB P I ei) (P.x) rfl rfl (zb rfl) (zb rfl) (zb rfl) (zb rfl) dX8_areAuditsSound_31) ?_
    refine z_icmp_eq (tgt := 39) C dX8_areAuditsSound_34 (by decide) (fun _ => ?_) (fun e9 => absurd ((I.A i ei).2.2.2.1) e9)
    refine z_iinc _ C dX8_areAuditsSound_39 rfl (nI_1 _) (zb rfl) ?_
    refine z_goto (tgt := 2) C dX8_areAuditsSound_42 (by decide) ?_
    exact Zs.mask [true, true, false] ih
theorem k_isSound (hB : Base G) (P : PW G h loc σ ρ) (I : Inv σ) : Ct G mX8_isSound 9 0 0 [.ref (loc 0 0)] h (fun o h' => (∃ g, PW G h' loc σ (g, ρ.2)) ∧ o = some (.int 1)) noX := by
  refine Ct.intro (m := 0) hB (by decide +kernel) (zb rfl) fun X C E => ?_
  refine z_aload_n C dX8_isSound_0 rfl ?_
  refine z_rn (z_runV C kvX8_areDoorsSound lkX8_255 kcX8 (k_areDoorsSound hB P I) (P.x) rfl rfl (zb rfl) (zb rfl) (zb rfl) (zb rfl) dX8_isSound_1) (fun v9 h9 hv => ?_)
  obtain ⟨⟨g, P⟩, rfl⟩ := hv
  refine z_if_eq (tgt := 25) C dX8_isSound_4 (by decide) (fun e9 => absurd e9 ((by decide))) (fun _ => ?_)
  refine z_aload_n C dX8_isSound_7 rfl ?_
  refine z_rd (z_runV C kvX8_arePhonesSound lkX8_258 kcX8 (k_arePhonesSound hB P I) (P.x) rfl rfl (zb rfl) (zb rfl) (zb rfl) (zb rfl) dX8_isSound_8) ?_
  refine z_if_eq (tgt := 25) C dX8_isSound_11 (by decide) (fun e9 => absurd e9 ((by decide))) (fun _ => ?_)
  refine z_aload_n C dX8_isSound_14 rfl ?_
  refine z_rd (z_runV C kvX8_areAuditsSound lkX8_261 kcX8 (k_areAuditsSound hB P I) (P.x) rfl rfl (zb rfl) (zb rfl) (zb rfl) (zb rfl) dX8_isSound_15) ?_
  refine z_if_eq (tgt := 25) C dX8_isSound_18 (by decide) (fun e9 => absurd e9 ((by decide))) (fun _ => ?_)
  refine z_iconst (v := 1) C dX8_isSound_21 (by decide) ?_
  refine z_goto (tgt := 26) C dX8_isSound_22 (by decide) ?_
  exact z_zret C E (rfl) dX8_isSound_26 (⟨⟨g, P⟩, rfl⟩) (zb rfl) (zb rfl)
end
