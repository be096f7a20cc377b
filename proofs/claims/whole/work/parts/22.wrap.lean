/-! the law's wrappers: an exception becomes a code -/
theorem ct_IO : Cond.castable xIO xIO ∈ lw_tbl := (List.mem_of_getElem? (i := 580) (by decide +kernel))
theorem ct_NS : Cond.castable xNS xNS ∈ lw_tbl := (List.mem_of_getElem? (i := 478) (by decide +kernel))
theorem ct_IA : Cond.castable xIA xIA ∈ lw_tbl := (List.mem_of_getElem? (i := 274) (by decide +kernel))
theorem ct_IS : Cond.castable xIS xIS ∈ lw_tbl := (List.mem_of_getElem? (i := 350) (by decide +kernel))
theorem ct_AR : Cond.castable xAR xAR ∈ lw_tbl := (List.mem_of_getElem? (i := 880) (by decide +kernel))
theorem np_IA_NS : Cond.not (.castable xIA xNS) ∈ flatC (Jvm.Cond.and given_1 narrow_1) := by decide +kernel
theorem np_IS_NS : Cond.not (.castable xIS xNS) ∈ flatC (Jvm.Cond.and given_1 narrow_1) := by decide +kernel
theorem np_IS_IA : Cond.not (.castable xIS xIA) ∈ flatC (Jvm.Cond.and given_1 narrow_1) := by decide +kernel
theorem np_IA_IO : Cond.not (.castable xIA xIO) ∈ flatC (Jvm.Cond.and given_1 narrow_1) := by decide +kernel
theorem np_NS_IO : Cond.not (.castable xNS xIO) ∈ flatC (Jvm.Cond.and given_1 narrow_1) := by decide +kernel
theorem np_IS_IO : Cond.not (.castable xIS xIO) ∈ flatC (Jvm.Cond.and given_1 narrow_1) := by decide +kernel
theorem in01 : vp_in 0 1 := show ¬ ((0 : Int32) < 0 ∨ 1 ≤ (0 : Int32).toNatClampNeg) by decide
def sameM (ρ ρ' : RG) : Prop := rt ρ' = rt ρ ∧ rM ρ' = rM ρ ∧ rK ρ' = rK ρ ∧ rA ρ' = rA ρ ∧ rD ρ' = rD ρ
def lw (G : GT) (loc : Nat → Nat → Nat) (σ : SG) (ρ : RG) (σ' : SG) (c1 c2 c3 : Prop) (okv : RG → Prop) : Option Value → Hp → Prop := fun o h' => (c1 ∧ c2 ∧ c3 ∧ (∃ loc' ρ', Same (tn σ) loc loc' ∧ PW G h' loc' σ' ρ' ∧ sameM ρ ρ' ∧ okv ρ') ∧ o = some (.int 0)) ∨ ∃ k : Int32, Rs c1 c2 c3 k ∧ ¬ k = 0 ∧ PW G h' loc σ ρ ∧ o = some (.int k)
section
variable {G : GT} {h : Hp} {loc loc' : Nat → Nat → Nat} {σ : SG} {ρ : RG}
theorem PW.J9 {n : Nat → Nat} (P : PW G h loc' σ ρ) (hs : Same n loc loc') : h (loc 0 5) = some (oJ G 1 (rJ ρ)) := by rw [← hs.a (show 5 < 7 by decide)]; exact P.J
theorem PW.Q9 {n : Nat → Nat} (P : PW G h loc' σ ρ) (hs : Same n loc loc') : h (loc 0 6) = some (oD G 1 (rQ ρ)) := by rw [← hs.a (show 6 < 7 by decide)]; exact P.Q
theorem PW.sJ (P : PW G h loc σ ρ) (J : Nat → Int64) : PW G (hup h (loc 0 5) (oJ G 1 J)) loc σ (rJs ρ J) := P.set (k := 0) (i := 5) (show 5 < 7 by decide) rfl rfl (fun i' e hd => by
    match i', hd, e with
    | 0, _, _ => rfl
    | 1, _, _ => rfl
    | 2, _, _ => rfl
    | 3, _, _ => rfl
    | 4, _, _ => rfl
    | 5, _, e => exact absurd rfl e
    | 6, _, _ => rfl
    | i + 7, hd, _ => exact absurd (show i + 7 < 7 from hd) (by omega)) (fun k' i' e hd => by
    match k', e with
    | 0, e => exact absurd rfl e
    | 1, _ => rfl
    | 2, _ => rfl
    | 3, _ => rfl
    | 4, _ => rfl
    | 5, _ => rfl
    | 6, _ => rfl
    | 7, _ => rfl
    | 8, _ => rfl
    | 9, _ => rfl
    | 10, _ => rfl
    | 11, _ => rfl
    | k + 12, _ => rfl)
theorem PW.sQ (P : PW G h loc σ ρ) (Q : Nat → UInt64) : PW G (hup h (loc 0 6) (oD G 1 Q)) loc σ (rQs ρ Q) := P.set (k := 0) (i := 6) (show 6 < 7 by decide) rfl rfl (fun i' e hd => by
    match i', hd, e with
    | 0, _, _ => rfl
    | 1, _, _ => rfl
    | 2, _, _ => rfl
    | 3, _, _ => rfl
    | 4, _, _ => rfl
    | 5, _, _ => rfl
    | 6, _, e => exact absurd rfl e
    | i + 7, hd, _ => exact absurd (show i + 7 < 7 from hd) (by omega)) (fun k' i' e hd => by
    match k', e with
    | 0, e => exact absurd rfl e
    | 1, _ => rfl
    | 2, _ => rfl
    | 3, _ => rfl
    | 4, _ => rfl
    | 5, _ => rfl
    | 6, _ => rfl
    | 7, _ => rfl
    | 8, _ => rfl
    | 9, _ => rfl
    | 10, _ => rfl
    | 11, _ => rfl
    | k + 12, _ => rfl)
theorem PW.sJ9 {n : Nat → Nat} (P : PW G h loc' σ ρ) (hs : Same n loc loc') (J : Nat → Int64) : PW G (hup h (loc 0 5) (oJ G 1 J)) loc' σ (rJs ρ J) := by rw [← hs.a (show 5 < 7 by decide)]; exact P.sJ J
theorem PW.sQ9 {n : Nat → Nat} (P : PW G h loc' σ ρ) (hs : Same n loc loc') (Q : Nat → UInt64) : PW G (hup h (loc 0 6) (oD G 1 Q)) loc' σ (rQs ρ Q) := by rw [← hs.a (show 6 < 7 by decide)]; exact P.sQ Q
theorem Rs.no {k : Int32} (h : Rs True True True k) : k = 0 := by
  rcases h with ⟨-, -, -, e⟩ | ⟨e, -⟩ | ⟨-, e, -⟩ | ⟨-, -, e, -⟩
  · exact e
  · exact absurd trivial e
  · exact absurd trivial e
  · exact absurd trivial e
theorem l_clock (hB : Base G) (P : PW G h loc σ ρ) (I : Inv σ) {d : Int32} : CtW G mL_clock hhL_clock 10 12 4300 [.ref (loc 0 0), .int d, .ref (loc 0 5)] h (lw G loc σ ρ (σ) (In d (tn σ 0)) (True) (True) (fun ρ' => rJ ρ' 0 = (clk σ (ix d)).toInt64)) noX := by
  refine CtW.intro (m := 1) hB (by decide +kernel) (zb rfl) fun X C E => ?_
  refine z_aload_n C dL_clock_0 rfl ?_
  refine z_iconst (v := 0) C dL_clock_1 (by decide) ?_
  refine z_aload_n C dL_clock_2 rfl ?_
  refine z_iload_n C dL_clock_3 rfl ?_
  refine z_rc (z_runV C kvX8_clock lkL_58 kcX8 (k_clock hB P I) (P.x) rfl rfl (zb rfl) (zb rfl) (zb rfl) (zb rfl) dL_clock_4) (fun hc => ?_) (fun hd => ?_)
  · refine z_catch C E [] ⟨0, 9, 12, 37⟩ [] rfl (fun z hz => nomatch hz) (by decide) (by decide) clL_37 ct_IO (fun q => ?_)
    refine z_astore_n C dL_clock_12 (zb rfl) ?_
    refine z_iconst (v := 1) C dL_clock_13 (by decide) ?_
    exact z_iret C E dL_clock_14 (Or.inr ⟨1, Or.inr (Or.inl ⟨hc, rfl⟩), by decide, P, rfl⟩) (zb rfl) (zb rfl)
  · refine z_i2l C dL_clock_7 ?_
    refine z_last C (P.J) (in01) dL_clock_8 ?_
    intro f8 _ hf8 e8; subst e8
    refine z_goto (tgt := 15) C dL_clock_9 (by decide) ?_
    refine z_iconst (v := 0) C dL_clock_15 (by decide) ?_
    exact z_iret C E dL_clock_16 (Or.inl ⟨hd, trivial, trivial, ⟨loc, _, Same.refl _ _, P.sJ f8, ⟨rfl, rfl, rfl, rfl, rfl⟩, hf8⟩, rfl⟩) (zb rfl) (zb rfl)
theorem l_drifted (hB : Base G) (P : PW G h loc σ ρ) (I : Inv σ) {d : Int32} : CtW G mL_drifted hhL_drifted 10 12 4300 [.ref (loc 0 0), .int d, .ref (loc 0 6)] h (lw G loc σ ρ (σ) (In d (tn σ 0)) (True) (True) (fun ρ' => rQ ρ' 0 = FP.f2d (drift σ (ix d)))) noX := by
  refine CtW.intro (m := 1) hB (by decide +kernel) (zb rfl) fun X C E => ?_
  refine z_aload_n C dL_drifted_0 rfl ?_
  refine z_iconst (v := 0) C dL_drifted_1 (by decide) ?_
  refine z_aload_n C dL_drifted_2 rfl ?_
  refine z_iload_n C dL_drifted_3 rfl ?_
  refine z_rc (z_runV C kvX8_drifted lkL_61 kcX8 (k_drifted hB P I) (P.x) rfl rfl (zb rfl) (zb rfl) (zb rfl) (zb rfl) dL_drifted_4) (fun hc => ?_) (fun hd => ?_)
  · refine z_catch C E [] ⟨0, 9, 12, 37⟩ [] rfl (fun z hz => nomatch hz) (by decide) (by decide) clL_37 ct_IO (fun q => ?_)
    refine z_astore_n C dL_drifted_12 (zb rfl) ?_
    refine z_iconst (v := 1) C dL_drifted_13 (by decide) ?_
    exact z_iret C E dL_drifted_14 (Or.inr ⟨1, Or.inr (Or.inl ⟨hc, rfl⟩), by decide, P, rfl⟩) (zb rfl) (zb rfl)
  · refine z_f2d C dL_drifted_7 ((okF_f2d (I.dr (hd.ix (by have := I.N.1; omega)).1).2.2.2).1) ?_
    refine z_dast C (P.Q) (in01) dL_drifted_8 ?_
    intro f8 _ hf8 e8; subst e8
    refine z_goto (tgt := 15) C dL_drifted_9 (by decide) ?_
    refine z_iconst (v := 0) C dL_drifted_15 (by decide) ?_
    exact z_iret C E dL_drifted_16 (Or.inl ⟨hd, trivial, trivial, ⟨loc, _, Same.refl _ _, P.sQ f8, ⟨rfl, rfl, rfl, rfl, rfl⟩, hf8 0⟩, rfl⟩) (zb rfl) (zb rfl)
theorem l_driftedBits (hB : Base G) (P : PW G h loc σ ρ) (I : Inv σ) {d : Int32} : CtW G mL_driftedBits hhL_driftedBits 10 12 4300 [.ref (loc 0 0), .int d, .ref (loc 0 5)] h (lw G loc σ ρ (σ) (In d (tn σ 0)) (True) (True) (fun ρ' => rJ ρ' 0 = (drift σ (ix d)).toInt32.toInt64)) noX := by
  refine CtW.intro (m := 1) hB (by decide +kernel) (zb rfl) fun X C E => ?_
  refine z_aload_n C dL_driftedBits_0 rfl ?_
  refine z_iconst (v := 0) C dL_driftedBits_1 (by decide) ?_
  refine z_aload_n C dL_driftedBits_2 rfl ?_
  refine z_iload_n C dL_driftedBits_3 rfl ?_
  refine z_rc (z_runV C kvX8_driftedBits lkL_65 kcX8 (k_driftedBits hB P I) (P.x) rfl rfl (zb rfl) (zb rfl) (zb rfl) (zb rfl) dL_driftedBits_4) (fun hc => ?_) (fun hd => ?_)
  · refine z_catch C E [] ⟨0, 9, 12, 37⟩ [] rfl (fun z hz => nomatch hz) (by decide) (by decide) clL_37 ct_IO (fun q => ?_)
    refine z_astore_n C dL_driftedBits_12 (zb rfl) ?_
    refine z_iconst (v := 1) C dL_driftedBits_13 (by decide) ?_
    exact z_iret C E dL_driftedBits_14 (Or.inr ⟨1, Or.inr (Or.inl ⟨hc, rfl⟩), by decide, P, rfl⟩) (zb rfl) (zb rfl)
  · refine z_i2l C dL_driftedBits_7 ?_
    refine z_last C (P.J) (in01) dL_driftedBits_8 ?_
    intro f8 _ hf8 e8; subst e8
    refine z_goto (tgt := 15) C dL_driftedBits_9 (by decide) ?_
    refine z_iconst (v := 0) C dL_driftedBits_15 (by decide) ?_
    exact z_iret C E dL_driftedBits_16 (Or.inl ⟨hd, trivial, trivial, ⟨loc, _, Same.refl _ _, P.sJ f8, ⟨rfl, rfl, rfl, rfl, rfl⟩, hf8⟩, rfl⟩) (zb rfl) (zb rfl)
theorem l_versionOf (hB : Base G) (P : PW G h loc σ ρ) (I : Inv σ) {d : Int32} : CtW G mL_versionOf hhL_versionOf 10 12 4300 [.ref (loc 0 0), .int d, .ref (loc 0 5)] h (lw G loc σ ρ (σ) (In d (tn σ 0)) (True) (True) (fun ρ' => rJ ρ' 0 = (tT σ 7 (ix d)).toInt64)) noX := by
  refine CtW.intro (m := 1) hB (by decide +kernel) (zb rfl) fun X C E => ?_
  refine z_aload_n C dL_versionOf_0 rfl ?_
  refine z_iconst (v := 0) C dL_versionOf_1 (by decide) ?_
  refine z_aload_n C dL_versionOf_2 rfl ?_
  refine z_iload_n C dL_versionOf_3 rfl ?_
  refine z_rc (z_runV C kvX8_versionOf lkL_68 kcX8 (k_versionOf hB P I) (P.x) rfl rfl (zb rfl) (zb rfl) (zb rfl) (zb rfl) dL_versionOf_4) (fun hc => ?_) (fun hd => ?_)
  · refine z_catch C E [] ⟨0, 9, 12, 37⟩ [] rfl (fun z hz => nomatch hz) (by decide) (by decide) clL_37 ct_IO (fun q => ?_)
    refine z_astore_n C dL_versionOf_12 (zb rfl) ?_
    refine z_iconst (v := 1) C dL_versionOf_13 (by decide) ?_
    exact z_iret C E dL_versionOf_14 (Or.inr ⟨1, Or.inr (Or.inl ⟨hc, rfl⟩), by decide, P, rfl⟩) (zb rfl) (zb rfl)
  · refine z_i2l C dL_versionOf_7 ?_
    refine z_last C (P.J) (in01) dL_versionOf_8 ?_
    intro f8 _ hf8 e8; subst e8
    refine z_goto (tgt := 15) C dL_versionOf_9 (by decide) ?_
    refine z_iconst (v := 0) C dL_versionOf_15 (by decide) ?_
    exact z_iret C E dL_versionOf_16 (Or.inl ⟨hd, trivial, trivial, ⟨loc, _, Same.refl _ _, P.sJ f8, ⟨rfl, rfl, rfl, rfl, rfl⟩, hf8⟩, rfl⟩) (zb rfl) (zb rfl)
theorem l_versionOn (hB : Base G) (P : PW G h loc σ ρ) (I : Inv σ) {d : Int32} : CtW G mL_versionOn hhL_versionOn 10 12 4300 [.ref (loc 0 0), .int d, .ref (loc 0 5)] h (lw G loc σ ρ (σ) (In d (tn σ 1)) (True) (True) (fun ρ' => rJ ρ' 0 = (tT σ 10 (ix d)).toInt64)) noX := by
  refine CtW.intro (m := 1) hB (by decide +kernel) (zb rfl) fun X C E => ?_
  refine z_aload_n C dL_versionOn_0 rfl ?_
  refine z_iconst (v := 0) C dL_versionOn_1 (by decide) ?_
  refine z_aload_n C dL_versionOn_2 rfl ?_
  refine z_iload_n C dL_versionOn_3 rfl ?_
  refine z_rc (z_runV C kvX8_versionOn lkL_74 kcX8 (k_versionOn hB P) (P.x) rfl rfl (zb rfl) (zb rfl) (zb rfl) (zb rfl) dL_versionOn_4) (fun hc => ?_) (fun hd => ?_)
  · refine z_catch C E [] ⟨0, 9, 12, 37⟩ [] rfl (fun z hz => nomatch hz) (by decide) (by decide) clL_37 ct_IO (fun q => ?_)
    refine z_astore_n C dL_versionOn_12 (zb rfl) ?_
    refine z_iconst (v := 1) C dL_versionOn_13 (by decide) ?_
    exact z_iret C E dL_versionOn_14 (Or.inr ⟨1, Or.inr (Or.inl ⟨hc, rfl⟩), by decide, P, rfl⟩) (zb rfl) (zb rfl)
  · refine z_i2l C dL_versionOn_7 ?_
    refine z_last C (P.J) (in01) dL_versionOn_8 ?_
    intro f8 _ hf8 e8; subst e8
    refine z_goto (tgt := 15) C dL_versionOn_9 (by decide) ?_
    refine z_iconst (v := 0) C dL_versionOn_15 (by decide) ?_
    exact z_iret C E dL_versionOn_16 (Or.inl ⟨hd, trivial, trivial, ⟨loc, _, Same.refl _ _, P.sJ f8, ⟨rfl, rfl, rfl, rfl, rfl⟩, hf8⟩, rfl⟩) (zb rfl) (zb rfl)
theorem l_waiting (hB : Base G) (P : PW G h loc σ ρ) (I : Inv σ) {d : Int32} : CtW G mL_waiting hhL_waiting 10 12 4300 [.ref (loc 0 0), .int d, .ref (loc 0 5)] h (lw G loc σ ρ (σ) (In d (tn σ 0)) (True) (True) (fun ρ' => rJ ρ' 0 = (nI (cnt (pWait σ d) (tn σ 2))).toInt64)) noX := by
  refine CtW.intro (m := 1) hB (by decide +kernel) (zb rfl) fun X C E => ?_
  refine z_aload_n C dL_waiting_0 rfl ?_
  refine z_iconst (v := 0) C dL_waiting_1 (by decide) ?_
  refine z_aload_n C dL_waiting_2 rfl ?_
  refine z_iload_n C dL_waiting_3 rfl ?_
  refine z_rc (z_runV C kvX8_waiting lkL_80 kcX8 (k_waiting hB P) (P.x) rfl rfl (zb rfl) (zb rfl) (zb rfl) (zb rfl) dL_waiting_4) (fun hc => ?_) (fun hd => ?_)
  · refine z_catch C E [] ⟨0, 9, 12, 37⟩ [] rfl (fun z hz => nomatch hz) (by decide) (by decide) clL_37 ct_IO (fun q => ?_)
    refine z_astore_n C dL_waiting_12 (zb rfl) ?_
    refine z_iconst (v := 1) C dL_waiting_13 (by decide) ?_
    exact z_iret C E dL_waiting_14 (Or.inr ⟨1, Or.inr (Or.inl ⟨hc, rfl⟩), by decide, P, rfl⟩) (zb rfl) (zb rfl)
  · refine z_i2l C dL_waiting_7 ?_
    refine z_last C (P.J) (in01) dL_waiting_8 ?_
    intro f8 _ hf8 e8; subst e8
    refine z_goto (tgt := 15) C dL_waiting_9 (by decide) ?_
    refine z_iconst (v := 0) C dL_waiting_15 (by decide) ?_
    exact z_iret C E dL_waiting_16 (Or.inl ⟨hd, trivial, trivial, ⟨loc, _, Same.refl _ _, P.sJ f8, ⟨rfl, rfl, rfl, rfl, rfl⟩, hf8⟩, rfl⟩) (zb rfl) (zb rfl)
theorem l_carried (hB : Base G) (P : PW G h loc σ ρ) (I : Inv σ) {d : Int32} : CtW G mL_carried hhL_carried 10 12 4300 [.ref (loc 0 0), .int d, .ref (loc 0 5)] h (lw G loc σ ρ (σ) (In d (tn σ 1)) (True) (True) (fun ρ' => rJ ρ' 0 = (nI (cnt (pCarr σ d) (tn σ 2))).toInt64)) noX := by
  refine CtW.intro (m := 1) hB (by decide +kernel) (zb rfl) fun X C E => ?_
  refine z_aload_n C dL_carried_0 rfl ?_
  refine z_iconst (v := 0) C dL_carried_1 (by decide) ?_
  refine z_aload_n C dL_carried_2 rfl ?_
  refine z_iload_n C dL_carried_3 rfl ?_
  refine z_rc (z_runV C kvX8_carried lkL_83 kcX8 (k_carried hB P) (P.x) rfl rfl (zb rfl) (zb rfl) (zb rfl) (zb rfl) dL_carried_4) (fun hc => ?_) (fun hd => ?_)
  · refine z_catch C E [] ⟨0, 9, 12, 37⟩ [] rfl (fun z hz => nomatch hz) (by decide) (by decide) clL_37 ct_IO (fun q => ?_)
    refine z_astore_n C dL_carried_12 (zb rfl) ?_
    refine z_iconst (v := 1) C dL_carried_13 (by decide) ?_
    exact z_iret C E dL_carried_14 (Or.inr ⟨1, Or.inr (Or.inl ⟨hc, rfl⟩), by decide, P, rfl⟩) (zb rfl) (zb rfl)
  · refine z_i2l C dL_carried_7 ?_
    refine z_last C (P.J) (in01) dL_carried_8 ?_
    intro f8 _ hf8 e8; subst e8
    refine z_goto (tgt := 15) C dL_carried_9 (by decide) ?_
    refine z_iconst (v := 0) C dL_carried_15 (by decide) ?_
    exact z_iret C E dL_carried_16 (Or.inl ⟨hd, trivial, trivial, ⟨loc, _, Same.refl _ _, P.sJ f8, ⟨rfl, rfl, rfl, rfl, rfl⟩, hf8⟩, rfl⟩) (zb rfl) (zb rfl)
theorem l_letterOf (hB : Base G) (P : PW G h loc σ ρ) (I : Inv σ) {d : Int32} : CtW G mL_letterOf hhL_letterOf 10 12 4300 [.ref (loc 0 0), .int d, .ref (loc 0 5)] h (lw G loc σ ρ (σ) (In d (tn σ 2)) (True) (True) (fun ρ' => rJ ρ' 0 = (tT σ 14 (ix d)).toInt64)) noX := by
  refine CtW.intro (m := 1) hB (by decide +kernel) (zb rfl) fun X C E => ?_
  refine z_aload_n C dL_letterOf_0 rfl ?_
  refine z_iconst (v := 0) C dL_letterOf_1 (by decide) ?_
  refine z_aload_n C dL_letterOf_2 rfl ?_
  refine z_iload_n C dL_letterOf_3 rfl ?_
  refine z_rc (z_runV C kvX8_letterOf lkL_86 kcX8 (k_letterOf hB P I) (P.x) rfl rfl (zb rfl) (zb rfl) (zb rfl) (zb rfl) dL_letterOf_4) (fun hc => ?_) (fun hd => ?_)
  · refine z_catch C E [] ⟨0, 9, 12, 20⟩ [] rfl (fun z hz => nomatch hz) (by decide) (by decide) clL_20 ct_NS (fun q => ?_)
    refine z_astore_n C dL_letterOf_12 (zb rfl) ?_
    refine z_iconst (v := 1) C dL_letterOf_13 (by decide) ?_
    exact z_iret C E dL_letterOf_14 (Or.inr ⟨1, Or.inr (Or.inl ⟨hc, rfl⟩), by decide, P, rfl⟩) (zb rfl) (zb rfl)
  · refine z_i2l C dL_letterOf_7 ?_
    refine z_last C (P.J) (in01) dL_letterOf_8 ?_
    intro f8 _ hf8 e8; subst e8
    refine z_goto (tgt := 15) C dL_letterOf_9 (by decide) ?_
    refine z_iconst (v := 0) C dL_letterOf_15 (by decide) ?_
    exact z_iret C E dL_letterOf_16 (Or.inl ⟨hd, trivial, trivial, ⟨loc, _, Same.refl _ _, P.sJ f8, ⟨rfl, rfl, rfl, rfl, rfl⟩, hf8⟩, rfl⟩) (zb rfl) (zb rfl)
theorem l_letterByList (hB : Base G) (P : PW G h loc σ ρ) (I : Inv σ) {d : Int32} : CtW G mL_letterByList hhL_letterByList 10 12 4300 [.ref (loc 0 0), .int d, .ref (loc 0 5)] h (lw G loc σ ρ (σ) (In d (tn σ 2)) (True) (True) (fun ρ' => rJ ρ' 0 = (letter σ (ix (tT σ 15 (ix d))) (tT σ 12 (ix d)) (tT σ 11 (ix d)) (tT σ 13 (ix d))).toInt64)) noX := by
  refine CtW.intro (m := 1) hB (by decide +kernel) (zb rfl) fun X C E => ?_
  refine z_aload_n C dL_letterByList_0 rfl ?_
  refine z_iconst (v := 0) C dL_letterByList_1 (by decide) ?_
  refine z_aload_n C dL_letterByList_2 rfl ?_
  refine z_iload_n C dL_letterByList_3 rfl ?_
  refine z_rc (z_runV C kvX8_letterByList lkL_90 kcX8 (k_letterByList hB P I) (P.x) rfl rfl (zb rfl) (zb rfl) (zb rfl) (zb rfl) dL_letterByList_4) (fun hc => ?_) (fun hd => ?_)
  · refine z_catch C E [] ⟨0, 9, 12, 20⟩ [] rfl (fun z hz => nomatch hz) (by decide) (by decide) clL_20 ct_NS (fun q => ?_)
    refine z_astore_n C dL_letterByList_12 (zb rfl) ?_
    refine z_iconst (v := 1) C dL_letterByList_13 (by decide) ?_
    exact z_iret C E dL_letterByList_14 (Or.inr ⟨1, Or.inr (Or.inl ⟨hc, rfl⟩), by decide, P, rfl⟩) (zb rfl) (zb rfl)
  · refine z_i2l C dL_letterByList_7 ?_
    refine z_last C (P.J) (in01) dL_letterByList_8 ?_
    intro f8 _ hf8 e8; subst e8
    refine z_goto (tgt := 15) C dL_letterByList_9 (by decide) ?_
    refine z_iconst (v := 0) C dL_letterByList_15 (by decide) ?_
    exact z_iret C E dL_letterByList_16 (Or.inl ⟨hd, trivial, trivial, ⟨loc, _, Same.refl _ _, P.sJ f8, ⟨rfl, rfl, rfl, rfl, rfl⟩, hf8⟩, rfl⟩) (zb rfl) (zb rfl)
theorem l_minuteOf (hB : Base G) (P : PW G h loc σ ρ) (I : Inv σ) {d : Int32} : CtW G mL_minuteOf hhL_minuteOf 10 12 4300 [.ref (loc 0 0), .int d, .ref (loc 0 5)] h (lw G loc σ ρ (σ) (In d (tn σ 2)) (True) (True) (fun ρ' => rJ ρ' 0 = (tT σ 13 (ix d)).toInt64)) noX := by
  refine CtW.intro (m := 1) hB (by decide +kernel) (zb rfl) fun X C E => ?_
  refine z_aload_n C dL_minuteOf_0 rfl ?_
  refine z_iconst (v := 0) C dL_minuteOf_1 (by decide) ?_
  refine z_aload_n C dL_minuteOf_2 rfl ?_
  refine z_iload_n C dL_minuteOf_3 rfl ?_
  refine z_rc (z_runV C kvX8_minuteOf lkL_93 kcX8 (k_minuteOf hB P I) (P.x) rfl rfl (zb rfl) (zb rfl) (zb rfl) (zb rfl) dL_minuteOf_4) (fun hc => ?_) (fun hd => ?_)
  · refine z_catch C E [] ⟨0, 9, 12, 20⟩ [] rfl (fun z hz => nomatch hz) (by decide) (by decide) clL_20 ct_NS (fun q => ?_)
    refine z_astore_n C dL_minuteOf_12 (zb rfl) ?_
    refine z_iconst (v := 1) C dL_minuteOf_13 (by decide) ?_
    exact z_iret C E dL_minuteOf_14 (Or.inr ⟨1, Or.inr (Or.inl ⟨hc, rfl⟩), by decide, P, rfl⟩) (zb rfl) (zb rfl)
  · refine z_i2l C dL_minuteOf_7 ?_
    refine z_last C (P.J) (in01) dL_minuteOf_8 ?_
    intro f8 _ hf8 e8; subst e8
    refine z_goto (tgt := 15) C dL_minuteOf_9 (by decide) ?_
    refine z_iconst (v := 0) C dL_minuteOf_15 (by decide) ?_
    exact z_iret C E dL_minuteOf_16 (Or.inl ⟨hd, trivial, trivial, ⟨loc, _, Same.refl _ _, P.sJ f8, ⟨rfl, rfl, rfl, rfl, rfl⟩, hf8⟩, rfl⟩) (zb rfl) (zb rfl)
theorem l_versionAt (hB : Base G) (P : PW G h loc σ ρ) (I : Inv σ) {d : Int32} : CtW G mL_versionAt hhL_versionAt 10 12 4300 [.ref (loc 0 0), .int d, .ref (loc 0 5)] h (lw G loc σ ρ (σ) (In d (tn σ 2)) (True) (True) (fun ρ' => rJ ρ' 0 = (tT σ 15 (ix d)).toInt64)) noX := by
  refine CtW.intro (m := 1) hB (by decide +kernel) (zb rfl) fun X C E => ?_
  refine z_aload_n C dL_versionAt_0 rfl ?_
  refine z_iconst (v := 0) C dL_versionAt_1 (by decide) ?_
  refine z_aload_n C dL_versionAt_2 rfl ?_
  refine z_iload_n C dL_versionAt_3 rfl ?_
  refine z_rc (z_runV C kvX8_versionAt lkL_96 kcX8 (k_versionAt hB P I) (P.x) rfl rfl (zb rfl) (zb rfl) (zb rfl) (zb rfl) dL_versionAt_4) (fun hc => ?_) (fun hd => ?_)
  · refine z_catch C E [] ⟨0, 9, 12, 20⟩ [] rfl (fun z hz => nomatch hz) (by decide) (by decide) clL_20 ct_NS (fun q => ?_)
    refine z_astore_n C dL_versionAt_12 (zb rfl) ?_
    refine z_iconst (v := 1) C dL_versionAt_13 (by decide) ?_
    exact z_iret C E dL_versionAt_14 (Or.inr ⟨1, Or.inr (Or.inl ⟨hc, rfl⟩), by decide, P, rfl⟩) (zb rfl) (zb rfl)
  · refine z_i2l C dL_versionAt_7 ?_
    refine z_last C (P.J) (in01) dL_versionAt_8 ?_
    intro f8 _ hf8 e8; subst e8
    refine z_goto (tgt := 15) C dL_versionAt_9 (by decide) ?_
    refine z_iconst (v := 0) C dL_versionAt_15 (by decide) ?_
    exact z_iret C E dL_versionAt_16 (Or.inl ⟨hd, trivial, trivial, ⟨loc, _, Same.refl _ _, P.sJ f8, ⟨rfl, rfl, rfl, rfl, rfl⟩, hf8⟩, rfl⟩) (zb rfl) (zb rfl)
theorem l_hasArrived (hB : Base G) (P : PW G h loc σ ρ) (I : Inv σ) {d : Int32} : CtW G mL_hasArrived hhL_hasArrived 10 12 4300 [.ref (loc 0 0), .int d, .ref (loc 0 5)] h (lw G loc σ ρ (σ) (In d (tn σ 2)) (True) (True) (fun ρ' => rJ ρ' 0 = (((if tT σ 18 (ix d) = -1 then 0 else 1) : Int32)).toInt64)) noX := by
  refine CtW.intro (m := 1) hB (by decide +kernel) (zb rfl) fun X C E => ?_
  refine z_aload_n C dL_hasArrived_0 rfl ?_
  refine z_iconst (v := 0) C dL_hasArrived_1 (by decide) ?_
  refine z_aload_n C dL_hasArrived_2 rfl ?_
  refine z_iload_n C dL_hasArrived_3 rfl ?_
  refine z_rc (z_runV C kvX8_hasArrived lkL_99 kcX8 (k_hasArrived hB P) (P.x) rfl rfl (zb rfl) (zb rfl) (zb rfl) (zb rfl) dL_hasArrived_4) (fun hc => ?_) (fun hd => ?_)
  · refine z_catch C E [] ⟨0, 16, 19, 20⟩ [] rfl (fun z hz => nomatch hz) (by decide) (by decide) clL_20 ct_NS (fun q => ?_)
    refine z_astore_n C dL_hasArrived_19 (zb rfl) ?_
    refine z_iconst (v := 1) C dL_hasArrived_20 (by decide) ?_
    exact z_iret C E dL_hasArrived_21 (Or.inr ⟨1, Or.inr (Or.inl ⟨hc, rfl⟩), by decide, P, rfl⟩) (zb rfl) (zb rfl)
  · by_cases c1 : tT σ 18 (ix d) = -1
    · rw [if_pos c1]
      simp only [if_pos c1] at E
      refine z_if_eq (tgt := 14) C dL_hasArrived_7 (by decide) (fun _ => ?_) (fun e9 => absurd e9 ((fun e => e rfl)))
      refine z_lconst (v := 0) C dL_hasArrived_14 (by decide) ?_
      refine z_last C (P.J) (in01) dL_hasArrived_15 ?_
      intro f8 _ hf8 e8; subst e8
      refine z_goto (tgt := 22) C dL_hasArrived_16 (by decide) ?_
      refine z_iconst (v := 0) C dL_hasArrived_22 (by decide) ?_
      exact z_iret C E dL_hasArrived_23 (Or.inl ⟨hd, trivial, trivial, ⟨loc, _, Same.refl _ _, P.sJ f8, ⟨rfl, rfl, rfl, rfl, rfl⟩, hf8⟩, rfl⟩) (zb rfl) (zb rfl)
    · rw [if_neg c1]
      simp only [if_neg c1] at E
      refine z_if_eq (tgt := 14) C dL_hasArrived_7 (by decide) (fun e9 => absurd e9 ((show ¬ (1 : Int32) = 0 by decide))) (fun _ => ?_)
      refine z_lconst (v := 1) C dL_hasArrived_10 (by decide) ?_
      refine z_goto (tgt := 15) C dL_hasArrived_11 (by decide) ?_
      refine z_last C (P.J) (in01) dL_hasArrived_15 ?_
      intro f8 _ hf8 e8; subst e8
      refine z_goto (tgt := 22) C dL_hasArrived_16 (by decide) ?_
      refine z_iconst (v := 0) C dL_hasArrived_22 (by decide) ?_
      exact z_iret C E dL_hasArrived_23 (Or.inl ⟨hd, trivial, trivial, ⟨loc, _, Same.refl _ _, P.sJ f8, ⟨rfl, rfl, rfl, rfl, rfl⟩, hf8⟩, rfl⟩) (zb rfl) (zb rfl)
theorem l_isBreach (hB : Base G) (P : PW G h loc σ ρ) (I : Inv σ) {d : Int32} : CtW G mL_isBreach hhL_isBreach 10 12 4300 [.ref (loc 0 0), .int d, .ref (loc 0 5)] h (lw G loc σ ρ (σ) (In d (tn σ 2)) (True) (True) (fun ρ' => rJ ρ' 0 = (((if told σ (ix d) = true then 1 else 0) : Int32)).toInt64)) noX := by
  refine CtW.intro (m := 1) hB (by decide +kernel) (zb rfl) fun X C E => ?_
  refine z_aload_n C dL_isBreach_0 rfl ?_
  refine z_iconst (v := 0) C dL_isBreach_1 (by decide) ?_
  refine z_aload_n C dL_isBreach_2 rfl ?_
  refine z_iload_n C dL_isBreach_3 rfl ?_
  refine z_rc (z_runV C kvX8_isBreach lkL_103 kcX8 (k_isBreach hB P) (P.x) rfl rfl (zb rfl) (zb rfl) (zb rfl) (zb rfl) dL_isBreach_4) (fun hc => ?_) (fun hd => ?_)
  · refine z_catch C E [] ⟨0, 16, 19, 20⟩ [] rfl (fun z hz => nomatch hz) (by decide) (by decide) clL_20 ct_NS (fun q => ?_)
    refine z_astore_n C dL_isBreach_19 (zb rfl) ?_
    refine z_iconst (v := 1) C dL_isBreach_20 (by decide) ?_
    exact z_iret C E dL_isBreach_21 (Or.inr ⟨1, Or.inr (Or.inl ⟨hc, rfl⟩), by decide, P, rfl⟩) (zb rfl) (zb rfl)
  · by_cases c1 : told σ (ix d) = true
    · rw [if_pos c1]
      simp only [if_pos c1] at E
      refine z_if_eq (tgt := 14) C dL_isBreach_7 (by decide) (fun e9 => absurd e9 ((show ¬ (1 : Int32) = 0 by decide))) (fun _ => ?_)
      refine z_lconst (v := 1) C dL_isBreach_10 (by decide) ?_
      refine z_goto (tgt := 15) C dL_isBreach_11 (by decide) ?_
      refine z_last C (P.J) (in01) dL_isBreach_15 ?_
      intro f8 _ hf8 e8; subst e8
      refine z_goto (tgt := 22) C dL_isBreach_16 (by decide) ?_
      refine z_iconst (v := 0) C dL_isBreach_22 (by decide) ?_
      exact z_iret C E dL_isBreach_23 (Or.inl ⟨hd, trivial, trivial, ⟨loc, _, Same.refl _ _, P.sJ f8, ⟨rfl, rfl, rfl, rfl, rfl⟩, hf8⟩, rfl⟩) (zb rfl) (zb rfl)
    · rw [if_neg c1]
      simp only [if_neg c1] at E
      refine z_if_eq (tgt := 14) C dL_isBreach_7 (by decide) (fun _ => ?_) (fun e9 => absurd e9 ((fun e => e rfl)))
      refine z_lconst (v := 0) C dL_isBreach_14 (by decide) ?_
      refine z_last C (P.J) (in01) dL_isBreach_15 ?_
      intro f8 _ hf8 e8; subst e8
      refine z_goto (tgt := 22) C dL_isBreach_16 (by decide) ?_
      refine z_iconst (v := 0) C dL_isBreach_22 (by decide) ?_
      exact z_iret C E dL_isBreach_23 (Or.inl ⟨hd, trivial, trivial, ⟨loc, _, Same.refl _ _, P.sJ f8, ⟨rfl, rfl, rfl, rfl, rfl⟩, hf8⟩, rfl⟩) (zb rfl) (zb rfl)
theorem l_breachesAt (hB : Base G) (P : PW G h loc σ ρ) (I : Inv σ) {d : Int32} : CtW G mL_breachesAt hhL_breachesAt 10 12 4300 [.ref (loc 0 0), .int d, .ref (loc 0 5)] h (lw G loc σ ρ (σ) (In d (tn σ 0)) (True) (True) (fun ρ' => rJ ρ' 0 = (nI (cnt (pTold σ d) (tn σ 2))).toInt64)) noX := by
  refine CtW.intro (m := 1) hB (by decide +kernel) (zb rfl) fun X C E => ?_
  refine z_aload_n C dL_breachesAt_0 rfl ?_
  refine z_iconst (v := 0) C dL_breachesAt_1 (by decide) ?_
  refine z_aload_n C dL_breachesAt_2 rfl ?_
  refine z_iload_n C dL_breachesAt_3 rfl ?_
  refine z_rc (z_runV C kvX8_breachesAt lkL_106 kcX8 (k_breachesAt hB P) (P.x) rfl rfl (zb rfl) (zb rfl) (zb rfl) (zb rfl) dL_breachesAt_4) (fun hc => ?_) (fun hd => ?_)
  · refine z_catch C E [] ⟨0, 9, 12, 37⟩ [] rfl (fun z hz => nomatch hz) (by decide) (by decide) clL_37 ct_IO (fun q => ?_)
    refine z_astore_n C dL_breachesAt_12 (zb rfl) ?_
    refine z_iconst (v := 1) C dL_breachesAt_13 (by decide) ?_
    exact z_iret C E dL_breachesAt_14 (Or.inr ⟨1, Or.inr (Or.inl ⟨hc, rfl⟩), by decide, P, rfl⟩) (zb rfl) (zb rfl)
  · refine z_i2l C dL_breachesAt_7 ?_
    refine z_last C (P.J) (in01) dL_breachesAt_8 ?_
    intro f8 _ hf8 e8; subst e8
    refine z_goto (tgt := 15) C dL_breachesAt_9 (by decide) ?_
    refine z_iconst (v := 0) C dL_breachesAt_15 (by decide) ?_
    exact z_iret C E dL_breachesAt_16 (Or.inl ⟨hd, trivial, trivial, ⟨loc, _, Same.refl _ _, P.sJ f8, ⟨rfl, rfl, rfl, rfl, rfl⟩, hf8⟩, rfl⟩) (zb rfl) (zb rfl)
theorem l_meanDelay (hB : Base G) (P : PW G h loc σ ρ) (I : Inv σ) : CtW G mL_meanDelay hhL_meanDelay 10 12 4300 [.ref (loc 0 0), .ref (loc 0 6)] h (lw G loc σ ρ (σ) (¬ cnt (pArr σ) (tn σ 2) = 0) (True) (True) (fun ρ' => rQ ρ' 0 = mean σ)) noX := by
  refine CtW.intro (m := 1) hB (by decide +kernel) (zb rfl) fun X C E => ?_
  refine z_aload_n C dL_meanDelay_0 rfl ?_
  refine z_iconst (v := 0) C dL_meanDelay_1 (by decide) ?_
  refine z_aload_n C dL_meanDelay_2 rfl ?_
  refine z_rc (z_runV C kvX8_meanDelay lkL_109 kcX8 (k_meanDelay hB P I) (P.x) rfl rfl (zb rfl) (zb rfl) (zb rfl) (zb rfl) dL_meanDelay_3) (fun hc => ?_) (fun hd => ?_)
  · refine z_catch C E [] ⟨0, 7, 10, 113⟩ [] rfl (fun z hz => nomatch hz) (by decide) (by decide) clL_113 ct_AR (fun q => ?_)
    refine z_astore_n C dL_meanDelay_10 (zb rfl) ?_
    refine z_iconst (v := 1) C dL_meanDelay_11 (by decide) ?_
    exact z_iret C E dL_meanDelay_12 (Or.inr ⟨1, Or.inr (Or.inl ⟨fun q => q hc, rfl⟩), by decide, P, rfl⟩) (zb rfl) (zb rfl)
  · refine z_dast C (P.Q) (in01) dL_meanDelay_6 ?_
    intro f8 _ hf8 e8; subst e8
    refine z_goto (tgt := 13) C dL_meanDelay_7 (by decide) ?_
    refine z_iconst (v := 0) C dL_meanDelay_13 (by decide) ?_
    exact z_iret C E dL_meanDelay_14 (Or.inl ⟨hd, trivial, trivial, ⟨loc, _, Same.refl _ _, P.sQ f8, ⟨rfl, rfl, rfl, rfl, rfl⟩, hf8 0⟩, rfl⟩) (zb rfl) (zb rfl)
theorem l_meanBits (hB : Base G) (P : PW G h loc σ ρ) (I : Inv σ) : CtW G mL_meanBits hhL_meanBits 10 12 4300 [.ref (loc 0 0), .ref (loc 0 5)] h (lw G loc σ ρ (σ) (¬ cnt (pArr σ) (tn σ 2) = 0) (True) (True) (fun ρ' => rJ ρ' 0 = (mean σ).toInt64)) noX := by
  refine CtW.intro (m := 1) hB (by decide +kernel) (zb rfl) fun X C E => ?_
  refine z_aload_n C dL_meanBits_0 rfl ?_
  refine z_iconst (v := 0) C dL_meanBits_1 (by decide) ?_
  refine z_aload_n C dL_meanBits_2 rfl ?_
  refine z_rc (z_runV C kvX8_meanBits lkL_115 kcX8 (k_meanBits hB P I) (P.x) rfl rfl (zb rfl) (zb rfl) (zb rfl) (zb rfl) dL_meanBits_3) (fun hc => ?_) (fun hd => ?_)
  · refine z_catch C E [] ⟨0, 7, 10, 113⟩ [] rfl (fun z hz => nomatch hz) (by decide) (by decide) clL_113 ct_AR (fun q => ?_)
    refine z_astore_n C dL_meanBits_10 (zb rfl) ?_
    refine z_iconst (v := 1) C dL_meanBits_11 (by decide) ?_
    exact z_iret C E dL_meanBits_12 (Or.inr ⟨1, Or.inr (Or.inl ⟨fun q => q hc, rfl⟩), by decide, P, rfl⟩) (zb rfl) (zb rfl)
  · refine z_last C (P.J) (in01) dL_meanBits_6 ?_
    intro f8 _ hf8 e8; subst e8
    refine z_goto (tgt := 13) C dL_meanBits_7 (by decide) ?_
    refine z_iconst (v := 0) C dL_meanBits_13 (by decide) ?_
    exact z_iret C E dL_meanBits_14 (Or.inl ⟨hd, trivial, trivial, ⟨loc, _, Same.refl _ _, P.sJ f8, ⟨rfl, rfl, rfl, rfl, rfl⟩, hf8⟩, rfl⟩) (zb rfl) (zb rfl)
theorem l_arrivedShare (hB : Base G) (P : PW G h loc σ ρ) (I : Inv σ) : CtW G mL_arrivedShare hhL_arrivedShare 10 12 4300 [.ref (loc 0 0), .ref (loc 0 6)] h (lw G loc σ ρ (σ) (¬ tn σ 2 = 0) (True) (True) (fun ρ' => rQ ρ' 0 = FP.f2d (share σ))) noX := by
  refine CtW.intro (m := 1) hB (by decide +kernel) (zb rfl) fun X C E => ?_
  refine z_aload_n C dL_arrivedShare_0 rfl ?_
  refine z_iconst (v := 0) C dL_arrivedShare_1 (by decide) ?_
  refine z_aload_n C dL_arrivedShare_2 rfl ?_
  refine z_rc (z_runV C kvX8_arrivedShare lkL_119 kcX8 (k_arrivedShare hB P I) (P.x) rfl rfl (zb rfl) (zb rfl) (zb rfl) (zb rfl) dL_arrivedShare_3) (fun hc => ?_) (fun hd => ?_)
  · refine z_catch C E [] ⟨0, 8, 11, 113⟩ [] rfl (fun z hz => nomatch hz) (by decide) (by decide) clL_113 ct_AR (fun q => ?_)
    refine z_astore_n C dL_arrivedShare_11 (zb rfl) ?_
    refine z_iconst (v := 1) C dL_arrivedShare_12 (by decide) ?_
    exact z_iret C E dL_arrivedShare_13 (Or.inr ⟨1, Or.inr (Or.inl ⟨fun q => q hc, rfl⟩), by decide, P, rfl⟩) (zb rfl) (zb rfl)
  · refine z_f2d C dL_arrivedShare_6 ((fp_share (cnt_le _ _) (by omega) I.N.2.2.1).2.1) ?_
    refine z_dast C (P.Q) (in01) dL_arrivedShare_7 ?_
    intro f8 _ hf8 e8; subst e8
    refine z_goto (tgt := 14) C dL_arrivedShare_8 (by decide) ?_
    refine z_iconst (v := 0) C dL_arrivedShare_14 (by decide) ?_
    exact z_iret C E dL_arrivedShare_15 (Or.inl ⟨hd, trivial, trivial, ⟨loc, _, Same.refl _ _, P.sQ f8, ⟨rfl, rfl, rfl, rfl, rfl⟩, hf8 0⟩, rfl⟩) (zb rfl) (zb rfl)
theorem l_versionByReplay (hB : Base G) (P : PW G h loc σ ρ) (I : Inv σ) {d : Int32} : CtW G mL_versionByReplay hhL_versionByReplay 10 12 4300 [.ref (loc 0 0), .int d, .ref (loc 0 5)] h (lw G loc σ ρ (σ) (In d (tn σ 0)) (True) (True) (fun ρ' => rJ ρ' 0 = (tT σ 7 (ix d)).toInt64)) noX := by
  refine CtW.intro (m := 1) hB (by decide +kernel) (zb rfl) fun X C E => ?_
  refine z_aload_n C dL_versionByReplay_0 rfl ?_
  refine z_iconst (v := 0) C dL_versionByReplay_1 (by decide) ?_
  refine z_aload_n C dL_versionByReplay_2 rfl ?_
  refine z_iload_n C dL_versionByReplay_3 rfl ?_
  refine z_run (z_runV C kvX8_versionByReplay lkL_71 kcX8 (k_versionByReplay hB P I) (P.x) rfl rfl (zb rfl) (zb rfl) (zb rfl) (zb rfl) dL_versionByReplay_4) (fun E9 h9 hx => ?_) (fun v9 h9 hv => ?_)
  · obtain ⟨hc, rfl, rfl⟩ := hx
    refine z_catch C E [] ⟨0, 9, 12, 37⟩ [] rfl (fun z hz => nomatch hz) (by decide) (by decide) clL_37 ct_IO (fun q => ?_)
    refine z_astore_n C dL_versionByReplay_12 (zb rfl) ?_
    refine z_iconst (v := 1) C dL_versionByReplay_13 (by decide) ?_
    exact z_iret C E dL_versionByReplay_14 (Or.inr ⟨1, Or.inr (Or.inl ⟨hc, rfl⟩), by decide, P, rfl⟩) (zb rfl) (zb rfl)
  · obtain ⟨hd, ⟨g, P⟩, rfl⟩ := hv
    refine z_i2l C dL_versionByReplay_7 ?_
    refine z_last C (P.J) (in01) dL_versionByReplay_8 ?_
    intro f8 _ hf8 e8; subst e8
    refine z_goto (tgt := 15) C dL_versionByReplay_9 (by decide) ?_
    refine z_iconst (v := 0) C dL_versionByReplay_15 (by decide) ?_
    exact z_iret C E dL_versionByReplay_16 (Or.inl ⟨hd, trivial, trivial, ⟨loc, _, Same.refl _ _, P.sJ f8, ⟨rfl, rfl, rfl, rfl, rfl⟩, hf8⟩, rfl⟩) (zb rfl) (zb rfl)
theorem l_fromIn (hB : Base G) (P : PW G h loc σ ρ) (I : Inv σ) {d k : Int32} : CtW G mL_fromIn hhL_fromIn 10 12 4300 [.ref (loc 0 0), .int d, .int k, .ref (loc 0 5)] h (lw G loc σ ρ (σ) (In d (tn σ 0)) (∃ c, lastc (tT σ 0) k (ix (tT σ 7 (ix d))) = some c) (True) (fun ρ' => rJ ρ' 0 = (tT σ 2 ((lastc (tT σ 0) k (ix (tT σ 7 (ix d)))).getD 0)).toInt64)) noX := by
  refine CtW.intro (m := 1) hB (by decide +kernel) (zb rfl) fun X C E => ?_
  refine z_aload_n C dL_fromIn_0 rfl ?_
  refine z_iconst (v := 0) C dL_fromIn_1 (by decide) ?_
  refine z_aload_n C dL_fromIn_2 rfl ?_
  refine z_iload_n C dL_fromIn_3 rfl ?_
  refine z_iload_n C dL_fromIn_4 rfl ?_
  refine z_run (z_runV C kvX8_fromIn lkL_77 kcX8 (k_fromIn hB P I) (P.x) rfl rfl (zb rfl) (zb rfl) (zb rfl) (zb rfl) dL_fromIn_5) (fun E9 h9 hx => ?_) (fun v9 h9 hv => ?_)
  · obtain ⟨rfl, ⟨hc, rfl⟩ | ⟨g1, hc, rfl⟩⟩ := hx
    · refine z_catch C E [] ⟨0, 10, 13, 37⟩ [⟨0, 10, 17, 20⟩] rfl (fun z hz => nomatch hz) (by decide) (by decide) clL_37 ct_IO (fun q => ?_)
      refine z_astore C dL_fromIn_13 (zb rfl) ?_
      refine z_iconst (v := 1) C dL_fromIn_15 (by decide) ?_
      exact z_iret C E dL_fromIn_16 (Or.inr ⟨1, Or.inr (Or.inl ⟨hc, rfl⟩), by decide, P, rfl⟩) (zb rfl) (zb rfl)
    · refine z_catch C E [⟨0, 10, 13, 37⟩] ⟨0, 10, 17, 20⟩ [] rfl (List.forall_mem_cons.mpr ⟨⟨by decide, _, clL_37, np_NS_IO⟩, fun z hz => nomatch hz⟩) (by decide) (by decide) clL_20 ct_NS (fun q => ?_)
      refine z_astore C dL_fromIn_17 (zb rfl) ?_
      refine z_iconst (v := 2) C dL_fromIn_19 (by decide) ?_
      exact z_iret C E dL_fromIn_20 (Or.inr ⟨2, Or.inr (Or.inr (Or.inl ⟨g1, (fun ⟨c, q⟩ => by rw [hc] at q; cases q), rfl⟩)), by decide, P, rfl⟩) (zb rfl) (zb rfl)
  · obtain ⟨hd, rfl, c, hc, rfl⟩ := hv
    have ev : tT σ 2 ((lastc (tT σ 0) k (ix (tT σ 7 (ix d)))).getD 0) = tT σ 2 c := by rw [hc]; rfl
    refine z_i2l C dL_fromIn_8 ?_
    refine z_last C (P.J) (in01) dL_fromIn_9 ?_
    intro f8 _ hf8 e8; subst e8
    refine z_goto (tgt := 21) C dL_fromIn_10 (by decide) ?_
    refine z_iconst (v := 0) C dL_fromIn_21 (by decide) ?_
    exact z_iret C E dL_fromIn_22 (Or.inl ⟨hd, ⟨c, hc⟩, trivial, ⟨loc, _, Same.refl _ _, P.sJ f8, ⟨rfl, rfl, rfl, rfl, rfl⟩, by rw [ev]; exact hf8⟩, rfl⟩) (zb rfl) (zb rfl)
theorem l_addKey (hB : Base G) (P : PW G h loc σ ρ) (I : Inv σ) {d f t : Int32} : CtW G mL_addKey hhL_addKey 10 12 4300 [.ref (loc 0 0), .int d, .int f, .int t, .ref (loc 0 5)] h (lw G loc σ ρ (sAddKey σ d f t) (cKey d f t) (cRoom σ) (True) (fun ρ' => rJ ρ' 0 = (tT σ 22 1).toInt64)) noX := by
  refine CtW.intro (m := 1) hB (by decide +kernel) (zb rfl) fun X C E => ?_
  refine z_aload C dL_addKey_0 rfl ?_
  refine z_iconst (v := 0) C dL_addKey_2 (by decide) ?_
  refine z_aload_n C dL_addKey_3 rfl ?_
  refine z_iload_n C dL_addKey_4 rfl ?_
  refine z_iload_n C dL_addKey_5 rfl ?_
  refine z_iload_n C dL_addKey_6 rfl ?_
  refine z_run (z_runV C kvX8_addKey lkL_7 kcX8 (k_addKey hB P) (P.x) rfl rfl (zb rfl) (zb rfl) (zb rfl) (zb rfl) dL_addKey_7) (fun E9 h9 hx => ?_) (fun v9 h9 hv => ?_)
  · obtain ⟨rfl, ⟨hc, rfl⟩ | ⟨g1, hc, rfl⟩ | ⟨g1, g2, hc, rfl⟩⟩ := hx
    · refine z_catch C E [] ⟨0, 12, 15, 13⟩ [⟨0, 12, 19, 15⟩] rfl (fun z hz => nomatch hz) (by decide) (by decide) clL_13 ct_IA (fun q => ?_)
      refine z_astore C dL_addKey_15 (zb rfl) ?_
      refine z_iconst (v := 1) C dL_addKey_17 (by decide) ?_
      exact z_iret C E dL_addKey_18 (Or.inr ⟨1, Or.inr (Or.inl ⟨hc, rfl⟩), by decide, P, rfl⟩) (zb rfl) (zb rfl)
    · refine z_catch C E [⟨0, 12, 15, 13⟩] ⟨0, 12, 19, 15⟩ [] rfl (List.forall_mem_cons.mpr ⟨⟨by decide, _, clL_13, np_IS_IA⟩, fun z hz => nomatch hz⟩) (by decide) (by decide) clL_15 ct_IS (fun q => ?_)
      refine z_astore C dL_addKey_19 (zb rfl) ?_
      refine z_iconst (v := 2) C dL_addKey_21 (by decide) ?_
      exact z_iret C E dL_addKey_22 (Or.inr ⟨2, Or.inr (Or.inr (Or.inl ⟨g1, hc, rfl⟩)), by decide, P, rfl⟩) (zb rfl) (zb rfl)
    · exact absurd trivial hc
  · obtain ⟨c1, c2, c3, ⟨loc', hs, P'⟩, rfl⟩ := hv
    refine z_i2l C dL_addKey_10 ?_
    refine z_last C (P'.J9 hs) (in01) dL_addKey_11 ?_
    intro f8 _ hf8 e8; subst e8
    refine z_goto (tgt := 23) C dL_addKey_12 (by decide) ?_
    refine z_iconst (v := 0) C dL_addKey_23 (by decide) ?_
    exact z_iret C E dL_addKey_24 (Or.inl ⟨c1, c2, c3, ⟨loc', _, hs, P'.sJ9 hs f8, ⟨rfl, rfl, rfl, rfl, rfl⟩, hf8⟩, rfl⟩) (zb rfl) (zb rfl)
theorem l_setTimes (hB : Base G) (P : PW G h loc σ ρ) (I : Inv σ) {k f t : Int32} : CtW G mL_setTimes hhL_setTimes 10 12 4300 [.ref (loc 0 0), .int k, .int f, .int t, .ref (loc 0 5)] h (lw G loc σ ρ (sPush σ k (tT σ 1 (kS σ k)) f t 0) (hasK σ k) (okTimes f t) (cNR σ k) (fun ρ' => rJ ρ' 0 = (nI (tn σ 3 + 1)).toInt64)) noX := by
  refine CtW.intro (m := 1) hB (by decide +kernel) (zb rfl) fun X C E => ?_
  refine z_aload C dL_setTimes_0 rfl ?_
  refine z_iconst (v := 0) C dL_setTimes_2 (by decide) ?_
  refine z_aload_n C dL_setTimes_3 rfl ?_
  refine z_iload_n C dL_setTimes_4 rfl ?_
  refine z_iload_n C dL_setTimes_5 rfl ?_
  refine z_iload_n C dL_setTimes_6 rfl ?_
  refine z_run (z_runV C kvX8_setTimes lkL_17 kcX8 (k_setTimes hB P) (P.x) rfl rfl (zb rfl) (zb rfl) (zb rfl) (zb rfl) dL_setTimes_7) (fun E9 h9 hx => ?_) (fun v9 h9 hv => ?_)
  · obtain ⟨rfl, ⟨hc, rfl⟩ | ⟨g1, hc, rfl⟩ | ⟨g1, g2, hc, rfl⟩⟩ := hx
    · refine z_catch C E [] ⟨0, 12, 15, 20⟩ [⟨0, 12, 19, 13⟩, ⟨0, 12, 23, 15⟩] rfl (fun z hz => nomatch hz) (by decide) (by decide) clL_20 ct_NS (fun q => ?_)
      refine z_astore C dL_setTimes_15 (zb rfl) ?_
      refine z_iconst (v := 1) C dL_setTimes_17 (by decide) ?_
      exact z_iret C E dL_setTimes_18 (Or.inr ⟨1, Or.inr (Or.inl ⟨hc, rfl⟩), by decide, P, rfl⟩) (zb rfl) (zb rfl)
    · refine z_catch C E [⟨0, 12, 15, 20⟩] ⟨0, 12, 19, 13⟩ [⟨0, 12, 23, 15⟩] rfl (List.forall_mem_cons.mpr ⟨⟨by decide, _, clL_20, np_IA_NS⟩, fun z hz => nomatch hz⟩) (by decide) (by decide) clL_13 ct_IA (fun q => ?_)
      refine z_astore C dL_setTimes_19 (zb rfl) ?_
      refine z_iconst (v := 2) C dL_setTimes_21 (by decide) ?_
      exact z_iret C E dL_setTimes_22 (Or.inr ⟨2, Or.inr (Or.inr (Or.inl ⟨g1, hc, rfl⟩)), by decide, P, rfl⟩) (zb rfl) (zb rfl)
    · refine z_catch C E [⟨0, 12, 15, 20⟩, ⟨0, 12, 19, 13⟩] ⟨0, 12, 23, 15⟩ [] rfl (List.forall_mem_cons.mpr ⟨⟨by decide, _, clL_20, np_IS_NS⟩, List.forall_mem_cons.mpr ⟨⟨by decide, _, clL_13, np_IS_IA⟩, fun z hz => nomatch hz⟩⟩) (by decide) (by decide) clL_15 ct_IS (fun q => ?_)
      refine z_astore C dL_setTimes_23 (zb rfl) ?_
      refine z_iconst (v := 3) C dL_setTimes_25 (by decide) ?_
      exact z_iret C E dL_setTimes_26 (Or.inr ⟨3, Or.inr (Or.inr (Or.inr ⟨g1, g2, hc, rfl⟩)), by decide, P, rfl⟩) (zb rfl) (zb rfl)
  · obtain ⟨c1, c2, c3, ⟨loc', hs, P'⟩, rfl⟩ := hv
    refine z_i2l C dL_setTimes_10 ?_
    refine z_last C (P'.J9 hs) (in01) dL_setTimes_11 ?_
    intro f8 _ hf8 e8; subst e8
    refine z_goto (tgt := 27) C dL_setTimes_12 (by decide) ?_
    refine z_iconst (v := 0) C dL_setTimes_27 (by decide) ?_
    exact z_iret C E dL_setTimes_28 (Or.inl ⟨c1, c2, c3, ⟨loc', _, hs, P'.sJ9 hs f8, ⟨rfl, rfl, rfl, rfl, rfl⟩, hf8⟩, rfl⟩) (zb rfl) (zb rfl)
theorem l_setDoors (hB : Base G) (P : PW G h loc σ ρ) (I : Inv σ) {k d : Int32} : CtW G mL_setDoors hhL_setDoors 10 12 4300 [.ref (loc 0 0), .int k, .int d, .ref (loc 0 5)] h (lw G loc σ ρ (sPush σ k d (tT σ 2 (kS σ k)) (tT σ 3 (kS σ k)) 0) (hasK σ k) (okSet d) (cNR σ k) (fun ρ' => rJ ρ' 0 = (nI (tn σ 3 + 1)).toInt64)) noX := by
  refine CtW.intro (m := 1) hB (by decide +kernel) (zb rfl) fun X C E => ?_
  refine z_aload_n C dL_setDoors_0 rfl ?_
  refine z_iconst (v := 0) C dL_setDoors_1 (by decide) ?_
  refine z_aload_n C dL_setDoors_2 rfl ?_
  refine z_iload_n C dL_setDoors_3 rfl ?_
  refine z_iload_n C dL_setDoors_4 rfl ?_
  refine z_run (z_runV C kvX8_setDoors lkL_22 kcX8 (k_setDoors hB P) (P.x) rfl rfl (zb rfl) (zb rfl) (zb rfl) (zb rfl) dL_setDoors_5) (fun E9 h9 hx => ?_) (fun v9 h9 hv => ?_)
  · obtain ⟨rfl, ⟨hc, rfl⟩ | ⟨g1, hc, rfl⟩ | ⟨g1, g2, hc, rfl⟩⟩ := hx
    · refine z_catch C E [] ⟨0, 10, 13, 20⟩ [⟨0, 10, 17, 13⟩, ⟨0, 10, 21, 15⟩] rfl (fun z hz => nomatch hz) (by decide) (by decide) clL_20 ct_NS (fun q => ?_)
      refine z_astore C dL_setDoors_13 (zb rfl) ?_
      refine z_iconst (v := 1) C dL_setDoors_15 (by decide) ?_
      exact z_iret C E dL_setDoors_16 (Or.inr ⟨1, Or.inr (Or.inl ⟨hc, rfl⟩), by decide, P, rfl⟩) (zb rfl) (zb rfl)
    · refine z_catch C E [⟨0, 10, 13, 20⟩] ⟨0, 10, 17, 13⟩ [⟨0, 10, 21, 15⟩] rfl (List.forall_mem_cons.mpr ⟨⟨by decide, _, clL_20, np_IA_NS⟩, fun z hz => nomatch hz⟩) (by decide) (by decide) clL_13 ct_IA (fun q => ?_)
      refine z_astore C dL_setDoors_17 (zb rfl) ?_
      refine z_iconst (v := 2) C dL_setDoors_19 (by decide) ?_
      exact z_iret C E dL_setDoors_20 (Or.inr ⟨2, Or.inr (Or.inr (Or.inl ⟨g1, hc, rfl⟩)), by decide, P, rfl⟩) (zb rfl) (zb rfl)
    · refine z_catch C E [⟨0, 10, 13, 20⟩, ⟨0, 10, 17, 13⟩] ⟨0, 10, 21, 15⟩ [] rfl (List.forall_mem_cons.mpr ⟨⟨by decide, _, clL_20, np_IS_NS⟩, List.forall_mem_cons.mpr ⟨⟨by decide, _, clL_13, np_IS_IA⟩, fun z hz => nomatch hz⟩⟩) (by decide) (by decide) clL_15 ct_IS (fun q => ?_)
      refine z_astore C dL_setDoors_21 (zb rfl) ?_
      refine z_iconst (v := 3) C dL_setDoors_23 (by decide) ?_
      exact z_iret C E dL_setDoors_24 (Or.inr ⟨3, Or.inr (Or.inr (Or.inr ⟨g1, g2, hc, rfl⟩)), by decide, P, rfl⟩) (zb rfl) (zb rfl)
  · obtain ⟨c1, c2, c3, ⟨loc', hs, P'⟩, rfl⟩ := hv
    refine z_i2l C dL_setDoors_8 ?_
    refine z_last C (P'.J9 hs) (in01) dL_setDoors_9 ?_
    intro f8 _ hf8 e8; subst e8
    refine z_goto (tgt := 25) C dL_setDoors_10 (by decide) ?_
    refine z_iconst (v := 0) C dL_setDoors_25 (by decide) ?_
    exact z_iret C E dL_setDoors_26 (Or.inl ⟨c1, c2, c3, ⟨loc', _, hs, P'.sJ9 hs f8, ⟨rfl, rfl, rfl, rfl, rfl⟩, hf8⟩, rfl⟩) (zb rfl) (zb rfl)
theorem l_revoke (hB : Base G) (P : PW G h loc σ ρ) (I : Inv σ) {k : Int32} : CtW G mL_revoke hhL_revoke 10 12 4300 [.ref (loc 0 0), .int k, .ref (loc 0 5)] h (lw G loc σ ρ (sPush σ k (tT σ 1 (kS σ k)) (tT σ 2 (kS σ k)) (tT σ 3 (kS σ k)) 1) (hasK σ k) (cNR σ k) (True) (fun ρ' => rJ ρ' 0 = (nI (tn σ 3 + 1)).toInt64)) noX := by
  refine CtW.intro (m := 1) hB (by decide +kernel) (zb rfl) fun X C E => ?_
  refine z_aload_n C dL_revoke_0 rfl ?_
  refine z_iconst (v := 0) C dL_revoke_1 (by decide) ?_
  refine z_aload_n C dL_revoke_2 rfl ?_
  refine z_iload_n C dL_revoke_3 rfl ?_
  refine z_run (z_runV C kvX8_revoke lkL_26 kcX8 (k_revoke hB P) (P.x) rfl rfl (zb rfl) (zb rfl) (zb rfl) (zb rfl) dL_revoke_4) (fun E9 h9 hx => ?_) (fun v9 h9 hv => ?_)
  · obtain ⟨rfl, ⟨hc, rfl⟩ | ⟨g1, hc, rfl⟩ | ⟨g1, g2, hc, rfl⟩⟩ := hx
    · refine z_catch C E [] ⟨0, 9, 12, 20⟩ [⟨0, 9, 15, 15⟩] rfl (fun z hz => nomatch hz) (by decide) (by decide) clL_20 ct_NS (fun q => ?_)
      refine z_astore_n C dL_revoke_12 (zb rfl) ?_
      refine z_iconst (v := 1) C dL_revoke_13 (by decide) ?_
      exact z_iret C E dL_revoke_14 (Or.inr ⟨1, Or.inr (Or.inl ⟨hc, rfl⟩), by decide, P, rfl⟩) (zb rfl) (zb rfl)
    · refine z_catch C E [⟨0, 9, 12, 20⟩] ⟨0, 9, 15, 15⟩ [] rfl (List.forall_mem_cons.mpr ⟨⟨by decide, _, clL_20, np_IS_NS⟩, fun z hz => nomatch hz⟩) (by decide) (by decide) clL_15 ct_IS (fun q => ?_)
      refine z_astore_n C dL_revoke_15 (zb rfl) ?_
      refine z_iconst (v := 2) C dL_revoke_16 (by decide) ?_
      exact z_iret C E dL_revoke_17 (Or.inr ⟨2, Or.inr (Or.inr (Or.inl ⟨g1, hc, rfl⟩)), by decide, P, rfl⟩) (zb rfl) (zb rfl)
    · exact absurd trivial hc
  · obtain ⟨c1, c2, c3, ⟨loc', hs, P'⟩, rfl⟩ := hv
    refine z_i2l C dL_revoke_7 ?_
    refine z_last C (P'.J9 hs) (in01) dL_revoke_8 ?_
    intro f8 _ hf8 e8; subst e8
    refine z_goto (tgt := 18) C dL_revoke_9 (by decide) ?_
    refine z_iconst (v := 0) C dL_revoke_18 (by decide) ?_
    exact z_iret C E dL_revoke_19 (Or.inl ⟨c1, c2, c3, ⟨loc', _, hs, P'.sJ9 hs f8, ⟨rfl, rfl, rfl, rfl, rfl⟩, hf8⟩, rfl⟩) (zb rfl) (zb rfl)
theorem l_addDoor (hB : Base G) (P : PW G h loc σ ρ) (I : Inv σ) : CtW G mL_addDoor hhL_addDoor 10 12 4300 [.ref (loc 0 0), .ref (loc 0 5)] h (lw G loc σ ρ (sAddDoor σ) (tn σ 0 < 5) (True) (True) (fun ρ' => rJ ρ' 0 = (nI (tn σ 0)).toInt64)) noX := by
  refine CtW.intro (m := 1) hB (by decide +kernel) (zb rfl) fun X C E => ?_
  refine z_aload_n C dL_addDoor_0 rfl ?_
  refine z_iconst (v := 0) C dL_addDoor_1 (by decide) ?_
  refine z_aload_n C dL_addDoor_2 rfl ?_
  refine z_run (z_runV C kvX8_addDoor lkL_30 kcX8 (k_addDoor hB P) (P.x) rfl rfl (zb rfl) (zb rfl) (zb rfl) (zb rfl) dL_addDoor_3) (fun E9 h9 hx => ?_) (fun v9 h9 hv => ?_)
  · obtain ⟨rfl, ⟨hc, rfl⟩ | ⟨g1, hc, rfl⟩ | ⟨g1, g2, hc, rfl⟩⟩ := hx
    · refine z_catch C E [] ⟨0, 8, 11, 15⟩ [] rfl (fun z hz => nomatch hz) (by decide) (by decide) clL_15 ct_IS (fun q => ?_)
      refine z_astore_n C dL_addDoor_11 (zb rfl) ?_
      refine z_iconst (v := 1) C dL_addDoor_12 (by decide) ?_
      exact z_iret C E dL_addDoor_13 (Or.inr ⟨1, Or.inr (Or.inl ⟨hc, rfl⟩), by decide, P, rfl⟩) (zb rfl) (zb rfl)
    · exact absurd trivial hc
    · exact absurd trivial hc
  · obtain ⟨c1, c2, c3, ⟨loc', hs, P'⟩, rfl⟩ := hv
    refine z_i2l C dL_addDoor_6 ?_
    refine z_last C (P'.J9 hs) (in01) dL_addDoor_7 ?_
    intro f8 _ hf8 e8; subst e8
    refine z_goto (tgt := 14) C dL_addDoor_8 (by decide) ?_
    refine z_iconst (v := 0) C dL_addDoor_14 (by decide) ?_
    exact z_iret C E dL_addDoor_15 (Or.inl ⟨c1, c2, c3, ⟨loc', _, hs, P'.sJ9 hs f8, ⟨rfl, rfl, rfl, rfl, rfl⟩, hf8⟩, rfl⟩) (zb rfl) (zb rfl)
theorem l_setRate (hB : Base G) (P : PW G h loc σ ρ) (I : Inv σ) {d th : Int32} : CtW G mL_setRate hhL_setRate 10 12 4300 [.ref (loc 0 0), .int d, .int th, .ref (loc 0 5)] h (lw G loc σ ρ (sSetRate σ (ix d) th) (In d (tn σ 0)) (cTh th) (True) (fun ρ' => rJ ρ' 0 = (clk σ (ix d)).toInt64)) noX := by
  refine CtW.intro (m := 1) hB (by decide +kernel) (zb rfl) fun X C E => ?_
  refine z_aload_n C dL_setRate_0 rfl ?_
  refine z_iconst (v := 0) C dL_setRate_1 (by decide) ?_
  refine z_aload_n C dL_setRate_2 rfl ?_
  refine z_iload_n C dL_setRate_3 rfl ?_
  refine z_iload_n C dL_setRate_4 rfl ?_
  refine z_run (z_runV C kvX8_setRate lkL_34 kcX8 (k_setRate hB P I) (P.x) rfl rfl (zb rfl) (zb rfl) (zb rfl) (zb rfl) dL_setRate_5) (fun E9 h9 hx => ?_) (fun v9 h9 hv => ?_)
  · obtain ⟨rfl, ⟨hc, rfl⟩ | ⟨g1, hc, rfl⟩ | ⟨g1, g2, hc, rfl⟩⟩ := hx
    · refine z_catch C E [] ⟨0, 10, 13, 37⟩ [⟨0, 10, 17, 13⟩] rfl (fun z hz => nomatch hz) (by decide) (by decide) clL_37 ct_IO (fun q => ?_)
      refine z_astore C dL_setRate_13 (zb rfl) ?_
      refine z_iconst (v := 1) C dL_setRate_15 (by decide) ?_
      exact z_iret C E dL_setRate_16 (Or.inr ⟨1, Or.inr (Or.inl ⟨hc, rfl⟩), by decide, P, rfl⟩) (zb rfl) (zb rfl)
    · refine z_catch C E [⟨0, 10, 13, 37⟩] ⟨0, 10, 17, 13⟩ [] rfl (List.forall_mem_cons.mpr ⟨⟨by decide, _, clL_37, np_IA_IO⟩, fun z hz => nomatch hz⟩) (by decide) (by decide) clL_13 ct_IA (fun q => ?_)
      refine z_astore C dL_setRate_17 (zb rfl) ?_
      refine z_iconst (v := 2) C dL_setRate_19 (by decide) ?_
      exact z_iret C E dL_setRate_20 (Or.inr ⟨2, Or.inr (Or.inr (Or.inl ⟨g1, hc, rfl⟩)), by decide, P, rfl⟩) (zb rfl) (zb rfl)
    · exact absurd trivial hc
  · obtain ⟨c1, c2, c3, ⟨loc', hs, P'⟩, rfl⟩ := hv
    refine z_i2l C dL_setRate_8 ?_
    refine z_last C (P'.J9 hs) (in01) dL_setRate_9 ?_
    intro f8 _ hf8 e8; subst e8
    refine z_goto (tgt := 21) C dL_setRate_10 (by decide) ?_
    refine z_iconst (v := 0) C dL_setRate_21 (by decide) ?_
    exact z_iret C E dL_setRate_22 (Or.inl ⟨c1, c2, c3, ⟨loc', _, hs, P'.sJ9 hs f8, ⟨rfl, rfl, rfl, rfl, rfl⟩, hf8⟩, rfl⟩) (zb rfl) (zb rfl)
theorem l_addPhone (hB : Base G) (P : PW G h loc σ ρ) (I : Inv σ) : CtW G mL_addPhone hhL_addPhone 10 12 4300 [.ref (loc 0 0), .ref (loc 0 5)] h (lw G loc σ ρ (sAddPhone σ) (tn σ 1 < 3) (True) (True) (fun ρ' => rJ ρ' 0 = (nI (tn σ 1)).toInt64)) noX := by
  refine CtW.intro (m := 1) hB (by decide +kernel) (zb rfl) fun X C E => ?_
  refine z_aload_n C dL_addPhone_0 rfl ?_
  refine z_iconst (v := 0) C dL_addPhone_1 (by decide) ?_
  refine z_aload_n C dL_addPhone_2 rfl ?_
  refine z_run (z_runV C kvX8_addPhone lkL_39 kcX8 (k_addPhone hB P I.P) (P.x) rfl rfl (zb rfl) (zb rfl) (zb rfl) (zb rfl) dL_addPhone_3) (fun E9 h9 hx => ?_) (fun v9 h9 hv => ?_)
  · obtain ⟨rfl, ⟨hc, rfl⟩ | ⟨g1, hc, rfl⟩ | ⟨g1, g2, hc, rfl⟩⟩ := hx
    · refine z_catch C E [] ⟨0, 8, 11, 15⟩ [] rfl (fun z hz => nomatch hz) (by decide) (by decide) clL_15 ct_IS (fun q => ?_)
      refine z_astore_n C dL_addPhone_11 (zb rfl) ?_
      refine z_iconst (v := 1) C dL_addPhone_12 (by decide) ?_
      exact z_iret C E dL_addPhone_13 (Or.inr ⟨1, Or.inr (Or.inl ⟨hc, rfl⟩), by decide, P, rfl⟩) (zb rfl) (zb rfl)
    · exact absurd trivial hc
    · exact absurd trivial hc
  · obtain ⟨c1, c2, c3, ⟨loc', hs, P'⟩, rfl⟩ := hv
    refine z_i2l C dL_addPhone_6 ?_
    refine z_last C (P'.J9 hs) (in01) dL_addPhone_7 ?_
    intro f8 _ hf8 e8; subst e8
    refine z_goto (tgt := 14) C dL_addPhone_8 (by decide) ?_
    refine z_iconst (v := 0) C dL_addPhone_14 (by decide) ?_
    exact z_iret C E dL_addPhone_15 (Or.inl ⟨c1, c2, c3, ⟨loc', _, hs, P'.sJ9 hs f8, ⟨rfl, rfl, rfl, rfl, rfl⟩, hf8⟩, rfl⟩) (zb rfl) (zb rfl)
theorem l_pass (hB : Base G) (P : PW G h loc σ ρ) (I : Inv σ) {m : Int32} : CtW G mL_pass hhL_pass 10 12 4300 [.ref (loc 0 0), .int m, .ref (loc 0 5)] h (lw G loc σ ρ (sPass σ m) (cPass σ m) (True) (True) (fun ρ' => rJ ρ' 0 = (now σ + m).toInt64)) noX := by
  refine CtW.intro (m := 1) hB (by decide +kernel) (zb rfl) fun X C E => ?_
  refine z_aload_n C dL_pass_0 rfl ?_
  refine z_iconst (v := 0) C dL_pass_1 (by decide) ?_
  refine z_aload_n C dL_pass_2 rfl ?_
  refine z_iload_n C dL_pass_3 rfl ?_
  refine z_run (z_runV C kvX8_pass lkL_42 kcX8 (k_pass hB P) (P.x) rfl rfl (zb rfl) (zb rfl) (zb rfl) (zb rfl) dL_pass_4) (fun E9 h9 hx => ?_) (fun v9 h9 hv => ?_)
  · obtain ⟨rfl, ⟨hc, rfl⟩ | ⟨g1, hc, rfl⟩ | ⟨g1, g2, hc, rfl⟩⟩ := hx
    · refine z_catch C E [] ⟨0, 9, 12, 13⟩ [] rfl (fun z hz => nomatch hz) (by decide) (by decide) clL_13 ct_IA (fun q => ?_)
      refine z_astore_n C dL_pass_12 (zb rfl) ?_
      refine z_iconst (v := 1) C dL_pass_13 (by decide) ?_
      exact z_iret C E dL_pass_14 (Or.inr ⟨1, Or.inr (Or.inl ⟨hc, rfl⟩), by decide, P, rfl⟩) (zb rfl) (zb rfl)
    · exact absurd trivial hc
    · exact absurd trivial hc
  · obtain ⟨c1, c2, c3, ⟨loc', hs, P'⟩, rfl⟩ := hv
    refine z_i2l C dL_pass_7 ?_
    refine z_last C (P'.J9 hs) (in01) dL_pass_8 ?_
    intro f8 _ hf8 e8; subst e8
    refine z_goto (tgt := 15) C dL_pass_9 (by decide) ?_
    refine z_iconst (v := 0) C dL_pass_15 (by decide) ?_
    exact z_iret C E dL_pass_16 (Or.inl ⟨c1, c2, c3, ⟨loc', _, hs, P'.sJ9 hs f8, ⟨rfl, rfl, rfl, rfl, rfl⟩, hf8⟩, rfl⟩) (zb rfl) (zb rfl)
theorem l_meetCloud (hB : Base G) (P : PW G h loc σ ρ) (I : Inv σ) (hm : tn σ 4 < 512) {p : Int32} : CtW G mL_meetCloud hhL_meetCloud 10 12 4300 [.ref (loc 0 0), .int p, .ref (loc 0 5)] h (lw G loc σ ρ (sMeetCloud σ p) (In p (tn σ 1)) (True) (True) (fun ρ' => rJ ρ' 0 = (nI (cnt (pCarr σ p) (tn σ 2))).toInt64)) noX := by
  refine CtW.intro (m := 1) hB (by decide +kernel) (zb rfl) fun X C E => ?_
  refine z_aload_n C dL_meetCloud_0 rfl ?_
  refine z_iconst (v := 0) C dL_meetCloud_1 (by decide) ?_
  refine z_aload_n C dL_meetCloud_2 rfl ?_
  refine z_iload_n C dL_meetCloud_3 rfl ?_
  refine z_run (z_runV C kvX8_meetCloud lkL_45 kcX8 (k_meetCloud hB P hm) (P.x) rfl rfl (zb rfl) (zb rfl) (zb rfl) (zb rfl) dL_meetCloud_4) (fun E9 h9 hx => ?_) (fun v9 h9 hv => ?_)
  · obtain ⟨rfl, ⟨hc, rfl⟩ | ⟨g1, hc, rfl⟩ | ⟨g1, g2, hc, rfl⟩⟩ := hx
    · refine z_catch C E [] ⟨0, 9, 12, 37⟩ [] rfl (fun z hz => nomatch hz) (by decide) (by decide) clL_37 ct_IO (fun q => ?_)
      refine z_astore_n C dL_meetCloud_12 (zb rfl) ?_
      refine z_iconst (v := 1) C dL_meetCloud_13 (by decide) ?_
      exact z_iret C E dL_meetCloud_14 (Or.inr ⟨1, Or.inr (Or.inl ⟨hc, rfl⟩), by decide, P, rfl⟩) (zb rfl) (zb rfl)
    · exact absurd trivial hc
    · exact absurd trivial hc
  · obtain ⟨c1, c2, c3, ⟨loc', hs, P'⟩, rfl⟩ := hv
    refine z_i2l C dL_meetCloud_7 ?_
    refine z_last C (P'.J9 hs) (in01) dL_meetCloud_8 ?_
    intro f8 _ hf8 e8; subst e8
    refine z_goto (tgt := 15) C dL_meetCloud_9 (by decide) ?_
    refine z_iconst (v := 0) C dL_meetCloud_15 (by decide) ?_
    exact z_iret C E dL_meetCloud_16 (Or.inl ⟨c1, c2, c3, ⟨loc', _, hs, P'.sJ9 hs f8, ⟨rfl, rfl, rfl, rfl, rfl⟩, hf8⟩, rfl⟩) (zb rfl) (zb rfl)
theorem l_meetDoor (hB : Base G) (P : PW G h loc σ ρ) (I : Inv σ) (hm : tn σ 4 < 512) {p d : Int32} : CtW G mL_meetDoor hhL_meetDoor 10 12 4300 [.ref (loc 0 0), .int p, .int d, .ref (loc 0 5)] h (lw G loc σ ρ (sMeetDoor σ p d) (In p (tn σ 1) ∧ In d (tn σ 0)) (True) (True) (fun ρ' => rJ ρ' 0 = (nI (cnt (pWait σ d) (tn σ 2))).toInt64)) noX := by
  refine CtW.intro (m := 1) hB (by decide +kernel) (zb rfl) fun X C E => ?_
  refine z_aload_n C dL_meetDoor_0 rfl ?_
  refine z_iconst (v := 0) C dL_meetDoor_1 (by decide) ?_
  refine z_aload_n C dL_meetDoor_2 rfl ?_
  refine z_iload_n C dL_meetDoor_3 rfl ?_
  refine z_iload_n C dL_meetDoor_4 rfl ?_
  refine z_run (z_runV C kvX8_meetDoor lkL_48 kcX8 (k_meetDoor hB P hm) (P.x) rfl rfl (zb rfl) (zb rfl) (zb rfl) (zb rfl) dL_meetDoor_5) (fun E9 h9 hx => ?_) (fun v9 h9 hv => ?_)
  · obtain ⟨rfl, ⟨hc, rfl⟩ | ⟨g1, hc, rfl⟩ | ⟨g1, g2, hc, rfl⟩⟩ := hx
    · refine z_catch C E [] ⟨0, 10, 13, 37⟩ [] rfl (fun z hz => nomatch hz) (by decide) (by decide) clL_37 ct_IO (fun q => ?_)
      refine z_astore C dL_meetDoor_13 (zb rfl) ?_
      refine z_iconst (v := 1) C dL_meetDoor_15 (by decide) ?_
      exact z_iret C E dL_meetDoor_16 (Or.inr ⟨1, Or.inr (Or.inl ⟨hc, rfl⟩), by decide, P, rfl⟩) (zb rfl) (zb rfl)
    · exact absurd trivial hc
    · exact absurd trivial hc
  · obtain ⟨c1, c2, c3, ⟨loc', hs, P'⟩, rfl⟩ := hv
    refine z_i2l C dL_meetDoor_8 ?_
    refine z_last C (P'.J9 hs) (in01) dL_meetDoor_9 ?_
    intro f8 _ hf8 e8; subst e8
    refine z_goto (tgt := 17) C dL_meetDoor_10 (by decide) ?_
    refine z_iconst (v := 0) C dL_meetDoor_17 (by decide) ?_
    exact z_iret C E dL_meetDoor_18 (Or.inl ⟨c1, c2, c3, ⟨loc', _, hs, P'.sJ9 hs f8, ⟨rfl, rfl, rfl, rfl, rfl⟩, hf8⟩, rfl⟩) (zb rfl) (zb rfl)
theorem l_open (hB : Base G) (P : PW G h loc σ ρ) (I : Inv σ) {d k : Int32} : CtW G mL_open hhL_open 10 12 4300 [.ref (loc 0 0), .int d, .int k, .ref (loc 0 5)] h (lw G loc σ ρ (sOpen σ d k (clk σ (ix d)) (letter σ (ix (tT σ 7 (ix d))) k d (clk σ (ix d))) (tT σ 7 (ix d))) (In d (tn σ 0)) (hasK σ k) (tn σ 2 < 60) (fun ρ' => rJ ρ' 0 = (letter σ (ix (tT σ 7 (ix d))) k d (clk σ (ix d))).toInt64)) noX := by
  refine CtW.intro (m := 1) hB (by decide +kernel) (zb rfl) fun X C E => ?_
  refine z_aload_n C dL_open_0 rfl ?_
  refine z_iconst (v := 0) C dL_open_1 (by decide) ?_
  refine z_aload_n C dL_open_2 rfl ?_
  refine z_iload_n C dL_open_3 rfl ?_
  refine z_iload_n C dL_open_4 rfl ?_
  refine z_run (z_runV C kvX8_open lkL_51 kcX8 (k_open hB P I) (P.x) rfl rfl (zb rfl) (zb rfl) (zb rfl) (zb rfl) dL_open_5) (fun E9 h9 hx => ?_) (fun v9 h9 hv => ?_)
  · obtain ⟨rfl, ⟨hc, rfl⟩ | ⟨g1, hc, rfl⟩ | ⟨g1, g2, hc, rfl⟩⟩ := hx
    · refine z_catch C E [] ⟨0, 10, 13, 37⟩ [⟨0, 10, 17, 20⟩, ⟨0, 10, 21, 15⟩] rfl (fun z hz => nomatch hz) (by decide) (by decide) clL_37 ct_IO (fun q => ?_)
      refine z_astore C dL_open_13 (zb rfl) ?_
      refine z_iconst (v := 1) C dL_open_15 (by decide) ?_
      exact z_iret C E dL_open_16 (Or.inr ⟨1, Or.inr (Or.inl ⟨hc, rfl⟩), by decide, P, rfl⟩) (zb rfl) (zb rfl)
    · refine z_catch C E [⟨0, 10, 13, 37⟩] ⟨0, 10, 17, 20⟩ [⟨0, 10, 21, 15⟩] rfl (List.forall_mem_cons.mpr ⟨⟨by decide, _, clL_37, np_NS_IO⟩, fun z hz => nomatch hz⟩) (by decide) (by decide) clL_20 ct_NS (fun q => ?_)
      refine z_astore C dL_open_17 (zb rfl) ?_
      refine z_iconst (v := 2) C dL_open_19 (by decide) ?_
      exact z_iret C E dL_open_20 (Or.inr ⟨2, Or.inr (Or.inr (Or.inl ⟨g1, hc, rfl⟩)), by decide, P, rfl⟩) (zb rfl) (zb rfl)
    · refine z_catch C E [⟨0, 10, 13, 37⟩, ⟨0, 10, 17, 20⟩] ⟨0, 10, 21, 15⟩ [] rfl (List.forall_mem_cons.mpr ⟨⟨by decide, _, clL_37, np_IS_IO⟩, List.forall_mem_cons.mpr ⟨⟨by decide, _, clL_20, np_IS_NS⟩, fun z hz => nomatch hz⟩⟩) (by decide) (by decide) clL_15 ct_IS (fun q => ?_)
      refine z_astore C dL_open_21 (zb rfl) ?_
      refine z_iconst (v := 3) C dL_open_23 (by decide) ?_
      exact z_iret C E dL_open_24 (Or.inr ⟨3, Or.inr (Or.inr (Or.inr ⟨g1, g2, hc, rfl⟩)), by decide, P, rfl⟩) (zb rfl) (zb rfl)
  · obtain ⟨c1, c2, c3, ⟨loc', hs, P'⟩, rfl⟩ := hv
    refine z_i2l C dL_open_8 ?_
    refine z_last C (P'.J9 hs) (in01) dL_open_9 ?_
    intro f8 _ hf8 e8; subst e8
    refine z_goto (tgt := 25) C dL_open_10 (by decide) ?_
    refine z_iconst (v := 0) C dL_open_25 (by decide) ?_
    exact z_iret C E dL_open_26 (Or.inl ⟨c1, c2, c3, ⟨loc', _, hs, P'.sJ9 hs f8, ⟨rfl, rfl, rfl, rfl, rfl⟩, hf8⟩, rfl⟩) (zb rfl) (zb rfl)
theorem l_answer (hB : Base G) (P : PW G h loc σ ρ) (I : Inv σ) {d k : Int32} : CtW G mL_answer hhL_answer 10 12 4300 [.ref (loc 0 0), .int d, .int k, .ref (loc 0 5)] h (lw G loc σ ρ (σ) (In d (tn σ 0)) (hasK σ k) (True) (fun ρ' => rJ ρ' 0 = (letter σ (ix (tT σ 7 (ix d))) k d (clk σ (ix d))).toInt64)) noX := by
  refine CtW.intro (m := 1) hB (by decide +kernel) (zb rfl) fun X C E => ?_
  refine z_aload_n C dL_answer_0 rfl ?_
  refine z_iconst (v := 0) C dL_answer_1 (by decide) ?_
  refine z_aload_n C dL_answer_2 rfl ?_
  refine z_iload_n C dL_answer_3 rfl ?_
  refine z_iload_n C dL_answer_4 rfl ?_
  refine z_run (z_runV C kvX8_answer lkL_55 kcX8 (k_answer hB P I) (P.x) rfl rfl (zb rfl) (zb rfl) (zb rfl) (zb rfl) dL_answer_5) (fun E9 h9 hx => ?_) (fun v9 h9 hv => ?_)
  · obtain ⟨rfl, ⟨hc, rfl⟩ | ⟨g1, hc, rfl⟩ | ⟨g1, g2, hc, rfl⟩⟩ := hx
    · refine z_catch C E [] ⟨0, 10, 13, 37⟩ [⟨0, 10, 17, 20⟩] rfl (fun z hz => nomatch hz) (by decide) (by decide) clL_37 ct_IO (fun q => ?_)
      refine z_astore C dL_answer_13 (zb rfl) ?_
      refine z_iconst (v := 1) C dL_answer_15 (by decide) ?_
      exact z_iret C E dL_answer_16 (Or.inr ⟨1, Or.inr (Or.inl ⟨hc, rfl⟩), by decide, P, rfl⟩) (zb rfl) (zb rfl)
    · refine z_catch C E [⟨0, 10, 13, 37⟩] ⟨0, 10, 17, 20⟩ [] rfl (List.forall_mem_cons.mpr ⟨⟨by decide, _, clL_37, np_NS_IO⟩, fun z hz => nomatch hz⟩) (by decide) (by decide) clL_20 ct_NS (fun q => ?_)
      refine z_astore C dL_answer_17 (zb rfl) ?_
      refine z_iconst (v := 2) C dL_answer_19 (by decide) ?_
      exact z_iret C E dL_answer_20 (Or.inr ⟨2, Or.inr (Or.inr (Or.inl ⟨g1, hc, rfl⟩)), by decide, P, rfl⟩) (zb rfl) (zb rfl)
    · exact absurd trivial hc
  · obtain ⟨c1, c2, c3, rfl, rfl⟩ := hv
    refine z_i2l C dL_answer_8 ?_
    refine z_last C (P.J) (in01) dL_answer_9 ?_
    intro f8 _ hf8 e8; subst e8
    refine z_goto (tgt := 21) C dL_answer_10 (by decide) ?_
    refine z_iconst (v := 0) C dL_answer_21 (by decide) ?_
    exact z_iret C E dL_answer_22 (Or.inl ⟨c1, c2, c3, ⟨loc, _, Same.refl _ _, P.sJ f8, ⟨rfl, rfl, rfl, rfl, rfl⟩, hf8⟩, rfl⟩) (zb rfl) (zb rfl)
end
