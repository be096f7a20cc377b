/-! the reference's questions -/
def mo {α : Type} (mk : α → Value) (G : GT) (loc : Nat → Nat → Nat) (σ : SG) (ρ ρ' : RG) (c1 c2 c3 : Prop) (val : α) : Option Value → Hp → Prop := fun o h' => (c1 ∧ c2 ∧ c3 ∧ PW G h' loc σ ρ' ∧ o = some (mk val)) ∨ ∃ (k : Int32) (v : α), Rs c1 c2 c3 k ∧ ¬ k = 0 ∧ PW G h' loc σ (rTh ρ k) ∧ o = some (mk v)
theorem in_between {d : Int32} {n : Nat} (hn : n ≤ 600) : (0 ≤ d ∧ d ≤ nI n - 1) ↔ In d n := by
  have e1 : (nI n - 1 : Int32).toInt = (n : Int) - 1 := by
    rw [Int32.toInt_sub, nI_toInt (by omega)]
    show Int.bmod ((n : Int) - 1) _ = _
    exact Int.bmod_eq_of_le (by omega) (by omega)
  unfold In
  rw [Int32.not_lt, Int32.le_iff_toInt_le (y := nI n - 1), e1, Int32.lt_iff_toInt_lt, nI_toInt (by omega)]
  constructor
  · exact fun q => ⟨q.1, by omega⟩
  · exact fun q => ⟨q.1, by omega⟩
section
variable {G : GT} {h : Hp} {loc loc' : Nat → Nat → Nat} {σ : SG} {ρ : RG}
theorem k9_thrown (hB : Base G) (P : PW G h loc σ ρ) : Ct G mX9_thrown 1 0 0 [.ref (loc 0 4)] h (rd h (.int (rt ρ))) noX := by
  refine Ct.intro (m := 0) hB (by decide +kernel) (zb rfl) fun X C E => ?_
  refine z_aload_n C dX9_thrown_0 rfl ?_
  refine z_getf C kcX9 flX9_73 (P.m) rfl dX9_thrown_1 ?_
  exact z_iret C E dX9_thrown_4 (⟨rfl, rfl⟩) (zb rfl) (zb rfl)
theorem k9_fails (hB : Base G) (P : PW G h loc σ ρ) {t : Int32} : Ct G mX9_fails 1 0 0 [.ref (loc 0 4), .int t] h (fun o h' => PW G h' loc σ (rTh ρ t) ∧ o = some (.int 0)) noX := by
  refine Ct.intro (m := 0) hB (by decide +kernel) (zb rfl) fun X C E => ?_
  refine z_aload_n C dX9_fails_0 rfl ?_
  refine z_iload_n C dX9_fails_1 rfl ?_
  refine z_putf C kcX9 flX9_73 (P.m) rfl (rfl) (rfl) (zb rfl) dX9_fails_2 ?_
  intro _ e8; subst e8
  refine z_iconst (v := 0) C dX9_fails_5 (by decide) ?_
  exact z_iret C E dX9_fails_6 (⟨P.sTh t, rfl⟩) (zb rfl) (zb rfl)
theorem k9_isBetween (hB : Base G) {v lo hi : Int32} : Ct G mX9_isBetween 1 0 0 [.int v, .int lo, .int hi] h (rb (lo ≤ v ∧ v ≤ hi) h) noX := by
  refine Ct.intro (m := 0) hB (by decide +kernel) (zb rfl) fun X C E => ?_
  refine z_iload_n C dX9_isBetween_0 rfl ?_
  refine z_iload_n C dX9_isBetween_1 rfl ?_
  refine z_icmp_gt (tgt := 14) C dX9_isBetween_2 (by decide) (fun e1 => ?_) (fun e1 => ?_)
  · refine z_iconst (v := 0) C dX9_isBetween_14 (by decide) ?_
    exact z_zret C E (rfl) dX9_isBetween_15 (⟨rfl, Or.inr ⟨fun q => absurd e1 (Int32.not_lt.mpr q.1), rfl⟩⟩) (zb rfl) (zb rfl)
  · refine z_iload_n C dX9_isBetween_5 rfl ?_
    refine z_iload_n C dX9_isBetween_6 rfl ?_
    refine z_icmp_gt (tgt := 14) C dX9_isBetween_7 (by decide) (fun e2 => ?_) (fun e2 => ?_)
    · refine z_iconst (v := 0) C dX9_isBetween_14 (by decide) ?_
      exact z_zret C E (rfl) dX9_isBetween_15 (⟨rfl, Or.inr ⟨fun q => absurd e2 (Int32.not_lt.mpr q.2), rfl⟩⟩) (zb rfl) (zb rfl)
    · refine z_iconst (v := 1) C dX9_isBetween_10 (by decide) ?_
      refine z_goto (tgt := 15) C dX9_isBetween_11 (by decide) ?_
      exact z_zret C E (rfl) dX9_isBetween_15 (⟨rfl, Or.inl ⟨⟨Int32.not_lt.mp e1, Int32.not_lt.mp e2⟩, rfl⟩⟩) (zb rfl) (zb rfl)
theorem k9_isDoor (hB : Base G) (P : PW G h loc σ ρ) (hn : tn (rM ρ) 0 ≤ 600) {d : Int32} : Ct G mX9_isDoor 2 0 0 [.ref (loc 0 4), .int d] h (rb (In d (tn (rM ρ) 0)) h) noX := by
  refine Ct.intro (m := 0) hB (by decide +kernel) (zb rfl) fun X C E => ?_
  refine z_iload_n C dX9_isDoor_0 rfl ?_
  refine z_iconst (v := 0) C dX9_isDoor_1 (by decide) ?_
  refine z_aload_n C dX9_isDoor_2 rfl ?_
  refine z_getf C kcX9 flX9_84 (P.m) rfl dX9_isDoor_3 ?_
  refine z_iconst (v := 1) C dX9_isDoor_6 (by decide) ?_
  refine z_isub C dX9_isDoor_7 ?_
  refine z_rb (z_runS C ksX9_isBetween lkX9_80 (k9_isBetween hB) rfl rfl (zb rfl) (zb rfl) (zb rfl) (zb rfl) dX9_isDoor_8) (fun c9 => ?_) (fun c9 => ?_)
  · exact z_zret C E (rfl) dX9_isDoor_11 (⟨rfl, Or.inl ⟨(in_between hn).mp c9, rfl⟩⟩) (zb rfl) (zb rfl)
  · exact z_zret C E (rfl) dX9_isDoor_11 (⟨rfl, Or.inr ⟨fun q => c9 ((in_between hn).mpr q), rfl⟩⟩) (zb rfl) (zb rfl)
theorem k9_isPhone (hB : Base G) (P : PW G h loc σ ρ) (hn : tn (rM ρ) 1 ≤ 600) {d : Int32} : Ct G mX9_isPhone 2 0 0 [.ref (loc 0 4), .int d] h (rb (In d (tn (rM ρ) 1)) h) noX := by
  refine Ct.intro (m := 0) hB (by decide +kernel) (zb rfl) fun X C E => ?_
  refine z_iload_n C dX9_isPhone_0 rfl ?_
  refine z_iconst (v := 0) C dX9_isPhone_1 (by decide) ?_
  refine z_aload_n C dX9_isPhone_2 rfl ?_
  refine z_getf C kcX9 flX9_87 (P.m) rfl dX9_isPhone_3 ?_
  refine z_iconst (v := 1) C dX9_isPhone_6 (by decide) ?_
  refine z_isub C dX9_isPhone_7 ?_
  refine z_rb (z_runS C ksX9_isBetween lkX9_80 (k9_isBetween hB) rfl rfl (zb rfl) (zb rfl) (zb rfl) (zb rfl) dX9_isPhone_8) (fun c9 => ?_) (fun c9 => ?_)
  · exact z_zret C E (rfl) dX9_isPhone_11 (⟨rfl, Or.inl ⟨(in_between hn).mp c9, rfl⟩⟩) (zb rfl) (zb rfl)
  · exact z_zret C E (rfl) dX9_isPhone_11 (⟨rfl, Or.inr ⟨fun q => c9 ((in_between hn).mpr q), rfl⟩⟩) (zb rfl) (zb rfl)
theorem k9_isAudit (hB : Base G) (P : PW G h loc σ ρ) (hn : tn (rM ρ) 2 ≤ 600) {d : Int32} : Ct G mX9_isAudit 2 0 0 [.ref (loc 0 4), .int d] h (rb (In d (tn (rM ρ) 2)) h) noX := by
  refine Ct.intro (m := 0) hB (by decide +kernel) (zb rfl) fun X C E => ?_
  refine z_iload_n C dX9_isAudit_0 rfl ?_
  refine z_iconst (v := 0) C dX9_isAudit_1 (by decide) ?_
  refine z_aload_n C dX9_isAudit_2 rfl ?_
  refine z_getf C kcX9 flX9_90 (P.m) rfl dX9_isAudit_3 ?_
  refine z_iconst (v := 1) C dX9_isAudit_6 (by decide) ?_
  refine z_isub C dX9_isAudit_7 ?_
  refine z_rb (z_runS C ksX9_isBetween lkX9_80 (k9_isBetween hB) rfl rfl (zb rfl) (zb rfl) (zb rfl) (zb rfl) dX9_isAudit_8) (fun c9 => ?_) (fun c9 => ?_)
  · exact z_zret C E (rfl) dX9_isAudit_11 (⟨rfl, Or.inl ⟨(in_between hn).mp c9, rfl⟩⟩) (zb rfl) (zb rfl)
  · exact z_zret C E (rfl) dX9_isAudit_11 (⟨rfl, Or.inr ⟨fun q => c9 ((in_between hn).mpr q), rfl⟩⟩) (zb rfl) (zb rfl)
theorem k9_isKey (hB : Base G) (P : PW G h loc σ ρ) (I : Inv (rM ρ)) (R : RDr ρ) {k : Int32} : Ct G mX9_isKey 2 0 0 [.ref (loc 0 4), .int k] h (rb (hasK (rM ρ) k) h) noX := by
  refine Ct.intro (m := 0) hB (by decide +kernel) (zb rfl) fun X C E => ?_
  have hn := I.N.2.2.2
  refine z_iload_n C dX9_isKey_0 rfl ?_
  refine z_iconst (v := 0) C dX9_isKey_1 (by decide) ?_
  refine z_aload_n C dX9_isKey_2 rfl ?_
  refine z_getf C kcX9 flX9_9 (P.m) rfl dX9_isKey_3 ?_
  refine z_aload_n C dX9_isKey_6 rfl ?_
  refine z_getf C kcX9 flX9_77 (P.m) rfl dX9_isKey_7 ?_
  refine z_iald C (P.mK) (nI_in (by omega) (by decide)) dX9_isKey_10 ?_
  rw [nI_clamp (by omega)]
  refine z_iconst (v := 1) C dX9_isKey_11 (by decide) ?_
  refine z_isub C dX9_isKey_12 ?_
  refine z_rb (z_runS C ksX9_isBetween lkX9_80 (k9_isBetween hB) rfl rfl (zb rfl) (zb rfl) (zb rfl) (zb rfl) dX9_isKey_13) (fun c9 => ?_) (fun c9 => ?_)
  · exact z_zret C E (rfl) dX9_isKey_16 (⟨rfl, Or.inl ⟨(R.isKey I.K).mp c9, rfl⟩⟩) (zb rfl) (zb rfl)
  · exact z_zret C E (rfl) dX9_isKey_16 (⟨rfl, Or.inr ⟨fun q => c9 ((R.isKey I.K).mpr q), rfl⟩⟩) (zb rfl) (zb rfl)
theorem times_iff {f t : Int32} (h0 : 0 ≤ f ∧ f ≤ 99999) : (f + 1 ≤ t ∧ t ≤ 100000) ↔ okTimes f t := by
  have a1 := Int32.le_iff_toInt_le.mp h0.1
  have a2 := Int32.le_iff_toInt_le.mp h0.2
  have k0 : (0 : Int32).toInt = 0 := rfl
  have k1 : (99999 : Int32).toInt = 99999 := rfl
  have k2 : (1 : Int32).toInt = 1 := rfl
  have e : (f + 1).toInt = f.toInt + 1 := i_add (by omega) (by omega) (by omega)
  unfold okTimes
  rw [Int32.le_iff_toInt_le (x := f + 1), e, Int32.lt_iff_toInt_lt]
  exact ⟨fun q => ⟨h0.1, by omega, q.2⟩, fun q => ⟨by omega, q.2.2⟩⟩
theorem k9_areTimes (hB : Base G) {f t : Int32} : Ct G mX9_areTimes 2 0 0 [.int f, .int t] h (rb (okTimes f t) h) noX := by
  refine Ct.intro (m := 0) hB (by decide +kernel) (zb rfl) fun X C E => ?_
  refine z_iload_n C dX9_areTimes_0 rfl ?_
  refine z_iconst (v := 0) C dX9_areTimes_1 (by decide) ?_
  refine z_ldc C kstX9_93 dX9_areTimes_2 ?_
  refine z_rb (z_runS C ksX9_isBetween lkX9_80 (k9_isBetween hB) rfl rfl (zb rfl) (zb rfl) (zb rfl) (zb rfl) dX9_areTimes_4) (fun c9 => ?_) (fun c9 => ?_)
  · refine z_if_eq (tgt := 26) C dX9_areTimes_7 (by decide) (fun e9 => absurd e9 ((by decide))) (fun _ => ?_)
    refine z_iload_n C dX9_areTimes_10 rfl ?_
    refine z_iload_n C dX9_areTimes_11 rfl ?_
    refine z_iconst (v := 1) C dX9_areTimes_12 (by decide) ?_
    refine z_iadd C dX9_areTimes_13 ?_
    refine z_ldc C kstX9_94 dX9_areTimes_14 ?_
    refine z_rb (z_runS C ksX9_isBetween lkX9_80 (k9_isBetween hB) rfl rfl (zb rfl) (zb rfl) (zb rfl) (zb rfl) dX9_areTimes_16) (fun c8 => ?_) (fun c8 => ?_)
    · refine z_if_eq (tgt := 26) C dX9_areTimes_19 (by decide) (fun e9 => absurd e9 ((by decide))) (fun _ => ?_)
      refine z_iconst (v := 1) C dX9_areTimes_22 (by decide) ?_
      refine z_goto (tgt := 27) C dX9_areTimes_23 (by decide) ?_
      exact z_zret C E (rfl) dX9_areTimes_27 (⟨rfl, Or.inl ⟨(times_iff c9).mp c8, rfl⟩⟩) (zb rfl) (zb rfl)
    · refine z_if_eq (tgt := 26) C dX9_areTimes_19 (by decide) (fun _ => ?_) (fun e9 => absurd e9 ((fun e => e rfl)))
      refine z_iconst (v := 0) C dX9_areTimes_26 (by decide) ?_
      exact z_zret C E (rfl) dX9_areTimes_27 (⟨rfl, Or.inr ⟨fun q => c8 ((times_iff c9).mpr q), rfl⟩⟩) (zb rfl) (zb rfl)
  · have g : ¬ okTimes f t := fun q => c9 ⟨q.1, by
      have a1 := Int32.lt_iff_toInt_lt.mp q.2.1
      have a2 := Int32.le_iff_toInt_le.mp q.2.2
      have k1 : (99999 : Int32).toInt = 99999 := rfl
      have k2 : (100000 : Int32).toInt = 100000 := rfl
      exact i_le (by omega)⟩
    refine z_if_eq (tgt := 26) C dX9_areTimes_7 (by decide) (fun _ => ?_) (fun e9 => absurd e9 ((fun e => e rfl)))
    refine z_iconst (v := 0) C dX9_areTimes_26 (by decide) ?_
    exact z_zret C E (rfl) dX9_areTimes_27 (⟨rfl, Or.inr ⟨g, rfl⟩⟩) (zb rfl) (zb rfl)
theorem k9_isStuck (hB : Base G) (P : PW G h loc σ ρ) (I : Inv (rM ρ)) (R : RDr ρ) {k : Int32} (hk : hasK (rM ρ) k) : Ct G mX9_isStuck 1 0 0 [.ref (loc 0 4), .int k] h (rb (¬ cNR (rM ρ) k) h) noX := by
  refine Ct.intro (m := 0) hB (by decide +kernel) (zb rfl) fun X C E => ?_
  have hn := I.N.2.2.2
  have h0 := ((R.isKey I.K).mpr hk).1
  rcases R.key I.K (Nat.le_refl _) h0 with ⟨-, q⟩ | ⟨-, c, hc, hin, -, -, -, hd⟩
  · exact absurd q hk
  · have hks := (kS_of hc).2
    refine z_aload_n C dX9_isStuck_0 rfl ?_
    refine z_getf C kcX9 flX9_29 (P.m) rfl dX9_isStuck_1 ?_
    refine z_aload_n C dX9_isStuck_4 rfl ?_
    refine z_getf C kcX9 flX9_77 (P.m) rfl dX9_isStuck_5 ?_
    refine z_aaldA C rfl (P.mD3) (nI_in (by omega) (by decide)) dX9_isStuck_8 ?_
    refine z_iload_n C dX9_isStuck_9 rfl ?_
    refine z_zald C (P.e3 (by omega)) (hin) dX9_isStuck_10 ?_
    rw [show rD ρ 3 (tn (rM ρ) 3) k.toNatClampNeg = tT (rM ρ) 4 c from hd]
    have h50 : (50 : Int32) = nI 50 := by decide
    refine z_if_ne (tgt := 23) C dX9_isStuck_11 (by decide) (fun e1 => ?_) (fun e1 => ?_)
    · refine z_iconst (v := 1) C dX9_isStuck_23 (by decide) ?_
      refine z_goto (tgt := 28) C dX9_isStuck_24 (by decide) ?_
      exact z_zret C E (rfl) dX9_isStuck_28 (⟨rfl, Or.inl ⟨fun q => e1 (by rw [← hks]; exact q.1), rfl⟩⟩) (zb rfl) (zb rfl)
    · refine z_aload_n C dX9_isStuck_14 rfl ?_
      refine z_getf C kcX9 flX9_77 (P.m) rfl dX9_isStuck_15 ?_
      refine z_bipush (v := 50) C dX9_isStuck_18 (by decide) ?_
      refine z_icmp_ne (tgt := 27) C dX9_isStuck_20 (by decide) (fun e2 => ?_) (fun e2 => ?_)
      · rw [h50] at e2
        have e3 : tn (rM ρ) 3 < 50 := by
          rcases Nat.lt_or_ge (tn (rM ρ) 3) 50 with z | z
          · exact z
          · exact absurd (congrArg nI (show tn (rM ρ) 3 = 50 by omega)) e2
        refine z_iconst (v := 0) C dX9_isStuck_27 (by decide) ?_
        exact z_zret C E (rfl) dX9_isStuck_28 (⟨rfl, Or.inr ⟨fun q => q ⟨by rw [hks]; exact e1, e3⟩, rfl⟩⟩) (zb rfl) (zb rfl)
      · rw [h50] at e2
        have e3 := (nI_eq (by omega) (by omega)).mp e2
        refine z_iconst (v := 1) C dX9_isStuck_23 (by decide) ?_
        refine z_goto (tgt := 28) C dX9_isStuck_24 (by decide) ?_
        exact z_zret C E (rfl) dX9_isStuck_28 (⟨rfl, Or.inl ⟨fun q => absurd q.2 (by omega), rfl⟩⟩) (zb rfl) (zb rfl)
theorem k9_driftedOf (hB : Base G) (P : PW G h loc σ ρ) (hn : tn (rM ρ) 0 ≤ 5) {d : Int32} (hd : In d (tn (rM ρ) 0)) (hv : vf_n32 (drift (rM ρ) (ix d))) : Ct G mX9_driftedOf 1 0 0 [.ref (loc 0 4), .int d] h (rd h (.float (drift (rM ρ) (ix d)))) noX := by
  refine Ct.intro (m := 0) hB (by decide +kernel) (zb rfl) fun X C E => ?_
  refine z_aload_n C dX9_driftedOf_0 rfl ?_
  refine z_getf C kcX9 flX9_95 (P.m) rfl dX9_driftedOf_1 ?_
  refine z_aload_n C dX9_driftedOf_4 rfl ?_
  refine z_getf C kcX9 flX9_35 (P.m) rfl dX9_driftedOf_5 ?_
  refine z_iload_n C dX9_driftedOf_8 rfl ?_
  refine z_iald C (P.m8) (hd.vp hn (by decide)) dX9_driftedOf_9 ?_
  refine z_isub C dX9_driftedOf_10 ?_
  refine z_i2f C dX9_driftedOf_11 ?_
  refine z_aload_n C dX9_driftedOf_12 rfl ?_
  refine z_getf C kcX9 flX9_44 (P.m) rfl dX9_driftedOf_13 ?_
  refine z_iload_n C dX9_driftedOf_16 rfl ?_
  refine z_fald C (P.mR) (hd.vp hn (by decide)) dX9_driftedOf_17 ?_
  refine z_fmul C dX9_driftedOf_18 (hv) ?_
  exact z_fret C E dX9_driftedOf_19 (⟨rfl, rfl⟩) (zb rfl) (zb rfl)
theorem k9_clockOf (hB : Base G) (P : PW G h loc σ ρ) (hn : tn (rM ρ) 0 ≤ 5) {d : Int32} (hd : In d (tn (rM ρ) 0)) (hv : vf_n32 (drift (rM ρ) (ix d))) : Ct G mX9_clockOf 2 0 0 [.ref (loc 0 4), .int d] h (rd h (.int (clk (rM ρ) (ix d)))) noX := by
  refine Ct.intro (m := 0) hB (by decide +kernel) (zb rfl) fun X C E => ?_
  refine z_aload_n C dX9_clockOf_0 rfl ?_
  refine z_getf C kcX9 flX9_38 (P.m) rfl dX9_clockOf_1 ?_
  refine z_iload_n C dX9_clockOf_4 rfl ?_
  refine z_iald C (P.m9) (hd.vp hn (by decide)) dX9_clockOf_5 ?_
  refine z_aload_n C dX9_clockOf_6 rfl ?_
  refine z_iload_n C dX9_clockOf_7 rfl ?_
  refine z_rd (z_runV C kvX9_driftedOf lkX9_116 kcX9 (k9_driftedOf hB P hn hd hv) (P.m) rfl rfl (zb rfl) (zb rfl) (zb rfl) (zb rfl) dX9_clockOf_8) ?_
  refine z_f2i C dX9_clockOf_11 ?_
  refine z_iadd C dX9_clockOf_12 ?_
  exact z_iret C E dX9_clockOf_13 (⟨rfl, rfl⟩) (zb rfl) (zb rfl)
theorem OkV.vp {μ : SG} {w : Int32} (hw : OkV μ w) (hn : tn μ 3 ≤ 50) : vp_in w 51 := by
  obtain ⟨v, hv, rfl⟩ := hw
  exact nI_in (by omega) (by decide)
theorem OkV.le {μ : SG} {w : Int32} (hw : OkV μ w) (hn : tn μ 3 ≤ 50) : ix w ≤ tn μ 3 := by
  obtain ⟨v, hv, rfl⟩ := hw
  have e : ix (nI v) = v := nI_clamp (by omega)
  omega
theorem k9_letter (hB : Base G) (P : PW G h loc σ ρ) (hn : tn (rM ρ) 3 ≤ 50) (K : IvK (rM ρ)) (R : RDr ρ) {w door key minute : Int32} (hw : OkV (rM ρ) w) (h0 : 0 ≤ key) : Ct G mX9_letter 1 0 0 [.ref (loc 0 4), .int w, .int door, .int key, .int minute] h (rd h (.int (letter (rM ρ) (ix w) key door minute))) noX := by
  refine Ct.intro (m := 0) hB (by decide +kernel) (zb rfl) fun X C E => ?_
  have hv := hw.vp hn
  have hle := hw.le hn
  have h51 : ix w < 51 := by omega
  have hwi : w = nI (ix w) := by
    obtain ⟨v, hv, rfl⟩ := hw
    have e : ix (nI v) = v := nI_clamp (by omega)
    rw [e]
  refine z_iload_n C dX9_letter_0 rfl ?_
  refine z_aload_n C dX9_letter_1 rfl ?_
  refine z_getf C kcX9 flX9_9 (P.m) rfl dX9_letter_2 ?_
  refine z_iload_n C dX9_letter_5 rfl ?_
  refine z_iald C (P.mK) (hv) dX9_letter_6 ?_
  rcases R.key K hle h0 with ⟨q, hl⟩ | ⟨q, c, hl, hin, hd0, hd1, hd2, hd3⟩
  · have el : letter (rM ρ) (ix w) key door minute = 117 := by unfold letter; rw [hl]; rfl
    refine z_icmp_lt (tgt := 13) C dX9_letter_7 (by decide) (fun e9 => absurd e9 ((Int32.not_lt.mpr q))) (fun _ => ?_)
    refine z_bipush (v := 117) C dX9_letter_10 (by decide) ?_
    exact z_zret C E (rfl) dX9_letter_12 (⟨rfl, by rw [el]⟩) (zb rfl) (zb rfl)
  · have el : letter (rM ρ) (ix w) key door minute = lA (tT (rM ρ) 4 c) (tT (rM ρ) 1 c) (tT (rM ρ) 2 c) (tT (rM ρ) 3 c) door minute := by unfold letter; rw [hl]; rfl
    refine z_icmp_lt (tgt := 13) C dX9_letter_7 (by decide) (fun _ => ?_) (fun e9 => absurd ((Int32.not_le.mp q)) e9)
    refine z_aload_n C dX9_letter_13 rfl ?_
    refine z_getf C kcX9 flX9_29 (P.m) rfl dX9_letter_14 ?_
    refine z_iload_n C dX9_letter_17 rfl ?_
    refine z_aaldA C rfl (P.mD3) (hv) dX9_letter_18 ?_
    refine z_iload_n C dX9_letter_19 rfl ?_
    refine z_zald C (P.d3 h51) (hin) dX9_letter_20 ?_
    rw [show rD ρ 3 (ix w) key.toNatClampNeg = tT (rM ρ) 4 c from hd3]
    refine z_if_eq (tgt := 27) C dX9_letter_21 (by decide) (fun e1 => ?_) (fun e1 => ?_)
    · refine z_aload_n C dX9_letter_27 rfl ?_
      refine z_getf C kcX9 flX9_18 (P.m) rfl dX9_letter_28 ?_
      refine z_iload_n C dX9_letter_31 rfl ?_
      refine z_aaldA C rfl (P.mD0) (hv) dX9_letter_32 ?_
      refine z_iload_n C dX9_letter_33 rfl ?_
      refine z_iald C (P.d0 h51) (hin) dX9_letter_34 ?_
      rw [show rD ρ 0 (ix w) key.toNatClampNeg = tT (rM ρ) 1 c from hd0]
      refine z_iload_n C dX9_letter_35 rfl ?_
      refine z_ishr C dX9_letter_36 ?_
      refine z_iconst (v := 1) C dX9_letter_37 (by decide) ?_
      refine z_iand C dX9_letter_38 ?_
      refine z_if_ne (tgt := 45) C dX9_letter_39 (by decide) (fun e2 => ?_) (fun e2 => ?_)
      · refine z_iload C dX9_letter_45 rfl ?_
        refine z_aload_n C dX9_letter_47 rfl ?_
        refine z_getf C kcX9 flX9_21 (P.m) rfl dX9_letter_48 ?_
        refine z_iload_n C dX9_letter_51 rfl ?_
        refine z_aaldA C rfl (P.mD1) (hv) dX9_letter_52 ?_
        refine z_iload_n C dX9_letter_53 rfl ?_
        refine z_iald C (P.d1 h51) (hin) dX9_letter_54 ?_
        rw [show rD ρ 1 (ix w) key.toNatClampNeg = tT (rM ρ) 2 c from hd1]
        refine z_icmp_ge (tgt := 61) C dX9_letter_55 (by decide) (fun e3 => ?_) (fun e3 => ?_)
        · refine z_iload C dX9_letter_61 rfl ?_
          refine z_aload_n C dX9_letter_63 rfl ?_
          refine z_getf C kcX9 flX9_24 (P.m) rfl dX9_letter_64 ?_
          refine z_iload_n C dX9_letter_67 rfl ?_
          refine z_aaldA C rfl (P.mD2) (hv) dX9_letter_68 ?_
          refine z_iload_n C dX9_letter_69 rfl ?_
          refine z_iald C (P.d2 h51) (hin) dX9_letter_70 ?_
          rw [show rD ρ 2 (ix w) key.toNatClampNeg = tT (rM ρ) 3 c from hd2]
          refine z_icmp_lt (tgt := 79) C dX9_letter_71 (by decide) (fun e4 => ?_) (fun e4 => ?_)
          · refine z_bipush (v := 111) C dX9_letter_79 (by decide) ?_
            exact z_zret C E (rfl) dX9_letter_81 (⟨rfl, by simp only [el, lA, if_neg (not_not_intro e1), if_neg e2, if_neg (Int32.not_lt.mpr e3), if_neg (Int32.not_le.mpr e4)]⟩) (zb rfl) (zb rfl)
          · refine z_bipush (v := 108) C dX9_letter_74 (by decide) ?_
            refine z_goto (tgt := 81) C dX9_letter_76 (by decide) ?_
            exact z_zret C E (rfl) dX9_letter_81 (⟨rfl, by simp only [el, lA, if_neg (not_not_intro e1), if_neg e2, if_neg (Int32.not_lt.mpr e3), if_pos (Int32.not_lt.mp e4)]⟩) (zb rfl) (zb rfl)
        · refine z_bipush (v := 101) C dX9_letter_58 (by decide) ?_
          exact z_zret C E (rfl) dX9_letter_60 (⟨rfl, by simp only [el, lA, if_neg (not_not_intro e1), if_neg e2, if_pos (Int32.not_le.mp e3)]⟩) (zb rfl) (zb rfl)
      · refine z_bipush (v := 100) C dX9_letter_42 (by decide) ?_
        exact z_zret C E (rfl) dX9_letter_44 (⟨rfl, by simp only [el, lA, if_neg (not_not_intro e1), if_pos e2]⟩) (zb rfl) (zb rfl)
    · refine z_bipush (v := 114) C dX9_letter_24 (by decide) ?_
      exact z_zret C E (rfl) dX9_letter_26 (⟨rfl, by simp only [el, lA, if_pos e1]⟩) (zb rfl) (zb rfl)
theorem k9_isNowhere (hB : Base G) (P : PW G h loc σ ρ) (hn : tn (rM ρ) 0 ≤ 600) {d : Int32} : Ct G mX9_isNowhere 3 0 0 [.ref (loc 0 4), .int d] h (fun o h' => (In d (tn (rM ρ) 0) ∧ PW G h' loc σ (rTh ρ 0) ∧ o = some (.int 0)) ∨ (¬ In d (tn (rM ρ) 0) ∧ PW G h' loc σ (rTh ρ 1) ∧ o = some (.int 1))) noX := by
  refine Ct.intro (m := 0) hB (by decide +kernel) (zb rfl) fun X C E => ?_
  refine z_aload_n C dX9_isNowhere_0 rfl ?_
  refine z_aload_n C dX9_isNowhere_1 rfl ?_
  refine z_iload_n C dX9_isNowhere_2 rfl ?_
  refine z_rb (z_runV C kvX9_isDoor lkX9_120 kcX9 (k9_isDoor hB P hn) (P.m) rfl rfl (zb rfl) (zb rfl) (zb rfl) (zb rfl) dX9_isNowhere_3) (fun c9 => ?_) (fun c9 => ?_)
  · refine z_if_eq (tgt := 13) C dX9_isNowhere_6 (by decide) (fun e9 => absurd e9 ((by decide))) (fun _ => ?_)
    refine z_iconst (v := 0) C dX9_isNowhere_9 (by decide) ?_
    refine z_goto (tgt := 14) C dX9_isNowhere_10 (by decide) ?_
    refine z_putf C kcX9 flX9_73 (P.m) rfl (rfl) (rfl) (zb rfl) dX9_isNowhere_14 ?_
    intro _ e8; subst e8
    have P1 := P.sTh 0
    refine z_aload_n C dX9_isNowhere_17 rfl ?_
    refine z_getf C kcX9 flX9_73 (P1.m) rfl dX9_isNowhere_18 ?_
    refine z_if_le (tgt := 28) C dX9_isNowhere_21 (by decide) (fun _ => ?_) (fun e9 => absurd ((show (0 : Int32) ≤ 0 by decide)) e9)
    refine z_iconst (v := 0) C dX9_isNowhere_28 (by decide) ?_
    exact z_zret C E (rfl) dX9_isNowhere_29 (Or.inl ⟨c9, P1, rfl⟩) (zb rfl) (zb rfl)
  · refine z_if_eq (tgt := 13) C dX9_isNowhere_6 (by decide) (fun _ => ?_) (fun e9 => absurd e9 ((fun e => e rfl)))
    refine z_iconst (v := 1) C dX9_isNowhere_13 (by decide) ?_
    refine z_putf C kcX9 flX9_73 (P.m) rfl (rfl) (rfl) (zb rfl) dX9_isNowhere_14 ?_
    intro _ e8; subst e8
    have P1 := P.sTh 1
    refine z_aload_n C dX9_isNowhere_17 rfl ?_
    refine z_getf C kcX9 flX9_73 (P1.m) rfl dX9_isNowhere_18 ?_
    refine z_if_le (tgt := 28) C dX9_isNowhere_21 (by decide) (fun e9 => absurd e9 ((show ¬ (1 : Int32) ≤ 0 by decide))) (fun _ => ?_)
    refine z_iconst (v := 1) C dX9_isNowhere_24 (by decide) ?_
    refine z_goto (tgt := 29) C dX9_isNowhere_25 (by decide) ?_
    exact z_zret C E (rfl) dX9_isNowhere_29 (Or.inr ⟨c9, P1, rfl⟩) (zb rfl) (zb rfl)
theorem k9_isNoAudit (hB : Base G) (P : PW G h loc σ ρ) (hn : tn (rM ρ) 2 ≤ 600) {d : Int32} : Ct G mX9_isNoAudit 3 0 0 [.ref (loc 0 4), .int d] h (fun o h' => (In d (tn (rM ρ) 2) ∧ PW G h' loc σ (rTh ρ 0) ∧ o = some (.int 0)) ∨ (¬ In d (tn (rM ρ) 2) ∧ PW G h' loc σ (rTh ρ 1) ∧ o = some (.int 1))) noX := by
  refine Ct.intro (m := 0) hB (by decide +kernel) (zb rfl) fun X C E => ?_
  refine z_aload_n C dX9_isNoAudit_0 rfl ?_
  refine z_aload_n C dX9_isNoAudit_1 rfl ?_
  refine z_iload_n C dX9_isNoAudit_2 rfl ?_
  refine z_rb (z_runV C kvX9_isAudit lkX9_159 kcX9 (k9_isAudit hB P hn) (P.m) rfl rfl (zb rfl) (zb rfl) (zb rfl) (zb rfl) dX9_isNoAudit_3) (fun c9 => ?_) (fun c9 => ?_)
  · refine z_if_eq (tgt := 13) C dX9_isNoAudit_6 (by decide) (fun e9 => absurd e9 ((by decide))) (fun _ => ?_)
    refine z_iconst (v := 0) C dX9_isNoAudit_9 (by decide) ?_
    refine z_goto (tgt := 14) C dX9_isNoAudit_10 (by decide) ?_
    refine z_putf C kcX9 flX9_73 (P.m) rfl (rfl) (rfl) (zb rfl) dX9_isNoAudit_14 ?_
    intro _ e8; subst e8
    have P1 := P.sTh 0
    refine z_aload_n C dX9_isNoAudit_17 rfl ?_
    refine z_getf C kcX9 flX9_73 (P1.m) rfl dX9_isNoAudit_18 ?_
    refine z_if_le (tgt := 28) C dX9_isNoAudit_21 (by decide) (fun _ => ?_) (fun e9 => absurd ((show (0 : Int32) ≤ 0 by decide)) e9)
    refine z_iconst (v := 0) C dX9_isNoAudit_28 (by decide) ?_
    exact z_zret C E (rfl) dX9_isNoAudit_29 (Or.inl ⟨c9, P1, rfl⟩) (zb rfl) (zb rfl)
  · refine z_if_eq (tgt := 13) C dX9_isNoAudit_6 (by decide) (fun _ => ?_) (fun e9 => absurd e9 ((fun e => e rfl)))
    refine z_iconst (v := 1) C dX9_isNoAudit_13 (by decide) ?_
    refine z_putf C kcX9 flX9_73 (P.m) rfl (rfl) (rfl) (zb rfl) dX9_isNoAudit_14 ?_
    intro _ e8; subst e8
    have P1 := P.sTh 1
    refine z_aload_n C dX9_isNoAudit_17 rfl ?_
    refine z_getf C kcX9 flX9_73 (P1.m) rfl dX9_isNoAudit_18 ?_
    refine z_if_le (tgt := 28) C dX9_isNoAudit_21 (by decide) (fun e9 => absurd e9 ((show ¬ (1 : Int32) ≤ 0 by decide))) (fun _ => ?_)
    refine z_iconst (v := 1) C dX9_isNoAudit_24 (by decide) ?_
    refine z_goto (tgt := 29) C dX9_isNoAudit_25 (by decide) ?_
    exact z_zret C E (rfl) dX9_isNoAudit_29 (Or.inr ⟨c9, P1, rfl⟩) (zb rfl) (zb rfl)
theorem k9_isNone (hB : Base G) (P : PW G h loc σ ρ) (I : Inv (rM ρ)) (R : RDr ρ) {d k : Int32} : Ct G mX9_isNone 3 0 0 [.ref (loc 0 4), .int d, .int k] h (fun o h' => (In d (tn (rM ρ) 0) ∧ hasK (rM ρ) k ∧ PW G h' loc σ (rTh ρ 0) ∧ o = some (.int 0)) ∨ (¬ In d (tn (rM ρ) 0) ∧ PW G h' loc σ (rTh ρ 1) ∧ o = some (.int 1)) ∨ (In d (tn (rM ρ) 0) ∧ ¬ hasK (rM ρ) k ∧ PW G h' loc σ (rTh ρ 2) ∧ o = some (.int 1))) noX := by
  refine Ct.intro (m := 0) hB (by decide +kernel) (zb rfl) fun X C E => ?_
  have hn := I.N.1
  refine z_aload_n C dX9_isNone_0 rfl ?_
  refine z_aload_n C dX9_isNone_1 rfl ?_
  refine z_iload_n C dX9_isNone_2 rfl ?_
  refine z_rb (z_runV C kvX9_isDoor lkX9_120 kcX9 (k9_isDoor hB P (by omega)) (P.m) rfl rfl (zb rfl) (zb rfl) (zb rfl) (zb rfl) dX9_isNone_3) (fun c9 => ?_) (fun c9 => ?_)
  · refine z_if_ne (tgt := 13) C dX9_isNone_6 (by decide) (fun _ => ?_) (fun e9 => absurd e9 ((by decide)))
    refine z_aload_n C dX9_isNone_13 rfl ?_
    refine z_iload_n C dX9_isNone_14 rfl ?_
    refine z_rb (z_runV C kvX9_isKey lkX9_109 kcX9 (k9_isKey hB P I R) (P.m) rfl rfl (zb rfl) (zb rfl) (zb rfl) (zb rfl) dX9_isNone_15) (fun c8 => ?_) (fun c8 => ?_)
    · refine z_if_ne (tgt := 25) C dX9_isNone_18 (by decide) (fun _ => ?_) (fun e9 => absurd e9 ((by decide)))
      refine z_iconst (v := 0) C dX9_isNone_25 (by decide) ?_
      refine z_putf C kcX9 flX9_73 (P.m) rfl (rfl) (rfl) (zb rfl) dX9_isNone_26 ?_
      intro _ e8; subst e8
      have P1 := P.sTh 0
      refine z_aload_n C dX9_isNone_29 rfl ?_
      refine z_getf C kcX9 flX9_73 (P1.m) rfl dX9_isNone_30 ?_
      refine z_if_le (tgt := 40) C dX9_isNone_33 (by decide) (fun _ => ?_) (fun e9 => absurd ((show (0 : Int32) ≤ 0 by decide)) e9)
      refine z_iconst (v := 0) C dX9_isNone_40 (by decide) ?_
      exact z_zret C E (rfl) dX9_isNone_41 (Or.inl ⟨c9, c8, P1, rfl⟩) (zb rfl) (zb rfl)
    · refine z_if_ne (tgt := 25) C dX9_isNone_18 (by decide) (fun e9 => absurd e9 ((fun e => e rfl))) (fun _ => ?_)
      refine z_iconst (v := 2) C dX9_isNone_21 (by decide) ?_
      refine z_goto (tgt := 26) C dX9_isNone_22 (by decide) ?_
      refine z_putf C kcX9 flX9_73 (P.m) rfl (rfl) (rfl) (zb rfl) dX9_isNone_26 ?_
      intro _ e8; subst e8
      have P1 := P.sTh 2
      refine z_aload_n C dX9_isNone_29 rfl ?_
      refine z_getf C kcX9 flX9_73 (P1.m) rfl dX9_isNone_30 ?_
      refine z_if_le (tgt := 40) C dX9_isNone_33 (by decide) (fun e9 => absurd e9 ((show ¬ (2 : Int32) ≤ 0 by decide))) (fun _ => ?_)
      refine z_iconst (v := 1) C dX9_isNone_36 (by decide) ?_
      refine z_goto (tgt := 41) C dX9_isNone_37 (by decide) ?_
      exact z_zret C E (rfl) dX9_isNone_41 (Or.inr (Or.inr ⟨c9, c8, P1, rfl⟩)) (zb rfl) (zb rfl)
  · refine z_if_ne (tgt := 13) C dX9_isNone_6 (by decide) (fun e9 => absurd e9 ((fun e => e rfl))) (fun _ => ?_)
    refine z_iconst (v := 1) C dX9_isNone_9 (by decide) ?_
    refine z_goto (tgt := 26) C dX9_isNone_10 (by decide) ?_
    refine z_putf C kcX9 flX9_73 (P.m) rfl (rfl) (rfl) (zb rfl) dX9_isNone_26 ?_
    intro _ e8; subst e8
    have P1 := P.sTh 1
    refine z_aload_n C dX9_isNone_29 rfl ?_
    refine z_getf C kcX9 flX9_73 (P1.m) rfl dX9_isNone_30 ?_
    refine z_if_le (tgt := 40) C dX9_isNone_33 (by decide) (fun e9 => absurd e9 ((show ¬ (1 : Int32) ≤ 0 by decide))) (fun _ => ?_)
    refine z_iconst (v := 1) C dX9_isNone_36 (by decide) ?_
    refine z_goto (tgt := 41) C dX9_isNone_37 (by decide) ?_
    exact z_zret C E (rfl) dX9_isNone_41 (Or.inr (Or.inl ⟨c9, P1, rfl⟩)) (zb rfl) (zb rfl)
theorem k9_version (hB : Base G) (P : PW G h loc σ ρ) (I : Inv (rM ρ)) (R : RDr ρ) : Ct G mX9_version 1 0 0 [.ref (loc 0 4)] h (mo Value.int G loc σ ρ (rTh ρ 0) (True) (True) (True) (nI (tn (rM ρ) 3))) noX := by
  refine Ct.intro (m := 0) hB (by decide +kernel) (zb rfl) fun X C E => ?_
  have hn0 := I.N.1
  have hn1 := I.N.2.1
  have hn2 := I.N.2.2.1
  have hn3 := I.N.2.2.2
  refine z_aload_n C dX9_version_0 rfl ?_
  refine z_iconst (v := 0) C dX9_version_1 (by decide) ?_
  refine z_putf C kcX9 flX9_73 (P.m) rfl (rfl) (rfl) (zb rfl) dX9_version_2 ?_
  intro _ e8; subst e8
  have P := P.sTh 0
  refine z_aload_n C dX9_version_5 rfl ?_
  refine z_getf C kcX9 flX9_77 (P.m) rfl dX9_version_6 ?_
  exact z_iret C E dX9_version_9 (Or.inl ⟨trivial, trivial, trivial, P, rfl⟩) (zb rfl) (zb rfl)
theorem k9_time (hB : Base G) (P : PW G h loc σ ρ) (I : Inv (rM ρ)) (R : RDr ρ) : Ct G mX9_time 1 0 0 [.ref (loc 0 4)] h (mo Value.int G loc σ ρ (rTh ρ 0) (True) (True) (True) (now (rM ρ))) noX := by
  refine Ct.intro (m := 0) hB (by decide +kernel) (zb rfl) fun X C E => ?_
  have hn0 := I.N.1
  have hn1 := I.N.2.1
  have hn2 := I.N.2.2.1
  have hn3 := I.N.2.2.2
  refine z_aload_n C dX9_time_0 rfl ?_
  refine z_iconst (v := 0) C dX9_time_1 (by decide) ?_
  refine z_putf C kcX9 flX9_73 (P.m) rfl (rfl) (rfl) (zb rfl) dX9_time_2 ?_
  intro _ e8; subst e8
  have P := P.sTh 0
  refine z_aload_n C dX9_time_5 rfl ?_
  refine z_getf C kcX9 flX9_95 (P.m) rfl dX9_time_6 ?_
  exact z_iret C E dX9_time_9 (Or.inl ⟨trivial, trivial, trivial, P, rfl⟩) (zb rfl) (zb rfl)
theorem k9_audits (hB : Base G) (P : PW G h loc σ ρ) (I : Inv (rM ρ)) (R : RDr ρ) : Ct G mX9_audits 1 0 0 [.ref (loc 0 4)] h (mo Value.int G loc σ ρ (rTh ρ 0) (True) (True) (True) (nI (tn (rM ρ) 2))) noX := by
  refine Ct.intro (m := 0) hB (by decide +kernel) (zb rfl) fun X C E => ?_
  have hn0 := I.N.1
  have hn1 := I.N.2.1
  have hn2 := I.N.2.2.1
  have hn3 := I.N.2.2.2
  refine z_aload_n C dX9_audits_0 rfl ?_
  refine z_iconst (v := 0) C dX9_audits_1 (by decide) ?_
  refine z_putf C kcX9 flX9_73 (P.m) rfl (rfl) (rfl) (zb rfl) dX9_audits_2 ?_
  intro _ e8; subst e8
  have P := P.sTh 0
  refine z_aload_n C dX9_audits_5 rfl ?_
  refine z_getf C kcX9 flX9_90 (P.m) rfl dX9_audits_6 ?_
  exact z_iret C E dX9_audits_9 (Or.inl ⟨trivial, trivial, trivial, P, rfl⟩) (zb rfl) (zb rfl)
theorem k9_isSound (hB : Base G) (P : PW G h loc σ ρ) (I : Inv (rM ρ)) (R : RDr ρ) : Ct G mX9_isSound 1 0 0 [.ref (loc 0 4)] h (mo Value.int G loc σ ρ (rTh ρ 0) (True) (True) (True) (1)) noX := by
  refine Ct.intro (m := 0) hB (by decide +kernel) (zb rfl) fun X C E => ?_
  have hn0 := I.N.1
  have hn1 := I.N.2.1
  have hn2 := I.N.2.2.1
  have hn3 := I.N.2.2.2
  refine z_aload_n C dX9_isSound_0 rfl ?_
  refine z_iconst (v := 0) C dX9_isSound_1 (by decide) ?_
  refine z_putf C kcX9 flX9_73 (P.m) rfl (rfl) (rfl) (zb rfl) dX9_isSound_2 ?_
  intro _ e8; subst e8
  have P := P.sTh 0
  refine z_iconst (v := 1) C dX9_isSound_5 (by decide) ?_
  exact z_zret C E (rfl) dX9_isSound_6 (Or.inl ⟨trivial, trivial, trivial, P, rfl⟩) (zb rfl) (zb rfl)
theorem k9_clock (hB : Base G) (P : PW G h loc σ ρ) (I : Inv (rM ρ)) (R : RDr ρ) {d : Int32} : Ct G mX9_clock 4 0 0 [.ref (loc 0 4), .int d] h (mo Value.int G loc σ ρ (rTh ρ 0) (In d (tn (rM ρ) 0)) (True) (True) (clk (rM ρ) (ix d))) noX := by
  refine Ct.intro (m := 0) hB (by decide +kernel) (zb rfl) fun X C E => ?_
  have hn0 := I.N.1
  have hn1 := I.N.2.1
  have hn2 := I.N.2.2.1
  have hn3 := I.N.2.2.2
  refine z_aload_n C dX9_clock_0 rfl ?_
  refine z_iload_n C dX9_clock_1 rfl ?_
  refine z_rn (z_runV C kvX9_isNowhere lkX9_147 kcX9 (k9_isNowhere hB P (by omega)) (P.m) rfl rfl (zb rfl) (zb rfl) (zb rfl) (zb rfl) dX9_clock_2) (fun v9 h9 hv => ?_)
  rcases hv with ⟨hd, P, rfl⟩ | ⟨hd, P, rfl⟩
  · have hi := (hd.ix (by omega)).1
    refine z_if_eq (tgt := 12) C dX9_clock_5 (by decide) (fun _ => ?_) (fun e9 => absurd e9 ((fun e => e rfl)))
    refine z_aload_n C dX9_clock_12 rfl ?_
    refine z_iload_n C dX9_clock_13 rfl ?_
    refine z_rd (z_runV C kvX9_clockOf lkX9_123 kcX9 (k9_clockOf hB P hn0 hd (I.dr hi).1) (P.m) rfl rfl (zb rfl) (zb rfl) (zb rfl) (zb rfl) dX9_clock_14) ?_
    exact z_iret C E dX9_clock_17 (Or.inl ⟨hd, trivial, trivial, P, rfl⟩) (zb rfl) (zb rfl)
  · refine z_if_eq (tgt := 12) C dX9_clock_5 (by decide) (fun e9 => absurd e9 ((by decide))) (fun _ => ?_)
    refine z_iconst (v := 0) C dX9_clock_8 (by decide) ?_
    refine z_goto (tgt := 17) C dX9_clock_9 (by decide) ?_
    exact z_iret C E dX9_clock_17 (Or.inr ⟨1, _, Or.inr (Or.inl ⟨hd, rfl⟩), by decide, P, rfl⟩) (zb rfl) (zb rfl)
theorem k9_drifted (hB : Base G) (P : PW G h loc σ ρ) (I : Inv (rM ρ)) (R : RDr ρ) {d : Int32} : Ct G mX9_drifted 4 0 0 [.ref (loc 0 4), .int d] h (mo Value.float G loc σ ρ (rTh ρ 0) (In d (tn (rM ρ) 0)) (True) (True) (drift (rM ρ) (ix d))) noX := by
  refine Ct.intro (m := 0) hB (by decide +kernel) (zb rfl) fun X C E => ?_
  have hn0 := I.N.1
  have hn1 := I.N.2.1
  have hn2 := I.N.2.2.1
  have hn3 := I.N.2.2.2
  refine z_aload_n C dX9_drifted_0 rfl ?_
  refine z_iload_n C dX9_drifted_1 rfl ?_
  refine z_rn (z_runV C kvX9_isNowhere lkX9_147 kcX9 (k9_isNowhere hB P (by omega)) (P.m) rfl rfl (zb rfl) (zb rfl) (zb rfl) (zb rfl) dX9_drifted_2) (fun v9 h9 hv => ?_)
  rcases hv with ⟨hd, P, rfl⟩ | ⟨hd, P, rfl⟩
  · have hi := (hd.ix (by omega)).1
    refine z_if_eq (tgt := 12) C dX9_drifted_5 (by decide) (fun _ => ?_) (fun e9 => absurd e9 ((fun e => e rfl)))
    refine z_aload_n C dX9_drifted_12 rfl ?_
    refine z_iload_n C dX9_drifted_13 rfl ?_
    refine z_rd (z_runV C kvX9_driftedOf lkX9_116 kcX9 (k9_driftedOf hB P hn0 hd (I.dr hi).1) (P.m) rfl rfl (zb rfl) (zb rfl) (zb rfl) (zb rfl) dX9_drifted_14) ?_
    exact z_fret C E dX9_drifted_17 (Or.inl ⟨hd, trivial, trivial, P, rfl⟩) (zb rfl) (zb rfl)
  · refine z_if_eq (tgt := 12) C dX9_drifted_5 (by decide) (fun e9 => absurd e9 ((by decide))) (fun _ => ?_)
    refine z_fconst0 C dX9_drifted_8 ?_
    refine z_goto (tgt := 17) C dX9_drifted_9 (by decide) ?_
    exact z_fret C E dX9_drifted_17 (Or.inr ⟨1, _, Or.inr (Or.inl ⟨hd, rfl⟩), by decide, P, rfl⟩) (zb rfl) (zb rfl)
theorem k9_driftedBits (hB : Base G) (P : PW G h loc σ ρ) (I : Inv (rM ρ)) (R : RDr ρ) {d : Int32} : Ct G mX9_driftedBits 4 0 0 [.ref (loc 0 4), .int d] h (mo Value.int G loc σ ρ (rTh ρ 0) (In d (tn (rM ρ) 0)) (True) (True) ((drift (rM ρ) (ix d)).toInt32)) noX := by
  refine Ct.intro (m := 0) hB (by decide +kernel) (zb rfl) fun X C E => ?_
  have hn0 := I.N.1
  have hn1 := I.N.2.1
  have hn2 := I.N.2.2.1
  have hn3 := I.N.2.2.2
  refine z_aload_n C dX9_driftedBits_0 rfl ?_
  refine z_iload_n C dX9_driftedBits_1 rfl ?_
  refine z_rn (z_runV C kvX9_isNowhere lkX9_147 kcX9 (k9_isNowhere hB P (by omega)) (P.m) rfl rfl (zb rfl) (zb rfl) (zb rfl) (zb rfl) dX9_driftedBits_2) (fun v9 h9 hv => ?_)
  rcases hv with ⟨hd, P, rfl⟩ | ⟨hd, P, rfl⟩
  · have hi := (hd.ix (by omega)).1
    refine z_if_eq (tgt := 12) C dX9_driftedBits_5 (by decide) (fun _ => ?_) (fun e9 => absurd e9 ((fun e => e rfl)))
    refine z_aload_n C dX9_driftedBits_12 rfl ?_
    refine z_iload_n C dX9_driftedBits_13 rfl ?_
    refine z_rd (z_runV C kvX9_driftedOf lkX9_116 kcX9 (k9_driftedOf hB P hn0 hd (I.dr hi).1) (P.m) rfl rfl (zb rfl) (zb rfl) (zb rfl) (zb rfl) dX9_driftedBits_14) ?_
    refine z_rd (z_runS C ksJxf58ca_floatToIntBits_5c35a lkX9_150 (k_fBits hB (okF_eq (I.dr hi).2.2.2)) rfl rfl (zb rfl) (zb rfl) (zb rfl) (zb rfl) dX9_driftedBits_17) ?_
    exact z_iret C E dX9_driftedBits_20 (Or.inl ⟨hd, trivial, trivial, P, rfl⟩) (zb rfl) (zb rfl)
  · refine z_if_eq (tgt := 12) C dX9_driftedBits_5 (by decide) (fun e9 => absurd e9 ((by decide))) (fun _ => ?_)
    refine z_iconst (v := 0) C dX9_driftedBits_8 (by decide) ?_
    refine z_goto (tgt := 20) C dX9_driftedBits_9 (by decide) ?_
    exact z_iret C E dX9_driftedBits_20 (Or.inr ⟨1, _, Or.inr (Or.inl ⟨hd, rfl⟩), by decide, P, rfl⟩) (zb rfl) (zb rfl)
theorem k9_versionOf (hB : Base G) (P : PW G h loc σ ρ) (I : Inv (rM ρ)) (R : RDr ρ) {d : Int32} : Ct G mX9_versionOf 4 0 0 [.ref (loc 0 4), .int d] h (mo Value.int G loc σ ρ (rTh ρ 0) (In d (tn (rM ρ) 0)) (True) (True) (tT (rM ρ) 7 (ix d))) noX := by
  refine Ct.intro (m := 0) hB (by decide +kernel) (zb rfl) fun X C E => ?_
  have hn0 := I.N.1
  have hn1 := I.N.2.1
  have hn2 := I.N.2.2.1
  have hn3 := I.N.2.2.2
  refine z_aload_n C dX9_versionOf_0 rfl ?_
  refine z_iload_n C dX9_versionOf_1 rfl ?_
  refine z_rn (z_runV C kvX9_isNowhere lkX9_147 kcX9 (k9_isNowhere hB P (by omega)) (P.m) rfl rfl (zb rfl) (zb rfl) (zb rfl) (zb rfl) dX9_versionOf_2) (fun v9 h9 hv => ?_)
  rcases hv with ⟨hd, P, rfl⟩ | ⟨hd, P, rfl⟩
  · have hi := (hd.ix (by omega)).1
    refine z_if_eq (tgt := 12) C dX9_versionOf_5 (by decide) (fun _ => ?_) (fun e9 => absurd e9 ((fun e => e rfl)))
    refine z_aload_n C dX9_versionOf_12 rfl ?_
    refine z_getf C kcX9 flX9_32 (P.m) rfl dX9_versionOf_13 ?_
    refine z_iload_n C dX9_versionOf_16 rfl ?_
    refine z_iald C (P.m7) (hd.vp hn0 (by decide)) dX9_versionOf_17 ?_
    exact z_iret C E dX9_versionOf_18 (Or.inl ⟨hd, trivial, trivial, P, rfl⟩) (zb rfl) (zb rfl)
  · refine z_if_eq (tgt := 12) C dX9_versionOf_5 (by decide) (fun e9 => absurd e9 ((by decide))) (fun _ => ?_)
    refine z_iconst (v := 0) C dX9_versionOf_8 (by decide) ?_
    refine z_goto (tgt := 18) C dX9_versionOf_9 (by decide) ?_
    exact z_iret C E dX9_versionOf_18 (Or.inr ⟨1, _, Or.inr (Or.inl ⟨hd, rfl⟩), by decide, P, rfl⟩) (zb rfl) (zb rfl)
theorem k9_versionByReplay (hB : Base G) (P : PW G h loc σ ρ) (I : Inv (rM ρ)) (R : RDr ρ) {d : Int32} : Ct G mX9_versionByReplay 5 0 0 [.ref (loc 0 4), .int d] h (mo Value.int G loc σ ρ (rTh ρ 0) (In d (tn (rM ρ) 0)) (True) (True) (tT (rM ρ) 7 (ix d))) noX := by
  refine Ct.intro (m := 0) hB (by decide +kernel) (zb rfl) fun X C E => ?_
  have hn0 := I.N.1
  have hn1 := I.N.2.1
  have hn2 := I.N.2.2.1
  have hn3 := I.N.2.2.2
  refine z_aload_n C dX9_versionByReplay_0 rfl ?_
  refine z_iload_n C dX9_versionByReplay_1 rfl ?_
  refine z_rn (z_runV C kvX9_versionOf lkX9_156 kcX9 (k9_versionOf hB P I R) (P.m) rfl rfl (zb rfl) (zb rfl) (zb rfl) (zb rfl) dX9_versionByReplay_2) (fun v9 h9 hv => ?_)
  rcases hv with ⟨c1, c2, c3, P, rfl⟩ | ⟨k, v, c1, c2, P, rfl⟩
  · exact z_iret C E dX9_versionByReplay_5 (Or.inl ⟨c1, c2, c3, P, rfl⟩) (zb rfl) (zb rfl)
  · exact z_iret C E dX9_versionByReplay_5 (Or.inr ⟨k, v, c1, c2, P, rfl⟩) (zb rfl) (zb rfl)
theorem k9_versionOn (hB : Base G) (P : PW G h loc σ ρ) (I : Inv (rM ρ)) (R : RDr ρ) {d : Int32} : Ct G mX9_versionOn 4 0 0 [.ref (loc 0 4), .int d] h (mo Value.int G loc σ ρ (rTh ρ 0) (In d (tn (rM ρ) 1)) (True) (True) (tT (rM ρ) 10 (ix d))) noX := by
  refine Ct.intro (m := 0) hB (by decide +kernel) (zb rfl) fun X C E => ?_
  have hn0 := I.N.1
  have hn1 := I.N.2.1
  have hn2 := I.N.2.2.1
  have hn3 := I.N.2.2.2
  refine z_aload_n C dX9_versionOn_0 rfl ?_
  refine z_iconst (v := 0) C dX9_versionOn_1 (by decide) ?_
  refine z_putf C kcX9 flX9_73 (P.m) rfl (rfl) (rfl) (zb rfl) dX9_versionOn_2 ?_
  intro _ e8; subst e8
  have P := P.sTh 0
  refine z_aload_n C dX9_versionOn_5 rfl ?_
  refine z_iload_n C dX9_versionOn_6 rfl ?_
  refine z_rb (z_runV C kvX9_isPhone lkX9_131 kcX9 (k9_isPhone hB P (show tn (rM ρ) 1 ≤ 600 by omega)) (P.m) rfl rfl (zb rfl) (zb rfl) (zb rfl) (zb rfl) dX9_versionOn_7) (fun hd => ?_) (fun hd => ?_)
  · refine z_if_eq (tgt := 22) C dX9_versionOn_10 (by decide) (fun e9 => absurd e9 ((by decide))) (fun _ => ?_)
    refine z_aload_n C dX9_versionOn_13 rfl ?_
    refine z_getf C kcX9 flX9_41 (P.m) rfl dX9_versionOn_14 ?_
    refine z_iload_n C dX9_versionOn_17 rfl ?_
    refine z_iald C (P.m10) (hd.vp hn1 (by decide)) dX9_versionOn_18 ?_
    refine z_goto (tgt := 27) C dX9_versionOn_19 (by decide) ?_
    exact z_iret C E dX9_versionOn_27 (Or.inl ⟨hd, trivial, trivial, P, rfl⟩) (zb rfl) (zb rfl)
  · refine z_if_eq (tgt := 22) C dX9_versionOn_10 (by decide) (fun _ => ?_) (fun e9 => absurd e9 ((fun e => e rfl)))
    refine z_aload_n C dX9_versionOn_22 rfl ?_
    refine z_iconst (v := 1) C dX9_versionOn_23 (by decide) ?_
    refine z_rn (z_runV C kvX9_fails lkX9_102 kcX9 (k9_fails hB P) (P.m) rfl rfl (zb rfl) (zb rfl) (zb rfl) (zb rfl) dX9_versionOn_24) (fun v9 h9 hv => ?_)
    obtain ⟨P, rfl⟩ := hv
    exact z_iret C E dX9_versionOn_27 (Or.inr ⟨1, _, Or.inr (Or.inl ⟨hd, rfl⟩), by decide, P, rfl⟩) (zb rfl) (zb rfl)
theorem k9_fromIn (hB : Base G) (P : PW G h loc σ ρ) (I : Inv (rM ρ)) (R : RDr ρ) {d k : Int32} : Ct G mX9_fromIn 4 0 0 [.ref (loc 0 4), .int d, .int k] h (mo Value.int G loc σ ρ (rTh ρ 0) (In d (tn (rM ρ) 0)) (∃ c, lastc (tT (rM ρ) 0) k (ix (tT (rM ρ) 7 (ix d))) = some c) (True) (tT (rM ρ) 2 ((lastc (tT (rM ρ) 0) k (ix (tT (rM ρ) 7 (ix d)))).getD 0))) noX := by
  refine Ct.intro (m := 0) hB (by decide +kernel) (zb rfl) fun X C E => ?_
  have hn0 := I.N.1
  have hn1 := I.N.2.1
  have hn2 := I.N.2.2.1
  have hn3 := I.N.2.2.2
  refine z_aload_n C dX9_fromIn_0 rfl ?_
  refine z_iload_n C dX9_fromIn_1 rfl ?_
  refine z_rn (z_runV C kvX9_isNowhere lkX9_147 kcX9 (k9_isNowhere hB P (by omega)) (P.m) rfl rfl (zb rfl) (zb rfl) (zb rfl) (zb rfl) dX9_fromIn_2) (fun v9 h9 hv => ?_)
  rcases hv with ⟨hd, P, rfl⟩ | ⟨hd, P, rfl⟩
  · have hi := (hd.ix (by omega)).1
    have hw := (I.D _ hi).2.2.2.1
    have hle := hw.le hn3
    refine z_if_eq (tgt := 10) C dX9_fromIn_5 (by decide) (fun _ => ?_) (fun e9 => absurd e9 ((fun e => e rfl)))
    refine z_iload_n C dX9_fromIn_10 rfl ?_
    refine z_iconst (v := 0) C dX9_fromIn_11 (by decide) ?_
    refine z_aload_n C dX9_fromIn_12 rfl ?_
    refine z_getf C kcX9 flX9_9 (P.m) rfl dX9_fromIn_13 ?_
    refine z_aload_n C dX9_fromIn_16 rfl ?_
    refine z_getf C kcX9 flX9_32 (P.m) rfl dX9_fromIn_17 ?_
    refine z_iload_n C dX9_fromIn_20 rfl ?_
    refine z_iald C (P.m7) (hd.vp hn0 (by decide)) dX9_fromIn_21 ?_
    refine z_iald C (P.mK) (hw.vp hn3) dX9_fromIn_22 ?_
    obtain ⟨kc, hk8, hK, hkk⟩ := R.2.2.1 _ hle
    have hKe : rK ρ (ix (tT (rM ρ) 7 (ix d))) = nI kc := hK
    have hb : (0 ≤ k ∧ k ≤ rK ρ (ix (tT (rM ρ) 7 (ix d))) - 1) ↔ ∃ c, lastc (tT (rM ρ) 0) k (ix (tT (rM ρ) 7 (ix d))) = some c := by
      rw [hKe, in_between (by omega)]
      constructor
      · intro q
        rcases R.key I.K hle (Int32.not_lt.mp q.1) with ⟨z, -⟩ | ⟨-, c, hc, -⟩
        · rw [hK] at z
          exact absurd q.2 (Int32.not_lt.mpr z)
        · exact ⟨c, hc⟩
      · intro ⟨c, hc⟩
        have h0 : 0 ≤ k := by
          obtain ⟨a, b⟩ := lastc_lt hc
          have := (I.K.2.1 c (by omega)).1
          rw [b] at this
          exact Int32.not_lt.mp this.1
        rcases R.key I.K hle h0 with ⟨-, z⟩ | ⟨z, -⟩
        · rw [hc] at z; cases z
        · rw [hK] at z
          exact ⟨Int32.not_lt.mpr h0, Int32.not_le.mp z⟩
    have hKe2 : rK (rTh ρ 0) (tT (rM (rTh ρ 0)) 7 d.toNatClampNeg).toNatClampNeg = rK ρ (ix (tT (rM ρ) 7 (ix d))) := rfl
    rw [hKe2]
    refine z_iconst (v := 1) C dX9_fromIn_23 (by decide) ?_
    refine z_isub C dX9_fromIn_24 ?_
    refine z_rb (z_runS C ksX9_isBetween lkX9_80 (k9_isBetween hB) rfl rfl (zb rfl) (zb rfl) (zb rfl) (zb rfl) dX9_fromIn_25) (fun c9 => ?_) (fun c9 => ?_)
    · obtain ⟨c, hc⟩ := hb.mp c9
      rcases R.key I.K hle c9.1 with ⟨-, z⟩ | ⟨-, c2, hc2, hin, -, hd1, -, -⟩
      · rw [hc] at z; cases z
      · have hcc : c2 = c := Option.some.inj (hc2.symm.trans hc)
        rw [hcc] at hd1
        have ev : tT (rM ρ) 2 ((lastc (tT (rM ρ) 0) k (ix (tT (rM ρ) 7 (ix d)))).getD 0) = tT (rM ρ) 2 c := by rw [hc]; rfl
        refine z_if_eq (tgt := 47) C dX9_fromIn_28 (by decide) (fun e9 => absurd e9 ((by decide))) (fun _ => ?_)
        refine z_aload_n C dX9_fromIn_31 rfl ?_
        refine z_getf C kcX9 flX9_21 (P.m) rfl dX9_fromIn_32 ?_
        refine z_aload_n C dX9_fromIn_35 rfl ?_
        refine z_getf C kcX9 flX9_32 (P.m) rfl dX9_fromIn_36 ?_
        refine z_iload_n C dX9_fromIn_39 rfl ?_
        refine z_iald C (P.m7) (hd.vp hn0 (by decide)) dX9_fromIn_40 ?_
        refine z_aaldA C rfl (P.mD1) (hw.vp hn3) dX9_fromIn_41 ?_
        refine z_iload_n C dX9_fromIn_42 rfl ?_
        have hrow : h9 (loc 10 (ix (tT (rM ρ) 7 (ix d)))) = some (oI G 8 (rD ρ 1 (ix (tT (rM ρ) 7 (ix d))))) := P.d1 (by omega)
        refine z_iald C (hrow) (hin) dX9_fromIn_43 ?_
        refine z_goto (tgt := 52) C dX9_fromIn_44 (by decide) ?_
        exact z_iret C E dX9_fromIn_52 (Or.inl ⟨hd, ⟨c, hc⟩, trivial, P, by rw [ev, ← hd1]⟩) (zb rfl) (zb rfl)
    · refine z_if_eq (tgt := 47) C dX9_fromIn_28 (by decide) (fun _ => ?_) (fun e9 => absurd e9 ((fun e => e rfl)))
      refine z_aload_n C dX9_fromIn_47 rfl ?_
      refine z_iconst (v := 2) C dX9_fromIn_48 (by decide) ?_
      refine z_rn (z_runV C kvX9_fails lkX9_102 kcX9 (k9_fails hB P) (P.m) rfl rfl (zb rfl) (zb rfl) (zb rfl) (zb rfl) dX9_fromIn_49) (fun v9 h9 hv => ?_)
      obtain ⟨P, rfl⟩ := hv
      exact z_iret C E dX9_fromIn_52 (Or.inr ⟨2, _, Or.inr (Or.inr (Or.inl ⟨hd, fun z => c9 (hb.mpr z), rfl⟩)), by decide, P, rfl⟩) (zb rfl) (zb rfl)
  · refine z_if_eq (tgt := 10) C dX9_fromIn_5 (by decide) (fun e9 => absurd e9 ((by decide))) (fun _ => ?_)
    refine z_iconst (v := 0) C dX9_fromIn_8 (by decide) ?_
    exact z_iret C E dX9_fromIn_9 (Or.inr ⟨1, _, Or.inr (Or.inl ⟨hd, rfl⟩), by decide, P, rfl⟩) (zb rfl) (zb rfl)
theorem k9_letterOf (hB : Base G) (P : PW G h loc σ ρ) (I : Inv (rM ρ)) (R : RDr ρ) {d : Int32} : Ct G mX9_letterOf 4 0 0 [.ref (loc 0 4), .int d] h (mo Value.int G loc σ ρ (rTh ρ 0) (In d (tn (rM ρ) 2)) (True) (True) (tT (rM ρ) 14 (ix d))) noX := by
  refine Ct.intro (m := 0) hB (by decide +kernel) (zb rfl) fun X C E => ?_
  have hn0 := I.N.1
  have hn1 := I.N.2.1
  have hn2 := I.N.2.2.1
  have hn3 := I.N.2.2.2
  refine z_aload_n C dX9_letterOf_0 rfl ?_
  refine z_iload_n C dX9_letterOf_1 rfl ?_
  refine z_rn (z_runV C kvX9_isNoAudit lkX9_162 kcX9 (k9_isNoAudit hB P (by omega)) (P.m) rfl rfl (zb rfl) (zb rfl) (zb rfl) (zb rfl) dX9_letterOf_2) (fun v9 h9 hv => ?_)
  rcases hv with ⟨hd, P, rfl⟩ | ⟨hd, P, rfl⟩
  · have hi := (hd.ix (by omega)).1
    refine z_if_eq (tgt := 12) C dX9_letterOf_5 (by decide) (fun _ => ?_) (fun e9 => absurd e9 ((fun e => e rfl)))
    refine z_aload_n C dX9_letterOf_12 rfl ?_
    refine z_getf C kcX9 flX9_69 (P.m) rfl dX9_letterOf_13 ?_
    refine z_iload_n C dX9_letterOf_16 rfl ?_
    refine z_cald C (P.m14) (hd.vp hn2 (by decide)) dX9_letterOf_17 ?_
    exact z_zret C E ((by rw [show tT (rM (rTh ρ 0)) 14 d.toNatClampNeg = _ from (I.A _ hi).2.2.2.1]; exact letter_nar _ _ _ _ _)) dX9_letterOf_18 (Or.inl ⟨hd, trivial, trivial, P, rfl⟩) (zb rfl) (zb rfl)
  · refine z_if_eq (tgt := 12) C dX9_letterOf_5 (by decide) (fun e9 => absurd e9 ((by decide))) (fun _ => ?_)
    refine z_iconst (v := 0) C dX9_letterOf_8 (by decide) ?_
    refine z_goto (tgt := 18) C dX9_letterOf_9 (by decide) ?_
    exact z_zret C E (rfl) dX9_letterOf_18 (Or.inr ⟨1, _, Or.inr (Or.inl ⟨hd, rfl⟩), by decide, P, rfl⟩) (zb rfl) (zb rfl)
theorem k9_minuteOf (hB : Base G) (P : PW G h loc σ ρ) (I : Inv (rM ρ)) (R : RDr ρ) {d : Int32} : Ct G mX9_minuteOf 4 0 0 [.ref (loc 0 4), .int d] h (mo Value.int G loc σ ρ (rTh ρ 0) (In d (tn (rM ρ) 2)) (True) (True) (tT (rM ρ) 13 (ix d))) noX := by
  refine Ct.intro (m := 0) hB (by decide +kernel) (zb rfl) fun X C E => ?_
  have hn0 := I.N.1
  have hn1 := I.N.2.1
  have hn2 := I.N.2.2.1
  have hn3 := I.N.2.2.2
  refine z_aload_n C dX9_minuteOf_0 rfl ?_
  refine z_iload_n C dX9_minuteOf_1 rfl ?_
  refine z_rn (z_runV C kvX9_isNoAudit lkX9_162 kcX9 (k9_isNoAudit hB P (by omega)) (P.m) rfl rfl (zb rfl) (zb rfl) (zb rfl) (zb rfl) dX9_minuteOf_2) (fun v9 h9 hv => ?_)
  rcases hv with ⟨hd, P, rfl⟩ | ⟨hd, P, rfl⟩
  · have hi := (hd.ix (by omega)).1
    refine z_if_eq (tgt := 12) C dX9_minuteOf_5 (by decide) (fun _ => ?_) (fun e9 => absurd e9 ((fun e => e rfl)))
    refine z_aload_n C dX9_minuteOf_12 rfl ?_
    refine z_getf C kcX9 flX9_54 (P.m) rfl dX9_minuteOf_13 ?_
    refine z_iload_n C dX9_minuteOf_16 rfl ?_
    refine z_iald C (P.m13) (hd.vp hn2 (by decide)) dX9_minuteOf_17 ?_
    exact z_iret C E dX9_minuteOf_18 (Or.inl ⟨hd, trivial, trivial, P, rfl⟩) (zb rfl) (zb rfl)
  · refine z_if_eq (tgt := 12) C dX9_minuteOf_5 (by decide) (fun e9 => absurd e9 ((by decide))) (fun _ => ?_)
    refine z_iconst (v := 0) C dX9_minuteOf_8 (by decide) ?_
    refine z_goto (tgt := 18) C dX9_minuteOf_9 (by decide) ?_
    exact z_iret C E dX9_minuteOf_18 (Or.inr ⟨1, _, Or.inr (Or.inl ⟨hd, rfl⟩), by decide, P, rfl⟩) (zb rfl) (zb rfl)
theorem k9_versionAt (hB : Base G) (P : PW G h loc σ ρ) (I : Inv (rM ρ)) (R : RDr ρ) {d : Int32} : Ct G mX9_versionAt 4 0 0 [.ref (loc 0 4), .int d] h (mo Value.int G loc σ ρ (rTh ρ 0) (In d (tn (rM ρ) 2)) (True) (True) (tT (rM ρ) 15 (ix d))) noX := by
  refine Ct.intro (m := 0) hB (by decide +kernel) (zb rfl) fun X C E => ?_
  have hn0 := I.N.1
  have hn1 := I.N.2.1
  have hn2 := I.N.2.2.1
  have hn3 := I.N.2.2.2
  refine z_aload_n C dX9_versionAt_0 rfl ?_
  refine z_iload_n C dX9_versionAt_1 rfl ?_
  refine z_rn (z_runV C kvX9_isNoAudit lkX9_162 kcX9 (k9_isNoAudit hB P (by omega)) (P.m) rfl rfl (zb rfl) (zb rfl) (zb rfl) (zb rfl) dX9_versionAt_2) (fun v9 h9 hv => ?_)
  rcases hv with ⟨hd, P, rfl⟩ | ⟨hd, P, rfl⟩
  · have hi := (hd.ix (by omega)).1
    refine z_if_eq (tgt := 12) C dX9_versionAt_5 (by decide) (fun _ => ?_) (fun e9 => absurd e9 ((fun e => e rfl)))
    refine z_aload_n C dX9_versionAt_12 rfl ?_
    refine z_getf C kcX9 flX9_57 (P.m) rfl dX9_versionAt_13 ?_
    refine z_iload_n C dX9_versionAt_16 rfl ?_
    refine z_iald C (P.m15) (hd.vp hn2 (by decide)) dX9_versionAt_17 ?_
    exact z_iret C E dX9_versionAt_18 (Or.inl ⟨hd, trivial, trivial, P, rfl⟩) (zb rfl) (zb rfl)
  · refine z_if_eq (tgt := 12) C dX9_versionAt_5 (by decide) (fun e9 => absurd e9 ((by decide))) (fun _ => ?_)
    refine z_iconst (v := 0) C dX9_versionAt_8 (by decide) ?_
    refine z_goto (tgt := 18) C dX9_versionAt_9 (by decide) ?_
    exact z_iret C E dX9_versionAt_18 (Or.inr ⟨1, _, Or.inr (Or.inl ⟨hd, rfl⟩), by decide, P, rfl⟩) (zb rfl) (zb rfl)
theorem k9_letterByList (hB : Base G) (P : PW G h loc σ ρ) (I : Inv (rM ρ)) (R : RDr ρ) {d : Int32} : Ct G mX9_letterByList 4 0 0 [.ref (loc 0 4), .int d] h (mo Value.int G loc σ ρ (rTh ρ 0) (In d (tn (rM ρ) 2)) (True) (True) (letter (rM ρ) (ix (tT (rM ρ) 15 (ix d))) (tT (rM ρ) 12 (ix d)) (tT (rM ρ) 11 (ix d)) (tT (rM ρ) 13 (ix d)))) noX := by
  refine Ct.intro (m := 0) hB (by decide +kernel) (zb rfl) fun X C E => ?_
  have hn0 := I.N.1
  have hn1 := I.N.2.1
  have hn2 := I.N.2.2.1
  have hn3 := I.N.2.2.2
  refine z_aload_n C dX9_letterByList_0 rfl ?_
  refine z_iload_n C dX9_letterByList_1 rfl ?_
  refine z_rn (z_runV C kvX9_isNoAudit lkX9_162 kcX9 (k9_isNoAudit hB P (by omega)) (P.m) rfl rfl (zb rfl) (zb rfl) (zb rfl) (zb rfl) dX9_letterByList_2) (fun v9 h9 hv => ?_)
  rcases hv with ⟨hd, P, rfl⟩ | ⟨hd, P, rfl⟩
  · have hi := (hd.ix (by omega)).1
    refine z_if_eq (tgt := 12) C dX9_letterByList_5 (by decide) (fun _ => ?_) (fun e9 => absurd e9 ((fun e => e rfl)))
    refine z_aload_n C dX9_letterByList_12 rfl ?_
    refine z_aload_n C dX9_letterByList_13 rfl ?_
    refine z_getf C kcX9 flX9_57 (P.m) rfl dX9_letterByList_14 ?_
    refine z_iload_n C dX9_letterByList_17 rfl ?_
    refine z_iald C (P.m15) (hd.vp hn2 (by decide)) dX9_letterByList_18 ?_
    refine z_aload_n C dX9_letterByList_19 rfl ?_
    refine z_getf C kcX9 flX9_48 (P.m) rfl dX9_letterByList_20 ?_
    refine z_iload_n C dX9_letterByList_23 rfl ?_
    refine z_iald C (P.m11) (hd.vp hn2 (by decide)) dX9_letterByList_24 ?_
    refine z_aload_n C dX9_letterByList_25 rfl ?_
    refine z_getf C kcX9 flX9_51 (P.m) rfl dX9_letterByList_26 ?_
    refine z_iload_n C dX9_letterByList_29 rfl ?_
    refine z_iald C (P.m12) (hd.vp hn2 (by decide)) dX9_letterByList_30 ?_
    refine z_aload_n C dX9_letterByList_31 rfl ?_
    refine z_getf C kcX9 flX9_54 (P.m) rfl dX9_letterByList_32 ?_
    refine z_iload_n C dX9_letterByList_35 rfl ?_
    refine z_iald C (P.m13) (hd.vp hn2 (by decide)) dX9_letterByList_36 ?_
    refine z_rd (z_runV C kvX9_letter lkX9_143 kcX9 (k9_letter hB P hn3 I.K R (I.A _ hi).1 (I.A _ hi).2.2.1) (P.m) rfl rfl (zb rfl) (zb rfl) (zb rfl) (zb rfl) dX9_letterByList_37) ?_
    exact z_zret C E (letter_nar _ _ _ _ _) dX9_letterByList_40 (Or.inl ⟨hd, trivial, trivial, P, rfl⟩) (zb rfl) (zb rfl)
  · refine z_if_eq (tgt := 12) C dX9_letterByList_5 (by decide) (fun e9 => absurd e9 ((by decide))) (fun _ => ?_)
    refine z_iconst (v := 0) C dX9_letterByList_8 (by decide) ?_
    refine z_goto (tgt := 40) C dX9_letterByList_9 (by decide) ?_
    exact z_zret C E (rfl) dX9_letterByList_40 (Or.inr ⟨1, _, Or.inr (Or.inl ⟨hd, rfl⟩), by decide, P, rfl⟩) (zb rfl) (zb rfl)
theorem k9_hasArrived (hB : Base G) (P : PW G h loc σ ρ) (I : Inv (rM ρ)) (R : RDr ρ) {d : Int32} : Ct G mX9_hasArrived 4 0 0 [.ref (loc 0 4), .int d] h (mo Value.int G loc σ ρ (rTh ρ 0) (In d (tn (rM ρ) 2)) (True) (True) ((if tT (rM ρ) 18 (ix d) = -1 then 0 else 1))) noX := by
  refine Ct.intro (m := 0) hB (by decide +kernel) (zb rfl) fun X C E => ?_
  have hn0 := I.N.1
  have hn1 := I.N.2.1
  have hn2 := I.N.2.2.1
  have hn3 := I.N.2.2.2
  refine z_aload_n C dX9_hasArrived_0 rfl ?_
  refine z_iload_n C dX9_hasArrived_1 rfl ?_
  refine z_rn (z_runV C kvX9_isNoAudit lkX9_162 kcX9 (k9_isNoAudit hB P (by omega)) (P.m) rfl rfl (zb rfl) (zb rfl) (zb rfl) (zb rfl) dX9_hasArrived_2) (fun v9 h9 hv => ?_)
  rcases hv with ⟨hd, P, rfl⟩ | ⟨hd, P, rfl⟩
  · have hi := (hd.ix (by omega)).1
    refine z_if_ne (tgt := 21) C dX9_hasArrived_5 (by decide) (fun e9 => absurd e9 ((fun e => e rfl))) (fun _ => ?_)
    refine z_aload_n C dX9_hasArrived_8 rfl ?_
    refine z_getf C kcX9 flX9_66 (P.m) rfl dX9_hasArrived_9 ?_
    refine z_iload_n C dX9_hasArrived_12 rfl ?_
    refine z_iald C (P.m18) (hd.vp hn2 (by decide)) dX9_hasArrived_13 ?_
    have ha := (I.A _ hi).2.2.2.2.2
    by_cases c1 : tT (rM ρ) 18 (ix d) = -1
    · have g : tT (rM (rTh ρ 0)) 18 d.toNatClampNeg < 0 := by rw [show tT (rM (rTh ρ 0)) 18 d.toNatClampNeg = -1 from c1]; decide
      refine z_if_lt (tgt := 21) C dX9_hasArrived_14 (by decide) (fun _ => ?_) (fun e9 => absurd (g) e9)
      refine z_iconst (v := 0) C dX9_hasArrived_21 (by decide) ?_
      exact z_zret C E (rfl) dX9_hasArrived_22 (Or.inl ⟨hd, trivial, trivial, P, by rw [if_pos c1]⟩) (zb rfl) (zb rfl)
    · have g : ¬ tT (rM (rTh ρ 0)) 18 d.toNatClampNeg < 0 := by
        rcases ha.2.1 with z | z
        · exact absurd z c1
        · exact Int32.not_lt.mpr (i_le (Int.le_trans ha.1 z.1))
      refine z_if_lt (tgt := 21) C dX9_hasArrived_14 (by decide) (fun e9 => absurd e9 (g)) (fun _ => ?_)
      refine z_iconst (v := 1) C dX9_hasArrived_17 (by decide) ?_
      refine z_goto (tgt := 22) C dX9_hasArrived_18 (by decide) ?_
      exact z_zret C E (rfl) dX9_hasArrived_22 (Or.inl ⟨hd, trivial, trivial, P, by rw [if_neg c1]⟩) (zb rfl) (zb rfl)
  · refine z_if_ne (tgt := 21) C dX9_hasArrived_5 (by decide) (fun _ => ?_) (fun e9 => absurd e9 ((by decide)))
    refine z_iconst (v := 0) C dX9_hasArrived_21 (by decide) ?_
    exact z_zret C E (rfl) dX9_hasArrived_22 (Or.inr ⟨1, _, Or.inr (Or.inl ⟨hd, rfl⟩), by decide, P, rfl⟩) (zb rfl) (zb rfl)
theorem k9_isBroken (hB : Base G) (P : PW G h loc σ ρ) (I : Inv (rM ρ)) (R : RDr ρ) {i : Nat} (hi : i < tn (rM ρ) 2) : Ct G mX9_isBroken 2 0 0 [.ref (loc 0 4), .int (nI i)] h (rb (told (rM ρ) i = true) h) noX := by
  refine Ct.intro (m := 1) hB (by decide +kernel) (zb rfl) fun X C E => ?_
  have hn2 := I.N.2.2.1
  have hn3 := I.N.2.2.2
  have hin : vp_in (nI i) 60 := nI_in (by omega) (by decide)
  have hcl : (nI i).toNatClampNeg = i := nI_clamp (by omega)
  obtain ⟨hw, hm0, hk0, -, -, hs0, ha, -⟩ := I.A i hi
  refine z_aload_n C dX9_isBroken_0 rfl ?_
  refine z_getf C kcX9 flX9_69 (P.m) rfl dX9_isBroken_1 ?_
  refine z_iload_n C dX9_isBroken_4 rfl ?_
  refine z_cald C (P.m14) (hin) dX9_isBroken_5 ?_
  rw [hcl]
  refine z_bipush (v := 111) C dX9_isBroken_6 (by decide) ?_
  refine z_icmp_ne (tgt := 20) C dX9_isBroken_8 (by decide) (fun e1 => ?_) (fun e1 => ?_)
  · refine z_iconst (v := 0) C dX9_isBroken_20 (by decide) ?_
    exact z_zret C E (rfl) dX9_isBroken_21 (⟨rfl, Or.inr ⟨fun q => e1 (of_decide_eq_true q).2.1, rfl⟩⟩) (zb rfl) (zb rfl)
  · refine z_aload_n C dX9_isBroken_11 rfl ?_
    refine z_getf C kcX9 flX9_66 (P.m) rfl dX9_isBroken_12 ?_
    refine z_iload_n C dX9_isBroken_15 rfl ?_
    refine z_iald C (P.m18) (hin) dX9_isBroken_16 ?_
    rw [hcl]
    refine z_if_ge (tgt := 22) C dX9_isBroken_17 (by decide) (fun e2 => ?_) (fun e2 => ?_)
    · have c1 : ¬ tT (rM ρ) 18 i = -1 := fun q => by rw [q] at e2; exact absurd e2 (by decide)
      have key : ∀ j, j ≤ tn (rM ρ) 3 → nwAt (tT (rM ρ) 5) (tT (rM ρ) 13 i) j = nwAt (tT (rM ρ) 5) (tT (rM ρ) 13 i) (tn (rM ρ) 3) → Zs G X 3 h 0 0 27 [some (.ref (loc 0 4)), some (.int (nI i)), some (.int (nI j))] [] := fun j => by
        have fin : ∀ j, j ≤ tn (rM ρ) 3 → nwAt (tT (rM ρ) 5) (tT (rM ρ) 13 i) (tn (rM ρ) 3) = j → Zs G X 3 h 0 0 48 [some (.ref (loc 0 4)), some (.int (nI i)), some (.int (nI j))] [] := fun j hj ej => by
          have hwj : OkV (rM ρ) (nI j) := ⟨j, hj, rfl⟩
          have ejx : ix (nI j) = j := nI_clamp (by omega)
          refine z_aload_n C dX9_isBroken_48 rfl ?_
          refine z_iload_n C dX9_isBroken_49 rfl ?_
          refine z_aload_n C dX9_isBroken_50 rfl ?_
          refine z_getf C kcX9 flX9_48 (P.m) rfl dX9_isBroken_51 ?_
          refine z_iload_n C dX9_isBroken_54 rfl ?_
          refine z_iald C (P.m11) (hin) dX9_isBroken_55 ?_
          rw [hcl]
          refine z_aload_n C dX9_isBroken_56 rfl ?_
          refine z_getf C kcX9 flX9_51 (P.m) rfl dX9_isBroken_57 ?_
          refine z_iload_n C dX9_isBroken_60 rfl ?_
          refine z_iald C (P.m12) (hin) dX9_isBroken_61 ?_
          rw [hcl]
          refine z_aload_n C dX9_isBroken_62 rfl ?_
          refine z_getf C kcX9 flX9_54 (P.m) rfl dX9_isBroken_63 ?_
          refine z_iload_n C dX9_isBroken_66 rfl ?_
          refine z_iald C (P.m13) (hin) dX9_isBroken_67 ?_
          rw [hcl]
          refine z_rd (z_runV C kvX9_letter lkX9_143 kcX9 (k9_letter hB P hn3 I.K R hwj hk0) (P.m) rfl rfl (zb rfl) (zb rfl) (zb rfl) (zb rfl) dX9_isBroken_68) ?_
          rw [ejx, ← ej]
          refine z_bipush (v := 111) C dX9_isBroken_71 (by decide) ?_
          refine z_icmp_eq (tgt := 80) C dX9_isBroken_73 (by decide) (fun e3 => ?_) (fun e3 => ?_)
          · refine z_iconst (v := 0) C dX9_isBroken_80 (by decide) ?_
            exact z_zret C E (rfl) dX9_isBroken_81 (⟨rfl, Or.inr ⟨fun q => (of_decide_eq_true q).2.2 e3, rfl⟩⟩) (zb rfl) (zb rfl)
          · refine z_iconst (v := 1) C dX9_isBroken_76 (by decide) ?_
            refine z_goto (tgt := 81) C dX9_isBroken_77 (by decide) ?_
            exact z_zret C E (rfl) dX9_isBroken_81 (⟨rfl, Or.inl ⟨decide_eq_true ⟨c1, e1, e3⟩, rfl⟩⟩) (zb rfl) (zb rfl)
        induction j with
        | zero =>
          intro hj e
          refine z_aload_n C dX9_isBroken_27 rfl ?_
          refine z_getf C kcX9 flX9_13 (P.m) rfl dX9_isBroken_28 ?_
          refine z_iload_n C dX9_isBroken_31 rfl ?_
          refine z_iald C (P.mA) (nI_in (by decide) (by decide)) dX9_isBroken_32 ?_
          rw [show rA ρ (nI 0).toNatClampNeg = 0 from R.1]
          refine z_aload_n C dX9_isBroken_33 rfl ?_
          refine z_getf C kcX9 flX9_54 (P.m) rfl dX9_isBroken_34 ?_
          refine z_iload_n C dX9_isBroken_37 rfl ?_
          refine z_iald C (P.m13) (hin) dX9_isBroken_38 ?_
          rw [hcl]
          refine z_icmp_le (tgt := 48) C dX9_isBroken_39 (by decide) (fun _ => ?_) (fun e9 => absurd (hm0) e9)
          exact fin 0 hj e.symm
        | succ j ih =>
          intro hj e
          refine z_aload_n C dX9_isBroken_27 rfl ?_
          refine z_getf C kcX9 flX9_13 (P.m) rfl dX9_isBroken_28 ?_
          refine z_iload_n C dX9_isBroken_31 rfl ?_
          refine z_iald C (P.mA) (nI_in (by omega) (by decide)) dX9_isBroken_32 ?_
          rw [show rA ρ (nI (j + 1)).toNatClampNeg = tT (rM ρ) 5 j by rw [nI_clamp (by omega)]; exact R.2.1 j (by omega)]
          refine z_aload_n C dX9_isBroken_33 rfl ?_
          refine z_getf C kcX9 flX9_54 (P.m) rfl dX9_isBroken_34 ?_
          refine z_iload_n C dX9_isBroken_37 rfl ?_
          refine z_iald C (P.m13) (hin) dX9_isBroken_38 ?_
          rw [hcl]
          refine z_icmp_le (tgt := 48) C dX9_isBroken_39 (by decide) (fun e4 => ?_) (fun e4 => ?_)
          · have e5 : nwAt (tT (rM ρ) 5) (tT (rM ρ) 13 i) (j + 1) = j + 1 := if_neg (Int32.not_lt.mpr e4)
            exact fin (j + 1) hj (by rw [← e, e5])
          · refine z_iinc _ C dX9_isBroken_42 rfl (k_dec j) (zb rfl) ?_
            refine z_goto (tgt := 27) C dX9_isBroken_45 (by decide) ?_
            exact ih (by omega) (by rw [← e]; exact (if_pos (Int32.not_le.mp e4)).symm)
      refine z_aload_n C dX9_isBroken_22 rfl ?_
      refine z_getf C kcX9 flX9_77 (P.m) rfl dX9_isBroken_23 ?_
      refine z_istore_n C dX9_isBroken_26 (zb rfl) ?_
      exact key _ (Nat.le_refl _) rfl
    · have c1 : tT (rM ρ) 18 i = -1 := by
        rcases ha with z | z
        · exact z
        · exact absurd (i_le (Int.le_trans hs0 z.1)) e2
      refine z_iconst (v := 0) C dX9_isBroken_20 (by decide) ?_
      exact z_zret C E (rfl) dX9_isBroken_21 (⟨rfl, Or.inr ⟨fun q => (of_decide_eq_true q).1 c1, rfl⟩⟩) (zb rfl) (zb rfl)
theorem k9_isBreach (hB : Base G) (P : PW G h loc σ ρ) (I : Inv (rM ρ)) (R : RDr ρ) {d : Int32} : Ct G mX9_isBreach 4 0 0 [.ref (loc 0 4), .int d] h (mo Value.int G loc σ ρ (rTh ρ 0) (In d (tn (rM ρ) 2)) (True) (True) ((if told (rM ρ) (ix d) = true then 1 else 0))) noX := by
  refine Ct.intro (m := 0) hB (by decide +kernel) (zb rfl) fun X C E => ?_
  have hn0 := I.N.1
  have hn1 := I.N.2.1
  have hn2 := I.N.2.2.1
  have hn3 := I.N.2.2.2
  refine z_aload_n C dX9_isBreach_0 rfl ?_
  refine z_iload_n C dX9_isBreach_1 rfl ?_
  refine z_rn (z_runV C kvX9_isNoAudit lkX9_162 kcX9 (k9_isNoAudit hB P (by omega)) (P.m) rfl rfl (zb rfl) (zb rfl) (zb rfl) (zb rfl) dX9_isBreach_2) (fun v9 h9 hv => ?_)
  rcases hv with ⟨hd, P, rfl⟩ | ⟨hd, P, rfl⟩
  · obtain ⟨hi, hdi⟩ := hd.ix (by omega)
    have hbk : Ct G mX9_isBroken 2 0 0 [.ref (loc 0 4), .int d] h9 (rb (told (rM ρ) (ix d) = true) h9) noX := by
      have := k9_isBroken hB P I R hi
      rw [← hdi] at this
      exact this
    refine z_if_ne (tgt := 20) C dX9_isBreach_5 (by decide) (fun e9 => absurd e9 ((fun e => e rfl))) (fun _ => ?_)
    refine z_aload_n C dX9_isBreach_8 rfl ?_
    refine z_iload_n C dX9_isBreach_9 rfl ?_
    refine z_rb (z_runV C kvX9_isBroken lkX9_165 kcX9 (hbk) (P.m) rfl rfl (zb rfl) (zb rfl) (zb rfl) (zb rfl) dX9_isBreach_10) (fun c9 => ?_) (fun c9 => ?_)
    · refine z_if_eq (tgt := 20) C dX9_isBreach_13 (by decide) (fun e9 => absurd e9 ((by decide))) (fun _ => ?_)
      refine z_iconst (v := 1) C dX9_isBreach_16 (by decide) ?_
      refine z_goto (tgt := 21) C dX9_isBreach_17 (by decide) ?_
      exact z_zret C E (rfl) dX9_isBreach_21 (Or.inl ⟨hd, trivial, trivial, P, by rw [if_pos c9]⟩) (zb rfl) (zb rfl)
    · refine z_if_eq (tgt := 20) C dX9_isBreach_13 (by decide) (fun _ => ?_) (fun e9 => absurd e9 ((fun e => e rfl)))
      refine z_iconst (v := 0) C dX9_isBreach_20 (by decide) ?_
      exact z_zret C E (rfl) dX9_isBreach_21 (Or.inl ⟨hd, trivial, trivial, P, by rw [if_neg c9]⟩) (zb rfl) (zb rfl)
  · refine z_if_ne (tgt := 20) C dX9_isBreach_5 (by decide) (fun _ => ?_) (fun e9 => absurd e9 ((by decide)))
    refine z_iconst (v := 0) C dX9_isBreach_20 (by decide) ?_
    exact z_zret C E (rfl) dX9_isBreach_21 (Or.inr ⟨1, _, Or.inr (Or.inl ⟨hd, rfl⟩), by decide, P, rfl⟩) (zb rfl) (zb rfl)
theorem k9_waiting (hB : Base G) (P : PW G h loc σ ρ) (I : Inv (rM ρ)) (R : RDr ρ) {d : Int32} : Ct G mX9_waiting 4 0 0 [.ref (loc 0 4), .int d] h (mo Value.int G loc σ ρ (rTh ρ 0) (In d (tn (rM ρ) 0)) (True) (True) (nI (cnt (pWait (rM ρ) d) (tn (rM ρ) 2)))) noX := by
  refine Ct.intro (m := 2) hB (by decide +kernel) (zb rfl) fun X C E => ?_
  have hn0 := I.N.1
  have hn1 := I.N.2.1
  have hn2 := I.N.2.2.1
  have hn3 := I.N.2.2.2
  refine z_aload_n C dX9_waiting_0 rfl ?_
  refine z_iload_n C dX9_waiting_1 rfl ?_
  refine z_rn (z_runV C kvX9_isNowhere lkX9_147 kcX9 (k9_isNowhere hB P (by omega)) (P.m) rfl rfl (zb rfl) (zb rfl) (zb rfl) (zb rfl) dX9_waiting_2) (fun v9 h9 hv => ?_)
  rcases hv with ⟨hd, P, rfl⟩ | ⟨hd, P, rfl⟩
  · refine z_if_eq (tgt := 10) C dX9_waiting_5 (by decide) (fun _ => ?_) (fun e9 => absurd e9 ((fun e => e rfl)))
    refine z_iconst (v := 0) C dX9_waiting_10 (by decide) ?_
    refine z_istore_n C dX9_waiting_11 (zb rfl) ?_
    refine z_iconst (v := 0) C dX9_waiting_12 (by decide) ?_
    refine z_istore_n C dX9_waiting_13 (zb rfl) ?_
    refine z_loop (I := fun i => Zs G X 4 h9 0 0 14 [some (.ref (loc 0 4)), some (.int d), some (.int (nI (cnt (pWait (rM ρ) d) i))), some (.int (nI i))] []) (tn (rM ρ) 2) (fun i hi ih => ?_) 0 (Nat.zero_le _)
    refine z_iload_n C dX9_waiting_14 rfl ?_
    refine z_aload_n C dX9_waiting_15 rfl ?_
    refine z_getf C kcX9 flX9_90 (P.m) rfl dX9_waiting_16 ?_
    refine z_icmp_ge (tgt := 55) C dX9_waiting_19 (by decide) (fun e1 => ?_) (fun e1 => ?_)
    · have ei := i_top (show tn (rM ρ) 2 ≤ 600 by omega) hi e1
      refine z_iload_n C dX9_waiting_55 rfl ?_
      exact z_iret C E dX9_waiting_56 (Or.inl ⟨hd, trivial, trivial, P, by rw [ei]⟩) (zb rfl) (zb rfl)
    · have ei := i_in (show tn (rM ρ) 2 ≤ 600 by omega) hi e1
      have ih := ih ei
      have hin : vp_in (nI i) 60 := nI_in (by omega) (by decide)
      have hcl : (nI i).toNatClampNeg = i := nI_clamp (by omega)
      refine z_iload_n C dX9_waiting_22 rfl ?_
      refine z_aload_n C dX9_waiting_23 rfl ?_
      refine z_getf C kcX9 flX9_48 (P.m) rfl dX9_waiting_24 ?_
      refine z_iload_n C dX9_waiting_27 rfl ?_
      refine z_iald C (P.m11) (hin) dX9_waiting_28 ?_
      rw [hcl]
      refine z_iload_n C dX9_waiting_29 rfl ?_
      refine z_icmp_ne (tgt := 46) C dX9_waiting_30 (by decide) (fun e2 => ?_) (fun e2 => ?_)
      · rw [cnt_neg (show pWait (rM ρ) d i = false from decide_eq_false (fun q => e2 q.1))] at ih
        refine z_iconst (v := 0) C dX9_waiting_46 (by decide) ?_
        refine z_iadd C dX9_waiting_47 ?_
        rw [Int32.add_zero]
        refine z_istore_n C dX9_waiting_48 (zb rfl) ?_
        refine z_iinc _ C dX9_waiting_49 rfl (nI_1 _) (zb rfl) ?_
        refine z_goto (tgt := 14) C dX9_waiting_52 (by decide) ?_
        exact ih
      · refine z_aload_n C dX9_waiting_33 rfl ?_
        refine z_getf C kcX9 flX9_63 (P.m) rfl dX9_waiting_34 ?_
        refine z_iload_n C dX9_waiting_37 rfl ?_
        refine z_iald C (P.m17) (hin) dX9_waiting_38 ?_
        rw [hcl]
        refine z_if_ge (tgt := 46) C dX9_waiting_39 (by decide) (fun e3 => ?_) (fun e3 => ?_)
        · rw [cnt_neg (show pWait (rM ρ) d i = false from decide_eq_false (fun q => by rw [show tT (rM (rTh ρ 0)) 17 i = -1 from q.2] at e3; exact absurd e3 (by decide)))] at ih
          refine z_iconst (v := 0) C dX9_waiting_46 (by decide) ?_
          refine z_iadd C dX9_waiting_47 ?_
          rw [Int32.add_zero]
          refine z_istore_n C dX9_waiting_48 (zb rfl) ?_
          refine z_iinc _ C dX9_waiting_49 rfl (nI_1 _) (zb rfl) ?_
          refine z_goto (tgt := 14) C dX9_waiting_52 (by decide) ?_
          exact ih
        · have c2 : tT (rM ρ) 17 i = -1 := by
            rcases (I.A i ei).2.2.2.2.1 with z | z
            · exact z
            · exact absurd z e3
          rw [cnt_pos (show pWait (rM ρ) d i = true from decide_eq_true ⟨e2, c2⟩)] at ih
          refine z_iconst (v := 1) C dX9_waiting_42 (by decide) ?_
          refine z_goto (tgt := 47) C dX9_waiting_43 (by decide) ?_
          refine z_iadd C dX9_waiting_47 ?_
          rw [nI_1]
          refine z_istore_n C dX9_waiting_48 (zb rfl) ?_
          refine z_iinc _ C dX9_waiting_49 rfl (nI_1 _) (zb rfl) ?_
          refine z_goto (tgt := 14) C dX9_waiting_52 (by decide) ?_
          exact ih
  · refine z_if_eq (tgt := 10) C dX9_waiting_5 (by decide) (fun e9 => absurd e9 ((by decide))) (fun _ => ?_)
    refine z_iconst (v := 0) C dX9_waiting_8 (by decide) ?_
    exact z_iret C E dX9_waiting_9 (Or.inr ⟨1, _, Or.inr (Or.inl ⟨hd, rfl⟩), by decide, P, rfl⟩) (zb rfl) (zb rfl)
theorem k9_carried (hB : Base G) (P : PW G h loc σ ρ) (I : Inv (rM ρ)) (R : RDr ρ) {d : Int32} : Ct G mX9_carried 4 0 0 [.ref (loc 0 4), .int d] h (mo Value.int G loc σ ρ (rTh ρ 0) (In d (tn (rM ρ) 1)) (True) (True) (nI (cnt (pCarr (rM ρ) d) (tn (rM ρ) 2)))) noX := by
  refine Ct.intro (m := 2) hB (by decide +kernel) (zb rfl) fun X C E => ?_
  have hn0 := I.N.1
  have hn1 := I.N.2.1
  have hn2 := I.N.2.2.1
  have hn3 := I.N.2.2.2
  refine z_aload_n C dX9_carried_0 rfl ?_
  refine z_iconst (v := 0) C dX9_carried_1 (by decide) ?_
  refine z_putf C kcX9 flX9_73 (P.m) rfl (rfl) (rfl) (zb rfl) dX9_carried_2 ?_
  intro _ e8; subst e8
  have P := P.sTh 0
  refine z_aload_n C dX9_carried_5 rfl ?_
  refine z_iload_n C dX9_carried_6 rfl ?_
  refine z_rb (z_runV C kvX9_isPhone lkX9_131 kcX9 (k9_isPhone hB P (show tn (rM ρ) 1 ≤ 600 by omega)) (P.m) rfl rfl (zb rfl) (zb rfl) (zb rfl) (zb rfl) dX9_carried_7) (fun hd => ?_) (fun hd => ?_)
  · refine z_if_ne (tgt := 19) C dX9_carried_10 (by decide) (fun _ => ?_) (fun e9 => absurd e9 ((by decide)))
    refine z_iconst (v := 0) C dX9_carried_19 (by decide) ?_
    refine z_istore_n C dX9_carried_20 (zb rfl) ?_
    refine z_iconst (v := 0) C dX9_carried_21 (by decide) ?_
    refine z_istore_n C dX9_carried_22 (zb rfl) ?_
    refine z_loop (I := fun i => Zs G X 4 (hup h (loc 0 4) (oM loc (rTh ρ 0))) 0 0 23 [some (.ref (loc 0 4)), some (.int d), some (.int (nI (cnt (pCarr (rM ρ) d) i))), some (.int (nI i))] []) (tn (rM ρ) 2) (fun i hi ih => ?_) 0 (Nat.zero_le _)
    refine z_iload_n C dX9_carried_23 rfl ?_
    refine z_aload_n C dX9_carried_24 rfl ?_
    refine z_getf C kcX9 flX9_90 (P.m) rfl dX9_carried_25 ?_
    refine z_icmp_ge (tgt := 64) C dX9_carried_28 (by decide) (fun e1 => ?_) (fun e1 => ?_)
    · have ei := i_top (show tn (rM ρ) 2 ≤ 600 by omega) hi e1
      refine z_iload_n C dX9_carried_64 rfl ?_
      exact z_iret C E dX9_carried_65 (Or.inl ⟨hd, trivial, trivial, P, by rw [ei]⟩) (zb rfl) (zb rfl)
    · have ei := i_in (show tn (rM ρ) 2 ≤ 600 by omega) hi e1
      have ih := ih ei
      have hin : vp_in (nI i) 60 := nI_in (by omega) (by decide)
      have hcl : (nI i).toNatClampNeg = i := nI_clamp (by omega)
      refine z_iload_n C dX9_carried_31 rfl ?_
      refine z_aload_n C dX9_carried_32 rfl ?_
      refine z_getf C kcX9 flX9_63 (P.m) rfl dX9_carried_33 ?_
      refine z_iload_n C dX9_carried_36 rfl ?_
      refine z_iald C (P.m17) (hin) dX9_carried_37 ?_
      rw [hcl]
      refine z_iload_n C dX9_carried_38 rfl ?_
      refine z_icmp_ne (tgt := 55) C dX9_carried_39 (by decide) (fun e2 => ?_) (fun e2 => ?_)
      · rw [cnt_neg (show pCarr (rM ρ) d i = false from decide_eq_false (fun q => e2 q.1))] at ih
        refine z_iconst (v := 0) C dX9_carried_55 (by decide) ?_
        refine z_iadd C dX9_carried_56 ?_
        rw [Int32.add_zero]
        refine z_istore_n C dX9_carried_57 (zb rfl) ?_
        refine z_iinc _ C dX9_carried_58 rfl (nI_1 _) (zb rfl) ?_
        refine z_goto (tgt := 23) C dX9_carried_61 (by decide) ?_
        exact ih
      · obtain ⟨-, -, -, -, -, hs0, ha, -⟩ := I.A i ei
        refine z_aload_n C dX9_carried_42 rfl ?_
        refine z_getf C kcX9 flX9_66 (P.m) rfl dX9_carried_43 ?_
        refine z_iload_n C dX9_carried_46 rfl ?_
        refine z_iald C (P.m18) (hin) dX9_carried_47 ?_
        rw [hcl]
        refine z_if_ge (tgt := 55) C dX9_carried_48 (by decide) (fun e3 => ?_) (fun e3 => ?_)
        · rw [cnt_neg (show pCarr (rM ρ) d i = false from decide_eq_false (fun q => by rw [show tT (rM (rTh ρ 0)) 18 i = -1 from q.2] at e3; exact absurd e3 (by decide)))] at ih
          refine z_iconst (v := 0) C dX9_carried_55 (by decide) ?_
          refine z_iadd C dX9_carried_56 ?_
          rw [Int32.add_zero]
          refine z_istore_n C dX9_carried_57 (zb rfl) ?_
          refine z_iinc _ C dX9_carried_58 rfl (nI_1 _) (zb rfl) ?_
          refine z_goto (tgt := 23) C dX9_carried_61 (by decide) ?_
          exact ih
        · have c2 : tT (rM ρ) 18 i = -1 := by
            rcases ha with z | z
            · exact z
            · exact absurd (i_le (Int.le_trans hs0 z.1)) e3
          rw [cnt_pos (show pCarr (rM ρ) d i = true from decide_eq_true ⟨e2, c2⟩)] at ih
          refine z_iconst (v := 1) C dX9_carried_51 (by decide) ?_
          refine z_goto (tgt := 56) C dX9_carried_52 (by decide) ?_
          refine z_iadd C dX9_carried_56 ?_
          rw [nI_1]
          refine z_istore_n C dX9_carried_57 (zb rfl) ?_
          refine z_iinc _ C dX9_carried_58 rfl (nI_1 _) (zb rfl) ?_
          refine z_goto (tgt := 23) C dX9_carried_61 (by decide) ?_
          exact ih
  · refine z_if_ne (tgt := 19) C dX9_carried_10 (by decide) (fun e9 => absurd e9 ((fun e => e rfl))) (fun _ => ?_)
    refine z_aload_n C dX9_carried_13 rfl ?_
    refine z_iconst (v := 1) C dX9_carried_14 (by decide) ?_
    refine z_rn (z_runV C kvX9_fails lkX9_102 kcX9 (k9_fails hB P) (P.m) rfl rfl (zb rfl) (zb rfl) (zb rfl) (zb rfl) dX9_carried_15) (fun v9 h9 hv => ?_)
    obtain ⟨P, rfl⟩ := hv
    exact z_iret C E dX9_carried_18 (Or.inr ⟨1, _, Or.inr (Or.inl ⟨hd, rfl⟩), by decide, P, rfl⟩) (zb rfl) (zb rfl)
theorem k9_breaches (hB : Base G) (P : PW G h loc σ ρ) (I : Inv (rM ρ)) (R : RDr ρ) : Ct G mX9_breaches 3 0 0 [.ref (loc 0 4)] h (mo Value.int G loc σ ρ (rTh ρ 0) (True) (True) (True) (nI (cnt (told (rM ρ)) (tn (rM ρ) 2)))) noX := by
  refine Ct.intro (m := 2) hB (by decide +kernel) (zb rfl) fun X C E => ?_
  have hn0 := I.N.1
  have hn1 := I.N.2.1
  have hn2 := I.N.2.2.1
  have hn3 := I.N.2.2.2
  refine z_aload_n C dX9_breaches_0 rfl ?_
  refine z_iconst (v := 0) C dX9_breaches_1 (by decide) ?_
  refine z_putf C kcX9 flX9_73 (P.m) rfl (rfl) (rfl) (zb rfl) dX9_breaches_2 ?_
  intro _ e8; subst e8
  have P := P.sTh 0
  refine z_iconst (v := 0) C dX9_breaches_5 (by decide) ?_
  refine z_istore_n C dX9_breaches_6 (zb rfl) ?_
  refine z_iconst (v := 0) C dX9_breaches_7 (by decide) ?_
  refine z_istore_n C dX9_breaches_8 (zb rfl) ?_
  refine z_loop (I := fun i => Zs G X 3 (hup h (loc 0 4) (oM loc (rTh ρ 0))) 0 0 9 [some (.ref (loc 0 4)), some (.int (nI (cnt (told (rM ρ)) i))), some (.int (nI i))] []) (tn (rM ρ) 2) (fun i hi ih => ?_) 0 (Nat.zero_le _)
  refine z_iload_n C dX9_breaches_9 rfl ?_
  refine z_aload_n C dX9_breaches_10 rfl ?_
  refine z_getf C kcX9 flX9_90 (P.m) rfl dX9_breaches_11 ?_
  refine z_icmp_ge (tgt := 39) C dX9_breaches_14 (by decide) (fun e1 => ?_) (fun e1 => ?_)
  · have ei := i_top (show tn (rM ρ) 2 ≤ 600 by omega) hi e1
    refine z_iload_n C dX9_breaches_39 rfl ?_
    exact z_iret C E dX9_breaches_40 (Or.inl ⟨trivial, trivial, trivial, P, by rw [ei]⟩) (zb rfl) (zb rfl)
  · have ei := i_in (show tn (rM ρ) 2 ≤ 600 by omega) hi e1
    have ih := ih ei
    refine z_iload_n C dX9_breaches_17 rfl ?_
    refine z_aload_n C dX9_breaches_18 rfl ?_
    refine z_iload_n C dX9_breaches_19 rfl ?_
    refine z_rb (z_runV C kvX9_isBroken lkX9_165 kcX9 (k9_isBroken hB P I R ei) (P.m) rfl rfl (zb rfl) (zb rfl) (zb rfl) (zb rfl) dX9_breaches_20) (fun c9 => ?_) (fun c9 => ?_)
    · rw [cnt_pos (show told (rM ρ) i = true from c9)] at ih
      refine z_if_eq (tgt := 30) C dX9_breaches_23 (by decide) (fun e9 => absurd e9 ((by decide))) (fun _ => ?_)
      refine z_iconst (v := 1) C dX9_breaches_26 (by decide) ?_
      refine z_goto (tgt := 31) C dX9_breaches_27 (by decide) ?_
      refine z_iadd C dX9_breaches_31 ?_
      rw [nI_1]
      refine z_istore_n C dX9_breaches_32 (zb rfl) ?_
      refine z_iinc _ C dX9_breaches_33 rfl (nI_1 _) (zb rfl) ?_
      refine z_goto (tgt := 9) C dX9_breaches_36 (by decide) ?_
      exact ih
    · rw [cnt_neg (show told (rM ρ) i = false from Bool.eq_false_iff.mpr c9)] at ih
      refine z_if_eq (tgt := 30) C dX9_breaches_23 (by decide) (fun _ => ?_) (fun e9 => absurd e9 ((fun e => e rfl)))
      refine z_iconst (v := 0) C dX9_breaches_30 (by decide) ?_
      refine z_iadd C dX9_breaches_31 ?_
      rw [Int32.add_zero]
      refine z_istore_n C dX9_breaches_32 (zb rfl) ?_
      refine z_iinc _ C dX9_breaches_33 rfl (nI_1 _) (zb rfl) ?_
      refine z_goto (tgt := 9) C dX9_breaches_36 (by decide) ?_
      exact ih
theorem k9_breachesAt (hB : Base G) (P : PW G h loc σ ρ) (I : Inv (rM ρ)) (R : RDr ρ) {d : Int32} : Ct G mX9_breachesAt 4 0 0 [.ref (loc 0 4), .int d] h (mo Value.int G loc σ ρ (rTh ρ 0) (In d (tn (rM ρ) 0)) (True) (True) (nI (cnt (pTold (rM ρ) d) (tn (rM ρ) 2)))) noX := by
  refine Ct.intro (m := 2) hB (by decide +kernel) (zb rfl) fun X C E => ?_
  have hn0 := I.N.1
  have hn1 := I.N.2.1
  have hn2 := I.N.2.2.1
  have hn3 := I.N.2.2.2
  refine z_aload_n C dX9_breachesAt_0 rfl ?_
  refine z_iload_n C dX9_breachesAt_1 rfl ?_
  refine z_rn (z_runV C kvX9_isNowhere lkX9_147 kcX9 (k9_isNowhere hB P (by omega)) (P.m) rfl rfl (zb rfl) (zb rfl) (zb rfl) (zb rfl) dX9_breachesAt_2) (fun v9 h9 hv => ?_)
  rcases hv with ⟨hd, P, rfl⟩ | ⟨hd, P, rfl⟩
  · refine z_if_eq (tgt := 10) C dX9_breachesAt_5 (by decide) (fun _ => ?_) (fun e9 => absurd e9 ((fun e => e rfl)))
    refine z_iconst (v := 0) C dX9_breachesAt_10 (by decide) ?_
    refine z_istore_n C dX9_breachesAt_11 (zb rfl) ?_
    refine z_iconst (v := 0) C dX9_breachesAt_12 (by decide) ?_
    refine z_istore_n C dX9_breachesAt_13 (zb rfl) ?_
    refine z_loop (I := fun i => Zs G X 4 h9 0 0 14 [some (.ref (loc 0 4)), some (.int d), some (.int (nI (cnt (pTold (rM ρ) d) i))), some (.int (nI i))] []) (tn (rM ρ) 2) (fun i hi ih => ?_) 0 (Nat.zero_le _)
    refine z_iload_n C dX9_breachesAt_14 rfl ?_
    refine z_aload_n C dX9_breachesAt_15 rfl ?_
    refine z_getf C kcX9 flX9_90 (P.m) rfl dX9_breachesAt_16 ?_
    refine z_icmp_ge (tgt := 54) C dX9_breachesAt_19 (by decide) (fun e1 => ?_) (fun e1 => ?_)
    · have ei := i_top (show tn (rM ρ) 2 ≤ 600 by omega) hi e1
      refine z_iload_n C dX9_breachesAt_54 rfl ?_
      exact z_iret C E dX9_breachesAt_55 (Or.inl ⟨hd, trivial, trivial, P, by rw [ei]⟩) (zb rfl) (zb rfl)
    · have ei := i_in (show tn (rM ρ) 2 ≤ 600 by omega) hi e1
      have ih := ih ei
      have hin : vp_in (nI i) 60 := nI_in (by omega) (by decide)
      have hcl : (nI i).toNatClampNeg = i := nI_clamp (by omega)
      refine z_iload_n C dX9_breachesAt_22 rfl ?_
      refine z_aload_n C dX9_breachesAt_23 rfl ?_
      refine z_getf C kcX9 flX9_48 (P.m) rfl dX9_breachesAt_24 ?_
      refine z_iload_n C dX9_breachesAt_27 rfl ?_
      refine z_iald C (P.m11) (hin) dX9_breachesAt_28 ?_
      rw [hcl]
      refine z_iload_n C dX9_breachesAt_29 rfl ?_
      refine z_icmp_ne (tgt := 45) C dX9_breachesAt_30 (by decide) (fun e2 => ?_) (fun e2 => ?_)
      · rw [cnt_neg (show pTold (rM ρ) d i = false from decide_eq_false (fun q => e2 q.1))] at ih
        refine z_iconst (v := 0) C dX9_breachesAt_45 (by decide) ?_
        refine z_iadd C dX9_breachesAt_46 ?_
        rw [Int32.add_zero]
        refine z_istore_n C dX9_breachesAt_47 (zb rfl) ?_
        refine z_iinc _ C dX9_breachesAt_48 rfl (nI_1 _) (zb rfl) ?_
        refine z_goto (tgt := 14) C dX9_breachesAt_51 (by decide) ?_
        exact ih
      · refine z_aload_n C dX9_breachesAt_33 rfl ?_
        refine z_iload_n C dX9_breachesAt_34 rfl ?_
        refine z_rb (z_runV C kvX9_isBroken lkX9_165 kcX9 (k9_isBroken hB P I R ei) (P.m) rfl rfl (zb rfl) (zb rfl) (zb rfl) (zb rfl) dX9_breachesAt_35) (fun c9 => ?_) (fun c9 => ?_)
        · rw [cnt_pos (show pTold (rM ρ) d i = true from decide_eq_true ⟨e2, c9⟩)] at ih
          refine z_if_eq (tgt := 45) C dX9_breachesAt_38 (by decide) (fun e9 => absurd e9 ((by decide))) (fun _ => ?_)
          refine z_iconst (v := 1) C dX9_breachesAt_41 (by decide) ?_
          refine z_goto (tgt := 46) C dX9_breachesAt_42 (by decide) ?_
          refine z_iadd C dX9_breachesAt_46 ?_
          rw [nI_1]
          refine z_istore_n C dX9_breachesAt_47 (zb rfl) ?_
          refine z_iinc _ C dX9_breachesAt_48 rfl (nI_1 _) (zb rfl) ?_
          refine z_goto (tgt := 14) C dX9_breachesAt_51 (by decide) ?_
          exact ih
        · rw [cnt_neg (show pTold (rM ρ) d i = false from decide_eq_false (fun q => c9 q.2))] at ih
          refine z_if_eq (tgt := 45) C dX9_breachesAt_38 (by decide) (fun _ => ?_) (fun e9 => absurd e9 ((fun e => e rfl)))
          refine z_iconst (v := 0) C dX9_breachesAt_45 (by decide) ?_
          refine z_iadd C dX9_breachesAt_46 ?_
          rw [Int32.add_zero]
          refine z_istore_n C dX9_breachesAt_47 (zb rfl) ?_
          refine z_iinc _ C dX9_breachesAt_48 rfl (nI_1 _) (zb rfl) ?_
          refine z_goto (tgt := 14) C dX9_breachesAt_51 (by decide) ?_
          exact ih
  · refine z_if_eq (tgt := 10) C dX9_breachesAt_5 (by decide) (fun e9 => absurd e9 ((by decide))) (fun _ => ?_)
    refine z_iconst (v := 0) C dX9_breachesAt_8 (by decide) ?_
    exact z_iret C E dX9_breachesAt_9 (Or.inr ⟨1, _, Or.inr (Or.inl ⟨hd, rfl⟩), by decide, P, rfl⟩) (zb rfl) (zb rfl)
theorem k9_arrivedMany (hB : Base G) (P : PW G h loc σ ρ) (I : Inv (rM ρ)) : Ct G mX9_arrivedMany 1 0 0 [.ref (loc 0 4)] h (rd h (.int (nI (cnt (pArr (rM ρ)) (tn (rM ρ) 2))))) noX := by
  refine Ct.intro (m := 2) hB (by decide +kernel) (zb rfl) fun X C E => ?_
  have hn2 := I.N.2.2.1
  refine z_iconst (v := 0) C dX9_arrivedMany_0 (by decide) ?_
  refine z_istore_n C dX9_arrivedMany_1 (zb rfl) ?_
  refine z_iconst (v := 0) C dX9_arrivedMany_2 (by decide) ?_
  refine z_istore_n C dX9_arrivedMany_3 (zb rfl) ?_
  refine z_loop (I := fun i => Zs G X 3 h 0 0 4 [some (.ref (loc 0 4)), some (.int (nI (cnt (pArr (rM ρ)) i))), some (.int (nI i))] []) (tn (rM ρ) 2) (fun i hi ih => ?_) 0 (Nat.zero_le _)
  refine z_iload_n C dX9_arrivedMany_4 rfl ?_
  refine z_aload_n C dX9_arrivedMany_5 rfl ?_
  refine z_getf C kcX9 flX9_90 (P.m) rfl dX9_arrivedMany_6 ?_
  refine z_icmp_ge (tgt := 35) C dX9_arrivedMany_9 (by decide) (fun e1 => ?_) (fun e1 => ?_)
  · have ei := i_top (show tn (rM ρ) 2 ≤ 600 by omega) hi e1
    refine z_iload_n C dX9_arrivedMany_35 rfl ?_
    exact z_iret C E dX9_arrivedMany_36 (⟨rfl, by rw [ei]⟩) (zb rfl) (zb rfl)
  · have ei := i_in (show tn (rM ρ) 2 ≤ 600 by omega) hi e1
    have ih := ih ei
    have hin : vp_in (nI i) 60 := nI_in (by omega) (by decide)
    have hcl : (nI i).toNatClampNeg = i := nI_clamp (by omega)
    obtain ⟨-, -, -, -, -, hs0, ha, -⟩ := I.A i ei
    refine z_iload_n C dX9_arrivedMany_12 rfl ?_
    refine z_aload_n C dX9_arrivedMany_13 rfl ?_
    refine z_getf C kcX9 flX9_66 (P.m) rfl dX9_arrivedMany_14 ?_
    refine z_iload_n C dX9_arrivedMany_17 rfl ?_
    refine z_iald C (P.m18) (hin) dX9_arrivedMany_18 ?_
    rw [hcl]
    refine z_if_lt (tgt := 26) C dX9_arrivedMany_19 (by decide) (fun e2 => ?_) (fun e2 => ?_)
    · have c2 : tT (rM ρ) 18 i = -1 := by
        rcases ha with z | z
        · exact z
        · exact absurd e2 (Int32.not_lt.mpr (i_le (Int.le_trans hs0 z.1)))
      rw [cnt_neg (show pArr (rM ρ) i = false from decide_eq_false (fun q => q c2))] at ih
      refine z_iconst (v := 0) C dX9_arrivedMany_26 (by decide) ?_
      refine z_iadd C dX9_arrivedMany_27 ?_
      rw [Int32.add_zero]
      refine z_istore_n C dX9_arrivedMany_28 (zb rfl) ?_
      refine z_iinc _ C dX9_arrivedMany_29 rfl (nI_1 _) (zb rfl) ?_
      refine z_goto (tgt := 4) C dX9_arrivedMany_32 (by decide) ?_
      exact ih
    · have c2 : ¬ tT (rM ρ) 18 i = -1 := fun q => by rw [q] at e2; exact e2 (by decide)
      rw [cnt_pos (show pArr (rM ρ) i = true from decide_eq_true c2)] at ih
      refine z_iconst (v := 1) C dX9_arrivedMany_22 (by decide) ?_
      refine z_goto (tgt := 27) C dX9_arrivedMany_23 (by decide) ?_
      refine z_iadd C dX9_arrivedMany_27 ?_
      rw [nI_1]
      refine z_istore_n C dX9_arrivedMany_28 (zb rfl) ?_
      refine z_iinc _ C dX9_arrivedMany_29 rfl (nI_1 _) (zb rfl) ?_
      refine z_goto (tgt := 4) C dX9_arrivedMany_32 (by decide) ?_
      exact ih
theorem k9_delaySum (hB : Base G) (P : PW G h loc σ ρ) (I : Inv (rM ρ)) : Ct G mX9_delaySum 1 0 0 [.ref (loc 0 4)] h (rd h (.long (dsum (rM ρ) (tn (rM ρ) 2)))) noX := by
  refine Ct.intro (m := 3) hB (by decide +kernel) (zb rfl) fun X C E => ?_
  have hn2 := I.N.2.2.1
  refine z_lconst (v := 0) C dX9_delaySum_0 (by decide) ?_
  refine z_lstore_n C dX9_delaySum_1 (zb rfl) ?_
  refine z_iconst (v := 0) C dX9_delaySum_2 (by decide) ?_
  refine z_istore_n C dX9_delaySum_3 (zb rfl) ?_
  refine z_loop (I := fun i => Zs G X 4 h 0 0 4 [some (.ref (loc 0 4)), some (.long (dsum (rM ρ) i)), none, some (.int (nI i))] []) (tn (rM ρ) 2) (fun i hi ih => ?_) 0 (Nat.zero_le _)
  refine z_iload_n C dX9_delaySum_4 rfl ?_
  refine z_aload_n C dX9_delaySum_5 rfl ?_
  refine z_getf C kcX9 flX9_90 (P.m) rfl dX9_delaySum_6 ?_
  refine z_icmp_ge (tgt := 48) C dX9_delaySum_9 (by decide) (fun e1 => ?_) (fun e1 => ?_)
  · have ei := i_top (show tn (rM ρ) 2 ≤ 600 by omega) hi e1
    refine z_lload_n C dX9_delaySum_48 rfl ?_
    exact z_lret C E dX9_delaySum_49 (⟨rfl, by rw [ei]⟩) (zb rfl) (zb rfl)
  · have ei := i_in (show tn (rM ρ) 2 ≤ 600 by omega) hi e1
    have ih := ih ei
    have hin : vp_in (nI i) 60 := nI_in (by omega) (by decide)
    have hcl : (nI i).toNatClampNeg = i := nI_clamp (by omega)
    obtain ⟨-, -, -, -, -, hs0, ha, -⟩ := I.A i ei
    refine z_lload_n C dX9_delaySum_12 rfl ?_
    refine z_aload_n C dX9_delaySum_13 rfl ?_
    refine z_getf C kcX9 flX9_66 (P.m) rfl dX9_delaySum_14 ?_
    refine z_iload_n C dX9_delaySum_17 rfl ?_
    refine z_iald C (P.m18) (hin) dX9_delaySum_18 ?_
    rw [hcl]
    refine z_if_lt (tgt := 39) C dX9_delaySum_19 (by decide) (fun e2 => ?_) (fun e2 => ?_)
    · have c2 : tT (rM ρ) 18 i = -1 := by
        rcases ha with z | z
        · exact z
        · exact absurd e2 (Int32.not_lt.mpr (i_le (Int.le_trans hs0 z.1)))
      rw [show dsum (rM ρ) (i + 1) = dsum (rM ρ) i from if_pos c2] at ih
      refine z_lconst (v := 0) C dX9_delaySum_39 (by decide) ?_
      refine z_ladd C dX9_delaySum_40 ?_
      rw [Int64.add_zero]
      refine z_lstore_n C dX9_delaySum_41 (zb rfl) ?_
      refine z_iinc _ C dX9_delaySum_42 rfl (nI_1 _) (zb rfl) ?_
      refine z_goto (tgt := 4) C dX9_delaySum_45 (by decide) ?_
      exact ih
    · have c2 : ¬ tT (rM ρ) 18 i = -1 := fun q => by rw [q] at e2; exact e2 (by decide)
      rw [show dsum (rM ρ) (i + 1) = dsum (rM ρ) i + (tT (rM ρ) 18 i - tT (rM ρ) 16 i).toInt64 from if_neg c2] at ih
      refine z_aload_n C dX9_delaySum_22 rfl ?_
      refine z_getf C kcX9 flX9_66 (P.m) rfl dX9_delaySum_23 ?_
      refine z_iload_n C dX9_delaySum_26 rfl ?_
      refine z_iald C (P.m18) (hin) dX9_delaySum_27 ?_
      rw [hcl]
      refine z_aload_n C dX9_delaySum_28 rfl ?_
      refine z_getf C kcX9 flX9_60 (P.m) rfl dX9_delaySum_29 ?_
      refine z_iload_n C dX9_delaySum_32 rfl ?_
      refine z_iald C (P.m16) (hin) dX9_delaySum_33 ?_
      rw [hcl]
      refine z_isub C dX9_delaySum_34 ?_
      refine z_i2l C dX9_delaySum_35 ?_
      refine z_goto (tgt := 40) C dX9_delaySum_36 (by decide) ?_
      refine z_ladd C dX9_delaySum_40 ?_
      refine z_lstore_n C dX9_delaySum_41 (zb rfl) ?_
      refine z_iinc _ C dX9_delaySum_42 rfl (nI_1 _) (zb rfl) ?_
      refine z_goto (tgt := 4) C dX9_delaySum_45 (by decide) ?_
      exact ih
theorem k9_mean (hB : Base G) (P : PW G h loc σ ρ) (I : Inv (rM ρ)) : Ct G mX9_mean 2 0 0 [.ref (loc 0 4)] h (fun o h' => (¬ cnt (pArr (rM ρ)) (tn (rM ρ) 2) = 0 ∧ h = h' ∧ o = some (.double (mean (rM ρ)))) ∨ (cnt (pArr (rM ρ)) (tn (rM ρ) 2) = 0 ∧ PW G h' loc σ (rTh ρ 1) ∧ o = some (.double (FP.i2d 0)))) noX := by
  refine Ct.intro (m := 0) hB (by decide +kernel) (zb rfl) fun X C E => ?_
  have hn2 := I.N.2.2.1
  have hc := cnt_le (pArr (rM ρ)) (tn (rM ρ) 2)
  refine z_aload_n C dX9_mean_0 rfl ?_
  refine z_rd (z_runV C kvX9_arrivedMany lkX9_172 kcX9 (k9_arrivedMany hB P I) (P.m) rfl rfl (zb rfl) (zb rfl) (zb rfl) (zb rfl) dX9_mean_1) ?_
  refine z_if_ne (tgt := 16) C dX9_mean_4 (by decide) (fun e1 => ?_) (fun e1 => ?_)
  · have c0 : ¬ cnt (pArr (rM ρ)) (tn (rM ρ) 2) = 0 := fun q => e1 (by rw [q]; rfl)
    refine z_aload_n C dX9_mean_16 rfl ?_
    refine z_rd (z_runV C kvX9_delaySum lkX9_168 kcX9 (k9_delaySum hB P I) (P.m) rfl rfl (zb rfl) (zb rfl) (zb rfl) (zb rfl) dX9_mean_17) ?_
    refine z_l2d C dX9_mean_20 ?_
    refine z_aload_n C dX9_mean_21 rfl ?_
    refine z_rd (z_runV C kvX9_arrivedMany lkX9_172 kcX9 (k9_arrivedMany hB P I) (P.m) rfl rfl (zb rfl) (zb rfl) (zb rfl) (zb rfl) dX9_mean_22) ?_
    refine z_i2d C dX9_mean_25 ?_
    refine z_ddiv C dX9_mean_26 ((I.men c0).1) ?_
    exact z_dret C E dX9_mean_27 (Or.inl ⟨c0, rfl, rfl⟩) (zb rfl) (zb rfl)
  · have c0 : cnt (pArr (rM ρ)) (tn (rM ρ) 2) = 0 := (nI_eq (by omega) (by omega)).mp e1
    refine z_aload_n C dX9_mean_7 rfl ?_
    refine z_iconst (v := 1) C dX9_mean_8 (by decide) ?_
    refine z_rn (z_runV C kvX9_fails lkX9_102 kcX9 (k9_fails hB P) (P.m) rfl rfl (zb rfl) (zb rfl) (zb rfl) (zb rfl) dX9_mean_9) (fun v9 h9 hv => ?_)
    obtain ⟨P, rfl⟩ := hv
    refine z_i2d C dX9_mean_12 ?_
    refine z_goto (tgt := 27) C dX9_mean_13 (by decide) ?_
    exact z_dret C E dX9_mean_27 (Or.inr ⟨c0, P, rfl⟩) (zb rfl) (zb rfl)
theorem k9_delays (hB : Base G) (P : PW G h loc σ ρ) (I : Inv (rM ρ)) (R : RDr ρ) : Ct G mX9_delays 2 0 0 [.ref (loc 0 4)] h (mo Value.long G loc σ ρ (rTh ρ 0) (True) (True) (True) (dsum (rM ρ) (tn (rM ρ) 2))) noX := by
  refine Ct.intro (m := 0) hB (by decide +kernel) (zb rfl) fun X C E => ?_
  have hn0 := I.N.1
  have hn1 := I.N.2.1
  have hn2 := I.N.2.2.1
  have hn3 := I.N.2.2.2
  refine z_aload_n C dX9_delays_0 rfl ?_
  refine z_iconst (v := 0) C dX9_delays_1 (by decide) ?_
  refine z_putf C kcX9 flX9_73 (P.m) rfl (rfl) (rfl) (zb rfl) dX9_delays_2 ?_
  intro _ e8; subst e8
  have P := P.sTh 0
  refine z_aload_n C dX9_delays_5 rfl ?_
  refine z_rd (z_runV C kvX9_delaySum lkX9_168 kcX9 (k9_delaySum hB P I) (P.m) rfl rfl (zb rfl) (zb rfl) (zb rfl) (zb rfl) dX9_delays_6) ?_
  exact z_lret C E dX9_delays_9 (Or.inl ⟨trivial, trivial, trivial, P, rfl⟩) (zb rfl) (zb rfl)
theorem k9_meanDelay (hB : Base G) (P : PW G h loc σ ρ) (I : Inv (rM ρ)) (R : RDr ρ) : Ct G mX9_meanDelay 3 0 0 [.ref (loc 0 4)] h (mo Value.double G loc σ ρ (rTh ρ 0) (¬ cnt (pArr (rM ρ)) (tn (rM ρ) 2) = 0) (True) (True) (mean (rM ρ))) noX := by
  refine Ct.intro (m := 0) hB (by decide +kernel) (zb rfl) fun X C E => ?_
  have hn0 := I.N.1
  have hn1 := I.N.2.1
  have hn2 := I.N.2.2.1
  have hn3 := I.N.2.2.2
  refine z_aload_n C dX9_meanDelay_0 rfl ?_
  refine z_iconst (v := 0) C dX9_meanDelay_1 (by decide) ?_
  refine z_putf C kcX9 flX9_73 (P.m) rfl (rfl) (rfl) (zb rfl) dX9_meanDelay_2 ?_
  intro _ e8; subst e8
  have P := P.sTh 0
  refine z_aload_n C dX9_meanDelay_5 rfl ?_
  refine z_rn (z_runV C kvX9_mean lkX9_176 kcX9 (k9_mean hB P I) (P.m) rfl rfl (zb rfl) (zb rfl) (zb rfl) (zb rfl) dX9_meanDelay_6) (fun v9 h9 hv => ?_)
  rcases hv with ⟨hd, rfl, rfl⟩ | ⟨hd, P, rfl⟩
  · exact z_dret C E dX9_meanDelay_9 (Or.inl ⟨hd, trivial, trivial, P, rfl⟩) (zb rfl) (zb rfl)
  · exact z_dret C E dX9_meanDelay_9 (Or.inr ⟨1, _, Or.inr (Or.inl ⟨fun q => q hd, rfl⟩), by decide, P, rfl⟩) (zb rfl) (zb rfl)
theorem k9_meanBits (hB : Base G) (P : PW G h loc σ ρ) (I : Inv (rM ρ)) (R : RDr ρ) : Ct G mX9_meanBits 3 0 0 [.ref (loc 0 4)] h (mo Value.long G loc σ ρ (rTh ρ 0) (¬ cnt (pArr (rM ρ)) (tn (rM ρ) 2) = 0) (True) (True) ((mean (rM ρ)).toInt64)) noX := by
  refine Ct.intro (m := 0) hB (by decide +kernel) (zb rfl) fun X C E => ?_
  have hn0 := I.N.1
  have hn1 := I.N.2.1
  have hn2 := I.N.2.2.1
  have hn3 := I.N.2.2.2
  refine z_aload_n C dX9_meanBits_0 rfl ?_
  refine z_iconst (v := 0) C dX9_meanBits_1 (by decide) ?_
  refine z_putf C kcX9 flX9_73 (P.m) rfl (rfl) (rfl) (zb rfl) dX9_meanBits_2 ?_
  intro _ e8; subst e8
  have P := P.sTh 0
  refine z_aload_n C dX9_meanBits_5 rfl ?_
  refine z_rn (z_runV C kvX9_mean lkX9_176 kcX9 (k9_mean hB P I) (P.m) rfl rfl (zb rfl) (zb rfl) (zb rfl) (zb rfl) dX9_meanBits_6) (fun v9 h9 hv => ?_)
  rcases hv with ⟨hd, rfl, rfl⟩ | ⟨hd, P, rfl⟩
  · refine z_rd (z_runS C ksJxe99ae_doubleToLongBits_ccdee lkX9_180 (k_dBits hB (okD_eq (I.men hd).2)) rfl rfl (zb rfl) (zb rfl) (zb rfl) (zb rfl) dX9_meanBits_9) ?_
    exact z_lret C E dX9_meanBits_12 (Or.inl ⟨hd, trivial, trivial, P, rfl⟩) (zb rfl) (zb rfl)
  · refine z_rd (z_runS C ksJxe99ae_doubleToLongBits_ccdee lkX9_180 (k_dBits hB (show FP.dcmp (FP.i2d 0) (FP.i2d 0) = some .eq by decide +kernel)) rfl rfl (zb rfl) (zb rfl) (zb rfl) (zb rfl) dX9_meanBits_9) ?_
    exact z_lret C E dX9_meanBits_12 (Or.inr ⟨1, _, Or.inr (Or.inl ⟨fun q => q hd, rfl⟩), by decide, P, rfl⟩) (zb rfl) (zb rfl)
theorem k9_arrivedShare (hB : Base G) (P : PW G h loc σ ρ) (I : Inv (rM ρ)) (R : RDr ρ) : Ct G mX9_arrivedShare 3 0 0 [.ref (loc 0 4)] h (mo Value.float G loc σ ρ (rTh ρ 0) (¬ tn (rM ρ) 2 = 0) (True) (True) (share (rM ρ))) noX := by
  refine Ct.intro (m := 0) hB (by decide +kernel) (zb rfl) fun X C E => ?_
  have hn0 := I.N.1
  have hn1 := I.N.2.1
  have hn2 := I.N.2.2.1
  have hn3 := I.N.2.2.2
  refine z_aload_n C dX9_arrivedShare_0 rfl ?_
  refine z_iconst (v := 0) C dX9_arrivedShare_1 (by decide) ?_
  refine z_putf C kcX9 flX9_73 (P.m) rfl (rfl) (rfl) (zb rfl) dX9_arrivedShare_2 ?_
  intro _ e8; subst e8
  have P := P.sTh 0
  have hc := cnt_le (pArr (rM ρ)) (tn (rM ρ) 2)
  refine z_aload_n C dX9_arrivedShare_5 rfl ?_
  refine z_getf C kcX9 flX9_90 (P.m) rfl dX9_arrivedShare_6 ?_
  refine z_if_ne (tgt := 21) C dX9_arrivedShare_9 (by decide) (fun e1 => ?_) (fun e1 => ?_)
  · have c0 : ¬ tn (rM ρ) 2 = 0 := fun q => e1 (by rw [show tn (rM (rTh ρ 0)) 2 = 0 from q]; rfl)
    refine z_aload_n C dX9_arrivedShare_21 rfl ?_
    refine z_rd (z_runV C kvX9_arrivedMany lkX9_172 kcX9 (k9_arrivedMany hB P I) (P.m) rfl rfl (zb rfl) (zb rfl) (zb rfl) (zb rfl) dX9_arrivedShare_22) ?_
    refine z_i2f C dX9_arrivedShare_25 ?_
    refine z_aload_n C dX9_arrivedShare_26 rfl ?_
    refine z_getf C kcX9 flX9_90 (P.m) rfl dX9_arrivedShare_27 ?_
    refine z_i2f C dX9_arrivedShare_30 ?_
    refine z_fdiv C dX9_arrivedShare_31 ((fp_share hc (by omega) hn2).1) ?_
    exact z_fret C E dX9_arrivedShare_32 (Or.inl ⟨c0, trivial, trivial, P, rfl⟩) (zb rfl) (zb rfl)
  · have c0 : tn (rM ρ) 2 = 0 := (nI_eq (by omega) (by omega)).mp e1
    refine z_aload_n C dX9_arrivedShare_12 rfl ?_
    refine z_iconst (v := 1) C dX9_arrivedShare_13 (by decide) ?_
    refine z_rn (z_runV C kvX9_fails lkX9_102 kcX9 (k9_fails hB P) (P.m) rfl rfl (zb rfl) (zb rfl) (zb rfl) (zb rfl) dX9_arrivedShare_14) (fun v9 h9 hv => ?_)
    obtain ⟨P, rfl⟩ := hv
    refine z_i2f C dX9_arrivedShare_17 ?_
    refine z_goto (tgt := 32) C dX9_arrivedShare_18 (by decide) ?_
    exact z_fret C E dX9_arrivedShare_32 (Or.inr ⟨1, _, Or.inr (Or.inl ⟨fun q => q c0, rfl⟩), by decide, P, rfl⟩) (zb rfl) (zb rfl)
theorem k9_answer (hB : Base G) (P : PW G h loc σ ρ) (I : Inv (rM ρ)) (R : RDr ρ) {d k : Int32} : Ct G mX9_answer 4 0 0 [.ref (loc 0 4), .int d, .int k] h (mo Value.int G loc σ ρ (rTh ρ 0) (In d (tn (rM ρ) 0)) (hasK (rM ρ) k) (True) (letter (rM ρ) (ix (tT (rM ρ) 7 (ix d))) k d (clk (rM ρ) (ix d)))) noX := by
  refine Ct.intro (m := 0) hB (by decide +kernel) (zb rfl) fun X C E => ?_
  have hn0 := I.N.1
  have hn1 := I.N.2.1
  have hn2 := I.N.2.2.1
  have hn3 := I.N.2.2.2
  refine z_aload_n C dX9_answer_0 rfl ?_
  refine z_iload_n C dX9_answer_1 rfl ?_
  refine z_iload_n C dX9_answer_2 rfl ?_
  refine z_rn (z_runV C kvX9_isNone lkX9_140 kcX9 (k9_isNone hB P I R) (P.m) rfl rfl (zb rfl) (zb rfl) (zb rfl) (zb rfl) dX9_answer_3) (fun v9 h9 hv => ?_)
  rcases hv with ⟨hd, hk, P, rfl⟩ | ⟨hd, P, rfl⟩ | ⟨hd, hk, P, rfl⟩
  · have hi := (hd.ix (by omega)).1
    have hk0 := ((R.isKey I.K).mpr hk).1
    refine z_if_eq (tgt := 13) C dX9_answer_6 (by decide) (fun _ => ?_) (fun e9 => absurd e9 ((fun e => e rfl)))
    refine z_aload_n C dX9_answer_13 rfl ?_
    refine z_aload_n C dX9_answer_14 rfl ?_
    refine z_getf C kcX9 flX9_32 (P.m) rfl dX9_answer_15 ?_
    refine z_iload_n C dX9_answer_18 rfl ?_
    refine z_iald C (P.m7) (hd.vp hn0 (by decide)) dX9_answer_19 ?_
    refine z_iload_n C dX9_answer_20 rfl ?_
    refine z_iload_n C dX9_answer_21 rfl ?_
    refine z_aload_n C dX9_answer_22 rfl ?_
    refine z_iload_n C dX9_answer_23 rfl ?_
    refine z_rd (z_runV C kvX9_clockOf lkX9_123 kcX9 (k9_clockOf hB P hn0 hd (I.dr hi).1) (P.m) rfl rfl (zb rfl) (zb rfl) (zb rfl) (zb rfl) dX9_answer_24) ?_
    refine z_rd (z_runV C kvX9_letter lkX9_143 kcX9 (k9_letter hB P hn3 I.K R (I.D _ hi).2.2.2.1 hk0) (P.m) rfl rfl (zb rfl) (zb rfl) (zb rfl) (zb rfl) dX9_answer_27) ?_
    exact z_zret C E (letter_nar _ _ _ _ _) dX9_answer_30 (Or.inl ⟨hd, hk, trivial, P, rfl⟩) (zb rfl) (zb rfl)
  · refine z_if_eq (tgt := 13) C dX9_answer_6 (by decide) (fun e9 => absurd e9 ((by decide))) (fun _ => ?_)
    refine z_iconst (v := 0) C dX9_answer_9 (by decide) ?_
    refine z_goto (tgt := 30) C dX9_answer_10 (by decide) ?_
    exact z_zret C E (rfl) dX9_answer_30 (Or.inr ⟨1, _, Or.inr (Or.inl ⟨hd, rfl⟩), by decide, P, rfl⟩) (zb rfl) (zb rfl)
  · refine z_if_eq (tgt := 13) C dX9_answer_6 (by decide) (fun e9 => absurd e9 ((by decide))) (fun _ => ?_)
    refine z_iconst (v := 0) C dX9_answer_9 (by decide) ?_
    refine z_goto (tgt := 30) C dX9_answer_10 (by decide) ?_
    exact z_zret C E (rfl) dX9_answer_30 (Or.inr ⟨2, _, Or.inr (Or.inr (Or.inl ⟨hd, hk, rfl⟩)), by decide, P, rfl⟩) (zb rfl) (zb rfl)
end
