/-! the loop of the law, and its start -/
section
variable {G : GT} {X : XT} {LL x m o d9 : Nat} {xs : Nat → Int32}
theorem tsw_all : ∀ j, j < 36 + 1 → ∃ tgt, ((#[164, 244, 324, 392, 448, 461, 505, 573, 617, 673, 686, 742, 810, 878, 946, 1002, 1080, 1136, 1192, 1248, 1304, 1372, 1428, 1484, 1497, 1553, 1609, 1665, 1721, 1784, 1847, 1860, 1916, 1930, 1995, 2038, 2104] : Array Int)[j]?).map (fun f => ((44 : Nat) : Int) + f) = some ((tgt : Nat) : Int) ∧ tgt ∈ ([208, 288, 368, 436, 492, 505, 549, 617, 661, 717, 730, 786, 854, 922, 990, 1046, 1124, 1180, 1236, 1292, 1348, 1416, 1472, 1528, 1541, 1597, 1653, 1709, 1765, 1828, 1891, 1904, 1960, 1974, 2039, 2082, 2148] : List Nat) := by
  intro j hj
  have key : ∀ j, j < 37 → ((#[164, 244, 324, 392, 448, 461, 505, 573, 617, 673, 686, 742, 810, 878, 946, 1002, 1080, 1136, 1192, 1248, 1304, 1372, 1428, 1484, 1497, 1553, 1609, 1665, 1721, 1784, 1847, 1860, 1916, 1930, 1995, 2038, 2104] : Array Int)[j]?).map (fun f => ((44 : Nat) : Int) + f) = some (((([208, 288, 368, 436, 492, 505, 549, 617, 661, 717, 730, 786, 854, 922, 990, 1046, 1124, 1180, 1236, 1292, 1348, 1416, 1472, 1528, 1541, 1597, 1653, 1709, 1765, 1828, 1891, 1904, 1960, 1974, 2039, 2082, 2148] : List Nat)[j]?).getD 0 : Nat) : Int) ∧ ((([208, 288, 368, 436, 492, 505, 549, 617, 661, 717, 730, 786, 854, 922, 990, 1046, 1124, 1180, 1236, 1292, 1348, 1416, 1472, 1528, 1541, 1597, 1653, 1709, 1765, 1828, 1891, 1904, 1960, 1974, 2039, 2082, 2148] : List Nat)[j]?).getD 0) ∈ ([208, 288, 368, 436, 492, 505, 549, 617, 661, 717, 730, 786, 854, 922, 990, 1046, 1124, 1180, 1236, 1292, 1348, 1416, 1472, 1528, 1541, 1597, 1653, 1709, 1765, 1828, 1891, 1904, 1960, 1974, 2039, 2082, 2148] : List Nat) := by decide +kernel
  exact ⟨_, key j hj⟩
theorem law_loop (hB : Base G) (C : Cx G X RL cL_law 9 20 603072 7211114) (S9 : Sc G X LL xs) (hL : LL ≤ 2048) (hend : ∀ (h : Hp) (uc us : Nat) (L : List (Option Value)), uc ≤ 603072 → us ≤ 7211114 → Zs G X 9 h uc us 2168 L [.int 1]) : ∀ j, j ≤ LL / 4 → ∀ h, Stt G h x m o d9 j → Zs G X 9 h (400 + 20 * j) (5000 + 4400 * j) 28 [some (.ref (gb G)), some (.ref x), some (.ref m), some (.ref o), some (.ref d9), some (.int (nI (4 * j))), none, none, none] [] := by
  refine z_loop (I := fun j => ∀ h, Stt G h x m o d9 j → Zs G X 9 h (400 + 20 * j) (5000 + 4400 * j) 28 [some (.ref (gb G)), some (.ref x), some (.ref m), some (.ref o), some (.ref d9), some (.int (nI (4 * j))), none, none, none] []) (LL / 4) (fun j hj ih h S => ?_)
  have e4 : (nI LL - 4).toInt = (LL : Int) - 4 := by
    rw [Int32.toInt_sub, nI_int (by omega), show (4 : Int32).toInt = 4 by decide]
    exact Int.bmod_eq_of_le (by omega) (by omega)
  by_cases hx : 4 * j + 4 ≤ LL
  · have v0 : vp_in (nI (4 * j)) LL := nI_in (by omega) (by omega)
    have v1 : vp_in (nI (4 * j) + 1) LL := by
      rw [show (nI (4 * j) + 1 : Int32) = nI (4 * j + 1) from nI_add (4 * j) 1]
      exact nI_in (by omega) (by omega)
    have v2 : vp_in (nI (4 * j) + 2) LL := by
      rw [show (nI (4 * j) + 2 : Int32) = nI (4 * j + 2) from nI_add (4 * j) 2]
      exact nI_in (by omega) (by omega)
    have v3 : vp_in (nI (4 * j) + 3) LL := by
      rw [show (nI (4 * j) + 3 : Int32) = nI (4 * j + 3) from nI_add (4 * j) 3]
      exact nI_in (by omega) (by omega)
    have hn : j < 512 := by omega
    have hu : 400 + 20 * j + 20 ≤ 603072 := by omega
    have hs9 : 5000 + 4400 * j + 4400 ≤ 7211114 := by omega
    have kk : Nx G X (400 + 20 * j) (5000 + 4400 * j) j x m o d9 (nI (4 * j)) := fun h2 S2 => by
      refine z_iinc _ C dL_law_2161 rfl ((show nI (4 * j) + Int32.ofInt 4 = nI (4 * (j + 1)) from nI_add (4 * j) 4)) (zb rfl) ?_
      refine z_goto (tgt := 28) C dL_law_2164 (by decide) ?_
      have i9 : j < LL / 4 := by omega
      have ih2 := ih i9 h2 S2
      have u1 : 400 + 20 * j + 20 ≤ 400 + 20 * (j + 1) := by omega
      have u2 : 5000 + 4400 * j + 4400 ≤ 5000 + 4400 * (j + 1) := Nat.le_of_eq (by rw [Nat.mul_add, Nat.mul_one, Nat.add_assoc])
      exact Zs.up u1 u2 ih2
    refine z_iload C dL_law_28 rfl ?_
    refine z_aload_n C dL_law_30 rfl ?_
    refine z_slen C S9 dL_law_31 ?_
    refine z_iconst (v := 4) C dL_law_32 (by decide) ?_
    refine z_isub C dL_law_33 ?_
    refine z_icmp_gt (tgt := 2167) C dL_law_34 (by decide) (fun e9 => absurd e9 ((by rw [Int32.lt_iff_toInt_lt, e4, nI_int (by omega)]; omega))) (fun _ => ?_)
    refine z_aload_n C dL_law_37 rfl ?_
    refine z_iload C dL_law_38 rfl ?_
    refine z_sld C S9 v0 dL_law_40 ?_
    refine z_bipush (v := 63) C dL_law_41 (by decide) ?_
    refine z_iand C dL_law_43 ?_
    refine z_tsw (tgtd := 2161) (n := 36) C dL_law_44 (by decide) tsw_all ?_ ?_
    · exact List.forall_mem_cons.mpr ⟨w_addKey hB C S9 v1 v2 v3 hn hu hs9 S kk, List.forall_mem_cons.mpr ⟨w_setTimes hB C S9 v1 v2 v3 hn hu hs9 S kk, List.forall_mem_cons.mpr ⟨w_setDoors hB C S9 v1 v2 v3 hn hu hs9 S kk, List.forall_mem_cons.mpr ⟨w_revoke hB C S9 v1 v2 v3 hn hu hs9 S kk, List.forall_mem_cons.mpr ⟨w_version hB C S9 v1 v2 v3 hn hu hs9 S kk, List.forall_mem_cons.mpr ⟨w_addDoor hB C S9 v1 v2 v3 hn hu hs9 S kk, List.forall_mem_cons.mpr ⟨w_setRate hB C S9 v1 v2 v3 hn hu hs9 S kk, List.forall_mem_cons.mpr ⟨w_addPhone hB C S9 v1 v2 v3 hn hu hs9 S kk, List.forall_mem_cons.mpr ⟨w_pass hB C S9 v1 v2 v3 hn hu hs9 S kk, List.forall_mem_cons.mpr ⟨w_time hB C S9 v1 v2 v3 hn hu hs9 S kk, List.forall_mem_cons.mpr ⟨w_meetCloud hB C S9 v1 v2 v3 hn hu hs9 S kk, List.forall_mem_cons.mpr ⟨w_meetDoor hB C S9 v1 v2 v3 hn hu hs9 S kk, List.forall_mem_cons.mpr ⟨w_opn hB C S9 v1 v2 v3 hn hu hs9 S kk, List.forall_mem_cons.mpr ⟨w_answer hB C S9 v1 v2 v3 hn hu hs9 S kk, List.forall_mem_cons.mpr ⟨w_clock hB C S9 v1 v2 v3 hn hu hs9 S kk, List.forall_mem_cons.mpr ⟨w_drifted hB C S9 v1 v2 v3 hn hu hs9 S kk, List.forall_mem_cons.mpr ⟨w_driftedBits hB C S9 v1 v2 v3 hn hu hs9 S kk, List.forall_mem_cons.mpr ⟨w_versionOf hB C S9 v1 v2 v3 hn hu hs9 S kk, List.forall_mem_cons.mpr ⟨w_versionByReplay hB C S9 v1 v2 v3 hn hu hs9 S kk, List.forall_mem_cons.mpr ⟨w_versionOn hB C S9 v1 v2 v3 hn hu hs9 S kk, List.forall_mem_cons.mpr ⟨w_fromIn hB C S9 v1 v2 v3 hn hu hs9 S kk, List.forall_mem_cons.mpr ⟨w_waiting hB C S9 v1 v2 v3 hn hu hs9 S kk, List.forall_mem_cons.mpr ⟨w_carried hB C S9 v1 v2 v3 hn hu hs9 S kk, List.forall_mem_cons.mpr ⟨w_audits hB C S9 v1 v2 v3 hn hu hs9 S kk, List.forall_mem_cons.mpr ⟨w_letterOf hB C S9 v1 v2 v3 hn hu hs9 S kk, List.forall_mem_cons.mpr ⟨w_letterByList hB C S9 v1 v2 v3 hn hu hs9 S kk, List.forall_mem_cons.mpr ⟨w_minuteOf hB C S9 v1 v2 v3 hn hu hs9 S kk, List.forall_mem_cons.mpr ⟨w_versionAt hB C S9 v1 v2 v3 hn hu hs9 S kk, List.forall_mem_cons.mpr ⟨w_hasArrived hB C S9 v1 v2 v3 hn hu hs9 S kk, List.forall_mem_cons.mpr ⟨w_isBreach hB C S9 v1 v2 v3 hn hu hs9 S kk, List.forall_mem_cons.mpr ⟨w_breaches hB C S9 v1 v2 v3 hn hu hs9 S kk, List.forall_mem_cons.mpr ⟨w_breachesAt hB C S9 v1 v2 v3 hn hu hs9 S kk, List.forall_mem_cons.mpr ⟨w_delays hB C S9 v1 v2 v3 hn hu hs9 S kk, List.forall_mem_cons.mpr ⟨w_meanDelay hB C S9 v1 v2 v3 hn hu hs9 S kk, List.forall_mem_cons.mpr ⟨w_meanBits hB C S9 v1 v2 v3 hn hu hs9 S kk, List.forall_mem_cons.mpr ⟨w_arrivedShare hB C S9 v1 v2 v3 hn hu hs9 S kk, List.forall_mem_cons.mpr ⟨w_isSound hB C S9 v1 v2 v3 hn hu hs9 S kk, fun _ hm => absurd hm List.not_mem_nil⟩⟩⟩⟩⟩⟩⟩⟩⟩⟩⟩⟩⟩⟩⟩⟩⟩⟩⟩⟩⟩⟩⟩⟩⟩⟩⟩⟩⟩⟩⟩⟩⟩⟩⟩⟩⟩
    · exact Zs.up (by omega) (by omega) (kk h (S.up (Nat.le_succ j)))
  · refine z_iload C dL_law_28 rfl ?_
    refine z_aload_n C dL_law_30 rfl ?_
    refine z_slen C S9 dL_law_31 ?_
    refine z_iconst (v := 4) C dL_law_32 (by decide) ?_
    refine z_isub C dL_law_33 ?_
    refine z_icmp_gt (tgt := 2167) C dL_law_34 (by decide) (fun _ => ?_) (fun e9 => absurd ((by rw [Int32.lt_iff_toInt_lt, e4, nI_int (by omega)]; omega)) e9)
    refine z_iconst (v := 1) C dL_law_2167 (by decide) ?_
    exact hend _ _ _ _ (by omega) (by omega)
theorem PD.pw {h : Hp} {loc : Nat → Nat → Nat} {D : Nat → Nat → Bool} {O : Nat → Nat → va_E} (P : PD h loc D O) (hD : ∀ k i, dm (tn s0) k i → D k i = true ∧ O k i = ob G loc s0 rho0 k i) : PW G h loc s0 rho0 :=
  ⟨fun k i hd => by rw [P.1 k i (hD k i hd).1, (hD k i hd).2], fun k i k' i' h1 h2 => P.2 k i k' i' (hD k i h1).1 (hD k' i' h2).1, fun _ => Nat.zero_le _⟩
theorem RD.zero : RDr rho0 := by
  have z : ∀ v, v ≤ tn s0 3 → v = 0 := fun v hv => Nat.le_zero.mp hv
  refine ⟨rfl, fun v hv => absurd hv (Nat.not_lt_zero v), fun v hv => ⟨0, Nat.zero_le _, rfl, fun k _ => ?_⟩, fun v hv k _ c e => ?_, rfl, fun _ _ => Or.inl rfl, fun _ _ _ _ _ => rfl⟩
  · rw [z v hv]
    exact ⟨fun _ => Nat.zero_le _, fun _ => rfl⟩
  · rw [z v hv] at e
    cases e
theorem ob0_congr {l l2 : Nat → Nat → Nat} (hl : ∀ k i, (k = 0 ∧ i < 4) ∨ (k = 1 ∧ i < 5) → l2 k i = l k i) : ∀ i, i < 4 → ob0 G l s0 rho0 i = ob0 G l2 s0 rho0 i := fun i hi => by
  have e01 := hl 0 1 (Or.inl ⟨rfl, by decide⟩)
  have e02 := hl 0 2 (Or.inl ⟨rfl, by decide⟩)
  have e03 := hl 0 3 (Or.inl ⟨rfl, by decide⟩)
  have e10 := hl 1 0 (Or.inr ⟨rfl, by decide⟩)
  have e11 := hl 1 1 (Or.inr ⟨rfl, by decide⟩)
  have e12 := hl 1 2 (Or.inr ⟨rfl, by decide⟩)
  have e13 := hl 1 3 (Or.inr ⟨rfl, by decide⟩)
  have e14 := hl 1 4 (Or.inr ⟨rfl, by decide⟩)
  match i, hi with
  | 0, _ =>
    show (Sum.inr (8, [Value.ref (l 0 1), .ref (l 1 0), .ref (l 1 1), .ref (l 1 2), .ref (l 0 2), .int 0]) : va_E) = Sum.inr (8, [Value.ref (l2 0 1), .ref (l2 1 0), .ref (l2 1 1), .ref (l2 1 2), .ref (l2 0 2), .int 0])
    rw [e01, e10, e11, e12, e02]
  | 1, _ =>
    show (Sum.inr (2, [Value.ref (l 1 3), .int 0]) : va_E) = Sum.inr (2, [Value.ref (l2 1 3), .int 0])
    rw [e13]
  | 2, _ =>
    show (Sum.inr (6, [Value.ref (l 1 4), .ref (l 0 3)]) : va_E) = Sum.inr (6, [Value.ref (l2 1 4), .ref (l2 0 3)])
    rw [e14, e03]
  | 3, _ => rfl
  | i + 4, hi => exact absurd hi (by omega)
abbrev oNX : va_E := .inr (8, [.null, .null, .null, .null, .null, .int 0])
abbrev oNM : va_E := .inr (9, [.int 0, .null, .null, .null, .null, .null, .null, .int 0, .int 0, .null, .null, .null, .null, .null, .int 0, .int 0, .null, .null, .null, .null, .null, .null, .null, .null, .int 0])
theorem law_start (hB : Base G) (C : Cx G X RL cL_law 9 20 603072 7211114) (S9 : Sc G X LL xs) (hL : LL ≤ 2048) (hend : ∀ (h : Hp) (uc us : Nat) (L : List (Option Value)), uc ≤ 603072 → us ≤ 7211114 → Zs G X 9 h uc us 2168 L [.int 1]) : Zs G X 9 (fun _ => none) 0 0 0 [some (.ref (gb G)), none, none, none, none, none, none, none, none] [] := by
  have P0 : PD (fun _ => none) (fun _ _ => 0) (fun _ _ => false) (fun _ _ => oNX) := ⟨fun _ _ e => (nomatch e), fun _ _ _ _ e => (nomatch e)⟩
  refine z_new [.null, .null, .null, .null, .null, .int 0] C kcX8 clL_8 inX8 ini_X8 (zfX8) (zb rfl) (zb rfl) dL_law_0 ?_
  intro q1 _ hq1 e8; subst e8
  refine z_dup C dL_law_3 rfl ?_
  have P1 := P0.add 0 0 (q := q1) rfl hq1 oNX
  refine z_rn (z_runI C kiX8_init (Or.inl lkL_123) (k_X8init hB P1 rfl (hup_self _ _ _) rfl rfl rfl (fun _ => rfl)) rfl rfl (zb rfl) (zb rfl) (by omega) (by omega) dL_law_4) (fun v9 h9 hv => ?_)
  obtain ⟨⟨l1, hl1, P2⟩, rfl⟩ := hv
  have e1 : l1 0 0 = q1 := hl1 0 0 rfl
  refine z_astore_n C dL_law_7 (zb rfl) ?_
  refine z_new [.int 0, .null, .null, .null, .null, .null, .null, .int 0, .int 0, .null, .null, .null, .null, .null, .int 0, .int 0, .null, .null, .null, .null, .null, .null, .null, .null, .int 0] C kcX9 clL_124 inX9 ini_X9 (zfX9) (zb rfl) (zb rfl) dL_law_8 ?_
  intro q2 _ hq2 e8; subst e8
  refine z_dup C dL_law_11 rfl ?_
  have P3 := P2.add 0 4 rfl hq2 oNM
  refine z_rn (z_runI C kiX9_init (Or.inl lkL_126) (k_X9init hB P3 rfl (hup_self _ _ _) (fun _ => rfl) (fun _ => rfl) (fun _ => rfl) (fun _ => rfl) (fun _ => rfl)) rfl rfl (zb rfl) (zb rfl) (by omega) (by omega) dL_law_12) (fun v9 h9 hv => ?_)
  obtain ⟨⟨l3, hl3, P4⟩, rfl⟩ := hv
  have e2 : l3 0 4 = q2 := hl3 0 4 rfl
  refine z_astore_n C dL_law_15 (zb rfl) ?_
  refine z_iconst (v := 1) C dL_law_16 (by decide) ?_
  refine z_newa (t := 1) (atype := .long) ((1, .inr (.inl (fun _ => 0)))) C ac_long rfl (fun _ q => q) rfl (fun _ => rfl) ((by decide)) (by decide) (by decide) (zb rfl) (zb rfl) dL_law_17 ?_
  intro q3 _ hq3 e8; subst e8
  have P5 := P4.add 0 5 rfl hq3 (oJ G 1 (fun _ => 0))
  refine z_astore_n C dL_law_19 (zb rfl) ?_
  refine z_iconst (v := 1) C dL_law_20 (by decide) ?_
  refine z_newa (t := 3) (atype := .double) ((1, .inr (.inr (.inr (.inl (fun _ => 0)))))) C ac_double rfl (fun _ q => q) rfl (fun _ => rfl) ((by decide)) (by decide) (by decide) (zb rfl) (zb rfl) dL_law_21 ?_
  intro q4 _ hq4 e8; subst e8
  have P6 := P5.add 0 6 rfl hq4 (oD G 1 (fun _ => 0))
  refine z_astore C dL_law_23 (zb rfl) ?_
  refine z_iconst (v := 0) C dL_law_25 (by decide) ?_
  refine z_istore C dL_law_26 (zb rfl) ?_
  have hl : ∀ k i, (k = 0 ∧ i < 4) ∨ (k = 1 ∧ i < 5) → l3 k i = l1 k i := fun k i e => by
    rcases e with ⟨rfl, hi⟩ | ⟨rfl, hi⟩
    · have e : i = 0 ∨ i = 1 ∨ i = 2 ∨ i = 3 := by omega
      rcases e with rfl | rfl | rfl | rfl
      · exact hl3 0 0 rfl
      · exact hl3 0 1 rfl
      · exact hl3 0 2 rfl
      · exact hl3 0 3 rfl
    · have e : i = 0 ∨ i = 1 ∨ i = 2 ∨ i = 3 ∨ i = 4 := by omega
      rcases e with rfl | rfl | rfl | rfl | rfl
      · exact hl3 1 0 rfl
      · exact hl3 1 1 rfl
      · exact hl3 1 2 rfl
      · exact hl3 1 3 rfl
      · exact hl3 1 4 rfl
  have ho := ob0_congr (G := G) (l := l1) (l2 := u2 (u2 l3 0 5 q3) 0 6 q4) (fun k i e => by
    rw [← hl k i e]
    rcases e with ⟨rfl, hi⟩ | ⟨rfl, hi⟩
    · rw [u2_ne (by omega), u2_ne (by omega)]
    · rw [u2_ne (by omega), u2_ne (by omega)])
  have PF := PD.pw (G := G) P6 (fun k i hd => by
    match k, i, hd with
    | 0, 0, _ => exact ⟨rfl, ho 0 (by decide)⟩
    | 0, 1, _ => exact ⟨rfl, ho 1 (by decide)⟩
    | 0, 2, _ => exact ⟨rfl, ho 2 (by decide)⟩
    | 0, 3, _ => exact ⟨rfl, ho 3 (by decide)⟩
    | 0, 4, _ => exact ⟨rfl, rfl⟩
    | 0, 5, _ => exact ⟨rfl, rfl⟩
    | 0, 6, _ => exact ⟨rfl, rfl⟩
    | 0, i + 7, hd => exact absurd (show i + 7 < 7 from hd) (by omega)
    | 1, 0, _ => exact ⟨rfl, rfl⟩
    | 1, 1, _ => exact ⟨rfl, rfl⟩
    | 1, 2, _ => exact ⟨rfl, rfl⟩
    | 1, 3, _ => exact ⟨rfl, rfl⟩
    | 1, 4, _ => exact ⟨rfl, rfl⟩
    | 1, i + 5, hd => exact absurd (show i + 5 < 5 from hd) (by omega)
    | 2, i, hd => exact absurd (show 0 < 0 from hd.2) (by omega)
    | 3, i, hd => exact absurd (show i < 0 from hd) (by omega)
    | 4, i, hd => exact absurd (show i < 0 from hd) (by omega)
    | 5, i, hd => exact absurd (show i < 0 from hd) (by omega)
    | 6, i, hd => exact absurd (show i < 0 from hd) (by omega)
    | 7, i, hd => exact absurd (show i < 0 from hd) (by omega)
    | 8, i, hd =>
      have hd9 : i ∈ [1, 2, 3, 4, 5, 6, 9, 10, 11, 12, 13, 16, 17, 18, 19, 20, 21, 22, 23] := hd
      simp only [List.mem_cons, List.not_mem_nil, or_false] at hd9
      rcases hd9 with rfl | rfl | rfl | rfl | rfl | rfl | rfl | rfl | rfl | rfl | rfl | rfl | rfl | rfl | rfl | rfl | rfl | rfl | rfl <;> exact ⟨rfl, rfl⟩
    | 9, i, hd => exact ⟨decide_eq_true hd, rfl⟩
    | 10, i, hd => exact ⟨decide_eq_true hd, rfl⟩
    | 11, i, hd => exact ⟨decide_eq_true hd, rfl⟩
    | 12, i, hd => exact ⟨decide_eq_true hd, rfl⟩
    | k + 13, i, hd => exact hd.elim)
  have x1 : l3 0 0 = q1 := (hl 0 0 (Or.inl ⟨rfl, by decide⟩)).trans e1
  have S : Stt G _ q1 q2 q3 q4 0 := ⟨_, rho0, PF, Inv.zero, RD.zero, Nat.zero_le _, x1, e2, rfl, rfl⟩
  exact Zs.up (by decide) (by decide) (law_loop hB C S9 hL hend 0 (Nat.zero_le _) _ S)
end
