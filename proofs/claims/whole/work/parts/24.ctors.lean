/-! the constructors: a picture that grows -/
theorem cl2I : Cond.classLink RX9 16 ("[" ++ (FieldType.array .int).toString) ∈ lw_tbl := by
  have e : "[" ++ (FieldType.array FieldType.int).toString = "[[I" := by decide +kernel
  rw [e]; exact clX9_16
theorem cl2Z : Cond.classLink RX9 27 ("[" ++ (FieldType.array .boolean).toString) ∈ lw_tbl := by
  have e : "[" ++ (FieldType.array FieldType.boolean).toString = "[[Z" := by decide +kernel
  rw [e]; exact clX9_27
theorem zyI {G : GT} {X : XT} {own : String} {cc : ByteArray} {nL k mc ms : Nat} (C : Cx G X own cc nL k mc ms) : (Xs X).vm.findClass (FieldType.array .int).toString = some (gC G 0) := (C.K.2 0 _ rfl).2
theorem zyZ {G : GT} {X : XT} {own : String} {cc : ByteArray} {nL k mc ms : Nat} (C : Cx G X own cc nL k mc ms) : (Xs X).vm.findClass (FieldType.array .boolean).toString = some (gC G 4) := (C.K.2 4 _ rfl).2
theorem zzI (c : ClassId) : Jvm.Free.Multi.innerC c 8 (defaultValue .int) = vp_cell c (8, .inl (fun _ => 0)) := by
  show ({ cls := c, slots := Array.replicate 8 (.int 0), vm := .none } : Cell) = _
  rw [arrV_new]
  rfl
theorem zzZ (c : ClassId) : Jvm.Free.Multi.innerC c 8 (defaultValue .boolean) = vp_cell c (8, .inl (fun _ => 0)) := by
  show ({ cls := c, slots := Array.replicate 8 (.int 0), vm := .none } : Cell) = _
  rw [arrV_new]
  rfl
def PD (h : Hp) (loc : Nat → Nat → Nat) (D : Nat → Nat → Bool) (O : Nat → Nat → va_E) : Prop := (∀ k i, D k i = true → h (loc k i) = some (O k i)) ∧ ∀ k i k' i', D k i = true → D k' i' = true → loc k i = loc k' i' → k = k' ∧ i = i'
def u2 {α : Type} (f : Nat → Nat → α) (k i : Nat) (x : α) : Nat → Nat → α := fun k' i' => if k' = k ∧ i' = i then x else f k' i'
def ur {α : Type} (f : Nat → Nat → α) (k : Nat) (g : Nat → α) : Nat → Nat → α := fun k' i' => if k' = k then g i' else f k' i'
theorem u2_at {α : Type} {f : Nat → Nat → α} {k i : Nat} {x : α} : u2 f k i x k i = x := if_pos ⟨rfl, rfl⟩
theorem u2_ne {α : Type} {f : Nat → Nat → α} {k i k' i' : Nat} {x : α} (h : ¬ (k' = k ∧ i' = i)) : u2 f k i x k' i' = f k' i' := if_neg h
theorem ur_at {α : Type} {f : Nat → Nat → α} {k i : Nat} {g : Nat → α} : ur f k g k i = g i := if_pos rfl
theorem ur_ne {α : Type} {f : Nat → Nat → α} {k k' i' : Nat} {g : Nat → α} (h : ¬ k' = k) : ur f k g k' i' = f k' i' := if_neg h
section
variable {h : Hp} {loc : Nat → Nat → Nat} {D : Nat → Nat → Bool} {O : Nat → Nat → va_E}
theorem PD.add (P : PD h loc D O) (k i : Nat) {q : Nat} (hd : D k i = false) (hq : h q = none) (o : va_E) : PD (hup h q o) (u2 loc k i q) (u2 D k i true) (u2 O k i o) := by
  have old : ∀ k' i', ¬ (k' = k ∧ i' = i) → u2 D k i true k' i' = true → D k' i' = true := fun k' i' e hd9 => by rw [u2_ne e] at hd9; exact hd9
  refine ⟨fun k' i' hd' => ?_, fun k1 i1 k2 i2 h1 h2 e => ?_⟩
  · by_cases e : k' = k ∧ i' = i
    · obtain ⟨rfl, rfl⟩ := e
      rw [u2_at, u2_at, hup_self]
    · have := P.1 _ _ (old _ _ e hd')
      rw [u2_ne e, u2_ne e, hup_ne (h_nn this hq), this]
  · by_cases e1 : k1 = k ∧ i1 = i
    · by_cases e2 : k2 = k ∧ i2 = i
      · exact ⟨e1.1.trans e2.1.symm, e1.2.trans e2.2.symm⟩
      · obtain ⟨rfl, rfl⟩ := e1
        rw [u2_at, u2_ne e2] at e
        exact absurd e.symm (h_nn (P.1 _ _ (old _ _ e2 h2)) hq)
    · by_cases e2 : k2 = k ∧ i2 = i
      · obtain ⟨rfl, rfl⟩ := e2
        rw [u2_at, u2_ne e1] at e
        exact absurd e (h_nn (P.1 _ _ (old _ _ e1 h1)) hq)
      · rw [u2_ne e1, u2_ne e2] at e
        exact P.2 _ _ _ _ (old _ _ e1 h1) (old _ _ e2 h2) e
theorem PD.set (P : PD h loc D O) (k i : Nat) {a : Nat} (hd : D k i = true) (ha : loc k i = a) (o : va_E) : PD (hup h a o) loc D (u2 O k i o) := by
  subst ha
  refine ⟨fun k' i' hd' => ?_, P.2⟩
  by_cases e : k' = k ∧ i' = i
  · obtain ⟨rfl, rfl⟩ := e
    rw [u2_at, hup_self]
  · rw [u2_ne e, hup_ne (fun q => e (P.2 _ _ _ _ hd' hd q)), P.1 _ _ hd']
theorem PD.rows (P : PD h loc D O) (k : Nat) {r : Nat → Nat} {N : Nat} (hd : ∀ i, D k i = false) (hr : ∀ i, i < N → h (r i) = none) (hj : ∀ i j, i < N → j < N → r i = r j → i = j) (o : va_E) : PD (hrows h r N o) (ur loc k r) (ur D k (fun i => decide (i < N))) (ur O k (fun _ => o)) := by
  have old : ∀ k' i', ¬ k' = k → ur D k (fun i => decide (i < N)) k' i' = true → D k' i' = true := fun k' i' e hd9 => by rw [ur_ne e] at hd9; exact hd9
  have new : ∀ i', ur D k (fun i => decide (i < N)) k i' = true → i' < N := fun i' hd9 => by rw [ur_at] at hd9; exact of_decide_eq_true hd9
  refine ⟨fun k' i' hd' => ?_, fun k1 i1 k2 i2 h1 h2 e => ?_⟩
  · by_cases e : k' = k
    · subst e
      rw [ur_at, ur_at, hrows_in (new _ hd')]
    · have := P.1 _ _ (old _ _ e hd')
      rw [ur_ne e, ur_ne e, hrows_ne (fun i hi => (h_nn this (hr i hi)).symm), this]
  · by_cases e1 : k1 = k
    · subst e1
      by_cases e2 : k2 = k1
      · subst e2
        rw [ur_at, ur_at] at e
        exact ⟨rfl, hj _ _ (new _ h1) (new _ h2) e⟩
      · rw [ur_at, ur_ne e2] at e
        exact absurd e.symm (h_nn (P.1 _ _ (old _ _ e2 h2)) (hr _ (new _ h1)))
    · by_cases e2 : k2 = k
      · subst e2
        rw [ur_at, ur_ne e1] at e
        exact absurd e (h_nn (P.1 _ _ (old _ _ e1 h1)) (hr _ (new _ h2)))
      · rw [ur_ne e1, ur_ne e2] at e
        exact P.2 _ _ _ _ (old _ _ e1 h1) (old _ _ e2 h2) e
theorem PD.at (P : PD h loc D O) (k i : Nat) (hd : D k i = true) {a : Nat} {o : va_E} (ha : loc k i = a) (ho : O k i = o) : h a = some o := by rw [← ha, ← ho]; exact P.1 k i hd
theorem PD.congr (P : PD h loc D O) {D' : Nat → Nat → Bool} {O' : Nat → Nat → va_E} (e : ∀ k i, D' k i = true → D k i = true ∧ O k i = O' k i) : PD h loc D' O' := ⟨fun k i hd => by rw [P.1 k i (e k i hd).1, (e k i hd).2], fun k i k' i' h1 h2 => P.2 k i k' i' (e k i h1).1 (e k' i' h2).1⟩
end
abbrev oAL (G : GT) : va_E := .inr (0, [.int 0, .ref (gd G), .int 0])
section
variable {G : GT} {h : Hp} {loc : Nat → Nat → Nat} {D : Nat → Nat → Bool} {O : Nat → Nat → va_E}
theorem k_cloudInit (hB : Base G) {a : Nat} (ha : h a = some (.inr (2, [.null, .int 0]))) : Ct G mX2_init 5 1 3 [.ref a] h (fun o h' => (∃ q, h q = none ∧ h' = hup (hup h q (oAL G)) a (.inr (2, [.ref q, .int 0]))) ∧ o = none) noX := by
  refine Ct.intro (m := 0) hB (by decide +kernel) (zb rfl) fun X C E => ?_
  refine z_aload_n C dX2_init_0 rfl ?_
  refine z_objInit C lkX2_1 im_obj co_obj (zb rfl) (zb rfl) dX2_init_1 ?_
  refine z_aload_n C dX2_init_4 rfl ?_
  refine z_new [.int 0, .null, .int 0] C kcJx4a65c clX2_7 inJx4a65c ini_Jx4a65c (zfJx4a65c) (zb rfl) (zb rfl) dX2_init_5 ?_
  intro q1 _ hq1 e8; subst e8
  refine z_dup C dX2_init_8 rfl ?_
  refine z_wr (z_runI C kiJx4a65c_init_da8c8 (Or.inl lkX2_9) (k_listInit hB (hup_self _ _ _)) rfl rfl (zb rfl) (zb rfl) (zb rfl) (zb rfl) dX2_init_9) ?_
  refine z_putfF C kcX2 fiX2_10 E.2.2.1 rfl ((hup_hup _ _ _ _ ▸ hup_n hq1 ha)) rfl (rfl) (rfl) (zb rfl) dX2_init_12 ?_
  intro _ e8; subst e8
  refine z_aload_n C dX2_init_15 rfl ?_
  refine z_iconst (v := 0) C dX2_init_16 (by decide) ?_
  refine z_putf C kcX2 flX2_16 (hup_self _ _ _) rfl (rfl) (rfl) (zb rfl) dX2_init_17 ?_
  intro _ e8; subst e8
  simp only [hup_hup]
  exact z_vret C E dX2_init_20 (⟨⟨q1, hq1, rfl⟩, rfl⟩) (zb rfl) (zb rfl)
theorem k_meetingsInit (hB : Base G) {a : Nat} (ha : h a = some (.inr (6, [.null, .null]))) : Ct G mX6_init 5 2 6 [.ref a] h (fun o h' => (∃ q r, h q = none ∧ h r = none ∧ r ≠ q ∧ r ≠ a ∧ h' = hup (hup (hup h q (oAL G)) r (oI G 3 (fun _ => 0))) a (.inr (6, [.ref q, .ref r]))) ∧ o = none) noX := by
  refine Ct.intro (m := 0) hB (by decide +kernel) (zb rfl) fun X C E => ?_
  have hqa : ∀ {q : Nat}, h q = none → q ≠ a := fun hq => (h_nn ha hq).symm
  refine z_aload_n C dX6_init_0 rfl ?_
  refine z_objInit C lkX6_3 im_obj co_obj (zb rfl) (zb rfl) dX6_init_1 ?_
  refine z_aload_n C dX6_init_4 rfl ?_
  refine z_new [.int 0, .null, .int 0] C kcJx4a65c clX6_9 inJx4a65c ini_Jx4a65c (zfJx4a65c) (zb rfl) (zb rfl) dX6_init_5 ?_
  intro q1 _ hq1 e8; subst e8
  refine z_dup C dX6_init_8 rfl ?_
  refine z_wr (z_runI C kiJx4a65c_init_da8c8 (Or.inl lkX6_11) (k_listInit hB (hup_self _ _ _)) rfl rfl (zb rfl) (zb rfl) (zb rfl) (zb rfl) dX6_init_9) ?_
  rw [hup_hup]
  refine z_putfF C kcX6 fiX6_12 E.2.2.1 rfl (hup_n hq1 ha) rfl (rfl) (rfl) (zb rfl) dX6_init_12 ?_
  intro _ e8; subst e8
  refine z_aload_n C dX6_init_15 rfl ?_
  refine z_iconst (v := 3) C dX6_init_16 (by decide) ?_
  refine z_newa (t := 0) (atype := .int) ((3, .inl (fun _ => 0))) C ac_int rfl (fun _ q => q) rfl (fun _ => rfl) ((by decide)) (by decide) (by decide) (zb rfl) (zb rfl) dX6_init_17 ?_
  intro q2 _ hq2 e8; subst e8
  have hr : h q2 = none ∧ q2 ≠ q1 ∧ q2 ≠ a := by
    have e1 : q2 ≠ a := fun e => by rw [e, hup_self] at hq2; cases hq2
    rw [hup_ne e1] at hq2
    have e2 : q2 ≠ q1 := fun e => by rw [e, hup_self] at hq2; cases hq2
    rw [hup_ne e2] at hq2
    exact ⟨hq2, e2, e1⟩
  refine z_putfF C kcX6 fiX6_18 E.2.2.1 rfl ((hup_ne (Ne.symm hr.2.2)).trans (hup_self _ _ _)) rfl (rfl) (rfl) (zb rfl) dX6_init_19 ?_
  intro _ e8; subst e8
  have e3 : hup (hup (hup (hup h q1 (oAL G)) a (.inr (6, [.ref q1, .null]))) q2 (oI G 3 (fun _ => 0))) a (.inr (6, [.ref q1, .ref q2])) = hup (hup (hup h q1 (oAL G)) q2 (oI G 3 (fun _ => 0))) a (.inr (6, [.ref q1, .ref q2])) := by
    rw [hup_comm (Ne.symm hr.2.2), hup_hup]
  exact z_vret C E dX6_init_22 (⟨⟨q1, q2, hq1, hr.1, hr.2.1, hr.2.2, e3⟩, rfl⟩) (zb rfl) (zb rfl)
def DX (D : Nat → Nat → Bool) : Nat → Nat → Bool := fun k i => if k = 0 ∧ i < 4 then true else if k = 1 ∧ i < 5 then true else D k i
def OX (G : GT) (loc : Nat → Nat → Nat) (O : Nat → Nat → va_E) : Nat → Nat → va_E := fun k i => if k = 0 ∧ i < 4 then ob0 G loc s0 (fun _ => 0, 0, s0, fun _ => 0, fun _ => 0, fun _ _ _ => 0, fun _ => 0, fun _ => 0) i else if k = 1 ∧ i < 5 then oAL G else O k i
theorem k_X8init (hB : Base G) (P : PD h loc D O) (d0 : D 0 0 = true) (hx : h (loc 0 0) = some (.inr (8, [.null, .null, .null, .null, .null, .int 0]))) (d1 : D 0 1 = false) (d2 : D 0 2 = false) (d3 : D 0 3 = false) (dl : ∀ j, D 1 j = false) :
    Ct G mX8_init 6 10 60 [.ref (loc 0 0)] h (fun o h' => (∃ loc', (∀ k i, D k i = true → loc' k i = loc k i) ∧ PD h' loc' (DX D) (OX G loc' O)) ∧ o = none) noX := by
  refine Ct.intro (m := 0) hB (by decide +kernel) (zb rfl) fun X C E => ?_
  have hne : ∀ {k i : Nat}, D k i = false → ¬ (0 = k ∧ 0 = i) := fun hk e => by
    obtain ⟨rfl, rfl⟩ := e
    rw [d0] at hk; cases hk
  refine z_aload_n C dX8_init_0 rfl ?_
  refine z_objInit C lkX8_1 im_obj co_obj (zb rfl) (zb rfl) dX8_init_1 ?_
  refine z_aload_n C dX8_init_4 rfl ?_
  refine z_new [.null, .int 0] C kcX2 clX8_7 inX2 ini_X2 (zfX2) (zb rfl) (zb rfl) dX8_init_5 ?_
  intro q1 _ hq1 e8; subst e8
  refine z_dup C dX8_init_8 rfl ?_
  refine z_rn (z_runI C kiX2_init (Or.inr ⟨_, lkX8_9⟩) (k_cloudInit hB (hup_self _ _ _)) rfl rfl (zb rfl) (zb rfl) (zb rfl) (zb rfl) dX8_init_9) (fun v9 h9 hv => ?_)
  obtain ⟨⟨l3, hl3, rfl⟩, rfl⟩ := hv
  have P := (((P.add 0 1 d1 hq1 (.inr (2, [.null, .int 0]))).add 1 3 (show u2 D 0 1 true 1 3 = false from dl 3) hl3 (oAL G)).set 0 1 rfl rfl (.inr (2, [.ref l3, .int 0])))
  have hx1 : hup (hup (hup h q1 (.inr (2, [.null, .int 0]))) l3 (oAL G)) q1 (.inr (2, [.ref l3, .int 0])) (loc 0 0) = some (.inr (8, [.null, .null, .null, .null, .null, .int 0])) := by
    have e1 := h_nn hx hq1
    have e2 := h_nn (hup_n hq1 hx) hl3
    rw [hup_ne e1, hup_ne e2, hup_ne e1, hx]
  refine z_putfF C kcX8 fiX8_10 E.2.2.1 rfl (hx1) rfl (rfl) (rfl) (zb rfl) dX8_init_12 ?_
  intro _ e8; subst e8
  have P := P.set 0 0 (show u2 (u2 D 0 1 true) 1 3 true 0 0 = true from d0) rfl (.inr (8, [.ref q1, .null, .null, .null, .null, .int 0]))
  refine z_aload_n C dX8_init_15 rfl ?_
  refine z_new [.int 0, .null, .int 0] C kcJx4a65c clX8_16 inJx4a65c ini_Jx4a65c (zfJx4a65c) (zb rfl) (zb rfl) dX8_init_16 ?_
  intro q2 _ hq2 e8; subst e8
  refine z_dup C dX8_init_19 rfl ?_
  refine z_wr (z_runI C kiJx4a65c_init_da8c8 (Or.inl lkX8_18) (k_listInit hB (hup_self _ _ _)) rfl rfl (zb rfl) (zb rfl) (zb rfl) (zb rfl) dX8_init_20) ?_
  rw [hup_hup]
  have P := P.add 1 0 (dl 0) hq2 (oAL G)
  refine z_putfF C kcX8 fiX8_19 E.2.2.1 rfl (hup_n hq2 (hup_self _ _ _)) rfl (rfl) (rfl) (zb rfl) dX8_init_23 ?_
  intro _ e8; subst e8
  have P := P.set 0 0 (show u2 (u2 D 0 1 true) 1 3 true 0 0 = true from d0) rfl (.inr (8, [.ref q1, .ref q2, .null, .null, .null, .int 0]))
  refine z_aload_n C dX8_init_26 rfl ?_
  refine z_new [.int 0, .null, .int 0] C kcJx4a65c clX8_16 inJx4a65c ini_Jx4a65c (zfJx4a65c) (zb rfl) (zb rfl) dX8_init_27 ?_
  intro q3 _ hq3 e8; subst e8
  refine z_dup C dX8_init_30 rfl ?_
  refine z_wr (z_runI C kiJx4a65c_init_da8c8 (Or.inl lkX8_18) (k_listInit hB (hup_self _ _ _)) rfl rfl (zb rfl) (zb rfl) (zb rfl) (zb rfl) dX8_init_31) ?_
  rw [hup_hup]
  have P := P.add 1 1 (dl 1) hq3 (oAL G)
  refine z_putfF C kcX8 fiX8_23 E.2.2.1 rfl (hup_n hq3 (hup_self _ _ _)) rfl (rfl) (rfl) (zb rfl) dX8_init_34 ?_
  intro _ e8; subst e8
  have P := P.set 0 0 (show u2 (u2 D 0 1 true) 1 3 true 0 0 = true from d0) rfl (.inr (8, [.ref q1, .ref q2, .ref q3, .null, .null, .int 0]))
  refine z_aload_n C dX8_init_37 rfl ?_
  refine z_new [.int 0, .null, .int 0] C kcJx4a65c clX8_16 inJx4a65c ini_Jx4a65c (zfJx4a65c) (zb rfl) (zb rfl) dX8_init_38 ?_
  intro q4 _ hq4 e8; subst e8
  refine z_dup C dX8_init_41 rfl ?_
  refine z_wr (z_runI C kiJx4a65c_init_da8c8 (Or.inl lkX8_18) (k_listInit hB (hup_self _ _ _)) rfl rfl (zb rfl) (zb rfl) (zb rfl) (zb rfl) dX8_init_42) ?_
  rw [hup_hup]
  have P := P.add 1 2 (dl 2) hq4 (oAL G)
  refine z_putfF C kcX8 fiX8_26 E.2.2.1 rfl (hup_n hq4 (hup_self _ _ _)) rfl (rfl) (rfl) (zb rfl) dX8_init_45 ?_
  intro _ e8; subst e8
  have P := P.set 0 0 (show u2 (u2 D 0 1 true) 1 3 true 0 0 = true from d0) rfl (.inr (8, [.ref q1, .ref q2, .ref q3, .ref q4, .null, .int 0]))
  refine z_aload_n C dX8_init_48 rfl ?_
  refine z_new [.null, .null] C kcX6 clX8_29 inX6 ini_X6 (zfX6) (zb rfl) (zb rfl) dX8_init_49 ?_
  intro q5 _ hq5 e8; subst e8
  refine z_dup C dX8_init_52 rfl ?_
  refine z_rn (z_runI C kiX6_init (Or.inr ⟨_, lkX8_31⟩) (k_meetingsInit hB (hup_self _ _ _)) rfl rfl (zb rfl) (zb rfl) (zb rfl) (zb rfl) dX8_init_53) (fun v9 h9 hv => ?_)
  obtain ⟨⟨l4, on, hl4, hon, hno, hna, rfl⟩, rfl⟩ := hv
  have P := P.add 0 2 (show u2 (u2 D 0 1 true) 1 3 true 0 2 = false from d2) hq5 (.inr (6, [.null, .null]))
  have P := P.add 1 4 (dl 4) hl4 (oAL G)
  have P := P.add 0 3 (show u2 (u2 D 0 1 true) 1 3 true 0 3 = false from d3) (show hup _ l4 (oAL G) on = none by rw [hup_ne hno]; exact hon) (oI G 3 (fun _ => 0))
  have P := P.set 0 2 rfl rfl (.inr (6, [.ref l4, .ref on]))
  have hx5 := P.1 0 0 (show u2 (u2 D 0 1 true) 1 3 true 0 0 = true from d0)
  refine z_putfF C kcX8 fiX8_32 E.2.2.1 rfl (hx5) rfl (rfl) (rfl) (zb rfl) dX8_init_56 ?_
  intro _ e8; subst e8
  have P := P.set 0 0 (show u2 (u2 D 0 1 true) 1 3 true 0 0 = true from d0) rfl (.inr (8, [.ref q1, .ref q2, .ref q3, .ref q4, .ref q5, .int 0]))
  refine z_aload_n C dX8_init_59 rfl ?_
  refine z_iconst (v := 0) C dX8_init_60 (by decide) ?_
  refine z_putf C kcX8 flX8_36 (hup_self _ _ _) rfl (rfl) (rfl) (zb rfl) dX8_init_61 ?_
  intro _ e8; subst e8
  rw [hup_hup]
  refine Zs.up (uc' := 10) (us' := 60) (zb rfl) (zb rfl) ?_
  refine z_vret C E dX8_init_64 ?_ (zb rfl) (zb rfl)
  refine ⟨⟨_, fun k i hk => ?_, P.congr (fun k i hk => ?_)⟩, rfl⟩
  · have n : ∀ {a b : Nat}, D a b = false → ¬ (k = a ∧ i = b) := fun hab e => by
      rw [e.1, e.2, hab] at hk; cases hk
    simp only [u2_ne (n d1), u2_ne (n d2), u2_ne (n d3), u2_ne (n (dl 0)), u2_ne (n (dl 1)), u2_ne (n (dl 2)), u2_ne (n (dl 3)), u2_ne (n (dl 4))]
  · by_cases c0 : k = 0 ∧ i < 4
    · obtain ⟨rfl, hi⟩ := c0
      match i, hi with
      | 0, _ => exact ⟨d0, rfl⟩
      | 1, _ => exact ⟨rfl, rfl⟩
      | 2, _ => exact ⟨rfl, rfl⟩
      | 3, _ => exact ⟨rfl, rfl⟩
    · by_cases c1 : k = 1 ∧ i < 5
      · obtain ⟨rfl, hi⟩ := c1
        match i, hi with
        | 0, _ => exact ⟨rfl, rfl⟩
        | 1, _ => exact ⟨rfl, rfl⟩
        | 2, _ => exact ⟨rfl, rfl⟩
        | 3, _ => exact ⟨rfl, rfl⟩
        | 4, _ => exact ⟨rfl, rfl⟩
      · have hk2 : D k i = true := by
          have h9 := hk
          unfold DX at h9
          rw [if_neg c0, if_neg c1] at h9
          exact h9
        have n0 : ∀ j, j < 4 → ¬ (k = 0 ∧ i = j) := fun j hj e => c0 ⟨e.1, by omega⟩
        have n1 : ∀ j, j < 5 → ¬ (k = 1 ∧ i = j) := fun j hj e => c1 ⟨e.1, by omega⟩
        unfold OX
        rw [if_neg c0, if_neg c1]
        simp only [u2_ne (n0 0 (by decide)), u2_ne (n0 1 (by decide)), u2_ne (n0 2 (by decide)), u2_ne (n0 3 (by decide)), u2_ne (n1 0 (by decide)), u2_ne (n1 1 (by decide)), u2_ne (n1 2 (by decide)), u2_ne (n1 3 (by decide)), u2_ne (n1 4 (by decide))]
        exact ⟨hk2, trivial⟩
def DM (D : Nat → Nat → Bool) : Nat → Nat → Bool := fun k i => if k = 8 then decide (i ∈ [1, 2, 3, 4, 5, 6, 9, 10, 11, 12, 13, 16, 17, 18, 19, 20, 21, 22, 23]) else if k = 9 then decide (i < 51) else if k = 10 then decide (i < 51) else if k = 11 then decide (i < 51) else if k = 12 then decide (i < 51) else D k i
abbrev rho0 : RG := (fun _ => 0, 0, s0, fun _ => 0, fun _ => 0, fun _ _ _ => 0, fun _ => 0, fun _ => 0)
def OMM (G : GT) (loc : Nat → Nat → Nat) (O : Nat → Nat → va_E) : Nat → Nat → va_E := fun k i => if k = 8 then ob8 G loc rho0 i else if k = 9 then oI G 8 (fun _ => 0) else if k = 10 then oI G 8 (fun _ => 0) else if k = 11 then oI G 8 (fun _ => 0) else if k = 12 then oZ G 8 (fun _ => 0) else if k = 0 ∧ i = 4 then oM loc rho0 else O k i
theorem k_X9init (hB : Base G) (P : PD h loc D O) (d4 : D 0 4 = true) (hx : h (loc 0 4) = some (.inr (9, [.int 0, .null, .null, .null, .null, .null, .null, .int 0, .int 0, .null, .null, .null, .null, .null, .int 0, .int 0, .null, .null, .null, .null, .null, .null, .null, .null, .int 0]))) (d8 : ∀ j, D 8 j = false) (d9 : ∀ j, D 9 j = false) (d10 : ∀ j, D 10 j = false) (d11 : ∀ j, D 11 j = false) (d12 : ∀ j, D 12 j = false) :
    Ct G mX9_init 2 300 4000 [.ref (loc 0 4)] h (fun o h' => (∃ loc', (∀ k i, D k i = true → loc' k i = loc k i) ∧ PD h' loc' (DM D) (OMM G loc' O)) ∧ o = none) noX := by
  refine Ct.intro (m := 0) hB (by decide +kernel) (zb rfl) fun X C E => ?_
  refine z_aload_n C dX9_init_0 rfl ?_
  refine z_objInit C lkX9_1 im_obj co_obj (zb rfl) (zb rfl) dX9_init_1 ?_
  refine z_aload_n C dX9_init_4 rfl ?_
  refine z_bipush (v := 51) C dX9_init_5 (by decide) ?_
  refine z_newa (t := 0) (atype := .int) ((51, .inl (fun _ => 0))) C ac_int rfl (fun _ q => q) rfl (fun _ => rfl) ((by decide)) (by decide) (by decide) (zb rfl) (zb rfl) dX9_init_7 ?_
  intro q1 _ hq1 e8; subst e8
  have hx := hup_n (o := oI G 51 (fun _ => 0)) hq1 hx
  have P := P.add 8 1 (show _ = false from d8 1) hq1 (oI G 51 (fun _ => 0))
  refine z_putfF C kcX9 fiX9_9 E.2.2.1 rfl (hx) rfl (rfl) (rfl) (zb rfl) dX9_init_9 ?_
  intro _ e8; subst e8
  have P := P.set 0 4 (show _ = true from d4) rfl (.inr (9, [.int 0, .ref q1, .null, .null, .null, .null, .null, .int 0, .int 0, .null, .null, .null, .null, .null, .int 0, .int 0, .null, .null, .null, .null, .null, .null, .null, .null, .int 0]))
  have hx := P.at 0 4 (show _ = true from d4) (a := loc 0 4) (o := .inr (9, [.int 0, .ref q1, .null, .null, .null, .null, .null, .int 0, .int 0, .null, .null, .null, .null, .null, .int 0, .int 0, .null, .null, .null, .null, .null, .null, .null, .null, .int 0])) rfl rfl
  refine z_aload_n C dX9_init_12 rfl ?_
  refine z_bipush (v := 51) C dX9_init_13 (by decide) ?_
  refine z_newa (t := 0) (atype := .int) ((51, .inl (fun _ => 0))) C ac_int rfl (fun _ q => q) rfl (fun _ => rfl) ((by decide)) (by decide) (by decide) (zb rfl) (zb rfl) dX9_init_15 ?_
  intro q2 _ hq2 e8; subst e8
  have hx := hup_n (o := oI G 51 (fun _ => 0)) hq2 hx
  have P := P.add 8 2 (show _ = false from d8 2) hq2 (oI G 51 (fun _ => 0))
  refine z_putfF C kcX9 fiX9_13 E.2.2.1 rfl (hx) rfl (rfl) (rfl) (zb rfl) dX9_init_17 ?_
  intro _ e8; subst e8
  have P := P.set 0 4 (show _ = true from d4) rfl (.inr (9, [.int 0, .ref q1, .ref q2, .null, .null, .null, .null, .int 0, .int 0, .null, .null, .null, .null, .null, .int 0, .int 0, .null, .null, .null, .null, .null, .null, .null, .null, .int 0]))
  have hx := P.at 0 4 (show _ = true from d4) (a := loc 0 4) (o := .inr (9, [.int 0, .ref q1, .ref q2, .null, .null, .null, .null, .int 0, .int 0, .null, .null, .null, .null, .null, .int 0, .int 0, .null, .null, .null, .null, .null, .null, .null, .null, .int 0])) rfl rfl
  refine z_aload_n C dX9_init_20 rfl ?_
  refine z_bipush (v := 51) C dX9_init_21 (by decide) ?_
  refine z_bipush (v := 8) C dX9_init_23 (by decide) ?_
  refine z_multi (N := 51) (K := 8) (t := 7) (t0 := 0) (z := (8, .inl (fun _ => 0))) C cl2I ao_int2 ac_int rfl (zyI C) (by decide) (by decide) (by decide) (by decide) (by decide) rfl rfl zzI (zb rfl) (zb rfl) dX9_init_25 ?_
  intro q3 r3 _ hq3 hr3 hj3 e8; subst e8
  have hf3 := fun (i : Nat) (hi : i < 51) => (hup_ne (o := oII G 51 (fun v => some (r3 v))) (hr3 i hi).2).trans (hr3 i hi).1
  have hx := hup_n (o := oII G 51 (fun v => some (r3 v))) hq3 hx
  have hx := (hrows_ne (o := oI G 8 (fun _ => 0)) (fun i hi => (h_nn hx (hf3 i hi)).symm)).trans hx
  have P := P.add 8 3 (show _ = false from d8 3) hq3 (oII G 51 (fun v => some (r3 v)))
  have P := P.rows 9 (show ∀ i, _ = false from d9) hf3 hj3 (oI G 8 (fun _ => 0))
  refine z_putfF C kcX9 fiX9_18 E.2.2.1 rfl (hx) rfl (rfl) (rfl) (zb rfl) dX9_init_29 ?_
  intro _ e8; subst e8
  have P := P.set 0 4 (show _ = true from d4) rfl (.inr (9, [.int 0, .ref q1, .ref q2, .ref q3, .null, .null, .null, .int 0, .int 0, .null, .null, .null, .null, .null, .int 0, .int 0, .null, .null, .null, .null, .null, .null, .null, .null, .int 0]))
  have hx := P.at 0 4 (show _ = true from d4) (a := loc 0 4) (o := .inr (9, [.int 0, .ref q1, .ref q2, .ref q3, .null, .null, .null, .int 0, .int 0, .null, .null, .null, .null, .null, .int 0, .int 0, .null, .null, .null, .null, .null, .null, .null, .null, .int 0])) rfl rfl
  refine z_aload_n C dX9_init_32 rfl ?_
  refine z_bipush (v := 51) C dX9_init_33 (by decide) ?_
  refine z_bipush (v := 8) C dX9_init_35 (by decide) ?_
  refine z_multi (N := 51) (K := 8) (t := 7) (t0 := 0) (z := (8, .inl (fun _ => 0))) C cl2I ao_int2 ac_int rfl (zyI C) (by decide) (by decide) (by decide) (by decide) (by decide) rfl rfl zzI (zb rfl) (zb rfl) dX9_init_37 ?_
  intro q4 r4 _ hq4 hr4 hj4 e8; subst e8
  have hf4 := fun (i : Nat) (hi : i < 51) => (hup_ne (o := oII G 51 (fun v => some (r4 v))) (hr4 i hi).2).trans (hr4 i hi).1
  have hx := hup_n (o := oII G 51 (fun v => some (r4 v))) hq4 hx
  have hx := (hrows_ne (o := oI G 8 (fun _ => 0)) (fun i hi => (h_nn hx (hf4 i hi)).symm)).trans hx
  have P := P.add 8 4 (show _ = false from d8 4) hq4 (oII G 51 (fun v => some (r4 v)))
  have P := P.rows 10 (show ∀ i, _ = false from d10) hf4 hj4 (oI G 8 (fun _ => 0))
  refine z_putfF C kcX9 fiX9_21 E.2.2.1 rfl (hx) rfl (rfl) (rfl) (zb rfl) dX9_init_41 ?_
  intro _ e8; subst e8
  have P := P.set 0 4 (show _ = true from d4) rfl (.inr (9, [.int 0, .ref q1, .ref q2, .ref q3, .ref q4, .null, .null, .int 0, .int 0, .null, .null, .null, .null, .null, .int 0, .int 0, .null, .null, .null, .null, .null, .null, .null, .null, .int 0]))
  have hx := P.at 0 4 (show _ = true from d4) (a := loc 0 4) (o := .inr (9, [.int 0, .ref q1, .ref q2, .ref q3, .ref q4, .null, .null, .int 0, .int 0, .null, .null, .null, .null, .null, .int 0, .int 0, .null, .null, .null, .null, .null, .null, .null, .null, .int 0])) rfl rfl
  refine z_aload_n C dX9_init_44 rfl ?_
  refine z_bipush (v := 51) C dX9_init_45 (by decide) ?_
  refine z_bipush (v := 8) C dX9_init_47 (by decide) ?_
  refine z_multi (N := 51) (K := 8) (t := 7) (t0 := 0) (z := (8, .inl (fun _ => 0))) C cl2I ao_int2 ac_int rfl (zyI C) (by decide) (by decide) (by decide) (by decide) (by decide) rfl rfl zzI (zb rfl) (zb rfl) dX9_init_49 ?_
  intro q5 r5 _ hq5 hr5 hj5 e8; subst e8
  have hf5 := fun (i : Nat) (hi : i < 51) => (hup_ne (o := oII G 51 (fun v => some (r5 v))) (hr5 i hi).2).trans (hr5 i hi).1
  have hx := hup_n (o := oII G 51 (fun v => some (r5 v))) hq5 hx
  have hx := (hrows_ne (o := oI G 8 (fun _ => 0)) (fun i hi => (h_nn hx (hf5 i hi)).symm)).trans hx
  have P := P.add 8 5 (show _ = false from d8 5) hq5 (oII G 51 (fun v => some (r5 v)))
  have P := P.rows 11 (show ∀ i, _ = false from d11) hf5 hj5 (oI G 8 (fun _ => 0))
  refine z_putfF C kcX9 fiX9_24 E.2.2.1 rfl (hx) rfl (rfl) (rfl) (zb rfl) dX9_init_53 ?_
  intro _ e8; subst e8
  have P := P.set 0 4 (show _ = true from d4) rfl (.inr (9, [.int 0, .ref q1, .ref q2, .ref q3, .ref q4, .ref q5, .null, .int 0, .int 0, .null, .null, .null, .null, .null, .int 0, .int 0, .null, .null, .null, .null, .null, .null, .null, .null, .int 0]))
  have hx := P.at 0 4 (show _ = true from d4) (a := loc 0 4) (o := .inr (9, [.int 0, .ref q1, .ref q2, .ref q3, .ref q4, .ref q5, .null, .int 0, .int 0, .null, .null, .null, .null, .null, .int 0, .int 0, .null, .null, .null, .null, .null, .null, .null, .null, .int 0])) rfl rfl
  refine z_aload_n C dX9_init_56 rfl ?_
  refine z_bipush (v := 51) C dX9_init_57 (by decide) ?_
  refine z_bipush (v := 8) C dX9_init_59 (by decide) ?_
  refine z_multi (N := 51) (K := 8) (t := 8) (t0 := 4) (z := (8, .inl (fun _ => 0))) C cl2Z ao_boolean2 ac_boolean rfl (zyZ C) (by decide) (by decide) (by decide) (by decide) (by decide) rfl rfl zzZ (zb rfl) (zb rfl) dX9_init_61 ?_
  intro q6 r6 _ hq6 hr6 hj6 e8; subst e8
  have hf6 := fun (i : Nat) (hi : i < 51) => (hup_ne (o := oZZ G 51 (fun v => some (r6 v))) (hr6 i hi).2).trans (hr6 i hi).1
  have hx := hup_n (o := oZZ G 51 (fun v => some (r6 v))) hq6 hx
  have hx := (hrows_ne (o := oZ G 8 (fun _ => 0)) (fun i hi => (h_nn hx (hf6 i hi)).symm)).trans hx
  have P := P.add 8 6 (show _ = false from d8 6) hq6 (oZZ G 51 (fun v => some (r6 v)))
  have P := P.rows 12 (show ∀ i, _ = false from d12) hf6 hj6 (oZ G 8 (fun _ => 0))
  refine z_putfF C kcX9 fiX9_29 E.2.2.1 rfl (hx) rfl (rfl) (rfl) (zb rfl) dX9_init_65 ?_
  intro _ e8; subst e8
  have P := P.set 0 4 (show _ = true from d4) rfl (.inr (9, [.int 0, .ref q1, .ref q2, .ref q3, .ref q4, .ref q5, .ref q6, .int 0, .int 0, .null, .null, .null, .null, .null, .int 0, .int 0, .null, .null, .null, .null, .null, .null, .null, .null, .int 0]))
  have hx := P.at 0 4 (show _ = true from d4) (a := loc 0 4) (o := .inr (9, [.int 0, .ref q1, .ref q2, .ref q3, .ref q4, .ref q5, .ref q6, .int 0, .int 0, .null, .null, .null, .null, .null, .int 0, .int 0, .null, .null, .null, .null, .null, .null, .null, .null, .int 0])) rfl rfl
  refine z_aload_n C dX9_init_68 rfl ?_
  refine z_iconst (v := 5) C dX9_init_69 (by decide) ?_
  refine z_newa (t := 0) (atype := .int) ((5, .inl (fun _ => 0))) C ac_int rfl (fun _ q => q) rfl (fun _ => rfl) ((by decide)) (by decide) (by decide) (zb rfl) (zb rfl) dX9_init_70 ?_
  intro q7 _ hq7 e8; subst e8
  have hx := hup_n (o := oI G 5 (fun _ => 0)) hq7 hx
  have P := P.add 8 9 (show _ = false from d8 9) hq7 (oI G 5 (fun _ => 0))
  refine z_putfF C kcX9 fiX9_32 E.2.2.1 rfl (hx) rfl (rfl) (rfl) (zb rfl) dX9_init_72 ?_
  intro _ e8; subst e8
  have P := P.set 0 4 (show _ = true from d4) rfl (.inr (9, [.int 0, .ref q1, .ref q2, .ref q3, .ref q4, .ref q5, .ref q6, .int 0, .int 0, .ref q7, .null, .null, .null, .null, .int 0, .int 0, .null, .null, .null, .null, .null, .null, .null, .null, .int 0]))
  have hx := P.at 0 4 (show _ = true from d4) (a := loc 0 4) (o := .inr (9, [.int 0, .ref q1, .ref q2, .ref q3, .ref q4, .ref q5, .ref q6, .int 0, .int 0, .ref q7, .null, .null, .null, .null, .int 0, .int 0, .null, .null, .null, .null, .null, .null, .null, .null, .int 0])) rfl rfl
  refine z_aload_n C dX9_init_75 rfl ?_
  refine z_iconst (v := 5) C dX9_init_76 (by decide) ?_
  refine z_newa (t := 0) (atype := .int) ((5, .inl (fun _ => 0))) C ac_int rfl (fun _ q => q) rfl (fun _ => rfl) ((by decide)) (by decide) (by decide) (zb rfl) (zb rfl) dX9_init_77 ?_
  intro q8 _ hq8 e8; subst e8
  have hx := hup_n (o := oI G 5 (fun _ => 0)) hq8 hx
  have P := P.add 8 10 (show _ = false from d8 10) hq8 (oI G 5 (fun _ => 0))
  refine z_putfF C kcX9 fiX9_35 E.2.2.1 rfl (hx) rfl (rfl) (rfl) (zb rfl) dX9_init_79 ?_
  intro _ e8; subst e8
  have P := P.set 0 4 (show _ = true from d4) rfl (.inr (9, [.int 0, .ref q1, .ref q2, .ref q3, .ref q4, .ref q5, .ref q6, .int 0, .int 0, .ref q7, .ref q8, .null, .null, .null, .int 0, .int 0, .null, .null, .null, .null, .null, .null, .null, .null, .int 0]))
  have hx := P.at 0 4 (show _ = true from d4) (a := loc 0 4) (o := .inr (9, [.int 0, .ref q1, .ref q2, .ref q3, .ref q4, .ref q5, .ref q6, .int 0, .int 0, .ref q7, .ref q8, .null, .null, .null, .int 0, .int 0, .null, .null, .null, .null, .null, .null, .null, .null, .int 0])) rfl rfl
  refine z_aload_n C dX9_init_82 rfl ?_
  refine z_iconst (v := 5) C dX9_init_83 (by decide) ?_
  refine z_newa (t := 0) (atype := .int) ((5, .inl (fun _ => 0))) C ac_int rfl (fun _ q => q) rfl (fun _ => rfl) ((by decide)) (by decide) (by decide) (zb rfl) (zb rfl) dX9_init_84 ?_
  intro q9 _ hq9 e8; subst e8
  have hx := hup_n (o := oI G 5 (fun _ => 0)) hq9 hx
  have P := P.add 8 11 (show _ = false from d8 11) hq9 (oI G 5 (fun _ => 0))
  refine z_putfF C kcX9 fiX9_38 E.2.2.1 rfl (hx) rfl (rfl) (rfl) (zb rfl) dX9_init_86 ?_
  intro _ e8; subst e8
  have P := P.set 0 4 (show _ = true from d4) rfl (.inr (9, [.int 0, .ref q1, .ref q2, .ref q3, .ref q4, .ref q5, .ref q6, .int 0, .int 0, .ref q7, .ref q8, .ref q9, .null, .null, .int 0, .int 0, .null, .null, .null, .null, .null, .null, .null, .null, .int 0]))
  have hx := P.at 0 4 (show _ = true from d4) (a := loc 0 4) (o := .inr (9, [.int 0, .ref q1, .ref q2, .ref q3, .ref q4, .ref q5, .ref q6, .int 0, .int 0, .ref q7, .ref q8, .ref q9, .null, .null, .int 0, .int 0, .null, .null, .null, .null, .null, .null, .null, .null, .int 0])) rfl rfl
  refine z_aload_n C dX9_init_89 rfl ?_
  refine z_iconst (v := 3) C dX9_init_90 (by decide) ?_
  refine z_newa (t := 0) (atype := .int) ((3, .inl (fun _ => 0))) C ac_int rfl (fun _ q => q) rfl (fun _ => rfl) ((by decide)) (by decide) (by decide) (zb rfl) (zb rfl) dX9_init_91 ?_
  intro q10 _ hq10 e8; subst e8
  have hx := hup_n (o := oI G 3 (fun _ => 0)) hq10 hx
  have P := P.add 8 12 (show _ = false from d8 12) hq10 (oI G 3 (fun _ => 0))
  refine z_putfF C kcX9 fiX9_41 E.2.2.1 rfl (hx) rfl (rfl) (rfl) (zb rfl) dX9_init_93 ?_
  intro _ e8; subst e8
  have P := P.set 0 4 (show _ = true from d4) rfl (.inr (9, [.int 0, .ref q1, .ref q2, .ref q3, .ref q4, .ref q5, .ref q6, .int 0, .int 0, .ref q7, .ref q8, .ref q9, .ref q10, .null, .int 0, .int 0, .null, .null, .null, .null, .null, .null, .null, .null, .int 0]))
  have hx := P.at 0 4 (show _ = true from d4) (a := loc 0 4) (o := .inr (9, [.int 0, .ref q1, .ref q2, .ref q3, .ref q4, .ref q5, .ref q6, .int 0, .int 0, .ref q7, .ref q8, .ref q9, .ref q10, .null, .int 0, .int 0, .null, .null, .null, .null, .null, .null, .null, .null, .int 0])) rfl rfl
  refine z_aload_n C dX9_init_96 rfl ?_
  refine z_iconst (v := 5) C dX9_init_97 (by decide) ?_
  refine z_newa (t := 2) (atype := .float) ((5, .inr (.inr (.inl (fun _ => 0))))) C ac_float rfl (fun _ q => q) rfl (fun _ => rfl) ((by decide)) (by decide) (by decide) (zb rfl) (zb rfl) dX9_init_98 ?_
  intro q11 _ hq11 e8; subst e8
  have hx := hup_n (o := oF G 5 (fun _ => 0)) hq11 hx
  have P := P.add 8 13 (show _ = false from d8 13) hq11 (oF G 5 (fun _ => 0))
  refine z_putfF C kcX9 fiX9_44 E.2.2.1 rfl (hx) rfl (rfl) (rfl) (zb rfl) dX9_init_100 ?_
  intro _ e8; subst e8
  have P := P.set 0 4 (show _ = true from d4) rfl (.inr (9, [.int 0, .ref q1, .ref q2, .ref q3, .ref q4, .ref q5, .ref q6, .int 0, .int 0, .ref q7, .ref q8, .ref q9, .ref q10, .ref q11, .int 0, .int 0, .null, .null, .null, .null, .null, .null, .null, .null, .int 0]))
  have hx := P.at 0 4 (show _ = true from d4) (a := loc 0 4) (o := .inr (9, [.int 0, .ref q1, .ref q2, .ref q3, .ref q4, .ref q5, .ref q6, .int 0, .int 0, .ref q7, .ref q8, .ref q9, .ref q10, .ref q11, .int 0, .int 0, .null, .null, .null, .null, .null, .null, .null, .null, .int 0])) rfl rfl
  refine z_aload_n C dX9_init_103 rfl ?_
  refine z_bipush (v := 60) C dX9_init_104 (by decide) ?_
  refine z_newa (t := 0) (atype := .int) ((60, .inl (fun _ => 0))) C ac_int rfl (fun _ q => q) rfl (fun _ => rfl) ((by decide)) (by decide) (by decide) (zb rfl) (zb rfl) dX9_init_106 ?_
  intro q12 _ hq12 e8; subst e8
  have hx := hup_n (o := oI G 60 (fun _ => 0)) hq12 hx
  have P := P.add 8 16 (show _ = false from d8 16) hq12 (oI G 60 (fun _ => 0))
  refine z_putfF C kcX9 fiX9_48 E.2.2.1 rfl (hx) rfl (rfl) (rfl) (zb rfl) dX9_init_108 ?_
  intro _ e8; subst e8
  have P := P.set 0 4 (show _ = true from d4) rfl (.inr (9, [.int 0, .ref q1, .ref q2, .ref q3, .ref q4, .ref q5, .ref q6, .int 0, .int 0, .ref q7, .ref q8, .ref q9, .ref q10, .ref q11, .int 0, .int 0, .ref q12, .null, .null, .null, .null, .null, .null, .null, .int 0]))
  have hx := P.at 0 4 (show _ = true from d4) (a := loc 0 4) (o := .inr (9, [.int 0, .ref q1, .ref q2, .ref q3, .ref q4, .ref q5, .ref q6, .int 0, .int 0, .ref q7, .ref q8, .ref q9, .ref q10, .ref q11, .int 0, .int 0, .ref q12, .null, .null, .null, .null, .null, .null, .null, .int 0])) rfl rfl
  refine z_aload_n C dX9_init_111 rfl ?_
  refine z_bipush (v := 60) C dX9_init_112 (by decide) ?_
  refine z_newa (t := 0) (atype := .int) ((60, .inl (fun _ => 0))) C ac_int rfl (fun _ q => q) rfl (fun _ => rfl) ((by decide)) (by decide) (by decide) (zb rfl) (zb rfl) dX9_init_114 ?_
  intro q13 _ hq13 e8; subst e8
  have hx := hup_n (o := oI G 60 (fun _ => 0)) hq13 hx
  have P := P.add 8 17 (show _ = false from d8 17) hq13 (oI G 60 (fun _ => 0))
  refine z_putfF C kcX9 fiX9_51 E.2.2.1 rfl (hx) rfl (rfl) (rfl) (zb rfl) dX9_init_116 ?_
  intro _ e8; subst e8
  have P := P.set 0 4 (show _ = true from d4) rfl (.inr (9, [.int 0, .ref q1, .ref q2, .ref q3, .ref q4, .ref q5, .ref q6, .int 0, .int 0, .ref q7, .ref q8, .ref q9, .ref q10, .ref q11, .int 0, .int 0, .ref q12, .ref q13, .null, .null, .null, .null, .null, .null, .int 0]))
  have hx := P.at 0 4 (show _ = true from d4) (a := loc 0 4) (o := .inr (9, [.int 0, .ref q1, .ref q2, .ref q3, .ref q4, .ref q5, .ref q6, .int 0, .int 0, .ref q7, .ref q8, .ref q9, .ref q10, .ref q11, .int 0, .int 0, .ref q12, .ref q13, .null, .null, .null, .null, .null, .null, .int 0])) rfl rfl
  refine z_aload_n C dX9_init_119 rfl ?_
  refine z_bipush (v := 60) C dX9_init_120 (by decide) ?_
  refine z_newa (t := 0) (atype := .int) ((60, .inl (fun _ => 0))) C ac_int rfl (fun _ q => q) rfl (fun _ => rfl) ((by decide)) (by decide) (by decide) (zb rfl) (zb rfl) dX9_init_122 ?_
  intro q14 _ hq14 e8; subst e8
  have hx := hup_n (o := oI G 60 (fun _ => 0)) hq14 hx
  have P := P.add 8 18 (show _ = false from d8 18) hq14 (oI G 60 (fun _ => 0))
  refine z_putfF C kcX9 fiX9_54 E.2.2.1 rfl (hx) rfl (rfl) (rfl) (zb rfl) dX9_init_124 ?_
  intro _ e8; subst e8
  have P := P.set 0 4 (show _ = true from d4) rfl (.inr (9, [.int 0, .ref q1, .ref q2, .ref q3, .ref q4, .ref q5, .ref q6, .int 0, .int 0, .ref q7, .ref q8, .ref q9, .ref q10, .ref q11, .int 0, .int 0, .ref q12, .ref q13, .ref q14, .null, .null, .null, .null, .null, .int 0]))
  have hx := P.at 0 4 (show _ = true from d4) (a := loc 0 4) (o := .inr (9, [.int 0, .ref q1, .ref q2, .ref q3, .ref q4, .ref q5, .ref q6, .int 0, .int 0, .ref q7, .ref q8, .ref q9, .ref q10, .ref q11, .int 0, .int 0, .ref q12, .ref q13, .ref q14, .null, .null, .null, .null, .null, .int 0])) rfl rfl
  refine z_aload_n C dX9_init_127 rfl ?_
  refine z_bipush (v := 60) C dX9_init_128 (by decide) ?_
  refine z_newa (t := 0) (atype := .int) ((60, .inl (fun _ => 0))) C ac_int rfl (fun _ q => q) rfl (fun _ => rfl) ((by decide)) (by decide) (by decide) (zb rfl) (zb rfl) dX9_init_130 ?_
  intro q15 _ hq15 e8; subst e8
  have hx := hup_n (o := oI G 60 (fun _ => 0)) hq15 hx
  have P := P.add 8 19 (show _ = false from d8 19) hq15 (oI G 60 (fun _ => 0))
  refine z_putfF C kcX9 fiX9_57 E.2.2.1 rfl (hx) rfl (rfl) (rfl) (zb rfl) dX9_init_132 ?_
  intro _ e8; subst e8
  have P := P.set 0 4 (show _ = true from d4) rfl (.inr (9, [.int 0, .ref q1, .ref q2, .ref q3, .ref q4, .ref q5, .ref q6, .int 0, .int 0, .ref q7, .ref q8, .ref q9, .ref q10, .ref q11, .int 0, .int 0, .ref q12, .ref q13, .ref q14, .ref q15, .null, .null, .null, .null, .int 0]))
  have hx := P.at 0 4 (show _ = true from d4) (a := loc 0 4) (o := .inr (9, [.int 0, .ref q1, .ref q2, .ref q3, .ref q4, .ref q5, .ref q6, .int 0, .int 0, .ref q7, .ref q8, .ref q9, .ref q10, .ref q11, .int 0, .int 0, .ref q12, .ref q13, .ref q14, .ref q15, .null, .null, .null, .null, .int 0])) rfl rfl
  refine z_aload_n C dX9_init_135 rfl ?_
  refine z_bipush (v := 60) C dX9_init_136 (by decide) ?_
  refine z_newa (t := 0) (atype := .int) ((60, .inl (fun _ => 0))) C ac_int rfl (fun _ q => q) rfl (fun _ => rfl) ((by decide)) (by decide) (by decide) (zb rfl) (zb rfl) dX9_init_138 ?_
  intro q16 _ hq16 e8; subst e8
  have hx := hup_n (o := oI G 60 (fun _ => 0)) hq16 hx
  have P := P.add 8 20 (show _ = false from d8 20) hq16 (oI G 60 (fun _ => 0))
  refine z_putfF C kcX9 fiX9_60 E.2.2.1 rfl (hx) rfl (rfl) (rfl) (zb rfl) dX9_init_140 ?_
  intro _ e8; subst e8
  have P := P.set 0 4 (show _ = true from d4) rfl (.inr (9, [.int 0, .ref q1, .ref q2, .ref q3, .ref q4, .ref q5, .ref q6, .int 0, .int 0, .ref q7, .ref q8, .ref q9, .ref q10, .ref q11, .int 0, .int 0, .ref q12, .ref q13, .ref q14, .ref q15, .ref q16, .null, .null, .null, .int 0]))
  have hx := P.at 0 4 (show _ = true from d4) (a := loc 0 4) (o := .inr (9, [.int 0, .ref q1, .ref q2, .ref q3, .ref q4, .ref q5, .ref q6, .int 0, .int 0, .ref q7, .ref q8, .ref q9, .ref q10, .ref q11, .int 0, .int 0, .ref q12, .ref q13, .ref q14, .ref q15, .ref q16, .null, .null, .null, .int 0])) rfl rfl
  refine z_aload_n C dX9_init_143 rfl ?_
  refine z_bipush (v := 60) C dX9_init_144 (by decide) ?_
  refine z_newa (t := 0) (atype := .int) ((60, .inl (fun _ => 0))) C ac_int rfl (fun _ q => q) rfl (fun _ => rfl) ((by decide)) (by decide) (by decide) (zb rfl) (zb rfl) dX9_init_146 ?_
  intro q17 _ hq17 e8; subst e8
  have hx := hup_n (o := oI G 60 (fun _ => 0)) hq17 hx
  have P := P.add 8 21 (show _ = false from d8 21) hq17 (oI G 60 (fun _ => 0))
  refine z_putfF C kcX9 fiX9_63 E.2.2.1 rfl (hx) rfl (rfl) (rfl) (zb rfl) dX9_init_148 ?_
  intro _ e8; subst e8
  have P := P.set 0 4 (show _ = true from d4) rfl (.inr (9, [.int 0, .ref q1, .ref q2, .ref q3, .ref q4, .ref q5, .ref q6, .int 0, .int 0, .ref q7, .ref q8, .ref q9, .ref q10, .ref q11, .int 0, .int 0, .ref q12, .ref q13, .ref q14, .ref q15, .ref q16, .ref q17, .null, .null, .int 0]))
  have hx := P.at 0 4 (show _ = true from d4) (a := loc 0 4) (o := .inr (9, [.int 0, .ref q1, .ref q2, .ref q3, .ref q4, .ref q5, .ref q6, .int 0, .int 0, .ref q7, .ref q8, .ref q9, .ref q10, .ref q11, .int 0, .int 0, .ref q12, .ref q13, .ref q14, .ref q15, .ref q16, .ref q17, .null, .null, .int 0])) rfl rfl
  refine z_aload_n C dX9_init_151 rfl ?_
  refine z_bipush (v := 60) C dX9_init_152 (by decide) ?_
  refine z_newa (t := 0) (atype := .int) ((60, .inl (fun _ => 0))) C ac_int rfl (fun _ q => q) rfl (fun _ => rfl) ((by decide)) (by decide) (by decide) (zb rfl) (zb rfl) dX9_init_154 ?_
  intro q18 _ hq18 e8; subst e8
  have hx := hup_n (o := oI G 60 (fun _ => 0)) hq18 hx
  have P := P.add 8 22 (show _ = false from d8 22) hq18 (oI G 60 (fun _ => 0))
  refine z_putfF C kcX9 fiX9_66 E.2.2.1 rfl (hx) rfl (rfl) (rfl) (zb rfl) dX9_init_156 ?_
  intro _ e8; subst e8
  have P := P.set 0 4 (show _ = true from d4) rfl (.inr (9, [.int 0, .ref q1, .ref q2, .ref q3, .ref q4, .ref q5, .ref q6, .int 0, .int 0, .ref q7, .ref q8, .ref q9, .ref q10, .ref q11, .int 0, .int 0, .ref q12, .ref q13, .ref q14, .ref q15, .ref q16, .ref q17, .ref q18, .null, .int 0]))
  have hx := P.at 0 4 (show _ = true from d4) (a := loc 0 4) (o := .inr (9, [.int 0, .ref q1, .ref q2, .ref q3, .ref q4, .ref q5, .ref q6, .int 0, .int 0, .ref q7, .ref q8, .ref q9, .ref q10, .ref q11, .int 0, .int 0, .ref q12, .ref q13, .ref q14, .ref q15, .ref q16, .ref q17, .ref q18, .null, .int 0])) rfl rfl
  refine z_aload_n C dX9_init_159 rfl ?_
  refine z_bipush (v := 60) C dX9_init_160 (by decide) ?_
  refine z_newa (t := 5) (atype := .char) ((60, .inl (fun _ => 0))) C ac_char rfl (fun _ q => q) rfl (fun _ => rfl) ((by decide)) (by decide) (by decide) (zb rfl) (zb rfl) dX9_init_162 ?_
  intro q19 _ hq19 e8; subst e8
  have hx := hup_n (o := oC G 60 (fun _ => 0)) hq19 hx
  have P := P.add 8 23 (show _ = false from d8 23) hq19 (oC G 60 (fun _ => 0))
  refine z_putfF C kcX9 fiX9_69 E.2.2.1 rfl (hx) rfl (rfl) (rfl) (zb rfl) dX9_init_164 ?_
  intro _ e8; subst e8
  have P := P.set 0 4 (show _ = true from d4) rfl (.inr (9, [.int 0, .ref q1, .ref q2, .ref q3, .ref q4, .ref q5, .ref q6, .int 0, .int 0, .ref q7, .ref q8, .ref q9, .ref q10, .ref q11, .int 0, .int 0, .ref q12, .ref q13, .ref q14, .ref q15, .ref q16, .ref q17, .ref q18, .ref q19, .int 0]))
  have hx := P.at 0 4 (show _ = true from d4) (a := loc 0 4) (o := .inr (9, [.int 0, .ref q1, .ref q2, .ref q3, .ref q4, .ref q5, .ref q6, .int 0, .int 0, .ref q7, .ref q8, .ref q9, .ref q10, .ref q11, .int 0, .int 0, .ref q12, .ref q13, .ref q14, .ref q15, .ref q16, .ref q17, .ref q18, .ref q19, .int 0])) rfl rfl
  refine z_vret C E dX9_init_167 ?_ (zb rfl) (zb rfl)
  refine ⟨⟨_, fun k i hk => ?_, P.congr (fun k i hk => ?_)⟩, rfl⟩
  · have n : ∀ {a b : Nat}, D a b = false → ¬ (k = a ∧ i = b) := fun hab e => by
      rw [e.1, e.2, hab] at hk; cases hk
    have m : ∀ {a : Nat}, (∀ j, D a j = false) → ¬ k = a := fun ha e => by
      rw [e, ha] at hk; cases hk
    simp only [u2_ne (n (d8 1)), u2_ne (n (d8 2)), u2_ne (n (d8 3)), u2_ne (n (d8 4)), u2_ne (n (d8 5)), u2_ne (n (d8 6)), u2_ne (n (d8 9)), u2_ne (n (d8 10)), u2_ne (n (d8 11)), u2_ne (n (d8 12)), u2_ne (n (d8 13)), u2_ne (n (d8 16)), u2_ne (n (d8 17)), u2_ne (n (d8 18)), u2_ne (n (d8 19)), u2_ne (n (d8 20)), u2_ne (n (d8 21)), u2_ne (n (d8 22)), u2_ne (n (d8 23)), ur_ne (m d9), ur_ne (m d10), ur_ne (m d11), ur_ne (m d12)]
  · by_cases c8 : k = 8
    · subst c8
      have hd9 : i ∈ [1, 2, 3, 4, 5, 6, 9, 10, 11, 12, 13, 16, 17, 18, 19, 20, 21, 22, 23] := of_decide_eq_true hk
      simp only [List.mem_cons, List.not_mem_nil, or_false] at hd9
      rcases hd9 with rfl | rfl | rfl | rfl | rfl | rfl | rfl | rfl | rfl | rfl | rfl | rfl | rfl | rfl | rfl | rfl | rfl | rfl | rfl <;> exact ⟨rfl, rfl⟩
    · by_cases c9 : k = 9
      · subst c9
        exact ⟨hk, rfl⟩
      · by_cases c10 : k = 10
        · subst c10
          exact ⟨hk, rfl⟩
        · by_cases c11 : k = 11
          · subst c11
            exact ⟨hk, rfl⟩
          · by_cases c12 : k = 12
            · subst c12
              exact ⟨hk, rfl⟩
            · have n8 : ∀ j, ¬ (k = 8 ∧ i = j) := fun j e => c8 e.1
              have hk2 : D k i = true := by
                have h9 := hk
                unfold DM at h9
                rw [if_neg c8, if_neg c9, if_neg c10, if_neg c11, if_neg c12] at h9
                exact h9
              unfold OMM
              rw [if_neg c8, if_neg c9, if_neg c10, if_neg c11, if_neg c12]
              by_cases c4 : k = 0 ∧ i = 4
              · obtain ⟨rfl, rfl⟩ := c4
                rw [if_pos ⟨rfl, rfl⟩]
                exact ⟨d4, rfl⟩
              · rw [if_neg c4]
                simp only [u2_ne c4, u2_ne (n8 _), ur_ne c9, ur_ne c10, ur_ne c11, ur_ne c12]
                exact ⟨hk2, trivial⟩
end
