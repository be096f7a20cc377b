/-! the small classes' methods, over their objects alone -/
def lA (rv ds fr to door minute : Int32) : Int32 := if rv ≠ 0 then 114 else if (ds >>> (door &&& 31)) &&& 1 = 0 then 100 else if minute < fr then 101 else if to ≤ minute then 108 else 111
theorem lA_nar (rv ds fr to door minute : Int32) : narrow .char (.int (lA rv ds fr to door minute)) = .int (lA rv ds fr to door minute) := by
  unfold lA
  split
  · rfl
  · split
    · rfl
    · split
      · rfl
      · split <;> rfl
theorem zfX0 : ∀ j, j < 8 → defaultValue (tyX0 j) = vp_V [.int 0, .int 0, .int 0, .int 0, .int 0, .int 0, .int 0, .int 0] j := by decide
theorem zfX3 : ∀ j, j < 5 → defaultValue (tyX3 j) = vp_V [.int 0, .int 0, .float 0, .int 0, .int 0] j := by decide
theorem zfX4 : ∀ j, j < 6 → defaultValue (tyX4 j) = vp_V [.int 0, .int 0, .int 0, .int 0, .int 0, .int 0] j := by decide
theorem zfX5 : ∀ j, j < 3 → defaultValue (tyX5 j) = vp_V [.int 0, .int 0, .int 0] j := by decide
theorem zfX7 : ∀ j, j < 1 → defaultValue (tyX7 j) = vp_V [.int 0] j := by decide
theorem zfX2 : ∀ j, j < 2 → defaultValue (tyX2 j) = vp_V [.null, .int 0] j := by decide
theorem zfX6 : ∀ j, j < 2 → defaultValue (tyX6 j) = vp_V [.null, .null] j := by decide
theorem zfX8 : ∀ j, j < 6 → defaultValue (tyX8 j) = vp_V [.null, .null, .null, .null, .null, .int 0] j := by decide
theorem zfJx4a65c : ∀ j, j < 3 → defaultValue (tyJx4a65c j) = vp_V [.int 0, .null, .int 0] j := by decide
theorem zfX9 : ∀ j, j < 25 → defaultValue (tyX9 j) = vp_V [.int 0, .null, .null, .null, .null, .null, .null, .int 0, .int 0, .null, .null, .null, .null, .null, .int 0, .int 0, .null, .null, .null, .null, .null, .null, .null, .null, .int 0] j := by decide
section
variable {G : GT} {h : Hp}
theorem k_auditInit (hB : Base G) {a : Nat} {d k m l v t x0 x1 x2 x3 x4 x5 x6 x7 : Int32} (hl : narrow .char (.int l) = .int l) (ha : h a = some (.inr (1, [.int x0, .int x1, .int x2, .int x3, .int x4, .int x5, .int x6, .int x7]))) :
    Ct G mX0_init 2 0 0 [.ref a, .int d, .int k, .int m, .int l, .int v, .int t] h (wr (hup h a (.inr (1, [.int d, .int k, .int m, .int l, .int v, .int t, .int (-1), .int (-1)])))) noX := by
  refine Ct.intro (m := 0) hB (by decide +kernel) (zb rfl) fun X C E => ?_
  refine z_aload_n C dX0_init_0 rfl ?_
  refine z_objInit C lkX0_1 im_obj co_obj (zb rfl) (zb rfl) dX0_init_1 ?_
  refine z_aload_n C dX0_init_4 rfl ?_
  refine z_iconst (v := (-1)) C dX0_init_5 (by decide) ?_
  refine z_putf C kcX0 flX0_9 (ha) rfl (rfl) (rfl) (zb rfl) dX0_init_6 ?_
  intro _ e8; subst e8
  refine z_aload_n C dX0_init_9 rfl ?_
  refine z_iconst (v := (-1)) C dX0_init_10 (by decide) ?_
  refine z_putf C kcX0 flX0_13 (hup_self _ _ _) rfl (rfl) (rfl) (zb rfl) dX0_init_11 ?_
  intro _ e8; subst e8
  refine z_aload_n C dX0_init_14 rfl ?_
  refine z_iload_n C dX0_init_15 rfl ?_
  refine z_putfF C kcX0 fiX0_16 E.2.2.1 rfl (hup_self _ _ _) rfl (rfl) (rfl) (zb rfl) dX0_init_16 ?_
  intro _ e8; subst e8
  refine z_aload_n C dX0_init_19 rfl ?_
  refine z_iload_n C dX0_init_20 rfl ?_
  refine z_putfF C kcX0 fiX0_19 E.2.2.1 rfl (hup_self _ _ _) rfl (rfl) (rfl) (zb rfl) dX0_init_21 ?_
  intro _ e8; subst e8
  refine z_aload_n C dX0_init_24 rfl ?_
  refine z_iload_n C dX0_init_25 rfl ?_
  refine z_putfF C kcX0 fiX0_22 E.2.2.1 rfl (hup_self _ _ _) rfl (rfl) (rfl) (zb rfl) dX0_init_26 ?_
  intro _ e8; subst e8
  refine z_aload_n C dX0_init_29 rfl ?_
  refine z_iload C dX0_init_30 rfl ?_
  refine z_putfF C kcX0 fiX0_25 E.2.2.1 rfl (hup_self _ _ _) rfl (hl) ((by rw [← hl]; exact fits_narrow_char _)) (zb rfl) dX0_init_32 ?_
  intro _ e8; subst e8
  refine z_aload_n C dX0_init_35 rfl ?_
  refine z_iload C dX0_init_36 rfl ?_
  refine z_putfF C kcX0 fiX0_29 E.2.2.1 rfl (hup_self _ _ _) rfl (rfl) (rfl) (zb rfl) dX0_init_38 ?_
  intro _ e8; subst e8
  refine z_aload_n C dX0_init_41 rfl ?_
  refine z_iload C dX0_init_42 rfl ?_
  refine z_putfF C kcX0 fiX0_32 E.2.2.1 rfl (hup_self _ _ _) rfl (rfl) (rfl) (zb rfl) dX0_init_44 ?_
  intro _ e8; subst e8
  simp only [hup_hup]
  exact z_vret C E dX0_init_47 (⟨rfl, rfl⟩) (zb rfl) (zb rfl)
theorem k_isWaitingAt (hB : Base G) {a : Nat} {d tk p : Int32} {k m l v t ar : Value} (ha : h a = some (.inr (1, [.int d, k, m, l, v, t, .int tk, ar]))) : Ct G mX0_isWaitingAt 1 0 0 [.ref a, .int p] h (rd h (.int (if d = p ∧ tk = -1 then 1 else 0))) noX := by
  refine Ct.intro (m := 0) hB (by decide +kernel) (zb rfl) fun X C E => ?_
  refine z_aload_n C dX0_isWaitingAt_0 rfl ?_
  refine z_getf C kcX0 flX0_16 (ha) rfl dX0_isWaitingAt_1 ?_
  refine z_iload_n C dX0_isWaitingAt_4 rfl ?_
  refine z_icmp_ne (tgt := 20) C dX0_isWaitingAt_5 (by decide) (fun e1 => ?_) (fun e1 => ?_)
  · refine z_iconst (v := 0) C dX0_isWaitingAt_20 (by decide) ?_
    exact z_zret C E (rfl) dX0_isWaitingAt_21 (⟨rfl, by rw [if_neg (fun q => e1 q.1)]⟩) (zb rfl) (zb rfl)
  · refine z_aload_n C dX0_isWaitingAt_8 rfl ?_
    refine z_getf C kcX0 flX0_9 (ha) rfl dX0_isWaitingAt_9 ?_
    refine z_iconst (v := (-1)) C dX0_isWaitingAt_12 (by decide) ?_
    refine z_icmp_ne (tgt := 20) C dX0_isWaitingAt_13 (by decide) (fun e2 => ?_) (fun e2 => ?_)
    · refine z_iconst (v := 0) C dX0_isWaitingAt_20 (by decide) ?_
      exact z_zret C E (rfl) dX0_isWaitingAt_21 (⟨rfl, by rw [if_neg (fun q => e2 q.2)]⟩) (zb rfl) (zb rfl)
    · refine z_iconst (v := 1) C dX0_isWaitingAt_16 (by decide) ?_
      refine z_goto (tgt := 21) C dX0_isWaitingAt_17 (by decide) ?_
      exact z_zret C E (rfl) dX0_isWaitingAt_21 (⟨rfl, by rw [if_pos ⟨e1, e2⟩]⟩) (zb rfl) (zb rfl)
theorem k_isCarriedBy (hB : Base G) {a : Nat} {tk p ar : Int32} {d k m l v t : Value} (ha : h a = some (.inr (1, [d, k, m, l, v, t, .int tk, .int ar]))) : Ct G mX0_isCarriedBy 1 0 0 [.ref a, .int p] h (rd h (.int (if tk = p ∧ ar = -1 then 1 else 0))) noX := by
  refine Ct.intro (m := 0) hB (by decide +kernel) (zb rfl) fun X C E => ?_
  refine z_aload_n C dX0_isCarriedBy_0 rfl ?_
  refine z_getf C kcX0 flX0_9 (ha) rfl dX0_isCarriedBy_1 ?_
  refine z_iload_n C dX0_isCarriedBy_4 rfl ?_
  refine z_icmp_ne (tgt := 20) C dX0_isCarriedBy_5 (by decide) (fun e1 => ?_) (fun e1 => ?_)
  · refine z_iconst (v := 0) C dX0_isCarriedBy_20 (by decide) ?_
    exact z_zret C E (rfl) dX0_isCarriedBy_21 (⟨rfl, by rw [if_neg (fun q => e1 q.1)]⟩) (zb rfl) (zb rfl)
  · refine z_aload_n C dX0_isCarriedBy_8 rfl ?_
    refine z_getf C kcX0 flX0_13 (ha) rfl dX0_isCarriedBy_9 ?_
    refine z_iconst (v := (-1)) C dX0_isCarriedBy_12 (by decide) ?_
    refine z_icmp_ne (tgt := 20) C dX0_isCarriedBy_13 (by decide) (fun e2 => ?_) (fun e2 => ?_)
    · refine z_iconst (v := 0) C dX0_isCarriedBy_20 (by decide) ?_
      exact z_zret C E (rfl) dX0_isCarriedBy_21 (⟨rfl, by rw [if_neg (fun q => e2 q.2)]⟩) (zb rfl) (zb rfl)
    · refine z_iconst (v := 1) C dX0_isCarriedBy_16 (by decide) ?_
      refine z_goto (tgt := 21) C dX0_isCarriedBy_17 (by decide) ?_
      exact z_zret C E (rfl) dX0_isCarriedBy_21 (⟨rfl, by rw [if_pos ⟨e1, e2⟩]⟩) (zb rfl) (zb rfl)
theorem k_isInCloud (hB : Base G) {a : Nat} {ar : Int32} {d k m l v t tk : Value} (ha : h a = some (.inr (1, [d, k, m, l, v, t, tk, .int ar]))) : Ct G mX0_isInCloud 1 0 0 [.ref a] h (rd h (.int (if ar = -1 then 0 else 1))) noX := by
  refine Ct.intro (m := 0) hB (by decide +kernel) (zb rfl) fun X C E => ?_
  refine z_aload_n C dX0_isInCloud_0 rfl ?_
  refine z_getf C kcX0 flX0_13 (ha) rfl dX0_isInCloud_1 ?_
  refine z_iconst (v := (-1)) C dX0_isInCloud_4 (by decide) ?_
  refine z_icmp_eq (tgt := 12) C dX0_isInCloud_5 (by decide) (fun e1 => ?_) (fun e1 => ?_)
  · refine z_iconst (v := 0) C dX0_isInCloud_12 (by decide) ?_
    exact z_zret C E (rfl) dX0_isInCloud_13 (⟨rfl, by rw [if_pos e1]⟩) (zb rfl) (zb rfl)
  · refine z_iconst (v := 1) C dX0_isInCloud_8 (by decide) ?_
    refine z_goto (tgt := 13) C dX0_isInCloud_9 (by decide) ?_
    exact z_zret C E (rfl) dX0_isInCloud_13 (⟨rfl, by rw [if_neg e1]⟩) (zb rfl) (zb rfl)
theorem k_doorInit (hB : Base G) {a : Nat} {v t x0 x1 x3 x4 : Int32} {x2 : UInt32} (ha : h a = some (.inr (3, [.int x0, .int x1, .float x2, .int x3, .int x4]))) :
    Ct G mX3_init 2 0 0 [.ref a, .int v, .int t] h (wr (hup h a (.inr (3, [.int v, .int v, .float FP.fconst1, .int t, .int t])))) noX := by
  refine Ct.intro (m := 0) hB (by decide +kernel) (zb rfl) fun X C E => ?_
  refine z_aload_n C dX3_init_0 rfl ?_
  refine z_objInit C lkX3_1 im_obj co_obj (zb rfl) (zb rfl) dX3_init_1 ?_
  refine z_aload_n C dX3_init_4 rfl ?_
  refine z_fconst1 C dX3_init_5 ?_
  refine z_putf C kcX3 flX3_7 (ha) rfl (rfl) (rfl) (zb rfl) dX3_init_6 ?_
  intro _ e8; subst e8
  refine z_aload_n C dX3_init_9 rfl ?_
  refine z_iload_n C dX3_init_10 rfl ?_
  refine z_putfF C kcX3 fiX3_13 E.2.2.1 rfl (hup_self _ _ _) rfl (rfl) (rfl) (zb rfl) dX3_init_11 ?_
  intro _ e8; subst e8
  refine z_aload_n C dX3_init_14 rfl ?_
  refine z_iload_n C dX3_init_15 rfl ?_
  refine z_putf C kcX3 flX3_17 (hup_self _ _ _) rfl (rfl) (rfl) (zb rfl) dX3_init_16 ?_
  intro _ e8; subst e8
  refine z_aload_n C dX3_init_19 rfl ?_
  refine z_iload_n C dX3_init_20 rfl ?_
  refine z_putf C kcX3 flX3_20 (hup_self _ _ _) rfl (rfl) (rfl) (zb rfl) dX3_init_21 ?_
  intro _ e8; subst e8
  refine z_aload_n C dX3_init_24 rfl ?_
  refine z_iload_n C dX3_init_25 rfl ?_
  refine z_putf C kcX3 flX3_23 (hup_self _ _ _) rfl (rfl) (rfl) (zb rfl) dX3_init_26 ?_
  intro _ e8; subst e8
  simp only [hup_hup]
  exact z_vret C E dX3_init_29 (⟨rfl, rfl⟩) (zb rfl) (zb rfl)
theorem k_driftAt (hB : Base G) {a : Nat} {t sa : Int32} {r : UInt32} {x0 x1 x4 : Value} (ha : h a = some (.inr (3, [x0, x1, .float r, .int sa, x4]))) (hn : vf_n32 (FP.fmul (FP.i2f (t - sa)) r)) : Ct G mX3_driftAt 1 0 0 [.ref a, .int t] h (rd h (.float (FP.fmul (FP.i2f (t - sa)) r))) noX := by
  refine Ct.intro (m := 0) hB (by decide +kernel) (zb rfl) fun X C E => ?_
  refine z_iload_n C dX3_driftAt_0 rfl ?_
  refine z_aload_n C dX3_driftAt_1 rfl ?_
  refine z_getf C kcX3 flX3_20 (ha) rfl dX3_driftAt_2 ?_
  refine z_isub C dX3_driftAt_5 ?_
  refine z_i2f C dX3_driftAt_6 ?_
  refine z_aload_n C dX3_driftAt_7 rfl ?_
  refine z_getf C kcX3 flX3_7 (ha) rfl dX3_driftAt_8 ?_
  refine z_fmul C dX3_driftAt_11 (hn) ?_
  exact z_fret C E dX3_driftAt_12 (⟨rfl, rfl⟩) (zb rfl) (zb rfl)
theorem k_minuteAt (hB : Base G) {a : Nat} {t sa s : Int32} {r : UInt32} {x0 x1 : Value} (ha : h a = some (.inr (3, [x0, x1, .float r, .int sa, .int s]))) (hn : vf_n32 (FP.fmul (FP.i2f (t - sa)) r)) : Ct G mX3_minuteAt 2 0 0 [.ref a, .int t] h (rd h (.int (s + FP.f2i (FP.fmul (FP.i2f (t - sa)) r)))) noX := by
  refine Ct.intro (m := 0) hB (by decide +kernel) (zb rfl) fun X C E => ?_
  refine z_aload_n C dX3_minuteAt_0 rfl ?_
  refine z_getf C kcX3 flX3_23 (ha) rfl dX3_minuteAt_1 ?_
  refine z_aload_n C dX3_minuteAt_4 rfl ?_
  refine z_iload_n C dX3_minuteAt_5 rfl ?_
  refine z_rd (z_runV C kvX3_driftAt lkX3_26 kcX3 (k_driftAt hB ha hn) (ha) rfl rfl (zb rfl) (zb rfl) (zb rfl) (zb rfl) dX3_minuteAt_6) ?_
  refine z_f2i C dX3_minuteAt_9 ?_
  refine z_iadd C dX3_minuteAt_10 ?_
  exact z_iret C E dX3_minuteAt_11 (⟨rfl, rfl⟩) (zb rfl) (zb rfl)
theorem k_setClock (hB : Base G) {a : Nat} {t m : Int32} {x0 x1 x2 x3 x4 : Value} (ha : h a = some (.inr (3, [x0, x1, x2, x3, x4]))) : Ct G mX3_setClock 1 0 0 [.ref a, .int t, .int m] h (wr (hup h a (.inr (3, [x0, x1, x2, .int t, .int m])))) noX := by
  refine Ct.intro (m := 0) hB (by decide +kernel) (zb rfl) fun X C E => ?_
  refine z_aload_n C dX3_setClock_0 rfl ?_
  refine z_iload_n C dX3_setClock_1 rfl ?_
  refine z_putf C kcX3 flX3_20 (ha) rfl (rfl) (rfl) (zb rfl) dX3_setClock_2 ?_
  intro _ e8; subst e8
  refine z_aload_n C dX3_setClock_5 rfl ?_
  refine z_iload_n C dX3_setClock_6 rfl ?_
  refine z_putf C kcX3 flX3_23 (hup_self _ _ _) rfl (rfl) (rfl) (zb rfl) dX3_setClock_7 ?_
  intro _ e8; subst e8
  simp only [hup_hup]
  exact z_vret C E dX3_setClock_10 (⟨rfl, rfl⟩) (zb rfl) (zb rfl)
theorem k_keyInit (hB : Base G) {a : Nat} {k d f t r m x0 x1 x2 x3 x4 x5 : Int32} (hr : narrow .boolean (.int r) = .int r) (ha : h a = some (.inr (4, [.int x0, .int x1, .int x2, .int x3, .int x4, .int x5]))) :
    Ct G mX4_init 2 0 0 [.ref a, .int k, .int d, .int f, .int t, .int r, .int m] h (wr (hup h a (.inr (4, [.int k, .int d, .int f, .int t, .int r, .int m])))) noX := by
  refine Ct.intro (m := 0) hB (by decide +kernel) (zb rfl) fun X C E => ?_
  refine z_aload_n C dX4_init_0 rfl ?_
  refine z_objInit C lkX4_1 im_obj co_obj (zb rfl) (zb rfl) dX4_init_1 ?_
  refine z_aload_n C dX4_init_4 rfl ?_
  refine z_iload_n C dX4_init_5 rfl ?_
  refine z_putfF C kcX4 fiX4_7 E.2.2.1 rfl (ha) rfl (rfl) (rfl) (zb rfl) dX4_init_6 ?_
  intro _ e8; subst e8
  refine z_aload_n C dX4_init_9 rfl ?_
  refine z_iload_n C dX4_init_10 rfl ?_
  refine z_putfF C kcX4 fiX4_13 E.2.2.1 rfl (hup_self _ _ _) rfl (rfl) (rfl) (zb rfl) dX4_init_11 ?_
  intro _ e8; subst e8
  refine z_aload_n C dX4_init_14 rfl ?_
  refine z_iload_n C dX4_init_15 rfl ?_
  refine z_putfF C kcX4 fiX4_16 E.2.2.1 rfl (hup_self _ _ _) rfl (rfl) (rfl) (zb rfl) dX4_init_16 ?_
  intro _ e8; subst e8
  refine z_aload_n C dX4_init_19 rfl ?_
  refine z_iload C dX4_init_20 rfl ?_
  refine z_putfF C kcX4 fiX4_19 E.2.2.1 rfl (hup_self _ _ _) rfl (rfl) (rfl) (zb rfl) dX4_init_22 ?_
  intro _ e8; subst e8
  refine z_aload_n C dX4_init_25 rfl ?_
  refine z_iload C dX4_init_26 rfl ?_
  refine z_putfF C kcX4 fiX4_22 E.2.2.1 rfl (hup_self _ _ _) rfl (hr) ((by rw [← hr]; exact fits_narrow_boolean _)) (zb rfl) dX4_init_28 ?_
  intro _ e8; subst e8
  refine z_aload_n C dX4_init_31 rfl ?_
  refine z_iload C dX4_init_32 rfl ?_
  refine z_putfF C kcX4 fiX4_26 E.2.2.1 rfl (hup_self _ _ _) rfl (rfl) (rfl) (zb rfl) dX4_init_34 ?_
  intro _ e8; subst e8
  simp only [hup_hup]
  exact z_vret C E dX4_init_37 (⟨rfl, rfl⟩) (zb rfl) (zb rfl)
theorem k_letterAt (hB : Base G) {a : Nat} {ds f t r door minute : Int32} {x0 x5 : Value} (ha : h a = some (.inr (4, [x0, .int ds, .int f, .int t, .int r, x5]))) : Ct G mX4_letterAt 1 0 0 [.ref a, .int door, .int minute] h (rd h (.int (lA r ds f t door minute))) noX := by
  refine Ct.intro (m := 0) hB (by decide +kernel) (zb rfl) fun X C E => ?_
  refine z_aload_n C dX4_letterAt_0 rfl ?_
  refine z_getf C kcX4 flX4_22 (ha) rfl dX4_letterAt_1 ?_
  refine z_if_eq (tgt := 10) C dX4_letterAt_4 (by decide) (fun e1 => ?_) (fun e1 => ?_)
  · refine z_aload_n C dX4_letterAt_10 rfl ?_
    refine z_getf C kcX4 flX4_13 (ha) rfl dX4_letterAt_11 ?_
    refine z_iload_n C dX4_letterAt_14 rfl ?_
    refine z_ishr C dX4_letterAt_15 ?_
    refine z_iconst (v := 1) C dX4_letterAt_16 (by decide) ?_
    refine z_iand C dX4_letterAt_17 ?_
    refine z_if_ne (tgt := 24) C dX4_letterAt_18 (by decide) (fun e2 => ?_) (fun e2 => ?_)
    · refine z_iload_n C dX4_letterAt_24 rfl ?_
      refine z_aload_n C dX4_letterAt_25 rfl ?_
      refine z_getf C kcX4 flX4_16 (ha) rfl dX4_letterAt_26 ?_
      refine z_icmp_ge (tgt := 35) C dX4_letterAt_29 (by decide) (fun e3 => ?_) (fun e3 => ?_)
      · refine z_iload_n C dX4_letterAt_35 rfl ?_
        refine z_aload_n C dX4_letterAt_36 rfl ?_
        refine z_getf C kcX4 flX4_19 (ha) rfl dX4_letterAt_37 ?_
        refine z_icmp_lt (tgt := 48) C dX4_letterAt_40 (by decide) (fun e4 => ?_) (fun e4 => ?_)
        · refine z_bipush (v := 111) C dX4_letterAt_48 (by decide) ?_
          exact z_zret C E (rfl) dX4_letterAt_50 (⟨rfl, by simp only [lA, if_neg (not_not_intro e1), if_neg e2, if_neg (Int32.not_lt.mpr e3), if_neg (Int32.not_le.mpr e4)]⟩) (zb rfl) (zb rfl)
        · refine z_bipush (v := 108) C dX4_letterAt_43 (by decide) ?_
          refine z_goto (tgt := 50) C dX4_letterAt_45 (by decide) ?_
          exact z_zret C E (rfl) dX4_letterAt_50 (⟨rfl, by simp only [lA, if_neg (not_not_intro e1), if_neg e2, if_neg (Int32.not_lt.mpr e3), if_pos (Int32.not_lt.mp e4)]⟩) (zb rfl) (zb rfl)
      · refine z_bipush (v := 101) C dX4_letterAt_32 (by decide) ?_
        exact z_zret C E (rfl) dX4_letterAt_34 (⟨rfl, by simp only [lA, if_neg (not_not_intro e1), if_neg e2, if_pos (Int32.not_le.mp e3)]⟩) (zb rfl) (zb rfl)
    · refine z_bipush (v := 100) C dX4_letterAt_21 (by decide) ?_
      exact z_zret C E (rfl) dX4_letterAt_23 (⟨rfl, by simp only [lA, if_neg (not_not_intro e1), if_pos e2]⟩) (zb rfl) (zb rfl)
  · refine z_bipush (v := 114) C dX4_letterAt_7 (by decide) ?_
    exact z_zret C E (rfl) dX4_letterAt_9 (⟨rfl, by simp only [lA, if_pos e1]⟩) (zb rfl) (zb rfl)
theorem k_meetInit (hB : Base G) {a : Nat} {p d v x0 x1 x2 : Int32} (ha : h a = some (.inr (5, [.int x0, .int x1, .int x2]))) : Ct G mX5_init 2 0 0 [.ref a, .int p, .int d, .int v] h (wr (hup h a (.inr (5, [.int p, .int d, .int v])))) noX := by
  refine Ct.intro (m := 0) hB (by decide +kernel) (zb rfl) fun X C E => ?_
  refine z_aload_n C dX5_init_0 rfl ?_
  refine z_objInit C lkX5_1 im_obj co_obj (zb rfl) (zb rfl) dX5_init_1 ?_
  refine z_aload_n C dX5_init_4 rfl ?_
  refine z_iload_n C dX5_init_5 rfl ?_
  refine z_putfF C kcX5 fiX5_7 E.2.2.1 rfl (ha) rfl (rfl) (rfl) (zb rfl) dX5_init_6 ?_
  intro _ e8; subst e8
  refine z_aload_n C dX5_init_9 rfl ?_
  refine z_iload_n C dX5_init_10 rfl ?_
  refine z_putfF C kcX5 fiX5_13 E.2.2.1 rfl (hup_self _ _ _) rfl (rfl) (rfl) (zb rfl) dX5_init_11 ?_
  intro _ e8; subst e8
  refine z_aload_n C dX5_init_14 rfl ?_
  refine z_iload_n C dX5_init_15 rfl ?_
  refine z_putfF C kcX5 fiX5_16 E.2.2.1 rfl (hup_self _ _ _) rfl (rfl) (rfl) (zb rfl) dX5_init_16 ?_
  intro _ e8; subst e8
  simp only [hup_hup]
  exact z_vret C E dX5_init_19 (⟨rfl, rfl⟩) (zb rfl) (zb rfl)
theorem k_phoneInit (hB : Base G) {a : Nat} {x0 : Int32} (ha : h a = some (.inr (7, [.int x0]))) : Ct G mX7_init 2 0 0 [.ref a] h (wr (hup h a (.inr (7, [.int 0])))) noX := by
  refine Ct.intro (m := 0) hB (by decide +kernel) (zb rfl) fun X C E => ?_
  refine z_aload_n C dX7_init_0 rfl ?_
  refine z_objInit C lkX7_1 im_obj co_obj (zb rfl) (zb rfl) dX7_init_1 ?_
  refine z_aload_n C dX7_init_4 rfl ?_
  refine z_iconst (v := 0) C dX7_init_5 (by decide) ?_
  refine z_putf C kcX7 flX7_7 (ha) rfl (rfl) (rfl) (zb rfl) dX7_init_6 ?_
  intro _ e8; subst e8
  exact z_vret C E dX7_init_9 (⟨rfl, rfl⟩) (zb rfl) (zb rfl)
end
/-! the list of versions -/
/-- the last change of key k among the first v changes -/
def lastc (f : Nat → Int32) (k : Int32) : Nat → Option Nat
  | 0 => none
  | v + 1 => if f v = k then some v else lastc f k v
theorem lastc_lt {f : Nat → Int32} {k : Int32} : ∀ {v c : Nat}, lastc f k v = some c → c < v ∧ f c = k
  | 0, c, e => by cases e
  | v + 1, c, e => by
    unfold lastc at e
    split at e
    · next q => cases e; exact ⟨Nat.lt_succ_self _, q⟩
    · exact ⟨Nat.lt_succ_of_lt (lastc_lt e).1, (lastc_lt e).2⟩
/-- the newest version made at minute m or earlier -/
def nwAt (f : Nat → Int32) (m : Int32) : Nat → Nat
  | 0 => 0
  | v + 1 => if m < f v then nwAt f m v else v + 1
theorem nwAt_le (f : Nat → Int32) (m : Int32) : ∀ v, nwAt f m v ≤ v
  | 0 => Nat.le_refl _
  | v + 1 => by
    unfold nwAt
    split
    · exact Nat.le_succ_of_le (nwAt_le f m v)
    · exact Nat.le_refl _
def kref (loc : Nat → Nat → Nat) : Option Nat → Value
  | none => .null
  | some c => .ref (loc 6 c)
def letr (σ : SG) (door minute : Int32) : Option Nat → Int32
  | none => 117
  | some c => lA (tT σ 4 c) (tT σ 1 c) (tT σ 2 c) (tT σ 3 c) door minute
/-- the letter of key at door, by the list of version v, at a minute -/
def letter (σ : SG) (v : Nat) (key door minute : Int32) : Int32 := letr σ door minute (lastc (tT σ 0) key v)
theorem letter_nar (σ : SG) (v : Nat) (key door minute : Int32) : narrow .char (.int (letter σ v key door minute)) = .int (letter σ v key door minute) := by
  unfold letter
  cases lastc (tT σ 0) key v with
  | none => rfl
  | some c => exact lA_nar _ _ _ _ _ _
section
variable {G : GT} {h : Hp} {loc : Nat → Nat → Nat} {σ σ' : SG} {ρ : RG}
theorem k_newest (hB : Base G) (P : PW G h loc σ ρ) : Ct G mX2_newest 2 0 0 [.ref (loc 0 1)] h (rd h (.int (nI (tn σ 3)))) noX := by
  refine Ct.intro (m := 0) hB (by decide +kernel) (zb rfl) fun X C E => ?_
  refine z_aload_n C dX2_newest_0 rfl ?_
  refine z_getf C kcX2 flX2_10 (P.cl) rfl dX2_newest_1 ?_
  refine z_rd (z_runV C kvJx4a65c_size_8abf5 lkX2_20 kcJx4a65c (k_sizeL hB P (j := 3) (by decide)) (P.list (by decide)) rfl rfl (zb rfl) (zb rfl) (zb rfl) (zb rfl) dX2_newest_4) ?_
  exact z_iret C E dX2_newest_7 (⟨rfl, rfl⟩) (zb rfl) (zb rfl)
theorem k_pred (n : Nat) : nI (n + 1) - 1 = nI n := nI_pred n
theorem k_dec (n : Nat) : nI (n + 1) + Int32.ofInt (-1) = nI n := by
  rw [nI_succ, Int32.add_assoc]
  show nI n + (1 + -1) = nI n
  rw [show (1 : Int32) + -1 = 0 by decide, Int32.add_zero]
theorem k_newestAt (hB : Base G) (P : PW G h loc σ ρ) {m : Int32} : Ct G mX2_newestAt 4 0 0 [.ref (loc 0 1), .int m] h (rd h (.int (nI (nwAt (tT σ 5) m (tn σ 3))))) noX := by
  refine Ct.intro (m := 1) hB (by decide +kernel) (zb rfl) fun X C E => ?_
  have hb := P.lt 3
  have key : ∀ j, j ≤ tn σ 3 → nwAt (tT σ 5) m j = nwAt (tT σ 5) m (tn σ 3) → Zs G X 3 h 0 0 8 [some (.ref (loc 0 1)), some (.int m), some (.int (nI j))] [] := fun j => by
    induction j with
    | zero =>
      intro hj e
      refine z_iload_n C dX2_newestAt_8 rfl ?_
      refine z_if_le (tgt := 38) C dX2_newestAt_9 (by decide) (fun _ => ?_) (fun e9 => absurd ((show nI 0 ≤ 0 by decide)) e9)
      refine z_iload_n C dX2_newestAt_38 rfl ?_
      exact z_iret C E dX2_newestAt_39 (⟨rfl, by rw [← e]; rfl⟩) (zb rfl) (zb rfl)
    | succ j ih =>
      intro hj e
      refine z_iload_n C dX2_newestAt_8 rfl ?_
      refine z_if_le (tgt := 38) C dX2_newestAt_9 (by decide) (fun e9 => absurd e9 (nI_nle (by omega) (by omega))) (fun _ => ?_)
      refine z_aload_n C dX2_newestAt_12 rfl ?_
      refine z_getf C kcX2 flX2_10 (P.cl) rfl dX2_newestAt_13 ?_
      refine z_iload_n C dX2_newestAt_16 rfl ?_
      refine z_iconst (v := 1) C dX2_newestAt_17 (by decide) ?_
      refine z_isub C dX2_newestAt_18 ?_
      rw [k_pred]
      refine z_rd (z_runV C kvJx4a65c_get_915e3 lkX2_24 kcJx4a65c (k_getL hB P (by decide) (show j < tn σ 3 by omega)) (P.list (by decide)) rfl rfl (zb rfl) (zb rfl) (zb rfl) (zb rfl) dX2_newestAt_19) ?_
      refine z_checkcast C kcX4 clX2_28 (P.key (by omega)) dX2_newestAt_22 ?_
      refine z_getf C kcX4 flX2_30 (P.key (by omega)) rfl dX2_newestAt_25 ?_
      refine z_iload_n C dX2_newestAt_28 rfl ?_
      refine z_icmp_le (tgt := 38) C dX2_newestAt_29 (by decide) (fun e1 => ?_) (fun e1 => ?_)
      · have e2 : nwAt (tT σ 5) m (j + 1) = j + 1 := if_neg (Int32.not_lt.mpr e1)
        refine z_iload_n C dX2_newestAt_38 rfl ?_
        exact z_iret C E dX2_newestAt_39 (⟨rfl, by rw [← e, e2]⟩) (zb rfl) (zb rfl)
      · refine z_iinc _ C dX2_newestAt_32 rfl (k_dec j) (zb rfl) ?_
        refine z_goto (tgt := 8) C dX2_newestAt_35 (by decide) ?_
        refine ih (by omega) ?_
        rw [← e]
        exact (if_pos (Int32.not_le.mp e1)).symm
  refine z_aload_n C dX2_newestAt_0 rfl ?_
  refine z_getf C kcX2 flX2_10 (P.cl) rfl dX2_newestAt_1 ?_
  refine z_rd (z_runV C kvJx4a65c_size_8abf5 lkX2_20 kcJx4a65c (k_sizeL hB P (j := 3) (by decide)) (P.list (by decide)) rfl rfl (zb rfl) (zb rfl) (zb rfl) (zb rfl) dX2_newestAt_4) ?_
  refine z_istore_n C dX2_newestAt_7 (zb rfl) ?_
  exact key _ (Nat.le_refl _) rfl
theorem k_keyIn (hB : Base G) (P : PW G h loc σ ρ) {v : Nat} {k : Int32} (hv : v ≤ tn σ 3) : Ct G mX2_keyIn 4 0 0 [.ref (loc 0 1), .int (nI v), .int k] h (rd h (kref loc (lastc (tT σ 0) k v))) noX := by
  refine Ct.intro (m := 2) hB (by decide +kernel) (zb rfl) fun X C E => ?_
  have hb := P.lt 3
  have key : ∀ j, j ≤ v → lastc (tT σ 0) k j = lastc (tT σ 0) k v → Zs G X 5 h 0 0 12 [some (.ref (loc 0 1)), some (.int (nI v)), some (.int k), some (.int (nI j)), none] [] := fun j => by
    induction j with
    | zero =>
      intro hj e
      refine z_iload_n C dX2_keyIn_12 rfl ?_
      refine z_if_le (tgt := 49) C dX2_keyIn_13 (by decide) (fun _ => ?_) (fun e9 => absurd ((show nI 0 ≤ 0 by decide)) e9)
      refine z_null C dX2_keyIn_49 ?_
      exact z_aret C E (Or.inl ⟨_, rfl⟩) (Or.inl rfl) dX2_keyIn_50 (⟨rfl, by rw [← e]; rfl⟩) (zb rfl) (zb rfl)
    | succ j ih =>
      intro hj e
      refine z_iload_n C dX2_keyIn_12 rfl ?_
      refine z_if_le (tgt := 49) C dX2_keyIn_13 (by decide) (fun e9 => absurd e9 (nI_nle (by omega) (by omega))) (fun _ => ?_)
      refine z_aload_n C dX2_keyIn_16 rfl ?_
      refine z_getf C kcX2 flX2_10 (P.cl) rfl dX2_keyIn_17 ?_
      refine z_iload_n C dX2_keyIn_20 rfl ?_
      refine z_iconst (v := 1) C dX2_keyIn_21 (by decide) ?_
      refine z_isub C dX2_keyIn_22 ?_
      rw [k_pred]
      refine z_rd (z_runV C kvJx4a65c_get_915e3 lkX2_24 kcJx4a65c (k_getL hB P (by decide) (show j < tn σ 3 by omega)) (P.list (by decide)) rfl rfl (zb rfl) (zb rfl) (zb rfl) (zb rfl) dX2_keyIn_23) ?_
      refine z_checkcast C kcX4 clX2_28 (P.key (by omega)) dX2_keyIn_26 ?_
      refine z_astore C dX2_keyIn_29 (zb rfl) ?_
      refine z_aload C dX2_keyIn_31 rfl ?_
      refine z_getf C kcX4 flX2_43 (P.key (by omega)) rfl dX2_keyIn_33 ?_
      refine z_iload_n C dX2_keyIn_36 rfl ?_
      refine z_icmp_ne (tgt := 43) C dX2_keyIn_37 (by decide) (fun e1 => ?_) (fun e1 => ?_)
      · refine z_iinc _ C dX2_keyIn_43 rfl (k_dec j) (zb rfl) ?_
        refine z_goto (tgt := 12) C dX2_keyIn_46 (by decide) ?_
        refine Zs.mask [true, true, true, true, false] (ih (by omega) ?_)
        rw [← e]
        exact (if_neg e1).symm
      · have e2 : lastc (tT σ 0) k (j + 1) = some j := if_pos e1
        refine z_aload C dX2_keyIn_40 rfl ?_
        exact z_aret C E (Or.inl ⟨_, rfl⟩) (Or.inr ⟨_, rfl⟩) dX2_keyIn_42 (⟨rfl, by rw [← e, e2]; rfl⟩) (zb rfl) (zb rfl)
  have e3 : (if nI (tn σ 3) < nI v then nI (tn σ 3) else nI v) = nI v := if_neg (fun q => by
    have := (nI_ltI (by omega) (by omega)).mp q
    omega)
  refine z_iload_n C dX2_keyIn_0 rfl ?_
  refine z_aload_n C dX2_keyIn_1 rfl ?_
  refine z_getf C kcX2 flX2_10 (P.cl) rfl dX2_keyIn_2 ?_
  refine z_rd (z_runV C kvJx4a65c_size_8abf5 lkX2_20 kcJx4a65c (k_sizeL hB P (j := 3) (by decide)) (P.list (by decide)) rfl rfl (zb rfl) (zb rfl) (zb rfl) (zb rfl) dX2_keyIn_5) ?_
  refine z_mmin C lkX2_37 st_min ini_J9 co_min (zb rfl) (zb rfl) (zb rfl) (zb rfl) dX2_keyIn_8 ?_
  rw [e3]
  refine z_istore_n C dX2_keyIn_11 (zb rfl) ?_
  exact key _ (Nat.le_refl _) rfl
theorem k_letterIn (hB : Base G) (P : PW G h loc σ ρ) {v : Nat} {k door minute : Int32} (hv : v ≤ tn σ 3) : Ct G mX2_letterIn 5 0 0 [.ref (loc 0 1), .int (nI v), .int k, .int door, .int minute] h (rd h (.int (letter σ v k door minute))) noX := by
  refine Ct.intro (m := 1) hB (by decide +kernel) (zb rfl) fun X C E => ?_
  refine z_aload_n C dX2_letterIn_0 rfl ?_
  refine z_iload_n C dX2_letterIn_1 rfl ?_
  refine z_iload_n C dX2_letterIn_2 rfl ?_
  refine z_rd (z_runV C kvX2_keyIn lkX2_46 kcX2 (k_keyIn hB P hv) (P.cl) rfl rfl (zb rfl) (zb rfl) (zb rfl) (zb rfl) dX2_letterIn_3) ?_
  have e1 := letter_nar σ v k door minute
  unfold letter at e1
  cases hl : lastc (tT σ 0) k v with
  | none =>
    have e2 : letter σ v k door minute = 117 := by unfold letter; rw [hl]; rfl
    refine z_astoreN C dX2_letterIn_6 (zb rfl) ?_
    refine z_aloadN C dX2_letterIn_8 rfl ?_
    refine z_ifnonnullN C dX2_letterIn_10 ?_
    refine z_bipush (v := 117) C dX2_letterIn_13 (by decide) ?_
    refine z_goto (tgt := 26) C dX2_letterIn_15 (by decide) ?_
    exact z_zret C E (rfl) dX2_letterIn_26 (⟨rfl, by rw [e2]⟩) (zb rfl) (zb rfl)
  | some c =>
    have hc := (lastc_lt hl).1
    rw [hl] at e1
    have e2 : letter σ v k door minute = letr σ door minute (some c) := by unfold letter; rw [hl]
    refine z_astore C dX2_letterIn_6 (zb rfl) ?_
    refine z_aload C dX2_letterIn_8 rfl ?_
    refine z_ifnonnull (tgt := 18) C dX2_letterIn_10 (by decide) ?_
    refine z_aload C dX2_letterIn_18 rfl ?_
    refine z_iload_n C dX2_letterIn_20 rfl ?_
    refine z_iload C dX2_letterIn_21 rfl ?_
    refine z_rd (z_runV C kvX4_letterAt lkX2_50 kcX4 (k_letterAt hB (P.key (by omega))) (P.key (by omega)) rfl rfl (zb rfl) (zb rfl) (zb rfl) (zb rfl) dX2_letterIn_23) ?_
    exact z_zret C E (e1) dX2_letterIn_26 (⟨rfl, by rw [e2]; rfl⟩) (zb rfl) (zb rfl)
end
