/-! floats: the rates, the drift, the mean, the share -/
def okR (r : UInt32) : Prop := 0x3f000000 ≤ r.toNat ∧ r.toNat ≤ 0x3fc00000
def rateOf (th : Int32) : UInt32 := FP.fadd FP.fconst1 (FP.fdiv (FP.i2f th) 1148846080)

theorem v32_nan (x : UInt32) : vf_n32 x ↔ x.toNat % 2 ^ 31 ≤ 2139095040 := by
  unfold vf_n32
  rw [UInt32.le_iff_toNat_le, Jvm.FP.Core.mask_toNat32]
  exact Iff.rfl
theorem v64_nan (x : UInt64) : vf_n64 x ↔ x.toNat % 2 ^ 63 ≤ 9218868437227405312 := by
  unfold vf_n64
  rw [UInt64.le_iff_toNat_le, Jvm.FP.Core.mask_toNat]
  exact Iff.rfl
theorem rate_all : ∀ k : Fin 1001, (FP.fdiv (FP.i2f (Int32.ofInt ((k.val : Int) - 500))) 1148846080).toNat % 2 ^ 31 ≤ 2139095040 ∧ 0x3f000000 ≤ (rateOf (Int32.ofInt ((k.val : Int) - 500))).toNat ∧ (rateOf (Int32.ofInt ((k.val : Int) - 500))).toNat ≤ 0x3fc00000 := by
  decide +kernel
theorem okR_1 : okR FP.fconst1 := by unfold okR; decide +kernel
theorem fp_rate {th : Int32} (h0 : ¬ th < -500) (h1 : th ≤ 500) : vf_n32 (FP.fdiv (FP.i2f th) 1148846080) ∧ vf_n32 (rateOf th) ∧ okR (rateOf th) := by
  rw [Int32.lt_iff_toInt_lt] at h0
  rw [Int32.le_iff_toInt_le] at h1
  have e0 : (-500 : Int32).toInt = -500 := by decide
  have e1 : (500 : Int32).toInt = 500 := by decide
  rw [e0] at h0
  rw [e1] at h1
  have h := rate_all ⟨(th.toInt + 500).toNat, by omega⟩
  have e : Int32.ofInt ((((th.toInt + 500).toNat : Nat) : Int) - 500) = th := by
    rw [show (((th.toInt + 500).toNat : Nat) : Int) - 500 = th.toInt by omega]
    exact Int32.ofInt_toInt th
  simp only [e] at h
  exact ⟨(v32_nan _).mpr h.1, (v32_nan _).mpr (by omega), h.2⟩
def okF (x : UInt32) : Prop := x = 0 ∨ (0x3f000000 ≤ x.toNat ∧ x.toNat ≤ 0x48800000)
theorem okF_nat {x : UInt32} (h : okF x) : x.toNat ≤ 0x48800000 := by
  rcases h with h | h
  · rw [h]; decide
  · exact h.2
theorem okF_nn {x : UInt32} (h : okF x) : FP.Core.val32 x ≠ .nan := by
  have := okF_nat h
  exact (FP.Core.ne_nan32 x).mpr (by omega)
theorem okF_eq {x : UInt32} (h : okF x) : FP.fcmp x x = some .eq := FP.Core.fcmp_self (okF_nn h)
theorem nn64 {x : UInt64} : vf_n64 x ↔ FP.Core.val64 x ≠ .nan := by rw [v64_nan, FP.Core.ne_nan]
theorem nn32 {x : UInt32} : vf_n32 x ↔ FP.Core.val32 x ≠ .nan := by rw [v32_nan, FP.Core.ne_nan32]
theorem f2d_nn {x : UInt32} (h : FP.Core.val32 x ≠ .nan) : vf_n64 (FP.f2d x) ∧ FP.dcmp (FP.f2d x) (FP.f2d x) = some .eq := by
  have h1 : FP.Core.fIsNaN x = false := (FP.Core.notNaN_iff32 x).mpr h
  have h2 : FP.Core.dIsNaN (FP.f2d x) = false := (FP.f2d_nan x).trans h1
  have h3 := (FP.Core.notNaN_iff _).mp h2
  exact ⟨nn64.mpr h3, FP.Core.dcmp_self h3⟩
theorem okF_f2d {x : UInt32} (h : okF x) : vf_n64 (FP.f2d x) ∧ FP.dcmp (FP.f2d x) (FP.f2d x) = some .eq := f2d_nn (okF_nn h)
def okD (x : UInt64) : Prop := x = 0 ∨ (0x3f80000000000000 ≤ x.toNat ∧ x.toNat ≤ 0x4160000000000000)
theorem okD_nn {x : UInt64} (h : okD x) : FP.Core.val64 x ≠ .nan := by
  rw [FP.Core.ne_nan]
  rcases h with h | h
  · rw [h]; decide
  · omega
theorem okD_eq {x : UInt64} (h : okD x) : FP.dcmp x x = some .eq := FP.Core.dcmp_self (okD_nn h)
/-- the bits of a float that stands for a rounded ratio, from its units -/
theorem bits_of32 {x : UInt32} (hn : FP.Core.val32 x ≠ .nan) (hs : FP.Core.sgn (FP.Core.val32 x) = false) : x.toNat < 2 ^ 31 := by
  have h := FP.Core.sgn_bits32 hn
  rw [hs] at h
  have := of_decide_eq_false h.symm
  omega
theorem bits_of64 {x : UInt64} (hn : FP.Core.val64 x ≠ .nan) (hs : FP.Core.sgn (FP.Core.val64 x) = false) : x.toNat < 2 ^ 63 := by
  have h := FP.Core.sgn_bits hn
  rw [hs] at h
  have := of_decide_eq_false h.symm
  omega
theorem toInt_f2i {x : UInt32} (hn : FP.Core.val32 x ≠ .nan) (hs : FP.Core.sgn (FP.Core.val32 x) = false) {k : Nat} (hk : FP.Core.zmag FP.Core.b32 (FP.Core.val32 x) ≤ k * 2 ^ 149) (hk2 : k < 2 ^ 31) : 0 ≤ (FP.f2i x).toInt ∧ (FP.f2i x).toInt ≤ k := by
  have h := FP.Core.f2i_val hn
  rw [show FP.f2i x = FP.Core.f2i x from rfl, h, hs]
  have e : FP.Core.zmag FP.Core.b32 (FP.Core.val32 x) / FP.Core.one32 ≤ k := Nat.div_le_of_le_mul (by unfold FP.Core.one32; omega)
  simp only [FP.Core.signed, Bool.false_eq_true, if_false]
  generalize FP.Core.zmag FP.Core.b32 (FP.Core.val32 x) / FP.Core.one32 = z at e ⊢
  omega
theorem nI_int {i : Nat} (h : i < 2 ^ 31) : (nI i).toInt = i := Int32.toInt_ofNat_of_lt h
theorem zi2f {i : Nat} (h : i ≤ 2 ^ 24) : ∃ c q, FP.Core.val32 (FP.i2f (nI i)) = .fin false c q ∧ FP.Core.zmag FP.Core.b32 (.fin false c q) = i * 2 ^ 149 := by
  have e : (nI i).toInt = i := nI_int (by omega)
  have hw : FP.Core.FInt (nI i).toInt (FP.Core.i2f (nI i)) := FP.Core.i2f_int (by rw [e]; simpa using h)
  rw [e] at hw
  obtain ⟨s, c, q, h1⟩ := FP.Core.i2f_fin (nI i)
  have hz := FP.Core.FInt_zval hw
  have hs : s = false := by
    rcases Nat.eq_zero_or_pos i with h0 | h0
    · subst h0
      have : FP.Core.val32 (FP.Core.i2f (nI 0)) = .fin false 0 FP.Core.b32.qmin := by decide +kernel
      rw [this] at h1
      injection h1 with h1 _ _
      exact h1.symm
    · unfold FP.Core.FInt at hw
      rw [h1] at hw
      rw [FP.Core.whole_sign hw (by omega)]
      simp
  subst hs
  refine ⟨c, q, h1, ?_⟩
  rw [h1] at hz
  unfold FP.Core.zval FP.Core.sgn FP.Core.signed FP.Core.one32 at hz
  simp only [Bool.false_eq_true, if_false] at hz
  omega
theorem okR_fin {r : UInt32} (h : okR r) : ∃ c q, FP.Core.val32 r = .fin false c q ∧ 2 ^ 148 ≤ FP.Core.zmag FP.Core.b32 (.fin false c q) ∧ FP.Core.zmag FP.Core.b32 (.fin false c q) ≤ 3 * 2 ^ 148 := by
  obtain ⟨a, b⟩ := h
  have hn : FP.Core.val32 r ≠ .nan := (FP.Core.ne_nan32 r).mpr (by omega)
  obtain ⟨s, c, q, h1⟩ := (FP.Core.fin_bits32 r).mpr (by omega)
  have hs := FP.Core.sgn_bits32 hn
  rw [h1] at hs
  have hs2 : s = false := by
    rw [show FP.Core.sgn (.fin s c q) = s from rfl] at hs
    rw [hs]
    exact decide_eq_false (by omega)
  subst hs2
  have hz := FP.Core.zmag_bits32 hn
  rw [h1, Nat.mod_eq_of_lt (by omega)] at hz
  refine ⟨c, q, h1, ?_, ?_⟩
  · rw [hz, show (2 ^ 148 : Nat) = FP.Core.unitsOf FP.Core.b32 0x3f000000 by decide +kernel]
    exact FP.Core.unitsOf_le_iff.mpr a
  · rw [hz, show (3 * 2 ^ 148 : Nat) = FP.Core.unitsOf FP.Core.b32 0x3fc00000 by decide +kernel]
    exact FP.Core.unitsOf_le_iff.mpr b
theorem drift_pos {i : Nat} {r : UInt32} (h0 : 1 ≤ i) (h1 : i ≤ 100000) (hr : okR r) : FP.Core.val32 (FP.fmul (FP.i2f (nI i)) r) ≠ .nan ∧ FP.Core.sgn (FP.Core.val32 (FP.fmul (FP.i2f (nI i)) r)) = false ∧ FP.Core.zmag FP.Core.b32 (FP.Core.val32 (FP.fmul (FP.i2f (nI i)) r)) ≤ (2 * i) * 2 ^ 149 ∧ 2 ^ 148 ≤ FP.Core.zmag FP.Core.b32 (FP.Core.val32 (FP.fmul (FP.i2f (nI i)) r)) := by
  obtain ⟨c, q, a1, a2⟩ := zi2f (i := i) (by omega)
  obtain ⟨d, e, b1, b2, b3⟩ := okR_fin hr
  obtain ⟨c2, q2, g1, g2⟩ := zi2f (i := 2 * i) (by omega)
  have fa := FP.Core.val32_fits (FP.i2f (nI i))
  have fb := FP.Core.val32_fits r
  have fg := FP.Core.val32_fits (FP.i2f (nI (2 * i)))
  have f5 := FP.Core.val32_fits (0x3f000000 : UInt32)
  rw [a1] at fa
  rw [b1] at fb
  obtain ⟨p1, p2, p3⟩ := FP.Core.product_units fa fb
  have hx : FP.Core.val32 (FP.fmul (FP.i2f (nI i)) r) = FP.Core.roundRatio FP.Core.b32 false (c * d) 1 (q + e) := by
    rw [show FP.fmul (FP.i2f (nI i)) r = FP.Core.fmul (FP.i2f (nI i)) r from rfl, FP.Core.val32_fmul, a1, b1, p1]
    rfl
  rw [a2] at p3
  rw [hx]
  refine ⟨FP.Core.roundRatio_ne_nan _ _ _ _ _, FP.Core.sgn_roundRatio _ _ _ _ _, ?_, ?_⟩
  · have h := FP.Core.zmag_roundRatio_le FP.Core.good_b32 (s := false) (A := c * d) (B := 1) (by decide) fg (by rw [g1]; exact nofun) (e0 := 2 * FP.Core.b32.qmin) (by decide +kernel) p2 (by
      rw [p3, g1, g2, show (2 ^ (FP.Core.b32.qmin - 2 * FP.Core.b32.qmin).toNat : Nat) = 2 ^ 149 by decide +kernel, Nat.mul_one]
      generalize FP.Core.zmag FP.Core.b32 (.fin false d e) = z at b2 b3 ⊢
      calc i * 2 ^ 149 * z ≤ i * 2 ^ 149 * (2 * 2 ^ 149) := Nat.mul_le_mul_left _ (by omega)
        _ = 2 * i * 2 ^ 149 * 2 ^ 149 := by rw [Nat.mul_comm 2 i, Nat.mul_assoc, Nat.mul_assoc, Nat.mul_assoc, ← Nat.mul_assoc (2 ^ 149) 2, Nat.mul_comm (2 ^ 149) 2, Nat.mul_assoc])
    rw [g1, g2] at h
    exact h
  · have h := FP.Core.zmag_roundRatio_ge FP.Core.good_b32 (s := false) (A := c * d) (B := 1) (by decide) f5 (e0 := 2 * FP.Core.b32.qmin) (by decide +kernel) p2 (by
      rw [p3, show FP.Core.zmag FP.Core.b32 (FP.Core.val32 0x3f000000) = 2 ^ 148 by decide +kernel, show (2 ^ (FP.Core.b32.qmin - 2 * FP.Core.b32.qmin).toNat : Nat) = 2 ^ 149 by decide +kernel, Nat.mul_one]
      generalize FP.Core.zmag FP.Core.b32 (.fin false d e) = z at b2 b3 ⊢
      calc 2 ^ 148 * 2 ^ 149 = 2 ^ 149 * 2 ^ 148 := Nat.mul_comm _ _
        _ ≤ i * 2 ^ 149 * z := Nat.mul_le_mul (by omega) b2)
    rw [show FP.Core.zmag FP.Core.b32 (FP.Core.val32 0x3f000000) = 2 ^ 148 by decide +kernel] at h
    exact h
theorem drift_zero {r : UInt32} (hr : okR r) : FP.fmul (FP.i2f 0) r = 0 := by
  obtain ⟨d, e, b1, b2, b3⟩ := okR_fin hr
  have e0 : FP.Core.val32 (FP.i2f 0) = .fin false 0 FP.Core.b32.qmin := by decide +kernel
  have hx : FP.Core.val32 (FP.fmul (FP.i2f 0) r) = .fin false 0 FP.Core.b32.qmin := by
    rw [show FP.fmul (FP.i2f 0) r = FP.Core.fmul (FP.i2f 0) r from rfl, FP.Core.val32_fmul, e0, b1]
    show FP.Core.roundRatio FP.Core.b32 false (0 * d) 1 _ = _
    rw [Nat.zero_mul]
    rfl
  exact FP.Core.val32_inj (by rw [hx]; exact nofun) (by rw [hx, FP.Core.val32_zero])
theorem fp_drift {dt : Int32} {r : UInt32} (h0 : 0 ≤ dt) (h1 : dt ≤ 100000) (hr : okR r) : vf_n32 (FP.fmul (FP.i2f dt) r) ∧ 0 ≤ (FP.f2i (FP.fmul (FP.i2f dt) r)).toInt ∧ (FP.f2i (FP.fmul (FP.i2f dt) r)).toInt ≤ 2 * dt.toInt ∧ okF (FP.fmul (FP.i2f dt) r) := by
  rw [Int32.le_iff_toInt_le] at h0 h1
  have e0 : (0 : Int32).toInt = 0 := by decide
  have e1 : (100000 : Int32).toInt = 100000 := by decide
  rw [e0] at h0
  rw [e1] at h1
  have e : dt = nI dt.toInt.toNat := by
    apply Int32.toInt.inj
    rw [nI_int (by omega)]
    omega
  rcases Int.lt_or_eq_of_le h0 with hp | hp
  · obtain ⟨a, b, c, d⟩ := drift_pos (i := dt.toInt.toNat) (r := r) (by omega) (by omega) hr
    rw [← e] at a b c d
    obtain ⟨f1, f2⟩ := toInt_f2i a b c (by omega)
    refine ⟨nn32.mpr a, f1, by omega, .inr ?_⟩
    have hl := bits_of32 a b
    have hz := FP.Core.zmag_bits32 a
    rw [hz, Nat.mod_eq_of_lt hl] at c d
    rw [show (2 ^ 148 : Nat) = FP.Core.unitsOf FP.Core.b32 0x3f000000 by decide +kernel] at d
    refine ⟨FP.Core.unitsOf_le_iff.mp d, FP.Core.unitsOf_le_iff (f := FP.Core.b32).mp (Nat.le_trans c ?_)⟩
    rw [show FP.Core.unitsOf FP.Core.b32 0x48800000 = 262144 * 2 ^ 149 by decide +kernel]
    exact Nat.mul_le_mul_right _ (by omega)
  · have hd : dt = 0 := Int32.toInt.inj (by rw [e0]; omega)
    subst hd
    rw [drift_zero hr]
    exact ⟨by unfold vf_n32; decide, by decide +kernel, by decide +kernel, .inl rfl⟩
theorem fp_drift0 {r : UInt32} (hr : okR r) : FP.f2i (FP.fmul (FP.i2f 0) r) = 0 := by
  rw [drift_zero hr]
  decide +kernel
theorem nI64_int {i : Nat} (h : i < 2 ^ 31) : (nI i).toInt = i := Int32.toInt_ofNat_of_lt h
theorem zwhole64 {i : Nat} {x : UInt64} (hw : FP.Core.DInt i x) (h0 : i = 0 → x = 0) : ∃ c q, FP.Core.val64 x = .fin false c q ∧ FP.Core.zmag FP.Core.b64 (.fin false c q) = i * FP.Core.one64 := by
  have hz := FP.Core.DInt_zval hw
  have hw2 := hw
  unfold FP.Core.DInt at hw2
  cases hv : FP.Core.val64 x with
  | nan => rw [hv] at hw2; exact hw2.elim
  | inf s => rw [hv] at hw2; exact hw2.elim
  | fin s c q =>
    rw [hv] at hw2 hz
    have hs : s = false := by
      rcases Nat.eq_zero_or_pos i with hi | hi
      · have hx := h0 hi
        rw [hx, FP.Core.val64_zero] at hv
        injection hv with h1 _ _
        exact h1.symm
      · rw [FP.Core.whole_sign hw2 (by omega)]
        simp
    subst hs
    refine ⟨c, q, rfl, ?_⟩
    unfold FP.Core.zval FP.Core.sgn FP.Core.signed at hz
    simp only [Bool.false_eq_true, if_false] at hz
    rw [← Int.natCast_mul] at hz
    exact Int.ofNat.inj hz
theorem quot64 {x y : UInt64} {a b : Nat} {c d : Nat} {q r : Int} (hx : FP.Core.val64 x = .fin false c q) (hy : FP.Core.val64 y = .fin false d r) (zx : FP.Core.zmag FP.Core.b64 (.fin false c q) = a * FP.Core.one64) (zy : FP.Core.zmag FP.Core.b64 (.fin false d r) = b * FP.Core.one64) (hb : 0 < b) :
    FP.Core.val64 (FP.ddiv x y) ≠ .nan ∧ FP.Core.sgn (FP.Core.val64 (FP.ddiv x y)) = false ∧ (a = 0 → FP.ddiv x y = 0) ∧ (∀ V : UInt64, FP.Core.val64 V ≠ .nan → a * FP.Core.one64 ≤ FP.Core.zmag FP.Core.b64 (FP.Core.val64 V) * b → FP.Core.zmag FP.Core.b64 (FP.Core.val64 (FP.ddiv x y)) ≤ FP.Core.zmag FP.Core.b64 (FP.Core.val64 V)) ∧ (∀ V : UInt64, FP.Core.zmag FP.Core.b64 (FP.Core.val64 V) * b ≤ a * FP.Core.one64 → FP.Core.zmag FP.Core.b64 (FP.Core.val64 V) ≤ FP.Core.zmag FP.Core.b64 (FP.Core.val64 (FP.ddiv x y))) := by
  have o := FP.Core.one64_pos
  have fx := FP.Core.val64_fits x
  have fy := FP.Core.val64_fits y
  rw [hx] at fx
  rw [hy] at fy
  have hd : d ≠ 0 := by
    intro h
    subst h
    have e : FP.Core.zmag FP.Core.b64 (.fin false 0 r) = 0 := Nat.zero_mul _
    rw [e] at zy
    have := Nat.mul_pos hb o
    omega
  have hv : FP.Core.val64 (FP.ddiv x y) = FP.Core.roundRatio FP.Core.b64 false c d (q - r) := by
    rw [show FP.ddiv x y = FP.Core.ddiv x y from rfl, FP.Core.val64_ddiv, hx, hy]
    simp only [FP.Core.quotient, if_neg hd]
    rfl
  have hq := FP.Core.qmin_neg FP.Core.good_b64
  have hx1 := fx.2.1
  have hy1 := fy.2.1
  have e1 : FP.Core.inUnits c (q - r) (2 * FP.Core.b64.qmin - r) = a * FP.Core.one64 * FP.Core.one64 := by
    rw [← zx, ← FP.Core.pow_qmin64]
    show c * _ = c * _ * _
    rw [Nat.mul_assoc, ← Nat.pow_add]
    congr 2
    omega
  have e2 : 2 ^ (FP.Core.b64.qmin - (2 * FP.Core.b64.qmin - r)).toNat * d = b * FP.Core.one64 := by
    rw [← zy]
    show _ = d * _
    rw [Nat.mul_comm]
    congr 2
    omega
  rw [hv]
  refine ⟨FP.Core.roundRatio_ne_nan _ _ _ _ _, FP.Core.sgn_roundRatio _ _ _ _ _, ?_, ?_, ?_⟩
  · intro ha
    subst ha
    have hc : c = 0 := by
      rw [Nat.zero_mul] at zx
      rcases Nat.mul_eq_zero.mp (show c * _ = 0 from zx) with h | h
      · exact h
      · have := Nat.two_pow_pos (q - FP.Core.b64.qmin).toNat
        omega
    subst hc
    have : FP.Core.val64 (FP.ddiv x y) = .fin false 0 FP.Core.b64.qmin := by
      rw [hv]
      unfold FP.Core.roundRatio
      rw [if_pos rfl]
    exact FP.Core.val64_inj (by rw [this]; exact nofun) (by rw [this, FP.Core.val64_zero])
  · intro V hV h
    refine FP.Core.zmag_roundRatio_le FP.Core.good_b64 (by omega) (FP.Core.val64_fits V) hV (e0 := 2 * FP.Core.b64.qmin - r) (by omega) (by omega) ?_
    rw [e1, Nat.mul_assoc (FP.Core.zmag _ _), e2, ← Nat.mul_assoc]
    exact Nat.mul_le_mul_right _ h
  · intro V h
    refine FP.Core.zmag_roundRatio_ge FP.Core.good_b64 (by omega) (FP.Core.val64_fits V) (e0 := 2 * FP.Core.b64.qmin - r) (by omega) (by omega) ?_
    rw [e1, Nat.mul_assoc (FP.Core.zmag _ _), e2, ← Nat.mul_assoc]
    exact Nat.mul_le_mul_right _ h
theorem fp_mean {s : Int64} {n : Nat} (h0 : 0 ≤ s.toInt) (h1 : s.toInt ≤ 6000000) (hn : 0 < n) (hn2 : n ≤ 60) : vf_n64 (FP.ddiv (FP.l2d s) (FP.i2d (nI n))) ∧ okD (FP.ddiv (FP.l2d s) (FP.i2d (nI n))) := by
  have hs : FP.Core.DInt ((s.toInt.toNat : Nat) : Int) (FP.l2d s) := by
    have := FP.Core.l2d_int (a := s) (by omega)
    rwa [show ((s.toInt.toNat : Nat) : Int) = s.toInt by omega]
  have hy : FP.Core.DInt ((n : Nat) : Int) (FP.i2d (nI n)) := by
    have := FP.Core.i2d_int (nI n)
    rwa [nI_int (by omega)] at this
  obtain ⟨c, q, a1, a2⟩ := zwhole64 hs (by
    intro h
    have : s = 0 := Int64.toInt.inj (by rw [show (0 : Int64).toInt = 0 by decide]; omega)
    rw [this]
    exact FP.Core.l2d_zero)
  obtain ⟨d, r, b1, b2⟩ := zwhole64 hy (by omega)
  obtain ⟨p1, p2, p3, p4, p5⟩ := quot64 a1 b1 a2 b2 hn
  refine ⟨nn64.mpr p1, ?_⟩
  by_cases hz : s.toInt.toNat = 0
  · exact .inl (p3 hz)
  · have o := FP.Core.one64_pos
    have z1 : FP.Core.zmag FP.Core.b64 (FP.Core.val64 0x4160000000000000) = 8388608 * FP.Core.one64 := by decide +kernel
    have z2 : FP.Core.zmag FP.Core.b64 (FP.Core.val64 0x3f80000000000000) * 128 = FP.Core.one64 := by decide +kernel
    have k1 := p4 0x4160000000000000 (by decide +kernel) (by
      rw [z1, Nat.mul_right_comm]
      exact Nat.mul_le_mul_right _ (by omega))
    have k2 := p5 0x3f80000000000000 (by
      refine Nat.le_trans (Nat.mul_le_mul_left _ (show n ≤ 128 by omega)) ?_
      rw [z2]
      exact Nat.le_mul_of_pos_left _ (by omega))
    have hl := bits_of64 p1 p2
    rw [FP.Core.zmag_bits p1, FP.Core.zmag_bits (by decide +kernel), Nat.mod_eq_of_lt hl] at k1 k2
    exact .inr ⟨FP.Core.unitsOf_le_iff.mp k2, FP.Core.unitsOf_le_iff.mp k1⟩
theorem fp_share {a n : Nat} (h : a ≤ n) (hn : 0 < n) (hn2 : n ≤ 60) : vf_n32 (FP.fdiv (FP.i2f (nI a)) (FP.i2f (nI n))) ∧ vf_n64 (FP.f2d (FP.fdiv (FP.i2f (nI a)) (FP.i2f (nI n)))) ∧ FP.dcmp (FP.f2d (FP.fdiv (FP.i2f (nI a)) (FP.i2f (nI n)))) (FP.f2d (FP.fdiv (FP.i2f (nI a)) (FP.i2f (nI n)))) = some .eq := by
  obtain ⟨c, q, a1, a2⟩ := zi2f (i := a) (by omega)
  obtain ⟨d, r, b1, b2⟩ := zi2f (i := n) (by omega)
  have hd : d ≠ 0 := by
    intro h
    subst h
    have e : FP.Core.zmag FP.Core.b32 (.fin false 0 r) = 0 := Nat.zero_mul _
    rw [e] at b2
    have := Nat.mul_pos hn (Nat.two_pow_pos 149)
    omega
  have hv : FP.Core.val32 (FP.fdiv (FP.i2f (nI a)) (FP.i2f (nI n))) ≠ .nan := by
    rw [show ∀ x y, FP.fdiv x y = FP.Core.fdiv x y from fun _ _ => rfl, FP.Core.val32_fdiv, a1, b1]
    simp only [FP.Core.quotient, if_neg hd]
    exact FP.Core.roundRatio_ne_nan _ _ _ _ _
  exact ⟨nn32.mpr hv, f2d_nn hv⟩
def mkd (E T : Nat) : UInt64 := UInt64.ofNat (E * 4503599627370496 + T)
theorem mkd_nat {E T : Nat} (hE : E < 2048) (hT : T < 4503599627370496) : (mkd E T).toNat = E * 4503599627370496 + T := UInt64.toNat_ofNat_of_lt' (by show _ < 2 ^ 64; omega)
theorem mkd_self (x : UInt64) (h : x.toNat < 9223372036854775808) : x = mkd (x.toNat / 4503599627370496) (x.toNat % 4503599627370496) := by
  apply UInt64.toNat.inj
  rw [mkd_nat (by omega) (by omega)]
  omega
theorem mkd_val {E T : Nat} (h1 : 1 ≤ E) (hE : E < 2047) (hT : T < 4503599627370496) : FP.Core.val64 (mkd E T) = .fin false (4503599627370496 + T) ((E : Int) - 1075) := by
  have e := mkd_nat (E := E) (T := T) (by omega) hT
  unfold FP.Core.val64 FP.Core.decode FP.Core.fieldE FP.Core.fieldT FP.Core.fieldS
  rw [e, show FP.Core.b64.tails = 4503599627370496 by decide, show FP.Core.b64.exps = 2048 by decide, show FP.Core.b64.qmin = -1074 by decide]
  rw [show (E * 4503599627370496 + T) / 4503599627370496 = E by omega, show (E * 4503599627370496 + T) % 4503599627370496 = T by omega, Nat.mod_eq_of_lt (show E < 2048 by omega), if_neg (by omega), if_neg (by omega), show E / 2048 = 0 by omega]
  congr 1
  omega
theorem mkd_fits {E T : Nat} (h1 : 1 ≤ E) (hE : E < 2047) (hT : T < 4503599627370496) : FP.Core.fits FP.Core.b64 (.fin false (4503599627370496 + T) ((E : Int) - 1075)) := by
  have := FP.Core.val64_fits (mkd E T)
  rwa [mkd_val h1 hE hT] at this
theorem two_val : FP.Core.val64 4611686018427387904 = .fin false 4503599627370496 (-51) := by decide +kernel
theorem mkd_nn {E T : Nat} (hE : E < 2047) (hT : T < 4503599627370496) : FP.Core.val64 (mkd E T) ≠ .nan := by
  rw [FP.Core.ne_nan, mkd_nat (by omega) hT]
  omega
theorem mkd_div {E T : Nat} (h1 : 1 ≤ E) (hE : E < 2046) (hT : T < 4503599627370496) : FP.ddiv (mkd (E + 1) T) 4611686018427387904 = mkd E T := by
  have hv : FP.Core.val64 (FP.ddiv (mkd (E + 1) T) 4611686018427387904) = FP.Core.val64 (mkd E T) := by
    rw [show ∀ x y, FP.ddiv x y = FP.Core.ddiv x y from fun _ _ => rfl, FP.Core.val64_ddiv, mkd_val (by omega) (by omega) hT, mkd_val h1 (by omega) hT, two_val]
    show FP.Core.roundRatio FP.Core.b64 false _ _ _ = _
    refine FP.Core.roundRatio_exact FP.Core.good_b64 (by decide) (mkd_fits h1 (by omega) hT) ?_
    rw [show ((((E + 1 : Nat) : Int) - 1075 - -51) - ((E : Int) - 1075)).toNat = 52 by omega, show (((E : Int) - 1075) - (((E + 1 : Nat) : Int) - 1075 - -51)).toNat = 0 by omega, Nat.pow_zero, Nat.mul_one, show (2 ^ 52 : Nat) = 4503599627370496 by decide]
  exact FP.Core.val64_inj (by rw [hv]; exact mkd_nn (by omega) hT) hv
theorem mkd_mul {E T : Nat} (h1 : 1 ≤ E) (hE : E < 2046) (hT : T < 4503599627370496) : FP.dmul (mkd E T) 4611686018427387904 = mkd (E + 1) T := by
  have hv : FP.Core.val64 (FP.dmul (mkd E T) 4611686018427387904) = FP.Core.val64 (mkd (E + 1) T) := by
    rw [show ∀ x y, FP.dmul x y = FP.Core.dmul x y from fun _ _ => rfl, FP.Core.val64_dmul, mkd_val (by omega) (by omega) hT, mkd_val (by omega) (by omega) hT, two_val]
    show FP.Core.roundRatio FP.Core.b64 false _ _ _ = _
    refine FP.Core.roundRatio_exact FP.Core.good_b64 (by decide) (mkd_fits (by omega) (by omega) hT) ?_
    rw [show ((((E : Int) - 1075 + -51)) - (((E + 1 : Nat) : Int) - 1075)).toNat = 0 by omega, show ((((E + 1 : Nat) : Int) - 1075) - ((E : Int) - 1075 + -51)).toNat = 52 by omega, Nat.pow_zero, Nat.mul_one, Nat.mul_one, show (2 ^ 52 : Nat) = 4503599627370496 by decide]
  exact FP.Core.val64_inj (by rw [hv]; exact mkd_nn (by omega) hT) hv
theorem mkd_key {E T : Nat} (hE : E < 2047) (hT : T < 4503599627370496) : FP.Core.dkey (mkd E T) = ((E * 4503599627370496 + T : Nat) : Int) := by
  unfold FP.Core.dkey
  rw [mkd_nat (by omega) hT, if_neg (by omega)]
theorem mkd_pos {E T : Nat} (h1 : 1 ≤ E) (hE : E < 2047) (hT : T < 4503599627370496) : FP.dcmp (mkd E T) 0 = some .gt := by
  refine (FP.Core.dcmp_gt_key (mkd_nn hE hT) (by decide +kernel)).mpr ?_
  rw [mkd_key hE hT, show FP.Core.dkey 0 = 0 by decide]
  omega
theorem mkd_cmp {E T B : Nat} {c : UInt64} (hE : E < 2047) (hT : T < 4503599627370496) (hB : B < 2047) (hc : c = mkd B 0) : FP.dcmp (mkd E T) c = if E < B then some .lt else if E = B ∧ T = 0 then some .eq else some .gt := by
  subst hc
  have k1 := mkd_key hE hT
  have k2 := mkd_key hB (T := 0) (by decide)
  have n1 := mkd_nn hE hT
  have n2 := mkd_nn hB (T := 0) (by decide)
  split
  · refine (FP.Core.dcmp_lt_key n1 n2).mpr ?_
    rw [k1, k2]
    omega
  · split
    · refine (FP.Core.dcmp_eq_key n1 n2).mpr ?_
      rw [k1, k2]
      omega
    · refine (FP.Core.dcmp_gt_key n1 n2).mpr ?_
      rw [k1, k2]
      omega
theorem mkd_last {T : Nat} (hT : T < 4503599627370496) : vf_n64 (FP.dsub (mkd 1023 T) FP.dconst1) ∧ vf_n64 (FP.dmul (FP.dsub (mkd 1023 T) FP.dconst1) 4841369599423283200) ∧ (FP.d2l (FP.dmul (FP.dsub (mkd 1023 T) FP.dconst1) 4841369599423283200)).toInt = T := by
  have e1 : FP.Core.val64 FP.dconst1 = .fin false 4503599627370496 (-52) := by decide +kernel
  have e2 : FP.Core.val64 4841369599423283200 = .fin false 4503599627370496 0 := by decide +kernel
  have hm : FP.Core.sumUnits false (4503599627370496 + T) (((1023 : Nat) : Int) - 1075) (!false) 4503599627370496 (-52) (min (((1023 : Nat) : Int) - 1075) (-52)) = T := by
    unfold FP.Core.sumUnits FP.Core.inUnits FP.Core.signed
    rw [show (((1023 : Nat) : Int) - 1075) = -52 by decide]
    simp only [Int.min_self, Int.sub_self, Int.toNat_zero, Nat.pow_zero, Nat.mul_one, Bool.false_eq_true, if_false, Bool.not_false, if_true]
    omega
  have hs : FP.Core.val64 (FP.dsub (mkd 1023 T) FP.dconst1) = FP.Core.round FP.Core.b64 (.fin false T (-52)) := by
    rw [show ∀ x y, FP.dsub x y = FP.Core.dsub x y from fun _ _ => rfl, FP.Core.val64_dsub, mkd_val (by omega) (by omega) hT, e1]
    show FP.Core.round FP.Core.b64 (.fin (FP.Core.sumSign _ _ (FP.Core.sumUnits _ _ _ _ _ _ _)) (FP.Core.sumUnits _ _ _ _ _ _ _).natAbs _) = _
    rw [hm]
    congr 2
    unfold FP.Core.sumSign
    split
    · rfl
    · exact decide_eq_false (by omega)
  obtain ⟨c, q, r1, r2⟩ := FP.Core.round_exact FP.Core.good_b64 false (c := T) (q := -52) (by rw [show (2 ^ FP.Core.b64.p : Nat) = 9007199254740992 by decide]; omega) (by decide) (by decide +kernel)
  have hf : FP.Core.fits FP.Core.b64 (.fin false c q) := by
    have := FP.Core.round_fits FP.Core.good_b64 (.fin false T (-52))
    rwa [r1] at this
  rw [r1] at hs
  have hq := hf.2.1
  rw [show FP.Core.b64.qmin = -1074 by decide] at hq
  have hw : FP.Core.Whole (T : Int) (.fin false (c * 4503599627370496) (q + 0)) := by
    unfold FP.Core.inUnits at r2
    rw [show FP.Core.b64.qmin = -1074 by decide, show ((-52 : Int) - -1074).toNat = 1022 by decide] at r2
    show FP.Core.signed false (c * 4503599627370496 * 2 ^ (q + 0).toNat) = (T : Int) * ((2 ^ (-(q + 0)).toNat : Nat) : Int)
    rw [Int.add_zero]
    show ((c * 4503599627370496 * 2 ^ q.toNat : Nat) : Int) = _
    rw [← Int.natCast_mul]
    congr 1
    have p := Nat.two_pow_pos 1022
    refine Nat.eq_of_mul_eq_mul_right p ?_
    rw [Nat.mul_right_comm T, ← r2]
    rw [show (4503599627370496 : Nat) = 2 ^ 52 by decide, Nat.mul_assoc, Nat.mul_assoc, Nat.mul_assoc, ← Nat.pow_add, ← Nat.pow_add, ← Nat.pow_add]
    congr 2
    omega
  have hv : FP.Core.val64 (FP.dmul (FP.dsub (mkd 1023 T) FP.dconst1) 4841369599423283200) = FP.Core.round FP.Core.b64 (.fin false (c * 4503599627370496) (q + 0)) := by
    rw [show ∀ x y, FP.dmul x y = FP.Core.dmul x y from fun _ _ => rfl, FP.Core.val64_dmul, hs, e2]
    rfl
  have hw2 := FP.Core.whole_round FP.Core.good_b64 FP.Core.wide_b64 (by rw [show (2 ^ FP.Core.b64.p : Nat) = 9007199254740992 by decide]; omega) hw
  rw [← hv] at hw2
  have hT2 : (Int64.ofNat T).toInt = T := Int64.toInt_ofNat_of_lt (by omega)
  refine ⟨nn64.mpr (by rw [hs]; exact nofun), nn64.mpr (FP.Core.DInt_ne_nan hw2), ?_⟩
  rw [← hT2] at hw2
  rw [show ∀ x, FP.d2l x = FP.Core.d2l x from fun _ => rfl, FP.Core.d2l_int hw2, hT2]
theorem i64_nat {x : Int64} {n : Nat} (h : x.toBitVec.toNat = n) (hn : n < 9223372036854775808) : x.toInt = n := by
  show x.toBitVec.toInt = n
  rw [BitVec.toInt_eq_toNat_of_lt (by rw [h]; show 2 * n < 18446744073709551616; omega), h]
theorem i64_bv {x : Int64} {n : Nat} (h : x.toInt = n) (hn : n < 9223372036854775808) : x.toBitVec.toNat = n := by
  have h2 : x.toBitVec.toInt = n := h
  rw [BitVec.toInt_eq_toNat_cond] at h2
  have := x.toBitVec.isLt
  split at h2 <;> omega
theorem i64_shl {x : Int64} {n k : Nat} {s : Int64} (h : x.toInt = n) (hs : s.toBitVec.smod 64 = BitVec.ofNat 64 k) (hk : k < 64) (hn : n * 2 ^ k < 9223372036854775808) : (x <<< s).toInt = (n * 2 ^ k : Nat) := by
  have p := Nat.two_pow_pos k
  have hn2 : n < 9223372036854775808 := Nat.lt_of_le_of_lt (Nat.le_mul_of_pos_right n p) hn
  refine i64_nat ?_ hn
  rw [Int64.toBitVec_shiftLeft, hs, BitVec.shiftLeft_eq', BitVec.toNat_shiftLeft, i64_bv h hn2, BitVec.toNat_ofNat, Nat.mod_eq_of_lt (show k < 2 ^ 64 by omega), Nat.shiftLeft_eq, Nat.mod_eq_of_lt (Nat.lt_trans hn (by decide))]
theorem i64_shr {x : Int64} {n k : Nat} {s : Int64} (h : x.toInt = n) (hs : s.toBitVec.smod 64 = BitVec.ofNat 64 k) (hk : k < 64) : (x >>> s).toInt = (n / 2 ^ k : Nat) := by
  show (x >>> s).toBitVec.toInt = _
  rw [Int64.toBitVec_shiftRight, hs, BitVec.toInt_sshiftRight', BitVec.toNat_ofNat, Nat.mod_eq_of_lt (show k < 2 ^ 64 by omega), show x.toBitVec.toInt = n from h, Int.shiftRight_eq_div_pow]
  rfl
theorem okD_out {E T : Nat} (hE : E < 2047) (hT : T < 4503599627370496) {m : Int64} (hm : m.toInt = T) : ((Int32.ofInt ((E : Int) - ((1023 : Nat) : Int)) + 1023).toInt64 <<< ((52 : Int32).toInt64 &&& 63)) + m = (mkd E T).toInt64 := by
  have e1 : (Int32.ofInt ((E : Int) - ((1023 : Nat) : Int)) + 1023).toInt64.toInt = E := by
    rw [Int32.toInt_toInt64, show (1023 : Int32) = Int32.ofInt 1023 by decide, ← Int32.ofInt_add, show (E : Int) - ((1023 : Nat) : Int) + 1023 = E by omega]
    exact Int32.toInt_ofInt_of_le (by omega) (by omega)
  have e2 := i64_shl (s := (52 : Int32).toInt64 &&& 63) (k := 52) e1 (by decide) (by decide) (by omega)
  apply Int64.toInt.inj
  rw [FP.Core.int64_add (by omega) (by omega), e2, hm, i64_nat (x := (mkd E T).toInt64) (mkd_nat (by omega) hT) (by omega)]
  omega
theorem f2d_bits {x : UInt32} {E T : Nat} (h : x.toNat = E * 8388608 + T) (h1 : 1 ≤ E) (hE : E < 255) (hT : T < 8388608) : FP.f2d x = mkd (E + 896) (T * 536870912) := by
  have hn : FP.Core.val32 x ≠ .nan := by
    rw [FP.Core.ne_nan32]
    omega
  have hv : FP.Core.val32 x = .fin false (8388608 + T) ((E : Int) - 150) := by
    unfold FP.Core.val32 FP.Core.decode FP.Core.fieldE FP.Core.fieldT FP.Core.fieldS
    rw [h, show FP.Core.b32.tails = 8388608 by decide, show FP.Core.b32.exps = 256 by decide, show FP.Core.b32.qmin = -149 by decide]
    rw [show (E * 8388608 + T) / 8388608 = E by omega, show (E * 8388608 + T) % 8388608 = T by omega, Nat.mod_eq_of_lt (show E < 256 by omega), if_neg (by omega), if_neg (by omega), show E / 256 = 0 by omega]
    congr 1
    omega
  rw [FP.f2d_core ((FP.Core.notNaN_iff32 x).mpr hn)]
  have h3 : FP.Core.val64 (FP.Core.f2d x) = FP.Core.val64 (mkd (E + 896) (T * 536870912)) := by
    rw [FP.Core.val64_f2d, hv, mkd_val (by omega) (by omega) (by omega)]
    show FP.Core.roundRatio FP.Core.b64 false _ 1 _ = _
    refine FP.Core.roundRatio_exact FP.Core.good_b64 (by decide) (mkd_fits (by omega) (by omega) (by omega)) ?_
    rw [show ((E : Int) - 150 - (((E + 896 : Nat) : Int) - 1075)).toNat = 29 by omega, show ((((E + 896 : Nat) : Int) - 1075) - ((E : Int) - 150)).toNat = 0 by omega]
    omega
  exact FP.Core.val64_inj (by rw [h3]; exact mkd_nn (by omega) (by omega)) h3
theorem i32_nat {x : Int32} {n : Nat} (h : x.toBitVec.toNat = n) (hn : n < 2147483648) : x.toInt = n := by
  show x.toBitVec.toInt = n
  rw [BitVec.toInt_eq_toNat_of_lt (by rw [h]; show 2 * n < 4294967296; omega), h]
theorem i32_bv {x : Int32} {n : Nat} (h : x.toInt = n) (hn : n < 2147483648) : x.toBitVec.toNat = n := by
  have h2 : x.toBitVec.toInt = n := h
  rw [BitVec.toInt_eq_toNat_cond] at h2
  have := x.toBitVec.isLt
  split at h2 <;> omega
theorem okF_out {x : UInt32} {E T : Nat} (h : x.toNat = E * 8388608 + T) (h1 : 1 ≤ E) (hE : E < 255) (hT : T < 8388608) :
    (((((mkd (E + 896) (T * 536870912)).toInt64 >>> ((52 : Int32).toInt64 &&& 63)).toInt32 - 1023) + 127) <<< ((23 : Int32) &&& 31)) + (((mkd (E + 896) (T * 536870912)).toInt64 >>> ((29 : Int32).toInt64 &&& 63)).toInt32 &&& 8388607) = x.toInt32 := by
  have hy : (mkd (E + 896) (T * 536870912)).toInt64.toInt = ((E + 896) * 4503599627370496 + T * 536870912 : Nat) := i64_nat (mkd_nat (by omega) (by omega)) (by omega)
  have s1 := i64_shr (s := (52 : Int32).toInt64 &&& 63) (k := 52) hy (by decide) (by decide)
  have s2 := i64_shr (s := (29 : Int32).toInt64 &&& 63) (k := 29) hy (by decide) (by decide)
  rw [show ((E + 896) * 4503599627370496 + T * 536870912) / 2 ^ 52 = E + 896 by omega] at s1
  rw [show ((E + 896) * 4503599627370496 + T * 536870912) / 2 ^ 29 = (E + 896) * 8388608 + T by omega] at s2
  have t1 : (((mkd (E + 896) (T * 536870912)).toInt64 >>> ((52 : Int32).toInt64 &&& 63)).toInt32 - 1023) + 127 = Int32.ofInt E := by
    have : ((mkd (E + 896) (T * 536870912)).toInt64 >>> ((52 : Int32).toInt64 &&& 63)).toInt32 = Int32.ofInt ((E : Int) + 896) := by
      rw [← Int64.ofInt_toInt (_ >>> _), s1, Int64.toInt32_ofInt, Int.natCast_add]
      rfl
    rw [this, show (1023 : Int32) = Int32.ofInt 1023 by decide, show (127 : Int32) = Int32.ofInt 127 by decide, ← Int32.ofInt_sub, ← Int32.ofInt_add, show (E : Int) + 896 - 1023 + 127 = E by omega]
  have t2 : (Int32.ofInt E <<< ((23 : Int32) &&& 31)).toBitVec.toNat = E * 8388608 := by
    rw [Int32.toBitVec_shiftLeft, show ((23 : Int32) &&& 31).toBitVec.smod 32 = BitVec.ofNat 32 23 by decide, BitVec.shiftLeft_eq', BitVec.toNat_shiftLeft, i32_bv (x := Int32.ofInt E) (n := E) (Int32.toInt_ofInt_of_le (by omega) (by omega)) (by omega), BitVec.toNat_ofNat, Nat.shiftLeft_eq, show (2 ^ (23 % 2 ^ 32) : Nat) = 8388608 by decide]
    omega
  have t3 : (((mkd (E + 896) (T * 536870912)).toInt64 >>> ((29 : Int32).toInt64 &&& 63)).toInt32 &&& 8388607).toBitVec.toNat = T := by
    have b := i64_bv s2 (by omega)
    rw [Int32.toBitVec_and, BitVec.toNat_and, Int64.toBitVec_toInt32, BitVec.signExtend_eq_setWidth_of_le _ (by decide), BitVec.toNat_setWidth, b, show ((8388607 : Int32).toBitVec.toNat) = 2 ^ 23 - 1 by decide, Nat.and_two_pow_sub_one_eq_mod]
    omega
  rw [t1]
  apply Int32.toBitVec.inj
  apply BitVec.eq_of_toNat_eq
  rw [Int32.toBitVec_add, BitVec.toNat_add, t2, t3]
  show _ = x.toNat
  rw [h]
  omega
section
variable {G : GT} {h : Hp}
theorem k_ofDouble (hB : Base G) {x : UInt64} (hx : okD x) : Ct G mX1_ofDouble 1 0 0 [.double x] h (rd h (.long x.toInt64)) noX := by
  refine Ct.intro (m := 5) hB (by decide +kernel) (zb rfl) fun X C E => ?_
  rcases hx with hx | ⟨hx1, hx2⟩
  · subst hx
    refine z_dload_n C dX1_ofDouble_0 rfl ?_
    refine z_dconst0 C dX1_ofDouble_1 ?_
    refine z_dcmp C dX1_ofDouble_2 ?_
    refine z_if_gt (tgt := 8) C dX1_ofDouble_3 (by decide) (fun e9 => absurd e9 ((by decide +kernel))) (fun _ => ?_)
    refine z_lconst (v := 0) C dX1_ofDouble_6 (by decide) ?_
    exact z_lret C E dX1_ofDouble_7 (⟨rfl, rfl⟩) (zb rfl) (zb rfl)
  · obtain ⟨e, T, he, hT, he1, he2⟩ : ∃ e T, x = mkd e T ∧ T < 4503599627370496 ∧ 1016 ≤ e ∧ e ≤ 1046 := ⟨_, _, mkd_self x (by omega), by omega, by omega, by omega⟩
    subst he
    have c0 : FP.dcmp (mkd e T) FP.dconst0 = some .gt := mkd_pos (by omega) (by omega) hT
    refine z_dload_n C dX1_ofDouble_0 rfl ?_
    refine z_dconst0 C dX1_ofDouble_1 ?_
    refine z_dcmp C dX1_ofDouble_2 ?_
    refine z_if_gt (tgt := 8) C dX1_ofDouble_3 (by decide) (fun _ => ?_) (fun e9 => absurd ((by rw [c0]; decide)) e9)
    refine z_dload_n C dX1_ofDouble_8 rfl ?_
    refine z_dstore_n C dX1_ofDouble_9 (zb rfl) ?_
    refine z_iconst (v := 0) C dX1_ofDouble_10 (by decide) ?_
    refine z_istore C dX1_ofDouble_11 (zb rfl) ?_
    refine z_loop (I := fun i => Zs G X 7 h 0 0 13 [some (.double (mkd e T)), none, some (.double (mkd (e - i) T)), none, some (.int (nI i)), none, none] []) (e - 1023) (fun i hi ih => ?_) 0 (Nat.zero_le _)
    have hc := mkd_cmp (E := e - i) (T := T) (B := 1024) (c := 4611686018427387904) (by omega) hT (by decide) (by decide)
    by_cases hl : e - i < 1024
    · rw [if_pos hl] at hc
      refine z_dload_n C dX1_ofDouble_13 rfl ?_
      refine z_ldc2d C kstX1_7 dX1_ofDouble_14 ?_
      refine z_dcmp C dX1_ofDouble_17 ?_
      refine z_if_lt (tgt := 40) C dX1_ofDouble_18 (by decide) (fun _ => ?_) (fun e9 => absurd ((by rw [hc]; decide)) e9)
      have e2 : nI i = Int32.ofInt ((e : Int) - ((e - i + 0 : Nat) : Int)) := by
        rw [show ((e : Int) - ((e - i + 0 : Nat) : Int)) = i by omega]
        rfl
      rw [e2]
      refine z_loop (I := fun j => Zs G X 7 h 0 0 40 [some (.double (mkd e T)), none, some (.double (mkd (e - i + j) T)), none, some (.int (Int32.ofInt ((e : Int) - ((e - i + j : Nat) : Int)))), none, none] []) (1023 - (e - i)) (fun j hj ih2 => ?_) 0 (Nat.zero_le _)
      have hc2 := mkd_cmp (E := e - i + j) (T := T) (B := 1023) (c := FP.dconst1) (by omega) hT (by decide) (by decide)
      by_cases hl2 : e - i + j < 1023
      · rw [if_pos hl2] at hc2
        have ih2 := ih2 (by omega)
        have em := mkd_mul (E := e - i + j) (T := T) (by omega) (by omega) hT
        have ei : Int32.ofInt ((e : Int) - ((e - i + j : Nat) : Int)) + Int32.ofInt (-1) = Int32.ofInt ((e : Int) - ((e - i + (j + 1) : Nat) : Int)) := by
          rw [← Int32.ofInt_add]
          congr 1
          omega
        have el : ¬ Int32.ofInt ((e : Int) - ((e - i + j : Nat) : Int)) ≤ -64 := by
          rw [Int32.le_iff_toInt_le, Int32.toInt_ofInt_of_le (by omega) (by omega), show (-64 : Int32).toInt = -64 by decide]
          omega
        refine z_dload_n C dX1_ofDouble_40 rfl ?_
        refine z_dconst1 C dX1_ofDouble_41 ?_
        refine z_dcmp C dX1_ofDouble_42 ?_
        refine z_if_ge (tgt := 65) C dX1_ofDouble_43 (by decide) (fun e9 => absurd e9 ((by rw [hc2]; decide))) (fun _ => ?_)
        refine z_iload C dX1_ofDouble_46 rfl ?_
        refine z_bipush (v := (-64)) C dX1_ofDouble_48 (by decide) ?_
        refine z_icmp_le (tgt := 65) C dX1_ofDouble_50 (by decide) (fun e9 => absurd e9 (el)) (fun _ => ?_)
        refine z_dload_n C dX1_ofDouble_53 rfl ?_
        refine z_ldc2d C kstX1_7 dX1_ofDouble_54 ?_
        refine z_dmul C dX1_ofDouble_57 (nn64.mpr (by rw [em]; exact mkd_nn (by omega) hT)) ?_
        refine z_dstore_n C dX1_ofDouble_58 (zb rfl) ?_
        refine z_iinc _ C dX1_ofDouble_59 rfl (ei) (zb rfl) ?_
        refine z_goto (tgt := 40) C dX1_ofDouble_62 (by decide) ?_
        rw [em]
        exact ih2
      · have e3 : e - i + j = 1023 := by omega
        rw [e3] at hc2 ⊢
        refine z_dload_n C dX1_ofDouble_40 rfl ?_
        refine z_dconst1 C dX1_ofDouble_41 ?_
        refine z_dcmp C dX1_ofDouble_42 ?_
        refine z_if_ge (tgt := 65) C dX1_ofDouble_43 (by decide) (fun _ => ?_) (fun e9 => absurd ((by rw [hc2, if_neg (by decide)]; split <;> decide)) e9)
        refine z_dload_n C dX1_ofDouble_65 rfl ?_
        refine z_dconst1 C dX1_ofDouble_66 ?_
        refine z_dsub C dX1_ofDouble_67 ((mkd_last hT).1) ?_
        refine z_ldc2d C kstX1_11 dX1_ofDouble_68 ?_
        refine z_dmul C dX1_ofDouble_71 ((mkd_last hT).2.1) ?_
        refine z_d2l C dX1_ofDouble_72 ?_
        refine z_lstore C dX1_ofDouble_73 (zb rfl) ?_
        refine z_iload C dX1_ofDouble_75 rfl ?_
        refine z_sipush (v := 1023) C dX1_ofDouble_77 (by decide) ?_
        refine z_iadd C dX1_ofDouble_80 ?_
        refine z_i2l C dX1_ofDouble_81 ?_
        refine z_bipush (v := 52) C dX1_ofDouble_82 (by decide) ?_
        refine z_lshl C dX1_ofDouble_84 ?_
        refine z_lload C dX1_ofDouble_85 rfl ?_
        refine z_ladd C dX1_ofDouble_87 ?_
        exact z_lret C E dX1_ofDouble_88 (⟨rfl, by rw [okD_out (by omega) hT (mkd_last hT).2.2]⟩) (zb rfl) (zb rfl)
    · rw [if_neg hl] at hc
      have ih := ih (by omega)
      have em := mkd_div (E := e - (i + 1)) (T := T) (by omega) (by omega) hT
      rw [show e - (i + 1) + 1 = e - i by omega] at em
      have el : ¬ 64 ≤ nI i := by
        rw [Int32.le_iff_toInt_le, nI_int (by omega), show (64 : Int32).toInt = 64 by decide]
        omega
      refine z_dload_n C dX1_ofDouble_13 rfl ?_
      refine z_ldc2d C kstX1_7 dX1_ofDouble_14 ?_
      refine z_dcmp C dX1_ofDouble_17 ?_
      refine z_if_lt (tgt := 40) C dX1_ofDouble_18 (by decide) (fun e9 => absurd e9 ((by rw [hc]; split <;> decide))) (fun _ => ?_)
      refine z_iload C dX1_ofDouble_21 rfl ?_
      refine z_bipush (v := 64) C dX1_ofDouble_23 (by decide) ?_
      refine z_icmp_ge (tgt := 40) C dX1_ofDouble_25 (by decide) (fun e9 => absurd e9 (el)) (fun _ => ?_)
      refine z_dload_n C dX1_ofDouble_28 rfl ?_
      refine z_ldc2d C kstX1_7 dX1_ofDouble_29 ?_
      refine z_ddiv C dX1_ofDouble_32 (nn64.mpr (by rw [em]; exact mkd_nn (by omega) hT)) ?_
      refine z_dstore_n C dX1_ofDouble_33 (zb rfl) ?_
      refine z_iinc _ C dX1_ofDouble_34 rfl (nI_1 _) (zb rfl) ?_
      refine z_goto (tgt := 13) C dX1_ofDouble_37 (by decide) ?_
      rw [em]
      exact ih
theorem k_ofFloat (hB : Base G) {x : UInt32} (hx : okF x) : Ct G mX1_ofFloat 2 0 0 [.float x] h (rd h (.int x.toInt32)) noX := by
  refine Ct.intro (m := 4) hB (by decide +kernel) (zb rfl) fun X C E => ?_
  rcases hx with hx | ⟨hx1, hx2⟩
  · subst hx
    refine z_fload_n C dX1_ofFloat_0 rfl ?_
    refine z_fconst0 C dX1_ofFloat_1 ?_
    refine z_fcmp C dX1_ofFloat_2 ?_
    refine z_if_gt (tgt := 8) C dX1_ofFloat_3 (by decide) (fun e9 => absurd e9 ((by decide +kernel))) (fun _ => ?_)
    refine z_iconst (v := 0) C dX1_ofFloat_6 (by decide) ?_
    exact z_iret C E dX1_ofFloat_7 (⟨rfl, rfl⟩) (zb rfl) (zb rfl)
  · obtain ⟨e, T, he, hT, he1, he2⟩ : ∃ e T, x.toNat = e * 8388608 + T ∧ T < 8388608 ∧ 126 ≤ e ∧ e ≤ 145 := ⟨x.toNat / 8388608, x.toNat % 8388608, by omega, by omega, by omega, by omega⟩
    have c0 : FP.fcmp x FP.fconst0 = some .gt := by
      refine (FP.Core.fcmp_gt_key (okF_nn (.inr ⟨hx1, hx2⟩)) (by decide +kernel)).mpr ?_
      rw [show FP.Core.fkey FP.fconst0 = 0 by decide]
      unfold FP.Core.fkey
      rw [if_neg (by omega)]
      omega
    have eb := f2d_bits he (by omega) (by omega) hT
    have ok : okD (mkd (e + 896) (T * 536870912)) := by
      refine .inr ?_
      rw [mkd_nat (by omega) (by omega)]
      omega
    refine z_fload_n C dX1_ofFloat_0 rfl ?_
    refine z_fconst0 C dX1_ofFloat_1 ?_
    refine z_fcmp C dX1_ofFloat_2 ?_
    refine z_if_gt (tgt := 8) C dX1_ofFloat_3 (by decide) (fun _ => ?_) (fun e9 => absurd ((by rw [c0]; decide)) e9)
    refine z_fload_n C dX1_ofFloat_8 rfl ?_
    refine z_f2d C dX1_ofFloat_9 ((okF_f2d (.inr ⟨hx1, hx2⟩)).1) ?_
    rw [eb]
    refine z_rd (z_runS C ksX1_ofDouble lkX1_13 (k_ofDouble hB ok) rfl rfl (zb rfl) (zb rfl) (zb rfl) (zb rfl) dX1_ofFloat_10) ?_
    refine z_lstore_n C dX1_ofFloat_13 (zb rfl) ?_
    refine z_lload_n C dX1_ofFloat_14 rfl ?_
    refine z_bipush (v := 52) C dX1_ofFloat_15 (by decide) ?_
    refine z_lshr C dX1_ofFloat_17 ?_
    refine z_l2i C dX1_ofFloat_18 ?_
    refine z_sipush (v := 1023) C dX1_ofFloat_19 (by decide) ?_
    refine z_isub C dX1_ofFloat_22 ?_
    refine z_istore_n C dX1_ofFloat_23 (zb rfl) ?_
    refine z_lload_n C dX1_ofFloat_24 rfl ?_
    refine z_bipush (v := 29) C dX1_ofFloat_25 (by decide) ?_
    refine z_lshr C dX1_ofFloat_27 ?_
    refine z_l2i C dX1_ofFloat_28 ?_
    refine z_ldc C kstX1_17 dX1_ofFloat_29 ?_
    refine z_iand C dX1_ofFloat_31 ?_
    refine z_istore C dX1_ofFloat_32 (zb rfl) ?_
    refine z_iload_n C dX1_ofFloat_34 rfl ?_
    refine z_bipush (v := 127) C dX1_ofFloat_35 (by decide) ?_
    refine z_iadd C dX1_ofFloat_37 ?_
    refine z_bipush (v := 23) C dX1_ofFloat_38 (by decide) ?_
    refine z_ishl C dX1_ofFloat_40 ?_
    refine z_iload C dX1_ofFloat_41 rfl ?_
    refine z_iadd C dX1_ofFloat_43 ?_
    exact z_iret C E dX1_ofFloat_44 (⟨rfl, by rw [okF_out he (by omega) (by omega) hT]⟩) (zb rfl) (zb rfl)
end
