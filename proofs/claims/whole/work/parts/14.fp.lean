/-! floats: the rates, the drift, the mean, the share -/
/-- a rate: from 0.5 to 1.5 -/
def okR (r : UInt32) : Prop := 0x3f000000 ≤ r.toNat ∧ r.toNat ≤ 0x3fc00000
def rateOf (th : Int32) : UInt32 := FP.fadd FP.fconst1 (FP.fdiv (FP.i2f th) 1148846080)
theorem okR_1 : okR FP.fconst1 := by unfold okR; decide +kernel
theorem fp_rate {th : Int32} (h0 : ¬ th < -500) (h1 : th ≤ 500) : vf_n32 (FP.fdiv (FP.i2f th) 1148846080) ∧ vf_n32 (rateOf th) ∧ okR (rateOf th) := by
  sorry
/-- a float that a drift can be: 0, or from 0.5 to 262144 -/
def okF (x : UInt32) : Prop := x = 0 ∨ (0x3f000000 ≤ x.toNat ∧ x.toNat ≤ 0x48800000)
theorem fp_drift {dt : Int32} {r : UInt32} (h0 : 0 ≤ dt) (h1 : dt ≤ 100000) (hr : okR r) : vf_n32 (FP.fmul (FP.i2f dt) r) ∧ 0 ≤ (FP.f2i (FP.fmul (FP.i2f dt) r)).toInt ∧ (FP.f2i (FP.fmul (FP.i2f dt) r)).toInt ≤ 2 * dt.toInt ∧ okF (FP.fmul (FP.i2f dt) r) := by
  sorry
theorem fp_drift0 {r : UInt32} (hr : okR r) : FP.f2i (FP.fmul (FP.i2f 0) r) = 0 := by
  sorry
theorem okF_eq {x : UInt32} (h : okF x) : FP.fcmp x x = some .eq := by
  sorry
theorem okF_f2d {x : UInt32} (h : okF x) : vf_n64 (FP.f2d x) ∧ FP.dcmp (FP.f2d x) (FP.f2d x) = some .eq := by
  sorry
/-- a double that a mean can be: 0, or from 2^-7 to 2^20 -/
def okD (x : UInt64) : Prop := x = 0 ∨ (0x3f80000000000000 ≤ x.toNat ∧ x.toNat ≤ 0x4130000000000000)
theorem okD_eq {x : UInt64} (h : okD x) : FP.dcmp x x = some .eq := by
  sorry
theorem fp_mean {s : Int64} {n : Nat} (h0 : 0 ≤ s.toInt) (h1 : s.toInt ≤ 6000000) (hn : 0 < n) (hn2 : n ≤ 60) : vf_n64 (FP.ddiv (FP.l2d s) (FP.i2d (nI n))) ∧ okD (FP.ddiv (FP.l2d s) (FP.i2d (nI n))) := by
  sorry
theorem fp_share {a n : Nat} (h : a ≤ n) (hn : 0 < n) (hn2 : n ≤ 60) : vf_n32 (FP.fdiv (FP.i2f (nI a)) (FP.i2f (nI n))) ∧ vf_n64 (FP.f2d (FP.fdiv (FP.i2f (nI a)) (FP.i2f (nI n)))) ∧ FP.dcmp (FP.f2d (FP.fdiv (FP.i2f (nI a)) (FP.i2f (nI n)))) (FP.f2d (FP.fdiv (FP.i2f (nI a)) (FP.i2f (nI n)))) = some .eq := by
  sorry
section
variable {G : GT} {h : Hp}
theorem k_ofDouble (hB : Base G) {x : UInt64} (hx : okD x) : Ct G mX1_ofDouble 1 0 0 [.double x] h (rd h (.long x.toInt64)) noX := by
  sorry
theorem k_ofFloat (hB : Base G) {x : UInt32} (hx : okF x) : Ct G mX1_ofFloat 2 0 0 [.float x] h (rd h (.int x.toInt32)) noX := by
  sorry
end
