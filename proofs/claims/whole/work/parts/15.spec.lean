/-! WHAT THE CALLS DO, on the columns -/
abbrev ix (d : Int32) : Nat := d.toNatClampNeg
/-- an index in a list of n -/
def In (d : Int32) (n : Nat) : Prop := ¬ d < 0 ∧ d < nI n
theorem In.ix {d : Int32} {n : Nat} (h : In d n) (hn : n < 2 ^ 31) : ix d < n ∧ d = nI (ix d) := by
  obtain ⟨j, hj, rfl⟩ := nI_of h.1
  have h2 := (nI_ltI hj hn).mp h.2
  have e : Int32.toNatClampNeg (nI j) = j := nI_clamp hj
  exact ⟨by show Int32.toNatClampNeg (nI j) < n; rw [e]; exact h2, by show nI j = nI (Int32.toNatClampNeg (nI j)); rw [e]⟩
theorem In.of {i n : Nat} (h : i < n) (hn : n < 2 ^ 31) : In (nI i) n := ⟨nI_pos (by omega), nI_lt h hn⟩
abbrev now (σ : SG) : Int32 := tT σ 22 0
def drift (σ : SG) (i : Nat) : UInt32 := FP.fmul (FP.i2f (now σ - tT σ 8 i)) (tR σ i)
def clk (σ : SG) (i : Nat) : Int32 := tT σ 9 i + FP.f2i (drift σ i)
def OkV (σ : SG) (w : Int32) : Prop := ∃ v, v ≤ tn σ 3 ∧ w = nI v
def cnt (p : Nat → Bool) : Nat → Nat
  | 0 => 0
  | i + 1 => cnt p i + (if p i = true then 1 else 0)
theorem cnt_le (p : Nat → Bool) : ∀ n, cnt p n ≤ n
  | 0 => Nat.le_refl _
  | i + 1 => by
    have := cnt_le p i
    unfold cnt
    split <;> omega
def pWait (σ : SG) (d : Int32) (a : Nat) : Bool := decide (tT σ 11 a = d ∧ tT σ 17 a = -1)
def pCarr (σ : SG) (p : Int32) (a : Nat) : Bool := decide (tT σ 17 a = p ∧ tT σ 18 a = -1)
def pArr (σ : SG) (a : Nat) : Bool := decide (¬ tT σ 18 a = -1)
def told (σ : SG) (a : Nat) : Bool := decide (¬ tT σ 18 a = -1 ∧ tT σ 14 a = 111 ∧ ¬ letter σ (nwAt (tT σ 5) (tT σ 13 a) (tn σ 3)) (tT σ 12 a) (tT σ 11 a) (tT σ 13 a) = 111)
def pTold (σ : SG) (d : Int32) (a : Nat) : Bool := decide (tT σ 11 a = d ∧ told σ a = true)
def dsum (σ : SG) : Nat → Int64
  | 0 => 0
  | i + 1 => if tT σ 18 i = -1 then dsum σ i else dsum σ i + (tT σ 18 i - tT σ 16 i).toInt64
def mean (σ : SG) : UInt64 := FP.ddiv (FP.l2d (dsum σ (tn σ 2))) (FP.i2d (nI (cnt (pArr σ) (tn σ 2))))
def share (σ : SG) : UInt32 := FP.fdiv (FP.i2f (nI (cnt (pArr σ) (tn σ 2)))) (FP.i2f (nI (tn σ 2)))
def i32max (x y : Int32) : Int32 := if x < y then y else x
/-- the lists on the phones after i meetings -/
def rpo (σ : SG) : Nat → Nat → Int32
  | 0 => fun _ => 0
  | i + 1 => if tT σ 20 i = -1 then upd (rpo σ i) (ix (tT σ 19 i)) (tT σ 21 i) else rpo σ i
/-- the list of a door after i meetings -/
def rpv (σ : SG) (d f : Int32) : Nat → Int32
  | 0 => f
  | i + 1 => if tT σ 20 i = -1 then rpv σ d f i else if tT σ 20 i = d then i32max (rpv σ d f i) (rpo σ i (ix (tT σ 19 i))) else rpv σ d f i
def okSet (d : Int32) : Prop := 0 ≤ d ∧ d ≤ 31
def okTimes (f t : Int32) : Prop := 0 ≤ f ∧ f < t ∧ t ≤ 100000
/-! the states after the calls -/
def sPush (σ : SG) (k d f t r : Int32) : SG := (t1 (t1 (t1 (t1 (t1 (t1 (tT σ) 0 (tn σ 3) k) 1 (tn σ 3) d) 2 (tn σ 3) f) 3 (tn σ 3) t) 4 (tn σ 3) r) 5 (tn σ 3) (now σ), tR σ, nc (tn σ) 3 (tn σ 3 + 1))
def sKeys (σ : SG) : SG := (t1 (tT σ) 22 1 (tT σ 22 1 + 1), tR σ, tn σ)
def sAddKey (σ : SG) (d f t : Int32) : SG := sPush (sKeys σ) (tT σ 22 1) d f t 0
def sAddDoor (σ : SG) : SG := (t1 (t1 (t1 (t1 (tT σ) 6 (tn σ 0) (nI (tn σ 3))) 7 (tn σ 0) (nI (tn σ 3))) 8 (tn σ 0) (now σ)) 9 (tn σ 0) (now σ), fun i => if i = tn σ 0 then FP.fconst1 else tR σ i, nc (tn σ) 0 (tn σ 0 + 1))
def sClock (σ : SG) (i : Nat) (m : Int32) : SG := (t1 (t1 (tT σ) 8 i (now σ)) 9 i m, tR σ, tn σ)
def sRate (σ : SG) (i : Nat) (r : UInt32) : SG := (tT σ, fun j => if j = i then r else tR σ j, tn σ)
def sSetRate (σ : SG) (i : Nat) (th : Int32) : SG := sRate (sClock σ i (clk σ i)) i (rateOf th)
def sAddPhone (σ : SG) : SG := (tT σ, tR σ, nc (tn σ) 1 (tn σ 1 + 1))
def sPass (σ : SG) (m : Int32) : SG := (t1 (tT σ) 22 0 (now σ + m), tR σ, tn σ)
def sPhone (σ : SG) (p : Nat) (v : Int32) : SG := (t1 (tT σ) 10 p v, tR σ, tn σ)
def sVer (σ : SG) (i : Nat) (v : Int32) : SG := (t1 (tT σ) 7 i v, tR σ, tn σ)
def sMeet (σ : SG) (p d v : Int32) : SG := (t1 (t1 (t1 (tT σ) 19 (tn σ 4) p) 20 (tn σ 4) d) 21 (tn σ 4) v, tR σ, nc (tn σ) 4 (tn σ 4 + 1))
/-- the audits that a phone carries have arrived, those before n -/
def sArrive (σ : SG) (p : Int32) (n : Nat) : SG := (tc (tT σ) 18 (fun a => if a < n ∧ pCarr σ p a = true then now σ else tT σ 18 a), tR σ, tn σ)
def sTake (σ : SG) (p d : Int32) (n : Nat) : SG := (tc (tT σ) 17 (fun a => if a < n ∧ pWait σ d a = true then p else tT σ 17 a), tR σ, tn σ)
def sMeetCloud (σ : SG) (p : Int32) : SG := sArrive (sMeet (sPhone σ (ix p) (nI (tn σ 3))) p (-1) (nI (tn σ 3))) p (tn σ 2)
def sMeetDoor (σ : SG) (p d : Int32) : SG := sTake (sMeet (sClock (sVer σ (ix d) (i32max (tT σ 7 (ix d)) (tT σ 10 (ix p)))) (ix d) (now σ)) p d (nI (tn σ 3))) p d (tn σ 2)
def sOpen (σ : SG) (d k m l v : Int32) : SG := (t1 (t1 (t1 (t1 (t1 (t1 (t1 (t1 (tT σ) 11 (tn σ 2) d) 12 (tn σ 2) k) 13 (tn σ 2) m) 14 (tn σ 2) l) 15 (tn σ 2) v) 16 (tn σ 2) (now σ)) 17 (tn σ 2) (-1)) 18 (tn σ 2) (-1), tR σ, nc (tn σ) 2 (tn σ 2 + 1))
/-! what always holds of a state -/
def IvN (σ : SG) : Prop := tn σ 0 ≤ 5 ∧ tn σ 1 ≤ 3 ∧ tn σ 2 ≤ 60 ∧ tn σ 3 ≤ 50
def IvT (σ : SG) : Prop := 0 ≤ (now σ).toInt ∧ (now σ).toInt ≤ 100000
def IvD (σ : SG) : Prop := ∀ i, i < tn σ 0 → (0 ≤ (tT σ 8 i).toInt ∧ (tT σ 8 i).toInt ≤ (now σ).toInt) ∧ (0 ≤ (tT σ 9 i).toInt ∧ (tT σ 9 i).toInt ≤ 2 * (tT σ 8 i).toInt) ∧ okR (tR σ i) ∧ OkV σ (tT σ 7 i) ∧ OkV σ (tT σ 6 i)
def IvP (σ : SG) : Prop := (∀ i, i < tn σ 1 → OkV σ (tT σ 10 i)) ∧ ∀ i, tn σ 1 ≤ i → tT σ 10 i = 0
def IvA (σ : SG) : Prop := ∀ a, a < tn σ 2 → OkV σ (tT σ 15 a) ∧ 0 ≤ tT σ 13 a ∧ 0 ≤ tT σ 12 a ∧ tT σ 14 a = letter σ (ix (tT σ 15 a)) (tT σ 12 a) (tT σ 11 a) (tT σ 13 a) ∧ (tT σ 17 a = -1 ∨ 0 ≤ tT σ 17 a) ∧ 0 ≤ (tT σ 16 a).toInt ∧ (tT σ 18 a = -1 ∨ ((tT σ 16 a).toInt ≤ (tT σ 18 a).toInt ∧ (tT σ 18 a).toInt ≤ (now σ).toInt)) ∧ (tT σ 16 a).toInt ≤ (now σ).toInt
def IvM (σ : SG) : Prop := ∀ i, i < tn σ 4 → In (tT σ 19 i) (tn σ 1) ∧ (tT σ 20 i = -1 ∨ In (tT σ 20 i) (tn σ 0)) ∧ OkV σ (tT σ 21 i)
def IvR (σ : SG) : Prop := (∀ p, rpo σ (tn σ 4) p = tT σ 10 p) ∧ ∀ i, i < tn σ 0 → rpv σ (nI i) (tT σ 6 i) (tn σ 4) = tT σ 7 i
def IvK (σ : SG) : Prop := (∃ kc, kc ≤ 8 ∧ tT σ 22 1 = nI kc) ∧ (∀ c, c < tn σ 3 → In (tT σ 0 c) (ix (tT σ 22 1)) ∧ (tT σ 4 c = 0 ∨ tT σ 4 c = 1)) ∧ ∀ k, k < ix (tT σ 22 1) → ∃ c, c < tn σ 3 ∧ tT σ 0 c = nI k
def Inv (σ : SG) : Prop := IvN σ ∧ IvT σ ∧ IvD σ ∧ IvP σ ∧ IvA σ ∧ IvM σ ∧ IvR σ ∧ IvK σ
section
variable {σ : SG}
theorem Inv.N (I : Inv σ) : IvN σ := I.1
theorem Inv.T (I : Inv σ) : IvT σ := I.2.1
theorem Inv.D (I : Inv σ) : IvD σ := I.2.2.1
theorem Inv.P (I : Inv σ) : IvP σ := I.2.2.2.1
theorem Inv.A (I : Inv σ) : IvA σ := I.2.2.2.2.1
theorem Inv.M (I : Inv σ) : IvM σ := I.2.2.2.2.2.1
theorem Inv.R (I : Inv σ) : IvR σ := I.2.2.2.2.2.2.1
theorem Inv.K (I : Inv σ) : IvK σ := I.2.2.2.2.2.2.2
theorem i_sub {a b : Int32} (h0 : 0 ≤ b.toInt) (h1 : b.toInt ≤ a.toInt) : (a - b).toInt = a.toInt - b.toInt := by
  have ha : a.toInt < 2 ^ 31 := a.toInt_lt
  rw [Int32.toInt_sub]
  exact Int.bmod_eq_of_le (by omega) (by omega)
theorem i_le {a b : Int32} (h : a.toInt ≤ b.toInt) : a ≤ b := Int32.le_iff_toInt_le.mpr h
theorem i_lt {a b : Int32} (h : a.toInt < b.toInt) : a < b := Int32.lt_iff_toInt_lt.mpr h
/-- what the clock of a door adds -/
theorem Inv.dr (I : Inv σ) {i : Nat} (hi : i < tn σ 0) : vf_n32 (drift σ i) ∧ 0 ≤ (FP.f2i (drift σ i)).toInt ∧ (FP.f2i (drift σ i)).toInt ≤ 2 * ((now σ).toInt - (tT σ 8 i).toInt) ∧ okF (drift σ i) := by
  obtain ⟨⟨h1, h2⟩, -, hr, -⟩ := I.D i hi
  have h3 := I.T
  have e := i_sub h1 h2
  have k0 : (0 : Int32).toInt = 0 := rfl
  have k1 : (100000 : Int32).toInt = 100000 := rfl
  obtain ⟨a1, a2, a3, a4⟩ := fp_drift (dt := now σ - tT σ 8 i) (r := tR σ i) (i_le (by rw [e, k0]; omega)) (i_le (by rw [e, k1]; have := h3.2; omega)) hr
  exact ⟨a1, a2, by rw [← e]; exact a3, a4⟩
theorem i_add {a b : Int32} (h0 : 0 ≤ a.toInt) (h1 : 0 ≤ b.toInt) (h2 : a.toInt + b.toInt < 2 ^ 31) : (a + b).toInt = a.toInt + b.toInt := by
  rw [Int32.toInt_add]
  exact Int.bmod_eq_of_le (by omega) (by omega)
/-- a door's clock never shows less than 0, nor more than twice the time -/
theorem Inv.ck (I : Inv σ) {i : Nat} (hi : i < tn σ 0) : 0 ≤ (clk σ i).toInt ∧ (clk σ i).toInt ≤ 2 * (now σ).toInt := by
  obtain ⟨⟨h1, h2⟩, ⟨h3, h4⟩, -⟩ := I.D i hi
  obtain ⟨-, h5, h6, -⟩ := I.dr hi
  have h7 := I.T.2
  have e : (clk σ i).toInt = (tT σ 9 i).toInt + (FP.f2i (drift σ i)).toInt := i_add h3 h5 (by omega)
  omega
end
