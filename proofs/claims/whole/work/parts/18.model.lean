/-! the reference: its picture, its writes -/
def rTh (ρ : RG) (t : Int32) : RG := (ρ.1, t, ρ.2.2)
def rMu (ρ : RG) (μ : SG) : RG := (ρ.1, ρ.2.1, μ, ρ.2.2.2)
def rKs (ρ : RG) (K : Nat → Int32) : RG := (ρ.1, ρ.2.1, ρ.2.2.1, K, ρ.2.2.2.2)
def rAs (ρ : RG) (A : Nat → Int32) : RG := (ρ.1, ρ.2.1, ρ.2.2.1, ρ.2.2.2.1, A, ρ.2.2.2.2.2)
def rDs (ρ : RG) (D : Nat → Nat → Nat → Int32) : RG := (ρ.1, ρ.2.1, ρ.2.2.1, ρ.2.2.2.1, ρ.2.2.2.2.1, D, ρ.2.2.2.2.2.2)
def rJs (ρ : RG) (J : Nat → Int64) : RG := (ρ.1, ρ.2.1, ρ.2.2.1, ρ.2.2.2.1, ρ.2.2.2.2.1, ρ.2.2.2.2.2.1, J, ρ.2.2.2.2.2.2.2)
def rQs (ρ : RG) (Q : Nat → UInt64) : RG := (ρ.1, ρ.2.1, ρ.2.2.1, ρ.2.2.2.1, ρ.2.2.2.2.1, ρ.2.2.2.2.2.1, ρ.2.2.2.2.2.2.1, Q)
def rb (c : Prop) (h : Hp) : Option Value → Hp → Prop := fun o h' => h = h' ∧ ((c ∧ o = some (.int 1)) ∨ (¬ c ∧ o = some (.int 0)))
theorem z_rb {G : GT} {X : XT} {nL uc us mc2 ms2 pc : Nat} {h : Hp} {L : List (Option Value)} {st0 st av : List Value} {c : Prop} (hr : ZRun G X nL h uc us mc2 ms2 pc L st0 st av (rb c h) noX) (k1 : c → Zs G X nL h (uc + mc2) (us + ms2) (pc + 3) L (.int 1 :: st)) (k0 : ¬ c → Zs G X nL h (uc + mc2) (us + ms2) (pc + 3) L (.int 0 :: st)) : Zs G X nL h uc us pc L st0 :=
  z_run hr (fun _ _ q => q.elim) (fun o h' hp => by
    obtain ⟨rfl, ⟨hc, rfl⟩ | ⟨hc, rfl⟩⟩ := hp
    · exact k1 hc
    · exact k0 hc)
theorem In.vp {d : Int32} {n N : Nat} (h : In d n) (hn : n ≤ N) (hN : N < 2 ^ 31) : vp_in d N := by
  obtain ⟨a, b⟩ := h.ix (by omega)
  rw [b]
  exact nI_in (by omega) hN
section
variable {G : GT} {h : Hp} {loc loc' : Nat → Nat → Nat} {σ : SG} {ρ : RG}
theorem PW.m7 (P : PW G h loc σ ρ) : h (loc 8 9) = some (oI G 5 (tT (rM ρ) 7)) := P.ma 9 (by decide)
theorem PW.m8 (P : PW G h loc σ ρ) : h (loc 8 10) = some (oI G 5 (tT (rM ρ) 8)) := P.ma 10 (by decide)
theorem PW.m9 (P : PW G h loc σ ρ) : h (loc 8 11) = some (oI G 5 (tT (rM ρ) 9)) := P.ma 11 (by decide)
theorem PW.m10 (P : PW G h loc σ ρ) : h (loc 8 12) = some (oI G 3 (tT (rM ρ) 10)) := P.ma 12 (by decide)
theorem PW.m11 (P : PW G h loc σ ρ) : h (loc 8 16) = some (oI G 60 (tT (rM ρ) 11)) := P.ma 16 (by decide)
theorem PW.m12 (P : PW G h loc σ ρ) : h (loc 8 17) = some (oI G 60 (tT (rM ρ) 12)) := P.ma 17 (by decide)
theorem PW.m13 (P : PW G h loc σ ρ) : h (loc 8 18) = some (oI G 60 (tT (rM ρ) 13)) := P.ma 18 (by decide)
theorem PW.m15 (P : PW G h loc σ ρ) : h (loc 8 19) = some (oI G 60 (tT (rM ρ) 15)) := P.ma 19 (by decide)
theorem PW.m16 (P : PW G h loc σ ρ) : h (loc 8 20) = some (oI G 60 (tT (rM ρ) 16)) := P.ma 20 (by decide)
theorem PW.m17 (P : PW G h loc σ ρ) : h (loc 8 21) = some (oI G 60 (tT (rM ρ) 17)) := P.ma 21 (by decide)
theorem PW.m18 (P : PW G h loc σ ρ) : h (loc 8 22) = some (oI G 60 (tT (rM ρ) 18)) := P.ma 22 (by decide)
theorem PW.m14 (P : PW G h loc σ ρ) : h (loc 8 23) = some (oC G 60 (tT (rM ρ) 14)) := P.ma 23 (by decide)
theorem PW.mR (P : PW G h loc σ ρ) : h (loc 8 13) = some (oF G 5 (tR (rM ρ))) := P.ma 13 (by decide)
theorem PW.mK (P : PW G h loc σ ρ) : h (loc 8 1) = some (oI G 51 (rK ρ)) := P.ma 1 (by decide)
theorem PW.mA (P : PW G h loc σ ρ) : h (loc 8 2) = some (oI G 51 (rA ρ)) := P.ma 2 (by decide)
theorem PW.mD0 (P : PW G h loc σ ρ) : h (loc 8 3) = some (oII G 51 (fun v => some (loc 9 v))) := P.ma 3 (by decide)
theorem PW.mD1 (P : PW G h loc σ ρ) : h (loc 8 4) = some (oII G 51 (fun v => some (loc 10 v))) := P.ma 4 (by decide)
theorem PW.mD2 (P : PW G h loc σ ρ) : h (loc 8 5) = some (oII G 51 (fun v => some (loc 11 v))) := P.ma 5 (by decide)
theorem PW.mD3 (P : PW G h loc σ ρ) : h (loc 8 6) = some (oZZ G 51 (fun v => some (loc 12 v))) := P.ma 6 (by decide)
theorem PW.e0 (P : PW G h loc σ ρ) {v : Nat} (hv : v < 51) : h (loc 9 (nI v).toNatClampNeg) = some (oI G 8 (rD ρ 0 v)) := by rw [nI_clamp (by omega)]; exact P.d0 hv
theorem PW.e1 (P : PW G h loc σ ρ) {v : Nat} (hv : v < 51) : h (loc 10 (nI v).toNatClampNeg) = some (oI G 8 (rD ρ 1 v)) := by rw [nI_clamp (by omega)]; exact P.d1 hv
theorem PW.e2 (P : PW G h loc σ ρ) {v : Nat} (hv : v < 51) : h (loc 11 (nI v).toNatClampNeg) = some (oI G 8 (rD ρ 2 v)) := by rw [nI_clamp (by omega)]; exact P.d2 hv
theorem PW.e3 (P : PW G h loc σ ρ) {v : Nat} (hv : v < 51) : h (loc 12 (nI v).toNatClampNeg) = some (oZ G 8 (rD ρ 3 v)) := by rw [nI_clamp (by omega)]; exact P.d3 hv
theorem PW.sTh (P : PW G h loc σ ρ) (t : Int32) : PW G (hup h (loc 0 4) (oM loc (rTh ρ t))) loc σ (rTh ρ t) := P.set (k := 0) (i := 4) (show 4 < 7 by decide) rfl rfl (fun i' e hd => by
    match i', e with
    | 0, _ => rfl
    | 1, _ => rfl
    | 2, _ => rfl
    | 3, _ => rfl
    | 4, e => exact absurd rfl e
    | 5, _ => rfl
    | i + 6, _ => rfl) (fun k' i' e hd => by
    match k', e with
    | 0, e => exact absurd rfl e
    | 1, _ => rfl
    | 2, _ => rfl
    | 3, _ => rfl
    | 4, _ => rfl
    | 5, _ => rfl
    | 6, _ => rfl
    | 7, _ => rfl
    | 8, _ => rfl
    | 9, _ => rfl
    | 10, _ => rfl
    | 11, _ => rfl
    | k + 12, _ => rfl)
theorem PW.sVersion (P : PW G h loc σ ρ) (k d f t r : Int32) : PW G (hup h (loc 0 4) (oM loc (rMu ρ (sPush (rM ρ) k d f t r)))) loc σ (rMu ρ (sPush (rM ρ) k d f t r)) := P.set (k := 0) (i := 4) (show 4 < 7 by decide) rfl rfl (fun i' e hd => by
    match i', e with
    | 0, _ => rfl
    | 1, _ => rfl
    | 2, _ => rfl
    | 3, _ => rfl
    | 4, e => exact absurd rfl e
    | 5, _ => rfl
    | i + 6, _ => rfl) (fun k' i' e hd => by
    match k', e with
    | 0, e => exact absurd rfl e
    | 1, _ => rfl
    | 2, _ => rfl
    | 3, _ => rfl
    | 4, _ => rfl
    | 5, _ => rfl
    | 6, _ => rfl
    | 7, _ => rfl
    | 8, _ => rfl
    | 9, _ => rfl
    | 10, _ => rfl
    | 11, _ => rfl
    | k + 12, _ => rfl)
theorem PW.sTime (P : PW G h loc σ ρ) (m : Int32) : PW G (hup h (loc 0 4) (oM loc (rMu ρ (sPass (rM ρ) m)))) loc σ (rMu ρ (sPass (rM ρ) m)) := P.set (k := 0) (i := 4) (show 4 < 7 by decide) rfl rfl (fun i' e hd => by
    match i', e with
    | 0, _ => rfl
    | 1, _ => rfl
    | 2, _ => rfl
    | 3, _ => rfl
    | 4, e => exact absurd rfl e
    | 5, _ => rfl
    | i + 6, _ => rfl) (fun k' i' e hd => by
    match k', e with
    | 0, e => exact absurd rfl e
    | 1, _ => rfl
    | 2, _ => rfl
    | 3, _ => rfl
    | 4, _ => rfl
    | 5, _ => rfl
    | 6, _ => rfl
    | 7, _ => rfl
    | 8, _ => rfl
    | 9, _ => rfl
    | 10, _ => rfl
    | 11, _ => rfl
    | k + 12, _ => rfl)
def sN (σ : SG) (j v : Nat) : SG := (tT σ, tR σ, nc (tn σ) j v)
theorem PW.sDoors (P : PW G h loc σ ρ) (v : Nat) : PW G (hup h (loc 0 4) (oM loc (rMu ρ (sN (rM ρ) 0 v)))) loc σ (rMu ρ (sN (rM ρ) 0 v)) := P.set (k := 0) (i := 4) (show 4 < 7 by decide) rfl rfl (fun i' e hd => by
    match i', e with
    | 0, _ => rfl
    | 1, _ => rfl
    | 2, _ => rfl
    | 3, _ => rfl
    | 4, e => exact absurd rfl e
    | 5, _ => rfl
    | i + 6, _ => rfl) (fun k' i' e hd => by
    match k', e with
    | 0, e => exact absurd rfl e
    | 1, _ => rfl
    | 2, _ => rfl
    | 3, _ => rfl
    | 4, _ => rfl
    | 5, _ => rfl
    | 6, _ => rfl
    | 7, _ => rfl
    | 8, _ => rfl
    | 9, _ => rfl
    | 10, _ => rfl
    | 11, _ => rfl
    | k + 12, _ => rfl)
theorem PW.sPhones (P : PW G h loc σ ρ) (v : Nat) : PW G (hup h (loc 0 4) (oM loc (rMu ρ (sN (rM ρ) 1 v)))) loc σ (rMu ρ (sN (rM ρ) 1 v)) := P.set (k := 0) (i := 4) (show 4 < 7 by decide) rfl rfl (fun i' e hd => by
    match i', e with
    | 0, _ => rfl
    | 1, _ => rfl
    | 2, _ => rfl
    | 3, _ => rfl
    | 4, e => exact absurd rfl e
    | 5, _ => rfl
    | i + 6, _ => rfl) (fun k' i' e hd => by
    match k', e with
    | 0, e => exact absurd rfl e
    | 1, _ => rfl
    | 2, _ => rfl
    | 3, _ => rfl
    | 4, _ => rfl
    | 5, _ => rfl
    | 6, _ => rfl
    | 7, _ => rfl
    | 8, _ => rfl
    | 9, _ => rfl
    | 10, _ => rfl
    | 11, _ => rfl
    | k + 12, _ => rfl)
theorem PW.sAudits (P : PW G h loc σ ρ) (v : Nat) : PW G (hup h (loc 0 4) (oM loc (rMu ρ (sN (rM ρ) 2 v)))) loc σ (rMu ρ (sN (rM ρ) 2 v)) := P.set (k := 0) (i := 4) (show 4 < 7 by decide) rfl rfl (fun i' e hd => by
    match i', e with
    | 0, _ => rfl
    | 1, _ => rfl
    | 2, _ => rfl
    | 3, _ => rfl
    | 4, e => exact absurd rfl e
    | 5, _ => rfl
    | i + 6, _ => rfl) (fun k' i' e hd => by
    match k', e with
    | 0, e => exact absurd rfl e
    | 1, _ => rfl
    | 2, _ => rfl
    | 3, _ => rfl
    | 4, _ => rfl
    | 5, _ => rfl
    | 6, _ => rfl
    | 7, _ => rfl
    | 8, _ => rfl
    | 9, _ => rfl
    | 10, _ => rfl
    | 11, _ => rfl
    | k + 12, _ => rfl)
def sC (σ : SG) (c i : Nat) (v : Int32) : SG := (t1 (tT σ) c i v, tR σ, tn σ)
theorem PW.s7 (P : PW G h loc σ ρ) (i : Nat) (v : Int32) : PW G (hup h (loc 8 9) (oI G 5 (upd (tT (rM ρ) 7) i v))) loc σ (rMu ρ (sC (rM ρ) 7 i v)) := P.set (k := 8) (i := 9) (show 9 ∈ [1, 2, 3, 4, 5, 6, 9, 10, 11, 12, 13, 16, 17, 18, 19, 20, 21, 22, 23] by decide) rfl rfl (fun i' e hd => by
    have hd9 : i' ∈ [1, 2, 3, 4, 5, 6, 9, 10, 11, 12, 13, 16, 17, 18, 19, 20, 21, 22, 23] := hd
    simp only [List.mem_cons, List.not_mem_nil, or_false] at hd9
    rcases hd9 with rfl | rfl | rfl | rfl | rfl | rfl | rfl | rfl | rfl | rfl | rfl | rfl | rfl | rfl | rfl | rfl | rfl | rfl | rfl <;> first | rfl | exact absurd rfl e) (fun k' i' e hd => by
    match k', e with
    | 0, _ => rfl
    | 1, _ => rfl
    | 2, _ => rfl
    | 3, _ => rfl
    | 4, _ => rfl
    | 5, _ => rfl
    | 6, _ => rfl
    | 7, _ => rfl
    | 8, e => exact absurd rfl e
    | 9, _ => rfl
    | 10, _ => rfl
    | 11, _ => rfl
    | k + 12, _ => rfl)
theorem PW.s8 (P : PW G h loc σ ρ) (i : Nat) (v : Int32) : PW G (hup h (loc 8 10) (oI G 5 (upd (tT (rM ρ) 8) i v))) loc σ (rMu ρ (sC (rM ρ) 8 i v)) := P.set (k := 8) (i := 10) (show 10 ∈ [1, 2, 3, 4, 5, 6, 9, 10, 11, 12, 13, 16, 17, 18, 19, 20, 21, 22, 23] by decide) rfl rfl (fun i' e hd => by
    have hd9 : i' ∈ [1, 2, 3, 4, 5, 6, 9, 10, 11, 12, 13, 16, 17, 18, 19, 20, 21, 22, 23] := hd
    simp only [List.mem_cons, List.not_mem_nil, or_false] at hd9
    rcases hd9 with rfl | rfl | rfl | rfl | rfl | rfl | rfl | rfl | rfl | rfl | rfl | rfl | rfl | rfl | rfl | rfl | rfl | rfl | rfl <;> first | rfl | exact absurd rfl e) (fun k' i' e hd => by
    match k', e with
    | 0, _ => rfl
    | 1, _ => rfl
    | 2, _ => rfl
    | 3, _ => rfl
    | 4, _ => rfl
    | 5, _ => rfl
    | 6, _ => rfl
    | 7, _ => rfl
    | 8, e => exact absurd rfl e
    | 9, _ => rfl
    | 10, _ => rfl
    | 11, _ => rfl
    | k + 12, _ => rfl)
theorem PW.s9 (P : PW G h loc σ ρ) (i : Nat) (v : Int32) : PW G (hup h (loc 8 11) (oI G 5 (upd (tT (rM ρ) 9) i v))) loc σ (rMu ρ (sC (rM ρ) 9 i v)) := P.set (k := 8) (i := 11) (show 11 ∈ [1, 2, 3, 4, 5, 6, 9, 10, 11, 12, 13, 16, 17, 18, 19, 20, 21, 22, 23] by decide) rfl rfl (fun i' e hd => by
    have hd9 : i' ∈ [1, 2, 3, 4, 5, 6, 9, 10, 11, 12, 13, 16, 17, 18, 19, 20, 21, 22, 23] := hd
    simp only [List.mem_cons, List.not_mem_nil, or_false] at hd9
    rcases hd9 with rfl | rfl | rfl | rfl | rfl | rfl | rfl | rfl | rfl | rfl | rfl | rfl | rfl | rfl | rfl | rfl | rfl | rfl | rfl <;> first | rfl | exact absurd rfl e) (fun k' i' e hd => by
    match k', e with
    | 0, _ => rfl
    | 1, _ => rfl
    | 2, _ => rfl
    | 3, _ => rfl
    | 4, _ => rfl
    | 5, _ => rfl
    | 6, _ => rfl
    | 7, _ => rfl
    | 8, e => exact absurd rfl e
    | 9, _ => rfl
    | 10, _ => rfl
    | 11, _ => rfl
    | k + 12, _ => rfl)
theorem PW.s10 (P : PW G h loc σ ρ) (i : Nat) (v : Int32) : PW G (hup h (loc 8 12) (oI G 3 (upd (tT (rM ρ) 10) i v))) loc σ (rMu ρ (sC (rM ρ) 10 i v)) := P.set (k := 8) (i := 12) (show 12 ∈ [1, 2, 3, 4, 5, 6, 9, 10, 11, 12, 13, 16, 17, 18, 19, 20, 21, 22, 23] by decide) rfl rfl (fun i' e hd => by
    have hd9 : i' ∈ [1, 2, 3, 4, 5, 6, 9, 10, 11, 12, 13, 16, 17, 18, 19, 20, 21, 22, 23] := hd
    simp only [List.mem_cons, List.not_mem_nil, or_false] at hd9
    rcases hd9 with rfl | rfl | rfl | rfl | rfl | rfl | rfl | rfl | rfl | rfl | rfl | rfl | rfl | rfl | rfl | rfl | rfl | rfl | rfl <;> first | rfl | exact absurd rfl e) (fun k' i' e hd => by
    match k', e with
    | 0, _ => rfl
    | 1, _ => rfl
    | 2, _ => rfl
    | 3, _ => rfl
    | 4, _ => rfl
    | 5, _ => rfl
    | 6, _ => rfl
    | 7, _ => rfl
    | 8, e => exact absurd rfl e
    | 9, _ => rfl
    | 10, _ => rfl
    | 11, _ => rfl
    | k + 12, _ => rfl)
theorem PW.s11 (P : PW G h loc σ ρ) (i : Nat) (v : Int32) : PW G (hup h (loc 8 16) (oI G 60 (upd (tT (rM ρ) 11) i v))) loc σ (rMu ρ (sC (rM ρ) 11 i v)) := P.set (k := 8) (i := 16) (show 16 ∈ [1, 2, 3, 4, 5, 6, 9, 10, 11, 12, 13, 16, 17, 18, 19, 20, 21, 22, 23] by decide) rfl rfl (fun i' e hd => by
    have hd9 : i' ∈ [1, 2, 3, 4, 5, 6, 9, 10, 11, 12, 13, 16, 17, 18, 19, 20, 21, 22, 23] := hd
    simp only [List.mem_cons, List.not_mem_nil, or_false] at hd9
    rcases hd9 with rfl | rfl | rfl | rfl | rfl | rfl | rfl | rfl | rfl | rfl | rfl | rfl | rfl | rfl | rfl | rfl | rfl | rfl | rfl <;> first | rfl | exact absurd rfl e) (fun k' i' e hd => by
    match k', e with
    | 0, _ => rfl
    | 1, _ => rfl
    | 2, _ => rfl
    | 3, _ => rfl
    | 4, _ => rfl
    | 5, _ => rfl
    | 6, _ => rfl
    | 7, _ => rfl
    | 8, e => exact absurd rfl e
    | 9, _ => rfl
    | 10, _ => rfl
    | 11, _ => rfl
    | k + 12, _ => rfl)
theorem PW.s12 (P : PW G h loc σ ρ) (i : Nat) (v : Int32) : PW G (hup h (loc 8 17) (oI G 60 (upd (tT (rM ρ) 12) i v))) loc σ (rMu ρ (sC (rM ρ) 12 i v)) := P.set (k := 8) (i := 17) (show 17 ∈ [1, 2, 3, 4, 5, 6, 9, 10, 11, 12, 13, 16, 17, 18, 19, 20, 21, 22, 23] by decide) rfl rfl (fun i' e hd => by
    have hd9 : i' ∈ [1, 2, 3, 4, 5, 6, 9, 10, 11, 12, 13, 16, 17, 18, 19, 20, 21, 22, 23] := hd
    simp only [List.mem_cons, List.not_mem_nil, or_false] at hd9
    rcases hd9 with rfl | rfl | rfl | rfl | rfl | rfl | rfl | rfl | rfl | rfl | rfl | rfl | rfl | rfl | rfl | rfl | rfl | rfl | rfl <;> first | rfl | exact absurd rfl e) (fun k' i' e hd => by
    match k', e with
    | 0, _ => rfl
    | 1, _ => rfl
    | 2, _ => rfl
    | 3, _ => rfl
    | 4, _ => rfl
    | 5, _ => rfl
    | 6, _ => rfl
    | 7, _ => rfl
    | 8, e => exact absurd rfl e
    | 9, _ => rfl
    | 10, _ => rfl
    | 11, _ => rfl
    | k + 12, _ => rfl)
theorem PW.s13 (P : PW G h loc σ ρ) (i : Nat) (v : Int32) : PW G (hup h (loc 8 18) (oI G 60 (upd (tT (rM ρ) 13) i v))) loc σ (rMu ρ (sC (rM ρ) 13 i v)) := P.set (k := 8) (i := 18) (show 18 ∈ [1, 2, 3, 4, 5, 6, 9, 10, 11, 12, 13, 16, 17, 18, 19, 20, 21, 22, 23] by decide) rfl rfl (fun i' e hd => by
    have hd9 : i' ∈ [1, 2, 3, 4, 5, 6, 9, 10, 11, 12, 13, 16, 17, 18, 19, 20, 21, 22, 23] := hd
    simp only [List.mem_cons, List.not_mem_nil, or_false] at hd9
    rcases hd9 with rfl | rfl | rfl | rfl | rfl | rfl | rfl | rfl | rfl | rfl | rfl | rfl | rfl | rfl | rfl | rfl | rfl | rfl | rfl <;> first | rfl | exact absurd rfl e) (fun k' i' e hd => by
    match k', e with
    | 0, _ => rfl
    | 1, _ => rfl
    | 2, _ => rfl
    | 3, _ => rfl
    | 4, _ => rfl
    | 5, _ => rfl
    | 6, _ => rfl
    | 7, _ => rfl
    | 8, e => exact absurd rfl e
    | 9, _ => rfl
    | 10, _ => rfl
    | 11, _ => rfl
    | k + 12, _ => rfl)
theorem PW.s15 (P : PW G h loc σ ρ) (i : Nat) (v : Int32) : PW G (hup h (loc 8 19) (oI G 60 (upd (tT (rM ρ) 15) i v))) loc σ (rMu ρ (sC (rM ρ) 15 i v)) := P.set (k := 8) (i := 19) (show 19 ∈ [1, 2, 3, 4, 5, 6, 9, 10, 11, 12, 13, 16, 17, 18, 19, 20, 21, 22, 23] by decide) rfl rfl (fun i' e hd => by
    have hd9 : i' ∈ [1, 2, 3, 4, 5, 6, 9, 10, 11, 12, 13, 16, 17, 18, 19, 20, 21, 22, 23] := hd
    simp only [List.mem_cons, List.not_mem_nil, or_false] at hd9
    rcases hd9 with rfl | rfl | rfl | rfl | rfl | rfl | rfl | rfl | rfl | rfl | rfl | rfl | rfl | rfl | rfl | rfl | rfl | rfl | rfl <;> first | rfl | exact absurd rfl e) (fun k' i' e hd => by
    match k', e with
    | 0, _ => rfl
    | 1, _ => rfl
    | 2, _ => rfl
    | 3, _ => rfl
    | 4, _ => rfl
    | 5, _ => rfl
    | 6, _ => rfl
    | 7, _ => rfl
    | 8, e => exact absurd rfl e
    | 9, _ => rfl
    | 10, _ => rfl
    | 11, _ => rfl
    | k + 12, _ => rfl)
theorem PW.s16 (P : PW G h loc σ ρ) (i : Nat) (v : Int32) : PW G (hup h (loc 8 20) (oI G 60 (upd (tT (rM ρ) 16) i v))) loc σ (rMu ρ (sC (rM ρ) 16 i v)) := P.set (k := 8) (i := 20) (show 20 ∈ [1, 2, 3, 4, 5, 6, 9, 10, 11, 12, 13, 16, 17, 18, 19, 20, 21, 22, 23] by decide) rfl rfl (fun i' e hd => by
    have hd9 : i' ∈ [1, 2, 3, 4, 5, 6, 9, 10, 11, 12, 13, 16, 17, 18, 19, 20, 21, 22, 23] := hd
    simp only [List.mem_cons, List.not_mem_nil, or_false] at hd9
    rcases hd9 with rfl | rfl | rfl | rfl | rfl | rfl | rfl | rfl | rfl | rfl | rfl | rfl | rfl | rfl | rfl | rfl | rfl | rfl | rfl <;> first | rfl | exact absurd rfl e) (fun k' i' e hd => by
    match k', e with
    | 0, _ => rfl
    | 1, _ => rfl
    | 2, _ => rfl
    | 3, _ => rfl
    | 4, _ => rfl
    | 5, _ => rfl
    | 6, _ => rfl
    | 7, _ => rfl
    | 8, e => exact absurd rfl e
    | 9, _ => rfl
    | 10, _ => rfl
    | 11, _ => rfl
    | k + 12, _ => rfl)
theorem PW.s17 (P : PW G h loc σ ρ) (i : Nat) (v : Int32) : PW G (hup h (loc 8 21) (oI G 60 (upd (tT (rM ρ) 17) i v))) loc σ (rMu ρ (sC (rM ρ) 17 i v)) := P.set (k := 8) (i := 21) (show 21 ∈ [1, 2, 3, 4, 5, 6, 9, 10, 11, 12, 13, 16, 17, 18, 19, 20, 21, 22, 23] by decide) rfl rfl (fun i' e hd => by
    have hd9 : i' ∈ [1, 2, 3, 4, 5, 6, 9, 10, 11, 12, 13, 16, 17, 18, 19, 20, 21, 22, 23] := hd
    simp only [List.mem_cons, List.not_mem_nil, or_false] at hd9
    rcases hd9 with rfl | rfl | rfl | rfl | rfl | rfl | rfl | rfl | rfl | rfl | rfl | rfl | rfl | rfl | rfl | rfl | rfl | rfl | rfl <;> first | rfl | exact absurd rfl e) (fun k' i' e hd => by
    match k', e with
    | 0, _ => rfl
    | 1, _ => rfl
    | 2, _ => rfl
    | 3, _ => rfl
    | 4, _ => rfl
    | 5, _ => rfl
    | 6, _ => rfl
    | 7, _ => rfl
    | 8, e => exact absurd rfl e
    | 9, _ => rfl
    | 10, _ => rfl
    | 11, _ => rfl
    | k + 12, _ => rfl)
theorem PW.s18 (P : PW G h loc σ ρ) (i : Nat) (v : Int32) : PW G (hup h (loc 8 22) (oI G 60 (upd (tT (rM ρ) 18) i v))) loc σ (rMu ρ (sC (rM ρ) 18 i v)) := P.set (k := 8) (i := 22) (show 22 ∈ [1, 2, 3, 4, 5, 6, 9, 10, 11, 12, 13, 16, 17, 18, 19, 20, 21, 22, 23] by decide) rfl rfl (fun i' e hd => by
    have hd9 : i' ∈ [1, 2, 3, 4, 5, 6, 9, 10, 11, 12, 13, 16, 17, 18, 19, 20, 21, 22, 23] := hd
    simp only [List.mem_cons, List.not_mem_nil, or_false] at hd9
    rcases hd9 with rfl | rfl | rfl | rfl | rfl | rfl | rfl | rfl | rfl | rfl | rfl | rfl | rfl | rfl | rfl | rfl | rfl | rfl | rfl <;> first | rfl | exact absurd rfl e) (fun k' i' e hd => by
    match k', e with
    | 0, _ => rfl
    | 1, _ => rfl
    | 2, _ => rfl
    | 3, _ => rfl
    | 4, _ => rfl
    | 5, _ => rfl
    | 6, _ => rfl
    | 7, _ => rfl
    | 8, e => exact absurd rfl e
    | 9, _ => rfl
    | 10, _ => rfl
    | 11, _ => rfl
    | k + 12, _ => rfl)
theorem PW.s14 (P : PW G h loc σ ρ) (i : Nat) (v : Int32) : PW G (hup h (loc 8 23) (oC G 60 (upd (tT (rM ρ) 14) i v))) loc σ (rMu ρ (sC (rM ρ) 14 i v)) := P.set (k := 8) (i := 23) (show 23 ∈ [1, 2, 3, 4, 5, 6, 9, 10, 11, 12, 13, 16, 17, 18, 19, 20, 21, 22, 23] by decide) rfl rfl (fun i' e hd => by
    have hd9 : i' ∈ [1, 2, 3, 4, 5, 6, 9, 10, 11, 12, 13, 16, 17, 18, 19, 20, 21, 22, 23] := hd
    simp only [List.mem_cons, List.not_mem_nil, or_false] at hd9
    rcases hd9 with rfl | rfl | rfl | rfl | rfl | rfl | rfl | rfl | rfl | rfl | rfl | rfl | rfl | rfl | rfl | rfl | rfl | rfl | rfl <;> first | rfl | exact absurd rfl e) (fun k' i' e hd => by
    match k', e with
    | 0, _ => rfl
    | 1, _ => rfl
    | 2, _ => rfl
    | 3, _ => rfl
    | 4, _ => rfl
    | 5, _ => rfl
    | 6, _ => rfl
    | 7, _ => rfl
    | 8, e => exact absurd rfl e
    | 9, _ => rfl
    | 10, _ => rfl
    | 11, _ => rfl
    | k + 12, _ => rfl)
theorem PW.sR (P : PW G h loc σ ρ) (f : Nat → UInt32) : PW G (hup h (loc 8 13) (oF G 5 f)) loc σ (rMu ρ (tT (rM ρ), f, tn (rM ρ))) := P.set (k := 8) (i := 13) (show 13 ∈ [1, 2, 3, 4, 5, 6, 9, 10, 11, 12, 13, 16, 17, 18, 19, 20, 21, 22, 23] by decide) rfl rfl (fun i' e hd => by
    have hd9 : i' ∈ [1, 2, 3, 4, 5, 6, 9, 10, 11, 12, 13, 16, 17, 18, 19, 20, 21, 22, 23] := hd
    simp only [List.mem_cons, List.not_mem_nil, or_false] at hd9
    rcases hd9 with rfl | rfl | rfl | rfl | rfl | rfl | rfl | rfl | rfl | rfl | rfl | rfl | rfl | rfl | rfl | rfl | rfl | rfl | rfl <;> first | rfl | exact absurd rfl e) (fun k' i' e hd => by
    match k', e with
    | 0, _ => rfl
    | 1, _ => rfl
    | 2, _ => rfl
    | 3, _ => rfl
    | 4, _ => rfl
    | 5, _ => rfl
    | 6, _ => rfl
    | 7, _ => rfl
    | 8, e => exact absurd rfl e
    | 9, _ => rfl
    | 10, _ => rfl
    | 11, _ => rfl
    | k + 12, _ => rfl)
theorem PW.sK (P : PW G h loc σ ρ) (f : Nat → Int32) : PW G (hup h (loc 8 1) (oI G 51 f)) loc σ (rKs ρ f) := P.set (k := 8) (i := 1) (show 1 ∈ [1, 2, 3, 4, 5, 6, 9, 10, 11, 12, 13, 16, 17, 18, 19, 20, 21, 22, 23] by decide) rfl rfl (fun i' e hd => by
    have hd9 : i' ∈ [1, 2, 3, 4, 5, 6, 9, 10, 11, 12, 13, 16, 17, 18, 19, 20, 21, 22, 23] := hd
    simp only [List.mem_cons, List.not_mem_nil, or_false] at hd9
    rcases hd9 with rfl | rfl | rfl | rfl | rfl | rfl | rfl | rfl | rfl | rfl | rfl | rfl | rfl | rfl | rfl | rfl | rfl | rfl | rfl <;> first | rfl | exact absurd rfl e) (fun k' i' e hd => by
    match k', e with
    | 0, _ => rfl
    | 1, _ => rfl
    | 2, _ => rfl
    | 3, _ => rfl
    | 4, _ => rfl
    | 5, _ => rfl
    | 6, _ => rfl
    | 7, _ => rfl
    | 8, e => exact absurd rfl e
    | 9, _ => rfl
    | 10, _ => rfl
    | 11, _ => rfl
    | k + 12, _ => rfl)
theorem PW.sA (P : PW G h loc σ ρ) (f : Nat → Int32) : PW G (hup h (loc 8 2) (oI G 51 f)) loc σ (rAs ρ f) := P.set (k := 8) (i := 2) (show 2 ∈ [1, 2, 3, 4, 5, 6, 9, 10, 11, 12, 13, 16, 17, 18, 19, 20, 21, 22, 23] by decide) rfl rfl (fun i' e hd => by
    have hd9 : i' ∈ [1, 2, 3, 4, 5, 6, 9, 10, 11, 12, 13, 16, 17, 18, 19, 20, 21, 22, 23] := hd
    simp only [List.mem_cons, List.not_mem_nil, or_false] at hd9
    rcases hd9 with rfl | rfl | rfl | rfl | rfl | rfl | rfl | rfl | rfl | rfl | rfl | rfl | rfl | rfl | rfl | rfl | rfl | rfl | rfl <;> first | rfl | exact absurd rfl e) (fun k' i' e hd => by
    match k', e with
    | 0, _ => rfl
    | 1, _ => rfl
    | 2, _ => rfl
    | 3, _ => rfl
    | 4, _ => rfl
    | 5, _ => rfl
    | 6, _ => rfl
    | 7, _ => rfl
    | 8, e => exact absurd rfl e
    | 9, _ => rfl
    | 10, _ => rfl
    | 11, _ => rfl
    | k + 12, _ => rfl)
def uD (D : Nat → Nat → Nat → Int32) (c v k : Nat) (x : Int32) : Nat → Nat → Nat → Int32 := fun c' v' k' => if c' = c ∧ v' = v ∧ k' = k then x else D c' v' k'
theorem PW.sD0 (P : PW G h loc σ ρ) {v : Nat} (hv : v < 51) (k : Nat) (x : Int32) : PW G (hup h (loc 9 v) (oI G 8 (upd (rD ρ 0 v) k x))) loc σ (rDs ρ (uD (rD ρ) 0 v k x)) := P.set (k := 9) (i := v) hv rfl (by
    have q : uD (rD ρ) 0 v k x 0 v = upd (rD ρ 0 v) k x := by
      funext z
      unfold uD upd
      by_cases e : z = k
      · rw [if_pos ⟨rfl, rfl, e⟩, if_pos e]
      · rw [if_neg (fun q => e q.2.2), if_neg e]
    show oI G 8 (uD (rD ρ) 0 v k x 0 v) = _
    rw [q]) (fun i' e hd => by
    have q : uD (rD ρ) 0 v k x 0 i' = rD ρ 0 i' := by
      funext z
      exact if_neg (fun q => e q.2.1)
    show oI G 8 (uD (rD ρ) 0 v k x 0 i') = oI G 8 (rD ρ 0 i')
    rw [q]) (fun k' i' e hd => by
    match k', e with
    | 0, _ => rfl
    | 1, _ => rfl
    | 2, _ => rfl
    | 3, _ => rfl
    | 4, _ => rfl
    | 5, _ => rfl
    | 6, _ => rfl
    | 7, _ => rfl
    | 8, _ => rfl
    | 9, e => exact absurd rfl e
    | 10, _ =>
      have q : uD (rD ρ) 0 v k x 1 i' = rD ρ 1 i' := by
        funext z
        exact if_neg (fun q => absurd q.1 (by decide))
      show oI G 8 (uD (rD ρ) 0 v k x 1 i') = oI G 8 (rD ρ 1 i')
      rw [q]
    | 11, _ =>
      have q : uD (rD ρ) 0 v k x 2 i' = rD ρ 2 i' := by
        funext z
        exact if_neg (fun q => absurd q.1 (by decide))
      show oI G 8 (uD (rD ρ) 0 v k x 2 i') = oI G 8 (rD ρ 2 i')
      rw [q]
    | 12, _ =>
      have q : uD (rD ρ) 0 v k x 3 i' = rD ρ 3 i' := by
        funext z
        exact if_neg (fun q => absurd q.1 (by decide))
      show oZ G 8 (uD (rD ρ) 0 v k x 3 i') = oZ G 8 (rD ρ 3 i')
      rw [q]
    | k + 13, _ => exact hd.elim)
theorem PW.sD1 (P : PW G h loc σ ρ) {v : Nat} (hv : v < 51) (k : Nat) (x : Int32) : PW G (hup h (loc 10 v) (oI G 8 (upd (rD ρ 1 v) k x))) loc σ (rDs ρ (uD (rD ρ) 1 v k x)) := P.set (k := 10) (i := v) hv rfl (by
    have q : uD (rD ρ) 1 v k x 1 v = upd (rD ρ 1 v) k x := by
      funext z
      unfold uD upd
      by_cases e : z = k
      · rw [if_pos ⟨rfl, rfl, e⟩, if_pos e]
      · rw [if_neg (fun q => e q.2.2), if_neg e]
    show oI G 8 (uD (rD ρ) 1 v k x 1 v) = _
    rw [q]) (fun i' e hd => by
    have q : uD (rD ρ) 1 v k x 1 i' = rD ρ 1 i' := by
      funext z
      exact if_neg (fun q => e q.2.1)
    show oI G 8 (uD (rD ρ) 1 v k x 1 i') = oI G 8 (rD ρ 1 i')
    rw [q]) (fun k' i' e hd => by
    match k', e with
    | 0, _ => rfl
    | 1, _ => rfl
    | 2, _ => rfl
    | 3, _ => rfl
    | 4, _ => rfl
    | 5, _ => rfl
    | 6, _ => rfl
    | 7, _ => rfl
    | 8, _ => rfl
    | 9, _ =>
      have q : uD (rD ρ) 1 v k x 0 i' = rD ρ 0 i' := by
        funext z
        exact if_neg (fun q => absurd q.1 (by decide))
      show oI G 8 (uD (rD ρ) 1 v k x 0 i') = oI G 8 (rD ρ 0 i')
      rw [q]
    | 10, e => exact absurd rfl e
    | 11, _ =>
      have q : uD (rD ρ) 1 v k x 2 i' = rD ρ 2 i' := by
        funext z
        exact if_neg (fun q => absurd q.1 (by decide))
      show oI G 8 (uD (rD ρ) 1 v k x 2 i') = oI G 8 (rD ρ 2 i')
      rw [q]
    | 12, _ =>
      have q : uD (rD ρ) 1 v k x 3 i' = rD ρ 3 i' := by
        funext z
        exact if_neg (fun q => absurd q.1 (by decide))
      show oZ G 8 (uD (rD ρ) 1 v k x 3 i') = oZ G 8 (rD ρ 3 i')
      rw [q]
    | k + 13, _ => exact hd.elim)
theorem PW.sD2 (P : PW G h loc σ ρ) {v : Nat} (hv : v < 51) (k : Nat) (x : Int32) : PW G (hup h (loc 11 v) (oI G 8 (upd (rD ρ 2 v) k x))) loc σ (rDs ρ (uD (rD ρ) 2 v k x)) := P.set (k := 11) (i := v) hv rfl (by
    have q : uD (rD ρ) 2 v k x 2 v = upd (rD ρ 2 v) k x := by
      funext z
      unfold uD upd
      by_cases e : z = k
      · rw [if_pos ⟨rfl, rfl, e⟩, if_pos e]
      · rw [if_neg (fun q => e q.2.2), if_neg e]
    show oI G 8 (uD (rD ρ) 2 v k x 2 v) = _
    rw [q]) (fun i' e hd => by
    have q : uD (rD ρ) 2 v k x 2 i' = rD ρ 2 i' := by
      funext z
      exact if_neg (fun q => e q.2.1)
    show oI G 8 (uD (rD ρ) 2 v k x 2 i') = oI G 8 (rD ρ 2 i')
    rw [q]) (fun k' i' e hd => by
    match k', e with
    | 0, _ => rfl
    | 1, _ => rfl
    | 2, _ => rfl
    | 3, _ => rfl
    | 4, _ => rfl
    | 5, _ => rfl
    | 6, _ => rfl
    | 7, _ => rfl
    | 8, _ => rfl
    | 9, _ =>
      have q : uD (rD ρ) 2 v k x 0 i' = rD ρ 0 i' := by
        funext z
        exact if_neg (fun q => absurd q.1 (by decide))
      show oI G 8 (uD (rD ρ) 2 v k x 0 i') = oI G 8 (rD ρ 0 i')
      rw [q]
    | 10, _ =>
      have q : uD (rD ρ) 2 v k x 1 i' = rD ρ 1 i' := by
        funext z
        exact if_neg (fun q => absurd q.1 (by decide))
      show oI G 8 (uD (rD ρ) 2 v k x 1 i') = oI G 8 (rD ρ 1 i')
      rw [q]
    | 11, e => exact absurd rfl e
    | 12, _ =>
      have q : uD (rD ρ) 2 v k x 3 i' = rD ρ 3 i' := by
        funext z
        exact if_neg (fun q => absurd q.1 (by decide))
      show oZ G 8 (uD (rD ρ) 2 v k x 3 i') = oZ G 8 (rD ρ 3 i')
      rw [q]
    | k + 13, _ => exact hd.elim)
theorem PW.sD3 (P : PW G h loc σ ρ) {v : Nat} (hv : v < 51) (k : Nat) (x : Int32) : PW G (hup h (loc 12 v) (oZ G 8 (upd (rD ρ 3 v) k x))) loc σ (rDs ρ (uD (rD ρ) 3 v k x)) := P.set (k := 12) (i := v) hv rfl (by
    have q : uD (rD ρ) 3 v k x 3 v = upd (rD ρ 3 v) k x := by
      funext z
      unfold uD upd
      by_cases e : z = k
      · rw [if_pos ⟨rfl, rfl, e⟩, if_pos e]
      · rw [if_neg (fun q => e q.2.2), if_neg e]
    show oZ G 8 (uD (rD ρ) 3 v k x 3 v) = _
    rw [q]) (fun i' e hd => by
    have q : uD (rD ρ) 3 v k x 3 i' = rD ρ 3 i' := by
      funext z
      exact if_neg (fun q => e q.2.1)
    show oZ G 8 (uD (rD ρ) 3 v k x 3 i') = oZ G 8 (rD ρ 3 i')
    rw [q]) (fun k' i' e hd => by
    match k', e with
    | 0, _ => rfl
    | 1, _ => rfl
    | 2, _ => rfl
    | 3, _ => rfl
    | 4, _ => rfl
    | 5, _ => rfl
    | 6, _ => rfl
    | 7, _ => rfl
    | 8, _ => rfl
    | 9, _ =>
      have q : uD (rD ρ) 3 v k x 0 i' = rD ρ 0 i' := by
        funext z
        exact if_neg (fun q => absurd q.1 (by decide))
      show oI G 8 (uD (rD ρ) 3 v k x 0 i') = oI G 8 (rD ρ 0 i')
      rw [q]
    | 10, _ =>
      have q : uD (rD ρ) 3 v k x 1 i' = rD ρ 1 i' := by
        funext z
        exact if_neg (fun q => absurd q.1 (by decide))
      show oI G 8 (uD (rD ρ) 3 v k x 1 i') = oI G 8 (rD ρ 1 i')
      rw [q]
    | 11, _ =>
      have q : uD (rD ρ) 3 v k x 2 i' = rD ρ 2 i' := by
        funext z
        exact if_neg (fun q => absurd q.1 (by decide))
      show oI G 8 (uD (rD ρ) 3 v k x 2 i') = oI G 8 (rD ρ 2 i')
      rw [q]
    | 12, e => exact absurd rfl e
    | k + 13, _ => exact hd.elim)
/-- the reference's picture shows these parts of its state alone -/
theorem PW.muEq (P : PW G h loc σ ρ) {μ : SG} (h0 : tn μ 0 = tn (rM ρ) 0) (h1 : tn μ 1 = tn (rM ρ) 1) (h2 : tn μ 2 = tn (rM ρ) 2) (h3 : tn μ 3 = tn (rM ρ) 3) (ht : now μ = now (rM ρ)) (hc : ∀ c, 7 ≤ c → c ≤ 18 → tT μ c = tT (rM ρ) c) (hr : tR μ = tR (rM ρ)) : PW G h loc σ (rMu ρ μ) := by
  refine ⟨fun k i hd => ?_, P.2.1, P.2.2⟩
  rw [P.1 k i hd]
  congr 1
  match k, hd with
  | 0, hd =>
    match i, hd with
    | 0, _ => rfl
    | 1, _ => rfl
    | 2, _ => rfl
    | 3, _ => rfl
    | 4, _ =>
      show oM loc ρ = oM loc (rMu ρ μ)
      show (Sum.inr (9, [_, _, _, _, _, _, _, Value.int (nI (tn (rM ρ) 3)), Value.int (now (rM ρ)), _, _, _, _, _, Value.int (nI (tn (rM ρ) 0)), Value.int (nI (tn (rM ρ) 1)), _, _, _, _, _, _, _, _, Value.int (nI (tn (rM ρ) 2))]) : va_E) = Sum.inr (9, [_, _, _, _, _, _, _, Value.int (nI (tn μ 3)), Value.int (now μ), _, _, _, _, _, Value.int (nI (tn μ 0)), Value.int (nI (tn μ 1)), _, _, _, _, _, _, _, _, Value.int (nI (tn μ 2))])
      rw [h0, h1, h2, h3, ht]
      rfl
    | 5, _ => rfl
    | i + 6, _ => rfl
  | 1, _ => rfl
  | 2, _ => rfl
  | 3, _ => rfl
  | 4, _ => rfl
  | 5, _ => rfl
  | 6, _ => rfl
  | 7, _ => rfl
  | 8, hd =>
    have hd9 : i ∈ [1, 2, 3, 4, 5, 6, 9, 10, 11, 12, 13, 16, 17, 18, 19, 20, 21, 22, 23] := hd
    simp only [List.mem_cons, List.not_mem_nil, or_false] at hd9
    rcases hd9 with rfl | rfl | rfl | rfl | rfl | rfl | rfl | rfl | rfl | rfl | rfl | rfl | rfl | rfl | rfl | rfl | rfl | rfl | rfl
    · rfl
    · rfl
    · rfl
    · rfl
    · rfl
    · rfl
    · exact congrArg (oI G 5) (hc 7 (by decide) (by decide)).symm
    · exact congrArg (oI G 5) (hc 8 (by decide) (by decide)).symm
    · exact congrArg (oI G 5) (hc 9 (by decide) (by decide)).symm
    · exact congrArg (oI G 3) (hc 10 (by decide) (by decide)).symm
    · exact congrArg (oF G 5) hr.symm
    · exact congrArg (oI G 60) (hc 11 (by decide) (by decide)).symm
    · exact congrArg (oI G 60) (hc 12 (by decide) (by decide)).symm
    · exact congrArg (oI G 60) (hc 13 (by decide) (by decide)).symm
    · exact congrArg (oI G 60) (hc 15 (by decide) (by decide)).symm
    · exact congrArg (oI G 60) (hc 16 (by decide) (by decide)).symm
    · exact congrArg (oI G 60) (hc 17 (by decide) (by decide)).symm
    · exact congrArg (oI G 60) (hc 18 (by decide) (by decide)).symm
    · exact congrArg (oC G 60) (hc 14 (by decide) (by decide)).symm
  | 9, _ => rfl
  | 10, _ => rfl
  | 11, _ => rfl
  | k + 12, _ => rfl
end
/-! the lists of versions as the reference keeps them -/
def RD (μ : SG) (K A : Nat → Int32) (D : Nat → Nat → Nat → Int32) : Prop :=
  A 0 = 0 ∧ (∀ v, v < tn μ 3 → A (v + 1) = tT μ 5 v) ∧ (∀ v, v ≤ tn μ 3 → ∃ kc, kc ≤ 8 ∧ K v = nI kc ∧ ∀ k, k < 8 → (lastc (tT μ 0) (nI k) v = none ↔ kc ≤ k)) ∧
  (∀ v, v ≤ tn μ 3 → ∀ k, k < 8 → ∀ c, lastc (tT μ 0) (nI k) v = some c → D 0 v k = tT μ 1 c ∧ D 1 v k = tT μ 2 c ∧ D 2 v k = tT μ 3 c ∧ D 3 v k = tT μ 4 c) ∧ K (tn μ 3) = tT μ 22 1 ∧ (∀ v k, D 3 v k = 0 ∨ D 3 v k = 1) ∧ ∀ v, v ≤ tn μ 3 → ∀ k, k < 8 → lastc (tT μ 0) (nI k) v = none → D 3 v k = 0
abbrev RDr (ρ : RG) : Prop := RD (rM ρ) (rK ρ) (rA ρ) (rD ρ)
theorem lastc_none {f : Nat → Int32} {k : Int32} : ∀ {v : Nat}, (∀ c, c < v → f c ≠ k) → lastc f k v = none
  | 0, _ => rfl
  | v + 1, h => by
    unfold lastc
    rw [if_neg (h v (Nat.lt_succ_self _))]
    exact lastc_none (fun c hc => h c (Nat.lt_succ_of_lt hc))
theorem lastc_some {f : Nat → Int32} {k : Int32} {v c : Nat} (h : c < v) (e : f c = k) : lastc f k v ≠ none := by
  induction v with
  | zero => omega
  | succ v ih =>
    unfold lastc
    by_cases q : f v = k
    · rw [if_pos q]; exact fun z => by cases z
    · rw [if_neg q]
      exact ih (by
        rcases Nat.lt_succ_iff_lt_or_eq.mp h with a | a
        · exact a
        · rw [a] at e; exact absurd e q)
section
variable {μ : SG} {K A : Nat → Int32} {D : Nat → Nat → Nat → Int32}
/-- a key that the list of a version has not, or has -/
theorem RD.key (R : RD μ K A D) (I : IvK μ) {v : Nat} (hv : v ≤ tn μ 3) {k : Int32} (h0 : 0 ≤ k) : (K v ≤ k ∧ lastc (tT μ 0) k v = none) ∨ (¬ K v ≤ k ∧ ∃ c, lastc (tT μ 0) k v = some c ∧ vp_in k 8 ∧ D 0 v (ix k) = tT μ 1 c ∧ D 1 v (ix k) = tT μ 2 c ∧ D 2 v (ix k) = tT μ 3 c ∧ D 3 v (ix k) = tT μ 4 c) := by
  obtain ⟨j, hj, rfl⟩ := nI_of (Int32.not_lt.mpr h0)
  obtain ⟨kc, hk8, hK, hkk⟩ := R.2.2.1 v hv
  have ej : ix (nI j) = j := nI_clamp hj
  rw [hK, nI_leI (by omega) hj, ej]
  by_cases hlt : j < 8
  · cases hl : lastc (tT μ 0) (nI j) v with
    | none => exact Or.inl ⟨(hkk j hlt).mp hl, rfl⟩
    | some c =>
      refine Or.inr ⟨fun q => ?_, c, rfl, nI_in hlt (by decide), R.2.2.2.1 v hv j hlt c hl⟩
      rw [(hkk j hlt).mpr q] at hl
      cases hl
  · refine Or.inl ⟨by omega, lastc_none (fun c hc e => ?_)⟩
    obtain ⟨⟨kc2, h8, h9⟩, hin, -⟩ := I
    have := (hin c (by omega)).1
    rw [e, h9] at this
    obtain ⟨a, -⟩ := this.ix (by
      show ix (nI kc2) < 2 ^ 31
      have : ix (nI kc2) = kc2 := nI_clamp (by omega)
      omega)
    have e1 : ix (nI kc2) = kc2 := nI_clamp (by omega)
    rw [ej] at a
    omega
theorem RD.isKey (R : RD μ K A D) (I : IvK μ) {k : Int32} : (0 ≤ k ∧ k ≤ K (tn μ 3) - 1) ↔ hasK μ k := by
  obtain ⟨kc, hk8, hK, hkk⟩ := R.2.2.1 _ (Nat.le_refl _)
  have e1 : (nI kc - 1 : Int32).toInt = (kc : Int) - 1 := by
    rw [Int32.toInt_sub, nI_toInt (by omega)]
    show Int.bmod ((kc : Int) - 1) _ = _
    exact Int.bmod_eq_of_le (by omega) (by omega)
  constructor
  · intro ⟨h0, h1⟩
    rcases R.key I (Nat.le_refl _) h0 with ⟨q, -⟩ | ⟨-, c, hc, -⟩
    · rw [hK] at h1 q
      have a := Int32.le_iff_toInt_le.mp h1
      have b := Int32.le_iff_toInt_le.mp q
      rw [nI_toInt (by omega)] at b
      omega
    · exact (kS_of hc).1
  · intro hk
    have h0 : 0 ≤ k := by
      cases hl : lastc (tT μ 0) k (tn μ 3) with
      | none => exact absurd hl hk
      | some c =>
        obtain ⟨hc, he⟩ := lastc_lt hl
        obtain ⟨-, hin, -⟩ := I
        have := (hin c hc).1
        rw [he] at this
        exact Int32.not_lt.mp this.1
    refine ⟨h0, ?_⟩
    rcases R.key I (Nat.le_refl _) h0 with ⟨-, q⟩ | ⟨q, -⟩
    · exact absurd q hk
    · rw [hK] at q ⊢
      rw [Int32.le_iff_toInt_le, e1]
      have b : ¬ (nI kc).toInt ≤ k.toInt := fun z => q (Int32.le_iff_toInt_le.mpr z)
      rw [nI_toInt (by omega)] at b
      omega
end
