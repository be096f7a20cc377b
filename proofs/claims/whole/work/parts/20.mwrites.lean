/-! the reference's changes -/
theorem lastc_upd {f : Nat → Int32} {x k : Int32} : ∀ {v n : Nat}, v ≤ n → lastc (upd f n x) k v = lastc f k v
  | 0, _, _ => rfl
  | v + 1, n, h => by
    unfold lastc
    rw [lastc_upd (show v ≤ n by omega), show upd f n x v = f v from if_neg (by omega)]
theorem lastc_new {f : Nat → Int32} {x k : Int32} {n : Nat} : lastc (upd f n x) k (n + 1) = if x = k then some n else lastc f k n := by
  show (if upd f n x n = k then some n else lastc (upd f n x) k n) = _
  rw [lastc_upd (Nat.le_refl _), show upd f n x n = x from if_pos rfl]
/-- the lists of versions after one more change -/
theorem RD.push {μ μ' : SG} {K A K' A' : Nat → Int32} {D D' : Nat → Nat → Nat → Int32} {j kc' : Nat} {d f t r : Int32} (R : RD μ K A D) (hj : j < 8) (hn : tn μ' 3 = tn μ 3 + 1)
    (t0 : tT μ' 0 = upd (tT μ 0) (tn μ 3) (nI j)) (t1 : tT μ' 1 = upd (tT μ 1) (tn μ 3) d) (t2 : tT μ' 2 = upd (tT μ 2) (tn μ 3) f) (t3 : tT μ' 3 = upd (tT μ 3) (tn μ 3) t) (t4 : tT μ' 4 = upd (tT μ 4) (tn μ 3) r) (t5 : tT μ' 5 = upd (tT μ 5) (tn μ 3) (now μ))
    (hA : A' = upd A (tn μ 3 + 1) (now μ)) (hK : ∀ v, v ≤ tn μ 3 → K' v = K v) (hK1 : K' (tn μ 3 + 1) = nI kc') (hkc : kc' ≤ 8) (hkk : ∀ k, k < 8 → ((¬ k = j ∧ lastc (tT μ 0) (nI k) (tn μ 3) = none) ↔ kc' ≤ k)) (hkeys : tT μ' 22 1 = nI kc')
    (hD : ∀ c v k, v ≤ tn μ 3 → D' c v k = D c v k) (hD1 : ∀ c k, c < 4 → k < 8 → k ≠ j → D' c (tn μ 3 + 1) k = D c (tn μ 3) k) (hd0 : D' 0 (tn μ 3 + 1) j = d) (hd1 : D' 1 (tn μ 3 + 1) j = f) (hd2 : D' 2 (tn μ 3 + 1) j = t) (hd3 : D' 3 (tn μ 3 + 1) j = r) (hb : ∀ v k, D' 3 v k = 0 ∨ D' 3 v k = 1) : RD μ' K' A' D' := by
  obtain ⟨r0, r1, r2, r3, r4, r5, r6⟩ := R
  have old : ∀ {k : Int32} {v : Nat}, v ≤ tn μ 3 → lastc (tT μ' 0) k v = lastc (tT μ 0) k v := fun hv => by rw [t0]; exact lastc_upd hv
  have new : ∀ k, k < 8 → lastc (tT μ' 0) (nI k) (tn μ 3 + 1) = if k = j then some (tn μ 3) else lastc (tT μ 0) (nI k) (tn μ 3) := fun k hk => by
    rw [t0, lastc_new]
    by_cases e : k = j
    · rw [if_pos e, if_pos (by rw [e])]
    · rw [if_neg e, if_neg (fun q => e ((nI_eq (by omega) (by omega)).mp q).symm)]
  have up : ∀ {g : Nat → Int32} {x : Int32} {c : Nat}, c < tn μ 3 → upd g (tn μ 3) x c = g c := fun hc => if_neg (by omega)
  have at0 : ∀ {g : Nat → Int32} {x : Int32}, upd g (tn μ 3) x (tn μ 3) = x := if_pos rfl
  have cut : ∀ v, v ≤ tn μ' 3 → v ≤ tn μ 3 ∨ v = tn μ 3 + 1 := fun v hv => by omega
  refine ⟨?_, ?_, ?_, ?_, ?_, hb, ?_⟩
  · rw [hA]; exact (if_neg (by omega)).trans r0
  · intro v hv
    rw [hA, t5]
    by_cases e : v = tn μ 3
    · rw [e]; exact (if_pos rfl).trans at0.symm
    · rw [up (by omega)]
      exact (if_neg (by omega)).trans (r1 v (by omega))
  · intro v hv
    rcases cut v hv with hv | rfl
    · obtain ⟨kc, a, b, c⟩ := r2 v hv
      exact ⟨kc, a, by rw [hK v hv, b], fun k hk => by rw [old hv]; exact c k hk⟩
    · refine ⟨kc', hkc, hK1, fun k hk => ?_⟩
      rw [new k hk, ← hkk k hk]
      by_cases e : k = j
      · rw [if_pos e]
        exact ⟨fun q => (by cases q), fun q => absurd e q.1⟩
      · rw [if_neg e]
        exact ⟨fun q => ⟨e, q⟩, fun q => q.2⟩
  · intro v hv k hk c hc
    rcases cut v hv with hv | rfl
    · rw [old hv] at hc
      have hlt := (lastc_lt hc).1
      rw [hD _ _ _ hv, hD _ _ _ hv, hD _ _ _ hv, hD _ _ _ hv, t1, t2, t3, t4, up (by omega), up (by omega), up (by omega), up (by omega)]
      exact r3 v hv k hk c hc
    · rw [new k hk] at hc
      by_cases e : k = j
      · rw [if_pos e] at hc
        cases hc
        rw [e, hd0, hd1, hd2, hd3, t1, t2, t3, t4, at0, at0, at0, at0]
        exact ⟨rfl, rfl, rfl, rfl⟩
      · rw [if_neg e] at hc
        have hlt := (lastc_lt hc).1
        rw [hD1 0 k (by decide) hk e, hD1 1 k (by decide) hk e, hD1 2 k (by decide) hk e, hD1 3 k (by decide) hk e, t1, t2, t3, t4, up hlt, up hlt, up hlt, up hlt]
        exact r3 _ (Nat.le_refl _) k hk c hc
  · rw [hn, hK1, hkeys]
  · intro v hv k hk hc
    rcases cut v hv with hv | rfl
    · rw [old hv] at hc
      rw [hD _ _ _ hv]
      exact r6 v hv k hk hc
    · rw [new k hk] at hc
      by_cases e : k = j
      · rw [if_pos e] at hc; cases hc
      · rw [if_neg e] at hc
        rw [hD1 3 k (by decide) hk e]
        exact r6 _ (Nat.le_refl _) k hk hc
/-- row n copied into row n + 1, its first j columns -/
def dC (D : Nat → Nat → Nat → Int32) (n j : Nat) : Nat → Nat → Nat → Int32 := fun c v k => if c < 4 ∧ v = n + 1 ∧ k < j then D c n k else D c v k
theorem dC_n {D : Nat → Nat → Nat → Int32} {n j c k : Nat} : dC D n j c n k = D c n k := if_neg (fun q => absurd q.2.1 (by omega))
theorem uD_n {D : Nat → Nat → Nat → Int32} {c' k' n c k : Nat} {x : Int32} : uD D c' (n + 1) k' x c n k = D c n k := if_neg (fun q => absurd q.2.1 (by omega))
theorem dC_0 (D : Nat → Nat → Nat → Int32) (n : Nat) : dC D n 0 = D := by
  funext c v k
  exact if_neg (fun q => absurd q.2.2 (by omega))
theorem dC_s {D : Nat → Nat → Nat → Int32} {n j : Nat} : uD (uD (uD (uD (dC D n j) 0 (n + 1) j (D 0 n j)) 1 (n + 1) j (D 1 n j)) 2 (n + 1) j (D 2 n j)) 3 (n + 1) j (D 3 n j) = dC D n (j + 1) := by
  funext c v k
  unfold uD dC
  by_cases hv : v = n + 1
  · by_cases hk : k = j
    · subst hv hk
      by_cases c3 : c = 3
      · subst c3; simp
      · by_cases c2 : c = 2
        · subst c2; simp
        · by_cases c1 : c = 1
          · subst c1; simp
          · by_cases c0 : c = 0
            · subst c0; simp
            · have c4 : ¬ c < 4 := by omega
              simp [c3, c2, c1, c0, c4]
    · have e1 : k < j + 1 ↔ k < j := by omega
      simp [hk, e1]
  · simp [hv]
section
variable {G : GT} {X : XT} {nL uc us pc : Nat} {h : Hp} {L : List (Option Value)} {st : List Value} {loc loc' : Nat → Nat → Nat} {σ : SG} {ρ : RG}
theorem Zs.ti {x : Int32} (y : Int32) (e : x = y) (kk : Zs G X nL h uc us pc L (.int y :: st)) : Zs G X nL h uc us pc L (.int x :: st) := by rw [e]; exact kk
theorem vp_nar_b {x : Int32} (h : x = 0 ∨ x = 1) : vp_nar .boolean x = x := by rcases h with rfl | rfl <;> rfl
theorem k9_changes (hB : Base G) (P : PW G h loc σ ρ) (hv : tn (rM ρ) 3 < 50) (h3 : ∀ v k, rD ρ 3 v k = 0 ∨ rD ρ 3 v k = 1) (k d f t r : Int32) : Ct G mX9_changes 1 0 0 [.ref (loc 0 4)] h (fun o h' => PW G h' loc σ (rMu (rDs (rAs (rKs ρ (upd (rK ρ) (tn (rM ρ) 3 + 1) (rK ρ (tn (rM ρ) 3)))) (upd (rA ρ) (tn (rM ρ) 3 + 1) (now (rM ρ)))) (dC (rD ρ) (tn (rM ρ) 3) 8)) (sPush (rM ρ) k d f t r)) ∧ o = none) noX := by
  refine Ct.intro (m := 2) hB (by decide +kernel) (zb rfl) fun X C E => ?_
  have hV1 : (nI (tn (rM ρ) 3 + 1)).toNatClampNeg = tn (rM ρ) 3 + 1 := nI_clamp (by omega)
  have hV : (nI (tn (rM ρ) 3)).toNatClampNeg = tn (rM ρ) 3 := nI_clamp (by omega)
  have in1 : vp_in (nI (tn (rM ρ) 3 + 1)) 51 := nI_in (by omega) (by decide)
  have in0 : vp_in (nI (tn (rM ρ) 3)) 51 := nI_in (by omega) (by decide)
  have w1 : tn (rM ρ) 3 + 1 < 51 := by omega
  have w0 : tn (rM ρ) 3 < 51 := by omega
  refine z_aload_n C dX9_changes_0 rfl ?_
  refine z_getf C kcX9 flX9_77 (P.m) rfl dX9_changes_1 ?_
  refine z_iconst (v := 1) C dX9_changes_4 (by decide) ?_
  refine z_iadd C dX9_changes_5 ?_
  rw [nI_1]
  refine z_istore_n C dX9_changes_6 (zb rfl) ?_
  refine z_aload_n C dX9_changes_7 rfl ?_
  refine z_getf C kcX9 flX9_9 (P.m) rfl dX9_changes_8 ?_
  refine z_iload_n C dX9_changes_11 rfl ?_
  refine z_aload_n C dX9_changes_12 rfl ?_
  refine z_getf C kcX9 flX9_9 (P.m) rfl dX9_changes_13 ?_
  refine z_aload_n C dX9_changes_16 rfl ?_
  refine z_getf C kcX9 flX9_77 (P.m) rfl dX9_changes_17 ?_
  refine z_iald C (P.mK) (in0) dX9_changes_20 ?_
  rw [hV]
  refine z_iast C (P.mK) (in1) dX9_changes_21 ?_
  intro _ e8; subst e8
  rw [hV1]
  have P0 := P.sK (upd (rK ρ) (tn (rM ρ) 3 + 1) (rK ρ (tn (rM ρ) 3)))
  obtain ⟨K1, hK1⟩ : ∃ K1, K1 = upd (rK ρ) (tn (rM ρ) 3 + 1) (rK ρ (tn (rM ρ) 3)) := ⟨_, rfl⟩
  rw [← hK1] at P0 ⊢
  have P0 : PW G (hup h (loc 8 1) (oI G 51 K1)) loc σ (rDs (rKs ρ K1) (dC (rD ρ) (tn (rM ρ) 3) 0)) := by rw [dC_0]; exact P0
  refine z_iconst (v := 0) C dX9_changes_22 (by decide) ?_
  refine z_istore_n C dX9_changes_23 (zb rfl) ?_
  refine z_loop (I := fun j => ∀ h1, PW G h1 loc σ (rDs (rKs ρ K1) (dC (rD ρ) (tn (rM ρ) 3) j)) → Zs G X 3 h1 0 0 24 [some (.ref (loc 0 4)), some (.int (nI (tn (rM ρ) 3 + 1))), some (.int (nI j))] []) 8 (fun j hj ih => ?_) 0 (Nat.zero_le _) _ P0
  intro h1 P
  have h8 : (8 : Int32) = nI 8 := by decide
  refine z_iload_n C dX9_changes_24 rfl ?_
  refine z_bipush (v := 8) C dX9_changes_25 (by decide) ?_
  refine z_icmp_ge (tgt := 112) C dX9_changes_27 (by decide) (fun e1 => ?_) (fun e1 => ?_)
  · rw [h8] at e1
    have ej : j = 8 := i_top (by decide) hj e1
    subst ej
    subst hK1
    refine z_aload_n C dX9_changes_112 rfl ?_
    refine z_getf C kcX9 flX9_13 (P.m) rfl dX9_changes_113 ?_
    refine z_iload_n C dX9_changes_116 rfl ?_
    refine z_aload_n C dX9_changes_117 rfl ?_
    refine z_getf C kcX9 flX9_95 (P.m) rfl dX9_changes_118 ?_
    refine z_iast C (P.mA) (in1) dX9_changes_121 ?_
    intro _ e8; subst e8
    rw [hV1]
    have P1 := P.sA (upd (rA ρ) (tn (rM ρ) 3 + 1) (now (rM ρ)))
    refine z_aload_n C dX9_changes_122 rfl ?_
    refine z_iload_n C dX9_changes_123 rfl ?_
    refine z_putf C kcX9 flX9_77 (P1.m) rfl (rfl) (rfl) (zb rfl) dX9_changes_124 ?_
    intro _ e8; subst e8
    have P2 := P1.sVersion k d f t r
    exact z_vret C E dX9_changes_127 (⟨P2, rfl⟩) (zb rfl) (zb rfl)
  · rw [h8] at e1
    have ej : j < 8 := i_in (by decide) hj e1
    have ih := ih ej
    have inj : vp_in (nI j) 8 := nI_in ej (by decide)
    have hjc : (nI j).toNatClampNeg = j := nI_clamp (by omega)
    refine z_aload_n C dX9_changes_30 rfl ?_
    refine z_getf C kcX9 flX9_18 (P.m) rfl dX9_changes_31 ?_
    refine z_iload_n C dX9_changes_34 rfl ?_
    refine z_aaldA C rfl (P.mD0) (in1) dX9_changes_35 ?_
    refine z_iload_n C dX9_changes_36 rfl ?_
    refine z_aload_n C dX9_changes_37 rfl ?_
    refine z_getf C kcX9 flX9_18 (P.m) rfl dX9_changes_38 ?_
    refine z_aload_n C dX9_changes_41 rfl ?_
    refine z_getf C kcX9 flX9_77 (P.m) rfl dX9_changes_42 ?_
    refine z_aaldA C rfl (P.mD0) (in0) dX9_changes_45 ?_
    refine z_iload_n C dX9_changes_46 rfl ?_
    refine z_iald C (P.e0 w0) (inj) dX9_changes_47 ?_
    refine Zs.ti (rD ρ 0 (tn (rM ρ) 3) j) ((congrArg _ hjc).trans dC_n) ?_
    refine z_iast C (P.e0 w1) (inj) dX9_changes_48 ?_
    intro _ e8; subst e8
    rw [hV1, hjc]
    have P := P.sD0 w1 j (rD ρ 0 (tn (rM ρ) 3) j)
    refine z_aload_n C dX9_changes_49 rfl ?_
    refine z_getf C kcX9 flX9_21 (P.m) rfl dX9_changes_50 ?_
    refine z_iload_n C dX9_changes_53 rfl ?_
    refine z_aaldA C rfl (P.mD1) (in1) dX9_changes_54 ?_
    refine z_iload_n C dX9_changes_55 rfl ?_
    refine z_aload_n C dX9_changes_56 rfl ?_
    refine z_getf C kcX9 flX9_21 (P.m) rfl dX9_changes_57 ?_
    refine z_aload_n C dX9_changes_60 rfl ?_
    refine z_getf C kcX9 flX9_77 (P.m) rfl dX9_changes_61 ?_
    refine z_aaldA C rfl (P.mD1) (in0) dX9_changes_64 ?_
    refine z_iload_n C dX9_changes_65 rfl ?_
    refine z_iald C (P.e1 w0) (inj) dX9_changes_66 ?_
    have q1 : uD (dC (rD ρ) (tn (rM ρ) 3) j) 0 (tn (rM ρ) 3 + 1) j (rD ρ 0 (tn (rM ρ) 3) j) 1 (tn (rM ρ) 3) j = rD ρ 1 (tn (rM ρ) 3) j := uD_n.trans dC_n
    refine Zs.ti (rD ρ 1 (tn (rM ρ) 3) j) ((congrArg _ hjc).trans q1) ?_
    refine z_iast C (P.e1 w1) (inj) dX9_changes_67 ?_
    intro _ e8; subst e8
    rw [hV1, hjc]
    have P := P.sD1 w1 j (rD ρ 1 (tn (rM ρ) 3) j)
    refine z_aload_n C dX9_changes_68 rfl ?_
    refine z_getf C kcX9 flX9_24 (P.m) rfl dX9_changes_69 ?_
    refine z_iload_n C dX9_changes_72 rfl ?_
    refine z_aaldA C rfl (P.mD2) (in1) dX9_changes_73 ?_
    refine z_iload_n C dX9_changes_74 rfl ?_
    refine z_aload_n C dX9_changes_75 rfl ?_
    refine z_getf C kcX9 flX9_24 (P.m) rfl dX9_changes_76 ?_
    refine z_aload_n C dX9_changes_79 rfl ?_
    refine z_getf C kcX9 flX9_77 (P.m) rfl dX9_changes_80 ?_
    refine z_aaldA C rfl (P.mD2) (in0) dX9_changes_83 ?_
    refine z_iload_n C dX9_changes_84 rfl ?_
    refine z_iald C (P.e2 w0) (inj) dX9_changes_85 ?_
    have q2 : uD (uD (dC (rD ρ) (tn (rM ρ) 3) j) 0 (tn (rM ρ) 3 + 1) j (rD ρ 0 (tn (rM ρ) 3) j)) 1 (tn (rM ρ) 3 + 1) j (rD ρ 1 (tn (rM ρ) 3) j) 2 (tn (rM ρ) 3) j = rD ρ 2 (tn (rM ρ) 3) j := uD_n.trans (uD_n.trans dC_n)
    refine Zs.ti (rD ρ 2 (tn (rM ρ) 3) j) ((congrArg _ hjc).trans q2) ?_
    refine z_iast C (P.e2 w1) (inj) dX9_changes_86 ?_
    intro _ e8; subst e8
    rw [hV1, hjc]
    have P := P.sD2 w1 j (rD ρ 2 (tn (rM ρ) 3) j)
    refine z_aload_n C dX9_changes_87 rfl ?_
    refine z_getf C kcX9 flX9_29 (P.m) rfl dX9_changes_88 ?_
    refine z_iload_n C dX9_changes_91 rfl ?_
    refine z_aaldA C rfl (P.mD3) (in1) dX9_changes_92 ?_
    refine z_iload_n C dX9_changes_93 rfl ?_
    refine z_aload_n C dX9_changes_94 rfl ?_
    refine z_getf C kcX9 flX9_29 (P.m) rfl dX9_changes_95 ?_
    refine z_aload_n C dX9_changes_98 rfl ?_
    refine z_getf C kcX9 flX9_77 (P.m) rfl dX9_changes_99 ?_
    refine z_aaldA C rfl (P.mD3) (in0) dX9_changes_102 ?_
    refine z_iload_n C dX9_changes_103 rfl ?_
    refine z_zald C (P.e3 w0) (inj) dX9_changes_104 ?_
    have q3 : uD (uD (uD (dC (rD ρ) (tn (rM ρ) 3) j) 0 (tn (rM ρ) 3 + 1) j (rD ρ 0 (tn (rM ρ) 3) j)) 1 (tn (rM ρ) 3 + 1) j (rD ρ 1 (tn (rM ρ) 3) j)) 2 (tn (rM ρ) 3 + 1) j (rD ρ 2 (tn (rM ρ) 3) j) 3 (tn (rM ρ) 3) j = rD ρ 3 (tn (rM ρ) 3) j := uD_n.trans (uD_n.trans (uD_n.trans dC_n))
    refine Zs.ti (rD ρ 3 (tn (rM ρ) 3) j) ((congrArg _ hjc).trans q3) ?_
    refine z_zast C (P.e3 w1) (inj) dX9_changes_105 ?_
    intro _ e8; subst e8
    rw [hV1, hjc, vp_nar_b (h3 _ _)]
    have P := P.sD3 w1 j (rD ρ 3 (tn (rM ρ) 3) j)
    refine z_iinc _ C dX9_changes_106 rfl (nI_1 _) (zb rfl) ?_
    refine z_goto (tgt := 24) C dX9_changes_109 (by decide) ?_
    have eD : (rDs (rKs ρ K1) (dC (rD ρ) (tn (rM ρ) 3) (j + 1))) = rDs (rKs ρ K1) (uD (uD (uD (uD (dC (rD ρ) (tn (rM ρ) 3) j) 0 (tn (rM ρ) 3 + 1) j (rD ρ 0 (tn (rM ρ) 3) j)) 1 (tn (rM ρ) 3 + 1) j (rD ρ 1 (tn (rM ρ) 3) j)) 2 (tn (rM ρ) 3 + 1) j (rD ρ 2 (tn (rM ρ) 3) j)) 3 (tn (rM ρ) 3 + 1) j (rD ρ 3 (tn (rM ρ) 3) j)) := by rw [dC_s]
    rw [eD] at ih
    exact ih _ P

theorem sAddKey_eq (P : PW G h loc σ ρ) {μ : SG} {d f t : Int32} (e : rM ρ = sPush μ (tT μ 22 1) d f t 0) : PW G h loc σ (rMu ρ (sAddKey μ d f t)) := by
  refine P.muEq ?_ ?_ ?_ ?_ ?_ (fun c h1 h2 => ?_) ?_
  · rw [e]; rfl
  · rw [e]; rfl
  · rw [e]; rfl
  · rw [e]; rfl
  · rw [e]; rfl
  · rw [e]
    have h9 : c = 7 ∨ c = 8 ∨ c = 9 ∨ c = 10 ∨ c = 11 ∨ c = 12 ∨ c = 13 ∨ c = 14 ∨ c = 15 ∨ c = 16 ∨ c = 17 ∨ c = 18 := by omega
    rcases h9 with rfl | rfl | rfl | rfl | rfl | rfl | rfl | rfl | rfl | rfl | rfl | rfl <;> rfl
  · rw [e]; rfl
/-- what is so while a version is made -/
theorem key_kc {μ : SG} (I : Inv μ) : ∃ kc, kc ≤ 8 ∧ tT μ 22 1 = nI kc := I.K.1
def okAddKey (ρ : RG) (d f t : Int32) : RG := rMu (rKs (rDs (rDs (rDs (rMu (rDs (rAs (rKs (rTh ρ 0) (upd (rK ρ) (tn (rM ρ) 3 + 1) (rK ρ (tn (rM ρ) 3)))) (upd (rA ρ) (tn (rM ρ) 3 + 1) (now (rM ρ)))) (dC (rD ρ) (tn (rM ρ) 3) 8)) (sPush (rM ρ) (tT (rM ρ) 22 1) d f t 0)) (uD (dC (rD ρ) (tn (rM ρ) 3) 8) 0 (tn (rM ρ) 3 + 1) (ix (tT (rM ρ) 22 1)) d)) (uD (uD (dC (rD ρ) (tn (rM ρ) 3) 8) 0 (tn (rM ρ) 3 + 1) (ix (tT (rM ρ) 22 1)) d) 1 (tn (rM ρ) 3 + 1) (ix (tT (rM ρ) 22 1)) f)) (uD (uD (uD (dC (rD ρ) (tn (rM ρ) 3) 8) 0 (tn (rM ρ) 3 + 1) (ix (tT (rM ρ) 22 1)) d) 1 (tn (rM ρ) 3 + 1) (ix (tT (rM ρ) 22 1)) f) 2 (tn (rM ρ) 3 + 1) (ix (tT (rM ρ) 22 1)) t)) (upd (upd (rK ρ) (tn (rM ρ) 3 + 1) (rK ρ (tn (rM ρ) 3))) (tn (rM ρ) 3 + 1) (rK ρ (tn (rM ρ) 3) + 1))) (sAddKey (rM ρ) d f t)
theorem k9_addKey (hB : Base G) (P : PW G h loc σ ρ) (I : Inv (rM ρ)) (R : RDr ρ) {d f t : Int32} : Ct G mX9_addKey 4 0 0 [.ref (loc 0 4), .int d, .int f, .int t] h (mo Value.int G loc σ ρ (okAddKey ρ d f t) (cKey d f t) (cRoom (rM ρ)) True (tT (rM ρ) 22 1)) noX := by
  refine Ct.intro (m := 1) hB (by decide +kernel) (zb rfl) fun X C E => ?_
  have hn0 := I.N.1
  have hn1 := I.N.2.1
  have hn2 := I.N.2.2.1
  have hn3 := I.N.2.2.2
  obtain ⟨kc, hk8, hkc⟩ := key_kc I
  have hKn : rK ρ (tn (rM ρ) 3) = nI kc := by rw [← hkc]; exact R.2.2.2.2.1
  have hjx : ix (tT (rM ρ) 22 1) = kc := by rw [hkc]; exact nI_clamp (by omega)
  have hjc : (nI kc).toNatClampNeg = kc := nI_clamp (by omega)
  have hV : (nI (tn (rM ρ) 3)).toNatClampNeg = (tn (rM ρ) 3) := nI_clamp (by omega)
  have hV1 : (nI (tn (rM ρ) 3 + 1)).toNatClampNeg = (tn (rM ρ) 3 + 1) := nI_clamp (by omega)
  have in0 : vp_in (nI (tn (rM ρ) 3)) 51 := nI_in (by omega) (by decide)
  have h8 : (8 : Int32) = nI 8 := by decide
  have h50 : (50 : Int32) = nI 50 := by decide
  have hPb := P
  refine z_aload_n C dX9_addKey_0 rfl ?_
  refine z_iconst (v := 0) C dX9_addKey_1 (by decide) ?_
  refine z_putf C kcX9 flX9_73 (P.m) rfl (rfl) (rfl) (zb rfl) dX9_addKey_2 ?_
  intro _ e8; subst e8
  have P := P.sTh 0
  refine z_iload_n C dX9_addKey_5 rfl ?_
  refine z_iconst (v := 0) C dX9_addKey_6 (by decide) ?_
  refine z_bipush (v := 31) C dX9_addKey_7 (by decide) ?_
  refine z_rb (z_runS C ksX9_isBetween lkX9_80 (k9_isBetween hB) rfl rfl (zb rfl) (zb rfl) (zb rfl) (zb rfl) dX9_addKey_9) (fun c1 => ?_) (fun c1 => ?_)
  · refine z_if_eq (tgt := 23) C dX9_addKey_12 (by decide) (fun e9 => absurd e9 ((show ¬ (1 : Int32) = 0 by decide))) (fun _ => ?_)
    refine z_iload_n C dX9_addKey_15 rfl ?_
    refine z_iload_n C dX9_addKey_16 rfl ?_
    refine z_rb (z_runS C ksX9_areTimes lkX9_98 (k9_areTimes hB) rfl rfl (zb rfl) (zb rfl) (zb rfl) (zb rfl) dX9_addKey_17) (fun c2 => ?_) (fun c2 => ?_)
    · refine z_if_ne (tgt := 29) C dX9_addKey_20 (by decide) (fun _ => ?_) (fun e9 => absurd e9 ((show ¬ (1 : Int32) = 0 by decide)))
      refine z_aload_n C dX9_addKey_29 rfl ?_
      refine z_getf C kcX9 flX9_9 (P.m) rfl dX9_addKey_30 ?_
      refine z_aload_n C dX9_addKey_33 rfl ?_
      refine z_getf C kcX9 flX9_77 (P.m) rfl dX9_addKey_34 ?_
      refine z_iald C (P.mK) (in0) dX9_addKey_37 ?_
      refine Zs.ti (nI kc) ((congrArg (rK ρ) hV).trans hKn) ?_
      refine z_bipush (v := 8) C dX9_addKey_38 (by decide) ?_
      refine z_icmp_eq (tgt := 52) C dX9_addKey_40 (by decide) (fun e3 => ?_) (fun e3 => ?_)
      · rw [h8] at e3
        have e4 := (nI_eq (by omega) (by omega)).mp e3
        refine z_aload_n C dX9_addKey_52 rfl ?_
        refine z_iconst (v := 2) C dX9_addKey_53 (by decide) ?_
        refine z_rn (z_runV C kvX9_fails lkX9_102 kcX9 (k9_fails hB P) (P.m) rfl rfl (zb rfl) (zb rfl) (zb rfl) (zb rfl) dX9_addKey_54) (fun v9 h9 hv => ?_)
        obtain ⟨P, rfl⟩ := hv
        exact z_iret C E dX9_addKey_57 (Or.inr ⟨2, _, Or.inr (Or.inr (Or.inl ⟨⟨c1, c2⟩, fun q => by have q1 := q.1; rw [hkc, e4] at q1; exact absurd q1 (by decide), rfl⟩)), by decide, P, rfl⟩) (zb rfl) (zb rfl)
      · rw [h8] at e3
        have e4 : kc < 8 := by
          rcases Nat.lt_or_ge kc 8 with z | z
          · exact z
          · exact absurd (congrArg nI (show kc = 8 by omega)) e3
        refine z_aload_n C dX9_addKey_43 rfl ?_
        refine z_getf C kcX9 flX9_77 (P.m) rfl dX9_addKey_44 ?_
        refine Zs.ti (nI (tn (rM ρ) 3)) rfl ?_
        refine z_bipush (v := 50) C dX9_addKey_47 (by decide) ?_
        refine z_icmp_ne (tgt := 58) C dX9_addKey_49 (by decide) (fun e5 => ?_) (fun e5 => ?_)
        · rw [h50] at e5
          have hv : (tn (rM ρ) 3) < 50 := by
            rcases Nat.lt_or_ge (tn (rM ρ) 3) 50 with z | z
            · exact z
            · exact absurd (congrArg nI (show (tn (rM ρ) 3) = 50 by omega)) e5
          have in1 : vp_in (nI (tn (rM ρ) 3 + 1)) 51 := nI_in (by omega) (by decide)
          have w1 : (tn (rM ρ) 3 + 1) < 51 := by omega
          have inj : vp_in (nI kc) 8 := nI_in e4 (by decide)
          have cr : cRoom (rM ρ) := ⟨by rw [hkc, h8]; exact nI_lt e4 (by decide), hv⟩
          refine z_aload_n C dX9_addKey_58 rfl ?_
          refine z_rn (z_runV C kvX9_changes lkX9_106 kcX9 (k9_changes hB P hv (fun v k => R.2.2.2.2.2.1 v k) (tT (rM ρ) 22 1) d f t 0) (P.m) rfl rfl (zb rfl) (zb rfl) (zb rfl) (zb rfl) dX9_addKey_59) (fun v9 h9 hv => ?_)
          obtain ⟨P, rfl⟩ := hv
          refine z_aload_n C dX9_addKey_62 rfl ?_
          refine z_getf C kcX9 flX9_9 (P.m) rfl dX9_addKey_63 ?_
          refine z_aload_n C dX9_addKey_66 rfl ?_
          refine z_getf C kcX9 flX9_77 (P.m) rfl dX9_addKey_67 ?_
          refine Zs.ti (nI (tn (rM ρ) 3 + 1)) rfl ?_
          refine z_iald C (P.mK) (in1) dX9_addKey_70 ?_
          refine Zs.ti (nI kc) ((congrArg (upd (rK ρ) (tn (rM ρ) 3 + 1) (rK ρ (tn (rM ρ) 3))) hV1).trans ((if_pos rfl).trans hKn)) ?_
          refine z_istore C dX9_addKey_71 (zb rfl) ?_
          refine z_aload_n C dX9_addKey_73 rfl ?_
          refine z_getf C kcX9 flX9_18 (P.m) rfl dX9_addKey_74 ?_
          refine z_aload_n C dX9_addKey_77 rfl ?_
          refine z_getf C kcX9 flX9_77 (P.m) rfl dX9_addKey_78 ?_
          refine Zs.ti (nI (tn (rM ρ) 3 + 1)) rfl ?_
          refine z_aaldA C rfl (P.mD0) (in1) dX9_addKey_81 ?_
          refine z_iload C dX9_addKey_82 rfl ?_
          refine z_iload_n C dX9_addKey_84 rfl ?_
          refine z_iast C (P.e0 w1) (inj) dX9_addKey_85 ?_
          intro _ e8; subst e8
          rw [hV1, hjc]
          have P := P.sD0 w1 kc d
          refine z_aload_n C dX9_addKey_86 rfl ?_
          refine z_getf C kcX9 flX9_21 (P.m) rfl dX9_addKey_87 ?_
          refine z_aload_n C dX9_addKey_90 rfl ?_
          refine z_getf C kcX9 flX9_77 (P.m) rfl dX9_addKey_91 ?_
          refine Zs.ti (nI (tn (rM ρ) 3 + 1)) rfl ?_
          refine z_aaldA C rfl (P.mD1) (in1) dX9_addKey_94 ?_
          refine z_iload C dX9_addKey_95 rfl ?_
          refine z_iload_n C dX9_addKey_97 rfl ?_
          refine z_iast C (P.e1 w1) (inj) dX9_addKey_98 ?_
          intro _ e8; subst e8
          rw [hV1, hjc]
          have P := P.sD1 w1 kc f
          refine z_aload_n C dX9_addKey_99 rfl ?_
          refine z_getf C kcX9 flX9_24 (P.m) rfl dX9_addKey_100 ?_
          refine z_aload_n C dX9_addKey_103 rfl ?_
          refine z_getf C kcX9 flX9_77 (P.m) rfl dX9_addKey_104 ?_
          refine Zs.ti (nI (tn (rM ρ) 3 + 1)) rfl ?_
          refine z_aaldA C rfl (P.mD2) (in1) dX9_addKey_107 ?_
          refine z_iload C dX9_addKey_108 rfl ?_
          refine z_iload_n C dX9_addKey_110 rfl ?_
          refine z_iast C (P.e2 w1) (inj) dX9_addKey_111 ?_
          intro _ e8; subst e8
          rw [hV1, hjc]
          have P := P.sD2 w1 kc t
          refine z_aload_n C dX9_addKey_112 rfl ?_
          refine z_getf C kcX9 flX9_9 (P.m) rfl dX9_addKey_113 ?_
          refine z_aload_n C dX9_addKey_116 rfl ?_
          refine z_getf C kcX9 flX9_77 (P.m) rfl dX9_addKey_117 ?_
          refine Zs.ti (nI (tn (rM ρ) 3 + 1)) rfl ?_
          refine z_dup2 C dX9_addKey_120 rfl rfl ?_
          refine z_iald C (P.mK) (in1) dX9_addKey_121 ?_
          refine Zs.ti (rK ρ (tn (rM ρ) 3)) ((congrArg (upd (rK ρ) (tn (rM ρ) 3 + 1) (rK ρ (tn (rM ρ) 3))) hV1).trans (if_pos rfl)) ?_
          refine z_iconst (v := 1) C dX9_addKey_122 (by decide) ?_
          refine z_iadd C dX9_addKey_123 ?_
          refine z_iast C (P.mK) (in1) dX9_addKey_124 ?_
          intro _ e8; subst e8
          rw [hV1]
          have P := P.sK (upd (upd (rK ρ) (tn (rM ρ) 3 + 1) (rK ρ (tn (rM ρ) 3))) (tn (rM ρ) 3 + 1) (rK ρ (tn (rM ρ) 3) + 1))
          have P := sAddKey_eq P (μ := (rM ρ)) (d := d) (f := f) (t := t) rfl
          refine z_iload C dX9_addKey_125 rfl ?_
          exact z_iret C E dX9_addKey_127 (Or.inl ⟨⟨c1, c2⟩, cr, trivial, by unfold okAddKey; rw [hjx]; exact P, by rw [hkc]⟩) (zb rfl) (zb rfl)
        · rw [h50] at e5
          have e6 := (nI_eq (by omega) (by omega)).mp e5
          refine z_aload_n C dX9_addKey_52 rfl ?_
          refine z_iconst (v := 2) C dX9_addKey_53 (by decide) ?_
          refine z_rn (z_runV C kvX9_fails lkX9_102 kcX9 (k9_fails hB P) (P.m) rfl rfl (zb rfl) (zb rfl) (zb rfl) (zb rfl) dX9_addKey_54) (fun v9 h9 hv => ?_)
          obtain ⟨P, rfl⟩ := hv
          exact z_iret C E dX9_addKey_57 (Or.inr ⟨2, _, Or.inr (Or.inr (Or.inl ⟨⟨c1, c2⟩, fun q => absurd q.2 (by omega), rfl⟩)), by decide, P, rfl⟩) (zb rfl) (zb rfl)
    · refine z_if_ne (tgt := 29) C dX9_addKey_20 (by decide) (fun e9 => absurd e9 ((fun e => e rfl))) (fun _ => ?_)
      refine z_aload_n C dX9_addKey_23 rfl ?_
      refine z_iconst (v := 1) C dX9_addKey_24 (by decide) ?_
      refine z_rn (z_runV C kvX9_fails lkX9_102 kcX9 (k9_fails hB P) (P.m) rfl rfl (zb rfl) (zb rfl) (zb rfl) (zb rfl) dX9_addKey_25) (fun v9 h9 hv => ?_)
      obtain ⟨P, rfl⟩ := hv
      exact z_iret C E dX9_addKey_28 (Or.inr ⟨1, _, Or.inr (Or.inl ⟨fun q => c2 q.2, rfl⟩), by decide, P, rfl⟩) (zb rfl) (zb rfl)
  · refine z_if_eq (tgt := 23) C dX9_addKey_12 (by decide) (fun _ => ?_) (fun e9 => absurd e9 ((fun e => e rfl)))
    refine z_aload_n C dX9_addKey_23 rfl ?_
    refine z_iconst (v := 1) C dX9_addKey_24 (by decide) ?_
    refine z_rn (z_runV C kvX9_fails lkX9_102 kcX9 (k9_fails hB P) (P.m) rfl rfl (zb rfl) (zb rfl) (zb rfl) (zb rfl) dX9_addKey_25) (fun v9 h9 hv => ?_)
    obtain ⟨P, rfl⟩ := hv
    exact z_iret C E dX9_addKey_28 (Or.inr ⟨1, _, Or.inr (Or.inl ⟨fun q => c1 q.1, rfl⟩), by decide, P, rfl⟩) (zb rfl) (zb rfl)
def okSetTimes (ρ : RG) (key f t : Int32) : RG := (rDs (rDs (rMu (rDs (rAs (rKs (rTh ρ 0) (upd (rK ρ) (tn (rM ρ) 3 + 1) (rK ρ (tn (rM ρ) 3)))) (upd (rA ρ) (tn (rM ρ) 3 + 1) (now (rM ρ)))) (dC (rD ρ) (tn (rM ρ) 3) 8)) (sPush (rM ρ) key (tT (rM ρ) 1 (kS (rM ρ) key)) f t 0)) (uD (dC (rD ρ) (tn (rM ρ) 3) 8) 1 (tn (rM ρ) 3 + 1) (ix key) f)) (uD (uD (dC (rD ρ) (tn (rM ρ) 3) 8) 1 (tn (rM ρ) 3 + 1) (ix key) f) 2 (tn (rM ρ) 3 + 1) (ix key) t))
def okSetDoors (ρ : RG) (key d : Int32) : RG := (rDs (rMu (rDs (rAs (rKs (rTh ρ 0) (upd (rK ρ) (tn (rM ρ) 3 + 1) (rK ρ (tn (rM ρ) 3)))) (upd (rA ρ) (tn (rM ρ) 3 + 1) (now (rM ρ)))) (dC (rD ρ) (tn (rM ρ) 3) 8)) (sPush (rM ρ) key d (tT (rM ρ) 2 (kS (rM ρ) key)) (tT (rM ρ) 3 (kS (rM ρ) key)) 0)) (uD (dC (rD ρ) (tn (rM ρ) 3) 8) 0 (tn (rM ρ) 3 + 1) (ix key) d))
def okRevoke (ρ : RG) (key : Int32) : RG := (rDs (rMu (rDs (rAs (rKs (rTh ρ 0) (upd (rK ρ) (tn (rM ρ) 3 + 1) (rK ρ (tn (rM ρ) 3)))) (upd (rA ρ) (tn (rM ρ) 3 + 1) (now (rM ρ)))) (dC (rD ρ) (tn (rM ρ) 3) 8)) (sPush (rM ρ) key (tT (rM ρ) 1 (kS (rM ρ) key)) (tT (rM ρ) 2 (kS (rM ρ) key)) (tT (rM ρ) 3 (kS (rM ρ) key)) 1)) (uD (dC (rD ρ) (tn (rM ρ) 3) 8) 3 (tn (rM ρ) 3 + 1) (ix key) 1))
theorem k9_setTimes (hB : Base G) (P : PW G h loc σ ρ) (I : Inv (rM ρ)) (R : RDr ρ) {key f t : Int32} : Ct G mX9_setTimes 4 0 0 [.ref (loc 0 4), .int key, .int f, .int t] h (mo Value.int G loc σ ρ (okSetTimes ρ key f t) (hasK (rM ρ) key) (okTimes f t) (cNR (rM ρ) key) (nI (tn (rM ρ) 3 + 1))) noX := by
  refine Ct.intro (m := 0) hB (by decide +kernel) (zb rfl) fun X C E => ?_
  have hn0 := I.N.1
  have hn1 := I.N.2.1
  have hn2 := I.N.2.2.1
  have hn3 := I.N.2.2.2
  have hV1 : (nI (tn (rM ρ) 3 + 1)).toNatClampNeg = (tn (rM ρ) 3 + 1) := nI_clamp (by omega)
  refine z_aload_n C dX9_setTimes_0 rfl ?_
  refine z_iconst (v := 0) C dX9_setTimes_1 (by decide) ?_
  refine z_putf C kcX9 flX9_73 (P.m) rfl (rfl) (rfl) (zb rfl) dX9_setTimes_2 ?_
  intro _ e8; subst e8
  have P := P.sTh 0
  refine z_aload_n C dX9_setTimes_5 rfl ?_
  refine z_iload_n C dX9_setTimes_6 rfl ?_
  refine z_rb (z_runV C kvX9_isKey lkX9_109 kcX9 (k9_isKey hB P I R) (P.m) rfl rfl (zb rfl) (zb rfl) (zb rfl) (zb rfl) dX9_setTimes_7) (fun c1 => ?_) (fun c1 => ?_)
  · refine z_if_ne (tgt := 19) C dX9_setTimes_10 (by decide) (fun _ => ?_) (fun e9 => absurd e9 ((show ¬ (1 : Int32) = 0 by decide)))
    refine z_iload_n C dX9_setTimes_19 rfl ?_
    refine z_iload_n C dX9_setTimes_20 rfl ?_
    refine z_rb (z_runS C ksX9_areTimes lkX9_98 (k9_areTimes hB) rfl rfl (zb rfl) (zb rfl) (zb rfl) (zb rfl) dX9_setTimes_21) (fun c2 => ?_) (fun c2 => ?_)
    · refine z_if_ne (tgt := 33) C dX9_setTimes_24 (by decide) (fun _ => ?_) (fun e9 => absurd e9 ((show ¬ (1 : Int32) = 0 by decide)))
      refine z_aload_n C dX9_setTimes_33 rfl ?_
      refine z_iload_n C dX9_setTimes_34 rfl ?_
      refine z_rb (z_runV C kvX9_isStuck lkX9_113 kcX9 (k9_isStuck hB P I R c1) (P.m) rfl rfl (zb rfl) (zb rfl) (zb rfl) (zb rfl) dX9_setTimes_35) (fun c3 => ?_) (fun c3 => ?_)
      · refine z_if_eq (tgt := 47) C dX9_setTimes_38 (by decide) (fun e9 => absurd e9 ((show ¬ (1 : Int32) = 0 by decide))) (fun _ => ?_)
        refine z_aload_n C dX9_setTimes_41 rfl ?_
        refine z_iconst (v := 3) C dX9_setTimes_42 (by decide) ?_
        refine z_rn (z_runV C kvX9_fails lkX9_102 kcX9 (k9_fails hB P) (P.m) rfl rfl (zb rfl) (zb rfl) (zb rfl) (zb rfl) dX9_setTimes_43) (fun v9 h9 hv => ?_)
        obtain ⟨P, rfl⟩ := hv
        exact z_iret C E dX9_setTimes_46 (Or.inr ⟨3, _, Or.inr (Or.inr (Or.inr ⟨c1, c2, c3, rfl⟩)), by decide, P, rfl⟩) (zb rfl) (zb rfl)
      · have c3 := Classical.not_not.mp c3
        have hv : (tn (rM ρ) 3) < 50 := c3.2
        have in1 : vp_in (nI (tn (rM ρ) 3 + 1)) 51 := nI_in (by omega) (by decide)
        have w1 : (tn (rM ρ) 3 + 1) < 51 := by omega
        have inj : vp_in key 8 := by
          rcases R.key I.K (Nat.le_refl _) ((R.isKey I.K).mpr c1).1 with ⟨-, q⟩ | ⟨-, _, -, hin, -⟩
          · exact absurd q c1
          · exact hin
        refine z_if_eq (tgt := 47) C dX9_setTimes_38 (by decide) (fun _ => ?_) (fun e9 => absurd e9 ((fun e => e rfl)))
        refine z_aload_n C dX9_setTimes_47 rfl ?_
        refine z_rn (z_runV C kvX9_changes lkX9_106 kcX9 (k9_changes hB P hv (fun v k => R.2.2.2.2.2.1 v k) key (tT (rM ρ) 1 (kS (rM ρ) key)) f t 0) (P.m) rfl rfl (zb rfl) (zb rfl) (zb rfl) (zb rfl) dX9_setTimes_48) (fun v9 h9 hv => ?_)
        obtain ⟨P, rfl⟩ := hv
        refine z_aload_n C dX9_setTimes_51 rfl ?_
        refine z_getf C kcX9 flX9_21 (P.m) rfl dX9_setTimes_52 ?_
        refine z_aload_n C dX9_setTimes_55 rfl ?_
        refine z_getf C kcX9 flX9_77 (P.m) rfl dX9_setTimes_56 ?_
        refine Zs.ti (nI (tn (rM ρ) 3 + 1)) rfl ?_
        refine z_aaldA C rfl (P.mD1) (in1) dX9_setTimes_59 ?_
        refine z_iload_n C dX9_setTimes_60 rfl ?_
        refine z_iload_n C dX9_setTimes_61 rfl ?_
        refine z_iast C (P.e1 w1) (inj) dX9_setTimes_62 ?_
        intro _ e8; subst e8
        rw [hV1]
        have P := P.sD1 w1 (ix key) f
        refine z_aload_n C dX9_setTimes_63 rfl ?_
        refine z_getf C kcX9 flX9_24 (P.m) rfl dX9_setTimes_64 ?_
        refine z_aload_n C dX9_setTimes_67 rfl ?_
        refine z_getf C kcX9 flX9_77 (P.m) rfl dX9_setTimes_68 ?_
        refine Zs.ti (nI (tn (rM ρ) 3 + 1)) rfl ?_
        refine z_aaldA C rfl (P.mD2) (in1) dX9_setTimes_71 ?_
        refine z_iload_n C dX9_setTimes_72 rfl ?_
        refine z_iload_n C dX9_setTimes_73 rfl ?_
        refine z_iast C (P.e2 w1) (inj) dX9_setTimes_74 ?_
        intro _ e8; subst e8
        rw [hV1]
        have P := P.sD2 w1 (ix key) t
        refine z_aload_n C dX9_setTimes_75 rfl ?_
        refine z_getf C kcX9 flX9_77 (P.m) rfl dX9_setTimes_76 ?_
        refine Zs.ti (nI (tn (rM ρ) 3 + 1)) rfl ?_
        exact z_iret C E dX9_setTimes_79 (Or.inl ⟨c1, c2, c3, P, rfl⟩) (zb rfl) (zb rfl)
    · refine z_if_ne (tgt := 33) C dX9_setTimes_24 (by decide) (fun e9 => absurd e9 ((fun e => e rfl))) (fun _ => ?_)
      refine z_aload_n C dX9_setTimes_27 rfl ?_
      refine z_iconst (v := 2) C dX9_setTimes_28 (by decide) ?_
      refine z_rn (z_runV C kvX9_fails lkX9_102 kcX9 (k9_fails hB P) (P.m) rfl rfl (zb rfl) (zb rfl) (zb rfl) (zb rfl) dX9_setTimes_29) (fun v9 h9 hv => ?_)
      obtain ⟨P, rfl⟩ := hv
      exact z_iret C E dX9_setTimes_32 (Or.inr ⟨2, _, Or.inr (Or.inr (Or.inl ⟨c1, c2, rfl⟩)), by decide, P, rfl⟩) (zb rfl) (zb rfl)
  · refine z_if_ne (tgt := 19) C dX9_setTimes_10 (by decide) (fun e9 => absurd e9 ((fun e => e rfl))) (fun _ => ?_)
    refine z_aload_n C dX9_setTimes_13 rfl ?_
    refine z_iconst (v := 1) C dX9_setTimes_14 (by decide) ?_
    refine z_rn (z_runV C kvX9_fails lkX9_102 kcX9 (k9_fails hB P) (P.m) rfl rfl (zb rfl) (zb rfl) (zb rfl) (zb rfl) dX9_setTimes_15) (fun v9 h9 hv => ?_)
    obtain ⟨P, rfl⟩ := hv
    exact z_iret C E dX9_setTimes_18 (Or.inr ⟨1, _, Or.inr (Or.inl ⟨c1, rfl⟩), by decide, P, rfl⟩) (zb rfl) (zb rfl)
theorem k9_setDoors (hB : Base G) (P : PW G h loc σ ρ) (I : Inv (rM ρ)) (R : RDr ρ) {key d : Int32} : Ct G mX9_setDoors 4 0 0 [.ref (loc 0 4), .int key, .int d] h (mo Value.int G loc σ ρ (okSetDoors ρ key d) (hasK (rM ρ) key) (okSet d) (cNR (rM ρ) key) (nI (tn (rM ρ) 3 + 1))) noX := by
  refine Ct.intro (m := 0) hB (by decide +kernel) (zb rfl) fun X C E => ?_
  have hn0 := I.N.1
  have hn1 := I.N.2.1
  have hn2 := I.N.2.2.1
  have hn3 := I.N.2.2.2
  have hV1 : (nI (tn (rM ρ) 3 + 1)).toNatClampNeg = (tn (rM ρ) 3 + 1) := nI_clamp (by omega)
  refine z_aload_n C dX9_setDoors_0 rfl ?_
  refine z_iconst (v := 0) C dX9_setDoors_1 (by decide) ?_
  refine z_putf C kcX9 flX9_73 (P.m) rfl (rfl) (rfl) (zb rfl) dX9_setDoors_2 ?_
  intro _ e8; subst e8
  have P := P.sTh 0
  refine z_aload_n C dX9_setDoors_5 rfl ?_
  refine z_iload_n C dX9_setDoors_6 rfl ?_
  refine z_rb (z_runV C kvX9_isKey lkX9_109 kcX9 (k9_isKey hB P I R) (P.m) rfl rfl (zb rfl) (zb rfl) (zb rfl) (zb rfl) dX9_setDoors_7) (fun c1 => ?_) (fun c1 => ?_)
  · refine z_if_ne (tgt := 19) C dX9_setDoors_10 (by decide) (fun _ => ?_) (fun e9 => absurd e9 ((show ¬ (1 : Int32) = 0 by decide)))
    refine z_iload_n C dX9_setDoors_19 rfl ?_
    refine z_iconst (v := 0) C dX9_setDoors_20 (by decide) ?_
    refine z_bipush (v := 31) C dX9_setDoors_21 (by decide) ?_
    refine z_rb (z_runS C ksX9_isBetween lkX9_80 (k9_isBetween hB) rfl rfl (zb rfl) (zb rfl) (zb rfl) (zb rfl) dX9_setDoors_23) (fun c2 => ?_) (fun c2 => ?_)
    · refine z_if_ne (tgt := 35) C dX9_setDoors_26 (by decide) (fun _ => ?_) (fun e9 => absurd e9 ((show ¬ (1 : Int32) = 0 by decide)))
      refine z_aload_n C dX9_setDoors_35 rfl ?_
      refine z_iload_n C dX9_setDoors_36 rfl ?_
      refine z_rb (z_runV C kvX9_isStuck lkX9_113 kcX9 (k9_isStuck hB P I R c1) (P.m) rfl rfl (zb rfl) (zb rfl) (zb rfl) (zb rfl) dX9_setDoors_37) (fun c3 => ?_) (fun c3 => ?_)
      · refine z_if_eq (tgt := 49) C dX9_setDoors_40 (by decide) (fun e9 => absurd e9 ((show ¬ (1 : Int32) = 0 by decide))) (fun _ => ?_)
        refine z_aload_n C dX9_setDoors_43 rfl ?_
        refine z_iconst (v := 3) C dX9_setDoors_44 (by decide) ?_
        refine z_rn (z_runV C kvX9_fails lkX9_102 kcX9 (k9_fails hB P) (P.m) rfl rfl (zb rfl) (zb rfl) (zb rfl) (zb rfl) dX9_setDoors_45) (fun v9 h9 hv => ?_)
        obtain ⟨P, rfl⟩ := hv
        exact z_iret C E dX9_setDoors_48 (Or.inr ⟨3, _, Or.inr (Or.inr (Or.inr ⟨c1, c2, c3, rfl⟩)), by decide, P, rfl⟩) (zb rfl) (zb rfl)
      · have c3 := Classical.not_not.mp c3
        have hv : (tn (rM ρ) 3) < 50 := c3.2
        have in1 : vp_in (nI (tn (rM ρ) 3 + 1)) 51 := nI_in (by omega) (by decide)
        have w1 : (tn (rM ρ) 3 + 1) < 51 := by omega
        have inj : vp_in key 8 := by
          rcases R.key I.K (Nat.le_refl _) ((R.isKey I.K).mpr c1).1 with ⟨-, q⟩ | ⟨-, _, -, hin, -⟩
          · exact absurd q c1
          · exact hin
        refine z_if_eq (tgt := 49) C dX9_setDoors_40 (by decide) (fun _ => ?_) (fun e9 => absurd e9 ((fun e => e rfl)))
        refine z_aload_n C dX9_setDoors_49 rfl ?_
        refine z_rn (z_runV C kvX9_changes lkX9_106 kcX9 (k9_changes hB P hv (fun v k => R.2.2.2.2.2.1 v k) key d (tT (rM ρ) 2 (kS (rM ρ) key)) (tT (rM ρ) 3 (kS (rM ρ) key)) 0) (P.m) rfl rfl (zb rfl) (zb rfl) (zb rfl) (zb rfl) dX9_setDoors_50) (fun v9 h9 hv => ?_)
        obtain ⟨P, rfl⟩ := hv
        refine z_aload_n C dX9_setDoors_53 rfl ?_
        refine z_getf C kcX9 flX9_18 (P.m) rfl dX9_setDoors_54 ?_
        refine z_aload_n C dX9_setDoors_57 rfl ?_
        refine z_getf C kcX9 flX9_77 (P.m) rfl dX9_setDoors_58 ?_
        refine Zs.ti (nI (tn (rM ρ) 3 + 1)) rfl ?_
        refine z_aaldA C rfl (P.mD0) (in1) dX9_setDoors_61 ?_
        refine z_iload_n C dX9_setDoors_62 rfl ?_
        refine z_iload_n C dX9_setDoors_63 rfl ?_
        refine z_iast C (P.e0 w1) (inj) dX9_setDoors_64 ?_
        intro _ e8; subst e8
        rw [hV1]
        have P := P.sD0 w1 (ix key) d
        refine z_aload_n C dX9_setDoors_65 rfl ?_
        refine z_getf C kcX9 flX9_77 (P.m) rfl dX9_setDoors_66 ?_
        refine Zs.ti (nI (tn (rM ρ) 3 + 1)) rfl ?_
        exact z_iret C E dX9_setDoors_69 (Or.inl ⟨c1, c2, c3, P, rfl⟩) (zb rfl) (zb rfl)
    · refine z_if_ne (tgt := 35) C dX9_setDoors_26 (by decide) (fun e9 => absurd e9 ((fun e => e rfl))) (fun _ => ?_)
      refine z_aload_n C dX9_setDoors_29 rfl ?_
      refine z_iconst (v := 2) C dX9_setDoors_30 (by decide) ?_
      refine z_rn (z_runV C kvX9_fails lkX9_102 kcX9 (k9_fails hB P) (P.m) rfl rfl (zb rfl) (zb rfl) (zb rfl) (zb rfl) dX9_setDoors_31) (fun v9 h9 hv => ?_)
      obtain ⟨P, rfl⟩ := hv
      exact z_iret C E dX9_setDoors_34 (Or.inr ⟨2, _, Or.inr (Or.inr (Or.inl ⟨c1, c2, rfl⟩)), by decide, P, rfl⟩) (zb rfl) (zb rfl)
  · refine z_if_ne (tgt := 19) C dX9_setDoors_10 (by decide) (fun e9 => absurd e9 ((fun e => e rfl))) (fun _ => ?_)
    refine z_aload_n C dX9_setDoors_13 rfl ?_
    refine z_iconst (v := 1) C dX9_setDoors_14 (by decide) ?_
    refine z_rn (z_runV C kvX9_fails lkX9_102 kcX9 (k9_fails hB P) (P.m) rfl rfl (zb rfl) (zb rfl) (zb rfl) (zb rfl) dX9_setDoors_15) (fun v9 h9 hv => ?_)
    obtain ⟨P, rfl⟩ := hv
    exact z_iret C E dX9_setDoors_18 (Or.inr ⟨1, _, Or.inr (Or.inl ⟨c1, rfl⟩), by decide, P, rfl⟩) (zb rfl) (zb rfl)
theorem k9_revoke (hB : Base G) (P : PW G h loc σ ρ) (I : Inv (rM ρ)) (R : RDr ρ) {key : Int32} : Ct G mX9_revoke 4 0 0 [.ref (loc 0 4), .int key] h (mo Value.int G loc σ ρ (okRevoke ρ key) (hasK (rM ρ) key) (cNR (rM ρ) key) True (nI (tn (rM ρ) 3 + 1))) noX := by
  refine Ct.intro (m := 0) hB (by decide +kernel) (zb rfl) fun X C E => ?_
  have hn0 := I.N.1
  have hn1 := I.N.2.1
  have hn2 := I.N.2.2.1
  have hn3 := I.N.2.2.2
  have hV1 : (nI (tn (rM ρ) 3 + 1)).toNatClampNeg = (tn (rM ρ) 3 + 1) := nI_clamp (by omega)
  refine z_aload_n C dX9_revoke_0 rfl ?_
  refine z_iconst (v := 0) C dX9_revoke_1 (by decide) ?_
  refine z_putf C kcX9 flX9_73 (P.m) rfl (rfl) (rfl) (zb rfl) dX9_revoke_2 ?_
  intro _ e8; subst e8
  have P := P.sTh 0
  refine z_aload_n C dX9_revoke_5 rfl ?_
  refine z_iload_n C dX9_revoke_6 rfl ?_
  refine z_rb (z_runV C kvX9_isKey lkX9_109 kcX9 (k9_isKey hB P I R) (P.m) rfl rfl (zb rfl) (zb rfl) (zb rfl) (zb rfl) dX9_revoke_7) (fun c1 => ?_) (fun c1 => ?_)
  · refine z_if_ne (tgt := 19) C dX9_revoke_10 (by decide) (fun _ => ?_) (fun e9 => absurd e9 ((show ¬ (1 : Int32) = 0 by decide)))
    refine z_aload_n C dX9_revoke_19 rfl ?_
    refine z_iload_n C dX9_revoke_20 rfl ?_
    refine z_rb (z_runV C kvX9_isStuck lkX9_113 kcX9 (k9_isStuck hB P I R c1) (P.m) rfl rfl (zb rfl) (zb rfl) (zb rfl) (zb rfl) dX9_revoke_21) (fun c3 => ?_) (fun c3 => ?_)
    · refine z_if_eq (tgt := 33) C dX9_revoke_24 (by decide) (fun e9 => absurd e9 ((show ¬ (1 : Int32) = 0 by decide))) (fun _ => ?_)
      refine z_aload_n C dX9_revoke_27 rfl ?_
      refine z_iconst (v := 2) C dX9_revoke_28 (by decide) ?_
      refine z_rn (z_runV C kvX9_fails lkX9_102 kcX9 (k9_fails hB P) (P.m) rfl rfl (zb rfl) (zb rfl) (zb rfl) (zb rfl) dX9_revoke_29) (fun v9 h9 hv => ?_)
      obtain ⟨P, rfl⟩ := hv
      exact z_iret C E dX9_revoke_32 (Or.inr ⟨2, _, Or.inr (Or.inr (Or.inl ⟨c1, c3, rfl⟩)), by decide, P, rfl⟩) (zb rfl) (zb rfl)
    · have c3 := Classical.not_not.mp c3
      have hv : (tn (rM ρ) 3) < 50 := c3.2
      have in1 : vp_in (nI (tn (rM ρ) 3 + 1)) 51 := nI_in (by omega) (by decide)
      have w1 : (tn (rM ρ) 3 + 1) < 51 := by omega
      have inj : vp_in key 8 := by
        rcases R.key I.K (Nat.le_refl _) ((R.isKey I.K).mpr c1).1 with ⟨-, q⟩ | ⟨-, _, -, hin, -⟩
        · exact absurd q c1
        · exact hin
      refine z_if_eq (tgt := 33) C dX9_revoke_24 (by decide) (fun _ => ?_) (fun e9 => absurd e9 ((fun e => e rfl)))
      refine z_aload_n C dX9_revoke_33 rfl ?_
      refine z_rn (z_runV C kvX9_changes lkX9_106 kcX9 (k9_changes hB P hv (fun v k => R.2.2.2.2.2.1 v k) key (tT (rM ρ) 1 (kS (rM ρ) key)) (tT (rM ρ) 2 (kS (rM ρ) key)) (tT (rM ρ) 3 (kS (rM ρ) key)) 1) (P.m) rfl rfl (zb rfl) (zb rfl) (zb rfl) (zb rfl) dX9_revoke_34) (fun v9 h9 hv => ?_)
      obtain ⟨P, rfl⟩ := hv
      refine z_aload_n C dX9_revoke_37 rfl ?_
      refine z_getf C kcX9 flX9_29 (P.m) rfl dX9_revoke_38 ?_
      refine z_aload_n C dX9_revoke_41 rfl ?_
      refine z_getf C kcX9 flX9_77 (P.m) rfl dX9_revoke_42 ?_
      refine Zs.ti (nI (tn (rM ρ) 3 + 1)) rfl ?_
      refine z_aaldA C rfl (P.mD3) (in1) dX9_revoke_45 ?_
      refine z_iload_n C dX9_revoke_46 rfl ?_
      refine z_iconst (v := 1) C dX9_revoke_47 (by decide) ?_
      refine z_zast C (P.e3 w1) (inj) dX9_revoke_48 ?_
      intro _ e8; subst e8
      rw [hV1, vp_nar_b (Or.inr rfl)]
      have P := P.sD3 w1 (ix key) 1
      refine z_aload_n C dX9_revoke_49 rfl ?_
      refine z_getf C kcX9 flX9_77 (P.m) rfl dX9_revoke_50 ?_
      refine Zs.ti (nI (tn (rM ρ) 3 + 1)) rfl ?_
      exact z_iret C E dX9_revoke_53 (Or.inl ⟨c1, c3, trivial, P, rfl⟩) (zb rfl) (zb rfl)
  · refine z_if_ne (tgt := 19) C dX9_revoke_10 (by decide) (fun e9 => absurd e9 ((fun e => e rfl))) (fun _ => ?_)
    refine z_aload_n C dX9_revoke_13 rfl ?_
    refine z_iconst (v := 1) C dX9_revoke_14 (by decide) ?_
    refine z_rn (z_runV C kvX9_fails lkX9_102 kcX9 (k9_fails hB P) (P.m) rfl rfl (zb rfl) (zb rfl) (zb rfl) (zb rfl) dX9_revoke_15) (fun v9 h9 hv => ?_)
    obtain ⟨P, rfl⟩ := hv
    exact z_iret C E dX9_revoke_18 (Or.inr ⟨1, _, Or.inr (Or.inl ⟨c1, rfl⟩), by decide, P, rfl⟩) (zb rfl) (zb rfl)
theorem c718 {c : Nat} (h1 : 7 ≤ c) (h2 : c ≤ 18) : c = 7 ∨ c = 8 ∨ c = 9 ∨ c = 10 ∨ c = 11 ∨ c = 12 ∨ c = 13 ∨ c = 14 ∨ c = 15 ∨ c = 16 ∨ c = 17 ∨ c = 18 := by omega
def okAddDoor (ρ : RG) : RG := rMu (rTh ρ 0) (sAddDoor (rM ρ))
theorem k9_addDoor (hB : Base G) (P : PW G h loc σ ρ) (I : Inv (rM ρ)) (R : RDr ρ) : Ct G mX9_addDoor 4 0 0 [.ref (loc 0 4)] h (mo Value.int G loc σ ρ (okAddDoor ρ) ((tn (rM ρ) 0) < 5) True True (nI (tn (rM ρ) 0))) noX := by
  refine Ct.intro (m := 0) hB (by decide +kernel) (zb rfl) fun X C E => ?_
  have hn0 := I.N.1
  have hn1 := I.N.2.1
  have hn2 := I.N.2.2.1
  have hn3 := I.N.2.2.2
  have hD : (nI (tn (rM ρ) 0)).toNatClampNeg = (tn (rM ρ) 0) := nI_clamp (by omega)
  have h5 : (5 : Int32) = nI 5 := by decide
  refine z_aload_n C dX9_addDoor_0 rfl ?_
  refine z_iconst (v := 0) C dX9_addDoor_1 (by decide) ?_
  refine z_putf C kcX9 flX9_73 (P.m) rfl (rfl) (rfl) (zb rfl) dX9_addDoor_2 ?_
  intro _ e8; subst e8
  have P := P.sTh 0
  refine z_aload_n C dX9_addDoor_5 rfl ?_
  refine z_getf C kcX9 flX9_84 (P.m) rfl dX9_addDoor_6 ?_
  refine Zs.ti (nI (tn (rM ρ) 0)) rfl ?_
  refine z_iconst (v := 5) C dX9_addDoor_9 (by decide) ?_
  refine z_icmp_ne (tgt := 19) C dX9_addDoor_10 (by decide) (fun e1 => ?_) (fun e1 => ?_)
  · rw [h5] at e1
    have c1 : (tn (rM ρ) 0) < 5 := by
      rcases Nat.lt_or_ge (tn (rM ρ) 0) 5 with z | z
      · exact z
      · exact absurd (congrArg nI (show (tn (rM ρ) 0) = 5 by omega)) e1
    have ind : vp_in (nI (tn (rM ρ) 0)) 5 := nI_in c1 (by decide)
    refine z_aload_n C dX9_addDoor_19 rfl ?_
    refine z_getf C kcX9 flX9_32 (P.m) rfl dX9_addDoor_20 ?_
    refine z_aload_n C dX9_addDoor_23 rfl ?_
    refine z_getf C kcX9 flX9_84 (P.m) rfl dX9_addDoor_24 ?_
    refine Zs.ti (nI (tn (rM ρ) 0)) rfl ?_
    refine z_aload_n C dX9_addDoor_27 rfl ?_
    refine z_getf C kcX9 flX9_77 (P.m) rfl dX9_addDoor_28 ?_
    refine z_iast C (P.m7) (ind) dX9_addDoor_31 ?_
    intro _ e8; subst e8
    rw [hD]
    have P := P.s7 (tn (rM ρ) 0) (nI (tn (rM ρ) 3))
    refine z_aload_n C dX9_addDoor_32 rfl ?_
    refine z_getf C kcX9 flX9_35 (P.m) rfl dX9_addDoor_33 ?_
    refine z_aload_n C dX9_addDoor_36 rfl ?_
    refine z_getf C kcX9 flX9_84 (P.m) rfl dX9_addDoor_37 ?_
    refine Zs.ti (nI (tn (rM ρ) 0)) rfl ?_
    refine z_aload_n C dX9_addDoor_40 rfl ?_
    refine z_getf C kcX9 flX9_95 (P.m) rfl dX9_addDoor_41 ?_
    refine z_iast C (P.m8) (ind) dX9_addDoor_44 ?_
    intro _ e8; subst e8
    rw [hD]
    have P := P.s8 (tn (rM ρ) 0) (now (rM ρ))
    refine z_aload_n C dX9_addDoor_45 rfl ?_
    refine z_getf C kcX9 flX9_38 (P.m) rfl dX9_addDoor_46 ?_
    refine z_aload_n C dX9_addDoor_49 rfl ?_
    refine z_getf C kcX9 flX9_84 (P.m) rfl dX9_addDoor_50 ?_
    refine Zs.ti (nI (tn (rM ρ) 0)) rfl ?_
    refine z_aload_n C dX9_addDoor_53 rfl ?_
    refine z_getf C kcX9 flX9_95 (P.m) rfl dX9_addDoor_54 ?_
    refine z_iast C (P.m9) (ind) dX9_addDoor_57 ?_
    intro _ e8; subst e8
    rw [hD]
    have P := P.s9 (tn (rM ρ) 0) (now (rM ρ))
    refine z_aload_n C dX9_addDoor_58 rfl ?_
    refine z_getf C kcX9 flX9_44 (P.m) rfl dX9_addDoor_59 ?_
    refine z_aload_n C dX9_addDoor_62 rfl ?_
    refine z_getf C kcX9 flX9_84 (P.m) rfl dX9_addDoor_63 ?_
    refine Zs.ti (nI (tn (rM ρ) 0)) rfl ?_
    refine z_fconst1 C dX9_addDoor_66 ?_
    refine z_fast C (P.mR) (ind) dX9_addDoor_67 ?_
    intro f8 _ hf8 e8; subst e8
    have ef : f8 = fun i => if i = (tn (rM ρ) 0) then FP.fconst1 else tR (rM ρ) i := by
      funext i
      rw [hf8 i, hD]
      rfl
    have P := P.sR f8
    refine z_aload_n C dX9_addDoor_68 rfl ?_
    refine z_dup C dX9_addDoor_69 rfl ?_
    refine z_getf C kcX9 flX9_84 (P.m) rfl dX9_addDoor_70 ?_
    refine Zs.ti (nI (tn (rM ρ) 0)) rfl ?_
    refine z_iconst (v := 1) C dX9_addDoor_73 (by decide) ?_
    refine z_iadd C dX9_addDoor_74 ?_
    rw [nI_1]
    refine z_putf C kcX9 flX9_84 (P.m) rfl (rfl) (rfl) (zb rfl) dX9_addDoor_75 ?_
    intro _ e8; subst e8
    have P := P.sDoors ((tn (rM ρ) 0) + 1)
    have P := P.muEq (μ := sAddDoor (rM ρ)) rfl rfl rfl rfl rfl (fun c h1 h2 => by rcases c718 h1 h2 with rfl | rfl | rfl | rfl | rfl | rfl | rfl | rfl | rfl | rfl | rfl | rfl <;> rfl) ef.symm
    refine z_aload_n C dX9_addDoor_78 rfl ?_
    refine z_getf C kcX9 flX9_84 (P.m) rfl dX9_addDoor_79 ?_
    refine Zs.ti (nI ((tn (rM ρ) 0) + 1)) rfl ?_
    refine z_iconst (v := 1) C dX9_addDoor_82 (by decide) ?_
    refine z_isub C dX9_addDoor_83 ?_
    rw [k_pred]
    exact z_iret C E dX9_addDoor_84 (Or.inl ⟨c1, trivial, trivial, P, rfl⟩) (zb rfl) (zb rfl)
  · rw [h5] at e1
    have e2 := (nI_eq (by omega) (by omega)).mp e1
    refine z_aload_n C dX9_addDoor_13 rfl ?_
    refine z_iconst (v := 1) C dX9_addDoor_14 (by decide) ?_
    refine z_rn (z_runV C kvX9_fails lkX9_102 kcX9 (k9_fails hB P) (P.m) rfl rfl (zb rfl) (zb rfl) (zb rfl) (zb rfl) dX9_addDoor_15) (fun v9 h9 hv => ?_)
    obtain ⟨P, rfl⟩ := hv
    exact z_iret C E dX9_addDoor_18 (Or.inr ⟨1, _, Or.inr (Or.inl ⟨fun q => absurd q (by omega), rfl⟩), by decide, P, rfl⟩) (zb rfl) (zb rfl)
def okAddPhone (ρ : RG) : RG := rMu (rTh ρ 0) (sAddPhone (rM ρ))
theorem k9_addPhone (hB : Base G) (P : PW G h loc σ ρ) (I : Inv (rM ρ)) (R : RDr ρ) : Ct G mX9_addPhone 4 0 0 [.ref (loc 0 4)] h (mo Value.int G loc σ ρ (okAddPhone ρ) (tn (rM ρ) 1 < 3) True True (nI (tn (rM ρ) 1))) noX := by
  refine Ct.intro (m := 0) hB (by decide +kernel) (zb rfl) fun X C E => ?_
  have hn0 := I.N.1
  have hn1 := I.N.2.1
  have hn2 := I.N.2.2.1
  have hn3 := I.N.2.2.2
  have h5 : (3 : Int32) = nI 3 := by decide
  refine z_aload_n C dX9_addPhone_0 rfl ?_
  refine z_iconst (v := 0) C dX9_addPhone_1 (by decide) ?_
  refine z_putf C kcX9 flX9_73 (P.m) rfl (rfl) (rfl) (zb rfl) dX9_addPhone_2 ?_
  intro _ e8; subst e8
  have P := P.sTh 0
  refine z_aload_n C dX9_addPhone_5 rfl ?_
  refine z_getf C kcX9 flX9_87 (P.m) rfl dX9_addPhone_6 ?_
  refine Zs.ti (nI (tn (rM ρ) 1)) rfl ?_
  refine z_iconst (v := 3) C dX9_addPhone_9 (by decide) ?_
  refine z_icmp_ne (tgt := 19) C dX9_addPhone_10 (by decide) (fun e1 => ?_) (fun e1 => ?_)
  · rw [h5] at e1
    have c1 : tn (rM ρ) 1 < 3 := by
      rcases Nat.lt_or_ge (tn (rM ρ) 1) 3 with z | z
      · exact z
      · exact absurd (congrArg nI (show tn (rM ρ) 1 = 3 by omega)) e1
    refine z_aload_n C dX9_addPhone_19 rfl ?_
    refine z_dup C dX9_addPhone_20 rfl ?_
    refine z_getf C kcX9 flX9_87 (P.m) rfl dX9_addPhone_21 ?_
    refine Zs.ti (nI (tn (rM ρ) 1)) rfl ?_
    refine z_iconst (v := 1) C dX9_addPhone_24 (by decide) ?_
    refine z_iadd C dX9_addPhone_25 ?_
    rw [nI_1]
    refine z_putf C kcX9 flX9_87 (P.m) rfl (rfl) (rfl) (zb rfl) dX9_addPhone_26 ?_
    intro _ e8; subst e8
    have P := P.sPhones (tn (rM ρ) 1 + 1)
    refine z_aload_n C dX9_addPhone_29 rfl ?_
    refine z_getf C kcX9 flX9_87 (P.m) rfl dX9_addPhone_30 ?_
    refine Zs.ti (nI (tn (rM ρ) 1 + 1)) rfl ?_
    refine z_iconst (v := 1) C dX9_addPhone_33 (by decide) ?_
    refine z_isub C dX9_addPhone_34 ?_
    rw [k_pred]
    exact z_iret C E dX9_addPhone_35 (Or.inl ⟨c1, trivial, trivial, P, rfl⟩) (zb rfl) (zb rfl)
  · rw [h5] at e1
    have e2 := (nI_eq (by omega) (by omega)).mp e1
    refine z_aload_n C dX9_addPhone_13 rfl ?_
    refine z_iconst (v := 1) C dX9_addPhone_14 (by decide) ?_
    refine z_rn (z_runV C kvX9_fails lkX9_102 kcX9 (k9_fails hB P) (P.m) rfl rfl (zb rfl) (zb rfl) (zb rfl) (zb rfl) dX9_addPhone_15) (fun v9 h9 hv => ?_)
    obtain ⟨P, rfl⟩ := hv
    exact z_iret C E dX9_addPhone_18 (Or.inr ⟨1, _, Or.inr (Or.inl ⟨fun q => absurd q (by omega), rfl⟩), by decide, P, rfl⟩) (zb rfl) (zb rfl)
theorem k9_sets (hB : Base G) (P : PW G h loc σ ρ) (hn : tn (rM ρ) 0 ≤ 5) {d m : Int32} (hd : In d (tn (rM ρ) 0)) : Ct G mX9_sets 1 0 0 [.ref (loc 0 4), .int d, .int m] h (fun o h' => PW G h' loc σ (rMu ρ (sClock (rM ρ) (ix d) m)) ∧ o = none) noX := by
  refine Ct.intro (m := 0) hB (by decide +kernel) (zb rfl) fun X C E => ?_
  refine z_aload_n C dX9_sets_0 rfl ?_
  refine z_getf C kcX9 flX9_38 (P.m) rfl dX9_sets_1 ?_
  refine z_iload_n C dX9_sets_4 rfl ?_
  refine z_iload_n C dX9_sets_5 rfl ?_
  refine z_iast C (P.m9) (hd.vp hn (by decide)) dX9_sets_6 ?_
  intro _ e8; subst e8
  have P := P.s9 (ix d) m
  refine z_aload_n C dX9_sets_7 rfl ?_
  refine z_getf C kcX9 flX9_35 (P.m) rfl dX9_sets_8 ?_
  refine z_iload_n C dX9_sets_11 rfl ?_
  refine z_aload_n C dX9_sets_12 rfl ?_
  refine z_getf C kcX9 flX9_95 (P.m) rfl dX9_sets_13 ?_
  refine z_iast C (P.m8) (hd.vp hn (by decide)) dX9_sets_16 ?_
  intro _ e8; subst e8
  have P := P.s8 (ix d) (now (rM ρ))
  have P := P.muEq (μ := sClock (rM ρ) (ix d) m) rfl rfl rfl rfl rfl (fun c h1 h2 => by rcases c718 h1 h2 with rfl | rfl | rfl | rfl | rfl | rfl | rfl | rfl | rfl | rfl | rfl | rfl <;> rfl) rfl
  exact z_vret C E dX9_sets_17 (⟨P, rfl⟩) (zb rfl) (zb rfl)
theorem clk_set {μ : SG} {i : Nat} {th : Int32} (h1 : okR (rateOf th)) : clk (sSetRate μ i th) i = clk μ i ∧ vf_n32 (drift (sSetRate μ i th) i) := by
  have e1 : tT (sSetRate μ i th) 9 i = clk μ i := if_pos rfl
  have e2 : tT (sSetRate μ i th) 8 i = now μ := if_pos rfl
  have e3 : tR (sSetRate μ i th) i = rateOf th := if_pos rfl
  have e4 : drift (sSetRate μ i th) i = FP.fmul (FP.i2f 0) (rateOf th) := by
    unfold drift
    rw [e2, e3, show now (sSetRate μ i th) = now μ from rfl, Int32.sub_self]
  constructor
  · show tT (sSetRate μ i th) 9 i + FP.f2i (drift (sSetRate μ i th) i) = _
    rw [e1, e4, fp_drift0 h1, Int32.add_zero]
  · rw [e4]
    exact (fp_drift (dt := 0) (by decide) (by decide) h1).1
def okSetRate (ρ : RG) (i : Nat) (th : Int32) : RG := rMu (rTh ρ 0) (sSetRate (rM ρ) i th)
theorem k9_setRate (hB : Base G) (P : PW G h loc σ ρ) (I : Inv (rM ρ)) (R : RDr ρ) {d th : Int32} : Ct G mX9_setRate 4 0 0 [.ref (loc 0 4), .int d, .int th] h (mo Value.int G loc σ ρ (okSetRate ρ (ix d) th) (In d (tn (rM ρ) 0)) (cTh th) True (clk (rM ρ) (ix d))) noX := by
  refine Ct.intro (m := 0) hB (by decide +kernel) (zb rfl) fun X C E => ?_
  have hn0 := I.N.1
  have hn1 := I.N.2.1
  have hn2 := I.N.2.2.1
  have hn3 := I.N.2.2.2
  refine z_aload_n C dX9_setRate_0 rfl ?_
  refine z_iconst (v := 0) C dX9_setRate_1 (by decide) ?_
  refine z_putf C kcX9 flX9_73 (P.m) rfl (rfl) (rfl) (zb rfl) dX9_setRate_2 ?_
  intro _ e8; subst e8
  have P := P.sTh 0
  refine z_aload_n C dX9_setRate_5 rfl ?_
  refine z_iload_n C dX9_setRate_6 rfl ?_
  refine z_rb (z_runV C kvX9_isDoor lkX9_120 kcX9 (k9_isDoor hB P (show (tn (rM ρ) 0) ≤ 600 by omega)) (P.m) rfl rfl (zb rfl) (zb rfl) (zb rfl) (zb rfl) dX9_setRate_7) (fun c1 => ?_) (fun c1 => ?_)
  · have hi := (c1.ix (show (tn (rM ρ) 0) < 2 ^ 31 by omega)).1
    refine z_if_ne (tgt := 19) C dX9_setRate_10 (by decide) (fun _ => ?_) (fun e9 => absurd e9 ((show ¬ (1 : Int32) = 0 by decide)))
    refine z_iload_n C dX9_setRate_19 rfl ?_
    refine z_sipush (v := (-500)) C dX9_setRate_20 (by decide) ?_
    refine z_sipush (v := 500) C dX9_setRate_23 (by decide) ?_
    refine z_rb (z_runS C ksX9_isBetween lkX9_80 (k9_isBetween hB) rfl rfl (zb rfl) (zb rfl) (zb rfl) (zb rfl) dX9_setRate_26) (fun c2 => ?_) (fun c2 => ?_)
    · have c2 : cTh th := ⟨Int32.not_lt.mpr c2.1, c2.2⟩
      obtain ⟨f1, f2, f3⟩ := fp_rate c2.1 c2.2
      refine z_if_ne (tgt := 38) C dX9_setRate_29 (by decide) (fun _ => ?_) (fun e9 => absurd e9 ((show ¬ (1 : Int32) = 0 by decide)))
      refine z_aload_n C dX9_setRate_38 rfl ?_
      refine z_iload_n C dX9_setRate_39 rfl ?_
      refine z_aload_n C dX9_setRate_40 rfl ?_
      refine z_iload_n C dX9_setRate_41 rfl ?_
      refine z_rd (z_runV C kvX9_clockOf lkX9_123 kcX9 (k9_clockOf hB P hn0 c1 (I.dr hi).1) (P.m) rfl rfl (zb rfl) (zb rfl) (zb rfl) (zb rfl) dX9_setRate_42) ?_
      refine z_rn (z_runV C kvX9_sets lkX9_126 kcX9 (k9_sets hB P hn0 c1) (P.m) rfl rfl (zb rfl) (zb rfl) (zb rfl) (zb rfl) dX9_setRate_45) (fun v9 h9 hv => ?_)
      obtain ⟨P, rfl⟩ := hv
      refine z_aload_n C dX9_setRate_48 rfl ?_
      refine z_getf C kcX9 flX9_44 (P.m) rfl dX9_setRate_49 ?_
      refine z_iload_n C dX9_setRate_52 rfl ?_
      refine z_fconst1 C dX9_setRate_53 ?_
      refine z_iload_n C dX9_setRate_54 rfl ?_
      refine z_i2f C dX9_setRate_55 ?_
      refine z_ldcf C kstX9_130 dX9_setRate_56 ?_
      refine z_fdiv C dX9_setRate_58 (f1) ?_
      refine z_fadd C dX9_setRate_59 (f2) ?_
      refine z_fast C (P.mR) (c1.vp hn0 (by decide)) dX9_setRate_60 ?_
      intro f8 _ hf8 e8; subst e8
      have ef : f8 = fun i => if i = ix d then rateOf th else tR (rM ρ) i := by
        funext i
        rw [hf8 i]
        rfl
      subst ef
      have P := P.sR (fun i => if i = ix d then rateOf th else tR (rM ρ) i)
      obtain ⟨g1, g2⟩ := clk_set (μ := (rM ρ)) (i := ix d) f3
      refine z_aload_n C dX9_setRate_61 rfl ?_
      refine z_iload_n C dX9_setRate_62 rfl ?_
      refine z_rd (z_runV C kvX9_clockOf lkX9_123 kcX9 (k9_clockOf hB P hn0 c1 g2) (P.m) rfl rfl (zb rfl) (zb rfl) (zb rfl) (zb rfl) dX9_setRate_63) ?_
      refine Zs.ti (clk (rM ρ) (ix d)) g1 ?_
      exact z_iret C E dX9_setRate_66 (Or.inl ⟨c1, c2, trivial, P, rfl⟩) (zb rfl) (zb rfl)
    · refine z_if_ne (tgt := 38) C dX9_setRate_29 (by decide) (fun e9 => absurd e9 ((fun e => e rfl))) (fun _ => ?_)
      refine z_aload_n C dX9_setRate_32 rfl ?_
      refine z_iconst (v := 2) C dX9_setRate_33 (by decide) ?_
      refine z_rn (z_runV C kvX9_fails lkX9_102 kcX9 (k9_fails hB P) (P.m) rfl rfl (zb rfl) (zb rfl) (zb rfl) (zb rfl) dX9_setRate_34) (fun v9 h9 hv => ?_)
      obtain ⟨P, rfl⟩ := hv
      exact z_iret C E dX9_setRate_37 (Or.inr ⟨2, _, Or.inr (Or.inr (Or.inl ⟨c1, fun q => c2 ⟨Int32.not_lt.mp q.1, q.2⟩, rfl⟩)), by decide, P, rfl⟩) (zb rfl) (zb rfl)
  · refine z_if_ne (tgt := 19) C dX9_setRate_10 (by decide) (fun e9 => absurd e9 ((fun e => e rfl))) (fun _ => ?_)
    refine z_aload_n C dX9_setRate_13 rfl ?_
    refine z_iconst (v := 1) C dX9_setRate_14 (by decide) ?_
    refine z_rn (z_runV C kvX9_fails lkX9_102 kcX9 (k9_fails hB P) (P.m) rfl rfl (zb rfl) (zb rfl) (zb rfl) (zb rfl) dX9_setRate_15) (fun v9 h9 hv => ?_)
    obtain ⟨P, rfl⟩ := hv
    exact z_iret C E dX9_setRate_18 (Or.inr ⟨1, _, Or.inr (Or.inl ⟨c1, rfl⟩), by decide, P, rfl⟩) (zb rfl) (zb rfl)
def okPass (ρ : RG) (m : Int32) : RG := rMu (rTh ρ 0) (sPass (rM ρ) m)
theorem pass_iff {μ : SG} (I : IvT μ) {m : Int32} (h0 : 1 ≤ m ∧ m ≤ 10000) : now μ + m ≤ 100000 ↔ cPass μ m := by
  obtain ⟨a1, a2⟩ := I
  have b1 := Int32.le_iff_toInt_le.mp h0.1
  have b2 := Int32.le_iff_toInt_le.mp h0.2
  have k1 : (1 : Int32).toInt = 1 := rfl
  have k2 : (10000 : Int32).toInt = 10000 := rfl
  have k3 : (100000 : Int32).toInt = 100000 := rfl
  have e1 : (now μ + m).toInt = (now μ).toInt + m.toInt := i_add a1 (by omega) (by omega)
  have e2 : (100000 - now μ : Int32).toInt = 100000 - (now μ).toInt := i_sub a1 (by omega)
  unfold cPass
  rw [Int32.le_iff_toInt_le, e1, Int32.le_iff_toInt_le (x := m) (y := 100000 - now μ), e2, k3]
  exact ⟨fun q => ⟨⟨Int32.not_lt.mpr h0.1, h0.2⟩, by omega⟩, fun q => by have := q.2; omega⟩
theorem k9_pass (hB : Base G) (P : PW G h loc σ ρ) (I : Inv (rM ρ)) (R : RDr ρ) {m : Int32} : Ct G mX9_pass 4 0 0 [.ref (loc 0 4), .int m] h (mo Value.int G loc σ ρ (okPass ρ m) (cPass (rM ρ) m) True True (now (rM ρ) + m)) noX := by
  refine Ct.intro (m := 0) hB (by decide +kernel) (zb rfl) fun X C E => ?_
  have hn0 := I.N.1
  have hn1 := I.N.2.1
  have hn2 := I.N.2.2.1
  have hn3 := I.N.2.2.2
  refine z_aload_n C dX9_pass_0 rfl ?_
  refine z_iconst (v := 0) C dX9_pass_1 (by decide) ?_
  refine z_putf C kcX9 flX9_73 (P.m) rfl (rfl) (rfl) (zb rfl) dX9_pass_2 ?_
  intro _ e8; subst e8
  have P := P.sTh 0
  refine z_iload_n C dX9_pass_5 rfl ?_
  refine z_iconst (v := 1) C dX9_pass_6 (by decide) ?_
  refine z_sipush (v := 10000) C dX9_pass_7 (by decide) ?_
  refine z_rb (z_runS C ksX9_isBetween lkX9_80 (k9_isBetween hB) rfl rfl (zb rfl) (zb rfl) (zb rfl) (zb rfl) dX9_pass_10) (fun c1 => ?_) (fun c1 => ?_)
  · refine z_if_eq (tgt := 27) C dX9_pass_13 (by decide) (fun e9 => absurd e9 ((show ¬ (1 : Int32) = 0 by decide))) (fun _ => ?_)
    refine z_aload_n C dX9_pass_16 rfl ?_
    refine z_getf C kcX9 flX9_95 (P.m) rfl dX9_pass_17 ?_
    refine z_iload_n C dX9_pass_20 rfl ?_
    refine z_iadd C dX9_pass_21 ?_
    refine z_ldc C kstX9_94 dX9_pass_22 ?_
    refine z_icmp_le (tgt := 33) C dX9_pass_24 (by decide) (fun e2 => ?_) (fun e2 => ?_)
    · have c2 := (pass_iff I.T c1).mp e2
      refine z_aload_n C dX9_pass_33 rfl ?_
      refine z_dup C dX9_pass_34 rfl ?_
      refine z_getf C kcX9 flX9_95 (P.m) rfl dX9_pass_35 ?_
      refine z_iload_n C dX9_pass_38 rfl ?_
      refine z_iadd C dX9_pass_39 ?_
      refine z_putf C kcX9 flX9_95 (P.m) rfl (rfl) (rfl) (zb rfl) dX9_pass_40 ?_
      intro _ e8; subst e8
      have P := P.sTime m
      refine z_aload_n C dX9_pass_43 rfl ?_
      refine z_getf C kcX9 flX9_95 (P.m) rfl dX9_pass_44 ?_
      exact z_iret C E dX9_pass_47 (Or.inl ⟨c2, trivial, trivial, P, rfl⟩) (zb rfl) (zb rfl)
    · refine z_aload_n C dX9_pass_27 rfl ?_
      refine z_iconst (v := 1) C dX9_pass_28 (by decide) ?_
      refine z_rn (z_runV C kvX9_fails lkX9_102 kcX9 (k9_fails hB P) (P.m) rfl rfl (zb rfl) (zb rfl) (zb rfl) (zb rfl) dX9_pass_29) (fun v9 h9 hv => ?_)
      obtain ⟨P, rfl⟩ := hv
      exact z_iret C E dX9_pass_32 (Or.inr ⟨1, _, Or.inr (Or.inl ⟨fun q => e2 ((pass_iff I.T c1).mpr q), rfl⟩), by decide, P, rfl⟩) (zb rfl) (zb rfl)
  · refine z_if_eq (tgt := 27) C dX9_pass_13 (by decide) (fun _ => ?_) (fun e9 => absurd e9 ((fun e => e rfl)))
    refine z_aload_n C dX9_pass_27 rfl ?_
    refine z_iconst (v := 1) C dX9_pass_28 (by decide) ?_
    refine z_rn (z_runV C kvX9_fails lkX9_102 kcX9 (k9_fails hB P) (P.m) rfl rfl (zb rfl) (zb rfl) (zb rfl) (zb rfl) dX9_pass_29) (fun v9 h9 hv => ?_)
    obtain ⟨P, rfl⟩ := hv
    exact z_iret C E dX9_pass_32 (Or.inr ⟨1, _, Or.inr (Or.inl ⟨fun q => c1 ⟨Int32.not_lt.mp q.1.1, q.1.2⟩, rfl⟩), by decide, P, rfl⟩) (zb rfl) (zb rfl)
def okMeetCloud (ρ : RG) (p : Int32) : RG := rMu (rTh ρ 0) (sMeetCloud (rM ρ) p)
theorem sArr_as {τ : SG} {i : Nat} {v : Int32} : sArr τ i v = sC τ 18 i v := rfl
theorem k9_meetCloud (hB : Base G) (P : PW G h loc σ ρ) (I : Inv (rM ρ)) (R : RDr ρ) {p : Int32} : Ct G mX9_meetCloud 4 0 0 [.ref (loc 0 4), .int p] h (mo Value.int G loc σ ρ (okMeetCloud ρ p) (In p (tn (rM ρ) 1)) True True (nI (cnt (pCarr (rM ρ) p) (tn (rM ρ) 2)))) noX := by
  refine Ct.intro (m := 2) hB (by decide +kernel) (zb rfl) fun X C E => ?_
  have hn0 := I.N.1
  have hn1 := I.N.2.1
  have hn2 := I.N.2.2.1
  have hn3 := I.N.2.2.2
  refine z_aload_n C dX9_meetCloud_0 rfl ?_
  refine z_iconst (v := 0) C dX9_meetCloud_1 (by decide) ?_
  refine z_putf C kcX9 flX9_73 (P.m) rfl (rfl) (rfl) (zb rfl) dX9_meetCloud_2 ?_
  intro _ e8; subst e8
  have P := P.sTh 0
  refine z_aload_n C dX9_meetCloud_5 rfl ?_
  refine z_iload_n C dX9_meetCloud_6 rfl ?_
  refine z_rb (z_runV C kvX9_isPhone lkX9_131 kcX9 (k9_isPhone hB P (show tn (rM ρ) 1 ≤ 600 by omega)) (P.m) rfl rfl (zb rfl) (zb rfl) (zb rfl) (zb rfl) dX9_meetCloud_7) (fun c1 => ?_) (fun c1 => ?_)
  · refine z_if_ne (tgt := 19) C dX9_meetCloud_10 (by decide) (fun _ => ?_) (fun e9 => absurd e9 ((show ¬ (1 : Int32) = 0 by decide)))
    refine z_aload_n C dX9_meetCloud_19 rfl ?_
    refine z_getf C kcX9 flX9_41 (P.m) rfl dX9_meetCloud_20 ?_
    refine z_iload_n C dX9_meetCloud_23 rfl ?_
    refine z_aload_n C dX9_meetCloud_24 rfl ?_
    refine z_getf C kcX9 flX9_77 (P.m) rfl dX9_meetCloud_25 ?_
    refine z_iast C (P.m10) (c1.vp hn1 (by decide)) dX9_meetCloud_28 ?_
    intro _ e8; subst e8
    have P := P.s10 (ix p) (nI (tn (rM ρ) 3))
    obtain ⟨τ, hτ⟩ : ∃ τ, τ = sPhone (rM ρ) (ix p) (nI (tn (rM ρ) 3)) := ⟨_, rfl⟩
    have e0 : sC (rM (rTh ρ 0)) 10 (ix p) (nI (tn (rM ρ) 3)) = sArrive τ p 0 := by rw [sArrive_0, hτ]; rfl
    rw [e0] at P
    have hnt : tn τ 2 = tn (rM ρ) 2 := by rw [hτ]; rfl
    have hct : pCarr (rM ρ) p = pCarr τ p := by rw [hτ]; rfl
    have h17 : ∀ a, tT τ 17 a = tT (rM ρ) 17 a := fun a => by rw [hτ]; rfl
    have h18 : ∀ a, tT τ 18 a = tT (rM ρ) 18 a := fun a => by rw [hτ]; rfl
    refine z_iconst (v := 0) C dX9_meetCloud_29 (by decide) ?_
    refine z_istore_n C dX9_meetCloud_30 (zb rfl) ?_
    refine z_iconst (v := 0) C dX9_meetCloud_31 (by decide) ?_
    refine z_istore_n C dX9_meetCloud_32 (zb rfl) ?_
    refine z_loop (I := fun i => ∀ h1, PW G h1 loc σ (rMu (rTh ρ 0) (sArrive τ p i)) → Zs G X 4 h1 0 0 33 [some (.ref (loc 0 4)), some (.int p), some (.int (nI (cnt (pCarr τ p) i))), some (.int (nI i))] []) (tn (rM ρ) 2) (fun i hi ih => ?_) 0 (Nat.zero_le _) _ P
    intro h1 P
    refine z_iload_n C dX9_meetCloud_33 rfl ?_
    refine z_aload_n C dX9_meetCloud_34 rfl ?_
    refine z_getf C kcX9 flX9_90 (P.m) rfl dX9_meetCloud_35 ?_
    refine Zs.ti (nI (tn (rM ρ) 2)) (congrArg nI hnt) ?_
    refine z_icmp_ge (tgt := 82) C dX9_meetCloud_38 (by decide) (fun e1 => ?_) (fun e1 => ?_)
    · have ei := i_top (show tn (rM ρ) 2 ≤ 600 by omega) hi e1
      have P : PW G h1 loc σ (rMu (rTh ρ 0) (sMeetCloud (rM ρ) p)) := by
        rw [ei, hτ] at P
        exact P.muEq (μ := sMeetCloud (rM ρ) p) rfl rfl rfl rfl rfl (fun c h1 h2 => by rcases c718 h1 h2 with rfl | rfl | rfl | rfl | rfl | rfl | rfl | rfl | rfl | rfl | rfl | rfl <;> rfl) rfl
      refine z_iload_n C dX9_meetCloud_82 rfl ?_
      exact z_iret C E dX9_meetCloud_83 (Or.inl ⟨c1, trivial, trivial, P, by rw [ei, hct]⟩) (zb rfl) (zb rfl)
    · have ei := i_in (show tn (rM ρ) 2 ≤ 600 by omega) hi e1
      have ih := ih ei
      have hin : vp_in (nI i) 60 := nI_in (by omega) (by decide)
      have hcl : (nI i).toNatClampNeg = i := nI_clamp (by omega)
      obtain ⟨-, -, -, -, -, hs0, ha, -⟩ := I.A i ei
      refine z_aload_n C dX9_meetCloud_41 rfl ?_
      refine z_getf C kcX9 flX9_63 (P.m) rfl dX9_meetCloud_42 ?_
      refine z_iload_n C dX9_meetCloud_45 rfl ?_
      refine z_iald C (P.m17) (hin) dX9_meetCloud_46 ?_
      refine Zs.ti (tT τ 17 i) ((congrArg (tT (sArrive τ p i) 17) hcl).trans (sArrive_T (by decide))) ?_
      refine z_iload_n C dX9_meetCloud_47 rfl ?_
      refine z_icmp_ne (tgt := 76) C dX9_meetCloud_48 (by decide) (fun e2 => ?_) (fun e2 => ?_)
      · have e3 : pCarr τ p i = false := decide_eq_false (fun q => e2 q.1)
        rw [cnt_neg e3, ← sArrive_n e3] at ih
        refine z_iinc _ C dX9_meetCloud_76 rfl (nI_1 _) (zb rfl) ?_
        refine z_goto (tgt := 33) C dX9_meetCloud_79 (by decide) ?_
        exact ih _ P
      · refine z_aload_n C dX9_meetCloud_51 rfl ?_
        refine z_getf C kcX9 flX9_66 (P.m) rfl dX9_meetCloud_52 ?_
        refine z_iload_n C dX9_meetCloud_55 rfl ?_
        refine z_iald C (P.m18) (hin) dX9_meetCloud_56 ?_
        refine Zs.ti (tT τ 18 i) ((congrArg (tT (sArrive τ p i) 18) hcl).trans (sArrive_18 (Nat.le_refl _))) ?_
        refine z_if_lt (tgt := 63) C dX9_meetCloud_57 (by decide) (fun e3 => ?_) (fun e3 => ?_)
        · have e4 : tT τ 18 i = -1 := by
            rw [h18] at e3 ⊢
            rcases ha with z | z
            · exact z
            · exact absurd e3 (Int32.not_lt.mpr (i_le (Int.le_trans hs0 z.1)))
          have e5 : pCarr τ p i = true := decide_eq_true ⟨e2, e4⟩
          rw [cnt_pos e5, ← sArrive_s e5] at ih
          refine z_aload_n C dX9_meetCloud_63 rfl ?_
          refine z_getf C kcX9 flX9_66 (P.m) rfl dX9_meetCloud_64 ?_
          refine z_iload_n C dX9_meetCloud_67 rfl ?_
          refine z_aload_n C dX9_meetCloud_68 rfl ?_
          refine z_getf C kcX9 flX9_95 (P.m) rfl dX9_meetCloud_69 ?_
          refine Zs.ti (now τ) (sArrive_T (by decide)) ?_
          refine z_iast C (P.m18) (hin) dX9_meetCloud_72 ?_
          intro _ e8; subst e8
          rw [hcl]
          refine z_iinc _ C dX9_meetCloud_73 rfl (nI_1 _) (zb rfl) ?_
          refine z_iinc _ C dX9_meetCloud_76 rfl (nI_1 _) (zb rfl) ?_
          refine z_goto (tgt := 33) C dX9_meetCloud_79 (by decide) ?_
          exact ih _ (P.s18 i (now τ))
        · have e4 : ¬ tT τ 18 i = -1 := fun q => e3 (by rw [q]; decide)
          have e5 : pCarr τ p i = false := decide_eq_false (fun q => e4 q.2)
          rw [cnt_neg e5, ← sArrive_n e5] at ih
          refine z_goto (tgt := 76) C dX9_meetCloud_60 (by decide) ?_
          refine z_iinc _ C dX9_meetCloud_76 rfl (nI_1 _) (zb rfl) ?_
          refine z_goto (tgt := 33) C dX9_meetCloud_79 (by decide) ?_
          exact ih _ P
  · refine z_if_ne (tgt := 19) C dX9_meetCloud_10 (by decide) (fun e9 => absurd e9 ((fun e => e rfl))) (fun _ => ?_)
    refine z_aload_n C dX9_meetCloud_13 rfl ?_
    refine z_iconst (v := 1) C dX9_meetCloud_14 (by decide) ?_
    refine z_rn (z_runV C kvX9_fails lkX9_102 kcX9 (k9_fails hB P) (P.m) rfl rfl (zb rfl) (zb rfl) (zb rfl) (zb rfl) dX9_meetCloud_15) (fun v9 h9 hv => ?_)
    obtain ⟨P, rfl⟩ := hv
    exact z_iret C E dX9_meetCloud_18 (Or.inr ⟨1, _, Or.inr (Or.inl ⟨c1, rfl⟩), by decide, P, rfl⟩) (zb rfl) (zb rfl)
def okMeetDoor (ρ : RG) (p d : Int32) : RG := rMu (rTh ρ 0) (sMeetDoor (rM ρ) p d)
theorem k9_meetDoor (hB : Base G) (P : PW G h loc σ ρ) (I : Inv (rM ρ)) (R : RDr ρ) {p d : Int32} : Ct G mX9_meetDoor 4 0 0 [.ref (loc 0 4), .int p, .int d] h (mo Value.int G loc σ ρ (okMeetDoor ρ p d) (In p (tn (rM ρ) 1) ∧ In d (tn (rM ρ) 0)) True True (nI (cnt (pWait (rM ρ) d) (tn (rM ρ) 2)))) noX := by
  refine Ct.intro (m := 2) hB (by decide +kernel) (zb rfl) fun X C E => ?_
  have hn0 := I.N.1
  have hn1 := I.N.2.1
  have hn2 := I.N.2.2.1
  have hn3 := I.N.2.2.2
  refine z_aload_n C dX9_meetDoor_0 rfl ?_
  refine z_iconst (v := 0) C dX9_meetDoor_1 (by decide) ?_
  refine z_putf C kcX9 flX9_73 (P.m) rfl (rfl) (rfl) (zb rfl) dX9_meetDoor_2 ?_
  intro _ e8; subst e8
  have P := P.sTh 0
  refine z_aload_n C dX9_meetDoor_5 rfl ?_
  refine z_iload_n C dX9_meetDoor_6 rfl ?_
  refine z_rb (z_runV C kvX9_isPhone lkX9_131 kcX9 (k9_isPhone hB P (show tn (rM ρ) 1 ≤ 600 by omega)) (P.m) rfl rfl (zb rfl) (zb rfl) (zb rfl) (zb rfl) dX9_meetDoor_7) (fun c1 => ?_) (fun c1 => ?_)
  · refine z_if_eq (tgt := 21) C dX9_meetDoor_10 (by decide) (fun e9 => absurd e9 ((show ¬ (1 : Int32) = 0 by decide))) (fun _ => ?_)
    refine z_aload_n C dX9_meetDoor_13 rfl ?_
    refine z_iload_n C dX9_meetDoor_14 rfl ?_
    refine z_rb (z_runV C kvX9_isDoor lkX9_120 kcX9 (k9_isDoor hB P (show (tn (rM ρ) 0) ≤ 600 by omega)) (P.m) rfl rfl (zb rfl) (zb rfl) (zb rfl) (zb rfl) dX9_meetDoor_15) (fun c2 => ?_) (fun c2 => ?_)
    · refine z_if_ne (tgt := 27) C dX9_meetDoor_18 (by decide) (fun _ => ?_) (fun e9 => absurd e9 ((show ¬ (1 : Int32) = 0 by decide)))
      refine z_aload_n C dX9_meetDoor_27 rfl ?_
      refine z_getf C kcX9 flX9_32 (P.m) rfl dX9_meetDoor_28 ?_
      refine z_iload_n C dX9_meetDoor_31 rfl ?_
      refine z_aload_n C dX9_meetDoor_32 rfl ?_
      refine z_getf C kcX9 flX9_32 (P.m) rfl dX9_meetDoor_33 ?_
      refine z_iload_n C dX9_meetDoor_36 rfl ?_
      refine z_iald C (P.m7) (c2.vp hn0 (by decide)) dX9_meetDoor_37 ?_
      refine z_aload_n C dX9_meetDoor_38 rfl ?_
      refine z_getf C kcX9 flX9_41 (P.m) rfl dX9_meetDoor_39 ?_
      refine z_iload_n C dX9_meetDoor_42 rfl ?_
      refine z_iald C (P.m10) (c1.vp hn1 (by decide)) dX9_meetDoor_43 ?_
      refine z_mmax C lkX9_134 st_max ini_J9 co_max (zb rfl) (zb rfl) (zb rfl) (zb rfl) dX9_meetDoor_44 ?_
      refine z_iast C (P.m7) (c2.vp hn0 (by decide)) dX9_meetDoor_47 ?_
      intro _ e8; subst e8
      have P := P.s7 (ix d) (i32max (tT (rM ρ) 7 (ix d)) (tT (rM ρ) 10 (ix p)))
      refine z_aload_n C dX9_meetDoor_48 rfl ?_
      refine z_iload_n C dX9_meetDoor_49 rfl ?_
      refine z_aload_n C dX9_meetDoor_50 rfl ?_
      refine z_getf C kcX9 flX9_95 (P.m) rfl dX9_meetDoor_51 ?_
      refine z_rn (z_runV C kvX9_sets lkX9_126 kcX9 (k9_sets hB P hn0 c2) (P.m) rfl rfl (zb rfl) (zb rfl) (zb rfl) (zb rfl) dX9_meetDoor_54) (fun v9 h9 hv => ?_)
      obtain ⟨P, rfl⟩ := hv
      obtain ⟨τ, hτ⟩ : ∃ τ, τ = sClock (sVer (rM ρ) (ix d) (i32max (tT (rM ρ) 7 (ix d)) (tT (rM ρ) 10 (ix p)))) (ix d) (now (rM ρ)) := ⟨_, rfl⟩
      have P : PW G h9 loc σ (rMu (rTh ρ 0) (sTake τ p d 0)) := by rw [sTake_0, hτ]; exact P
      have hnt : tn τ 2 = tn (rM ρ) 2 := by rw [hτ]; rfl
      have hct : pWait (rM ρ) d = pWait τ d := by rw [hτ]; rfl
      have h17 : ∀ a, tT τ 17 a = tT (rM ρ) 17 a := fun a => by rw [hτ]; rfl
      refine z_iconst (v := 0) C dX9_meetDoor_57 (by decide) ?_
      refine z_istore_n C dX9_meetDoor_58 (zb rfl) ?_
      refine z_iconst (v := 0) C dX9_meetDoor_59 (by decide) ?_
      refine z_istore C dX9_meetDoor_60 (zb rfl) ?_
      refine z_loop (I := fun i => ∀ h1, PW G h1 loc σ (rMu (rTh ρ 0) (sTake τ p d i)) → Zs G X 5 h1 0 0 62 [some (.ref (loc 0 4)), some (.int p), some (.int d), some (.int (nI (cnt (pWait τ d) i))), some (.int (nI i))] []) (tn (rM ρ) 2) (fun i hi ih => ?_) 0 (Nat.zero_le _) _ P
      intro h1 P
      refine z_iload C dX9_meetDoor_62 rfl ?_
      refine z_aload_n C dX9_meetDoor_64 rfl ?_
      refine z_getf C kcX9 flX9_90 (P.m) rfl dX9_meetDoor_65 ?_
      refine Zs.ti (nI (tn (rM ρ) 2)) (congrArg nI hnt) ?_
      refine z_icmp_ge (tgt := 112) C dX9_meetDoor_68 (by decide) (fun e1 => ?_) (fun e1 => ?_)
      · have ei := i_top (show tn (rM ρ) 2 ≤ 600 by omega) hi e1
        have P : PW G h1 loc σ (rMu (rTh ρ 0) (sMeetDoor (rM ρ) p d)) := by
          rw [ei, hτ] at P
          exact P.muEq (μ := sMeetDoor (rM ρ) p d) rfl rfl rfl rfl rfl (fun c h1 h2 => by rcases c718 h1 h2 with rfl | rfl | rfl | rfl | rfl | rfl | rfl | rfl | rfl | rfl | rfl | rfl <;> rfl) rfl
        refine z_iload_n C dX9_meetDoor_112 rfl ?_
        exact z_iret C E dX9_meetDoor_113 (Or.inl ⟨⟨c1, c2⟩, trivial, trivial, P, by rw [ei, hct]⟩) (zb rfl) (zb rfl)
      · have ei := i_in (show tn (rM ρ) 2 ≤ 600 by omega) hi e1
        have ih := ih ei
        have hin : vp_in (nI i) 60 := nI_in (by omega) (by decide)
        have hcl : (nI i).toNatClampNeg = i := nI_clamp (by omega)
        obtain ⟨-, -, -, -, ha, -⟩ := I.A i ei
        refine z_aload_n C dX9_meetDoor_71 rfl ?_
        refine z_getf C kcX9 flX9_48 (P.m) rfl dX9_meetDoor_72 ?_
        refine z_iload C dX9_meetDoor_75 rfl ?_
        refine z_iald C (P.m11) (hin) dX9_meetDoor_77 ?_
        refine Zs.ti (tT τ 11 i) ((congrArg (tT (sTake τ p d i) 11) hcl).trans (sTake_T (by decide))) ?_
        refine z_iload_n C dX9_meetDoor_78 rfl ?_
        refine z_icmp_ne (tgt := 106) C dX9_meetDoor_79 (by decide) (fun e2 => ?_) (fun e2 => ?_)
        · have e3 : pWait τ d i = false := decide_eq_false (fun q => e2 q.1)
          rw [cnt_neg e3, ← sTake_n e3] at ih
          refine z_iinc _ C dX9_meetDoor_106 rfl (nI_1 _) (zb rfl) ?_
          refine z_goto (tgt := 62) C dX9_meetDoor_109 (by decide) ?_
          exact ih _ P
        · refine z_aload_n C dX9_meetDoor_82 rfl ?_
          refine z_getf C kcX9 flX9_63 (P.m) rfl dX9_meetDoor_83 ?_
          refine z_iload C dX9_meetDoor_86 rfl ?_
          refine z_iald C (P.m17) (hin) dX9_meetDoor_88 ?_
          refine Zs.ti (tT τ 17 i) ((congrArg (tT (sTake τ p d i) 17) hcl).trans (sTake_17 (Nat.le_refl _))) ?_
          refine z_if_lt (tgt := 95) C dX9_meetDoor_89 (by decide) (fun e3 => ?_) (fun e3 => ?_)
          · have e4 : tT τ 17 i = -1 := by
              rw [h17] at e3 ⊢
              rcases ha with z | z
              · exact z
              · exact absurd e3 (Int32.not_lt.mpr z)
            have e5 : pWait τ d i = true := decide_eq_true ⟨e2, e4⟩
            rw [cnt_pos e5, ← sTake_s e5] at ih
            refine z_aload_n C dX9_meetDoor_95 rfl ?_
            refine z_getf C kcX9 flX9_63 (P.m) rfl dX9_meetDoor_96 ?_
            refine z_iload C dX9_meetDoor_99 rfl ?_
            refine z_iload_n C dX9_meetDoor_101 rfl ?_
            refine z_iast C (P.m17) (hin) dX9_meetDoor_102 ?_
            intro _ e8; subst e8
            rw [hcl]
            refine z_iinc _ C dX9_meetDoor_103 rfl (nI_1 _) (zb rfl) ?_
            refine z_iinc _ C dX9_meetDoor_106 rfl (nI_1 _) (zb rfl) ?_
            refine z_goto (tgt := 62) C dX9_meetDoor_109 (by decide) ?_
            exact ih _ (P.s17 i p)
          · have e4 : ¬ tT τ 17 i = -1 := fun q => e3 (by rw [q]; decide)
            have e5 : pWait τ d i = false := decide_eq_false (fun q => e4 q.2)
            rw [cnt_neg e5, ← sTake_n e5] at ih
            refine z_goto (tgt := 106) C dX9_meetDoor_92 (by decide) ?_
            refine z_iinc _ C dX9_meetDoor_106 rfl (nI_1 _) (zb rfl) ?_
            refine z_goto (tgt := 62) C dX9_meetDoor_109 (by decide) ?_
            exact ih _ P
    · refine z_if_ne (tgt := 27) C dX9_meetDoor_18 (by decide) (fun e9 => absurd e9 ((fun e => e rfl))) (fun _ => ?_)
      refine z_aload_n C dX9_meetDoor_21 rfl ?_
      refine z_iconst (v := 1) C dX9_meetDoor_22 (by decide) ?_
      refine z_rn (z_runV C kvX9_fails lkX9_102 kcX9 (k9_fails hB P) (P.m) rfl rfl (zb rfl) (zb rfl) (zb rfl) (zb rfl) dX9_meetDoor_23) (fun v9 h9 hv => ?_)
      obtain ⟨P, rfl⟩ := hv
      exact z_iret C E dX9_meetDoor_26 (Or.inr ⟨1, _, Or.inr (Or.inl ⟨fun q => c2 q.2, rfl⟩), by decide, P, rfl⟩) (zb rfl) (zb rfl)
  · refine z_if_eq (tgt := 21) C dX9_meetDoor_10 (by decide) (fun _ => ?_) (fun e9 => absurd e9 ((fun e => e rfl)))
    refine z_aload_n C dX9_meetDoor_21 rfl ?_
    refine z_iconst (v := 1) C dX9_meetDoor_22 (by decide) ?_
    refine z_rn (z_runV C kvX9_fails lkX9_102 kcX9 (k9_fails hB P) (P.m) rfl rfl (zb rfl) (zb rfl) (zb rfl) (zb rfl) dX9_meetDoor_23) (fun v9 h9 hv => ?_)
    obtain ⟨P, rfl⟩ := hv
    exact z_iret C E dX9_meetDoor_26 (Or.inr ⟨1, _, Or.inr (Or.inl ⟨fun q => c1 q.1, rfl⟩), by decide, P, rfl⟩) (zb rfl) (zb rfl)
def okOpen (ρ : RG) (d k : Int32) : RG := rMu (rTh ρ 0) (sOpen (rM ρ) d k (clk (rM ρ) (ix d)) (letter (rM ρ) (ix (tT (rM ρ) 7 (ix d))) k d (clk (rM ρ) (ix d))) (tT (rM ρ) 7 (ix d)))
theorem k9_open (hB : Base G) (P : PW G h loc σ ρ) (I : Inv (rM ρ)) (R : RDr ρ) {d k : Int32} : Ct G mX9_open 4 0 0 [.ref (loc 0 4), .int d, .int k] h (mo Value.int G loc σ ρ (okOpen ρ d k) (In d (tn (rM ρ) 0)) (hasK (rM ρ) k) (tn (rM ρ) 2 < 60) (letter (rM ρ) (ix (tT (rM ρ) 7 (ix d))) k d (clk (rM ρ) (ix d)))) noX := by
  refine Ct.intro (m := 0) hB (by decide +kernel) (zb rfl) fun X C E => ?_
  have hn0 := I.N.1
  have hn1 := I.N.2.1
  have hn2 := I.N.2.2.1
  have hn3 := I.N.2.2.2
  have ha : (nI (tn (rM ρ) 2)).toNatClampNeg = tn (rM ρ) 2 := nI_clamp (by omega)
  have h60 : (60 : Int32) = nI 60 := by decide
  refine z_aload_n C dX9_open_0 rfl ?_
  refine z_iload_n C dX9_open_1 rfl ?_
  refine z_iload_n C dX9_open_2 rfl ?_
  refine z_rn (z_runV C kvX9_isNone lkX9_140 kcX9 (k9_isNone hB P I R) (P.m) rfl rfl (zb rfl) (zb rfl) (zb rfl) (zb rfl) dX9_open_3) (fun v9 h9 hv => ?_)
  rcases hv with ⟨hd, hk, P, rfl⟩ | ⟨hd, P, rfl⟩ | ⟨hd, hk, P, rfl⟩
  · have hi := (hd.ix (by omega)).1
    have hk0 := ((R.isKey I.K).mpr hk).1
    have hw := (I.D _ hi).2.2.2.1
    refine z_if_eq (tgt := 11) C dX9_open_6 (by decide) (fun _ => ?_) (fun e9 => absurd e9 ((fun e => e rfl)))
    refine z_aload_n C dX9_open_11 rfl ?_
    refine z_getf C kcX9 flX9_90 (P.m) rfl dX9_open_12 ?_
    refine Zs.ti (nI (tn (rM ρ) 2)) rfl ?_
    refine z_bipush (v := 60) C dX9_open_15 (by decide) ?_
    refine z_icmp_ne (tgt := 27) C dX9_open_17 (by decide) (fun e1 => ?_) (fun e1 => ?_)
    · rw [h60] at e1
      have c3 : tn (rM ρ) 2 < 60 := by
        rcases Nat.lt_or_ge (tn (rM ρ) 2) 60 with z | z
        · exact z
        · exact absurd (congrArg nI (show tn (rM ρ) 2 = 60 by omega)) e1
      have hin : vp_in (nI (tn (rM ρ) 2)) 60 := nI_in c3 (by decide)
      have hnar := letter_nar (rM ρ) (ix (tT (rM ρ) 7 (ix d))) k d (clk (rM ρ) (ix d))
      have hvn : vp_nar .char (letter (rM ρ) (ix (tT (rM ρ) 7 (ix d))) k d (clk (rM ρ) (ix d))) = letter (rM ρ) (ix (tT (rM ρ) 7 (ix d))) k d (clk (rM ρ) (ix d)) := by
        unfold vp_nar
        rw [hnar]
      refine z_aload_n C dX9_open_27 rfl ?_
      refine z_getf C kcX9 flX9_48 (P.m) rfl dX9_open_28 ?_
      refine z_aload_n C dX9_open_31 rfl ?_
      refine z_getf C kcX9 flX9_90 (P.m) rfl dX9_open_32 ?_
      refine Zs.ti (nI (tn (rM ρ) 2)) rfl ?_
      refine z_iload_n C dX9_open_35 rfl ?_
      refine z_iast C (P.m11) (hin) dX9_open_36 ?_
      intro _ e8; subst e8
      rw [ha]
      have P := P.s11 (tn (rM ρ) 2) d
      refine z_aload_n C dX9_open_37 rfl ?_
      refine z_getf C kcX9 flX9_51 (P.m) rfl dX9_open_38 ?_
      refine z_aload_n C dX9_open_41 rfl ?_
      refine z_getf C kcX9 flX9_90 (P.m) rfl dX9_open_42 ?_
      refine Zs.ti (nI (tn (rM ρ) 2)) rfl ?_
      refine z_iload_n C dX9_open_45 rfl ?_
      refine z_iast C (P.m12) (hin) dX9_open_46 ?_
      intro _ e8; subst e8
      rw [ha]
      have P := P.s12 (tn (rM ρ) 2) k
      refine z_aload_n C dX9_open_47 rfl ?_
      refine z_getf C kcX9 flX9_54 (P.m) rfl dX9_open_48 ?_
      refine z_aload_n C dX9_open_51 rfl ?_
      refine z_getf C kcX9 flX9_90 (P.m) rfl dX9_open_52 ?_
      refine Zs.ti (nI (tn (rM ρ) 2)) rfl ?_
      refine z_aload_n C dX9_open_55 rfl ?_
      refine z_iload_n C dX9_open_56 rfl ?_
      refine z_rd (z_runV C kvX9_clockOf lkX9_123 kcX9 (k9_clockOf hB P hn0 hd (I.dr hi).1) (P.m) rfl rfl (zb rfl) (zb rfl) (zb rfl) (zb rfl) dX9_open_57) ?_
      refine Zs.ti (clk (rM ρ) (ix d)) rfl ?_
      refine z_iast C (P.m13) (hin) dX9_open_60 ?_
      intro _ e8; subst e8
      rw [ha]
      have P := P.s13 (tn (rM ρ) 2) (clk (rM ρ) (ix d))
      refine z_aload_n C dX9_open_61 rfl ?_
      refine z_getf C kcX9 flX9_57 (P.m) rfl dX9_open_62 ?_
      refine z_aload_n C dX9_open_65 rfl ?_
      refine z_getf C kcX9 flX9_90 (P.m) rfl dX9_open_66 ?_
      refine Zs.ti (nI (tn (rM ρ) 2)) rfl ?_
      refine z_aload_n C dX9_open_69 rfl ?_
      refine z_getf C kcX9 flX9_32 (P.m) rfl dX9_open_70 ?_
      refine z_iload_n C dX9_open_73 rfl ?_
      refine z_iald C (P.m7) (hd.vp hn0 (by decide)) dX9_open_74 ?_
      refine Zs.ti (tT (rM ρ) 7 (ix d)) rfl ?_
      refine z_iast C (P.m15) (hin) dX9_open_75 ?_
      intro _ e8; subst e8
      rw [ha]
      have P := P.s15 (tn (rM ρ) 2) (tT (rM ρ) 7 (ix d))
      refine z_aload_n C dX9_open_76 rfl ?_
      refine z_getf C kcX9 flX9_60 (P.m) rfl dX9_open_77 ?_
      refine z_aload_n C dX9_open_80 rfl ?_
      refine z_getf C kcX9 flX9_90 (P.m) rfl dX9_open_81 ?_
      refine Zs.ti (nI (tn (rM ρ) 2)) rfl ?_
      refine z_aload_n C dX9_open_84 rfl ?_
      refine z_getf C kcX9 flX9_95 (P.m) rfl dX9_open_85 ?_
      refine Zs.ti (now (rM ρ)) rfl ?_
      refine z_iast C (P.m16) (hin) dX9_open_88 ?_
      intro _ e8; subst e8
      rw [ha]
      have P := P.s16 (tn (rM ρ) 2) (now (rM ρ))
      refine z_aload_n C dX9_open_89 rfl ?_
      refine z_getf C kcX9 flX9_63 (P.m) rfl dX9_open_90 ?_
      refine z_aload_n C dX9_open_93 rfl ?_
      refine z_getf C kcX9 flX9_90 (P.m) rfl dX9_open_94 ?_
      refine Zs.ti (nI (tn (rM ρ) 2)) rfl ?_
      refine z_iconst (v := (-1)) C dX9_open_97 (by decide) ?_
      refine z_iast C (P.m17) (hin) dX9_open_98 ?_
      intro _ e8; subst e8
      rw [ha]
      have P := P.s17 (tn (rM ρ) 2) (-1)
      refine z_aload_n C dX9_open_99 rfl ?_
      refine z_getf C kcX9 flX9_66 (P.m) rfl dX9_open_100 ?_
      refine z_aload_n C dX9_open_103 rfl ?_
      refine z_getf C kcX9 flX9_90 (P.m) rfl dX9_open_104 ?_
      refine Zs.ti (nI (tn (rM ρ) 2)) rfl ?_
      refine z_iconst (v := (-1)) C dX9_open_107 (by decide) ?_
      refine z_iast C (P.m18) (hin) dX9_open_108 ?_
      intro _ e8; subst e8
      rw [ha]
      have P := P.s18 (tn (rM ρ) 2) (-1)
      refine z_aload_n C dX9_open_109 rfl ?_
      refine z_getf C kcX9 flX9_69 (P.m) rfl dX9_open_110 ?_
      refine z_aload_n C dX9_open_113 rfl ?_
      refine z_getf C kcX9 flX9_90 (P.m) rfl dX9_open_114 ?_
      refine Zs.ti (nI (tn (rM ρ) 2)) rfl ?_
      refine z_aload_n C dX9_open_117 rfl ?_
      refine z_aload_n C dX9_open_118 rfl ?_
      refine z_getf C kcX9 flX9_32 (P.m) rfl dX9_open_119 ?_
      refine z_iload_n C dX9_open_122 rfl ?_
      refine z_iald C (P.m7) (hd.vp hn0 (by decide)) dX9_open_123 ?_
      refine z_iload_n C dX9_open_124 rfl ?_
      refine z_iload_n C dX9_open_125 rfl ?_
      refine z_aload_n C dX9_open_126 rfl ?_
      refine z_iload_n C dX9_open_127 rfl ?_
      refine z_rd (z_runV C kvX9_clockOf lkX9_123 kcX9 (k9_clockOf hB P hn0 hd (I.dr hi).1) (P.m) rfl rfl (zb rfl) (zb rfl) (zb rfl) (zb rfl) dX9_open_128) ?_
      refine z_rd (z_runV C kvX9_letter lkX9_143 kcX9 (k9_letter hB P hn3 I.K R hw hk0) (P.m) rfl rfl (zb rfl) (zb rfl) (zb rfl) (zb rfl) dX9_open_131) ?_
      refine Zs.ti (letter (rM ρ) (ix (tT (rM ρ) 7 (ix d))) k d (clk (rM ρ) (ix d))) rfl ?_
      refine z_cast C (P.m14) (hin) dX9_open_134 ?_
      intro _ e8; subst e8
      rw [ha, hvn]
      have P := P.s14 (tn (rM ρ) 2) (letter (rM ρ) (ix (tT (rM ρ) 7 (ix d))) k d (clk (rM ρ) (ix d)))
      refine z_aload_n C dX9_open_135 rfl ?_
      refine z_dup C dX9_open_136 rfl ?_
      refine z_getf C kcX9 flX9_90 (P.m) rfl dX9_open_137 ?_
      refine Zs.ti (nI (tn (rM ρ) 2)) rfl ?_
      refine z_iconst (v := 1) C dX9_open_140 (by decide) ?_
      refine z_iadd C dX9_open_141 ?_
      rw [nI_1]
      refine z_putf C kcX9 flX9_90 (P.m) rfl (rfl) (rfl) (zb rfl) dX9_open_142 ?_
      intro _ e8; subst e8
      have P := P.sAudits (tn (rM ρ) 2 + 1)
      have P := P.muEq (μ := sOpen (rM ρ) d k (clk (rM ρ) (ix d)) (letter (rM ρ) (ix (tT (rM ρ) 7 (ix d))) k d (clk (rM ρ) (ix d))) (tT (rM ρ) 7 (ix d))) rfl rfl rfl rfl rfl (fun c h1 h2 => by rcases c718 h1 h2 with rfl | rfl | rfl | rfl | rfl | rfl | rfl | rfl | rfl | rfl | rfl | rfl <;> rfl) rfl
      refine z_aload_n C dX9_open_145 rfl ?_
      refine z_getf C kcX9 flX9_69 (P.m) rfl dX9_open_146 ?_
      refine z_aload_n C dX9_open_149 rfl ?_
      refine z_getf C kcX9 flX9_90 (P.m) rfl dX9_open_150 ?_
      refine Zs.ti (nI (tn (rM ρ) 2 + 1)) rfl ?_
      refine z_iconst (v := 1) C dX9_open_153 (by decide) ?_
      refine z_isub C dX9_open_154 ?_
      rw [k_pred]
      refine z_cald C (P.m14) (hin) dX9_open_155 ?_
      refine Zs.ti (letter (rM ρ) (ix (tT (rM ρ) 7 (ix d))) k d (clk (rM ρ) (ix d))) ((congrArg (upd (tT (rM ρ) 14) (tn (rM ρ) 2) (letter (rM ρ) (ix (tT (rM ρ) 7 (ix d))) k d (clk (rM ρ) (ix d)))) ha).trans (if_pos rfl)) ?_
      exact z_zret C E (hnar) dX9_open_156 (Or.inl ⟨hd, hk, c3, P, rfl⟩) (zb rfl) (zb rfl)
    · rw [h60] at e1
      have e2 := (nI_eq (by omega) (by omega)).mp e1
      refine z_aload_n C dX9_open_20 rfl ?_
      refine z_iconst (v := 3) C dX9_open_21 (by decide) ?_
      refine z_rn (z_runV C kvX9_fails lkX9_102 kcX9 (k9_fails hB P) (P.m) rfl rfl (zb rfl) (zb rfl) (zb rfl) (zb rfl) dX9_open_22) (fun v9 h9 hv => ?_)
      obtain ⟨P, rfl⟩ := hv
      refine z_i2c C dX9_open_25 ?_
      exact z_zret C E (rfl) dX9_open_26 (Or.inr ⟨3, _, Or.inr (Or.inr (Or.inr ⟨hd, hk, fun q => absurd q (by omega), rfl⟩)), by decide, P, rfl⟩) (zb rfl) (zb rfl)
  · refine z_if_eq (tgt := 11) C dX9_open_6 (by decide) (fun e9 => absurd e9 ((by decide))) (fun _ => ?_)
    refine z_iconst (v := 0) C dX9_open_9 (by decide) ?_
    exact z_zret C E (rfl) dX9_open_10 (Or.inr ⟨1, _, Or.inr (Or.inl ⟨hd, rfl⟩), by decide, P, rfl⟩) (zb rfl) (zb rfl)
  · refine z_if_eq (tgt := 11) C dX9_open_6 (by decide) (fun e9 => absurd e9 ((by decide))) (fun _ => ?_)
    refine z_iconst (v := 0) C dX9_open_9 (by decide) ?_
    exact z_zret C E (rfl) dX9_open_10 (Or.inr ⟨2, _, Or.inr (Or.inr (Or.inl ⟨hd, hk, rfl⟩)), by decide, P, rfl⟩) (zb rfl) (zb rfl)
end
