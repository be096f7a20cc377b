/-! what always holds, kept by every call -/
section
variable {σ σ' : SG}
theorem OkV.mono {w : Int32} (h : OkV σ w) (hn : tn σ 3 ≤ tn σ' 3) : OkV σ' w := by
  obtain ⟨v, hv, e⟩ := h
  exact ⟨v, Nat.le_trans hv hn, e⟩
theorem OkV.ixle {w : Int32} (h : OkV σ w) (hn : tn σ 3 ≤ 50) : ix w ≤ tn σ 3 := by
  obtain ⟨v, hv, rfl⟩ := h
  have e : ix (nI v) = v := nI_clamp (by omega)
  omega
theorem In.mono {d : Int32} {n m : Nat} (h : In d n) (hn : n ≤ m) (hm : m < 2 ^ 31) : In d m := by
  obtain ⟨a, b⟩ := h.ix (by omega)
  rw [b]
  exact In.of (by omega) hm
theorem upd_at (f : Nat → Int32) (n : Nat) (x : Int32) : upd f n x n = x := if_pos rfl
theorem upd_ne {f : Nat → Int32} {n i : Nat} {x : Int32} (h : i ≠ n) : upd f n x i = f i := if_neg h
theorem rpo_upto : ∀ m, (∀ i, i < m → tT σ' 19 i = tT σ 19 i ∧ tT σ' 20 i = tT σ 20 i ∧ tT σ' 21 i = tT σ 21 i) → rpo σ' m = rpo σ m
  | 0, _ => rfl
  | m + 1, h => by
    obtain ⟨a, b, c⟩ := h m (Nat.lt_succ_self _)
    have ih := rpo_upto m (fun i hi => h i (Nat.lt_succ_of_lt hi))
    show (if tT σ' 20 m = -1 then upd (rpo σ' m) (ix (tT σ' 19 m)) (tT σ' 21 m) else rpo σ' m) = if tT σ 20 m = -1 then upd (rpo σ m) (ix (tT σ 19 m)) (tT σ 21 m) else rpo σ m
    rw [a, b, c, ih]
theorem rpv_upto {d f : Int32} : ∀ m, (∀ i, i < m → tT σ' 19 i = tT σ 19 i ∧ tT σ' 20 i = tT σ 20 i ∧ tT σ' 21 i = tT σ 21 i) → rpv σ' d f m = rpv σ d f m
  | 0, _ => rfl
  | m + 1, h => by
    obtain ⟨a, b, c⟩ := h m (Nat.lt_succ_self _)
    have ih := rpv_upto (d := d) (f := f) m (fun i hi => h i (Nat.lt_succ_of_lt hi))
    have ih2 := rpo_upto m (fun i hi => h i (Nat.lt_succ_of_lt hi))
    show (if tT σ' 20 m = -1 then rpv σ' d f m else if tT σ' 20 m = d then i32max (rpv σ' d f m) (rpo σ' m (ix (tT σ' 19 m))) else rpv σ' d f m) = if tT σ 20 m = -1 then rpv σ d f m else if tT σ 20 m = d then i32max (rpv σ d f m) (rpo σ m (ix (tT σ 19 m))) else rpv σ d f m
    rw [a, b, ih, ih2]
theorem rpo_p {m p : Nat} (h : ∀ i, i < m → tT σ' 19 i = tT σ 19 i ∧ tT σ' 20 i = tT σ 20 i ∧ tT σ' 21 i = tT σ 21 i) : rpo σ' m p = rpo σ m p := congrFun (rpo_upto m h) p
theorem rpv_none {d f : Int32} : ∀ m, (∀ i, i < m → tT σ 20 i = -1 ∨ tT σ 20 i ≠ d) → rpv σ d f m = f
  | 0, _ => rfl
  | m + 1, h => by
    have ih := rpv_none (d := d) (f := f) m (fun i hi => h i (Nat.lt_succ_of_lt hi))
    show (if tT σ 20 m = -1 then rpv σ d f m else if tT σ 20 m = d then _ else rpv σ d f m) = f
    rcases h m (Nat.lt_succ_self _) with e | e
    · rw [if_pos e, ih]
    · by_cases e2 : tT σ 20 m = -1
      · rw [if_pos e2, ih]
      · rw [if_neg e2, if_neg e, ih]
theorem letter_same {v : Nat} {k d m : Int32} (h0 : lastc (tT σ' 0) k v = lastc (tT σ 0) k v) (hc : ∀ c, c < v → tT σ' 1 c = tT σ 1 c ∧ tT σ' 2 c = tT σ 2 c ∧ tT σ' 3 c = tT σ 3 c ∧ tT σ' 4 c = tT σ 4 c) : letter σ' v k d m = letter σ v k d m := by
  unfold letter
  rw [h0]
  cases hl : lastc (tT σ 0) k v with
  | none => rfl
  | some c =>
    obtain ⟨a1, a2, a3, a4⟩ := hc c (lastc_lt hl).1
    show lA (tT σ' 4 c) (tT σ' 1 c) (tT σ' 2 c) (tT σ' 3 c) d m = lA (tT σ 4 c) (tT σ 1 c) (tT σ 2 c) (tT σ 3 c) d m
    rw [a1, a2, a3, a4]
theorem letter_eq {v : Nat} {k d m : Int32} (h0 : tT σ' 0 = tT σ 0) (h1 : tT σ' 1 = tT σ 1) (h2 : tT σ' 2 = tT σ 2) (h3 : tT σ' 3 = tT σ 3) (h4 : tT σ' 4 = tT σ 4) : letter σ' v k d m = letter σ v k d m := letter_same (by rw [h0]) (fun c _ => ⟨by rw [h1], by rw [h2], by rw [h3], by rw [h4]⟩)
/-- a change made -/
theorem Inv.push (I : Inv σ) {j kc kc' : Nat} {d f t r : Int32} (hv : tn σ 3 < 50) (hn : tn σ' = nc (tn σ) 3 (tn σ 3 + 1)) (hR : tR σ' = tR σ) (hnow : now σ' = now σ) (hc : ∀ c, 6 ≤ c → c ≤ 21 → tT σ' c = tT σ c)
    (t0 : tT σ' 0 = upd (tT σ 0) (tn σ 3) (nI j)) (h1 : tT σ' 1 = upd (tT σ 1) (tn σ 3) d) (h2 : tT σ' 2 = upd (tT σ 2) (tn σ 3) f) (h3 : tT σ' 3 = upd (tT σ 3) (tn σ 3) t) (h4 : tT σ' 4 = upd (tT σ 4) (tn σ 3) r)
    (hkc : tT σ 22 1 = nI kc) (hkc' : tT σ' 22 1 = nI kc') (h8 : kc' ≤ 8) (hle : kc ≤ kc') (hj : j < kc') (hall : ∀ i, i < kc' → i < kc ∨ i = j) (hr : r = 0 ∨ r = 1) : Inv σ' := by
  have n3 : tn σ' 3 = tn σ 3 + 1 := by rw [hn]; rfl
  have n0 : tn σ' 0 = tn σ 0 := by rw [hn]; rfl
  have n1 : tn σ' 1 = tn σ 1 := by rw [hn]; rfl
  have n2 : tn σ' 2 = tn σ 2 := by rw [hn]; rfl
  have n4 : tn σ' 4 = tn σ 4 := by rw [hn]; rfl
  have hm : tn σ 3 ≤ tn σ' 3 := by omega
  obtain ⟨N, T, D, P, A, M, R, K⟩ := I
  have hN3 := N.2.2.2
  have e1 : ix (nI kc) = kc := nI_clamp (by omega)
  have e2 : ix (nI kc') = kc' := nI_clamp (by omega)
  refine ⟨⟨by rw [n0]; exact N.1, by rw [n1]; exact N.2.1, by rw [n2]; exact N.2.2.1, by omega⟩, by unfold IvT; rw [hnow]; exact T, fun i hi => ?_, ⟨fun i hi => ?_, fun i hi => ?_⟩, fun a ha => ?_, fun i hi => ?_, ⟨fun p => ?_, fun i hi => ?_⟩, ⟨⟨kc', h8, hkc'⟩, fun c hc9 => ?_, fun k hk => ?_⟩⟩
  · rw [n0] at hi
    obtain ⟨a, b, c, d, e⟩ := D i hi
    rw [hc 8 (by decide) (by decide), hc 9 (by decide) (by decide), hc 7 (by decide) (by decide), hc 6 (by decide) (by decide), hR, hnow]
    exact ⟨a, b, c, d.mono hm, e.mono hm⟩
  · rw [n1] at hi
    rw [hc 10 (by decide) (by decide)]
    exact (P.1 i hi).mono hm
  · rw [n1] at hi
    rw [hc 10 (by decide) (by decide)]
    exact P.2 i hi
  · rw [n2] at ha
    obtain ⟨a1, a2, a3, a4, a5⟩ := A a ha
    rw [hc 15 (by decide) (by decide), hc 13 (by decide) (by decide), hc 12 (by decide) (by decide), hc 11 (by decide) (by decide), hc 14 (by decide) (by decide), hc 17 (by decide) (by decide), hc 16 (by decide) (by decide), hc 18 (by decide) (by decide), hnow]
    refine ⟨a1.mono hm, a2, a3, ?_, a5⟩
    rw [a4]
    have hx := a1.ixle hN3
    refine (letter_same (by rw [t0]; exact lastc_upd hx) (fun c hc => ?_)).symm
    rw [h1, h2, h3, h4, upd_ne (by omega), upd_ne (by omega), upd_ne (by omega), upd_ne (by omega)]
    exact ⟨rfl, rfl, rfl, rfl⟩
  · rw [n4] at hi
    obtain ⟨a, b, c⟩ := M i hi
    rw [hc 19 (by decide) (by decide), hc 20 (by decide) (by decide), hc 21 (by decide) (by decide), n0, n1]
    exact ⟨a, b, c.mono hm⟩
  · rw [n4, hc 10 (by decide) (by decide), rpo_upto (σ := σ) (tn σ 4) (fun i _ => by rw [hc 19 (by decide) (by decide), hc 20 (by decide) (by decide), hc 21 (by decide) (by decide)]; exact ⟨rfl, rfl, rfl⟩)]
    exact R.1 p
  · rw [n0] at hi
    rw [n4, hc 6 (by decide) (by decide), hc 7 (by decide) (by decide), rpv_upto (σ := σ) (tn σ 4) (fun i _ => by rw [hc 19 (by decide) (by decide), hc 20 (by decide) (by decide), hc 21 (by decide) (by decide)]; exact ⟨rfl, rfl, rfl⟩)]
    exact R.2 i hi
  · rw [t0, h4, hkc', e2]
    by_cases e : c = tn σ 3
    · rw [e, upd_at, upd_at]
      exact ⟨In.of hj (by omega), hr⟩
    · rw [upd_ne e, upd_ne e]
      obtain ⟨a, b⟩ := K.2.1 c (by omega)
      rw [hkc, e1] at a
      exact ⟨a.mono hle (by omega), b⟩
  · rw [hkc', e2] at hk
    rw [t0]
    rcases hall k hk with h | h
    · obtain ⟨c, a, b⟩ := K.2.2 k (by rw [hkc, e1]; exact h)
      exact ⟨c, by omega, by rw [upd_ne (by omega)]; exact b⟩
    · exact ⟨tn σ 3, by omega, by rw [upd_at, h]⟩
theorem c621 {c : Nat} (h1 : 6 ≤ c) (h2 : c ≤ 21) : c = 6 ∨ c = 7 ∨ c = 8 ∨ c = 9 ∨ c = 10 ∨ c = 11 ∨ c = 12 ∨ c = 13 ∨ c = 14 ∨ c = 15 ∨ c = 16 ∨ c = 17 ∨ c = 18 ∨ c = 19 ∨ c = 20 ∨ c = 21 := by omega
theorem Inv.addKey (I : Inv σ) {d f t : Int32} (hr : cRoom σ) : Inv (sAddKey σ d f t) := by
  obtain ⟨kc, h8, hkc⟩ := I.K.1
  have hk : kc < 8 := by
    have := hr.1
    rw [hkc, show (8 : Int32) = nI 8 by decide] at this
    exact (nI_ltI (by omega) (by omega)).mp this
  refine I.push (j := kc) (kc := kc) (kc' := kc + 1) (d := d) (f := f) (t := t) (r := 0) hr.2 rfl rfl rfl (fun c h1 h2 => by rcases c621 h1 h2 with rfl | rfl | rfl | rfl | rfl | rfl | rfl | rfl | rfl | rfl | rfl | rfl | rfl | rfl | rfl | rfl <;> rfl) ?_ rfl rfl rfl rfl hkc ?_ (by omega) (by omega) (by omega) (fun i hi => by omega) (Or.inl rfl)
  · show upd (tT σ 0) (tn σ 3) (tT σ 22 1) = _
    rw [hkc]
  · show tT σ 22 1 + 1 = _
    rw [hkc, nI_1]
theorem hasK.at (I : Inv σ) {k : Int32} (hk : hasK σ k) : ∃ j kc, k = nI j ∧ j < kc ∧ kc ≤ 8 ∧ tT σ 22 1 = nI kc ∧ (tT σ 4 (kS σ k) = 0 ∨ tT σ 4 (kS σ k) = 1) := by
  obtain ⟨kc, h8, hkc⟩ := I.K.1
  cases hl : lastc (tT σ 0) k (tn σ 3) with
  | none => exact absurd hl hk
  | some c =>
    obtain ⟨a, b⟩ := lastc_lt hl
    obtain ⟨c1, c2⟩ := I.K.2.1 c a
    have e1 : ix (nI kc) = kc := nI_clamp (by omega)
    rw [b, hkc, e1] at c1
    obtain ⟨d1, d2⟩ := c1.ix (by omega)
    exact ⟨ix k, kc, d2, d1, h8, hkc, by rw [(kS_of hl).2]; exact c2⟩
theorem Inv.setK (I : Inv σ) {k d f t r : Int32} (hk : hasK σ k) (hv : tn σ 3 < 50) (hr : r = 0 ∨ r = 1) : Inv (sPush σ k d f t r) := by
  obtain ⟨j, kc, rfl, hj, h8, hkc, -⟩ := hk.at I
  exact I.push (j := j) (kc := kc) (kc' := kc) (d := d) (f := f) (t := t) (r := r) hv rfl rfl rfl (fun c h1 h2 => by rcases c621 h1 h2 with rfl | rfl | rfl | rfl | rfl | rfl | rfl | rfl | rfl | rfl | rfl | rfl | rfl | rfl | rfl | rfl <;> rfl) rfl rfl rfl rfl rfl hkc hkc h8 (Nat.le_refl _) hj (fun i hi => Or.inl hi) hr
theorem Inv.addDoor (I : Inv σ) (h5 : tn σ 0 < 5) : Inv (sAddDoor σ) := by
  obtain ⟨N, T, D, P, A, M, R, K⟩ := I
  have cut : ∀ i, i < tn (sAddDoor σ) 0 → i < tn σ 0 ∨ i = tn σ 0 := fun i hi => by
    have : i < tn σ 0 + 1 := hi
    omega
  have vn : OkV σ (nI (tn σ 3)) := ⟨_, Nat.le_refl _, rfl⟩
  refine ⟨⟨by show tn σ 0 + 1 ≤ 5; omega, N.2⟩, T, fun i hi => ?_, P, A, fun i hi => ?_, ⟨fun p => ?_, fun i hi => ?_⟩, K⟩
  · show ((0 ≤ (upd (tT σ 8) (tn σ 0) (now σ) i).toInt ∧ (upd (tT σ 8) (tn σ 0) (now σ) i).toInt ≤ (now σ).toInt) ∧ (0 ≤ (upd (tT σ 9) (tn σ 0) (now σ) i).toInt ∧ (upd (tT σ 9) (tn σ 0) (now σ) i).toInt ≤ 2 * (upd (tT σ 8) (tn σ 0) (now σ) i).toInt) ∧ okR (if i = tn σ 0 then FP.fconst1 else tR σ i) ∧ OkV σ (upd (tT σ 7) (tn σ 0) (nI (tn σ 3)) i) ∧ OkV σ (upd (tT σ 6) (tn σ 0) (nI (tn σ 3)) i))
    rcases cut i hi with h | h
    · rw [upd_ne (by omega), upd_ne (by omega), upd_ne (by omega), upd_ne (by omega), if_neg (by omega)]
      exact D i h
    · rw [h, upd_at, upd_at, upd_at, upd_at, if_pos rfl]
      exact ⟨⟨T.1, Int.le_refl _⟩, ⟨T.1, by have := T.1; omega⟩, okR_1, vn, vn⟩
  · obtain ⟨a, b, c⟩ := M i hi
    exact ⟨a, b.imp id (fun q => q.mono (show tn σ 0 ≤ tn σ 0 + 1 by omega) (show tn σ 0 + 1 < 2 ^ 31 by omega)), c⟩
  · show rpo (sAddDoor σ) (tn σ 4) p = tT σ 10 p
    refine Eq.trans (rpo_p (σ := σ) ?_) (R.1 p)
    exact fun i _ => ⟨rfl, rfl, rfl⟩
  · show rpv (sAddDoor σ) (nI i) (upd (tT σ 6) (tn σ 0) (nI (tn σ 3)) i) (tn σ 4) = upd (tT σ 7) (tn σ 0) (nI (tn σ 3)) i
    refine Eq.trans (rpv_upto (σ' := sAddDoor σ) (σ := σ) _ (fun i _ => ⟨rfl, rfl, rfl⟩)) ?_
    rcases cut i hi with h | h
    · rw [upd_ne (by omega), upd_ne (by omega)]
      exact R.2 i h
    · rw [h, upd_at, upd_at]
      refine rpv_none _ (fun z hz => ?_)
      rcases (M z hz).2.1 with e | e
      · exact Or.inl e
      · refine Or.inr (fun q => ?_)
        rw [q] at e
        have := (nI_ltI (by omega) (by omega)).mp e.2
        omega
/-- a door's clock set -/
theorem Inv.clock (I : Inv σ) {i : Nat} {m : Int32} {r : UInt32} (hr : okR r) (h0 : 0 ≤ m.toInt) (h1 : m.toInt ≤ 2 * (now σ).toInt) : Inv (sRate (sClock σ i m) i r) := by
  obtain ⟨N, T, D, P, A, M, R, K⟩ := I
  refine ⟨N, T, fun j hj => ?_, P, A, M, ⟨fun p => ?_, fun j hj => ?_⟩, K⟩
  · show ((0 ≤ (upd (tT σ 8) i (now σ) j).toInt ∧ (upd (tT σ 8) i (now σ) j).toInt ≤ (now σ).toInt) ∧ (0 ≤ (upd (tT σ 9) i m j).toInt ∧ (upd (tT σ 9) i m j).toInt ≤ 2 * (upd (tT σ 8) i (now σ) j).toInt) ∧ okR (if j = i then r else tR σ j) ∧ OkV σ (tT σ 7 j) ∧ OkV σ (tT σ 6 j))
    obtain ⟨a, b, c, d, e⟩ := D j hj
    by_cases h : j = i
    · rw [h, upd_at, upd_at, if_pos rfl]
      rw [h] at d e
      exact ⟨⟨T.1, Int.le_refl _⟩, ⟨h0, h1⟩, hr, d, e⟩
    · rw [upd_ne h, upd_ne h, if_neg h]
      exact ⟨a, b, c, d, e⟩
  · show rpo _ (tn σ 4) p = tT σ 10 p
    refine Eq.trans (rpo_p (σ := σ) ?_) (R.1 p)
    exact fun i _ => ⟨rfl, rfl, rfl⟩
  · show rpv _ (nI j) (tT σ 6 j) (tn σ 4) = tT σ 7 j
    refine Eq.trans (rpv_upto (σ := σ) _ ?_) (R.2 j hj)
    exact fun i _ => ⟨rfl, rfl, rfl⟩
theorem Inv.setRate (I : Inv σ) {d th : Int32} (hd : In d (tn σ 0)) (ht : cTh th) : Inv (sSetRate σ (ix d) th) := by
  have hn := I.N.1
  have hi := (hd.ix (by omega)).1
  obtain ⟨a, b⟩ := I.ck hi
  exact I.clock (fp_rate ht.1 ht.2).2.2 a b
theorem Inv.addPhone (I : Inv σ) (h3 : tn σ 1 < 3) : Inv (sAddPhone σ) := by
  obtain ⟨N, T, D, P, A, M, R, K⟩ := I
  refine ⟨⟨N.1, by show tn σ 1 + 1 ≤ 3; omega, N.2.2⟩, T, D, ⟨fun i hi => ?_, fun i hi => ?_⟩, A, fun i hi => ?_, ⟨fun p => ?_, fun i hi => ?_⟩, K⟩
  · show OkV σ (tT σ 10 i)
    have hi : i < tn σ 1 + 1 := hi
    by_cases h : i = tn σ 1
    · rw [P.2 i (by omega)]
      exact ⟨0, Nat.zero_le _, rfl⟩
    · exact P.1 i (by omega)
  · have hi : tn σ 1 + 1 ≤ i := hi
    exact P.2 i (by omega)
  · obtain ⟨a, b, c⟩ := M i hi
    exact ⟨a.mono (show tn σ 1 ≤ tn σ 1 + 1 by omega) (show tn σ 1 + 1 < 2 ^ 31 by omega), b, c⟩
  · show rpo _ (tn σ 4) p = tT σ 10 p
    refine Eq.trans (rpo_p (σ := σ) ?_) (R.1 p)
    exact fun i _ => ⟨rfl, rfl, rfl⟩
  · show rpv _ (nI i) (tT σ 6 i) (tn σ 4) = tT σ 7 i
    refine Eq.trans (rpv_upto (σ := σ) _ ?_) (R.2 i hi)
    exact fun i _ => ⟨rfl, rfl, rfl⟩
theorem Inv.pass (I : Inv σ) {m : Int32} (hc : cPass σ m) : Inv (sPass σ m) := by
  obtain ⟨N, T, D, P, A, M, R, K⟩ := I
  have b1 := Int32.le_iff_toInt_le.mp (Int32.not_lt.mp hc.1.1)
  have b2 := Int32.le_iff_toInt_le.mp hc.1.2
  have b3 := Int32.le_iff_toInt_le.mp hc.2
  have k1 : (1 : Int32).toInt = 1 := rfl
  have k2 : (10000 : Int32).toInt = 10000 := rfl
  obtain ⟨a1, a2⟩ := T
  have e2 : (100000 - now σ : Int32).toInt = 100000 - (now σ).toInt := i_sub a1 (by show (now σ).toInt ≤ 100000; omega)
  have e1 : (now σ + m).toInt = (now σ).toInt + m.toInt := i_add a1 (by omega) (by omega)
  have nn : now (sPass σ m) = now σ + m := rfl
  refine ⟨N, ⟨by rw [nn]; omega, by rw [nn]; omega⟩, fun j hj => ?_, P, fun a ha => ?_, M, ⟨fun p => ?_, fun j hj => ?_⟩, K⟩
  · obtain ⟨⟨a, b⟩, c⟩ := D j hj
    have b : (tT σ 8 j).toInt ≤ (now σ).toInt := b
    exact ⟨⟨a, by rw [nn]; show (tT σ 8 j).toInt ≤ _; omega⟩, c⟩
  · obtain ⟨c1, c2, c3, c4, c5, c6, c7, c8⟩ := A a ha
    refine ⟨c1, c2, c3, c4, c5, c6, c7.imp id (fun q => ⟨q.1, ?_⟩), ?_⟩
    · rw [nn]; show (tT σ 18 a).toInt ≤ _; have := q.2; omega
    · rw [nn]; show (tT σ 16 a).toInt ≤ _; omega
  · show rpo _ (tn σ 4) p = tT σ 10 p
    refine Eq.trans (rpo_p (σ := σ) ?_) (R.1 p)
    exact fun i _ => ⟨rfl, rfl, rfl⟩
  · show rpv _ (nI j) (tT σ 6 j) (tn σ 4) = tT σ 7 j
    refine Eq.trans (rpv_upto (σ := σ) _ ?_) (R.2 j hj)
    exact fun i _ => ⟨rfl, rfl, rfl⟩
theorem Inv.meetCloud (I : Inv σ) {p : Int32} (hp : In p (tn σ 1)) : Inv (sMeetCloud σ p) := by
  obtain ⟨N, T, D, P, A, M, R, K⟩ := I
  have hn1 := N.2.1
  obtain ⟨hpi, hpe⟩ := hp.ix (by omega)
  have vn : OkV σ (nI (tn σ 3)) := ⟨_, Nat.le_refl _, rfl⟩
  have cols : ∀ i, i < tn σ 4 → tT (sMeetCloud σ p) 19 i = tT σ 19 i ∧ tT (sMeetCloud σ p) 20 i = tT σ 20 i ∧ tT (sMeetCloud σ p) 21 i = tT σ 21 i := fun i hi => ⟨upd_ne (n := tn σ 4) (by omega), upd_ne (n := tn σ 4) (by omega), upd_ne (n := tn σ 4) (by omega)⟩
  have c20 : tT (sMeetCloud σ p) 20 (tn σ 4) = -1 := upd_at _ _ _
  have c19 : tT (sMeetCloud σ p) 19 (tn σ 4) = p := upd_at _ _ _
  have c21 : tT (sMeetCloud σ p) 21 (tn σ 4) = nI (tn σ 3) := upd_at _ _ _
  refine ⟨N, T, D, ⟨fun i hi => ?_, fun i hi => ?_⟩, fun a ha => ?_, fun i hi => ?_, ⟨fun q => ?_, fun j hj => ?_⟩, K⟩
  · show OkV σ (upd (tT σ 10) (ix p) (nI (tn σ 3)) i)
    by_cases h : i = ix p
    · rw [h, upd_at]; exact vn
    · rw [upd_ne h]; exact P.1 i hi
  · have hi : tn σ 1 ≤ i := hi
    show upd (tT σ 10) (ix p) (nI (tn σ 3)) i = 0
    rw [upd_ne (by omega)]
    exact P.2 i hi
  · obtain ⟨c1, c2, c3, c4, c5, c6, c7, c8⟩ := A a ha
    refine ⟨c1, c2, c3, c4, c5, c6, ?_, c8⟩
    show (if a < tn σ 2 ∧ pCarr σ p a = true then now σ else tT σ 18 a) = -1 ∨ ((tT σ 16 a).toInt ≤ (if a < tn σ 2 ∧ pCarr σ p a = true then now σ else tT σ 18 a).toInt ∧ (if a < tn σ 2 ∧ pCarr σ p a = true then now σ else tT σ 18 a).toInt ≤ (now σ).toInt)
    split
    · exact Or.inr ⟨c8, Int.le_refl _⟩
    · exact c7
  · have hi : i < tn σ 4 + 1 := hi
    by_cases h : i = tn σ 4
    · rw [h, c19, c20, c21]
      exact ⟨hp, Or.inl rfl, vn⟩
    · obtain ⟨e1, e2, e3⟩ := cols i (by omega)
      rw [e1, e2, e3]
      exact M i (by omega)
  · show rpo (sMeetCloud σ p) (tn σ 4 + 1) q = upd (tT σ 10) (ix p) (nI (tn σ 3)) q
    show (if tT (sMeetCloud σ p) 20 (tn σ 4) = -1 then upd (rpo (sMeetCloud σ p) (tn σ 4)) (ix (tT (sMeetCloud σ p) 19 (tn σ 4))) (tT (sMeetCloud σ p) 21 (tn σ 4)) else rpo (sMeetCloud σ p) (tn σ 4)) q = _
    rw [if_pos c20, c19, c21, rpo_upto (σ' := sMeetCloud σ p) (σ := σ) _ cols]
    by_cases h : q = ix p
    · rw [h, upd_at, upd_at]
    · rw [upd_ne h, upd_ne h]; exact R.1 q
  · show rpv (sMeetCloud σ p) (nI j) (tT σ 6 j) (tn σ 4 + 1) = tT σ 7 j
    show (if tT (sMeetCloud σ p) 20 (tn σ 4) = -1 then rpv (sMeetCloud σ p) (nI j) (tT σ 6 j) (tn σ 4) else _) = _
    rw [if_pos c20, rpv_upto (σ' := sMeetCloud σ p) (σ := σ) _ cols]
    exact R.2 j hj
theorem Inv.meetDoor (I : Inv σ) {p d : Int32} (hp : In p (tn σ 1)) (hd : In d (tn σ 0)) : Inv (sMeetDoor σ p d) := by
  obtain ⟨N, T, D, P, A, M, R, K⟩ := I
  have hn1 := N.2.1
  have hn0 := N.1
  obtain ⟨hpi, hpe⟩ := hp.ix (by omega)
  obtain ⟨hdi, hde⟩ := hd.ix (by omega)
  have vn : OkV σ (nI (tn σ 3)) := ⟨_, Nat.le_refl _, rfl⟩
  have cols : ∀ i, i < tn σ 4 → tT (sMeetDoor σ p d) 19 i = tT σ 19 i ∧ tT (sMeetDoor σ p d) 20 i = tT σ 20 i ∧ tT (sMeetDoor σ p d) 21 i = tT σ 21 i := fun i hi => ⟨upd_ne (n := tn σ 4) (by omega), upd_ne (n := tn σ 4) (by omega), upd_ne (n := tn σ 4) (by omega)⟩
  have c20 : tT (sMeetDoor σ p d) 20 (tn σ 4) = d := upd_at _ _ _
  have c19 : tT (sMeetDoor σ p d) 19 (tn σ 4) = p := upd_at _ _ _
  have c21 : tT (sMeetDoor σ p d) 21 (tn σ 4) = nI (tn σ 3) := upd_at _ _ _
  have hd1 : ¬ d = -1 := fun q => hd.1 (by rw [q]; decide)
  have hmx : OkV σ (i32max (tT σ 7 (ix d)) (tT σ 10 (ix p))) := by
    unfold i32max
    split
    · exact P.1 _ hpi
    · exact (D _ hdi).2.2.2.1
  refine ⟨N, T, fun j hj => ?_, P, fun a ha => ?_, fun i hi => ?_, ⟨fun q => ?_, fun j hj => ?_⟩, K⟩
  · show ((0 ≤ (upd (tT σ 8) (ix d) (now σ) j).toInt ∧ (upd (tT σ 8) (ix d) (now σ) j).toInt ≤ (now σ).toInt) ∧ (0 ≤ (upd (tT σ 9) (ix d) (now σ) j).toInt ∧ (upd (tT σ 9) (ix d) (now σ) j).toInt ≤ 2 * (upd (tT σ 8) (ix d) (now σ) j).toInt) ∧ okR (tR σ j) ∧ OkV σ (upd (tT σ 7) (ix d) (i32max (tT σ 7 (ix d)) (tT σ 10 (ix p))) j) ∧ OkV σ (tT σ 6 j))
    obtain ⟨a, b, c, e, f⟩ := D j hj
    by_cases h : j = ix d
    · rw [h, upd_at, upd_at, upd_at]
      rw [h] at c f
      exact ⟨⟨T.1, Int.le_refl _⟩, ⟨T.1, by have := T.1; omega⟩, c, hmx, f⟩
    · rw [upd_ne h, upd_ne h, upd_ne h]
      exact ⟨a, b, c, e, f⟩
  · obtain ⟨c1, c2, c3, c4, c5, c6, c7, c8⟩ := A a ha
    refine ⟨c1, c2, c3, c4, ?_, c6, c7, c8⟩
    show (if a < tn σ 2 ∧ pWait σ d a = true then p else tT σ 17 a) = -1 ∨ 0 ≤ (if a < tn σ 2 ∧ pWait σ d a = true then p else tT σ 17 a)
    split
    · exact Or.inr (Int32.not_lt.mp hp.1)
    · exact c5
  · have hi : i < tn σ 4 + 1 := hi
    by_cases h : i = tn σ 4
    · rw [h, c19, c20, c21]
      exact ⟨hp, Or.inr hd, vn⟩
    · obtain ⟨e1, e2, e3⟩ := cols i (by omega)
      rw [e1, e2, e3]
      exact M i (by omega)
  · show rpo (sMeetDoor σ p d) (tn σ 4 + 1) q = tT σ 10 q
    show (if tT (sMeetDoor σ p d) 20 (tn σ 4) = -1 then _ else rpo (sMeetDoor σ p d) (tn σ 4)) q = _
    rw [if_neg (by rw [c20]; exact hd1), rpo_upto (σ' := sMeetDoor σ p d) (σ := σ) _ cols]
    exact R.1 q
  · show rpv (sMeetDoor σ p d) (nI j) (tT σ 6 j) (tn σ 4 + 1) = upd (tT σ 7) (ix d) (i32max (tT σ 7 (ix d)) (tT σ 10 (ix p))) j
    show (if tT (sMeetDoor σ p d) 20 (tn σ 4) = -1 then _ else if tT (sMeetDoor σ p d) 20 (tn σ 4) = nI j then i32max (rpv (sMeetDoor σ p d) (nI j) (tT σ 6 j) (tn σ 4)) (rpo (sMeetDoor σ p d) (tn σ 4) (ix (tT (sMeetDoor σ p d) 19 (tn σ 4)))) else rpv (sMeetDoor σ p d) (nI j) (tT σ 6 j) (tn σ 4)) = _
    rw [if_neg (by rw [c20]; exact hd1), c20, c19, rpo_upto (σ' := sMeetDoor σ p d) (σ := σ) _ cols, rpv_upto (σ' := sMeetDoor σ p d) (σ := σ) _ cols, R.2 j hj, R.1]
    have hj : j < tn σ 0 := hj
    by_cases h : j = ix d
    · rw [if_pos (by rw [h]; exact hde), h, upd_at]
    · rw [if_neg (fun q => h (by
        rw [q]
        exact (show ix (nI j) = j from nI_clamp (by omega)).symm)), upd_ne h]
theorem Inv.opn (I : Inv σ) {d k : Int32} (hd : In d (tn σ 0)) (hk : hasK σ k) (h60 : tn σ 2 < 60) : Inv (sOpen σ d k (clk σ (ix d)) (letter σ (ix (tT σ 7 (ix d))) k d (clk σ (ix d))) (tT σ 7 (ix d))) := by
  have hn0 := I.N.1
  have hi := (hd.ix (by omega)).1
  obtain ⟨ck1, ck2⟩ := I.ck hi
  obtain ⟨j, kc, hkj, hjk, h8, -⟩ := hk.at I
  have hk0 : 0 ≤ k := by rw [hkj]; exact nI_pos' (by omega)
  obtain ⟨N, T, D, P, A, M, R, K⟩ := I
  refine ⟨⟨N.1, N.2.1, by show tn σ 2 + 1 ≤ 60; omega, N.2.2.2⟩, T, D, P, fun a ha => ?_, M, ⟨fun q => ?_, fun j hj => ?_⟩, K⟩
  · have ha : a < tn σ 2 + 1 := ha
    have hl : ∀ {v : Nat} {k' d' m' : Int32}, letter (sOpen σ d k (clk σ (ix d)) (letter σ (ix (tT σ 7 (ix d))) k d (clk σ (ix d))) (tT σ 7 (ix d))) v k' d' m' = letter σ v k' d' m' := letter_eq rfl rfl rfl rfl rfl
    rw [hl]
    show OkV σ (upd (tT σ 15) (tn σ 2) (tT σ 7 (ix d)) a) ∧ 0 ≤ upd (tT σ 13) (tn σ 2) (clk σ (ix d)) a ∧ 0 ≤ upd (tT σ 12) (tn σ 2) k a ∧ upd (tT σ 14) (tn σ 2) (letter σ (ix (tT σ 7 (ix d))) k d (clk σ (ix d))) a = letter σ (ix (upd (tT σ 15) (tn σ 2) (tT σ 7 (ix d)) a)) (upd (tT σ 12) (tn σ 2) k a) (upd (tT σ 11) (tn σ 2) d a) (upd (tT σ 13) (tn σ 2) (clk σ (ix d)) a) ∧ (upd (tT σ 17) (tn σ 2) (-1) a = -1 ∨ 0 ≤ upd (tT σ 17) (tn σ 2) (-1) a) ∧ 0 ≤ (upd (tT σ 16) (tn σ 2) (now σ) a).toInt ∧ (upd (tT σ 18) (tn σ 2) (-1) a = -1 ∨ ((upd (tT σ 16) (tn σ 2) (now σ) a).toInt ≤ (upd (tT σ 18) (tn σ 2) (-1) a).toInt ∧ (upd (tT σ 18) (tn σ 2) (-1) a).toInt ≤ (now σ).toInt)) ∧ (upd (tT σ 16) (tn σ 2) (now σ) a).toInt ≤ (now σ).toInt
    by_cases h : a = tn σ 2
    · rw [h]
      simp only [upd_at]
      exact ⟨(D _ hi).2.2.2.1, i_le ck1, hk0, trivial, Or.inl trivial, T.1, Or.inl trivial, Int.le_refl _⟩
    · simp only [upd_ne h]
      exact A a (by omega)
  · show rpo _ (tn σ 4) q = tT σ 10 q
    refine Eq.trans (rpo_p (σ := σ) ?_) (R.1 q)
    exact fun i _ => ⟨rfl, rfl, rfl⟩
  · show rpv _ (nI j) (tT σ 6 j) (tn σ 4) = tT σ 7 j
    refine Eq.trans (rpv_upto (σ := σ) _ ?_) (R.2 j hj)
    exact fun i _ => ⟨rfl, rfl, rfl⟩
/-- the empty ledger -/
def s0 : SG := (fun _ _ => 0, fun _ => 0, fun _ => 0)
theorem Inv.zero : Inv s0 := by
  refine ⟨⟨Nat.zero_le _, Nat.zero_le _, Nat.zero_le _, Nat.zero_le _⟩, ⟨Int.le_refl _, by show (0 : Int) ≤ 100000; decide⟩, fun i hi => absurd hi (Nat.not_lt_zero _), ⟨fun i hi => absurd hi (Nat.not_lt_zero _), fun i _ => rfl⟩, fun i hi => absurd hi (Nat.not_lt_zero _), fun i hi => absurd hi (Nat.not_lt_zero _), ⟨fun p => rfl, fun i hi => absurd hi (Nat.not_lt_zero _)⟩, ⟨⟨0, Nat.zero_le _, rfl⟩, fun i hi => absurd hi (Nat.not_lt_zero _), fun i hi => absurd hi (Nat.not_lt_zero _)⟩⟩
/-! the reference's lists, after each of its changes -/
theorem RD.same {μ μ' : SG} {K A : Nat → Int32} {D : Nat → Nat → Nat → Int32} (R : RD μ K A D) (hn : tn μ' 3 = tn μ 3) (h0 : tT μ' 0 = tT μ 0) (h1 : tT μ' 1 = tT μ 1) (h2 : tT μ' 2 = tT μ 2) (h3 : tT μ' 3 = tT μ 3) (h4 : tT μ' 4 = tT μ 4) (h5 : tT μ' 5 = tT μ 5) (hk : tT μ' 22 1 = tT μ 22 1) : RD μ' K A D := by
  unfold RD
  rw [hn, h0, h1, h2, h3, h4, h5, hk]
  exact R
end
section
variable {ρ : RG}
theorem uD_at {D : Nat → Nat → Nat → Int32} {c v k : Nat} {x : Int32} : uD D c v k x c v k = x := if_pos ⟨rfl, rfl, rfl⟩
theorem uD_c {D : Nat → Nat → Nat → Int32} {c c' v k v' k' : Nat} {x : Int32} (h : c' ≠ c) : uD D c v k x c' v' k' = D c' v' k' := if_neg (fun q => h q.1)
theorem uD_k {D : Nat → Nat → Nat → Int32} {c c' v k v' k' : Nat} {x : Int32} (h : k' ≠ k) : uD D c v k x c' v' k' = D c' v' k' := if_neg (fun q => h q.2.2)
theorem uD_v {D : Nat → Nat → Nat → Int32} {c c' v k v' k' : Nat} {x : Int32} (h : v' ≠ v) : uD D c v k x c' v' k' = D c' v' k' := if_neg (fun q => h q.2.1)
theorem dC_v {D : Nat → Nat → Nat → Int32} {n j c v k : Nat} (h : v ≠ n + 1) : dC D n j c v k = D c v k := if_neg (fun q => h q.2.1)
theorem dC_at {D : Nat → Nat → Nat → Int32} {n j c k : Nat} (hc : c < 4) (hk : k < j) : dC D n j c (n + 1) k = D c n k := if_pos ⟨hc, rfl, hk⟩
theorem bin_dC {D : Nat → Nat → Nat → Int32} {n j : Nat} (h : ∀ v k, D 3 v k = 0 ∨ D 3 v k = 1) (v k : Nat) : dC D n j 3 v k = 0 ∨ dC D n j 3 v k = 1 := by
  unfold dC
  split
  · exact h n k
  · exact h v k
theorem bin_uD {D : Nat → Nat → Nat → Int32} {c v' k' : Nat} {x : Int32} (h : ∀ v k, D 3 v k = 0 ∨ D 3 v k = 1) (hx : c ≠ 3 ∨ x = 0 ∨ x = 1) (v k : Nat) : uD D c v' k' x 3 v k = 0 ∨ uD D c v' k' x 3 v k = 1 := by
  unfold uD
  split
  · next q =>
    rcases hx with e | e
    · exact absurd q.1.symm e
    · exact e
  · exact h v k
/-- what a key that is there says -/
theorem RDr.at (R : RDr ρ) (I : Inv (rM ρ)) {k : Int32} (hk : hasK (rM ρ) k) : ∃ j kc, k = nI j ∧ ix k = j ∧ j < kc ∧ kc ≤ 8 ∧ tT (rM ρ) 22 1 = nI kc ∧ rK ρ (tn (rM ρ) 3) = nI kc ∧ (∀ i, i < 8 → ((¬ i = j ∧ lastc (tT (rM ρ) 0) (nI i) (tn (rM ρ) 3) = none) ↔ kc ≤ i)) ∧ rD ρ 0 (tn (rM ρ) 3) j = tT (rM ρ) 1 (kS (rM ρ) k) ∧ rD ρ 1 (tn (rM ρ) 3) j = tT (rM ρ) 2 (kS (rM ρ) k) ∧ rD ρ 2 (tn (rM ρ) 3) j = tT (rM ρ) 3 (kS (rM ρ) k) ∧ rD ρ 3 (tn (rM ρ) 3) j = tT (rM ρ) 4 (kS (rM ρ) k) := by
  obtain ⟨j, kc, hkj, hj, h8, hkc, -⟩ := hk.at I
  have hKn : rK ρ (tn (rM ρ) 3) = nI kc := by rw [← hkc]; exact R.2.2.2.2.1
  have ej : ix k = j := by rw [hkj]; exact nI_clamp (by omega)
  cases hl : lastc (tT (rM ρ) 0) k (tn (rM ρ) 3) with
  | none => exact absurd hl hk
  | some c =>
    have hl2 : lastc (tT (rM ρ) 0) (nI j) (tn (rM ρ) 3) = some c := by rw [← hkj]; exact hl
    obtain ⟨d0, d1, d2, d3⟩ := R.2.2.2.1 _ (Nat.le_refl _) j (by omega) c hl2
    rw [(kS_of hl).2]
    refine ⟨j, kc, hkj, ej, hj, h8, hkc, hKn, fun i hi => ?_, d0, d1, d2, d3⟩
    obtain ⟨kc2, a, b, e⟩ := R.2.2.1 _ (Nat.le_refl _)
    have hb : rK ρ (tn (rM ρ) 3) = nI kc2 := b
    rw [hKn] at hb
    have e2 := (nI_eq (by omega) (by omega)).mp hb
    rw [e2, ← e i hi]
    constructor
    · exact fun q => q.2
    · intro q
      refine ⟨fun z => ?_, q⟩
      rw [z, hl2] at q
      cases q
theorem RD.okAddKey (R : RDr ρ) (I : Inv (rM ρ)) (hr : cRoom (rM ρ)) {d f t : Int32} : RDr (okAddKey ρ d f t) := by
  obtain ⟨kc, h8, hkc⟩ := I.K.1
  have hk : kc < 8 := by
    have := hr.1
    rw [hkc, show (8 : Int32) = nI 8 by decide] at this
    exact (nI_ltI (by omega) (by omega)).mp this
  have hKn : rK ρ (tn (rM ρ) 3) = nI kc := by rw [← hkc]; exact R.2.2.2.2.1
  have hjx : ix (tT (rM ρ) 22 1) = kc := by rw [hkc]; exact nI_clamp (by omega)
  obtain ⟨kc2, a, b, e⟩ := R.2.2.1 _ (Nat.le_refl _)
  have hb : rK ρ (tn (rM ρ) 3) = nI kc2 := b
  rw [hKn] at hb
  have e2 := (nI_eq (by omega) (by omega)).mp hb
  have hbin := R.2.2.2.2.2.1
  refine RD.push (j := kc) (kc' := kc + 1) (d := d) (f := f) (t := t) (r := 0) R hk rfl ?_ rfl rfl rfl rfl rfl rfl (fun v hv => ?_) ?_ (by omega) (fun i hi => ?_) ?_ (fun c v i hv => ?_) (fun c i hc hi hij => ?_) ?_ ?_ ?_ ?_ ?_
  · show upd (tT (rM ρ) 0) (tn (rM ρ) 3) (tT (rM ρ) 22 1) = _
    rw [hkc]
  · show upd (upd (rK ρ) (tn (rM ρ) 3 + 1) (rK ρ (tn (rM ρ) 3))) (tn (rM ρ) 3 + 1) (rK ρ (tn (rM ρ) 3) + 1) v = rK ρ v
    rw [upd_ne (by omega), upd_ne (by omega)]
  · show upd (upd (rK ρ) (tn (rM ρ) 3 + 1) (rK ρ (tn (rM ρ) 3))) (tn (rM ρ) 3 + 1) (rK ρ (tn (rM ρ) 3) + 1) (tn (rM ρ) 3 + 1) = _
    rw [upd_at, hKn, nI_1]
  · have := e i hi
    rw [this, ← e2]
    omega
  · show tT (rM ρ) 22 1 + 1 = _
    rw [hkc, nI_1]
  · show uD (uD (uD (dC (rD ρ) (tn (rM ρ) 3) 8) 0 (tn (rM ρ) 3 + 1) (ix (tT (rM ρ) 22 1)) d) 1 (tn (rM ρ) 3 + 1) (ix (tT (rM ρ) 22 1)) f) 2 (tn (rM ρ) 3 + 1) (ix (tT (rM ρ) 22 1)) t c v i = _
    rw [uD_v (by omega), uD_v (by omega), uD_v (by omega), dC_v (by omega)]
  · show uD (uD (uD (dC (rD ρ) (tn (rM ρ) 3) 8) 0 (tn (rM ρ) 3 + 1) (ix (tT (rM ρ) 22 1)) d) 1 (tn (rM ρ) 3 + 1) (ix (tT (rM ρ) 22 1)) f) 2 (tn (rM ρ) 3 + 1) (ix (tT (rM ρ) 22 1)) t c (tn (rM ρ) 3 + 1) i = _
    rw [hjx, uD_k hij, uD_k hij, uD_k hij, dC_at hc hi]
  · show uD (uD (uD (dC (rD ρ) (tn (rM ρ) 3) 8) 0 (tn (rM ρ) 3 + 1) (ix (tT (rM ρ) 22 1)) d) 1 (tn (rM ρ) 3 + 1) (ix (tT (rM ρ) 22 1)) f) 2 (tn (rM ρ) 3 + 1) (ix (tT (rM ρ) 22 1)) t 0 (tn (rM ρ) 3 + 1) kc = d
    rw [hjx, uD_c (by decide), uD_c (by decide), uD_at]
  · show uD (uD (uD (dC (rD ρ) (tn (rM ρ) 3) 8) 0 (tn (rM ρ) 3 + 1) (ix (tT (rM ρ) 22 1)) d) 1 (tn (rM ρ) 3 + 1) (ix (tT (rM ρ) 22 1)) f) 2 (tn (rM ρ) 3 + 1) (ix (tT (rM ρ) 22 1)) t 1 (tn (rM ρ) 3 + 1) kc = f
    rw [hjx, uD_c (by decide), uD_at]
  · show uD (uD (uD (dC (rD ρ) (tn (rM ρ) 3) 8) 0 (tn (rM ρ) 3 + 1) (ix (tT (rM ρ) 22 1)) d) 1 (tn (rM ρ) 3 + 1) (ix (tT (rM ρ) 22 1)) f) 2 (tn (rM ρ) 3 + 1) (ix (tT (rM ρ) 22 1)) t 2 (tn (rM ρ) 3 + 1) kc = t
    rw [hjx, uD_at]
  · show uD (uD (uD (dC (rD ρ) (tn (rM ρ) 3) 8) 0 (tn (rM ρ) 3 + 1) (ix (tT (rM ρ) 22 1)) d) 1 (tn (rM ρ) 3 + 1) (ix (tT (rM ρ) 22 1)) f) 2 (tn (rM ρ) 3 + 1) (ix (tT (rM ρ) 22 1)) t 3 (tn (rM ρ) 3 + 1) kc = 0
    rw [uD_c (by decide), uD_c (by decide), uD_c (by decide), dC_at (by decide) hk]
    exact R.2.2.2.2.2.2 _ (Nat.le_refl _) kc hk ((e kc hk).mpr (by omega))
  · intro v i
    show uD (uD (uD (dC (rD ρ) (tn (rM ρ) 3) 8) 0 (tn (rM ρ) 3 + 1) (ix (tT (rM ρ) 22 1)) d) 1 (tn (rM ρ) 3 + 1) (ix (tT (rM ρ) 22 1)) f) 2 (tn (rM ρ) 3 + 1) (ix (tT (rM ρ) 22 1)) t 3 v i = 0 ∨ uD (uD (uD (dC (rD ρ) (tn (rM ρ) 3) 8) 0 (tn (rM ρ) 3 + 1) (ix (tT (rM ρ) 22 1)) d) 1 (tn (rM ρ) 3 + 1) (ix (tT (rM ρ) 22 1)) f) 2 (tn (rM ρ) 3 + 1) (ix (tT (rM ρ) 22 1)) t 3 v i = 1
    exact bin_uD (fun v i => bin_uD (fun v i => bin_uD (fun v i => bin_dC hbin v i) (Or.inl (by decide)) v i) (Or.inl (by decide)) v i) (Or.inl (by decide)) v i
theorem RD.okSetTimes (R : RDr ρ) (I : Inv (rM ρ)) {key f t : Int32} (hk : hasK (rM ρ) key) (hz : tT (rM ρ) 4 (kS (rM ρ) key) = 0) : RDr (okSetTimes ρ key f t) := by
  obtain ⟨j, kc, hkj, ej, hj, h8, hkc, hKn, e, g0, g1, g2, g3⟩ := RDr.at R I hk
  have hbin := R.2.2.2.2.2.1
  refine RD.push (j := j) (kc' := kc) (d := tT (rM ρ) 1 (kS (rM ρ) key)) (f := f) (t := t) (r := 0) R (by omega) rfl ?_ rfl rfl rfl rfl rfl rfl (fun v hv => ?_) ?_ h8 e hkc (fun c v i hv => ?_) (fun c i hc hi hij => ?_) ?_ ?_ ?_ ?_ ?_
  · show upd (tT (rM ρ) 0) (tn (rM ρ) 3) key = _
    rw [hkj]
  · exact upd_ne (n := tn (rM ρ) 3 + 1) (by omega)
  · exact (upd_at _ _ _).trans hKn
  · show uD (uD (dC (rD ρ) (tn (rM ρ) 3) 8) 1 (tn (rM ρ) 3 + 1) (ix key) f) 2 (tn (rM ρ) 3 + 1) (ix key) t c v i = _
    rw [uD_v (by omega), uD_v (by omega), dC_v (by omega)]
  · show uD (uD (dC (rD ρ) (tn (rM ρ) 3) 8) 1 (tn (rM ρ) 3 + 1) (ix key) f) 2 (tn (rM ρ) 3 + 1) (ix key) t c (tn (rM ρ) 3 + 1) i = _
    rw [ej, uD_k hij, uD_k hij, dC_at hc hi]
  · show uD (uD (dC (rD ρ) (tn (rM ρ) 3) 8) 1 (tn (rM ρ) 3 + 1) (ix key) f) 2 (tn (rM ρ) 3 + 1) (ix key) t 0 (tn (rM ρ) 3 + 1) j = _
    rw [uD_c (by decide), uD_c (by decide), dC_at (by decide) (by omega), g0]
  · show uD (uD (dC (rD ρ) (tn (rM ρ) 3) 8) 1 (tn (rM ρ) 3 + 1) (ix key) f) 2 (tn (rM ρ) 3 + 1) (ix key) t 1 (tn (rM ρ) 3 + 1) j = _
    rw [ej, uD_c (by decide), uD_at]
  · show uD (uD (dC (rD ρ) (tn (rM ρ) 3) 8) 1 (tn (rM ρ) 3 + 1) (ix key) f) 2 (tn (rM ρ) 3 + 1) (ix key) t 2 (tn (rM ρ) 3 + 1) j = _
    rw [ej, uD_at]
  · show uD (uD (dC (rD ρ) (tn (rM ρ) 3) 8) 1 (tn (rM ρ) 3 + 1) (ix key) f) 2 (tn (rM ρ) 3 + 1) (ix key) t 3 (tn (rM ρ) 3 + 1) j = _
    rw [uD_c (by decide), uD_c (by decide), dC_at (by decide) (by omega), g3, hz]
  · intro v i
    show uD (uD (dC (rD ρ) (tn (rM ρ) 3) 8) 1 (tn (rM ρ) 3 + 1) (ix key) f) 2 (tn (rM ρ) 3 + 1) (ix key) t 3 v i = 0 ∨ uD (uD (dC (rD ρ) (tn (rM ρ) 3) 8) 1 (tn (rM ρ) 3 + 1) (ix key) f) 2 (tn (rM ρ) 3 + 1) (ix key) t 3 v i = 1
    exact bin_uD (fun v i => bin_uD (fun v i => bin_dC hbin v i) (Or.inl (by decide)) v i) (Or.inl (by decide)) v i
theorem RD.okSetDoors (R : RDr ρ) (I : Inv (rM ρ)) {key d : Int32} (hk : hasK (rM ρ) key) (hz : tT (rM ρ) 4 (kS (rM ρ) key) = 0) : RDr (okSetDoors ρ key d) := by
  obtain ⟨j, kc, hkj, ej, hj, h8, hkc, hKn, e, g0, g1, g2, g3⟩ := RDr.at R I hk
  have hbin := R.2.2.2.2.2.1
  refine RD.push (j := j) (kc' := kc) (d := d) (f := tT (rM ρ) 2 (kS (rM ρ) key)) (t := tT (rM ρ) 3 (kS (rM ρ) key)) (r := 0) R (by omega) rfl ?_ rfl rfl rfl rfl rfl rfl (fun v hv => ?_) ?_ h8 e hkc (fun c v i hv => ?_) (fun c i hc hi hij => ?_) ?_ ?_ ?_ ?_ ?_
  · show upd (tT (rM ρ) 0) (tn (rM ρ) 3) key = _
    rw [hkj]
  · exact upd_ne (n := tn (rM ρ) 3 + 1) (by omega)
  · exact (upd_at _ _ _).trans hKn
  · show uD (dC (rD ρ) (tn (rM ρ) 3) 8) 0 (tn (rM ρ) 3 + 1) (ix key) d c v i = _
    rw [uD_v (by omega), dC_v (by omega)]
  · show uD (dC (rD ρ) (tn (rM ρ) 3) 8) 0 (tn (rM ρ) 3 + 1) (ix key) d c (tn (rM ρ) 3 + 1) i = _
    rw [ej, uD_k hij, dC_at hc hi]
  · show uD (dC (rD ρ) (tn (rM ρ) 3) 8) 0 (tn (rM ρ) 3 + 1) (ix key) d 0 (tn (rM ρ) 3 + 1) j = _
    rw [ej, uD_at]
  · show uD (dC (rD ρ) (tn (rM ρ) 3) 8) 0 (tn (rM ρ) 3 + 1) (ix key) d 1 (tn (rM ρ) 3 + 1) j = _
    rw [uD_c (by decide), dC_at (by decide) (by omega), g1]
  · show uD (dC (rD ρ) (tn (rM ρ) 3) 8) 0 (tn (rM ρ) 3 + 1) (ix key) d 2 (tn (rM ρ) 3 + 1) j = _
    rw [uD_c (by decide), dC_at (by decide) (by omega), g2]
  · show uD (dC (rD ρ) (tn (rM ρ) 3) 8) 0 (tn (rM ρ) 3 + 1) (ix key) d 3 (tn (rM ρ) 3 + 1) j = _
    rw [uD_c (by decide), dC_at (by decide) (by omega), g3, hz]
  · intro v i
    show uD (dC (rD ρ) (tn (rM ρ) 3) 8) 0 (tn (rM ρ) 3 + 1) (ix key) d 3 v i = 0 ∨ uD (dC (rD ρ) (tn (rM ρ) 3) 8) 0 (tn (rM ρ) 3 + 1) (ix key) d 3 v i = 1
    exact bin_uD (fun v i => bin_dC hbin v i) (Or.inl (by decide)) v i
theorem RD.okRevoke (R : RDr ρ) (I : Inv (rM ρ)) {key : Int32} (hk : hasK (rM ρ) key) : RDr (okRevoke ρ key) := by
  obtain ⟨j, kc, hkj, ej, hj, h8, hkc, hKn, e, g0, g1, g2, g3⟩ := RDr.at R I hk
  have hbin := R.2.2.2.2.2.1
  refine RD.push (j := j) (kc' := kc) (d := tT (rM ρ) 1 (kS (rM ρ) key)) (f := tT (rM ρ) 2 (kS (rM ρ) key)) (t := tT (rM ρ) 3 (kS (rM ρ) key)) (r := 1) R (by omega) rfl ?_ rfl rfl rfl rfl rfl rfl (fun v hv => ?_) ?_ h8 e hkc (fun c v i hv => ?_) (fun c i hc hi hij => ?_) ?_ ?_ ?_ ?_ ?_
  · show upd (tT (rM ρ) 0) (tn (rM ρ) 3) key = _
    rw [hkj]
  · exact upd_ne (n := tn (rM ρ) 3 + 1) (by omega)
  · exact (upd_at _ _ _).trans hKn
  · show uD (dC (rD ρ) (tn (rM ρ) 3) 8) 3 (tn (rM ρ) 3 + 1) (ix key) 1 c v i = _
    rw [uD_v (by omega), dC_v (by omega)]
  · show uD (dC (rD ρ) (tn (rM ρ) 3) 8) 3 (tn (rM ρ) 3 + 1) (ix key) 1 c (tn (rM ρ) 3 + 1) i = _
    rw [ej, uD_k hij, dC_at hc hi]
  · show uD (dC (rD ρ) (tn (rM ρ) 3) 8) 3 (tn (rM ρ) 3 + 1) (ix key) 1 0 (tn (rM ρ) 3 + 1) j = _
    rw [uD_c (by decide), dC_at (by decide) (by omega), g0]
  · show uD (dC (rD ρ) (tn (rM ρ) 3) 8) 3 (tn (rM ρ) 3 + 1) (ix key) 1 1 (tn (rM ρ) 3 + 1) j = _
    rw [uD_c (by decide), dC_at (by decide) (by omega), g1]
  · show uD (dC (rD ρ) (tn (rM ρ) 3) 8) 3 (tn (rM ρ) 3 + 1) (ix key) 1 2 (tn (rM ρ) 3 + 1) j = _
    rw [uD_c (by decide), dC_at (by decide) (by omega), g2]
  · show uD (dC (rD ρ) (tn (rM ρ) 3) 8) 3 (tn (rM ρ) 3 + 1) (ix key) 1 3 (tn (rM ρ) 3 + 1) j = _
    rw [ej, uD_at]
  · intro v i
    show uD (dC (rD ρ) (tn (rM ρ) 3) 8) 3 (tn (rM ρ) 3 + 1) (ix key) 1 3 v i = 0 ∨ uD (dC (rD ρ) (tn (rM ρ) 3) 8) 3 (tn (rM ρ) 3 + 1) (ix key) 1 3 v i = 1
    exact bin_uD (fun v i => bin_dC hbin v i) (Or.inr (Or.inr rfl)) v i
end
