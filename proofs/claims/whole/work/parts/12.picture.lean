/-! THE STATE OF A LEDGER, AS COLUMNS, AND THE PICTURE OF THE HEAP. A state: columns of ints (0-5 changes: key, doors, from, to, revoked, madeAt; 6-9 doors: firstVersion, version, setAt, setTo; 10 phones: version; 11-18 audits: door, key, minute, letter, version, time, taker, arrivedAt; 19-21 meetings: phone, door, cloudVersion; 22: now, keys), the doors' rates, the counts (doors, phones, audits, changes, meetings) -/
abbrev SG : Type := (Nat → Nat → Int32) × (Nat → UInt32) × (Nat → Nat)
abbrev tT (σ : SG) : Nat → Nat → Int32 := σ.1
abbrev tR (σ : SG) : Nat → UInt32 := σ.2.1
abbrev tn (σ : SG) : Nat → Nat := σ.2.2
def tc (T : Nat → Nat → Int32) (c : Nat) (f : Nat → Int32) : Nat → Nat → Int32 := fun c' => if c' = c then f else T c'
def t1 (T : Nat → Nat → Int32) (c i : Nat) (v : Int32) : Nat → Nat → Int32 := tc T c (upd (T c) i v)
def nc (n : Nat → Nat) (j v : Nat) : Nat → Nat := fun j' => if j' = j then v else n j'
/-- the rest of the world: the array of the replay, the reference (thrown, its state, keysIn, madeAt, the lists of versions), the law's two arrays -/
abbrev RG : Type := (Nat → Int32) × Int32 × SG × (Nat → Int32) × (Nat → Int32) × (Nat → Nat → Nat → Int32) × (Nat → Int64) × (Nat → UInt64)
abbrev rF (ρ : RG) : Nat → Int32 := ρ.1
abbrev rt (ρ : RG) : Int32 := ρ.2.1
abbrev rM (ρ : RG) : SG := ρ.2.2.1
abbrev rK (ρ : RG) : Nat → Int32 := ρ.2.2.2.1
abbrev rA (ρ : RG) : Nat → Int32 := ρ.2.2.2.2.1
abbrev rD (ρ : RG) : Nat → Nat → Nat → Int32 := ρ.2.2.2.2.2.1
abbrev rJ (ρ : RG) : Nat → Int64 := ρ.2.2.2.2.2.2.1
abbrev rQ (ρ : RG) : Nat → UInt64 := ρ.2.2.2.2.2.2.2
section
variable (G : GT) (loc : Nat → Nat → Nat) (σ : SG) (ρ : RG)
abbrev oX : va_E := .inr (8, [.ref (loc 0 1), .ref (loc 1 0), .ref (loc 1 1), .ref (loc 1 2), .ref (loc 0 2), .int (tT σ 22 0)])
abbrev oCl : va_E := .inr (2, [.ref (loc 1 3), .int (tT σ 22 1)])
abbrev oMs : va_E := .inr (6, [.ref (loc 1 4), .ref (loc 0 3)])
abbrev oList (j : Nat) : va_E := .inr (0, [.int (nI (tn σ j)), .ref (if tn σ j = 0 then gd G else loc 2 j), .int (nI (tn σ j))])
abbrev oEl (j : Nat) : va_E := oO G (cpf (tn σ j)) (fun i => if i < tn σ j then some (loc (3 + j) i) else none)
abbrev oDoor (i : Nat) : va_E := .inr (3, [.int (tT σ 6 i), .int (tT σ 7 i), .float (tR σ i), .int (tT σ 8 i), .int (tT σ 9 i)])
abbrev oPhone (i : Nat) : va_E := .inr (7, [.int (tT σ 10 i)])
abbrev oAudit (i : Nat) : va_E := .inr (1, [.int (tT σ 11 i), .int (tT σ 12 i), .int (tT σ 13 i), .int (tT σ 14 i), .int (tT σ 15 i), .int (tT σ 16 i), .int (tT σ 17 i), .int (tT σ 18 i)])
abbrev oKey (i : Nat) : va_E := .inr (4, [.int (tT σ 0 i), .int (tT σ 1 i), .int (tT σ 2 i), .int (tT σ 3 i), .int (tT σ 4 i), .int (tT σ 5 i)])
abbrev oMeet (i : Nat) : va_E := .inr (5, [.int (tT σ 19 i), .int (tT σ 20 i), .int (tT σ 21 i)])
abbrev oM : va_E := .inr (9, [.int (rt ρ), .ref (loc 8 1), .ref (loc 8 2), .ref (loc 8 3), .ref (loc 8 4), .ref (loc 8 5), .ref (loc 8 6), .int (nI (tn (rM ρ) 3)), .int (tT (rM ρ) 22 0), .ref (loc 8 9), .ref (loc 8 10), .ref (loc 8 11), .ref (loc 8 12), .ref (loc 8 13), .int (nI (tn (rM ρ) 0)), .int (nI (tn (rM ρ) 1)), .ref (loc 8 16), .ref (loc 8 17), .ref (loc 8 18), .ref (loc 8 19), .ref (loc 8 20), .ref (loc 8 21), .ref (loc 8 22), .ref (loc 8 23), .int (nI (tn (rM ρ) 2))])
def ob0 (i : Nat) : va_E := match i with
  | 0 => oX loc σ
  | 1 => oCl loc σ
  | 2 => oMs loc
  | 3 => oI G 3 (rF ρ)
  | 4 => oM loc ρ
  | 5 => oJ G 1 (rJ ρ)
  | _ => oD G 1 (rQ ρ)
def ob8 (i : Nat) : va_E := match i with
  | 1 => oI G 51 (rK ρ)
  | 2 => oI G 51 (rA ρ)
  | 3 => oII G 51 (fun v => some (loc 9 v))
  | 4 => oII G 51 (fun v => some (loc 10 v))
  | 5 => oII G 51 (fun v => some (loc 11 v))
  | 6 => oZZ G 51 (fun v => some (loc 12 v))
  | 9 => oI G 5 (tT (rM ρ) 7)
  | 10 => oI G 5 (tT (rM ρ) 8)
  | 11 => oI G 5 (tT (rM ρ) 9)
  | 12 => oI G 3 (tT (rM ρ) 10)
  | 13 => oF G 5 (tR (rM ρ))
  | 16 => oI G 60 (tT (rM ρ) 11)
  | 17 => oI G 60 (tT (rM ρ) 12)
  | 18 => oI G 60 (tT (rM ρ) 13)
  | 19 => oI G 60 (tT (rM ρ) 15)
  | 20 => oI G 60 (tT (rM ρ) 16)
  | 21 => oI G 60 (tT (rM ρ) 17)
  | 22 => oI G 60 (tT (rM ρ) 18)
  | _ => oC G 60 (tT (rM ρ) 14)
def ob (k i : Nat) : va_E := match k with
  | 0 => ob0 G loc σ ρ i
  | 1 => oList G loc σ i
  | 2 => oEl G loc σ i
  | 3 => oDoor σ i
  | 4 => oPhone σ i
  | 5 => oAudit σ i
  | 6 => oKey σ i
  | 7 => oMeet σ i
  | 8 => ob8 G loc ρ i
  | 9 => oI G 8 (rD ρ 0 i)
  | 10 => oI G 8 (rD ρ 1 i)
  | 11 => oI G 8 (rD ρ 2 i)
  | _ => oZ G 8 (rD ρ 3 i)
end
def dm (n : Nat → Nat) (k i : Nat) : Prop := match k with
  | 0 => i < 7
  | 1 => i < 5
  | 2 => i < 5 ∧ 0 < n i
  | 3 => i < n 0
  | 4 => i < n 1
  | 5 => i < n 2
  | 6 => i < n 3
  | 7 => i < n 4
  | 8 => i ∈ [1, 2, 3, 4, 5, 6, 9, 10, 11, 12, 13, 16, 17, 18, 19, 20, 21, 22, 23]
  | 9 => i < 51
  | 10 => i < 51
  | 11 => i < 51
  | 12 => i < 51
  | _ => False
/-- the heap holds the picture: its objects at places that are apart -/
def PW (G : GT) (h : Hp) (loc : Nat → Nat → Nat) (σ : SG) (ρ : RG) : Prop := (∀ k i, dm (tn σ) k i → h (loc k i) = some (ob G loc σ ρ k i)) ∧ (∀ k i k' i', dm (tn σ) k i → dm (tn σ) k' i' → loc k i = loc k' i' → k = k' ∧ i = i') ∧ ∀ j, tn σ j ≤ 600
/-- the places that the law knows stay, and those of all objects but the lists' arrays -/
def Same (n : Nat → Nat) (loc loc' : Nat → Nat → Nat) : Prop := ∀ k i, dm n k i → k ≠ 2 → loc' k i = loc k i
section
variable {G : GT} {h : Hp} {loc loc' : Nat → Nat → Nat} {σ σ' : SG} {ρ ρ' : RG}
theorem PW.lt (P : PW G h loc σ ρ) (j : Nat) : tn σ j ≤ 600 := P.2.2 j
theorem PW.x (P : PW G h loc σ ρ) : h (loc 0 0) = some (oX loc σ) := P.1 0 0 (show 0 < 7 by decide)
theorem PW.xo (P : PW G h loc σ ρ) {x : Nat} (hx : loc 0 0 = x) : h x = some (oX loc σ) := by rw [← hx]; exact P.x
theorem PW.cl (P : PW G h loc σ ρ) : h (loc 0 1) = some (oCl loc σ) := P.1 0 1 (show 1 < 7 by decide)
theorem PW.ms (P : PW G h loc σ ρ) : h (loc 0 2) = some (oMs loc) := P.1 0 2 (show 2 < 7 by decide)
theorem PW.on (P : PW G h loc σ ρ) : h (loc 0 3) = some (oI G 3 (rF ρ)) := P.1 0 3 (show 3 < 7 by decide)
theorem PW.m (P : PW G h loc σ ρ) : h (loc 0 4) = some (oM loc ρ) := P.1 0 4 (show 4 < 7 by decide)
theorem PW.mo (P : PW G h loc σ ρ) {m : Nat} (hm : loc 0 4 = m) : h m = some (oM loc ρ) := by rw [← hm]; exact P.m
theorem PW.J (P : PW G h loc σ ρ) : h (loc 0 5) = some (oJ G 1 (rJ ρ)) := P.1 0 5 (show 5 < 7 by decide)
theorem PW.Q (P : PW G h loc σ ρ) : h (loc 0 6) = some (oD G 1 (rQ ρ)) := P.1 0 6 (show 6 < 7 by decide)
theorem PW.list (P : PW G h loc σ ρ) {j : Nat} (hj : j < 5) : h (loc 1 j) = some (oList G loc σ j) := P.1 1 j hj
theorem PW.listP (P : PW G h loc σ ρ) {j : Nat} (hj : j < 5) (h0 : 0 < tn σ j) : h (loc 1 j) = some (.inr (0, [.int (nI (tn σ j)), .ref (loc 2 j), .int (nI (tn σ j))])) := by
  rw [P.list hj]
  show some (Sum.inr (0, [_, Value.ref (if tn σ j = 0 then gd G else loc 2 j), _])) = _
  rw [if_neg (by omega)]
theorem PW.el (P : PW G h loc σ ρ) {j : Nat} (hj : j < 5) (h0 : 0 < tn σ j) : h (loc 2 j) = some (oEl G loc σ j) := P.1 2 j ⟨hj, h0⟩
theorem PW.door (P : PW G h loc σ ρ) {i : Nat} (hi : i < tn σ 0) : h (loc 3 i) = some (oDoor σ i) := P.1 3 i hi
theorem PW.phone (P : PW G h loc σ ρ) {i : Nat} (hi : i < tn σ 1) : h (loc 4 i) = some (oPhone σ i) := P.1 4 i hi
theorem PW.audit (P : PW G h loc σ ρ) {i : Nat} (hi : i < tn σ 2) : h (loc 5 i) = some (oAudit σ i) := P.1 5 i hi
theorem PW.key (P : PW G h loc σ ρ) {i : Nat} (hi : i < tn σ 3) : h (loc 6 i) = some (oKey σ i) := P.1 6 i hi
theorem PW.meet (P : PW G h loc σ ρ) {i : Nat} (hi : i < tn σ 4) : h (loc 7 i) = some (oMeet σ i) := P.1 7 i hi
theorem PW.ma (P : PW G h loc σ ρ) (i : Nat) (hi : i ∈ [1, 2, 3, 4, 5, 6, 9, 10, 11, 12, 13, 16, 17, 18, 19, 20, 21, 22, 23]) : h (loc 8 i) = some (ob8 G loc ρ i) := P.1 8 i hi
theorem PW.d0 (P : PW G h loc σ ρ) {v : Nat} (hv : v < 51) : h (loc 9 v) = some (oI G 8 (rD ρ 0 v)) := P.1 9 v hv
theorem PW.d1 (P : PW G h loc σ ρ) {v : Nat} (hv : v < 51) : h (loc 10 v) = some (oI G 8 (rD ρ 1 v)) := P.1 10 v hv
theorem PW.d2 (P : PW G h loc σ ρ) {v : Nat} (hv : v < 51) : h (loc 11 v) = some (oI G 8 (rD ρ 2 v)) := P.1 11 v hv
theorem PW.d3 (P : PW G h loc σ ρ) {v : Nat} (hv : v < 51) : h (loc 12 v) = some (oZ G 8 (rD ρ 3 v)) := P.1 12 v hv
/-- an object of the picture, written anew -/
theorem PW.set (P : PW G h loc σ ρ) {k i : Nat} {o : va_E} (hd : dm (tn σ) k i) (hn : tn σ' = tn σ) (ho : ob G loc σ' ρ' k i = o) (h1 : ∀ i', i' ≠ i → dm (tn σ) k i' → ob G loc σ' ρ' k i' = ob G loc σ ρ k i') (h2 : ∀ k' i', k' ≠ k → dm (tn σ) k' i' → ob G loc σ' ρ' k' i' = ob G loc σ ρ k' i') : PW G (hup h (loc k i) o) loc σ' ρ' := by
  refine ⟨fun k' i' hd' => ?_, by rw [hn]; exact P.2.1, by rw [hn]; exact P.2.2⟩
  rw [hn] at hd'
  by_cases ek : k' = k
  · subst ek
    by_cases ei : i' = i
    · subst ei
      rw [hup_self, ho]
    · rw [hup_ne (fun e => ei (P.2.1 _ _ _ _ hd' hd e).2), P.1 _ _ hd', h1 i' ei hd']
  · rw [hup_ne (fun e => ek (P.2.1 _ _ _ _ hd' hd e).1), P.1 _ _ hd', h2 k' i' ek hd']
theorem PW.new (P : PW G h loc σ ρ) {q : Nat} (hq : h q = none) : ∀ k i, dm (tn σ) k i → loc k i ≠ q := fun k i hd => h_nn (P.1 k i hd) hq
/-- an object that isn't of the picture -/
theorem PW.off (P : PW G h loc σ ρ) {q : Nat} (hq : ∀ k i, dm (tn σ) k i → loc k i ≠ q) (o : va_E) : PW G (hup h q o) loc σ ρ := ⟨fun k i hd => by rw [hup_ne (hq k i hd)]; exact P.1 k i hd, P.2.1, P.2.2⟩
theorem Same.refl (n : Nat → Nat) (loc : Nat → Nat → Nat) : Same n loc loc := fun _ _ _ _ => rfl
/-- an object added to a list: the list's array may be a new one -/
theorem PW.add (P : PW G h loc σ ρ) {j q ci : Nat} {xs : List Value} (hj : j < 5) (hq : ∀ k i, dm (tn σ) k i → loc k i ≠ q) (hx : h q = some (.inr (ci, xs))) (hb : tn σ j < 600) (hn : tn σ' = nc (tn σ) j (tn σ j + 1)) (ho : ∀ loc, ob G loc σ' ρ (3 + j) (tn σ j) = .inr (ci, xs))
    (h1 : ∀ loc k i, dm (tn σ) k i → k ≠ 1 → k ≠ 2 → ob G loc σ' ρ k i = ob G loc σ ρ k i) {arr : Nat} (ha : (arr = (if tn σ j = 0 then gd G else loc 2 j) ∧ 0 < tn σ j) ∨ h arr = none) :
    ∃ loc', Same (tn σ) loc loc' ∧ PW G (hup (hup h arr (oO G (cpf (tn σ j + 1)) (va_up (fun i => if i < tn σ j then some (loc (3 + j) i) else none) (tn σ j) (some q)))) (loc 1 j) (.inr (0, [.int (nI (tn σ j) + 1), .ref arr, .int (nI (tn σ j + 1))]))) loc' σ' ρ := by
  have hnj : tn σ' j = tn σ j + 1 := by rw [hn]; exact if_pos rfl
  have hni : ∀ i, i ≠ j → tn σ' i = tn σ i := fun i hi => by rw [hn]; exact if_neg hi
  -- the new places
  obtain ⟨loc', hl⟩ : ∃ l : Nat → Nat → Nat, l = fun k i => if k = 2 ∧ i = j then arr else if k = 3 + j ∧ i = tn σ j then q else loc k i := ⟨_, rfl⟩
  have l2 : loc' 2 j = arr := by rw [hl]; exact if_pos ⟨rfl, rfl⟩
  have lq : loc' (3 + j) (tn σ j) = q := by
    rw [hl]
    show (if _ ∧ _ then _ else _) = q
    rw [if_neg (by omega), if_pos ⟨rfl, rfl⟩]
  have lo : ∀ k i, ¬ (k = 2 ∧ i = j) → ¬ (k = 3 + j ∧ i = tn σ j) → loc' k i = loc k i := fun k i e1 e2 => by
    rw [hl]
    show (if _ ∧ _ then _ else _) = _
    rw [if_neg e1, if_neg e2]
  -- what the new domain is
  have dj : ∀ k i, dm (tn σ') k i → ¬ (k = 2 ∧ i = j) → ¬ (k = 3 + j ∧ i = tn σ j) → dm (tn σ) k i := fun k i hd e1 e2 => by
    have e3 : ∀ i', i' < tn σ' j → ¬ i' = tn σ j → i' < tn σ j := fun i' a b => by omega
    match k, hd, e1, e2 with
    | 0, hd, _, _ => exact hd
    | 1, hd, _, _ => exact hd
    | 2, hd, e1, _ =>
      have e4 : i ≠ j := fun e => e1 ⟨rfl, e⟩
      have hd9 : i < 5 ∧ 0 < tn σ' i := hd
      rw [hni i e4] at hd9
      exact hd9
    | 3, hd, _, e2 =>
      by_cases e : j = 0
      · subst e; exact e3 i hd (fun e5 => e2 ⟨rfl, e5⟩)
      · have hd9 : i < tn σ' 0 := hd
        rw [hni 0 (Ne.symm e)] at hd9; exact hd9
    | 4, hd, _, e2 =>
      by_cases e : j = 1
      · subst e; exact e3 i hd (fun e5 => e2 ⟨rfl, e5⟩)
      · have hd9 : i < tn σ' 1 := hd
        rw [hni 1 (Ne.symm e)] at hd9; exact hd9
    | 5, hd, _, e2 =>
      by_cases e : j = 2
      · subst e; exact e3 i hd (fun e5 => e2 ⟨rfl, e5⟩)
      · have hd9 : i < tn σ' 2 := hd
        rw [hni 2 (Ne.symm e)] at hd9; exact hd9
    | 6, hd, _, e2 =>
      by_cases e : j = 3
      · subst e; exact e3 i hd (fun e5 => e2 ⟨rfl, e5⟩)
      · have hd9 : i < tn σ' 3 := hd
        rw [hni 3 (Ne.symm e)] at hd9; exact hd9
    | 7, hd, _, e2 =>
      by_cases e : j = 4
      · subst e; exact e3 i hd (fun e5 => e2 ⟨rfl, e5⟩)
      · have hd9 : i < tn σ' 4 := hd
        rw [hni 4 (Ne.symm e)] at hd9; exact hd9
    | 8, hd, _, _ => exact hd
    | 9, hd, _, _ => exact hd
    | 10, hd, _, _ => exact hd
    | 11, hd, _, _ => exact hd
    | 12, hd, _, _ => exact hd
    | k + 13, hd, _, _ => exact hd.elim
  have d1 : dm (tn σ) 1 j := hj
  have hlj : h (loc 1 j) = some (oList G loc σ j) := P.list hj
  have hqj : q ≠ loc 1 j := (hq 1 j d1).symm
  have haj : arr ≠ loc 1 j := by
    rcases ha with ⟨e1, e2⟩ | e1
    · rw [if_neg (by omega)] at e1
      rw [e1]
      intro e
      exact absurd (P.2.1 2 j 1 j ⟨hj, e2⟩ d1 e).1 (by decide)
    · exact (h_nn hlj e1).symm
  have haq : arr ≠ q := by
    rcases ha with ⟨e1, e2⟩ | e1
    · rw [if_neg (by omega)] at e1
      rw [e1]
      exact hq 2 j ⟨hj, e2⟩
    · exact (h_nn hx e1).symm
  have hao : ∀ k i, dm (tn σ) k i → ¬ (k = 2 ∧ i = j) → loc k i ≠ arr := fun k i hd e9 => by
    rcases ha with ⟨e1, e2⟩ | e1
    · rw [if_neg (by omega)] at e1
      rw [e1]
      exact fun e => e9 (P.2.1 k i 2 j hd ⟨hj, e2⟩ e)
    · exact h_nn (P.1 k i hd) e1
  refine ⟨loc', fun k i hd hk => lo k i (fun e => hk e.1) (fun e => ?_), ?_, ?_, ?_⟩
  · obtain ⟨rfl, rfl⟩ := e
    have e5 : ¬ dm (tn σ) (3 + j) (tn σ j) := by
      match j, hj with
      | 0, _ => exact Nat.lt_irrefl _
      | 1, _ => exact Nat.lt_irrefl _
      | 2, _ => exact Nat.lt_irrefl _
      | 3, _ => exact Nat.lt_irrefl _
      | 4, _ => exact Nat.lt_irrefl _
    exact e5 hd
  · intro k i hd
    by_cases c1 : k = 2 ∧ i = j
    · obtain ⟨rfl, rfl⟩ := c1
      rw [l2, hup_ne haj, hup_self]
      show _ = some (oEl G loc' σ' i)
      have e : va_up (fun i_1 => if i_1 < tn σ i then some (loc (3 + i) i_1) else none) (tn σ i) (some q) = fun i_1 => if i_1 < tn σ' i then some (loc' (3 + i) i_1) else none := by
        funext z
        unfold va_up
        by_cases e1 : z = tn σ i
        · rw [if_pos e1, if_pos (by omega), e1, lq]
        · rw [if_neg e1]
          by_cases e2 : z < tn σ i
          · show (if z < tn σ i then some (loc (3 + i) z) else none) = _
            rw [if_pos e2, if_pos (by omega), lo _ _ (by omega) (by omega)]
          · show (if z < tn σ i then some (loc (3 + i) z) else none) = _
            rw [if_neg e2, if_neg (by omega)]
      show some (oO G _ _) = some (oO G _ _)
      rw [e, hnj]
    · by_cases c2 : k = 3 + j ∧ i = tn σ j
      · obtain ⟨rfl, rfl⟩ := c2
        rw [lq, hup_ne hqj, hup_ne (Ne.symm haq), hx, ho]
      · have hd0 := dj k i hd c1 c2
        rw [lo k i c1 c2]
        by_cases c3 : k = 1 ∧ i = j
        · obtain ⟨rfl, rfl⟩ := c3
          rw [hup_self]
          show _ = some (oList G loc' σ' i)
          show _ = some (Sum.inr (0, [_, Value.ref (if tn σ' i = 0 then gd G else loc' 2 i), _]))
          rw [if_neg (by omega), l2, hnj, nI_1]
        · rw [hup_ne (fun e => c3 (P.2.1 k i 1 j hd0 d1 e)), hup_ne (hao k i hd0 c1), P.1 k i hd0]
          by_cases k1 : k = 1
          · subst k1
            have ei : i ≠ j := fun e => c3 ⟨rfl, e⟩
            show some (oList G loc σ i) = some (oList G loc' σ' i)
            show some (Sum.inr (0, [_, Value.ref (if tn σ i = 0 then gd G else loc 2 i), _])) = some (Sum.inr (0, [_, Value.ref (if tn σ' i = 0 then gd G else loc' 2 i), _]))
            rw [hni i ei, lo 2 i (fun e => ei e.2) (by omega)]
          · by_cases k2 : k = 2
            · subst k2
              have ei : i ≠ j := fun e => c1 ⟨rfl, e⟩
              show some (oO G (cpf (tn σ i)) (fun z => if z < tn σ i then some (loc (3 + i) z) else none)) = some (oO G (cpf (tn σ' i)) (fun z => if z < tn σ' i then some (loc' (3 + i) z) else none))
              rw [hni i ei]
              have e : (fun z => if z < tn σ i then some (loc (3 + i) z) else none) = fun z => if z < tn σ i then some (loc' (3 + i) z) else none := by
                funext z
                rw [lo (3 + i) z (by omega) (by omega)]
              rw [e]
            · rw [h1 loc' k i hd0 k1 k2]
              congr 1
              -- the objects name places of kinds 0, 1, 8 to 12 alone
              have e0 : ∀ z, loc' 0 z = loc 0 z := fun z => lo 0 z (by omega) (by omega)
              have e1 : ∀ z, loc' 1 z = loc 1 z := fun z => lo 1 z (by omega) (by omega)
              have e8 : ∀ z, loc' 8 z = loc 8 z := fun z => lo 8 z (by omega) (by omega)
              have e9 : ∀ z, loc' 9 z = loc 9 z := fun z => lo 9 z (by omega) (by omega)
              have e10 : ∀ z, loc' 10 z = loc 10 z := fun z => lo 10 z (by omega) (by omega)
              have e11 : ∀ z, loc' 11 z = loc 11 z := fun z => lo 11 z (by omega) (by omega)
              have e12 : ∀ z, loc' 12 z = loc 12 z := fun z => lo 12 z (by omega) (by omega)
              match k, k1, k2 with
              | 0, _, _ => simp only [ob, ob0, oX, oCl, oMs, oM, e0, e1, e8]
              | 3, _, _ => rfl
              | 4, _, _ => rfl
              | 5, _, _ => rfl
              | 6, _, _ => rfl
              | 7, _, _ => rfl
              | 8, _, _ => simp only [ob, ob8, e9, e10, e11, e12]
              | 9, _, _ => rfl
              | 10, _, _ => rfl
              | 11, _, _ => rfl
              | k + 12, _, _ => rfl
  · intro k i k' i' hd hd' e
    by_cases c1 : k = 2 ∧ i = j
    · obtain ⟨rfl, rfl⟩ := c1
      by_cases c1' : k' = 2 ∧ i' = i
      · exact ⟨c1'.1.symm, c1'.2.symm⟩
      · exfalso
        rw [l2] at e
        by_cases c2' : k' = 3 + i ∧ i' = tn σ i
        · obtain ⟨rfl, rfl⟩ := c2'
          rw [lq] at e
          exact haq e
        · rw [lo k' i' c1' c2'] at e
          exact hao k' i' (dj k' i' hd' c1' c2') c1' e.symm
    · by_cases c2 : k = 3 + j ∧ i = tn σ j
      · obtain ⟨rfl, rfl⟩ := c2
        rw [lq] at e
        by_cases c1' : k' = 2 ∧ i' = j
        · obtain ⟨rfl, rfl⟩ := c1'
          rw [l2] at e
          exact absurd e.symm haq
        · by_cases c2' : k' = 3 + j ∧ i' = tn σ j
          · exact ⟨c2'.1.symm, c2'.2.symm⟩
          · rw [lo k' i' c1' c2'] at e
            exact absurd e.symm (hq k' i' (dj k' i' hd' c1' c2'))
      · rw [lo k i c1 c2] at e
        have hd0 := dj k i hd c1 c2
        by_cases c1' : k' = 2 ∧ i' = j
        · obtain ⟨rfl, rfl⟩ := c1'
          rw [l2] at e
          exact absurd e (hao k i hd0 c1)
        · by_cases c2' : k' = 3 + j ∧ i' = tn σ j
          · obtain ⟨rfl, rfl⟩ := c2'
            rw [lq] at e
            exact absurd e (hq k i hd0)
          · rw [lo k' i' c1' c2'] at e
            exact P.2.1 k i k' i' hd0 (dj k' i' hd' c1' c2') e
  · intro i
    by_cases e : i = j
    · rw [e, hnj]; omega
    · rw [hni i e]; exact P.2.2 i
/-! the lists' methods over the picture -/
theorem k_sizeL (hB : Base G) (P : PW G h loc σ ρ) {j : Nat} (hj : j < 5) : Ct G mJx4a65c_size_8abf5 1 0 0 [.ref (loc 1 j)] h (rd h (.int (nI (tn σ j)))) noX := k_size hB (n := .null) (P.list hj)
theorem k_getL (hB : Base G) (P : PW G h loc σ ρ) {j i : Nat} (hj : j < 5) (hi : i < tn σ j) : Ct G mJx4a65c_get_915e3 3 0 0 [.ref (loc 1 j), .int (nI i)] h (rd h (.ref (loc (3 + j) i))) noX := by
  have hb := P.lt j
  have hc := cpf_le (tn σ j)
  exact k_get hB (P.listP hj (by omega)) (P.el hj (by omega)) (nI_pos (by omega)) (nI_lt hi (by omega)) (nI_in (by omega) (by omega)) (by
    rw [nI_clamp (by omega)]
    exact if_pos hi)
theorem k_addL (hB : Base G) (P : PW G h loc σ ρ) {j q ci : Nat} {xs : List Value} {Cn : String} {T : u_T} {N9 : Nat} {ty : Nat → FieldType} (kc : KC ci Cn T N9 ty) (hca : Cond.castable Cn "java/lang/Object" ∈ lw_tbl) (hj : j < 5) (hq : ∀ k i, dm (tn σ) k i → loc k i ≠ q) (hx : h q = some (.inr (ci, xs))) (hb : tn σ j < 600) (hn : tn σ' = nc (tn σ) j (tn σ j + 1)) (ho : ∀ loc, ob G loc σ' ρ (3 + j) (tn σ j) = .inr (ci, xs))
    (h1 : ∀ loc k i, dm (tn σ) k i → k ≠ 1 → k ≠ 2 → ob G loc σ' ρ k i = ob G loc σ ρ k i) (hel : ∀ loc i, ∃ fs, ob G loc σ ρ (3 + j) i = .inr (ci, fs)) :
    Ct G mJx4a65c_add_9ea2d 6 1 4000 [.ref (loc 1 j), .ref q] h (fun o h' => (∃ loc', Same (tn σ) loc loc' ∧ PW G h' loc' σ' ρ) ∧ o = some (.int 1)) noX := by
  have dl : ∀ i, i < tn σ j → dm (tn σ) (3 + j) i := fun i hi => by
    match j, hj, hi with
    | 0, _, hi => exact hi
    | 1, _, hi => exact hi
    | 2, _, hi => exact hi
    | 3, _, hi => exact hi
    | 4, _, hi => exact hi
  refine Ct.mono (k_add hB kc hca (P.list hj) (by omega) (f := fun i => if i < tn σ j then some (loc (3 + j) i) else none) ?_ (fun i hi => if_neg (by omega)) (fun i hi y hy => ?_) hx (hq 1 j hj).symm) (fun o h' hp => ?_) (fun E h' hp => hp)
  · by_cases e : tn σ j = 0
    · exact Or.inl ⟨e, if_pos e⟩
    · rw [if_neg e]
      exact Or.inr ⟨by omega, P.el hj (by omega)⟩
  · have hy9 : (if i < tn σ j then some (loc (3 + j) i) else none) = some y := hy
    rw [if_pos hi] at hy9
    cases hy9
    obtain ⟨fs, hfs⟩ := hel loc i
    refine ⟨⟨fs, by rw [P.1 _ _ (dl i hi), hfs]⟩, fun e => ?_⟩
    have := (P.2.1 _ _ 1 j (dl i hi) hj e).1
    omega
  · obtain ⟨a9, ha, rfl, rfl⟩ := hp
    exact ⟨P.add hj hq hx hb hn ho h1 ha, rfl⟩
end
