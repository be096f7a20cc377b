/-! A WORLD AS A FUNCTION: what each address holds, where it is known; the whole picture of a method goes through it; a write is an update of the function, so no frame is carried by hand. -/
abbrev Hp : Type := Nat → Option va_E
def hup (h : Hp) (a : Nat) (o : va_E) : Hp := fun b => if b = a then some o else h b
theorem hup_self (h : Hp) (a : Nat) (o : va_E) : hup h a o a = some o := if_pos rfl
theorem hup_ne {h : Hp} {a b : Nat} {o : va_E} (e : b ≠ a) : hup h a o b = h b := if_neg e
theorem h_ne {h : Hp} {a b : Nat} {x y : va_E} (ha : h a = some x) (hb : h b = some y) (hn : x ≠ y) : a ≠ b := fun e => hn (Option.some.inj (ha.symm.trans ((congrArg h e).trans hb)))
theorem h_nn {h : Hp} {a b : Nat} {x : va_E} (ha : h a = some x) (hb : h b = none) : a ≠ b := fun e => by rw [e, hb] at ha; cases ha
theorem hup_h {h : Hp} {a b : Nat} {o x y : va_E} (ha : h a = some x) (hb : h b = some y) (hn : y ≠ x) : hup h a o b = some y := (hup_ne (h_ne hb ha hn)).trans hb
theorem hup_n {h : Hp} {a b : Nat} {o y : va_E} (ha : h a = none) (hb : h b = some y) : hup h a o b = some y := (hup_ne (h_nn hb ha)).trans hb
/-- the classes whose objects the worlds hold -/
abbrev zcl : List vw_C := [(RJx4a65c, TJx4a65c, 3), (RX0, TX0, 8), (RX2, TX2, 2), (RX3, TX3, 5), (RX4, TX4, 6), (RX5, TX5, 3), (RX6, TX6, 2), (RX7, TX7, 1), (RX8, TX8, 6), (RX9, TX9, 25)]
/-- the arrays' classes, at fixed places -/
abbrev zty (ca : Nat → ClassId) : List (ClassId × FieldType) := [(ca 0, .int), (ca 1, .long), (ca 2, .float), (ca 3, .double), (ca 4, .boolean), (ca 5, .char), (ca 6, .object "java/lang/Object"), (ca 7, .array .int), (ca 8, .array .boolean)]
/-- what is the same in all of one run of the law: the launch, its start, the script's address, the classes' numbers, the arrays' classes, the empty array of java.util.ArrayList -/
abbrev GT : Type := Launch × State × Nat × va_G × (Nat → ClassId) × Nat
abbrev gl (G : GT) : Launch := G.1
abbrev gs (G : GT) : State := G.2.1
abbrev gb (G : GT) : Nat := G.2.2.1
abbrev gD (G : GT) : va_G := G.2.2.2.1
abbrev gC (G : GT) : Nat → ClassId := G.2.2.2.2.1
abbrev gd (G : GT) : Nat := G.2.2.2.2.2
def zA (G : GT) : Nat → Prop := fun q => (gs G).heap.size ≤ q
def Base (G : GT) : Prop :=
  (∀ w ∈ lw_tbl, w.before #[Value.ref (gb G)] (gs G) = true) ∧ (Jvm.Cond.and given_1 narrow_1).before #[Value.ref (gb G)] (gs G) = true ∧ va_K (gD G) zcl (zty (gC G)) (gs G) ∧ (gl G).flags = flags0 ∧
  va_Z "java/util/ArrayList" "DEFAULTCAPACITY_EMPTY_ELEMENTDATA" "[Ljava/lang/Object;" (.ref (gd G)) (zA G) (gs G) (gs G).heap ∧ va_T (.object "java/lang/Object") (gd G) 0 (fun _ => .null) (zA G) (gs G) (gs G).heap
/-- a state of the run: the tables grown from the start's, the start's cells as they were -/
def Ev (G : GT) (U : State) : Prop := (gs G).WarmedH U.vm ∧ (gs G).heap.size ≤ U.heap.size ∧ ∀ q : Nat, q < (gs G).heap.size → U.heap[q]? = (gs G).heap[q]?
def Rep (G : GT) (h : Hp) (H : Heap) : Prop := ∀ (a : Nat) (o : va_E), h a = some o → zA G a ∧ va_at (gD G) zcl (a, o) H
/-- a word that the tables alone decide, and that stays -/
def zgood (w : Cond) : Bool := match w with
  | .fieldLinkNest .. => true
  | .methodLinkNest .. => true
  | .arrayClass _ => true
  | w => w.onTables && w.keepsFace
theorem zw_at {a a' : Array Value} {s U : State} {w : Cond} (hW : s.WarmedH U.vm) (hg : zgood w = true) (h : w.before a s = true) : w.before a' U = true := by
  have key : ∀ w : Cond, w.onTables = true → w.before a (s.setVm U.vm) = true → w.before a' U = true := fun w h1 h2 => by
    have e := Cond.onTables_vm (A := a) (A' := a') (U := s) (U' := U) U.vm w h1
    have h3 : U.setVm U.vm = U := rfl
    rw [h3] at e
    rw [← e]; exact h2
  have gen : ∀ w : Cond, (w.onTables && w.keepsFace) = true → w.before a s = true → w.before a' U = true := fun w h1 h2 => by
    simp only [Bool.and_eq_true] at h1
    exact key w h1.1 (Cond.before_shiftedFace (State.Shifted.of_warmed hW) w h1.2 h2)
  cases w with
  | fieldLinkNest c i r n d q => exact key _ rfl (Cond.fieldLinkNest_warmed (args := a) hW h)
  | methodLinkNest c i x q => exact key _ rfl (Cond.methodLinkNest_warmed (args := a) hW h)
  | arrayClass t => exact word_at hW (Or.inr ⟨t, rfl⟩) h
  | _ => exact gen _ hg h
theorem Base.w {G : GT} {U : State} {a : Array Value} {w : Cond} (hB : Base G) (hE : Ev G U) (hm : w ∈ lw_tbl) (hg : zgood w = true) : w.before a U = true := zw_at hE.1 hg (hB.1 w hm)
theorem Base.K {G : GT} {U : State} (hB : Base G) (hE : Ev G U) : va_K (gD G) zcl (zty (gC G)) U := hB.2.2.1.moved hE.1.alike
theorem Ev.go {G : GT} {s U : State} (hE : Ev G s) (hW : s.WarmedH U.vm) (hz : s.heap.size ≤ U.heap.size) (hk : ∀ q : Nat, q < (gs G).heap.size → U.heap[q]? = s.heap[q]?) : Ev G U :=
  ⟨State.WarmedH.trans hE.1 hW, Nat.le_trans hE.2.1 hz, fun q hq => (hk q hq).trans (hE.2.2 q hq)⟩
theorem zA_not {G : GT} {q : Nat} (h : q < (gs G).heap.size) : ¬ zA G q := Nat.not_le.mpr h
/-! the world as a list, for the kit's rows -/
def wl (h : Hp) (n : Nat) : va_W := (List.range n).filterMap (fun b => (h b).map (fun o => (b, o)))
theorem wl_mem {h : Hp} {n a : Nat} {o : va_E} : (a, o) ∈ wl h n ↔ a < n ∧ h a = some o := by
  constructor
  · intro hm
    obtain ⟨b, hb, e⟩ := List.mem_filterMap.mp hm
    cases hx : h b with
    | none => rw [hx] at e; cases e
    | some x =>
      rw [hx] at e
      cases e
      exact ⟨List.mem_range.mp hb, hx⟩
  · intro ⟨h1, h2⟩
    exact List.mem_filterMap.mpr ⟨a, List.mem_range.mpr h1, by rw [h2]; rfl⟩
theorem wl_fst (h : Hp) : ∀ l : List Nat, (l.filterMap (fun b => (h b).map (fun o => (b, o)))).map (fun q => q.1) = l.filter (fun b => (h b).isSome)
  | [] => rfl
  | b :: l => by
    have ih := wl_fst h l
    cases hx : h b with
    | none =>
      rw [List.filterMap_cons_none (by rw [hx]; rfl), List.filter_cons_of_neg (by rw [hx]; decide)]
      exact ih
    | some x =>
      rw [List.filterMap_cons_some (b := (b, x)) (by rw [hx]; rfl), List.filter_cons_of_pos (by rw [hx]; rfl), List.map_cons, ih]
theorem wl_inj {h : Hp} {n i j : Nat} {p q : Nat × va_E} (hi : (wl h n)[i]? = some p) (hj : (wl h n)[j]? = some q) (e : p.1 = q.1) : i = j := by
  have hn : ((wl h n).map (fun q => q.1)).Nodup := by
    unfold wl
    rw [wl_fst]
    exact List.Pairwise.filter _ List.nodup_range
  have h1 : ((wl h n).map (fun q => q.1))[i]? = some p.1 := by rw [List.getElem?_map, hi]; rfl
  have h2 : ((wl h n).map (fun q => q.1))[j]? = some q.1 := by rw [List.getElem?_map, hj]; rfl
  exact (List.getElem?_inj (List.getElem?_eq_some_iff.mp h1).1 hn).mp (by rw [h1, h2, e])
theorem wl_at {h : Hp} {n a : Nat} {o : va_E} (ha : h a = some o) (hn : a < n) : ∃ k : Nat, (wl h n)[k]? = some (a, o) := List.getElem?_of_mem (wl_mem.mpr ⟨hn, ha⟩)
theorem Rep.lt {G : GT} {h : Hp} {H : Heap} (hR : Rep G h H) {a : Nat} {o : va_E} (ha : h a = some o) : a < H.size := (hR a o ha).2.lt
theorem Rep.P {G : GT} {h : Hp} {H : Heap} (hR : Rep G h H) : va_P (gD G) zcl (wl h H.size) H := fun k q hk => (hR q.1 q.2 (wl_mem.mp (List.mem_of_getElem? hk)).2).2
theorem Rep.D {G : GT} {h : Hp} {H : Heap} (hR : Rep G h H) : va_D (zA G) (wl h H.size) := ⟨fun i j p q hi hj e => wl_inj hi hj e, fun k q hk => (hR q.1 q.2 (wl_mem.mp (List.mem_of_getElem? hk)).2).1⟩
theorem Rep.one {G : GT} {h : Hp} {H : Heap} (hR : Rep G h H) {a : Nat} {o : va_E} (ha : h a = some o) : va_P (gD G) zcl [(a, o)] H := fun k q hk => by
  have hz : k < 1 := (List.getElem?_eq_some_iff.mp hk).1
  rw [show k = 0 by omega] at hk
  cases hk
  exact (hR a o ha).2
theorem Rep.fresh {G : GT} {h : Hp} {H : Heap} (hR : Rep G h H) {q : Nat} (hq : H.size ≤ q) : h q = none := by
  cases hx : h q with
  | none => rfl
  | some o => exact absurd (hR.lt hx) (Nat.not_lt.mpr hq)
theorem Rep.set {G : GT} {h : Hp} {H H1 : Heap} (hR : Rep G h H) {k a : Nat} {o e : va_E} (hk : (wl h H.size)[k]? = some (a, o)) (hP : va_P (gD G) zcl ((wl h H.size).set k (a, e)) H1) : Rep G (hup h a e) H1 := by
  intro b o' hb
  have ha : h a = some o := (wl_mem.mp (List.mem_of_getElem? hk)).2
  by_cases hba : b = a
  · subst hba
    rw [hup_self] at hb
    cases hb
    exact ⟨(hR b o ha).1, hP k (b, e) (by rw [List.getElem?_set_self (List.getElem?_eq_some_iff.mp hk).1])⟩
  · rw [hup_ne hba] at hb
    obtain ⟨k', hk'⟩ := wl_at hb (hR.lt hb)
    have hne : k ≠ k' := fun z => by
      subst z
      rw [hk] at hk'
      cases hk'
      exact hba rfl
    exact ⟨(hR b o' hb).1, hP k' (b, o') (by rw [List.getElem?_set_ne hne]; exact hk')⟩
theorem Rep.push {G : GT} {h : Hp} {H H1 : Heap} (hR : Rep G h H) {q : Nat} {e : va_E} (hP : va_P (gD G) zcl (wl h H.size ++ [(q, e)]) H1) (hD : va_D (zA G) (wl h H.size ++ [(q, e)])) : Rep G (hup h q e) H1 ∧ h q = none := by
  have hl : (wl h H.size ++ [(q, e)])[(wl h H.size).length]? = some (q, e) := by rw [List.getElem?_append_right (Nat.le_refl _), Nat.sub_self]; rfl
  have hn : h q = none := by
    cases hx : h q with
    | none => rfl
    | some o =>
      obtain ⟨k, hk⟩ := wl_at hx (hR.lt hx)
      have hlt := (List.getElem?_eq_some_iff.mp hk).1
      have h1 : (wl h H.size ++ [(q, e)])[k]? = some (q, o) := by rw [List.getElem?_append_left hlt]; exact hk
      have := hD.1 _ _ _ _ h1 hl rfl
      omega
  refine ⟨fun b o' hb => ?_, hn⟩
  by_cases hba : b = q
  · subst hba
    rw [hup_self] at hb
    cases hb
    exact ⟨hD.2 _ _ hl, hP _ _ hl⟩
  · rw [hup_ne hba] at hb
    obtain ⟨k, hk⟩ := wl_at hb (hR.lt hb)
    exact ⟨(hR b o' hb).1, hP k (b, o') (by rw [List.getElem?_append_left (List.getElem?_eq_some_iff.mp hk).1]; exact hk)⟩
/-! the locals, by their places -/
def lp_has (ls : Array Slot) (nL : Nat) (L : List (Option Value)) : Prop := ls.size = nL ∧ lv_wf ls ∧ ∀ (i : Nat) (v : Value), L[i]? = some (some v) → ls[i]? = some (.val v)
def lpa (L : List (Option Value)) : List (Nat × Value) := (List.range L.length).filterMap (fun i => (L[i]?.join).map (fun v => (i, v)))
theorem lpa_mem {L : List (Option Value)} {i : Nat} {v : Value} : (i, v) ∈ lpa L ↔ L[i]? = some (some v) := by
  constructor
  · intro hm
    obtain ⟨b, hb, e⟩ := List.mem_filterMap.mp hm
    cases hx : L[b]? with
    | none => rw [hx] at e; cases e
    | some x =>
      rw [hx] at e
      cases x with
      | none => cases e
      | some w => cases e; exact hx
  · intro h
    exact List.mem_filterMap.mpr ⟨i, List.mem_range.mpr (List.getElem?_eq_some_iff.mp h).1, by rw [h]; rfl⟩
theorem lp_lv {ls : Array Slot} {nL : Nat} {L : List (Option Value)} (h : lp_has ls nL L) : lv_has ls nL (lpa L) := ⟨h.1, h.2.1, fun q hq => h.2.2 q.1 q.2 (lpa_mem.mp hq)⟩
theorem lp_of {ls : Array Slot} {nL : Nat} {l : List (Nat × Value)} {L : List (Option Value)} (h : lv_has ls nL l) (hL : ∀ (i : Nat) (v : Value), L[i]? = some (some v) → (i, v) ∈ l) : lp_has ls nL L := ⟨h.1, h.2.1, fun i v hi => h.2.2 (i, v) (hL i v hi)⟩
def lclr (L : List (Option Value)) (i : Nat) : List (Option Value) := match i with
  | 0 => L
  | j + 1 => match L[j]? with
    | some (some v) => if v.category = 2 then L.set j none else L
    | _ => L
theorem lclr_get {L : List (Option Value)} {i j : Nat} {w : Value} (h : (lclr L i)[j]? = some (some w)) : L[j]? = some (some w) ∧ ¬ (j + 1 = i ∧ w.category = 2) := by
  cases i with
  | zero => exact ⟨h, fun z => absurd z.1 (by omega)⟩
  | succ k =>
    cases hv : L[k]? with
    | none =>
      simp only [lclr, hv] at h
      refine ⟨h, fun z => ?_⟩
      have e : j = k := by omega
      subst e
      rw [hv] at h
      cases h
    | some x =>
      cases x with
      | none =>
        simp only [lclr, hv] at h
        refine ⟨h, fun z => ?_⟩
        have e : j = k := by omega
        subst e
        rw [hv] at h
        cases h
      | some v =>
        simp only [lclr, hv] at h
        by_cases hc : v.category = 2
        · rw [if_pos hc, List.getElem?_set] at h
          split at h
          · split at h <;> cases h
          · next hne => exact ⟨h, fun z => hne (by omega)⟩
        · rw [if_neg hc] at h
          refine ⟨h, fun z => ?_⟩
          have e : j = k := by omega
          subst e
          rw [hv] at h
          cases h
          exact hc z.2
def lset1 (L : List (Option Value)) (i : Nat) (v : Value) : List (Option Value) := (lclr L i).set i (some v)
def lset2 (L : List (Option Value)) (i : Nat) (v : Value) : List (Option Value) := ((lclr L i).set i (some v)).set (i + 1) none
theorem lset1_mem {L : List (Option Value)} {i j : Nat} {v w : Value} (h : (lset1 L i v)[j]? = some (some w)) : (j, w) ∈ (i, v) :: (lpa L).filter (fun q => !(q.1 == i) && !(q.1 + 1 == i && q.2.category == 2)) := by
  unfold lset1 at h
  rw [List.getElem?_set] at h
  split at h
  · next e =>
    split at h
    · cases h; rw [e]; exact List.mem_cons_self
    · cases h
  · next hne =>
    obtain ⟨h1, h2⟩ := lclr_get h
    refine List.mem_cons_of_mem _ (List.mem_filter.mpr ⟨lpa_mem.mpr h1, ?_⟩)
    have e1 : (j == i) = false := beq_eq_false_iff_ne.mpr (Ne.symm hne)
    have e2 : (j + 1 == i && w.category == 2) = false := by
      cases hx : (j + 1 == i && w.category == 2) with
      | false => rfl
      | true =>
        rw [Bool.and_eq_true] at hx
        exact absurd ⟨eq_of_beq hx.1, eq_of_beq hx.2⟩ h2
    simp [e1, e2]
theorem lset2_mem {L : List (Option Value)} {i j : Nat} {v w : Value} (h : (lset2 L i v)[j]? = some (some w)) : (j, w) ∈ (i, v) :: (lpa L).filter (fun q => !(q.1 == i) && (!(q.1 == i + 1) && !(q.1 + 1 == i && q.2.category == 2))) := by
  unfold lset2 at h
  rw [List.getElem?_set] at h
  split at h
  · split at h <;> cases h
  · next hne2 =>
    rw [List.getElem?_set] at h
    split at h
    · next e =>
      split at h
      · cases h; rw [e]; exact List.mem_cons_self
      · cases h
    · next hne =>
      obtain ⟨h1, h2⟩ := lclr_get h
      refine List.mem_cons_of_mem _ (List.mem_filter.mpr ⟨lpa_mem.mpr h1, ?_⟩)
      have e1 : (j == i) = false := beq_eq_false_iff_ne.mpr (Ne.symm hne)
      have e3 : (j == i + 1) = false := beq_eq_false_iff_ne.mpr (Ne.symm hne2)
      have e2 : (j + 1 == i && w.category == 2) = false := by
        cases hx : (j + 1 == i && w.category == 2) with
        | false => rfl
        | true =>
          rw [Bool.and_eq_true] at hx
          exact absurd ⟨eq_of_beq hx.1, eq_of_beq hx.2⟩ h2
      simp [e1, e2, e3]
/-- the locals with which a method begins -/
def zarg (vs : List Value) : List (Option Value) := vs.flatMap (fun v => if v.category = 2 then [some v, none] else [some v])
theorem zarg_mem : ∀ (vs : List Value) (k i : Nat) (v : Value), (zarg vs)[i]? = some (some v) → (k + i, v) ∈ lv_args k vs
  | [], k, i, v, h => by simp [zarg] at h
  | x :: vs, k, i, v, h => by
    have ih := zarg_mem vs
    unfold zarg at h
    rw [List.flatMap_cons] at h
    show (k + i, v) ∈ (k, x) :: lv_args (if x.category = 2 then k + 2 else k + 1) vs
    by_cases hc : x.category = 2
    · rw [if_pos hc] at h ⊢
      match i, h with
      | 0, h => cases h; exact List.mem_cons_self
      | 1, h => cases h
      | i + 2, h =>
        have h2 : (zarg vs)[i]? = some (some v) := h
        have := ih (k + 2) i v h2
        rw [show k + (i + 2) = k + 2 + i by omega]
        exact List.mem_cons_of_mem _ this
    · rw [if_neg hc] at h ⊢
      match i, h with
      | 0, h => cases h; exact List.mem_cons_self
      | i + 1, h =>
        have h2 : (zarg vs)[i]? = some (some v) := h
        have := ih (k + 1) i v h2
        rw [show k + (i + 1) = k + 1 + i by omega]
        exact List.mem_cons_of_mem _ this
theorem lp_entry (vs : List Value) {n m : Nat} (h : (lg_sl vs).length ≤ n) : lp_has ((lg_sl vs ++ List.replicate (n - (lg_sl vs).length) Slot.unset).toArray) n (zarg vs ++ List.replicate m none) := by
  refine lp_of (lv_entry vs h) (fun i v hi => ?_)
  by_cases hl : i < (zarg vs).length
  · rw [List.getElem?_append_left hl] at hi
    have := zarg_mem vs 0 i v hi
    rw [Nat.zero_add] at this
    exact this
  · rw [List.getElem?_append_right (by omega)] at hi
    rw [List.getElem?_replicate] at hi
    split at hi <;> cases hi
/-- fewer locals: those that are marked -/
def lmask : List Bool → List (Option Value) → List (Option Value)
  | true :: bs, x :: L => x :: lmask bs L
  | false :: bs, _ :: L => none :: lmask bs L
  | [], L => L
  | _, [] => []
theorem lmask_get : ∀ (bs : List Bool) (L : List (Option Value)) (i : Nat) (v : Value), (lmask bs L)[i]? = some (some v) → L[i]? = some (some v)
  | true :: bs, x :: L, 0, v, h => h
  | true :: bs, x :: L, i + 1, v, h => lmask_get bs L i v h
  | false :: bs, x :: L, 0, v, h => by cases h
  | false :: bs, x :: L, i + 1, v, h => lmask_get bs L i v h
  | [], L, i, v, h => by cases L <;> exact h
  | true :: bs, [], i, v, h => h
  | false :: bs, [], i, v, h => h
/-! a method's surroundings in one, and the walk's judgement -/
abbrev XT : Type := Program × Env × Room × State × MethodId × Array Value × List Frame × Method × Code × (State → Prop)
abbrev Xp (X : XT) : Program := X.1
abbrev Xe (X : XT) : Env := X.2.1
abbrev XR (X : XT) : Room := X.2.2.1
abbrev Xs (X : XT) : State := X.2.2.2.1
abbrev Xm (X : XT) : MethodId := X.2.2.2.2.1
abbrev Xa (X : XT) : Array Value := X.2.2.2.2.2.1
abbrev Xb (X : XT) : List Frame := X.2.2.2.2.2.2.1
abbrev Xd (X : XT) : Method := X.2.2.2.2.2.2.2.1
abbrev Xc (X : XT) : Code := X.2.2.2.2.2.2.2.2.1
abbrev XQ (X : XT) : State → Prop := X.2.2.2.2.2.2.2.2.2
/-- at pc, with locals L and stack st, over a heap that holds h, with at most uc cells and us slots made so far: the machine comes to its end -/
def Zs (G : GT) (X : XT) (nL : Nat) (h : Hp) (uc us pc : Nat) (L : List (Option Value)) (st : List Value) : Prop :=
  ∀ (ls : Array Slot) (H : Heap) (locs : List Loc) (cells slots : Nat), lp_has ls nL L → Rep G h H → va_S (zA G) (Xs X).heap H locs → cells ≤ uc → slots ≤ us →
    W (Xp X) (gl G) (Xe X) (XR X) (Xs X) (Xm X) (Xa X) (Xb X) (Xd X) (Xc X) H locs cells slots (XQ X) (F0 (Xm X) pc ls st)
/-- .. with an exception of class E thrown over it -/
def Zx (G : GT) (X : XT) (nL : Nat) (h : Hp) (uc us pc : Nat) (L : List (Option Value)) (st : List Value) (E : String) : Prop :=
  ∀ (ls : Array Slot) (H : Heap) (locs : List Loc) (cells slots : Nat) (ce : Cell) (q : Addr), lp_has ls nL L → Rep G h H → va_S (zA G) (Xs X).heap H locs → cells ≤ uc → slots ≤ us → H[q]? = some ce → ce.vm = .none → (Xs X).vm.findClass E = some ce.cls →
    vx_W (Xp X) (gl G) (Xe X) (XR X) (Xs X) (Xm X) (Xa X) (Xb X) (Xd X) (Xc X) H locs cells slots (XQ X) (F0 (Xm X) pc ls st) q
/-- what a body may use: the run's base, its code, its class, its level and its room -/
def Cx (G : GT) (X : XT) (own : String) (cc : ByteArray) (nL k mc ms : Nat) : Prop :=
  Base G ∧ Ev G (Xs X) ∧ (Xp X).tables.exec = Jvm.exec ∧ (Xc X).code = cc ∧ (Xc X).maxLocals = nL ∧ (Xs X).vm.findClass own = some (Xm X).cls ∧ k ≤ (XR X).frames ∧ 64 * k + 128 ≤ (XR X).locals ∧ (XR X).cells = mc ∧ (XR X).slots = ms ∧ (Xd X).locks = false
section
variable {G : GT} {X : XT} {own : String} {cc : ByteArray} {nL k mc ms : Nat}
theorem Cx.hB (C : Cx G X own cc nL k mc ms) : Base G := C.1
theorem Cx.hE (C : Cx G X own cc nL k mc ms) : Ev G (Xs X) := C.2.1
theorem Cx.hx (C : Cx G X own cc nL k mc ms) : (Xp X).tables.exec = Jvm.exec := C.2.2.1
theorem Cx.hb (C : Cx G X own cc nL k mc ms) : (Xc X).code = cc := C.2.2.2.1
theorem Cx.hml (C : Cx G X own cc nL k mc ms) : (Xc X).maxLocals = nL := C.2.2.2.2.1
theorem Cx.ho (C : Cx G X own cc nL k mc ms) : (Xs X).vm.findClass own = some (Xm X).cls := C.2.2.2.2.2.1
theorem Cx.hf (C : Cx G X own cc nL k mc ms) : k ≤ (XR X).frames := C.2.2.2.2.2.2.1
theorem Cx.hlo (C : Cx G X own cc nL k mc ms) : 64 * k + 128 ≤ (XR X).locals := C.2.2.2.2.2.2.2.1
theorem Cx.hc (C : Cx G X own cc nL k mc ms) : (XR X).cells = mc := C.2.2.2.2.2.2.2.2.1
theorem Cx.hs (C : Cx G X own cc nL k mc ms) : (XR X).slots = ms := C.2.2.2.2.2.2.2.2.2.1
theorem Cx.hk (C : Cx G X own cc nL k mc ms) : (Xd X).locks = false := C.2.2.2.2.2.2.2.2.2.2
theorem Cx.w (C : Cx G X own cc nL k mc ms) {w : Cond} (hm : w ∈ lw_tbl) (hg : zgood w = true) {a : Array Value} : w.before a (Xs X) = true := C.hB.w C.hE hm hg
theorem Cx.K (C : Cx G X own cc nL k mc ms) : va_K (gD G) zcl (zty (gC G)) (Xs X) := C.hB.K C.hE
theorem Cx.A (C : Cx G X own cc nL k mc ms) : ∀ q : Nat, (Xs X).heap.size ≤ q → zA G q := fun q hq => Nat.le_trans C.hE.2.1 hq
theorem lp_at {ls : Array Slot} {L : List (Option Value)} (h : lp_has ls nL L) {i : Nat} {v : Value} (hk : L[i]? = some (some v)) : ls[i]? = some (.val v) := h.2.2 i v hk
theorem Zs.mask (bs : List Bool) {h : Hp} {uc us pc : Nat} {L : List (Option Value)} {st : List Value} (kk : Zs G X nL h uc us pc (lmask bs L) st) : Zs G X nL h uc us pc L st := fun ls H locs cells slots hl => kk ls H locs cells slots ⟨hl.1, hl.2.1, fun i v hi => hl.2.2 i v (lmask_get bs L i v hi)⟩
theorem Zs.up {h : Hp} {uc us uc' us' pc : Nat} {L : List (Option Value)} {st : List Value} (hc : uc ≤ uc') (hs : us ≤ us') (kk : Zs G X nL h uc' us' pc L st) : Zs G X nL h uc us pc L st := fun ls H locs cells slots hl hR hS h1 h2 => kk ls H locs cells slots hl hR hS (Nat.le_trans h1 hc) (Nat.le_trans h2 hs)
end
