/-- the classes' numbers and slots, all in one -/
theorem kn_all {U : State} : ∀ cl : List vw_C, (∀ q ∈ cl, ∃ (cC : ClassId) (iS : Nat → Nat), u_Kn U q.1 q.2.1 q.2.2 cC iS) → ∃ D : va_G, ∀ (c : Nat) (q : vw_C), cl[c]? = some q → u_Kn U q.1 q.2.1 q.2.2 (D.1 c) (D.2 c)
  | [], _ => ⟨(fun _ => 0, fun _ _ => 0), fun c q e => by cases e⟩
  | q0 :: cl, h => by
    obtain ⟨cC, iS, h0⟩ := h q0 List.mem_cons_self
    obtain ⟨D, hD⟩ := kn_all cl (fun q hq => h q (List.mem_cons_of_mem _ hq))
    refine ⟨(fun c => match c with | 0 => cC | c + 1 => D.1 c, fun c => match c with | 0 => iS | c + 1 => D.2 c), fun c q e => ?_⟩
    match c, e with
    | 0, e => cases e; exact h0
    | c + 1, e => exact hD c q e
theorem ty_all {U : State} : ∀ tys : List FieldType, (∀ ty ∈ tys, ∃ cA : ClassId, ArrOfT U cA ty ∧ va_RA U cA ty) → ∃ ca : Nat → ClassId, ∀ (k : Nat) (ty : FieldType), tys[k]? = some ty → ArrOfT U (ca k) ty ∧ va_RA U (ca k) ty
  | [], _ => ⟨fun _ => 0, fun k ty e => by cases e⟩
  | t0 :: tys, h => by
    obtain ⟨cA, h0⟩ := h t0 List.mem_cons_self
    obtain ⟨ca, hca⟩ := ty_all tys (fun q hq => h q (List.mem_cons_of_mem _ hq))
    refine ⟨fun k => match k with | 0 => cA | k + 1 => ca k, fun k ty e => ?_⟩
    match k, e with
    | 0, e => cases e; exact h0
    | k + 1, e => exact hca k ty e
theorem arr_at {U : State} {cA : ClassId} {k : Class} {comp : ClassId} {ty : FieldType} (hk : U.vm.classes[cA]? = some k) (hkind : k.kind = .array comp ty) : ArrOfT U cA ty := fun n z => ⟨(fun k h => by cases h), k, hk, comp, hkind⟩
/-- the array class of arrays -/
theorem aoa_at {t : FieldType} {A : Array Value} {U : State} (h : (Cond.arrayOver (.array t)).before A U = true) : ∃ (c comp : ClassId) (k : Class), U.vm.classes[c]? = some k ∧ k.kind = .array comp (.array t) ∧ U.vm.findClass ("[" ++ (FieldType.array t).toString) = some c := by
  unfold Cond.before Cond.holds at h
  simp only [Cond.value, beq_iff_eq] at h
  cases hc : U.vm.findClass (FieldType.array t).toString with
  | none => rw [hc] at h; simp at h
  | some comp =>
    simp only [hc, Option.bind_some, Option.bind_eq_some_iff, Option.map_eq_some_iff] at h
    obtain ⟨c, hi, k, hk, hb⟩ := h
    cases hkind : k.kind with
    | array component ty =>
      rw [hkind] at hb
      simp at hb
      exact ⟨c, component, k, hk, by rw [hkind, hb.1], hb.2⟩
    | _ => rw [hkind] at hb; simp at hb
abbrev zts : List FieldType := [.int, .long, .float, .double, .boolean, .char, .object "java/lang/Object", .array .int, .array .boolean]
theorem base_start {l : Launch} {s : State} {b : Nat} (hflags : l.flags = flags0) (hts : ∀ w ∈ lw_tbl, w.before #[Value.ref b] s = true) (hgv : (Jvm.Cond.and given_1 narrow_1).before #[Value.ref b] s = true) : ∃ (D : va_G) (ca : Nat → ClassId) (t : Nat), Base (l, s, b, D, ca, t) := by
  obtain ⟨D, hD⟩ := kn_all (U := s) zcl (List.forall_mem_cons.mpr ⟨u_known hts kcJx4a65c.2.1 (hts _ inJx4a65c), List.forall_mem_cons.mpr ⟨u_known hts kcX0.2.1 (hts _ inX0), List.forall_mem_cons.mpr ⟨u_known hts kcX2.2.1 (hts _ inX2), List.forall_mem_cons.mpr ⟨u_known hts kcX3.2.1 (hts _ inX3), List.forall_mem_cons.mpr ⟨u_known hts kcX4.2.1 (hts _ inX4), List.forall_mem_cons.mpr ⟨u_known hts kcX5.2.1 (hts _ inX5), List.forall_mem_cons.mpr ⟨u_known hts kcX6.2.1 (hts _ inX6), List.forall_mem_cons.mpr ⟨u_known hts kcX7.2.1 (hts _ inX7), List.forall_mem_cons.mpr ⟨u_known hts kcX8.2.1 (hts _ inX8), List.forall_mem_cons.mpr ⟨u_known hts kcX9.2.1 (hts _ inX9), fun _ hm => absurd hm List.not_mem_nil⟩⟩⟩⟩⟩⟩⟩⟩⟩⟩)
  have prim : ∀ ty : FieldType, Cond.arrayClass ty ∈ lw_tbl → (∀ cA : ClassId, s.vm.findClass ("[" ++ ty.toString) = some cA → va_RA s cA ty) → ∃ cA : ClassId, ArrOfT s cA ty ∧ va_RA s cA ty := fun ty hm hr => by
    obtain ⟨cA, kA, comp, h1, h2, h3⟩ := Cond.arrayClass_spec (hts _ hm)
    exact ⟨cA, arr_at h2 h3, hr cA h1⟩
  obtain ⟨ca, hca⟩ := ty_all (U := s) zts (List.forall_mem_cons.mpr ⟨prim _ ac_int (fun _ q => q), List.forall_mem_cons.mpr ⟨prim _ ac_long (fun _ q => q), List.forall_mem_cons.mpr ⟨prim _ ac_float (fun _ q => q), List.forall_mem_cons.mpr ⟨prim _ ac_double (fun _ q => q), List.forall_mem_cons.mpr ⟨prim _ ac_boolean (fun _ q => q), List.forall_mem_cons.mpr ⟨prim _ ac_char (fun _ q => q), List.forall_mem_cons.mpr ⟨by
      obtain ⟨comp, c, k, h1, h2, h3, h4, h5⟩ := Cond.arrayOver_spec (hts _ ao_object)
      exact ⟨c, arr_at h3 h4, k, comp, h3, h4, h1, h5⟩, List.forall_mem_cons.mpr ⟨by
      obtain ⟨c, comp, k, h1, h2, h3⟩ := aoa_at (hts _ ao_int2)
      exact ⟨c, arr_at h1 h2, h3⟩, List.forall_mem_cons.mpr ⟨by
      obtain ⟨c, comp, k, h1, h2, h3⟩ := aoa_at (hts _ ao_boolean2)
      exact ⟨c, arr_at h1 h2, h3⟩, fun _ hm => absurd hm List.not_mem_nil⟩⟩⟩⟩⟩⟩⟩⟩⟩)
  have hf := flat_of_before _ hgv
  obtain ⟨t, ht, hT⟩ := va_Tof (N := 0) (f := fun _ => .null) (A := fun q => s.heap.size ≤ q) (tm := .static "java/util/ArrayList" "DEFAULTCAPACITY_EMPTY_ELEMENTDATA" "[Ljava/lang/Object;") (by decide) (hf (Cond.arrayOf (.static "java/util/ArrayList" "DEFAULTCAPACITY_EMPTY_ELEMENTDATA" "[Ljava/lang/Object;") (.object "java/lang/Object")) (by decide +kernel)) (va_eqt (hf (Cond.eq (.length (.static "java/util/ArrayList" "DEFAULTCAPACITY_EMPTY_ELEMENTDATA" "[Ljava/lang/Object;")) (.int 0)) (by decide +kernel))) (fun j hj => absurd hj (Nat.not_lt_zero j)) (fun a ha => Nat.not_le.mpr ha)
  have hZ := va_Zof (A := fun q => s.heap.size ≤ q) (hts (Cond.laysStatic "java/util/ArrayList" "DEFAULTCAPACITY_EMPTY_ELEMENTDATA" "[Ljava/lang/Object;") (by decide +kernel)) (hts (Cond.initialized "java/util/ArrayList") (by decide +kernel)) ht (fun a ha => Nat.not_le.mpr ha)
  refine ⟨D, ca, t, hts, hgv, ⟨hD, fun k q hk => ?_⟩, hflags, hZ, hT⟩
  match k, hk with
  | 0, hk => cases hk; exact hca 0 _ rfl
  | 1, hk => cases hk; exact hca 1 _ rfl
  | 2, hk => cases hk; exact hca 2 _ rfl
  | 3, hk => cases hk; exact hca 3 _ rfl
  | 4, hk => cases hk; exact hca 4 _ rfl
  | 5, hk => cases hk; exact hca 5 _ rfl
  | 6, hk => cases hk; exact hca 6 _ rfl
  | 7, hk => cases hk; exact hca 7 _ rfl
  | 8, hk => cases hk; exact hca 8 _ rfl
  | k + 9, hk => cases hk
/-! THE CLAIM OUT OF ONE WALK OF THE LAW'S BODY. Your part is whole_start (and what it stands on); all else here is the same for every law, but numbers. -/
def R_law : String := "DoorledgerLaw"
def lw_P (b : Addr) (xs : List Int32) (args : Array Value) (s : State) : Prop := args = #[.ref b] ∧ s.IntsAt b xs ∧ xs.length ≤ 2048 ∧ (Jvm.Cond.and given_1 narrow_1).before args s = true
/-- what a walk over the start with the record d0 says of its end, said of the start itself -/
theorem lw_closed {s t : State} {o : Outcome} {d0 : Drawn} {L : List Loc} {k n : Nat} (hd0 : s.drawn.sameBut d0 lw_cs) (hv : ∃ v, o = .returned v) (hW : (s.setDrawn d0).WarmedH t.vm) (hs : (s.setDrawn d0).sameButNew ({ t with vm := s.vm } : State) L k n) : State.butDraws s t lw_cs (fun t1 => Framed s o t1 L k n) := by
  have h2 : t.drawn = d0 := congrArg State.drawn hs.1
  refine ⟨⟨hv, hW, State.sameButNew.setDrawn hs s.drawn⟩, ?_, by decide⟩
  rw [h2]
  exact hd0
def lw_Q (_ : Array Value) (s : State) (o : Outcome) (t : State) : Prop := o = .returned (some (.int 1)) ∧ State.butDraws s t lw_cs (fun t1 => Framed s o t1 [] 603072 7211114)
def lw_Z (below : List Frame) (a : Array Value) (s : State) : State → Prop := fun t => ∃ o, t.status = .running ∧ Ended t below o ∧ lw_Q a s o t
/-- the law's own end, with 1 on the stack, nothing written that was there before, its room as the claim has it; d0: the record of draws at this point (at the entry s.drawn: begin with 'refine W.base ?_' and 'have hd0 := Drawn.sameBut.refl s.drawn lw_cs') -/
theorem lw_ret {p : Program} {l : Launch} {e : Env} {s : State} {m : MethodId} {below : List Frame} {meth : Method} {c : Code} {b : Nat} {d0 : Drawn} (hd0 : s.drawn.sameBut d0 lw_cs) (hx : p.tables.exec = Jvm.exec) (hb : c.code = code) (hr : meth.sig.returnType = ret) (hlocks : meth.locks = false) {pc : Nat} {H : Heap} {ls : Array Slot} (hdg : decode code pc = .ok (.ireturn, 1)) : W p l e room_1 (s.setDrawn d0) m #[Value.ref b] below meth c H [] 603072 7211114 (lw_Z below #[Value.ref b] s) (F0 m pc ls [.int 1]) := by
  intro T hT X
  obtain ⟨fs, hret, hrun, hended, hW, hframe⟩ := X.leave (v := some (.int 1)) (hlocks := hlocks) (fun h => by rw [hr] at h; cases h)
  have hmeth' : T.vm.method? m = some meth := X.method'
  refine ⟨T.setFrames fs, ?_, .returned (some (.int 1)), hrun, hended, rfl, lw_closed hd0 ⟨_, rfl⟩ hW hframe⟩
  jvm_step X.here [X.here.top, hx, hb, hdg, hmeth', hr, ret, narrow_b1]
  (try refine ⟨rfl, ?_⟩); (try refine ⟨rfl, ?_⟩)
  first | (intro acts; rw [hret _ acts rfl rfl rfl]) | rw [hret _ _ rfl rfl rfl]
  exact Steps.refl _
/-- what holds at the law's entry: the machine, the code, the tables' words (any of lw_tbl by 'hts w (by decide +kernel)'), the script of L ints xs at the cell b, what the Statement gives of the start (any of its parts by flat_of_before) -/
def lw_At (p : Program) (s : State) (m : MethodId) (meth : Method) (c : Code) (b L : Nat) (xs : Nat → Int32) : Prop :=
  p.tables.exec = Jvm.exec ∧ c.code = code ∧ meth.sig.returnType = ret ∧ c.maxLocals = 9 ∧ s.vm.findClass R_law = some m.cls ∧ (∀ w ∈ lw_tbl, w.before #[Value.ref b] s = true) ∧ va_X b L xs s s.heap ∧ b < s.heap.size ∧ meth.locks = false ∧ (Jvm.Cond.and given_1 narrow_1).before #[Value.ref b] s = true
-- ===== YOUR PART BEGINS =====
/-- YOUR PART: from the entry, for every script of at most 2048 ints, the law comes to its end with true ('hflags': the launch's flags, for a law that throws: no stack traces) -/
theorem whole_start {p : Program} {e : Env} {s : State} {m : MethodId} {below : List Frame} {meth : Method} {c : Code} (l : Launch) (hflags : l.flags = flags0) {b L : Nat} {xs : Nat → Int32} (hL : L ≤ 2048) (C0 : lw_At p s m meth c b L xs) : W p l e room_1 s m #[Value.ref b] below meth c s.heap [] 0 0 (lw_Z below #[Value.ref b] s) (entryFrame m ([Value.ref b] : List Value).toArray 9) := by
  obtain ⟨hx, hb, hr, hml, hown, hts, hX, hbl, hlk, hgv⟩ := C0
  obtain ⟨D, ca, t, hB⟩ := base_start hflags hts hgv
  have C : Cx (l, s, b, D, ca, t) (p, e, room_1, s, m, #[Value.ref b], below, meth, c, lw_Z below #[Value.ref b] s) RL cL_law 9 20 603072 7211114 :=
    ⟨hB, ⟨State.WarmedH.refl s, Nat.le_refl _, fun _ _ => rfl⟩, hx, hb, hml, hown, zb rfl, zb rfl, rfl, rfl, hlk⟩
  have hend : ∀ (h : Hp) (uc us : Nat) (L9 : List (Option Value)), uc ≤ 603072 → us ≤ 7211114 → Zs (l, s, b, D, ca, t) (p, e, room_1, s, m, #[Value.ref b], below, meth, c, lw_Z below #[Value.ref b] s) 9 h uc us 2168 L9 [.int 1] :=
    fun h uc us L9 h1 h2 ls H locs cells slots hl hR hS hc hs => va_forget hS.2.2 (W.widen (Nat.le_trans hc h1) (Nat.le_trans hs h2) (W.base (lw_ret (d0 := s.drawn) (Drawn.sameBut.refl s.drawn lw_cs) hx hb hr hlk dL_law_2168)))
  rw [lg_entry_eq]
  exact law_start hB C ⟨hX, hbl⟩ hL hend _ s.heap [] 0 0 (lp_entry (m := 8) [Value.ref b] (zb rfl)) (fun a o e => nomatch e) va_S.rf (Nat.le_refl _) (Nat.le_refl _)
-- ===== YOUR PART ENDS =====
set_option maxHeartbeats 4000000 in
theorem lw_walk (l : Launch) (hflags : l.flags = flags0) (b : Addr) (xs : List Int32) : MetFree l x (headSpec (Jvm.Cond.code x code maxLocals ret :: tables_1) room_1) (lw_P b xs) (fun _ _ _ _ _ => True) lw_Q := by
  refine MetFree.of_bodyS (code := code) (maxLocals := maxLocals) (ret := ret) (by decide) ?_ ?_
  · intro args s m h hn
    obtain ⟨meth, c, h1, h2, h3, h4, h5, h6, -, -⟩ := Cond.code_spec hn (atoms_spec (ws := Jvm.Cond.code x code maxLocals ret :: tables_1) h _ List.mem_cons_self)
    exact ⟨meth, c, h1, h2, h3, h4, h5, h6⟩
  · intro p e s m args below meth c s₁ B hml0 hP _
    obtain ⟨rfl, hx, hbd, hgv⟩ := hP
    obtain ⟨scr, harrAt, hlist, hof, hsmall⟩ := hx
    obtain ⟨hcb, hkn, -, -⟩ := State.arrayAt?_spec harrAt
    have hown : s.vm.findClass R_law = some m.cls := findClass_of_methodNamed B.named
    have hts0 : ∀ c ∈ (Jvm.Cond.code x code maxLocals ret :: tables_1), c.before #[Value.ref b] s = true := atoms_spec (ws := Jvm.Cond.code x code maxLocals ret :: tables_1) B.pre
    have hts : ∀ w ∈ lw_tbl, w.before #[Value.ref b] s = true := k2_hts_sels lw_privs (fun w hw => hts0 w (List.mem_cons_of_mem _ hw)) lw_privs_ok
    have hml : c.maxLocals = 9 := B.maxLocals_eq (hts0 _ List.mem_cons_self)
    have X₀ : Stand p l e room_1 s m #[Value.ref b] below meth c s₁ [] 0 0 := Stand.of_body B
    have hh0 : s₁.heap = s.heap := by rw [B.state]; rfl
    have hsz : scr.slots.size = xs.length := by rw [← Array.length_toList, hlist, List.length_map]
    have hval : ∀ j : Nat, j < xs.length → scr.slots[j]? = some (.int (xs.getD j 0)) := fun j hj => by
      rw [← Array.getElem?_toList, hlist]
      simp [hj]
    have hbl : b < s.heap.size := (Array.getElem?_eq_some_iff.mp hcb).1
    have hX : va_X b xs.length (fun j => xs.getD j 0) s s.heap := ⟨scr, hcb, hof, hkn, hsz, hval⟩
    have K : W p l e room_1 s m #[Value.ref b] below meth c s₁.heap [] 0 0 (lw_Z below #[Value.ref b] s) (entryFrame m ([Value.ref b] : List Value).toArray 9) := by
      rw [hh0]
      exact whole_start l hflags hbd ⟨B.exec, B.bytes, B.returns, hml, hown, hts, hX, hbl, B.notSynchronized, hgv⟩
    obtain ⟨t, a1, o, b1, b2, b3⟩ := K s₁ rfl X₀
    exact ⟨t, o, a1, b1, b2, b3⟩
theorem lw_pre_spec {args : Array Value} {s : State} (h : (Jvm.Cond.and given_1 narrow_1).before args s = true) (hr : rest_1_c.before args s = true) : ∃ (b : Addr) (xs : List Int32), lw_P b xs args s := by
  have hs := flat_of_before _ h
  have hq := flat_of_before _ hr
  have hc : (Cond.count 1).before args s = true := hs _ (by decide +kernel)
  have harr : (Cond.arrayOf (.arg 0) .int).before args s = true := hs _ (by decide +kernel)
  have hle : (Cond.le (.length (.arg 0)) (.int 2048)).before args s = true := hs _ (by decide +kernel)
  have hlen : (Cond.isInt (.length (.arg 0))).before args s = true := hq _ (by decide +kernel)
  have hall : (Cond.all (.arg 0) (.isInt (.elem (.arg 0) (.index 0)))).before args s = true := hq _ (by decide +kernel)
  obtain ⟨b, xs, hb, hx⟩ := State.ints_of_pre rfl harr hlen hall
  have hsm : xs.length < 2 ^ 31 := hx.choose_spec.2.2.2
  have hev : (Term.length (.arg 0)).eval args s none [] s = some (.int xs.length.toInt32) := hx.length_eval hb
  have hv := Cond.le_ints hev (show (Term.int 2048).eval args s none [] s = some (.int 2048) from rfl)
  have hd : xs.length.toInt32 ≤ 2048 := by
    simpa [Cond.before, Cond.holds, hv] using hle
  have hN : xs.length ≤ 2048 := (Int32.ofNat_le_ofNat hsm (by decide)).mp (show Int32.ofNat xs.length ≤ Int32.ofNat 2048 from hd)
  exact ⟨b, xs, Cond.one_arg hc (show args[0]? = some (.ref b) from hb), hx, hN, h⟩
theorem lw_comes (l : Launch) (hflags : l.flags = flags0) : Comes l x (Jvm.Cond.code x code maxLocals ret :: tables_1) room_1 (fun tb e args s => Calls_1 tb e args s ∧ rest_1 tb e args s ∧ Pre_1 tb e args s)
    (fun _ _ args s o t => lw_Q args s o t) := by
  intro p e ha hc hk s m args below hf hfit hheap happ hpre
  obtain ⟨b, xs, hP⟩ := lw_pre_spec hpre.2.2 hpre.2.1
  obtain ⟨k, o, h1, h2, h3, hQ⟩ := lw_walk l hflags b xs p e ha hc hk s m args below hf ((Spec.applies_iff_loose hf).mp happ).1 hP trivial
  exact ⟨k, o, h1, h2, h3, hQ⟩
theorem lw_frame {s t : State} {o : Outcome} {args : Array Value} (h : State.butDraws s t lw_cs (fun t1 => Framed s o t1 [] 603072 7211114)) :
    State.butDraws s t [Jvm.Choice.named "NaN.bits"] (fun t1 => Framed s o t1 (fieldLocs frame_1_writes args s ++ arrayLocs frame_1_arrays args s ++ staticLocs frame_1_statics s) 603072 7211114) := h
theorem lw_limb (L : Cond) (hL : ∀ (args : Array Value) (s t : State), L.after args s (.returned (some (.int 1))) t = true) :
    ArmFor flags0 classFile x code maxLocals ret World_1 tables_1 room_1 Calls_1 rest_1 Pre_1
      (fun tb e a s o t => postC L tb e a s o t ∧ State.butDraws s t [Jvm.Choice.named "NaN.bits"] (fun t1 => Framed s o t1 (fieldLocs frame_1_writes a s ++ arrayLocs frame_1_arrays a s ++ staticLocs frame_1_statics s) 603072 7211114)) := by
  intro l hflags _ _ p e ha hc hk s m args below hf hfit hheap happ hpre
  obtain ⟨k, o, h1, h2, h3, rfl, hF⟩ := lw_comes l hflags p e ha hc hk s m args below hf hfit hheap happ hpre
  exact ⟨k, _, h1, h2, h3, hL args s _, lw_frame hF⟩
theorem i_vc : Claimed_1_1 ∧ Claimed_1_2 := ⟨lw_limb limb_1_1 (fun args s t => by simp [limb_1_1, Cond.after, Cond.holds, Cond.value]), lw_limb limb_1_2 (fun args s t => Cond.after_iff.mpr (by
  first | (rw [show limb_1_2 = Cond.eq .result (.int 1) from rfl, Cond.eq_ints (x := 1) (y := 1) rfl rfl]; simp; done) | (simp [limb_1_2, Cond.value, Term.eval]; done)))⟩
