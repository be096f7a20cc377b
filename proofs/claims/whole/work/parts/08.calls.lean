/-! contracts over the functional world, their ends, calls, exceptions -/
abbrev MD : Type := MethodName × ByteArray × Nat × Option FieldType
def RMk (k mc ms : Nat) : Room := { frames := k, cells := mc, slots := ms, locals := 64 * k + 128 }
def zP (G : GT) (av : List Value) (h : Hp) : Array Value → State → Prop := fun v U => v = av.toArray ∧ Ev G U ∧ Rep G h U.heap
def zQ (G : GT) (post : Option Value → Hp → Prop) : Array Value → State → Outcome → State → Prop := fun _ st o t => (∃ (v : Option Value) (h' : Hp), o = .returned v ∧ post v h' ∧ Rep G h' t.heap) ∧ va_F (zA G) st t
def zX (G : GT) (px : String → Hp → Prop) : String → State → State → Prop := fun E st t => (∃ h' : Hp, px E h' ∧ Rep G h' t.heap) ∧ va_F (zA G) st t
/-- method md, called with av over a heap that holds h: it returns v with post v h', or throws E with px E h' -/
def Ct (G : GT) (md : MD) (k mc ms : Nat) (av : List Value) (h : Hp) (post : Option Value → Hp → Prop) (px : String → Hp → Prop) : Prop :=
  vx_Met (gl G) md.1 [Cond.code md.1 md.2.1 md.2.2.1 md.2.2.2] (RMk k mc ms) (zP G av h) (zQ G post) (zX G px) mc ms (zA G)
/-- .. for a method with a table of handlers -/
def CtW (G : GT) (md : MD) (hh : List (Nat × Nat × Nat × Nat)) (k mc ms : Nat) (av : List Value) (h : Hp) (post : Option Value → Hp → Prop) (px : String → Hp → Prop) : Prop :=
  vx_Met (gl G) md.1 [Cond.codeWith md.1 md.2.1 md.2.2.1 md.2.2.2 hh] (RMk k mc ms) (zP G av h) (zQ G post) (zX G px) mc ms (zA G)
def noX : String → Hp → Prop := fun _ _ => False
/-- what a body owes at its end -/
def Ed (G : GT) (X : XT) (nm : String) (ret : Option FieldType) (tb : List ExceptionTableEntry) (mc ms : Nat) (post : Option Value → Hp → Prop) (px : String → Hp → Prop) : Prop :=
  XQ X = vx_MQ (Xb X) (zQ G post) (zX G px) (Xa X) (Xs X) mc ms (zA G) ∧ (Xd X).sig.returnType = ret ∧ (Xd X).name = nm ∧ (Xc X).exceptionTable.toList = tb
theorem Ct.intro {G : GT} {md : MD} {k mc ms m : Nat} {av : List Value} {h : Hp} {post : Option Value → Hp → Prop} {px : String → Hp → Prop} (hB : Base G) (hy : plainName md.1.cls = true) (hn : (lg_sl av).length ≤ md.2.2.1)
    (body : ∀ X : XT, Cx G X md.1.cls md.2.1 md.2.2.1 k mc ms → Ed G X md.1.name md.2.2.2 [] mc ms post px → Zs G X md.2.2.1 h 0 0 0 (zarg av ++ List.replicate m none) []) : Ct G md k mc ms av h post px := by
  refine vx_ofW (cc := md.2.1) (maxL := md.2.2.1) (ret := md.2.2.2) hy rfl ?_
  intro p e s m9 args below meth c s₁ B hml htab hv
  obtain ⟨rfl, hE, hR⟩ := hv
  rw [lg_entry_eq]
  exact body (p, e, (headSpec [Cond.code md.1 md.2.1 md.2.2.1 md.2.2.2] (RMk k mc ms)).room, s, m9, av.toArray, below, meth, c, vx_MQ below (zQ G post) (zX G px) av.toArray s mc ms (zA G))
    ⟨hB, hE, B.exec, B.bytes, hml, findClass_of_methodNamed B.named, Nat.le_refl _, Nat.le_refl _, rfl, rfl, B.notSynchronized⟩ ⟨rfl, B.returns, (name_of_methodNamed B.named B.method).1, List.eq_nil_iff_forall_not_mem.mpr htab⟩ _ s.heap [] 0 0 (lp_entry av hn) hR va_S.rf (Nat.le_refl _) (Nat.le_refl _)
theorem CtW.intro {G : GT} {md : MD} {hh : List (Nat × Nat × Nat × Nat)} {k mc ms m : Nat} {av : List Value} {h : Hp} {post : Option Value → Hp → Prop} {px : String → Hp → Prop} (hB : Base G) (hy : plainName md.1.cls = true) (hn : (lg_sl av).length ≤ md.2.2.1)
    (body : ∀ X : XT, Cx G X md.1.cls md.2.1 md.2.2.1 k mc ms → Ed G X md.1.name md.2.2.2 (tableOf hh) mc ms post px → Zs G X md.2.2.1 h 0 0 0 (zarg av ++ List.replicate m none) []) : CtW G md hh k mc ms av h post px := by
  refine vx_ofWH (cc := md.2.1) (maxL := md.2.2.1) (ret := md.2.2.2) (hh := hh) hy rfl ?_
  intro p e s m9 args below meth c s₁ B hml hv
  obtain ⟨rfl, hE, hR⟩ := hv
  rw [lg_entry_eq]
  exact body (p, e, (headSpec [Cond.codeWith md.1 md.2.1 md.2.2.1 md.2.2.2 hh] (RMk k mc ms)).room, s, m9, av.toArray, below, meth, c, vx_MQ below (zQ G post) (zX G px) av.toArray s mc ms (zA G))
    ⟨hB, hE, B.exec, B.bytes, hml, findClass_of_methodNamed B.named, Nat.le_refl _, Nat.le_refl _, rfl, rfl, B.notSynchronized⟩ ⟨rfl, B.returns, (name_of_methodNamed B.named B.method).1, vx_table (x := md.1) B (atoms_spec (ws := [Cond.codeWith md.1 md.2.1 md.2.2.1 md.2.2.2 hh]) B.pre _ List.mem_cons_self)⟩ _ s.heap [] 0 0 (lp_entry av hn) hR va_S.rf (Nat.le_refl _) (Nat.le_refl _)
/-- a contract of a member of a class that has entries of the machine's -/
theorem Ct.introF {G : GT} {md : MD} {k mc ms m : Nat} {av : List Value} {h : Hp} {post : Option Value → Hp → Prop} {px : String → Hp → Prop} (hB : Base G) (hy : plainFor md.1 = true) (hn : (lg_sl av).length ≤ md.2.2.1)
    (body : ∀ X : XT, Cx G X md.1.cls md.2.1 md.2.2.1 k mc ms → Ed G X md.1.name md.2.2.2 [] mc ms post px → Zs G X md.2.2.1 h 0 0 0 (zarg av ++ List.replicate m none) []) : Ct G md k mc ms av h post px := by
  refine MetFree.of_bodySF (code := md.2.1) (maxLocals := md.2.2.1) (ret := md.2.2.2) hy ?_ ?_
  · intro args s m h hn
    obtain ⟨meth, c, h1, h2, h3, h4, h5, h6, -, -⟩ := Cond.code_spec hn (atoms_spec (ws := [Cond.code md.1 md.2.1 md.2.2.1 md.2.2.2]) h _ List.mem_cons_self)
    exact ⟨meth, c, h1, h2, h3, h4, h5, h6⟩
  · intro p e s m9 args below meth c s₁ B hml hv _
    have hh0 : s₁.heap = s.heap := by rw [B.state]; rfl
    have ht : ∀ x ∈ c.exceptionTable.toList, False := by
      obtain ⟨meth9, c9, h1, h2, -, -, -, -, h7, -⟩ := Cond.code_spec B.named (atoms_spec (ws := [Cond.code md.1 md.2.1 md.2.2.1 md.2.2.2]) B.pre _ List.mem_cons_self)
      cases Option.some.inj (h1.symm.trans B.method)
      cases Option.some.inj (h2.symm.trans (Stand.of_body B).code)
      intro x hx
      rw [Array.isEmpty_iff.mp h7] at hx
      cases hx
    obtain ⟨rfl, hE, hR⟩ := hv
    have K : W p (gl G) e (headSpec [Cond.code md.1 md.2.1 md.2.2.1 md.2.2.2] (RMk k mc ms)).room s m9 av.toArray below meth c s.heap [] 0 0 (vx_MQ below (zQ G post) (zX G px) av.toArray s mc ms (zA G)) (entryFrame m9 av.toArray md.2.2.1) := by
      rw [lg_entry_eq]
      exact body (p, e, (headSpec [Cond.code md.1 md.2.1 md.2.2.1 md.2.2.2] (RMk k mc ms)).room, s, m9, av.toArray, below, meth, c, vx_MQ below (zQ G post) (zX G px) av.toArray s mc ms (zA G))
        ⟨hB, hE, B.exec, B.bytes, hml, findClass_of_methodNamed B.named, Nat.le_refl _, Nat.le_refl _, rfl, rfl, B.notSynchronized⟩ ⟨rfl, B.returns, (name_of_methodNamed B.named B.method).1, List.eq_nil_iff_forall_not_mem.mpr ht⟩ _ s.heap [] 0 0 (lp_entry av hn) hR va_S.rf (Nat.le_refl _) (Nat.le_refl _)
    obtain ⟨t, a1, o, b1, b2, b3⟩ := K s₁ hh0 (Stand.of_body B)
    exact ⟨t, o, a1, b1, b2, b3⟩
theorem Ct.mono {G : GT} {md : MD} {k mc ms : Nat} {av : List Value} {h : Hp} {post post' : Option Value → Hp → Prop} {px px' : String → Hp → Prop} (hc : Ct G md k mc ms av h post px) (h1 : ∀ v h', post v h' → post' v h') (h2 : ∀ E h', px E h' → px' E h') : Ct G md k mc ms av h post' px' := by
  intro p e a1 a2 a3 s m args below a4 a5 a6 a7
  obtain ⟨n, o, b1, b2, b3, b4⟩ := hc p e a1 a2 a3 s m args below a4 a5 a6 a7
  refine ⟨n, o, b1, b2, b3, ?_⟩
  rcases b4 with ⟨⟨⟨v, h', e1, e2, e3⟩, e4⟩, e5⟩ | ⟨q, e1, E, ce, L, ⟨⟨h', e2, e3⟩, e4⟩, e5⟩
  · exact Or.inl ⟨⟨⟨v, h', e1, h1 v h' e2, e3⟩, e4⟩, e5⟩
  · exact Or.inr ⟨q, e1, E, ce, L, ⟨⟨h', h2 E h' e2, e3⟩, e4⟩, e5⟩
section
variable {G : GT} {X : XT} {own nm : String} {cc : ByteArray} {nL k mc ms uc us pc : Nat} {h : Hp} {L : List (Option Value)} {st st0 : List Value} {tb : List ExceptionTableEntry} {post : Option Value → Hp → Prop} {px : String → Hp → Prop}
theorem Zs.fin {ret : Option FieldType} (E : Ed G X nm ret tb mc ms post px) {H : Heap} {locs : List Loc} {cells slots : Nat} (hc : cells ≤ mc) (hs : slots ≤ ms) {g : JFrame} (kk : W (Xp X) (gl G) (Xe X) (XR X) (Xs X) (Xm X) (Xa X) (Xb X) (Xd X) (Xc X) H locs mc ms (MQ (Xb X) (zQ G post) (Xa X) (Xs X) mc ms (zA G)) g) : W (Xp X) (gl G) (Xe X) (XR X) (Xs X) (Xm X) (Xa X) (Xb X) (Xd X) (Xc X) H locs cells slots (XQ X) g := by
  rw [E.1]
  exact W.widen hc hs (vx_ret kk)
theorem z_iret {v : Int32} (C : Cx G X own cc nL k mc ms) (E : Ed G X nm (some .int) tb mc ms post px) (d : decode cc pc = .ok (.ireturn, 1)) (hp : post (some (.int v)) h) (h1 : uc ≤ mc) (h2 : us ≤ ms) : Zs G X nL h uc us pc L [.int v] :=
  fun ls H locs cells slots hl hR hS hc hs => Zs.fin E (Nat.le_trans hc h1) (Nat.le_trans hs h2) (W.iret C.hx C.hb E.2.1 (fun t ht hW => ⟨⟨some (.int v), h, rfl, hp, by rw [ht]; exact hR⟩, hS.F ht⟩) hS.2.2 d (hlocks := C.hk))
theorem z_lret {v : Int64} (C : Cx G X own cc nL k mc ms) (E : Ed G X nm (some .long) tb mc ms post px) (d : decode cc pc = .ok (.lreturn, 1)) (hp : post (some (.long v)) h) (h1 : uc ≤ mc) (h2 : us ≤ ms) : Zs G X nL h uc us pc L [.long v] :=
  fun ls H locs cells slots hl hR hS hc hs => Zs.fin E (Nat.le_trans hc h1) (Nat.le_trans hs h2) (W.lret C.hx C.hb E.2.1 (fun t ht hW => ⟨⟨some (.long v), h, rfl, hp, by rw [ht]; exact hR⟩, hS.F ht⟩) hS.2.2 d (hlocks := C.hk))
theorem z_fret {v : UInt32} (C : Cx G X own cc nL k mc ms) (E : Ed G X nm (some .float) tb mc ms post px) (d : decode cc pc = .ok (.freturn, 1)) (hp : post (some (.float v)) h) (h1 : uc ≤ mc) (h2 : us ≤ ms) : Zs G X nL h uc us pc L [.float v] :=
  fun ls H locs cells slots hl hR hS hc hs => Zs.fin E (Nat.le_trans hc h1) (Nat.le_trans hs h2) (W.fret C.hx C.hb E.2.1 (fun t ht hW => ⟨⟨some (.float v), h, rfl, hp, by rw [ht]; exact hR⟩, hS.F ht⟩) hS.2.2 d (hlocks := C.hk))
theorem z_dret {v : UInt64} (C : Cx G X own cc nL k mc ms) (E : Ed G X nm (some .double) tb mc ms post px) (d : decode cc pc = .ok (.dreturn, 1)) (hp : post (some (.double v)) h) (h1 : uc ≤ mc) (h2 : us ≤ ms) : Zs G X nL h uc us pc L [.double v] :=
  fun ls H locs cells slots hl hR hS hc hs => Zs.fin E (Nat.le_trans hc h1) (Nat.le_trans hs h2) (W.dret C.hx C.hb E.2.1 (fun t ht hW => ⟨⟨some (.double v), h, rfl, hp, by rw [ht]; exact hR⟩, hS.F ht⟩) hS.2.2 d (hlocks := C.hk))
/-- a boolean or a char -/
theorem z_zret {v : Int32} {ty : FieldType} (C : Cx G X own cc nL k mc ms) (E : Ed G X nm (some ty) tb mc ms post px) (hn : narrow ty (.int v) = .int v) (d : decode cc pc = .ok (.ireturn, 1)) (hp : post (some (.int v)) h) (h1 : uc ≤ mc) (h2 : us ≤ ms) : Zs G X nL h uc us pc L [.int v] :=
  fun ls H locs cells slots hl hR hS hc hs => Zs.fin E (Nat.le_trans hc h1) (Nat.le_trans hs h2) (W.zret C.hx C.hb E.2.1 hn (fun t ht hW => ⟨⟨some (.int v), h, rfl, hp, by rw [ht]; exact hR⟩, hS.F ht⟩) hS.2.2 d (hlocks := C.hk))
theorem z_vret (C : Cx G X own cc nL k mc ms) (E : Ed G X nm none tb mc ms post px) (d : decode cc pc = .ok (.return_, 1)) (hp : post none h) (h1 : uc ≤ mc) (h2 : us ≤ ms) : Zs G X nL h uc us pc L [] :=
  fun ls H locs cells slots hl hR hS hc hs => Zs.fin E (Nat.le_trans hc h1) (Nat.le_trans hs h2) (W.vret C.hx C.hb E.2.1 (fun t ht hW => ⟨⟨none, h, rfl, hp, by rw [ht]; exact hR⟩, hS.F ht⟩) hS.2.2 d (hlocks := C.hk))
theorem z_aret {v : Value} {rt : FieldType} (C : Cx G X own cc nL k mc ms) (E : Ed G X nm (some rt) tb mc ms post px) (hrt : (∃ n, rt = .object n) ∨ ∃ t, rt = .array t) (hv : v = .null ∨ ∃ a, v = .ref a) (d : decode cc pc = .ok (.areturn, 1)) (hp : post (some v) h) (h1 : uc ≤ mc) (h2 : us ≤ ms) : Zs G X nL h uc us pc L [v] :=
  fun ls H locs cells slots hl hR hS hc hs => Zs.fin E (Nat.le_trans hc h1) (Nat.le_trans hs h2) (W.aret C.hx C.hb E.2.1 hrt hv (fun t ht hW => ⟨⟨some v, h, rfl, hp, by rw [ht]; exact hR⟩, hS.F ht⟩) hS.2.2 d (hlocks := C.hk))
/-! calls -/
def KV (md : MD) (n : Nat) : Prop := Cond.instanceMethod md.1 ∈ lw_tbl ∧ Cond.selects md.1.cls md.1 md.1 ∈ lw_tbl ∧ Cond.initialized md.1.cls ∈ lw_tbl ∧ Cond.code md.1 md.2.1 md.2.2.1 md.2.2.2 ∈ lw_tbl ∧ (md.1.cls ≠ "java/lang/invoke/MethodHandle" ∧ md.1.cls ≠ "java/lang/invoke/VarHandle") ∧ (parseMethodDescriptor md.1.desc).map (fun d => d.parameters.length) = some n ∧ md.2.2.1 ≤ 40
def KS (md : MD) (n : Nat) : Prop := Cond.static md.1 ∈ lw_tbl ∧ Cond.initialized md.1.cls ∈ lw_tbl ∧ Cond.code md.1 md.2.1 md.2.2.1 md.2.2.2 ∈ lw_tbl ∧ (md.1.cls ≠ "java/lang/invoke/MethodHandle" ∧ md.1.cls ≠ "java/lang/invoke/VarHandle") ∧ (parseMethodDescriptor md.1.desc).map (fun d => d.parameters.length) = some n ∧ md.2.2.1 ≤ 40
def KI (md : MD) (n : Nat) : Prop := Cond.instanceMethod md.1 ∈ lw_tbl ∧ Cond.initialized md.1.cls ∈ lw_tbl ∧ Cond.code md.1 md.2.1 md.2.2.1 md.2.2.2 ∈ lw_tbl ∧ (md.1.cls ≠ "java/lang/invoke/MethodHandle" ∧ md.1.cls ≠ "java/lang/invoke/VarHandle") ∧ (parseMethodDescriptor md.1.desc).map (fun d => d.parameters.length) = some n ∧ md.2.2.1 ≤ 40 ∧ md.1.name = "<init>" ∧ md.2.2.2 = none
def KW (md : MD) (hh : List (Nat × Nat × Nat × Nat)) (n : Nat) : Prop := Cond.static md.1 ∈ lw_tbl ∧ Cond.initialized md.1.cls ∈ lw_tbl ∧ Cond.codeWith md.1 md.2.1 md.2.2.1 md.2.2.2 hh ∈ lw_tbl ∧ (md.1.cls ≠ "java/lang/invoke/MethodHandle" ∧ md.1.cls ≠ "java/lang/invoke/VarHandle") ∧ (parseMethodDescriptor md.1.desc).map (fun d => d.parameters.length) = some n ∧ md.2.2.1 ≤ 40
theorem zP_blind {av : List Value} : FrameBlind (zP G av h) := fun a U g mk q => ⟨q.1, q.2.1, q.2.2⟩
theorem zP_in {H : Heap} {locs : List Loc} {av : List Value} (C : Cx G X own cc nL k mc ms) (hR : Rep G h H) (hS : va_S (zA G) (Xs X).heap H locs) : ∀ U : State, U.heap = H → (Xs X).WarmedH U.vm → zP G av h av.toArray U := fun U hU hW =>
  ⟨rfl, C.hE.go hW (by rw [hU]; exact hS.1) (fun q hq => by rw [hU]; exact hS.2.1 q (Nat.lt_of_lt_of_le hq C.hE.2.1) (zA_not hq)), by rw [hU]; exact hR⟩
theorem arity_of {y : MethodName} {n : Nat} (h2 : (parseMethodDescriptor y.desc).map (fun d => d.parameters.length) = some n) : ∀ sig, parseMethodDescriptor y.desc = some sig → n = sig.parameters.length := fun sig h => by
  rw [h] at h2
  exact (Option.some.inj h2).symm
/-- the run of a callee by its contract -/
def ZRun (G : GT) (X : XT) (nL : Nat) (h : Hp) (uc us mc2 ms2 pc : Nat) (L : List (Option Value)) (st0 st : List Value) (av : List Value) (post : Option Value → Hp → Prop) (px : String → Hp → Prop) : Prop :=
  ∀ (ls : Array Slot) (H : Heap) (locs : List Loc) (cells slots : Nat), lp_has ls nL L → Rep G h H → va_S (zA G) (Xs X).heap H locs → cells ≤ uc → slots ≤ us →
    vx_Run (Xp X) (gl G) (Xe X) (XR X) (Xs X) (Xm X) (Xa X) (Xb X) (Xd X) (Xc X) H locs cells slots mc2 ms2 (F0 (Xm X) pc ls st0) st (zQ G post av.toArray) (zX G px) (zA G)
theorem z_run {mc2 ms2 : Nat} {av : List Value} {post2 : Option Value → Hp → Prop} {px2 : String → Hp → Prop} (hr : ZRun G X nL h uc us mc2 ms2 pc L st0 st av post2 px2)
    (kx : ∀ (E : String) (h' : Hp), px2 E h' → Zx G X nL h' (uc + mc2) (us + ms2) pc L st E)
    (kk : ∀ (v : Option Value) (h' : Hp), post2 v h' → Zs G X nL h' (uc + mc2) (us + ms2) (pc + 3) L (v.toList ++ st)) : Zs G X nL h uc us pc L st0 := by
  intro ls H locs cells slots hl hR hS hc hs T hT XX
  rcases hr ls H locs cells slots hl hR hS hc hs T hT XX with ⟨v, st₀, t, T', L1, h0, X', hL, e1, e2, ⟨⟨v1, h', hv1, hp, hR'⟩, hF⟩, goes⟩ | ⟨q, st₀, t, T', L1, E, ce, h0, X', hL, e1, e2, ⟨⟨h', hp, hR'⟩, hF⟩, hce, hcv, hcl, steps⟩
  · cases hv1
    obtain ⟨-, -, k3⟩ := vx_keep h0 e1 hS (fun q _ z => z) (fun q z => z) hL hF
    obtain ⟨t2, a1, b1⟩ := kk v h' hp ls T'.heap (locs ++ L1) (cells + mc2) (slots + ms2) hl (by rw [e1]; exact hR') k3 (by omega) (by omega) T' rfl X'
    exact ⟨t2, goes t2 a1, b1⟩
  · obtain ⟨-, -, k3⟩ := vx_keep h0 e1 hS (fun q _ z => z) (fun q z => z) hL hF
    obtain ⟨t2, a1, b1⟩ := kx E h' hp ls T'.heap (locs ++ L1) (cells + mc2) (slots + ms2) ce q hl (by rw [e1]; exact hR') k3 (by omega) (by omega) (by rw [e1]; exact hce) hcv hcl T' rfl X'
    exact ⟨t2, steps.trans a1, b1⟩
theorem z_runV {md : MD} {k2 mc2 ms2 n idx ci b N : Nat} {T : u_T} {ty : Nat → FieldType} {fs As : List Value} {post2 : Option Value → Hp → Prop} {px2 : String → Hp → Prop} (C : Cx G X own cc nL k mc ms) (kv : KV md n) (hl : Cond.methodLink own idx md.1 ∈ lw_tbl) (kc : KC ci md.1.cls T N ty) (hM : Ct G md k2 mc2 ms2 (.ref b :: As) h post2 px2) (hg : h b = some (.inr (ci, fs)))
    (hst : st0 = As.reverse ++ .ref b :: st) (hn : As.length = n) (hw : (st.map fun v => v.category).sum ≤ 8) (hk : k2 < k) (h1 : uc + mc2 ≤ mc) (h2 : us + ms2 ≤ ms) (d : decode cc pc = .ok (.invokevirtual idx, 3)) : ZRun G X nL h uc us mc2 ms2 pc L st0 st (.ref b :: As) post2 px2 := by
  intro ls H locs cells slots hls hR hS hc hs
  obtain ⟨w1, w2, w3, w4, w5, w6, w7⟩ := kv
  have g1 := C.hlo
  have g2 := C.hf
  have g3 := C.hc
  have g4 := C.hs
  subst hst
  refine vx_runV (Ts := []) ⟨C.hx, C.hb, C.hml, C.ho, fun w hw => by cases hw⟩ hM ⟨⟨rfl, rfl, by show k2 + 1 ≤ _; omega, by show 8 + (md.2.2.1 + 11) + (64 * k2 + 128) ≤ _; omega, fun w hw a' U hW => ?_, List.mem_cons_self, C.w w4 rfl, C.w w3 rfl, w5, arity_of w6, C.w hl rfl⟩, C.w w1 rfl, C.w w2 rfl⟩
    ⟨zP_blind, va_recv C.K (hR.one hg) kc.1 (q0 := 0) rfl, zP_in C hR hS⟩ rfl hn hls.1 rfl (by show 2 * 0 + _ ≤ 8; omega) d ⟨by omega, by omega⟩
  rw [List.mem_singleton.mp hw]
  exact zw_at hW rfl (C.w w4 rfl (a := #[]))
theorem z_runS {md : MD} {k2 mc2 ms2 n idx : Nat} {As : List Value} {post2 : Option Value → Hp → Prop} {px2 : String → Hp → Prop} (C : Cx G X own cc nL k mc ms) (kv : KS md n) (hl : Cond.methodLink own idx md.1 ∈ lw_tbl) (hM : Ct G md k2 mc2 ms2 As h post2 px2)
    (hst : st0 = As.reverse ++ st) (hn : As.length = n) (hw : (st.map fun v => v.category).sum ≤ 8) (hk : k2 < k) (h1 : uc + mc2 ≤ mc) (h2 : us + ms2 ≤ ms) (d : decode cc pc = .ok (.invokestatic idx, 3)) : ZRun G X nL h uc us mc2 ms2 pc L st0 st As post2 px2 := by
  intro ls H locs cells slots hls hR hS hc hs
  obtain ⟨w1, w3, w4, w5, w6, w7⟩ := kv
  have g1 := C.hlo
  have g2 := C.hf
  have g3 := C.hc
  have g4 := C.hs
  subst hst
  refine vx_runS (Ts := []) ⟨C.hx, C.hb, C.hml, C.ho, fun w hw => by cases hw⟩ hM ⟨⟨rfl, rfl, by show k2 + 1 ≤ _; omega, by show 8 + (md.2.2.1 + 11) + (64 * k2 + 128) ≤ _; omega, fun w hw a' U hW => ?_, List.mem_cons_self, C.w w4 rfl, C.w w3 rfl, w5, arity_of w6, C.w hl rfl⟩, C.w w1 rfl⟩
    ⟨zP_blind, zP_in C hR hS⟩ rfl hn hls.1 rfl (by show 2 * 0 + _ ≤ 8; omega) d ⟨by omega, by omega⟩
  rw [List.mem_singleton.mp hw]
  exact zw_at hW rfl (C.w w4 rfl (a := #[]))
theorem z_runW {md : MD} {hh : List (Nat × Nat × Nat × Nat)} {k2 mc2 ms2 n idx : Nat} {As : List Value} {post2 : Option Value → Hp → Prop} {px2 : String → Hp → Prop} (C : Cx G X own cc nL k mc ms) (kv : KW md hh n) (hl : Cond.methodLink own idx md.1 ∈ lw_tbl) (hM : CtW G md hh k2 mc2 ms2 As h post2 px2)
    (hst : st0 = As.reverse ++ st) (hn : As.length = n) (hw : (st.map fun v => v.category).sum ≤ 8) (hk : k2 < k) (h1 : uc + mc2 ≤ mc) (h2 : us + ms2 ≤ ms) (d : decode cc pc = .ok (.invokestatic idx, 3)) : ZRun G X nL h uc us mc2 ms2 pc L st0 st As post2 px2 := by
  intro ls H locs cells slots hls hR hS hc hs
  obtain ⟨w1, w3, w4, w5, w6, w7⟩ := kv
  have g1 := C.hlo
  have g2 := C.hf
  have g3 := C.hc
  have g4 := C.hs
  subst hst
  refine vx_runSX (Ts := []) (hh := hh) ⟨C.hx, C.hb, C.hml, C.ho, fun w hw => by cases hw⟩ hM ⟨⟨rfl, rfl, by show k2 + 1 ≤ _; omega, by show 8 + (md.2.2.1 + 11) + (64 * k2 + 128) ≤ _; omega, fun w hw a' U hW => ?_, List.mem_cons_self⟩, C.w w4 rfl, C.w w3 rfl, w5, arity_of w6, C.w hl rfl, C.w w1 rfl⟩
    ⟨zP_blind, zP_in C hR hS⟩ rfl hn hls.1 rfl (by show 2 * 0 + _ ≤ 8; omega) d ⟨by omega, by omega⟩
  rw [List.mem_singleton.mp hw]
  exact zw_at hW rfl (C.w w4 rfl (a := #[]))
/-- a contract without exceptions, in the kit's own form -/
theorem Ct.met {md : MD} {k2 mc2 ms2 : Nat} {av : List Value} {post2 : Option Value → Hp → Prop} (hM : Ct G md k2 mc2 ms2 av h post2 noX) : Met (gl G) md.1 [Cond.code md.1 md.2.1 md.2.2.1 md.2.2.2] (RMk k2 mc2 ms2) (zP G av h) (zQ G post2) mc2 ms2 (zA G) := by
  intro p e a1 a2 a3 s m args below a4 a5 a6 a7
  obtain ⟨n, o, b1, b2, b3, b4⟩ := hM p e a1 a2 a3 s m args below a4 a5 a6 a7
  refine ⟨n, o, b1, b2, b3, ?_⟩
  rcases b4 with q | ⟨q, e1, E, ce, L, ⟨⟨h', e2, e3⟩, e4⟩, e5⟩
  · exact q
  · exact e2.elim
theorem ZRun.of {mc2 ms2 : Nat} {av : List Value} {post2 : Option Value → Hp → Prop} {px2 : String → Hp → Prop} (hr : ∀ (ls : Array Slot) (H : Heap) (locs : List Loc) (cells slots : Nat), lp_has ls nL L → Rep G h H → va_S (zA G) (Xs X).heap H locs → cells ≤ uc → slots ≤ us →
    va_Run (Xp X) (gl G) (Xe X) (XR X) (Xs X) (Xm X) (Xa X) (Xb X) (Xd X) (Xc X) H locs cells slots mc2 ms2 (F0 (Xm X) pc ls st0) st (zQ G post2 av.toArray) (zA G)) : ZRun G X nL h uc us mc2 ms2 pc L st0 st av post2 px2 :=
  fun ls H locs cells slots hl hR hS hc hs T hT XX => Or.inl (hr ls H locs cells slots hl hR hS hc hs T hT XX)
theorem z_runI {md : MD} {k2 mc2 ms2 n idx b : Nat} {As : List Value} {post2 : Option Value → Hp → Prop} (C : Cx G X own cc nL k mc ms) (kv : KI md n) (hl : Cond.methodLink own idx md.1 ∈ lw_tbl ∨ ∃ host : String, Cond.methodLinkNest own idx md.1 host ∈ lw_tbl) (hM : Ct G md k2 mc2 ms2 (.ref b :: As) h post2 noX)
    (hst : st0 = As.reverse ++ .ref b :: st) (hn : As.length = n) (hw : (st.map fun v => v.category).sum ≤ 8) (hk : k2 < k) (h1 : uc + mc2 ≤ mc) (h2 : us + ms2 ≤ ms) (d : decode cc pc = .ok (.invokespecial idx, 3)) : ZRun G X nL h uc us mc2 ms2 pc L st0 st (.ref b :: As) post2 noX := by
  refine ZRun.of fun ls H locs cells slots hls hR hS hc hs => ?_
  obtain ⟨y, cd, mL, rt⟩ := md
  obtain ⟨w1, w3, w4, w5, w6, w7, w8, w9⟩ := kv
  dsimp only at w1 w3 w4 w5 w6 w7 w8 w9 hl
  subst w9
  have g1 := C.hlo
  have g2 := C.hf
  have g3 := C.hc
  have g4 := C.hs
  have hws : ∀ w ∈ [Cond.code y cd mL none], ∀ (a' : Array Value) (U : State), (Xs X).WarmedH U.vm → w.before a' U = true := fun w hw a' U hW => by
    rw [List.mem_singleton.mp hw]
    exact zw_at hW rfl (C.w w4 rfl (a := #[]))
  subst hst
  rcases hl with hl | ⟨host, hl⟩
  · exact va_runI (Ts := []) ⟨C.hx, C.hb, C.hml, C.ho, fun w hw => by cases hw⟩ hM.met ⟨⟨rfl, rfl, by show k2 + 1 ≤ _; omega, by show 8 + (mL + 11) + (64 * k2 + 128) ≤ _; omega, hws, List.mem_cons_self, C.w w4 rfl, C.w w3 rfl, w5, arity_of w6, C.w hl rfl⟩, w8, C.w w1 rfl⟩
      ⟨zP_blind, zP_in C hR hS⟩ rfl hn hls.1 rfl (by show 2 * 0 + _ ≤ 8; omega) d ⟨by omega, by omega⟩
  · exact va_runIN (Ts := []) (host := host) ⟨C.hx, C.hb, C.hml, C.ho, fun w hw => by cases hw⟩ hM.met ⟨⟨⟨rfl, rfl, by show k2 + 1 ≤ _; omega, by show 8 + (mL + 11) + (64 * k2 + 128) ≤ _; omega, hws, List.mem_cons_self⟩, C.w w4 rfl, C.w w3 rfl, w5, arity_of w6, C.w hl rfl⟩, w8, C.w w1 rfl⟩
      ⟨zP_blind, zP_in C hR hS⟩ rfl hn hls.1 rfl (by show 2 * 0 + _ ≤ 8; omega) d ⟨by omega, by omega⟩
/-! exceptions -/
theorem z_out {En : String} {ret : Option FieldType} (C : Cx G X own cc nL k mc ms) (E : Ed G X nm ret [] mc ms post px) (hp : px En h) (h1 : uc ≤ mc) (h2 : us ≤ ms) : Zx G X nL h uc us pc L st En := by
  intro ls H locs cells slots ce q hl hR hS hc hs hce hcv hcl
  obtain ⟨e1, e2, e3, e4⟩ := E
  rw [e1]
  exact vx_out (by rw [e4]; exact fun x hx => nomatch hx) C.hk hce hcv hcl (fun t ht hA => ⟨⟨h, hp, by rw [ht]; exact hR⟩, hS.F ht⟩) hS.2.2 (Nat.le_trans hc h1) (Nat.le_trans hs h2)
/-- what a throw of a new cls(text) asks of the tables -/
def KT (own : String) (ik is ic : Nat) (cls text : String) (names : List String) : Prop := Bundle.fit cls = true ∧ (∀ n ∈ names, Bundle.fit n = true) ∧ Cond.classLink own ik cls ∈ lw_tbl ∧ Cond.initialized cls ∈ lw_tbl ∧ Cond.stringRef own is text ∈ lw_tbl ∧ (∀ w ∈ vx_atS own ic cls names, w ∈ lw_tbl ∧ zgood w = true) ∧
  Cond.exactly (Term.string own is) "java/lang/String" ∈ flatC (Jvm.Cond.and given_1 narrow_1) ∧ names.length ≤ 3
theorem zgood_ot {w : Cond} (h : zgood w = true) : vx_ot w = true := by
  cases w <;> first | rfl | (simp only [zgood, Bool.and_eq_true] at h; simp only [vx_ot, Bool.or_eq_true]; exact Or.inl h.1)
theorem flags_st {l : Launch} (h : l.flags = flags0) : l.stackTraces = false := by
  unfold Launch.stackTraces
  rw [h]
  decide +kernel
theorem KT.str {ik is ic : Nat} {cls text : String} {names : List String} (hK : KT own ik is ic cls text names) (C : Cx G X own cc nL k mc ms) : ∃ sa : Nat, vk_R own is text sa (Xs X) := by
  obtain ⟨-, -, -, -, h1, -, h2, -⟩ := hK
  obtain ⟨a, c, cell, kk, q1, -⟩ := Cond.exactly_spec (args := #[Value.ref (gb G)]) (first := gs G) (o := none) (s := gs G) (idx := []) (t := Term.string own is) (cls := "java/lang/String") (flat_of_before _ C.hB.2.1 _ h2)
  exact ⟨a, vk_R.warm C.hE.1 (vk_R.of (C.hB.1 _ h1) q1)⟩
theorem Cx.Zq (C : Cx G X own cc nL k mc ms) {n d : String} (h1 : Cond.laysStatic Bundle.tN n d ∈ lw_tbl) (h2 : Cond.initialized Bundle.tN ∈ lw_tbl) (h3 : Cond.isRef (.static Bundle.tN n d) ∈ flatC (Jvm.Cond.and given_1 narrow_1)) : vx_Zq Bundle.tN n d (zA G) (Xs X) (Xs X).heap := by
  have h0 : vx_Zq Bundle.tN n d (zA G) (gs G) (gs G).heap := vx_Zqof (args := #[Value.ref (gb G)]) (C.hB.1 _ h1) (C.hB.1 _ h2) (flat_of_before _ C.hB.2.1 _ h3) (fun a ha => zA_not ha)
  exact vx_Zq.moved C.hE.1.alike (h0.kept (fun a ha _ => C.hE.2.2 a ha))
def KTn : Prop := Cond.laysStatic Bundle.tN "UNASSIGNED_STACK" Bundle.steD ∈ lw_tbl ∧ Cond.laysStatic Bundle.tN "SUPPRESSED_SENTINEL" Bundle.listD ∈ lw_tbl ∧ Cond.initialized Bundle.tN ∈ lw_tbl ∧ Cond.isRef (.static Bundle.tN "UNASSIGNED_STACK" Bundle.steD) ∈ flatC (Jvm.Cond.and given_1 narrow_1) ∧ Cond.isRef (.static Bundle.tN "SUPPRESSED_SENTINEL" Bundle.listD) ∈ flatC (Jvm.Cond.and given_1 narrow_1)
theorem z_throw {ik is ic : Nat} {cls text : String} {names : List String} {ret : Option FieldType} (C : Cx G X own cc nL k mc ms) (E : Ed G X nm ret [] mc ms post px) (kn : KTn) (hK : KT own ik is ic cls text names) (hk : 8 ≤ k) (hst : (st.map fun v => v.category).sum ≤ 100)
    (d0 : decode cc pc = .ok (.new ik, 3)) (d3 : decode cc (pc + 3) = .ok (.dup, 1)) (d4 : decode cc (pc + 4) = .ok (.ldc is, 2)) (d6 : decode cc (pc + 6) = .ok (.invokespecial ic, 3)) (d9 : decode cc (pc + 9) = .ok (.athrow, 1)) (hp : px cls h) (h1 : uc + 1 ≤ mc) (h2 : us + 6 ≤ ms) : Zs G X nL h uc us pc L st := by
  intro ls H locs cells slots hl hR hS hc hs
  obtain ⟨sa, hsa⟩ := hK.str C
  obtain ⟨f1, f2, f3, f4, f5, f6, f7, f8⟩ := hK
  obtain ⟨n1, n2, n3, n4, n5⟩ := kn
  obtain ⟨e1, e2, e3, e4⟩ := E
  have g1 := C.hlo
  have g2 := C.hf
  have g3 := C.hc
  have g4 := C.hs
  rw [e1]
  refine vx_throwS C.hx C.hb (flags_st C.hB.2.2.2.1) C.ho f1 f2 (C.w f3 rfl) (C.w f4 rfl) hsa (fun w hw => C.w (f6 w hw).1 (f6 w hw).2) (fun w hw => ?_) (C.Zq n1 n3 n4) (C.Zq n2 n3 n5) hS (hl.1.trans C.hml.symm) d0 d3 d4 d6 d9 (by rw [e4]; exact fun x hx => nomatch hx) (by omega) (by omega) (by omega) (by omega) C.hk (fun t hA hz hq => ⟨⟨h, hp, fun a o ha => ⟨(hR a o ha).1, (hR a o ha).2.kept (hq a (hR.lt ha))⟩⟩, ?_⟩) hS.2.2 (by omega) (by omega)
  · rcases List.mem_cons.mp hw with rfl | hw
    · rfl
    · rcases List.mem_cons.mp hw with rfl | hw
      · rfl
      · exact zgood_ot (f6 w hw).2
  · exact ⟨Nat.le_trans hS.1 hz, fun q h5 h6 => (hq q (Nat.lt_of_lt_of_le h5 hS.1)).trans (hS.2.1 q h5 h6)⟩
theorem z_throwW {ik is ic : Nat} {cls text : String} {names : List String} {ret : Option FieldType} (C : Cx G X own cc nL k mc ms) (E : Ed G X nm ret [] mc ms post px) (kn : KTn) (hK : KT own ik is ic cls text names) (hk : 8 ≤ k) (hst : (st.map fun v => v.category).sum ≤ 100)
    (d0 : decode cc pc = .ok (.new ik, 3)) (d3 : decode cc (pc + 3) = .ok (.dup, 1)) (d4 : decode cc (pc + 4) = .ok (.ldc_w is, 3)) (d6 : decode cc (pc + 7) = .ok (.invokespecial ic, 3)) (d9 : decode cc (pc + 10) = .ok (.athrow, 1)) (hp : px cls h) (h1 : uc + 1 ≤ mc) (h2 : us + 6 ≤ ms) : Zs G X nL h uc us pc L st := by
  intro ls H locs cells slots hl hR hS hc hs
  obtain ⟨sa, hsa⟩ := hK.str C
  obtain ⟨f1, f2, f3, f4, f5, f6, f7, f8⟩ := hK
  obtain ⟨n1, n2, n3, n4, n5⟩ := kn
  obtain ⟨e1, e2, e3, e4⟩ := E
  have g1 := C.hlo
  have g2 := C.hf
  have g3 := C.hc
  have g4 := C.hs
  rw [e1]
  refine vx_throwSW C.hx C.hb (flags_st C.hB.2.2.2.1) C.ho f1 f2 (C.w f3 rfl) (C.w f4 rfl) hsa (fun w hw => C.w (f6 w hw).1 (f6 w hw).2) (fun w hw => ?_) (C.Zq n1 n3 n4) (C.Zq n2 n3 n5) hS (hl.1.trans C.hml.symm) d0 d3 d4 d6 d9 (by rw [e4]; exact fun x hx => nomatch hx) (by omega) (by omega) (by omega) (by omega) C.hk (fun t hA hz hq => ⟨⟨h, hp, fun a o ha => ⟨(hR a o ha).1, (hR a o ha).2.kept (hq a (hR.lt ha))⟩⟩, ?_⟩) hS.2.2 (by omega) (by omega)
  · rcases List.mem_cons.mp hw with rfl | hw
    · rfl
    · rcases List.mem_cons.mp hw with rfl | hw
      · rfl
      · exact zgood_ot (f6 w hw).2
  · exact ⟨Nat.le_trans hS.1 hz, fun q h5 h6 => (hq q (Nat.lt_of_lt_of_le h5 hS.1)).trans (hS.2.1 q h5 h6)⟩
/-- caught by the handler x: the rows ahead of it take classes that En isn't; the exception's address is no part of the world -/
theorem z_catch {En nm9 : String} {ret : Option FieldType} (C : Cx G X own cc nL k mc ms) (E : Ed G X nm ret tb mc ms post px) (pre : List ExceptionTableEntry) (x : ExceptionTableEntry) (suf : List ExceptionTableEntry) (hsplit : tb = pre ++ x :: suf)
    (hpass : ∀ z ∈ pre, z.catchType ≠ 0 ∧ ∃ n : String, Cond.classLink own z.catchType n ∈ lw_tbl ∧ Cond.not (.castable En n) ∈ flatC (Jvm.Cond.and given_1 narrow_1)) (hx : covers x pc = true) (h0 : x.catchType ≠ 0) (hl : Cond.classLink own x.catchType nm9 ∈ lw_tbl) (hca : Cond.castable En nm9 ∈ lw_tbl)
    (kk : ∀ q : Nat, Zs G X nL h uc us x.handlerPc L [.ref q]) : Zx G X nL h uc us pc L st En := by
  intro ls H locs cells slots ce q hls hR hS hc hs hce hcv hcl
  obtain ⟨e1, e2, e3, e4⟩ := E
  exact vx_catch C.ho pre x suf (e4.trans hsplit) (fun z hz => Or.inr ⟨(hpass z hz).1, by
    obtain ⟨-, n, h5, h6⟩ := hpass z hz
    exact ⟨n, C.w h5 rfl, (va_Nc.of (flat_of_before _ C.hB.2.1 _ h6)).moved C.hE.1.alike⟩⟩) hx h0 (C.w hl rfl) (C.w hca rfl) hce hcv hcl (kk q ls H locs cells slots hls hR hS hc hs)
end
