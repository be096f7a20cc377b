/-! rows on fields, arrays, new cells, the JDK's natives -/
def KC (ci : Nat) (Cn : String) (T : u_T) (N : Nat) (ty : Nat → FieldType) : Prop := zcl[ci]? = some (Cn, T, N) ∧ (∀ w ∈ u_ws Cn T N, w ∈ lw_tbl) ∧ (∀ k, k < N → parseFieldDescriptor (T k).2.2.1 = some (ty k)) ∧ (∀ a, a < N → ∀ b, b < N → a ≠ b → (T a).2.1 ≠ (T b).2.1)
def FL (own : String) (idx : Nat) (T : u_T) (N k : Nat) : Prop := k < N ∧ (Cond.fieldLink own idx (T k).1 (T k).2.1 (T k).2.2.1 ∈ lw_tbl ∨ (∃ host : String, Cond.fieldLinkNest own idx (T k).1 (T k).2.1 (T k).2.2.1 host ∈ lw_tbl) ∨
  ∃ ref : String, Cond.fieldLink own idx ref (T k).2.1 (T k).2.2.1 ∈ lw_tbl ∧ Cond.sameField ref (T k).1 (T k).2.1 (T k).2.2.1 ∈ lw_tbl)
theorem u_ws_good {Cn : String} {T : u_T} {N : Nat} : ∀ w ∈ u_ws Cn T N, zgood w = true := fun w hw => by
  obtain ⟨k, -, rfl⟩ := List.mem_map.mp hw
  unfold u_lay
  split <;> rfl
abbrev oI (G : GT) (n : Nat) (f : Nat → Int32) : va_E := .inl (gC G 0, n, .inl f)
abbrev oJ (G : GT) (n : Nat) (f : Nat → Int64) : va_E := .inl (gC G 1, n, .inr (.inl f))
abbrev oF (G : GT) (n : Nat) (f : Nat → UInt32) : va_E := .inl (gC G 2, n, .inr (.inr (.inl f)))
abbrev oD (G : GT) (n : Nat) (f : Nat → UInt64) : va_E := .inl (gC G 3, n, .inr (.inr (.inr (.inl f))))
abbrev oZ (G : GT) (n : Nat) (f : Nat → Int32) : va_E := .inl (gC G 4, n, .inl f)
abbrev oC (G : GT) (n : Nat) (f : Nat → Int32) : va_E := .inl (gC G 5, n, .inl f)
abbrev oO (G : GT) (n : Nat) (f : Nat → Option Nat) : va_E := .inl (gC G 6, n, .inr (.inr (.inr (.inr f))))
abbrev oII (G : GT) (n : Nat) (f : Nat → Option Nat) : va_E := .inl (gC G 7, n, .inr (.inr (.inr (.inr f))))
abbrev oZZ (G : GT) (n : Nat) (f : Nat → Option Nat) : va_E := .inl (gC G 8, n, .inr (.inr (.inr (.inr f))))
section
variable {G : GT} {X : XT} {own : String} {cc : ByteArray} {nL k mc ms uc us pc : Nat} {h : Hp} {L : List (Option Value)} {st : List Value}
theorem KC.ts {ci N : Nat} {Cn : String} {T : u_T} {ty : Nat → FieldType} (kc : KC ci Cn T N ty) (C : Cx G X own cc nL k mc ms) {a : Array Value} : ∀ w ∈ u_ws Cn T N, w.before a (Xs X) = true := fun w hw => C.w (kc.2.1 w hw) (u_ws_good w hw)
theorem z_getf {ci kf N a idx : Nat} {Cn : String} {T : u_T} {ty : Nat → FieldType} {fs : List Value} {v : Value} (C : Cx G X own cc nL k mc ms) (kc : KC ci Cn T N ty) (fl : FL own idx T N kf) (hg : h a = some (.inr (ci, fs))) (hv : fs[kf]? = some v) (d : decode cc pc = .ok (.getfield idx, 3))
    (kk : Zs G X nL h uc us (pc + 3) L (v :: st)) : Zs G X nL h uc us pc L (.ref a :: st) := by
  obtain ⟨hk, h1 | ⟨host, h1⟩ | ⟨ref, h1, h2⟩⟩ := fl
  · exact fun ls H locs cells slots hl hR hS hc hs => va_get C.hx C.hb (kc.ts C) (fun w q => q) C.ho C.K (hR.one hg) 0 rfl kc.1 kf hk (C.w h1 rfl) (fun _ q => q) hv d (kk ls H locs cells slots hl hR hS hc hs)
  · exact fun ls H locs cells slots hl hR hS hc hs => va_getN C.hx C.hb (kc.ts C) (fun w q => q) C.ho C.K (hR.one hg) 0 rfl kc.1 kf hk (C.w h1 rfl) (fun _ q => q) hv d (kk ls H locs cells slots hl hR hS hc hs)
  · exact fun ls H locs cells slots hl hR hS hc hs => va_get C.hx C.hb (kc.ts C) (fun w q => q) C.ho C.K (hR.one hg) 0 rfl kc.1 kf hk (C.w h1 rfl) (u_same (C.w h2 rfl (a := #[]))) hv d (kk ls H locs cells slots hl hR hS hc hs)
theorem z_putf {ci kf N a idx : Nat} {Cn : String} {T : u_T} {ty : Nat → FieldType} {fs : List Value} {v : Value} (C : Cx G X own cc nL k mc ms) (kc : KC ci Cn T N ty) (fl : FL own idx T N kf) (hg : h a = some (.inr (ci, fs))) (hfin : (T kf).2.2.2 = false) (hn : narrow (ty kf) v = v) (hfit : fits (ty kf) v = true) (hlen : kf < fs.length) (d : decode cc pc = .ok (.putfield idx, 3))
    (kk : ∀ h1 : Hp, h1 = hup h a (.inr (ci, fs.set kf v)) → Zs G X nL h1 uc us (pc + 3) L st) : Zs G X nL h uc us pc L (v :: .ref a :: st) := by
  obtain ⟨hk, h1 | ⟨host, h1⟩ | ⟨ref, h1, h2⟩⟩ := fl
  · intro ls H locs cells slots hl hR hS hc hs
    obtain ⟨q, hq⟩ := wl_at hg (hR.lt hg)
    exact va_put C.hx C.hb (kc.ts C) (fun w q => q) ty kc.2.2.1 kc.2.2.2 C.ho C.K hR.P hR.D hS q hq kc.1 kf hk (C.w h1 rfl) (fun _ q => q) hfin (kc.2.2.1 kf hk) hn hfit hlen d (fun H1 locs1 hP hD hS1 => kk _ rfl ls H1 locs1 cells slots hl (hR.set hq hP) hS1 hc hs)
  · intro ls H locs cells slots hl hR hS hc hs
    obtain ⟨q, hq⟩ := wl_at hg (hR.lt hg)
    exact va_putN C.hx C.hb (kc.ts C) (fun w q => q) ty kc.2.2.1 kc.2.2.2 C.ho C.K hR.P hR.D hS q hq kc.1 kf hk (C.w h1 rfl) (fun _ q => q) hfin (kc.2.2.1 kf hk) hn hfit hlen d (fun H1 locs1 hP hD hS1 => kk _ rfl ls H1 locs1 cells slots hl (hR.set hq hP) hS1 hc hs)
  · intro ls H locs cells slots hl hR hS hc hs
    obtain ⟨q, hq⟩ := wl_at hg (hR.lt hg)
    exact va_put C.hx C.hb (kc.ts C) (fun w q => q) ty kc.2.2.1 kc.2.2.2 C.ho C.K hR.P hR.D hS q hq kc.1 kf hk (C.w h1 rfl) (u_same (C.w h2 rfl (a := #[]))) hfin (kc.2.2.1 kf hk) hn hfit hlen d (fun H1 locs1 hP hD hS1 => kk _ rfl ls H1 locs1 cells slots hl (hR.set hq hP) hS1 hc hs)
/-- a final field, in its class's constructor -/
theorem z_putfF {ci kf N a idx : Nat} {Cn : String} {T : u_T} {ty : Nat → FieldType} {fs : List Value} {v : Value} (C : Cx G X own cc nL k mc ms) (kc : KC ci Cn T N ty) (fl : kf < N ∧ Cond.fieldLink own idx (T kf).1 (T kf).2.1 (T kf).2.2.1 ∈ lw_tbl) (hi : (Xd X).name = "<init>") (hdecl : (T kf).1 = own) (hg : h a = some (.inr (ci, fs))) (hfin : (T kf).2.2.2 = true) (hn : narrow (ty kf) v = v) (hfit : fits (ty kf) v = true) (hlen : kf < fs.length) (d : decode cc pc = .ok (.putfield idx, 3))
    (kk : ∀ h1 : Hp, h1 = hup h a (.inr (ci, fs.set kf v)) → Zs G X nL h1 uc us (pc + 3) L st) : Zs G X nL h uc us pc L (v :: .ref a :: st) := by
  obtain ⟨hk, h1⟩ := fl
  intro ls H locs cells slots hl hR hS hc hs
  obtain ⟨q, hq⟩ := wl_at hg (hR.lt hg)
  exact va_putF C.hx C.hb (kc.ts C) (fun w q => q) ty kc.2.2.1 kc.2.2.2 C.ho C.K hR.P hR.D hS q hq kc.1 kf hk (C.w h1 rfl) (fun _ q => q) hfin hi hdecl (kc.2.2.1 kf hk) hn hfit hlen d (fun H1 locs1 hP hD hS1 => kk _ rfl ls H1 locs1 cells slots hl (hR.set hq hP) hS1 hc hs)
theorem z_new {ci N idx : Nat} {Cn : String} {T : u_T} {ty : Nat → FieldType} (fs : List Value) (C : Cx G X own cc nL k mc ms) (kc : KC ci Cn T N ty) (hcl : Cond.classLink own idx Cn ∈ lw_tbl) (hin : Cond.instantiable Cn N ∈ lw_tbl) (hini : Cond.initialized Cn ∈ lw_tbl) (hfs : ∀ j, j < N → defaultValue (ty j) = vp_V fs j) (h1 : uc + 1 ≤ mc) (h2 : us + N ≤ ms) (d : decode cc pc = .ok (.new idx, 3))
    (kk : ∀ (q : Nat) (h1 : Hp), h q = none → h1 = hup h q (.inr (ci, fs)) → Zs G X nL h1 (uc + 1) (us + N) (pc + 3) L (.ref q :: st)) : Zs G X nL h uc us pc L st := by
  intro ls H locs cells slots hl hR hS hc hs
  have g1 := C.hc
  have g2 := C.hs
  exact va_new C.hx C.hb (kc.ts C) (fun w q => q) ty kc.2.2.1 C.ho (C.w hcl rfl) (C.w hin rfl) (C.w hini rfl) C.K hR.P hR.D hS C.A kc.1 hfs (by omega) (by omega) d (fun q H1 hP hD hS1 => by
    obtain ⟨hR1, hn⟩ := hR.push hP hD
    exact kk q _ hn rfl ls H1 locs (cells + 1) (slots + N) hl hR1 hS1 (by omega) (by omega))
/-! arrays -/
theorem z_iald {a n : Nat} {f : Nat → Int32} {i : Int32} (C : Cx G X own cc nL k mc ms) (hg : h a = some (oI G n f)) (hin : vp_in i n) (d : decode cc pc = .ok (.iaload, 1)) (kk : Zs G X nL h uc us (pc + 1) L (.int (f i.toNatClampNeg) :: st)) : Zs G X nL h uc us pc L (.int i :: .ref a :: st) :=
  fun ls H locs cells slots hl hR hS hc hs => va_iald C.hx C.hb C.K (hR.one hg) 0 0 rfl rfl hin d (kk ls H locs cells slots hl hR hS hc hs)
theorem z_zald {a n : Nat} {f : Nat → Int32} {i : Int32} (C : Cx G X own cc nL k mc ms) (hg : h a = some (oZ G n f)) (hin : vp_in i n) (d : decode cc pc = .ok (.baload, 1)) (kk : Zs G X nL h uc us (pc + 1) L (.int (f i.toNatClampNeg) :: st)) : Zs G X nL h uc us pc L (.int i :: .ref a :: st) :=
  fun ls H locs cells slots hl hR hS hc hs => va_zald C.hx C.hb C.K (hR.one hg) 0 4 rfl rfl hin d (kk ls H locs cells slots hl hR hS hc hs)
theorem z_cald {a n : Nat} {f : Nat → Int32} {i : Int32} (C : Cx G X own cc nL k mc ms) (hg : h a = some (oC G n f)) (hin : vp_in i n) (d : decode cc pc = .ok (.caload, 1)) (kk : Zs G X nL h uc us (pc + 1) L (.int (f i.toNatClampNeg) :: st)) : Zs G X nL h uc us pc L (.int i :: .ref a :: st) :=
  fun ls H locs cells slots hl hR hS hc hs => va_cald C.hx C.hb C.K (hR.one hg) 0 5 rfl rfl hin d (kk ls H locs cells slots hl hR hS hc hs)
theorem z_lald {a n : Nat} {f : Nat → Int64} {i : Int32} (C : Cx G X own cc nL k mc ms) (hg : h a = some (oJ G n f)) (hin : vp_in i n) (d : decode cc pc = .ok (.laload, 1)) (kk : Zs G X nL h uc us (pc + 1) L (.long (f i.toNatClampNeg) :: st)) : Zs G X nL h uc us pc L (.int i :: .ref a :: st) :=
  fun ls H locs cells slots hl hR hS hc hs => va_lald C.hx C.hb C.K (hR.one hg) 0 1 rfl rfl hin d (kk ls H locs cells slots hl hR hS hc hs)
theorem z_fald {a n : Nat} {f : Nat → UInt32} {i : Int32} (C : Cx G X own cc nL k mc ms) (hg : h a = some (oF G n f)) (hin : vp_in i n) (d : decode cc pc = .ok (.faload, 1)) (kk : Zs G X nL h uc us (pc + 1) L (.float (f i.toNatClampNeg) :: st)) : Zs G X nL h uc us pc L (.int i :: .ref a :: st) :=
  fun ls H locs cells slots hl hR hS hc hs => va_fald C.hx C.hb C.K (hR.one hg) 0 2 rfl rfl hin d (kk ls H locs cells slots hl hR hS hc hs)
theorem z_dald {a n : Nat} {f : Nat → UInt64} {i : Int32} (C : Cx G X own cc nL k mc ms) (hg : h a = some (oD G n f)) (hin : vp_in i n) (d : decode cc pc = .ok (.daload, 1)) (kk : Zs G X nL h uc us (pc + 1) L (.double (f i.toNatClampNeg) :: st)) : Zs G X nL h uc us pc L (.int i :: .ref a :: st) :=
  fun ls H locs cells slots hl hR hS hc hs => va_dald C.hx C.hb C.K (hR.one hg) 0 3 rfl rfl hin d (kk ls H locs cells slots hl hR hS hc hs)
theorem z_aaldO {a n : Nat} {f : Nat → Option Nat} {i : Int32} (C : Cx G X own cc nL k mc ms) (hg : h a = some (oO G n f)) (hin : vp_in i n) (d : decode cc pc = .ok (.aaload, 1)) (kk : Zs G X nL h uc us (pc + 1) L (va_rf (f i.toNatClampNeg) :: st)) : Zs G X nL h uc us pc L (.int i :: .ref a :: st) :=
  fun ls H locs cells slots hl hR hS hc hs => va_aldq C.hx C.hb C.K (hR.one hg) 0 6 rfl rfl hin d (kk ls H locs cells slots hl hR hS hc hs)
/-- from an array of arrays -/
theorem z_aaldA {t a n : Nat} {ty : FieldType} {f : Nat → Option Nat} {i : Int32} (C : Cx G X own cc nL k mc ms) (ht : (zty (gC G))[t]? = some (gC G t, .array ty)) (hg : h a = some (.inl (gC G t, n, .inr (.inr (.inr (.inr f)))))) (hin : vp_in i n) (d : decode cc pc = .ok (.aaload, 1)) (kk : Zs G X nL h uc us (pc + 1) L (va_rf (f i.toNatClampNeg) :: st)) : Zs G X nL h uc us pc L (.int i :: .ref a :: st) := by
  have hlt : i.toNatClampNeg < n := Nat.not_le.mp fun q => hin (Or.inr q)
  exact fun ls H locs cells slots hl hR hS hc hs => W.aald (v := va_rf (f i.toNatClampNeg)) (ty := .array ty) C.hx C.hb (hR.one hg 0 _ rfl) ((C.K.2 t _ ht).1 n (fun j => va_rf (f j))) rfl (fun q => by cases q) (by show ¬ (i < 0 ∨ (arrV _ _ _).slots.size ≤ _); rw [arrV_size]; exact hin) (by show (arrV _ _ _).slots[_]? = _; rw [arrV_read _ _ hlt]) rfl rfl d (kk ls H locs cells slots hl hR hS hc hs)
theorem z_alen {t a : Nat} {ty : FieldType} {x : vp_A} (C : Cx G X own cc nL k mc ms) (ht : (zty (gC G))[t]? = some (gC G t, ty)) (hg : h a = some (.inl (gC G t, x))) (d : decode cc pc = .ok (.arraylength, 1)) (kk : Zs G X nL h uc us (pc + 1) L (.int (nI x.1) :: st)) : Zs G X nL h uc us pc L (.ref a :: st) :=
  fun ls H locs cells slots hl hR hS hc hs => va_alen C.hx C.hb C.K (hR.one hg) 0 t rfl ht rfl d (kk ls H locs cells slots hl hR hS hc hs)
theorem z_iast {a n : Nat} {f : Nat → Int32} {i x : Int32} (C : Cx G X own cc nL k mc ms) (hg : h a = some (oI G n f)) (hin : vp_in i n) (d : decode cc pc = .ok (.iastore, 1)) (kk : ∀ h1 : Hp, h1 = hup h a (oI G n (upd f i.toNatClampNeg x)) → Zs G X nL h1 uc us (pc + 1) L st) : Zs G X nL h uc us pc L (.int x :: .int i :: .ref a :: st) := by
  intro ls H locs cells slots hl hR hS hc hs
  obtain ⟨q, hq⟩ := wl_at hg (hR.lt hg)
  exact va_iast C.hx C.hb C.K hR.P hR.D hS q 0 hq rfl hin d (fun H1 locs1 hP hD hS1 => kk _ rfl ls H1 locs1 cells slots hl (hR.set hq hP) hS1 hc hs)
theorem z_zast {a n : Nat} {f : Nat → Int32} {i x : Int32} (C : Cx G X own cc nL k mc ms) (hg : h a = some (oZ G n f)) (hin : vp_in i n) (d : decode cc pc = .ok (.bastore, 1)) (kk : ∀ h1 : Hp, h1 = hup h a (oZ G n (upd f i.toNatClampNeg (vp_nar .boolean x))) → Zs G X nL h1 uc us (pc + 1) L st) : Zs G X nL h uc us pc L (.int x :: .int i :: .ref a :: st) := by
  intro ls H locs cells slots hl hR hS hc hs
  obtain ⟨q, hq⟩ := wl_at hg (hR.lt hg)
  exact va_zast C.hx C.hb C.K hR.P hR.D hS q 4 hq rfl hin d (fun H1 locs1 hP hD hS1 => kk _ rfl ls H1 locs1 cells slots hl (hR.set hq hP) hS1 hc hs)
theorem z_cast {a n : Nat} {f : Nat → Int32} {i x : Int32} (C : Cx G X own cc nL k mc ms) (hg : h a = some (oC G n f)) (hin : vp_in i n) (d : decode cc pc = .ok (.castore, 1)) (kk : ∀ h1 : Hp, h1 = hup h a (oC G n (upd f i.toNatClampNeg (vp_nar .char x))) → Zs G X nL h1 uc us (pc + 1) L st) : Zs G X nL h uc us pc L (.int x :: .int i :: .ref a :: st) := by
  intro ls H locs cells slots hl hR hS hc hs
  obtain ⟨q, hq⟩ := wl_at hg (hR.lt hg)
  exact va_cast C.hx C.hb C.K hR.P hR.D hS q 5 hq rfl hin d (fun H1 locs1 hP hD hS1 => kk _ rfl ls H1 locs1 cells slots hl (hR.set hq hP) hS1 hc hs)
theorem z_last {a n : Nat} {f : Nat → Int64} {i : Int32} {x : Int64} (C : Cx G X own cc nL k mc ms) (hg : h a = some (oJ G n f)) (hin : vp_in i n) (d : decode cc pc = .ok (.lastore, 1)) (kk : ∀ (f1 : Nat → Int64) (h1 : Hp), f1 i.toNatClampNeg = x → h1 = hup h a (oJ G n f1) → Zs G X nL h1 uc us (pc + 1) L st) : Zs G X nL h uc us pc L (.long x :: .int i :: .ref a :: st) := by
  intro ls H locs cells slots hl hR hS hc hs
  obtain ⟨q, hq⟩ := wl_at hg (hR.lt hg)
  exact va_last C.hx C.hb C.K hR.P hR.D hS q 1 hq rfl hin d (fun H1 locs1 hP hD hS1 => kk _ _ (by simp [vp_updL]) rfl ls H1 locs1 cells slots hl (hR.set hq hP) hS1 hc hs)
theorem z_fast {a n : Nat} {f : Nat → UInt32} {i : Int32} {x : UInt32} (C : Cx G X own cc nL k mc ms) (hg : h a = some (oF G n f)) (hin : vp_in i n) (d : decode cc pc = .ok (.fastore, 1)) (kk : ∀ (f1 : Nat → UInt32) (h1 : Hp), (∀ j, f1 j = if j = i.toNatClampNeg then x else f j) → h1 = hup h a (oF G n f1) → Zs G X nL h1 uc us (pc + 1) L st) : Zs G X nL h uc us pc L (.float x :: .int i :: .ref a :: st) := by
  intro ls H locs cells slots hl hR hS hc hs
  obtain ⟨q, hq⟩ := wl_at hg (hR.lt hg)
  exact va_fast C.hx C.hb C.K hR.P hR.D hS q 2 hq rfl hin d (fun H1 locs1 hP hD hS1 => kk _ _ (fun j => rfl) rfl ls H1 locs1 cells slots hl (hR.set hq hP) hS1 hc hs)
theorem z_dast {a n : Nat} {f : Nat → UInt64} {i : Int32} {x : UInt64} (C : Cx G X own cc nL k mc ms) (hg : h a = some (oD G n f)) (hin : vp_in i n) (d : decode cc pc = .ok (.dastore, 1)) (kk : ∀ (f1 : Nat → UInt64) (h1 : Hp), (∀ j, f1 j = if j = i.toNatClampNeg then x else f j) → h1 = hup h a (oD G n f1) → Zs G X nL h1 uc us (pc + 1) L st) : Zs G X nL h uc us pc L (.double x :: .int i :: .ref a :: st) := by
  intro ls H locs cells slots hl hR hS hc hs
  obtain ⟨q, hq⟩ := wl_at hg (hR.lt hg)
  exact va_dast C.hx C.hb C.K hR.P hR.D hS q 3 hq rfl hin d (fun H1 locs1 hP hD hS1 => kk _ _ (fun j => rfl) rfl ls H1 locs1 cells slots hl (hR.set hq hP) hS1 hc hs)
/-- an object of ours into an array of Object -/
theorem z_aast {ci a n v : Nat} {Cn : String} {T : u_T} {N : Nat} {ty : Nat → FieldType} {f : Nat → Option Nat} {vs : List Value} {i : Int32} (C : Cx G X own cc nL k mc ms) (kc : KC ci Cn T N ty) (hca : Cond.castable Cn "java/lang/Object" ∈ lw_tbl) (hg : h a = some (oO G n f)) (hv : h v = some (.inr (ci, vs))) (hin : vp_in i n) (d : decode cc pc = .ok (.aastore, 1))
    (kk : ∀ h1 : Hp, h1 = hup h a (oO G n (va_up f i.toNatClampNeg (some v))) → Zs G X nL h1 uc us (pc + 1) L st) : Zs G X nL h uc us pc L (.ref v :: .int i :: .ref a :: st) := by
  intro ls H locs cells slots hl hR hS hc hs
  obtain ⟨q, hq⟩ := wl_at hg (hR.lt hg)
  obtain ⟨q2, hq2⟩ := wl_at hv (hR.lt hv)
  exact va_astqO C.hx C.hb C.K hR.P hR.D hS q 6 q2 ci (r := (Cn, T, N)) hq rfl (C.w hca rfl) hq2 kc.1 hin d (fun H1 locs1 hP hD hS1 => kk _ rfl ls H1 locs1 cells slots hl (hR.set hq hP) hS1 hc hs)
theorem z_newa {t n : Nat} {atype : ArrayType} {ty : FieldType} (a0 : vp_A) {v : Int32} (C : Cx G X own cc nL k mc ms) (ha : Cond.arrayClass (newarray.typeOf atype) ∈ lw_tbl) (hty : newarray.typeOf atype = ty) (hp : ∀ cA : ClassId, va_RA (Xs X) cA ty → (Xs X).vm.findClass ("[" ++ ty.toString) = some cA) (ht : (zty (gC G))[t]? = some (gC G t, ty)) (ha0 : ∀ cA : ClassId, vp_cell cA a0 = arrV cA n (fun _ => defaultValue ty)) (hv : v = nI n) (hn : n < 100000) (hb : componentBytes ty ≤ 8) (h1 : uc + 1 ≤ mc) (h2 : us + n ≤ ms) (d : decode cc pc = .ok (.newarray atype, 2))
    (kk : ∀ (q : Nat) (h1 : Hp), h q = none → h1 = hup h q (.inl (gC G t, a0)) → Zs G X nL h1 (uc + 1) (us + n) (pc + 2) L (.ref q :: st)) : Zs G X nL h uc us pc L (.int v :: st) := by
  intro ls H locs cells slots hl hR hS hc hs
  have g1 := C.hc
  have g2 := C.hs
  subst hv
  have hm : n * componentBytes ty ≤ n * 8 := Nat.mul_le_mul_left n hb
  exact va_newa C.hx C.hb (C.w ha rfl) hty C.K hR.P hR.D hS C.A (a0 := a0) (N' := n) ha0 (nI_pos (by omega)) (nI_clamp (by omega)) (by omega) (by omega) (by omega) d (fun q cA H1 hK hP hD hS1 => by
    have e : cA = gC G t := by
      have k1 := hp _ (hK.2 (zty (gC G)).length (cA, ty) (by rw [List.getElem?_append_right (Nat.le_refl _), Nat.sub_self]; rfl)).2
      have k2 := hp _ (C.K.2 t _ ht).2
      exact Option.some.inj (k1.symm.trans k2)
    subst e
    obtain ⟨hR1, hn⟩ := hR.push hP hD
    exact kk q _ hn rfl ls H1 locs (cells + 1) (slots + n) hl hR1 hS1 (by omega) (by omega))
/-- an array of Object -/
theorem z_newO {n idx : Nat} {v : Int32} (C : Cx G X own cc nL k mc ms) (hcl : Cond.classLink own idx "java/lang/Object" ∈ lw_tbl) (hao : Cond.arrayOver (.object "java/lang/Object") ∈ lw_tbl) (hv : v = nI n) (hn : n < 100000) (h1 : uc + 1 ≤ mc) (h2 : us + n ≤ ms) (d : decode cc pc = .ok (.anewarray idx, 3))
    (kk : ∀ (q : Nat) (h1 : Hp), h q = none → h1 = hup h q (oO G n (fun _ => none)) → Zs G X nL h1 (uc + 1) (us + n) (pc + 3) L (.ref q :: st)) : Zs G X nL h uc us pc L (.int v :: st) := by
  intro ls H locs cells slots hl hR hS hc hs
  have g1 := C.hc
  have g2 := C.hs
  subst hv
  have hov : va_AO "java/lang/Object" (Xs X) := va_AO.moved C.hE.1.alike (va_AO.of (C.hB.1 _ hao))
  exact va_newq C.hx C.hb C.ho (C.w hcl rfl) hov C.K hR.P hR.D hS C.A (N' := n) (nI_pos (by omega)) (nI_clamp (by omega)) (by omega) (by omega) (by omega) d (fun q cA H1 hK hP hD hS1 => by
    have e : cA = gC G 6 := by
      obtain ⟨_, _, -, -, -, k1⟩ := (hK.2 (zty (gC G)).length (cA, .object "java/lang/Object") (by rw [List.getElem?_append_right (Nat.le_refl _), Nat.sub_self]; rfl)).2
      obtain ⟨_, _, -, -, -, k2⟩ := (C.K.2 6 _ rfl).2
      exact Option.some.inj (k1.symm.trans k2)
    subst e
    obtain ⟨hR1, hn⟩ := hR.push hP hD
    exact kk q _ hn rfl ls H1 locs (cells + 1) (slots + n) hl hR1 hS1 (by omega) (by omega))
/-! casts, statics, the JDK's natives -/
theorem z_checkcast {ci N a idx : Nat} {Cn : String} {T : u_T} {ty : Nat → FieldType} {fs : List Value} (C : Cx G X own cc nL k mc ms) (kc : KC ci Cn T N ty) (hcl : Cond.classLink own idx Cn ∈ lw_tbl) (hg : h a = some (.inr (ci, fs))) (d : decode cc pc = .ok (.checkcast idx, 3)) (kk : Zs G X nL h uc us (pc + 3) L (.ref a :: st)) : Zs G X nL h uc us pc L (.ref a :: st) :=
  fun ls H locs cells slots hl hR hS hc hs => va_castS C.hx C.hb C.ho (C.w hcl rfl) (C.K.1 ci _ kc.1).2 (va_recv C.K (hR.one hg) kc.1 (q0 := 0) rfl) d (kk ls H locs cells slots hl hR hS hc hs)
theorem Cx.Z (C : Cx G X own cc nL k mc ms) : va_Z "java/util/ArrayList" "DEFAULTCAPACITY_EMPTY_ELEMENTDATA" "[Ljava/lang/Object;" (.ref (gd G)) (zA G) (Xs X) (Xs X).heap :=
  va_Z.moved C.hE.1.alike (C.hB.2.2.2.2.1.kept (fun a ha _ => C.hE.2.2 a ha))
theorem Cx.T (C : Cx G X own cc nL k mc ms) : va_T (.object "java/lang/Object") (gd G) 0 (fun _ => .null) (zA G) (Xs X) (Xs X).heap :=
  va_T.moved C.hE.1.alike (C.hB.2.2.2.2.2.kept (fun a ha _ => C.hE.2.2 a ha))
theorem z_getsD {idx : Nat} (C : Cx G X own cc nL k mc ms) (hl : Cond.fieldLink own idx "java/util/ArrayList" "DEFAULTCAPACITY_EMPTY_ELEMENTDATA" "[Ljava/lang/Object;" ∈ lw_tbl) (d : decode cc pc = .ok (.getstatic idx, 3)) (kk : Zs G X nL h uc us (pc + 3) L (.ref (gd G) :: st)) : Zs G X nL h uc us pc L st :=
  fun ls H locs cells slots hl2 hR hS hc hs => va_gets C.hx C.hb C.Z hS C.ho (C.w hl rfl) (fun _ q => q) d (kk ls H locs cells slots hl2 hR hS hc hs)
theorem z_alenD (C : Cx G X own cc nL k mc ms) (d : decode cc pc = .ok (.arraylength, 1)) (kk : Zs G X nL h uc us (pc + 1) L (.int 0 :: st)) : Zs G X nL h uc us pc L (.ref (gd G) :: st) :=
  fun ls H locs cells slots hl hR hS hc hs => va_tlen C.hx C.hb C.T hS rfl d (kk ls H locs cells slots hl hR hS hc hs)
theorem gd_not {G : GT} {h : Hp} {H : Heap} (hB : Base G) (hR : Rep G h H) {a : Nat} {o : va_E} (ha : h a = some o) : a ≠ gd G := fun e => (hB.2.2.2.2.2).out (by rw [← e]; exact (hR a o ha).1)
/-- two references, compared -/
theorem z_acmp_eqR {x y : Nat} {off : Int} {tgt : Nat} (C : Cx G X own cc nL k mc ms) (d : decode cc pc = .ok (.if_acmp .eq off, 3)) (ht : (pc : Int) + off = (tgt : Int)) (kt : x = y → Zs G X nL h uc us tgt L st) (kf : ¬ x = y → Zs G X nL h uc us (pc + 3) L st) : Zs G X nL h uc us pc L (.ref y :: .ref x :: st) :=
  z_acmp_eq (rx := some x) (ry := some y) C d ht (fun q => kt (Option.some.inj q)) (fun q => kf (fun e => q (by rw [e])))
theorem z_acmp_neR {x y : Nat} {off : Int} {tgt : Nat} (C : Cx G X own cc nL k mc ms) (d : decode cc pc = .ok (.if_acmp .ne off, 3)) (ht : (pc : Int) + off = (tgt : Int)) (kt : ¬ x = y → Zs G X nL h uc us tgt L st) (kf : x = y → Zs G X nL h uc us (pc + 3) L st) : Zs G X nL h uc us pc L (.ref y :: .ref x :: st) :=
  z_acmp_ne (rx := some x) (ry := some y) C d ht (fun q => kt (fun e => q (by rw [e]))) (fun q => kf (Option.some.inj q))
theorem z_objInit {idx a : Nat} (C : Cx G X own cc nL k mc ms) (h1 : Cond.methodLink own idx objectInit ∈ lw_tbl) (h2 : Cond.instanceMethod objectInit ∈ lw_tbl) (h3 : Cond.code objectInit ⟨#[0xb1]⟩ 1 none ∈ lw_tbl) (hk : 1 ≤ k) (hst : (st.map fun v => v.category).sum ≤ 100) (d : decode cc pc = .ok (.invokespecial idx, 3)) (kk : Zs G X nL h uc us (pc + 3) L st) : Zs G X nL h uc us pc L (.ref a :: st) := by
  intro ls H locs cells slots hl hR hS hc hs
  have g1 := C.hlo
  have g2 := C.hf
  refine W.objInit C.hx C.hb C.ho (C.w h1 rfl) (C.w h2 rfl) (C.w h3 rfl) rfl (by rw [C.hml]; exact hl.1) rfl d (by omega) ?_ (kk ls H locs cells slots hl hR hS hc hs)
  show 2 * 0 + _ + 12 ≤ _
  omega
theorem z_mmin {idx : Nat} {x y : Int32} (C : Cx G X own cc nL k mc ms) (h1 : Cond.methodLink own idx Lib.Math.min.name ∈ lw_tbl) (h2 : Cond.static Lib.Math.min.name ∈ lw_tbl) (h3 : Cond.initialized "java/lang/Math" ∈ lw_tbl) (h4 : Cond.code Lib.Math.min.name Lib.Math.min.code 2 (some .int) ∈ lw_tbl) (hk : 1 ≤ k) (hst : (st.map fun v => v.category).sum ≤ 100) (huc : uc ≤ mc) (hus : us ≤ ms) (d : decode cc pc = .ok (.invokestatic idx, 3))
    (kk : Zs G X nL h uc us (pc + 3) L (.int (if y < x then y else x) :: st)) : Zs G X nL h uc us pc L (.int y :: .int x :: st) := by
  intro ls H locs cells slots hl hR hS hc hs
  have g1 := C.hlo
  have g2 := C.hf
  have g3 := C.hc
  have g4 := C.hs
  exact va_mmin C.hx C.hb (by rw [C.hml]; exact hl.1.symm) C.ho (C.w h1 rfl) (C.w h2 rfl) (C.w h3 rfl) (C.w h4 rfl) (by omega) (by omega) (by omega) (by omega) d (kk ls H locs cells slots hl hR hS hc hs)
theorem z_mmax {idx : Nat} {x y : Int32} (C : Cx G X own cc nL k mc ms) (h1 : Cond.methodLink own idx Lib.Math.max.name ∈ lw_tbl) (h2 : Cond.static Lib.Math.max.name ∈ lw_tbl) (h3 : Cond.initialized "java/lang/Math" ∈ lw_tbl) (h4 : Cond.code Lib.Math.max.name Lib.Math.max.code 2 (some .int) ∈ lw_tbl) (hk : 1 ≤ k) (hst : (st.map fun v => v.category).sum ≤ 100) (huc : uc ≤ mc) (hus : us ≤ ms) (d : decode cc pc = .ok (.invokestatic idx, 3))
    (kk : Zs G X nL h uc us (pc + 3) L (.int (if x < y then y else x) :: st)) : Zs G X nL h uc us pc L (.int y :: .int x :: st) := by
  intro ls H locs cells slots hl hR hS hc hs
  have g1 := C.hlo
  have g2 := C.hf
  have g3 := C.hc
  have g4 := C.hs
  exact va_mmax C.hx C.hb (by rw [C.hml]; exact hl.1.symm) C.ho (C.w h1 rfl) (C.w h2 rfl) (C.w h3 rfl) (C.w h4 rfl) (by omega) (by omega) (by omega) (by omega) d (kk ls H locs cells slots hl hR hS hc hs)
theorem z_f2bits {idx : Nat} {b : UInt32} (C : Cx G X own cc nL k mc ms) (h1 : Cond.methodLink own idx ⟨"java/lang/Float", "floatToRawIntBits", "(F)I"⟩ ∈ lw_tbl) (h2 : Cond.native ⟨"java/lang/Float", "floatToRawIntBits", "(F)I"⟩ ∈ lw_tbl) (h3 : Cond.static ⟨"java/lang/Float", "floatToRawIntBits", "(F)I"⟩ ∈ lw_tbl) (h4 : Cond.initialized "java/lang/Float" ∈ lw_tbl) (hk : 1 ≤ k) (hst : (st.map fun v => v.category).sum ≤ 100) (d : decode cc pc = .ok (.invokestatic idx, 3))
    (kk : Zs G X nL h uc us (pc + 3) L (.int b.toInt32 :: st)) : Zs G X nL h uc us pc L (.float b :: st) := by
  intro ls H locs cells slots hl hR hS hc hs
  have g1 := C.hlo
  have g2 := C.hf
  exact vn_f2i C.hx C.hb (by rw [C.hml]; exact hl.1.symm) C.ho (C.w h1 rfl) (C.w h2 rfl) (C.w h3 rfl) (C.w h4 rfl) (by omega) (by omega) d (kk ls H locs cells slots hl hR hS hc hs)
theorem z_d2bits {idx : Nat} {b : UInt64} (C : Cx G X own cc nL k mc ms) (h1 : Cond.methodLink own idx ⟨"java/lang/Double", "doubleToRawLongBits", "(D)J"⟩ ∈ lw_tbl) (h2 : Cond.native ⟨"java/lang/Double", "doubleToRawLongBits", "(D)J"⟩ ∈ lw_tbl) (h3 : Cond.static ⟨"java/lang/Double", "doubleToRawLongBits", "(D)J"⟩ ∈ lw_tbl) (h4 : Cond.initialized "java/lang/Double" ∈ lw_tbl) (hk : 1 ≤ k) (hst : (st.map fun v => v.category).sum ≤ 100) (d : decode cc pc = .ok (.invokestatic idx, 3))
    (kk : Zs G X nL h uc us (pc + 3) L (.long b.toInt64 :: st)) : Zs G X nL h uc us pc L (.double b :: st) := by
  intro ls H locs cells slots hl hR hS hc hs
  have g1 := C.hlo
  have g2 := C.hf
  exact vn_d2l C.hx C.hb (by rw [C.hml]; exact hl.1.symm) C.ho (C.w h1 rfl) (C.w h2 rfl) (C.w h3 rfl) (C.w h4 rfl) (by omega) (by omega) d (kk ls H locs cells slots hl hR hS hc hs)
/-- what the start says of the class object of Object[] -/
theorem Cx.mirror (C : Cx G X own cc nL k mc ms) : ∃ mi : Nat, va_Mi "[Ljava/lang/Object;" mi (gs G) ∧ va_Mi "[Ljava/lang/Object;" mi (Xs X) := by
  obtain ⟨mi, hm⟩ := va_Mi.of (C := "[Ljava/lang/Object;") (flat_of_before _ C.hB.2.1 _ (by decide +kernel))
  exact ⟨mi, hm, hm.moved C.hE.1.alike⟩
theorem z_getCls {idx a mi n : Nat} {f : Nat → Option Nat} (C : Cx G X own cc nL k mc ms) (hM : va_Mi "[Ljava/lang/Object;" mi (gs G)) (h1 : Cond.methodLink own idx ⟨"java/lang/Object", "getClass", "()Ljava/lang/Class;"⟩ ∈ lw_tbl) (h2 : Cond.declares ⟨"java/lang/Object", "getClass", "()Ljava/lang/Class;"⟩ ∈ lw_tbl) (h3 : Cond.selects "[Ljava/lang/Object;" ⟨"java/lang/Object", "getClass", "()Ljava/lang/Class;"⟩ ⟨"java/lang/Object", "getClass", "()Ljava/lang/Class;"⟩ ∈ lw_tbl) (h4 : Cond.instanceMethod ⟨"java/lang/Object", "getClass", "()Ljava/lang/Class;"⟩ ∈ lw_tbl) (h5 : Cond.native ⟨"java/lang/Object", "getClass", "()Ljava/lang/Class;"⟩ ∈ lw_tbl)
    (hg : h a = some (oO G n f)) (hk : 1 ≤ k) (hst : (st.map fun v => v.category).sum ≤ 100) (d : decode cc pc = .ok (.invokevirtual idx, 3)) (kk : Zs G X nL h uc us (pc + 3) L (.ref mi :: st)) : Zs G X nL h uc us pc L (.ref a :: st) := by
  intro ls H locs cells slots hl hR hS hc hs
  have g1 := C.hlo
  have g2 := C.hf
  exact va_getC C.hx C.hb (by rw [C.hml]; exact hl.1.symm) C.ho (C.w h1 rfl) (C.w h2 rfl) (C.w h3 rfl) (C.w h4 rfl) (C.w h5 rfl) (hM.moved C.hE.1.alike) ⟨_, hR.one hg 0 _ rfl, rfl, va_nmO (C.K.2 6 _ rfl).2 (by decide +kernel)⟩ (by omega) (by omega) d (kk ls H locs cells slots hl hR hS hc hs)
theorem z_ldcM {idx mi : Nat} (C : Cx G X own cc nL k mc ms) (hM : va_Mi "[Ljava/lang/Object;" mi (gs G)) (hl : Cond.classLink own idx "[Ljava/lang/Object;" ∈ lw_tbl) (d : decode cc pc = .ok (.ldc idx, 2)) (kk : Zs G X nL h uc us (pc + 2) L (.ref mi :: st)) : Zs G X nL h uc us pc L st :=
  fun ls H locs cells slots hl2 hR hS hc hs => va_ldcM C.hx C.hb C.ho (C.w hl rfl) (hM.moved C.hE.1.alike) d (kk ls H locs cells slots hl2 hR hS hc hs)
/-- System.arraycopy between arrays of Object, all of whose elements are of one class of ours -/
theorem z_copy {idx ci a0 a1 n0 n1 n : Nat} {Cn : String} {T : u_T} {N : Nat} {ty : Nat → FieldType} {f g : Nat → Option Nat} {v : Int32} (C : Cx G X own cc nL k mc ms) (kc : KC ci Cn T N ty) (hca : Cond.castable Cn "java/lang/Object" ∈ lw_tbl) (h1 : Cond.methodLink own idx arraycopyName ∈ lw_tbl) (h2 : Cond.native arraycopyName ∈ lw_tbl) (h3 : Cond.static arraycopyName ∈ lw_tbl) (h4 : Cond.initialized "java/lang/System" ∈ lw_tbl)
    (hg0 : h a0 = some (oO G n0 f)) (hg1 : h a1 = some (oO G n1 g)) (hv : v = nI n) (hn0 : n ≤ n0) (hn1 : n ≤ n1) (hn : n < 2 ^ 31) (hel : ∀ i, i < n → ∀ y, f i = some y → ∃ fs, h y = some (.inr (ci, fs))) (hk : 1 ≤ k) (hst : (st.map fun v => v.category).sum ≤ 100) (d : decode cc pc = .ok (.invokestatic idx, 3))
    (kk : ∀ h1 : Hp, h1 = hup h a1 (oO G n1 (va_cpy f g 0 0 n)) → Zs G X nL h1 uc us (pc + 3) L st) : Zs G X nL h uc us pc L (.int v :: .int 0 :: .ref a1 :: .int 0 :: .ref a0 :: st) := by
  intro ls H locs cells slots hl hR hS hc hs
  have g1 := C.hlo
  have g2 := C.hf
  subst hv
  obtain ⟨q0, hq0⟩ := wl_at hg0 (hR.lt hg0)
  obtain ⟨q1, hq1⟩ := wl_at hg1 (hR.lt hg1)
  have e0 : (0 : Int32).toNatClampNeg = 0 := by decide
  have en : (nI n).toNatClampNeg = n := nI_clamp hn
  have hw : nativeFrameWords "java/lang/System" "arraycopy" 5 ≤ 20 := by decide
  refine va_copyq (C := Cn) C.hx C.hb (by rw [C.hml]; exact hl.1.symm) C.ho (C.w h1 rfl) (C.w h2 rfl) (C.w h3 rfl) (C.w h4 rfl) C.K hR.P hR.D hS q0 q1 6 6 hq0 hq1 rfl rfl (by decide) (by decide) (nI_pos hn) (by rw [e0, en]; omega) (by rw [e0, en]; omega) (fun i hi y hy => ?_) (fun comp c0 hc1 hc2 => ?_) (by omega) (by omega) d (fun H1 locs1 hP hD hS1 => ?_)
  · rw [en] at hi
    rw [e0, Nat.zero_add] at hy
    obtain ⟨fs, hfs⟩ := hel i hi y hy
    exact va_recv C.K (hR.one hfs) kc.1 (q0 := 0) rfl
  · obtain ⟨c3, t3, f1, f2, f3⟩ := Cond.castable_spec (C.w hca rfl (a := #[]))
    cases hc2.symm.trans f1
    cases hc1.symm.trans f2
    exact f3
  · rw [e0, en] at hP
    exact kk _ rfl ls H1 locs1 cells slots hl (hR.set hq1 hP) hS1 hc hs
end
