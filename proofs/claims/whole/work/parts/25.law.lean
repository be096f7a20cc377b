/-! the law's own body -/
/-- the script that the law reads -/
def Sc (G : GT) (X : XT) (LL : Nat) (xs : Nat → Int32) : Prop := va_X (gb G) LL xs (Xs X) (Xs X).heap ∧ gb G < (gs G).heap.size
section
variable {G : GT} {X : XT} {own : String} {cc : ByteArray} {nL k mc ms uc us pc LL : Nat} {xs : Nat → Int32} {h : Hp} {L : List (Option Value)} {st : List Value}
theorem z_slen (C : Cx G X own cc nL k mc ms) (S9 : Sc G X LL xs) (d : decode cc pc = .ok (.arraylength, 1)) (kk : Zs G X nL h uc us (pc + 1) L (.int (nI LL) :: st)) : Zs G X nL h uc us pc L (.ref (gb G) :: st) :=
  fun ls H locs cells slots hl hR hS hc hs => va_slen C.hx C.hb S9.1 (Nat.lt_of_lt_of_le S9.2 C.hE.2.1) (zA_not S9.2) hS d (kk ls H locs cells slots hl hR hS hc hs)
theorem z_sld {i : Int32} (C : Cx G X own cc nL k mc ms) (S9 : Sc G X LL xs) (hin : vp_in i LL) (d : decode cc pc = .ok (.iaload, 1)) (kk : Zs G X nL h uc us (pc + 1) L (.int (xs i.toNatClampNeg) :: st)) : Zs G X nL h uc us pc L (.int i :: .ref (gb G) :: st) :=
  fun ls H locs cells slots hl hR hS hc hs => va_sld C.hx C.hb S9.1 (Nat.lt_of_lt_of_le S9.2 C.hE.2.1) (zA_not S9.2) hS hin d (kk ls H locs cells slots hl hR hS hc hs)
theorem z_tsw {dflt : Int} {n : Nat} {offs : Array Int} {len tgtd : Nat} {tgts : List Nat} {x : Int32} (C : Cx G X own cc nL k mc ms) (d : decode cc pc = .ok (.tableswitch dflt 0 (n : Int) offs, len)) (hd : (pc : Int) + dflt = (tgtd : Int)) (hall : ∀ j, j < n + 1 → ∃ tgt, (offs[j]?).map (fun f => (pc : Int) + f) = some ((tgt : Nat) : Int) ∧ tgt ∈ tgts)
    (kin : ∀ tgt ∈ tgts, Zs G X nL h uc us tgt L st) (kout : Zs G X nL h uc us tgtd L st) : Zs G X nL h uc us pc L (.int x :: st) := by
  intro ls H locs cells slots hl hR hS hc hs
  by_cases h1 : x.toInt < 0
  · exact lv_tableOut C.hx C.hb d (Or.inl h1) hd (kout ls H locs cells slots hl hR hS hc hs)
  · by_cases h2 : (n : Int) < x.toInt
    · exact lv_tableOut C.hx C.hb d (Or.inr h2) hd (kout ls H locs cells slots hl hR hS hc hs)
    · obtain ⟨tgt, e, hm⟩ := hall (x.toInt - 0).toNat (by omega)
      obtain ⟨off, e1, e2⟩ := Option.map_eq_some_iff.mp e
      exact lv_tableIn C.hx C.hb d h1 h2 e1 e2 (kin tgt hm ls H locs cells slots hl hR hS hc hs)
end
theorem Rs.yes {c1 c2 c3 : Prop} {k : Int32} (h1 : c1) (h2 : c2) (h3 : c3) (h : Rs c1 c2 c3 k) : k = 0 := Rs.uni h (Or.inl ⟨h1, h2, h3, rfl⟩)
theorem lgc {a b : Int64} (e : a = b) : lg_cmp a b = 0 := (lg_cmp_eq a b).mpr e
theorem cmpv {a b : UInt64} (e : a = b) (h : FP.dcmp b b = some .eq) : Op.cmpValue (FP.dcmp a b) .l = 0 := by
  rw [e, h]
  rfl
/-- between two calls of the script: the ledger and the reference hold the same, after at most n meetings -/
def Stt (G : GT) (h : Hp) (x m o d n : Nat) : Prop := ∃ loc ρ, PW G h loc (rM ρ) ρ ∧ Inv (rM ρ) ∧ RDr ρ ∧ tn (rM ρ) 4 ≤ n ∧ loc 0 0 = x ∧ loc 0 4 = m ∧ loc 0 5 = o ∧ loc 0 6 = d
theorem Stt.mk {G : GT} {h : Hp} {loc : Nat → Nat → Nat} {σ : SG} {ρ : RG} {n : Nat} (P : PW G h loc σ ρ) (hM : rM ρ = σ) (I : Inv σ) (R : RDr ρ) (h4 : tn σ 4 ≤ n) : Stt G h (loc 0 0) (loc 0 4) (loc 0 5) (loc 0 6) n := by
  subst hM
  exact ⟨loc, ρ, P, I, R, h4, rfl, rfl, rfl, rfl⟩
theorem Stt.up {G : GT} {h : Hp} {x m o d n n' : Nat} (hn : n ≤ n') (S : Stt G h x m o d n) : Stt G h x m o d n' := by
  obtain ⟨loc, ρ, P, I, R, h4, e⟩ := S
  exact ⟨loc, ρ, P, I, R, Nat.le_trans h4 hn, e⟩
theorem lw_norm {G : GT} {h' : Hp} {loc : Nat → Nat → Nat} {σ' : SG} {ρ : RG} {c1 c2 c3 : Prop} {okv : RG → Prop} {v : Option Value} (hv : lw G loc (rM ρ) ρ σ' c1 c2 c3 okv v h') :
    (c1 ∧ c2 ∧ c3 ∧ v = some (.int 0) ∧ ∃ (loc' : Nat → Nat → Nat) (f : Nat → Int32) (J : Nat → Int64) (Q : Nat → UInt64), Same (tn (rM ρ)) loc loc' ∧ PW G h' loc' σ' (f, rt ρ, rM ρ, rK ρ, rA ρ, rD ρ, J, Q) ∧ okv (f, rt ρ, rM ρ, rK ρ, rA ρ, rD ρ, J, Q)) ∨ ∃ k : Int32, Rs c1 c2 c3 k ∧ ¬ k = 0 ∧ PW G h' loc (rM ρ) ρ ∧ v = some (.int k) := by
  rcases hv with ⟨a1, a2, a3, ⟨loc', ρ', hs, P, sm, ov⟩, e⟩ | q
  · obtain ⟨f9, t9, m9, K9, A9, D9, J9, Q9⟩ := ρ'
    obtain ⟨e1, e2, e3, e4, e5⟩ := sm
    change t9 = _ at e1
    change m9 = _ at e2
    change K9 = _ at e3
    change A9 = _ at e4
    change D9 = _ at e5
    subst e1 e2 e3 e4 e5
    exact Or.inl ⟨a1, a2, a3, e, loc', f9, J9, Q9, hs, P, ov⟩
  · exact Or.inr q
section
variable {G : GT} {X : XT} {uc us LL n x m o d9 : Nat} {xs : Nat → Int32} {h : Hp} {i : Int32}
/-- what comes behind a call of the script -/
def Nx (G : GT) (X : XT) (uc us n x m o d9 : Nat) (i : Int32) : Prop := ∀ h' : Hp, Stt G h' x m o d9 (n + 1) → Zs G X 9 h' (uc + 20) (us + 4400) 2161 [some (.ref (gb G)), some (.ref x), some (.ref m), some (.ref o), some (.ref d9), some (.int i), none, none, none] []
theorem w_addKey (hB : Base G) (C : Cx G X RL cL_law 9 20 603072 7211114) (S9 : Sc G X LL xs) (v1 : vp_in (i + 1) LL) (v2 : vp_in (i + 2) LL) (v3 : vp_in (i + 3) LL) (hn : n < 512) (hu : uc + 20 ≤ 603072) (hs9 : us + 4400 ≤ 7211114) (S : Stt G h x m o d9 n) (kk : Nx G X uc us n x m o d9 i) : Zs G X 9 h uc us 208 [some (.ref (gb G)), some (.ref x), some (.ref m), some (.ref o), some (.ref d9), some (.int i), none, none, none] [] := by
  obtain ⟨loc, ρ, P, I, R, h4, rfl, rfl, rfl, rfl⟩ := S
  have mm : tn (rM ρ) 4 < 512 := by omega
  refine z_aload_n C dL_law_208 rfl ?_
  refine z_aload_n C dL_law_209 rfl ?_
  refine z_iload C dL_law_210 rfl ?_
  refine z_iconst (v := 1) C dL_law_212 (by decide) ?_
  refine z_iadd C dL_law_213 ?_
  refine z_sld C S9 v1 dL_law_214 ?_
  refine z_aload_n C dL_law_215 rfl ?_
  refine z_iload C dL_law_216 rfl ?_
  refine z_iconst (v := 2) C dL_law_218 (by decide) ?_
  refine z_iadd C dL_law_219 ?_
  refine z_sld C S9 v2 dL_law_220 ?_
  refine z_aload_n C dL_law_221 rfl ?_
  refine z_iload C dL_law_222 rfl ?_
  refine z_iconst (v := 3) C dL_law_224 (by decide) ?_
  refine z_iadd C dL_law_225 ?_
  refine z_sld C S9 v3 dL_law_226 ?_
  refine z_aload_n C dL_law_227 rfl ?_
  refine z_rn (z_runW C kwL_addKey lkL_127 (l_addKey hB P I) rfl rfl (zb rfl) (zb rfl) (by omega) (by omega) dL_law_228) (fun v9 h9 hv => ?_)
  rcases lw_norm hv with ⟨c1, c2, c3, rfl, loc', f9, J9, Q9, hs', P', ov⟩ | ⟨k9, hr, hk, P', rfl⟩
  · rw [← hs'.a (show 0 < 7 by decide), ← hs'.a (show 4 < 7 by decide), ← hs'.a (show 5 < 7 by decide), ← hs'.a (show 6 < 7 by decide)] at kk ⊢
    refine z_istore C dL_law_231 (zb rfl) ?_
    refine z_aload_n C dL_law_233 rfl ?_
    refine z_aload_n C dL_law_234 rfl ?_
    refine z_iload C dL_law_235 rfl ?_
    refine z_iconst (v := 1) C dL_law_237 (by decide) ?_
    refine z_iadd C dL_law_238 ?_
    refine z_sld C S9 v1 dL_law_239 ?_
    refine z_aload_n C dL_law_240 rfl ?_
    refine z_iload C dL_law_241 rfl ?_
    refine z_iconst (v := 2) C dL_law_243 (by decide) ?_
    refine z_iadd C dL_law_244 ?_
    refine z_sld C S9 v2 dL_law_245 ?_
    refine z_aload_n C dL_law_246 rfl ?_
    refine z_iload C dL_law_247 rfl ?_
    refine z_iconst (v := 3) C dL_law_249 (by decide) ?_
    refine z_iadd C dL_law_250 ?_
    refine z_sld C S9 v3 dL_law_251 ?_
    refine z_rn (z_runV C kvX9_addKey lkL_132 kcX9 (k9_addKey hB P' I R) (P'.m) rfl rfl (zb rfl) (zb rfl) (by omega) (by omega) dL_law_252) (fun v9 h9 hv => ?_)
    rcases hv with ⟨-, -, -, P2, rfl⟩ | ⟨k2, w2, hr2, hk2, P2, rfl⟩
    · skip
      refine z_istore C dL_law_255 (zb rfl) ?_
      refine z_aload_n C dL_law_257 rfl ?_
      refine z_rd (z_runV C kvX9_thrown lkL_133 kcX9 (k9_thrown hB P2) (P2.m) rfl rfl (zb rfl) (zb rfl) (by omega) (by omega) dL_law_258) ?_
      refine z_iload C dL_law_261 rfl ?_
      refine z_icmp_eq (tgt := 268) C dL_law_263 (by decide) (fun _ => ?_) (fun e9 => absurd (rfl) e9)
      refine z_iload C dL_law_268 rfl ?_
      refine z_if_ne (tgt := 285) C dL_law_270 (by decide) (fun e9 => absurd e9 ((fun e => e rfl))) (fun _ => ?_)
      refine z_aload_n C dL_law_273 rfl ?_
      refine z_iconst (v := 0) C dL_law_274 (by decide) ?_
      refine z_lald C (P2.J) (in01) dL_law_275 ?_
      refine z_iload C dL_law_276 rfl ?_
      refine z_i2l C dL_law_278 ?_
      refine z_lcmp C dL_law_279 ?_
      refine z_if_eq (tgt := 285) C dL_law_280 (by decide) (fun _ => ?_) (fun e9 => absurd ((lgc ov)) e9)
      refine z_goto (tgt := 2161) C dL_law_285 (by decide) ?_
      exact Zs.up (by omega) (by omega) (Zs.mask [true, true, true, true, true, true, false, false, false] (kk _ (Stt.mk (loc := loc') P2 rfl (I.addKey c2) (RD.okAddKey R I c2) (Nat.le_trans (show tn _ 4 ≤ tn (rM ρ) 4 + 1 by first | exact Nat.le_refl _ | exact Nat.le_succ _) (by omega)))))
    · exact absurd (Rs.yes c1 c2 c3 hr2) hk2
  · refine z_istore C dL_law_231 (zb rfl) ?_
    refine z_aload_n C dL_law_233 rfl ?_
    refine z_aload_n C dL_law_234 rfl ?_
    refine z_iload C dL_law_235 rfl ?_
    refine z_iconst (v := 1) C dL_law_237 (by decide) ?_
    refine z_iadd C dL_law_238 ?_
    refine z_sld C S9 v1 dL_law_239 ?_
    refine z_aload_n C dL_law_240 rfl ?_
    refine z_iload C dL_law_241 rfl ?_
    refine z_iconst (v := 2) C dL_law_243 (by decide) ?_
    refine z_iadd C dL_law_244 ?_
    refine z_sld C S9 v2 dL_law_245 ?_
    refine z_aload_n C dL_law_246 rfl ?_
    refine z_iload C dL_law_247 rfl ?_
    refine z_iconst (v := 3) C dL_law_249 (by decide) ?_
    refine z_iadd C dL_law_250 ?_
    refine z_sld C S9 v3 dL_law_251 ?_
    refine z_rn (z_runV C kvX9_addKey lkL_132 kcX9 (k9_addKey hB P' I R) (P'.m) rfl rfl (zb rfl) (zb rfl) (by omega) (by omega) dL_law_252) (fun v9 h9 hv => ?_)
    rcases hv with ⟨c1, c2, c3, -, -⟩ | ⟨k2, w2, hr2, hk2, P2, rfl⟩
    · exact absurd (Rs.yes c1 c2 c3 hr) hk
    · refine z_istore C dL_law_255 (zb rfl) ?_
      refine z_aload_n C dL_law_257 rfl ?_
      refine z_rd (z_runV C kvX9_thrown lkL_133 kcX9 (k9_thrown hB P2) (P2.m) rfl rfl (zb rfl) (zb rfl) (by omega) (by omega) dL_law_258) ?_
      refine z_iload C dL_law_261 rfl ?_
      refine z_icmp_eq (tgt := 268) C dL_law_263 (by decide) (fun _ => ?_) (fun e9 => absurd ((Rs.uni hr2 hr)) e9)
      refine z_iload C dL_law_268 rfl ?_
      refine z_if_ne (tgt := 285) C dL_law_270 (by decide) (fun _ => ?_) (fun e9 => absurd e9 (hk))
      refine z_goto (tgt := 2161) C dL_law_285 (by decide) ?_
      exact Zs.up (by omega) (by omega) (Zs.mask [true, true, true, true, true, true, false, false, false] (kk _ (Stt.mk (loc := loc) P2 rfl I R (show tn (rM ρ) 4 ≤ n + 1 by omega))))
theorem w_setTimes (hB : Base G) (C : Cx G X RL cL_law 9 20 603072 7211114) (S9 : Sc G X LL xs) (v1 : vp_in (i + 1) LL) (v2 : vp_in (i + 2) LL) (v3 : vp_in (i + 3) LL) (hn : n < 512) (hu : uc + 20 ≤ 603072) (hs9 : us + 4400 ≤ 7211114) (S : Stt G h x m o d9 n) (kk : Nx G X uc us n x m o d9 i) : Zs G X 9 h uc us 288 [some (.ref (gb G)), some (.ref x), some (.ref m), some (.ref o), some (.ref d9), some (.int i), none, none, none] [] := by
  obtain ⟨loc, ρ, P, I, R, h4, rfl, rfl, rfl, rfl⟩ := S
  have mm : tn (rM ρ) 4 < 512 := by omega
  refine z_aload_n C dL_law_288 rfl ?_
  refine z_aload_n C dL_law_289 rfl ?_
  refine z_iload C dL_law_290 rfl ?_
  refine z_iconst (v := 1) C dL_law_292 (by decide) ?_
  refine z_iadd C dL_law_293 ?_
  refine z_sld C S9 v1 dL_law_294 ?_
  refine z_aload_n C dL_law_295 rfl ?_
  refine z_iload C dL_law_296 rfl ?_
  refine z_iconst (v := 2) C dL_law_298 (by decide) ?_
  refine z_iadd C dL_law_299 ?_
  refine z_sld C S9 v2 dL_law_300 ?_
  refine z_aload_n C dL_law_301 rfl ?_
  refine z_iload C dL_law_302 rfl ?_
  refine z_iconst (v := 3) C dL_law_304 (by decide) ?_
  refine z_iadd C dL_law_305 ?_
  refine z_sld C S9 v3 dL_law_306 ?_
  refine z_aload_n C dL_law_307 rfl ?_
  refine z_rn (z_runW C kwL_setTimes lkL_136 (l_setTimes hB P I) rfl rfl (zb rfl) (zb rfl) (by omega) (by omega) dL_law_308) (fun v9 h9 hv => ?_)
  rcases lw_norm hv with ⟨c1, c2, c3, rfl, loc', f9, J9, Q9, hs', P', ov⟩ | ⟨k9, hr, hk, P', rfl⟩
  · rw [← hs'.a (show 0 < 7 by decide), ← hs'.a (show 4 < 7 by decide), ← hs'.a (show 5 < 7 by decide), ← hs'.a (show 6 < 7 by decide)] at kk ⊢
    refine z_istore C dL_law_311 (zb rfl) ?_
    refine z_aload_n C dL_law_313 rfl ?_
    refine z_aload_n C dL_law_314 rfl ?_
    refine z_iload C dL_law_315 rfl ?_
    refine z_iconst (v := 1) C dL_law_317 (by decide) ?_
    refine z_iadd C dL_law_318 ?_
    refine z_sld C S9 v1 dL_law_319 ?_
    refine z_aload_n C dL_law_320 rfl ?_
    refine z_iload C dL_law_321 rfl ?_
    refine z_iconst (v := 2) C dL_law_323 (by decide) ?_
    refine z_iadd C dL_law_324 ?_
    refine z_sld C S9 v2 dL_law_325 ?_
    refine z_aload_n C dL_law_326 rfl ?_
    refine z_iload C dL_law_327 rfl ?_
    refine z_iconst (v := 3) C dL_law_329 (by decide) ?_
    refine z_iadd C dL_law_330 ?_
    refine z_sld C S9 v3 dL_law_331 ?_
    refine z_rn (z_runV C kvX9_setTimes lkL_138 kcX9 (k9_setTimes hB P' I R) (P'.m) rfl rfl (zb rfl) (zb rfl) (by omega) (by omega) dL_law_332) (fun v9 h9 hv => ?_)
    rcases hv with ⟨-, -, -, P2, rfl⟩ | ⟨k2, w2, hr2, hk2, P2, rfl⟩
    · skip
      refine z_istore C dL_law_335 (zb rfl) ?_
      refine z_aload_n C dL_law_337 rfl ?_
      refine z_rd (z_runV C kvX9_thrown lkL_133 kcX9 (k9_thrown hB P2) (P2.m) rfl rfl (zb rfl) (zb rfl) (by omega) (by omega) dL_law_338) ?_
      refine z_iload C dL_law_341 rfl ?_
      refine z_icmp_eq (tgt := 348) C dL_law_343 (by decide) (fun _ => ?_) (fun e9 => absurd (rfl) e9)
      refine z_iload C dL_law_348 rfl ?_
      refine z_if_ne (tgt := 365) C dL_law_350 (by decide) (fun e9 => absurd e9 ((fun e => e rfl))) (fun _ => ?_)
      refine z_aload_n C dL_law_353 rfl ?_
      refine z_iconst (v := 0) C dL_law_354 (by decide) ?_
      refine z_lald C (P2.J) (in01) dL_law_355 ?_
      refine z_iload C dL_law_356 rfl ?_
      refine z_i2l C dL_law_358 ?_
      refine z_lcmp C dL_law_359 ?_
      refine z_if_eq (tgt := 365) C dL_law_360 (by decide) (fun _ => ?_) (fun e9 => absurd ((lgc ov)) e9)
      refine z_goto (tgt := 2161) C dL_law_365 (by decide) ?_
      exact Zs.up (by omega) (by omega) (Zs.mask [true, true, true, true, true, true, false, false, false] (kk _ (Stt.mk (loc := loc') P2 rfl (I.setK c1 c3.2 (Or.inl rfl)) (RD.okSetTimes R I c1 c3.1) (Nat.le_trans (show tn _ 4 ≤ tn (rM ρ) 4 + 1 by first | exact Nat.le_refl _ | exact Nat.le_succ _) (by omega)))))
    · exact absurd (Rs.yes c1 c2 c3 hr2) hk2
  · refine z_istore C dL_law_311 (zb rfl) ?_
    refine z_aload_n C dL_law_313 rfl ?_
    refine z_aload_n C dL_law_314 rfl ?_
    refine z_iload C dL_law_315 rfl ?_
    refine z_iconst (v := 1) C dL_law_317 (by decide) ?_
    refine z_iadd C dL_law_318 ?_
    refine z_sld C S9 v1 dL_law_319 ?_
    refine z_aload_n C dL_law_320 rfl ?_
    refine z_iload C dL_law_321 rfl ?_
    refine z_iconst (v := 2) C dL_law_323 (by decide) ?_
    refine z_iadd C dL_law_324 ?_
    refine z_sld C S9 v2 dL_law_325 ?_
    refine z_aload_n C dL_law_326 rfl ?_
    refine z_iload C dL_law_327 rfl ?_
    refine z_iconst (v := 3) C dL_law_329 (by decide) ?_
    refine z_iadd C dL_law_330 ?_
    refine z_sld C S9 v3 dL_law_331 ?_
    refine z_rn (z_runV C kvX9_setTimes lkL_138 kcX9 (k9_setTimes hB P' I R) (P'.m) rfl rfl (zb rfl) (zb rfl) (by omega) (by omega) dL_law_332) (fun v9 h9 hv => ?_)
    rcases hv with ⟨c1, c2, c3, -, -⟩ | ⟨k2, w2, hr2, hk2, P2, rfl⟩
    · exact absurd (Rs.yes c1 c2 c3 hr) hk
    · refine z_istore C dL_law_335 (zb rfl) ?_
      refine z_aload_n C dL_law_337 rfl ?_
      refine z_rd (z_runV C kvX9_thrown lkL_133 kcX9 (k9_thrown hB P2) (P2.m) rfl rfl (zb rfl) (zb rfl) (by omega) (by omega) dL_law_338) ?_
      refine z_iload C dL_law_341 rfl ?_
      refine z_icmp_eq (tgt := 348) C dL_law_343 (by decide) (fun _ => ?_) (fun e9 => absurd ((Rs.uni hr2 hr)) e9)
      refine z_iload C dL_law_348 rfl ?_
      refine z_if_ne (tgt := 365) C dL_law_350 (by decide) (fun _ => ?_) (fun e9 => absurd e9 (hk))
      refine z_goto (tgt := 2161) C dL_law_365 (by decide) ?_
      exact Zs.up (by omega) (by omega) (Zs.mask [true, true, true, true, true, true, false, false, false] (kk _ (Stt.mk (loc := loc) P2 rfl I R (show tn (rM ρ) 4 ≤ n + 1 by omega))))
theorem w_setDoors (hB : Base G) (C : Cx G X RL cL_law 9 20 603072 7211114) (S9 : Sc G X LL xs) (v1 : vp_in (i + 1) LL) (v2 : vp_in (i + 2) LL) (v3 : vp_in (i + 3) LL) (hn : n < 512) (hu : uc + 20 ≤ 603072) (hs9 : us + 4400 ≤ 7211114) (S : Stt G h x m o d9 n) (kk : Nx G X uc us n x m o d9 i) : Zs G X 9 h uc us 368 [some (.ref (gb G)), some (.ref x), some (.ref m), some (.ref o), some (.ref d9), some (.int i), none, none, none] [] := by
  obtain ⟨loc, ρ, P, I, R, h4, rfl, rfl, rfl, rfl⟩ := S
  have mm : tn (rM ρ) 4 < 512 := by omega
  refine z_aload_n C dL_law_368 rfl ?_
  refine z_aload_n C dL_law_369 rfl ?_
  refine z_iload C dL_law_370 rfl ?_
  refine z_iconst (v := 1) C dL_law_372 (by decide) ?_
  refine z_iadd C dL_law_373 ?_
  refine z_sld C S9 v1 dL_law_374 ?_
  refine z_aload_n C dL_law_375 rfl ?_
  refine z_iload C dL_law_376 rfl ?_
  refine z_iconst (v := 2) C dL_law_378 (by decide) ?_
  refine z_iadd C dL_law_379 ?_
  refine z_sld C S9 v2 dL_law_380 ?_
  refine z_aload_n C dL_law_381 rfl ?_
  refine z_rn (z_runW C kwL_setDoors lkL_139 (l_setDoors hB P I) rfl rfl (zb rfl) (zb rfl) (by omega) (by omega) dL_law_382) (fun v9 h9 hv => ?_)
  rcases lw_norm hv with ⟨c1, c2, c3, rfl, loc', f9, J9, Q9, hs', P', ov⟩ | ⟨k9, hr, hk, P', rfl⟩
  · rw [← hs'.a (show 0 < 7 by decide), ← hs'.a (show 4 < 7 by decide), ← hs'.a (show 5 < 7 by decide), ← hs'.a (show 6 < 7 by decide)] at kk ⊢
    refine z_istore C dL_law_385 (zb rfl) ?_
    refine z_aload_n C dL_law_387 rfl ?_
    refine z_aload_n C dL_law_388 rfl ?_
    refine z_iload C dL_law_389 rfl ?_
    refine z_iconst (v := 1) C dL_law_391 (by decide) ?_
    refine z_iadd C dL_law_392 ?_
    refine z_sld C S9 v1 dL_law_393 ?_
    refine z_aload_n C dL_law_394 rfl ?_
    refine z_iload C dL_law_395 rfl ?_
    refine z_iconst (v := 2) C dL_law_397 (by decide) ?_
    refine z_iadd C dL_law_398 ?_
    refine z_sld C S9 v2 dL_law_399 ?_
    refine z_rn (z_runV C kvX9_setDoors lkL_142 kcX9 (k9_setDoors hB P' I R) (P'.m) rfl rfl (zb rfl) (zb rfl) (by omega) (by omega) dL_law_400) (fun v9 h9 hv => ?_)
    rcases hv with ⟨-, -, -, P2, rfl⟩ | ⟨k2, w2, hr2, hk2, P2, rfl⟩
    · skip
      refine z_istore C dL_law_403 (zb rfl) ?_
      refine z_aload_n C dL_law_405 rfl ?_
      refine z_rd (z_runV C kvX9_thrown lkL_133 kcX9 (k9_thrown hB P2) (P2.m) rfl rfl (zb rfl) (zb rfl) (by omega) (by omega) dL_law_406) ?_
      refine z_iload C dL_law_409 rfl ?_
      refine z_icmp_eq (tgt := 416) C dL_law_411 (by decide) (fun _ => ?_) (fun e9 => absurd (rfl) e9)
      refine z_iload C dL_law_416 rfl ?_
      refine z_if_ne (tgt := 433) C dL_law_418 (by decide) (fun e9 => absurd e9 ((fun e => e rfl))) (fun _ => ?_)
      refine z_aload_n C dL_law_421 rfl ?_
      refine z_iconst (v := 0) C dL_law_422 (by decide) ?_
      refine z_lald C (P2.J) (in01) dL_law_423 ?_
      refine z_iload C dL_law_424 rfl ?_
      refine z_i2l C dL_law_426 ?_
      refine z_lcmp C dL_law_427 ?_
      refine z_if_eq (tgt := 433) C dL_law_428 (by decide) (fun _ => ?_) (fun e9 => absurd ((lgc ov)) e9)
      refine z_goto (tgt := 2161) C dL_law_433 (by decide) ?_
      exact Zs.up (by omega) (by omega) (Zs.mask [true, true, true, true, true, true, false, false, false] (kk _ (Stt.mk (loc := loc') P2 rfl (I.setK c1 c3.2 (Or.inl rfl)) (RD.okSetDoors R I c1 c3.1) (Nat.le_trans (show tn _ 4 ≤ tn (rM ρ) 4 + 1 by first | exact Nat.le_refl _ | exact Nat.le_succ _) (by omega)))))
    · exact absurd (Rs.yes c1 c2 c3 hr2) hk2
  · refine z_istore C dL_law_385 (zb rfl) ?_
    refine z_aload_n C dL_law_387 rfl ?_
    refine z_aload_n C dL_law_388 rfl ?_
    refine z_iload C dL_law_389 rfl ?_
    refine z_iconst (v := 1) C dL_law_391 (by decide) ?_
    refine z_iadd C dL_law_392 ?_
    refine z_sld C S9 v1 dL_law_393 ?_
    refine z_aload_n C dL_law_394 rfl ?_
    refine z_iload C dL_law_395 rfl ?_
    refine z_iconst (v := 2) C dL_law_397 (by decide) ?_
    refine z_iadd C dL_law_398 ?_
    refine z_sld C S9 v2 dL_law_399 ?_
    refine z_rn (z_runV C kvX9_setDoors lkL_142 kcX9 (k9_setDoors hB P' I R) (P'.m) rfl rfl (zb rfl) (zb rfl) (by omega) (by omega) dL_law_400) (fun v9 h9 hv => ?_)
    rcases hv with ⟨c1, c2, c3, -, -⟩ | ⟨k2, w2, hr2, hk2, P2, rfl⟩
    · exact absurd (Rs.yes c1 c2 c3 hr) hk
    · refine z_istore C dL_law_403 (zb rfl) ?_
      refine z_aload_n C dL_law_405 rfl ?_
      refine z_rd (z_runV C kvX9_thrown lkL_133 kcX9 (k9_thrown hB P2) (P2.m) rfl rfl (zb rfl) (zb rfl) (by omega) (by omega) dL_law_406) ?_
      refine z_iload C dL_law_409 rfl ?_
      refine z_icmp_eq (tgt := 416) C dL_law_411 (by decide) (fun _ => ?_) (fun e9 => absurd ((Rs.uni hr2 hr)) e9)
      refine z_iload C dL_law_416 rfl ?_
      refine z_if_ne (tgt := 433) C dL_law_418 (by decide) (fun _ => ?_) (fun e9 => absurd e9 (hk))
      refine z_goto (tgt := 2161) C dL_law_433 (by decide) ?_
      exact Zs.up (by omega) (by omega) (Zs.mask [true, true, true, true, true, true, false, false, false] (kk _ (Stt.mk (loc := loc) P2 rfl I R (show tn (rM ρ) 4 ≤ n + 1 by omega))))
theorem w_revoke (hB : Base G) (C : Cx G X RL cL_law 9 20 603072 7211114) (S9 : Sc G X LL xs) (v1 : vp_in (i + 1) LL) (v2 : vp_in (i + 2) LL) (v3 : vp_in (i + 3) LL) (hn : n < 512) (hu : uc + 20 ≤ 603072) (hs9 : us + 4400 ≤ 7211114) (S : Stt G h x m o d9 n) (kk : Nx G X uc us n x m o d9 i) : Zs G X 9 h uc us 436 [some (.ref (gb G)), some (.ref x), some (.ref m), some (.ref o), some (.ref d9), some (.int i), none, none, none] [] := by
  obtain ⟨loc, ρ, P, I, R, h4, rfl, rfl, rfl, rfl⟩ := S
  have mm : tn (rM ρ) 4 < 512 := by omega
  refine z_aload_n C dL_law_436 rfl ?_
  refine z_aload_n C dL_law_437 rfl ?_
  refine z_iload C dL_law_438 rfl ?_
  refine z_iconst (v := 1) C dL_law_440 (by decide) ?_
  refine z_iadd C dL_law_441 ?_
  refine z_sld C S9 v1 dL_law_442 ?_
  refine z_aload_n C dL_law_443 rfl ?_
  refine z_rn (z_runW C kwL_revoke lkL_143 (l_revoke hB P I) rfl rfl (zb rfl) (zb rfl) (by omega) (by omega) dL_law_444) (fun v9 h9 hv => ?_)
  rcases lw_norm hv with ⟨c1, c2, c3, rfl, loc', f9, J9, Q9, hs', P', ov⟩ | ⟨k9, hr, hk, P', rfl⟩
  · rw [← hs'.a (show 0 < 7 by decide), ← hs'.a (show 4 < 7 by decide), ← hs'.a (show 5 < 7 by decide), ← hs'.a (show 6 < 7 by decide)] at kk ⊢
    refine z_istore C dL_law_447 (zb rfl) ?_
    refine z_aload_n C dL_law_449 rfl ?_
    refine z_aload_n C dL_law_450 rfl ?_
    refine z_iload C dL_law_451 rfl ?_
    refine z_iconst (v := 1) C dL_law_453 (by decide) ?_
    refine z_iadd C dL_law_454 ?_
    refine z_sld C S9 v1 dL_law_455 ?_
    refine z_rn (z_runV C kvX9_revoke lkL_146 kcX9 (k9_revoke hB P' I R) (P'.m) rfl rfl (zb rfl) (zb rfl) (by omega) (by omega) dL_law_456) (fun v9 h9 hv => ?_)
    rcases hv with ⟨-, -, -, P2, rfl⟩ | ⟨k2, w2, hr2, hk2, P2, rfl⟩
    · skip
      refine z_istore C dL_law_459 (zb rfl) ?_
      refine z_aload_n C dL_law_461 rfl ?_
      refine z_rd (z_runV C kvX9_thrown lkL_133 kcX9 (k9_thrown hB P2) (P2.m) rfl rfl (zb rfl) (zb rfl) (by omega) (by omega) dL_law_462) ?_
      refine z_iload C dL_law_465 rfl ?_
      refine z_icmp_eq (tgt := 472) C dL_law_467 (by decide) (fun _ => ?_) (fun e9 => absurd (rfl) e9)
      refine z_iload C dL_law_472 rfl ?_
      refine z_if_ne (tgt := 489) C dL_law_474 (by decide) (fun e9 => absurd e9 ((fun e => e rfl))) (fun _ => ?_)
      refine z_aload_n C dL_law_477 rfl ?_
      refine z_iconst (v := 0) C dL_law_478 (by decide) ?_
      refine z_lald C (P2.J) (in01) dL_law_479 ?_
      refine z_iload C dL_law_480 rfl ?_
      refine z_i2l C dL_law_482 ?_
      refine z_lcmp C dL_law_483 ?_
      refine z_if_eq (tgt := 489) C dL_law_484 (by decide) (fun _ => ?_) (fun e9 => absurd ((lgc ov)) e9)
      refine z_goto (tgt := 2161) C dL_law_489 (by decide) ?_
      exact Zs.up (by omega) (by omega) (Zs.mask [true, true, true, true, true, true, false, false, false] (kk _ (Stt.mk (loc := loc') P2 rfl (I.setK c1 c2.2 (Or.inr rfl)) (RD.okRevoke R I c1) (Nat.le_trans (show tn _ 4 ≤ tn (rM ρ) 4 + 1 by first | exact Nat.le_refl _ | exact Nat.le_succ _) (by omega)))))
    · exact absurd (Rs.yes c1 c2 c3 hr2) hk2
  · refine z_istore C dL_law_447 (zb rfl) ?_
    refine z_aload_n C dL_law_449 rfl ?_
    refine z_aload_n C dL_law_450 rfl ?_
    refine z_iload C dL_law_451 rfl ?_
    refine z_iconst (v := 1) C dL_law_453 (by decide) ?_
    refine z_iadd C dL_law_454 ?_
    refine z_sld C S9 v1 dL_law_455 ?_
    refine z_rn (z_runV C kvX9_revoke lkL_146 kcX9 (k9_revoke hB P' I R) (P'.m) rfl rfl (zb rfl) (zb rfl) (by omega) (by omega) dL_law_456) (fun v9 h9 hv => ?_)
    rcases hv with ⟨c1, c2, c3, -, -⟩ | ⟨k2, w2, hr2, hk2, P2, rfl⟩
    · exact absurd (Rs.yes c1 c2 c3 hr) hk
    · refine z_istore C dL_law_459 (zb rfl) ?_
      refine z_aload_n C dL_law_461 rfl ?_
      refine z_rd (z_runV C kvX9_thrown lkL_133 kcX9 (k9_thrown hB P2) (P2.m) rfl rfl (zb rfl) (zb rfl) (by omega) (by omega) dL_law_462) ?_
      refine z_iload C dL_law_465 rfl ?_
      refine z_icmp_eq (tgt := 472) C dL_law_467 (by decide) (fun _ => ?_) (fun e9 => absurd ((Rs.uni hr2 hr)) e9)
      refine z_iload C dL_law_472 rfl ?_
      refine z_if_ne (tgt := 489) C dL_law_474 (by decide) (fun _ => ?_) (fun e9 => absurd e9 (hk))
      refine z_goto (tgt := 2161) C dL_law_489 (by decide) ?_
      exact Zs.up (by omega) (by omega) (Zs.mask [true, true, true, true, true, true, false, false, false] (kk _ (Stt.mk (loc := loc) P2 rfl I R (show tn (rM ρ) 4 ≤ n + 1 by omega))))
theorem w_version (hB : Base G) (C : Cx G X RL cL_law 9 20 603072 7211114) (S9 : Sc G X LL xs) (v1 : vp_in (i + 1) LL) (v2 : vp_in (i + 2) LL) (v3 : vp_in (i + 3) LL) (hn : n < 512) (hu : uc + 20 ≤ 603072) (hs9 : us + 4400 ≤ 7211114) (S : Stt G h x m o d9 n) (kk : Nx G X uc us n x m o d9 i) : Zs G X 9 h uc us 492 [some (.ref (gb G)), some (.ref x), some (.ref m), some (.ref o), some (.ref d9), some (.int i), none, none, none] [] := by
  obtain ⟨loc, ρ, P, I, R, h4, rfl, rfl, rfl, rfl⟩ := S
  have mm : tn (rM ρ) 4 < 512 := by omega
  refine z_aload_n C dL_law_492 rfl ?_
  refine z_rd (z_runV C kvX8_version lkL_147 kcX8 (k_version hB P) (P.x) rfl rfl (zb rfl) (zb rfl) (by omega) (by omega) dL_law_493) ?_
  refine z_aload_n C dL_law_496 rfl ?_
  refine z_rn (z_runV C kvX9_version lkL_150 kcX9 (k9_version hB P I R) (P.m) rfl rfl (zb rfl) (zb rfl) (by omega) (by omega) dL_law_497) (fun v9 h9 hv => ?_)
  rcases hv with ⟨-, -, -, P2, rfl⟩ | ⟨k2, w2, hr2, hk2, -, -⟩
  · refine z_icmp_eq (tgt := 2161) C dL_law_500 (by decide) (fun _ => ?_) (fun e9 => absurd ((rfl)) e9)
    exact Zs.up (by omega) (by omega) (Zs.mask [true, true, true, true, true, true, false, false, false] (kk _ (Stt.mk (loc := loc) P2 rfl I R (show tn (rM ρ) 4 ≤ n + 1 by omega))))
  · exact absurd (Rs.no hr2) hk2
theorem w_addDoor (hB : Base G) (C : Cx G X RL cL_law 9 20 603072 7211114) (S9 : Sc G X LL xs) (v1 : vp_in (i + 1) LL) (v2 : vp_in (i + 2) LL) (v3 : vp_in (i + 3) LL) (hn : n < 512) (hu : uc + 20 ≤ 603072) (hs9 : us + 4400 ≤ 7211114) (S : Stt G h x m o d9 n) (kk : Nx G X uc us n x m o d9 i) : Zs G X 9 h uc us 505 [some (.ref (gb G)), some (.ref x), some (.ref m), some (.ref o), some (.ref d9), some (.int i), none, none, none] [] := by
  obtain ⟨loc, ρ, P, I, R, h4, rfl, rfl, rfl, rfl⟩ := S
  have mm : tn (rM ρ) 4 < 512 := by omega
  refine z_aload_n C dL_law_505 rfl ?_
  refine z_aload_n C dL_law_506 rfl ?_
  refine z_rn (z_runW C kwL_addDoor lkL_151 (l_addDoor hB P I) rfl rfl (zb rfl) (zb rfl) (by omega) (by omega) dL_law_507) (fun v9 h9 hv => ?_)
  rcases lw_norm hv with ⟨c1, c2, c3, rfl, loc', f9, J9, Q9, hs', P', ov⟩ | ⟨k9, hr, hk, P', rfl⟩
  · rw [← hs'.a (show 0 < 7 by decide), ← hs'.a (show 4 < 7 by decide), ← hs'.a (show 5 < 7 by decide), ← hs'.a (show 6 < 7 by decide)] at kk ⊢
    refine z_istore C dL_law_510 (zb rfl) ?_
    refine z_aload_n C dL_law_512 rfl ?_
    refine z_rn (z_runV C kvX9_addDoor lkL_154 kcX9 (k9_addDoor hB P' I R) (P'.m) rfl rfl (zb rfl) (zb rfl) (by omega) (by omega) dL_law_513) (fun v9 h9 hv => ?_)
    rcases hv with ⟨-, -, -, P2, rfl⟩ | ⟨k2, w2, hr2, hk2, P2, rfl⟩
    · skip
      refine z_istore C dL_law_516 (zb rfl) ?_
      refine z_aload_n C dL_law_518 rfl ?_
      refine z_rd (z_runV C kvX9_thrown lkL_133 kcX9 (k9_thrown hB P2) (P2.m) rfl rfl (zb rfl) (zb rfl) (by omega) (by omega) dL_law_519) ?_
      refine z_iload C dL_law_522 rfl ?_
      refine z_icmp_eq (tgt := 529) C dL_law_524 (by decide) (fun _ => ?_) (fun e9 => absurd (rfl) e9)
      refine z_iload C dL_law_529 rfl ?_
      refine z_if_ne (tgt := 546) C dL_law_531 (by decide) (fun e9 => absurd e9 ((fun e => e rfl))) (fun _ => ?_)
      refine z_aload_n C dL_law_534 rfl ?_
      refine z_iconst (v := 0) C dL_law_535 (by decide) ?_
      refine z_lald C (P2.J) (in01) dL_law_536 ?_
      refine z_iload C dL_law_537 rfl ?_
      refine z_i2l C dL_law_539 ?_
      refine z_lcmp C dL_law_540 ?_
      refine z_if_eq (tgt := 546) C dL_law_541 (by decide) (fun _ => ?_) (fun e9 => absurd ((lgc ov)) e9)
      refine z_goto (tgt := 2161) C dL_law_546 (by decide) ?_
      exact Zs.up (by omega) (by omega) (Zs.mask [true, true, true, true, true, true, false, false, false] (kk _ (Stt.mk (loc := loc') P2 rfl (I.addDoor c1) (RD.same R rfl rfl rfl rfl rfl rfl rfl rfl) (Nat.le_trans (show tn _ 4 ≤ tn (rM ρ) 4 + 1 by first | exact Nat.le_refl _ | exact Nat.le_succ _) (by omega)))))
    · exact absurd (Rs.yes c1 c2 c3 hr2) hk2
  · refine z_istore C dL_law_510 (zb rfl) ?_
    refine z_aload_n C dL_law_512 rfl ?_
    refine z_rn (z_runV C kvX9_addDoor lkL_154 kcX9 (k9_addDoor hB P' I R) (P'.m) rfl rfl (zb rfl) (zb rfl) (by omega) (by omega) dL_law_513) (fun v9 h9 hv => ?_)
    rcases hv with ⟨c1, c2, c3, -, -⟩ | ⟨k2, w2, hr2, hk2, P2, rfl⟩
    · exact absurd (Rs.yes c1 c2 c3 hr) hk
    · refine z_istore C dL_law_516 (zb rfl) ?_
      refine z_aload_n C dL_law_518 rfl ?_
      refine z_rd (z_runV C kvX9_thrown lkL_133 kcX9 (k9_thrown hB P2) (P2.m) rfl rfl (zb rfl) (zb rfl) (by omega) (by omega) dL_law_519) ?_
      refine z_iload C dL_law_522 rfl ?_
      refine z_icmp_eq (tgt := 529) C dL_law_524 (by decide) (fun _ => ?_) (fun e9 => absurd ((Rs.uni hr2 hr)) e9)
      refine z_iload C dL_law_529 rfl ?_
      refine z_if_ne (tgt := 546) C dL_law_531 (by decide) (fun _ => ?_) (fun e9 => absurd e9 (hk))
      refine z_goto (tgt := 2161) C dL_law_546 (by decide) ?_
      exact Zs.up (by omega) (by omega) (Zs.mask [true, true, true, true, true, true, false, false, false] (kk _ (Stt.mk (loc := loc) P2 rfl I R (show tn (rM ρ) 4 ≤ n + 1 by omega))))
theorem w_setRate (hB : Base G) (C : Cx G X RL cL_law 9 20 603072 7211114) (S9 : Sc G X LL xs) (v1 : vp_in (i + 1) LL) (v2 : vp_in (i + 2) LL) (v3 : vp_in (i + 3) LL) (hn : n < 512) (hu : uc + 20 ≤ 603072) (hs9 : us + 4400 ≤ 7211114) (S : Stt G h x m o d9 n) (kk : Nx G X uc us n x m o d9 i) : Zs G X 9 h uc us 549 [some (.ref (gb G)), some (.ref x), some (.ref m), some (.ref o), some (.ref d9), some (.int i), none, none, none] [] := by
  obtain ⟨loc, ρ, P, I, R, h4, rfl, rfl, rfl, rfl⟩ := S
  have mm : tn (rM ρ) 4 < 512 := by omega
  refine z_aload_n C dL_law_549 rfl ?_
  refine z_aload_n C dL_law_550 rfl ?_
  refine z_iload C dL_law_551 rfl ?_
  refine z_iconst (v := 1) C dL_law_553 (by decide) ?_
  refine z_iadd C dL_law_554 ?_
  refine z_sld C S9 v1 dL_law_555 ?_
  refine z_aload_n C dL_law_556 rfl ?_
  refine z_iload C dL_law_557 rfl ?_
  refine z_iconst (v := 2) C dL_law_559 (by decide) ?_
  refine z_iadd C dL_law_560 ?_
  refine z_sld C S9 v2 dL_law_561 ?_
  refine z_aload_n C dL_law_562 rfl ?_
  refine z_rn (z_runW C kwL_setRate lkL_155 (l_setRate hB P I) rfl rfl (zb rfl) (zb rfl) (by omega) (by omega) dL_law_563) (fun v9 h9 hv => ?_)
  rcases lw_norm hv with ⟨c1, c2, c3, rfl, loc', f9, J9, Q9, hs', P', ov⟩ | ⟨k9, hr, hk, P', rfl⟩
  · rw [← hs'.a (show 0 < 7 by decide), ← hs'.a (show 4 < 7 by decide), ← hs'.a (show 5 < 7 by decide), ← hs'.a (show 6 < 7 by decide)] at kk ⊢
    refine z_istore C dL_law_566 (zb rfl) ?_
    refine z_aload_n C dL_law_568 rfl ?_
    refine z_aload_n C dL_law_569 rfl ?_
    refine z_iload C dL_law_570 rfl ?_
    refine z_iconst (v := 1) C dL_law_572 (by decide) ?_
    refine z_iadd C dL_law_573 ?_
    refine z_sld C S9 v1 dL_law_574 ?_
    refine z_aload_n C dL_law_575 rfl ?_
    refine z_iload C dL_law_576 rfl ?_
    refine z_iconst (v := 2) C dL_law_578 (by decide) ?_
    refine z_iadd C dL_law_579 ?_
    refine z_sld C S9 v2 dL_law_580 ?_
    refine z_rn (z_runV C kvX9_setRate lkL_157 kcX9 (k9_setRate hB P' I R) (P'.m) rfl rfl (zb rfl) (zb rfl) (by omega) (by omega) dL_law_581) (fun v9 h9 hv => ?_)
    rcases hv with ⟨-, -, -, P2, rfl⟩ | ⟨k2, w2, hr2, hk2, P2, rfl⟩
    · skip
      refine z_istore C dL_law_584 (zb rfl) ?_
      refine z_aload_n C dL_law_586 rfl ?_
      refine z_rd (z_runV C kvX9_thrown lkL_133 kcX9 (k9_thrown hB P2) (P2.m) rfl rfl (zb rfl) (zb rfl) (by omega) (by omega) dL_law_587) ?_
      refine z_iload C dL_law_590 rfl ?_
      refine z_icmp_eq (tgt := 597) C dL_law_592 (by decide) (fun _ => ?_) (fun e9 => absurd (rfl) e9)
      refine z_iload C dL_law_597 rfl ?_
      refine z_if_ne (tgt := 614) C dL_law_599 (by decide) (fun e9 => absurd e9 ((fun e => e rfl))) (fun _ => ?_)
      refine z_aload_n C dL_law_602 rfl ?_
      refine z_iconst (v := 0) C dL_law_603 (by decide) ?_
      refine z_lald C (P2.J) (in01) dL_law_604 ?_
      refine z_iload C dL_law_605 rfl ?_
      refine z_i2l C dL_law_607 ?_
      refine z_lcmp C dL_law_608 ?_
      refine z_if_eq (tgt := 614) C dL_law_609 (by decide) (fun _ => ?_) (fun e9 => absurd ((lgc ov)) e9)
      refine z_goto (tgt := 2161) C dL_law_614 (by decide) ?_
      exact Zs.up (by omega) (by omega) (Zs.mask [true, true, true, true, true, true, false, false, false] (kk _ (Stt.mk (loc := loc') P2 rfl (I.setRate c1 c2) (RD.same R rfl rfl rfl rfl rfl rfl rfl rfl) (Nat.le_trans (show tn _ 4 ≤ tn (rM ρ) 4 + 1 by first | exact Nat.le_refl _ | exact Nat.le_succ _) (by omega)))))
    · exact absurd (Rs.yes c1 c2 c3 hr2) hk2
  · refine z_istore C dL_law_566 (zb rfl) ?_
    refine z_aload_n C dL_law_568 rfl ?_
    refine z_aload_n C dL_law_569 rfl ?_
    refine z_iload C dL_law_570 rfl ?_
    refine z_iconst (v := 1) C dL_law_572 (by decide) ?_
    refine z_iadd C dL_law_573 ?_
    refine z_sld C S9 v1 dL_law_574 ?_
    refine z_aload_n C dL_law_575 rfl ?_
    refine z_iload C dL_law_576 rfl ?_
    refine z_iconst (v := 2) C dL_law_578 (by decide) ?_
    refine z_iadd C dL_law_579 ?_
    refine z_sld C S9 v2 dL_law_580 ?_
    refine z_rn (z_runV C kvX9_setRate lkL_157 kcX9 (k9_setRate hB P' I R) (P'.m) rfl rfl (zb rfl) (zb rfl) (by omega) (by omega) dL_law_581) (fun v9 h9 hv => ?_)
    rcases hv with ⟨c1, c2, c3, -, -⟩ | ⟨k2, w2, hr2, hk2, P2, rfl⟩
    · exact absurd (Rs.yes c1 c2 c3 hr) hk
    · refine z_istore C dL_law_584 (zb rfl) ?_
      refine z_aload_n C dL_law_586 rfl ?_
      refine z_rd (z_runV C kvX9_thrown lkL_133 kcX9 (k9_thrown hB P2) (P2.m) rfl rfl (zb rfl) (zb rfl) (by omega) (by omega) dL_law_587) ?_
      refine z_iload C dL_law_590 rfl ?_
      refine z_icmp_eq (tgt := 597) C dL_law_592 (by decide) (fun _ => ?_) (fun e9 => absurd ((Rs.uni hr2 hr)) e9)
      refine z_iload C dL_law_597 rfl ?_
      refine z_if_ne (tgt := 614) C dL_law_599 (by decide) (fun _ => ?_) (fun e9 => absurd e9 (hk))
      refine z_goto (tgt := 2161) C dL_law_614 (by decide) ?_
      exact Zs.up (by omega) (by omega) (Zs.mask [true, true, true, true, true, true, false, false, false] (kk _ (Stt.mk (loc := loc) P2 rfl I R (show tn (rM ρ) 4 ≤ n + 1 by omega))))
theorem w_addPhone (hB : Base G) (C : Cx G X RL cL_law 9 20 603072 7211114) (S9 : Sc G X LL xs) (v1 : vp_in (i + 1) LL) (v2 : vp_in (i + 2) LL) (v3 : vp_in (i + 3) LL) (hn : n < 512) (hu : uc + 20 ≤ 603072) (hs9 : us + 4400 ≤ 7211114) (S : Stt G h x m o d9 n) (kk : Nx G X uc us n x m o d9 i) : Zs G X 9 h uc us 617 [some (.ref (gb G)), some (.ref x), some (.ref m), some (.ref o), some (.ref d9), some (.int i), none, none, none] [] := by
  obtain ⟨loc, ρ, P, I, R, h4, rfl, rfl, rfl, rfl⟩ := S
  have mm : tn (rM ρ) 4 < 512 := by omega
  refine z_aload_n C dL_law_617 rfl ?_
  refine z_aload_n C dL_law_618 rfl ?_
  refine z_rn (z_runW C kwL_addPhone lkL_158 (l_addPhone hB P I) rfl rfl (zb rfl) (zb rfl) (by omega) (by omega) dL_law_619) (fun v9 h9 hv => ?_)
  rcases lw_norm hv with ⟨c1, c2, c3, rfl, loc', f9, J9, Q9, hs', P', ov⟩ | ⟨k9, hr, hk, P', rfl⟩
  · rw [← hs'.a (show 0 < 7 by decide), ← hs'.a (show 4 < 7 by decide), ← hs'.a (show 5 < 7 by decide), ← hs'.a (show 6 < 7 by decide)] at kk ⊢
    refine z_istore C dL_law_622 (zb rfl) ?_
    refine z_aload_n C dL_law_624 rfl ?_
    refine z_rn (z_runV C kvX9_addPhone lkL_160 kcX9 (k9_addPhone hB P' I R) (P'.m) rfl rfl (zb rfl) (zb rfl) (by omega) (by omega) dL_law_625) (fun v9 h9 hv => ?_)
    rcases hv with ⟨-, -, -, P2, rfl⟩ | ⟨k2, w2, hr2, hk2, P2, rfl⟩
    · skip
      refine z_istore C dL_law_628 (zb rfl) ?_
      refine z_aload_n C dL_law_630 rfl ?_
      refine z_rd (z_runV C kvX9_thrown lkL_133 kcX9 (k9_thrown hB P2) (P2.m) rfl rfl (zb rfl) (zb rfl) (by omega) (by omega) dL_law_631) ?_
      refine z_iload C dL_law_634 rfl ?_
      refine z_icmp_eq (tgt := 641) C dL_law_636 (by decide) (fun _ => ?_) (fun e9 => absurd (rfl) e9)
      refine z_iload C dL_law_641 rfl ?_
      refine z_if_ne (tgt := 658) C dL_law_643 (by decide) (fun e9 => absurd e9 ((fun e => e rfl))) (fun _ => ?_)
      refine z_aload_n C dL_law_646 rfl ?_
      refine z_iconst (v := 0) C dL_law_647 (by decide) ?_
      refine z_lald C (P2.J) (in01) dL_law_648 ?_
      refine z_iload C dL_law_649 rfl ?_
      refine z_i2l C dL_law_651 ?_
      refine z_lcmp C dL_law_652 ?_
      refine z_if_eq (tgt := 658) C dL_law_653 (by decide) (fun _ => ?_) (fun e9 => absurd ((lgc ov)) e9)
      refine z_goto (tgt := 2161) C dL_law_658 (by decide) ?_
      exact Zs.up (by omega) (by omega) (Zs.mask [true, true, true, true, true, true, false, false, false] (kk _ (Stt.mk (loc := loc') P2 rfl (I.addPhone c1) (RD.same R rfl rfl rfl rfl rfl rfl rfl rfl) (Nat.le_trans (show tn _ 4 ≤ tn (rM ρ) 4 + 1 by first | exact Nat.le_refl _ | exact Nat.le_succ _) (by omega)))))
    · exact absurd (Rs.yes c1 c2 c3 hr2) hk2
  · refine z_istore C dL_law_622 (zb rfl) ?_
    refine z_aload_n C dL_law_624 rfl ?_
    refine z_rn (z_runV C kvX9_addPhone lkL_160 kcX9 (k9_addPhone hB P' I R) (P'.m) rfl rfl (zb rfl) (zb rfl) (by omega) (by omega) dL_law_625) (fun v9 h9 hv => ?_)
    rcases hv with ⟨c1, c2, c3, -, -⟩ | ⟨k2, w2, hr2, hk2, P2, rfl⟩
    · exact absurd (Rs.yes c1 c2 c3 hr) hk
    · refine z_istore C dL_law_628 (zb rfl) ?_
      refine z_aload_n C dL_law_630 rfl ?_
      refine z_rd (z_runV C kvX9_thrown lkL_133 kcX9 (k9_thrown hB P2) (P2.m) rfl rfl (zb rfl) (zb rfl) (by omega) (by omega) dL_law_631) ?_
      refine z_iload C dL_law_634 rfl ?_
      refine z_icmp_eq (tgt := 641) C dL_law_636 (by decide) (fun _ => ?_) (fun e9 => absurd ((Rs.uni hr2 hr)) e9)
      refine z_iload C dL_law_641 rfl ?_
      refine z_if_ne (tgt := 658) C dL_law_643 (by decide) (fun _ => ?_) (fun e9 => absurd e9 (hk))
      refine z_goto (tgt := 2161) C dL_law_658 (by decide) ?_
      exact Zs.up (by omega) (by omega) (Zs.mask [true, true, true, true, true, true, false, false, false] (kk _ (Stt.mk (loc := loc) P2 rfl I R (show tn (rM ρ) 4 ≤ n + 1 by omega))))
theorem w_pass (hB : Base G) (C : Cx G X RL cL_law 9 20 603072 7211114) (S9 : Sc G X LL xs) (v1 : vp_in (i + 1) LL) (v2 : vp_in (i + 2) LL) (v3 : vp_in (i + 3) LL) (hn : n < 512) (hu : uc + 20 ≤ 603072) (hs9 : us + 4400 ≤ 7211114) (S : Stt G h x m o d9 n) (kk : Nx G X uc us n x m o d9 i) : Zs G X 9 h uc us 661 [some (.ref (gb G)), some (.ref x), some (.ref m), some (.ref o), some (.ref d9), some (.int i), none, none, none] [] := by
  obtain ⟨loc, ρ, P, I, R, h4, rfl, rfl, rfl, rfl⟩ := S
  have mm : tn (rM ρ) 4 < 512 := by omega
  refine z_aload_n C dL_law_661 rfl ?_
  refine z_aload_n C dL_law_662 rfl ?_
  refine z_iload C dL_law_663 rfl ?_
  refine z_iconst (v := 1) C dL_law_665 (by decide) ?_
  refine z_iadd C dL_law_666 ?_
  refine z_sld C S9 v1 dL_law_667 ?_
  refine z_aload_n C dL_law_668 rfl ?_
  refine z_rn (z_runW C kwL_pass lkL_161 (l_pass hB P I) rfl rfl (zb rfl) (zb rfl) (by omega) (by omega) dL_law_669) (fun v9 h9 hv => ?_)
  rcases lw_norm hv with ⟨c1, c2, c3, rfl, loc', f9, J9, Q9, hs', P', ov⟩ | ⟨k9, hr, hk, P', rfl⟩
  · rw [← hs'.a (show 0 < 7 by decide), ← hs'.a (show 4 < 7 by decide), ← hs'.a (show 5 < 7 by decide), ← hs'.a (show 6 < 7 by decide)] at kk ⊢
    refine z_istore C dL_law_672 (zb rfl) ?_
    refine z_aload_n C dL_law_674 rfl ?_
    refine z_aload_n C dL_law_675 rfl ?_
    refine z_iload C dL_law_676 rfl ?_
    refine z_iconst (v := 1) C dL_law_678 (by decide) ?_
    refine z_iadd C dL_law_679 ?_
    refine z_sld C S9 v1 dL_law_680 ?_
    refine z_rn (z_runV C kvX9_pass lkL_163 kcX9 (k9_pass hB P' I R) (P'.m) rfl rfl (zb rfl) (zb rfl) (by omega) (by omega) dL_law_681) (fun v9 h9 hv => ?_)
    rcases hv with ⟨-, -, -, P2, rfl⟩ | ⟨k2, w2, hr2, hk2, P2, rfl⟩
    · skip
      refine z_istore C dL_law_684 (zb rfl) ?_
      refine z_aload_n C dL_law_686 rfl ?_
      refine z_rd (z_runV C kvX9_thrown lkL_133 kcX9 (k9_thrown hB P2) (P2.m) rfl rfl (zb rfl) (zb rfl) (by omega) (by omega) dL_law_687) ?_
      refine z_iload C dL_law_690 rfl ?_
      refine z_icmp_eq (tgt := 697) C dL_law_692 (by decide) (fun _ => ?_) (fun e9 => absurd (rfl) e9)
      refine z_iload C dL_law_697 rfl ?_
      refine z_if_ne (tgt := 714) C dL_law_699 (by decide) (fun e9 => absurd e9 ((fun e => e rfl))) (fun _ => ?_)
      refine z_aload_n C dL_law_702 rfl ?_
      refine z_iconst (v := 0) C dL_law_703 (by decide) ?_
      refine z_lald C (P2.J) (in01) dL_law_704 ?_
      refine z_iload C dL_law_705 rfl ?_
      refine z_i2l C dL_law_707 ?_
      refine z_lcmp C dL_law_708 ?_
      refine z_if_eq (tgt := 714) C dL_law_709 (by decide) (fun _ => ?_) (fun e9 => absurd ((lgc ov)) e9)
      refine z_goto (tgt := 2161) C dL_law_714 (by decide) ?_
      exact Zs.up (by omega) (by omega) (Zs.mask [true, true, true, true, true, true, false, false, false] (kk _ (Stt.mk (loc := loc') P2 rfl (I.pass c1) (RD.same R rfl rfl rfl rfl rfl rfl rfl rfl) (Nat.le_trans (show tn _ 4 ≤ tn (rM ρ) 4 + 1 by first | exact Nat.le_refl _ | exact Nat.le_succ _) (by omega)))))
    · exact absurd (Rs.yes c1 c2 c3 hr2) hk2
  · refine z_istore C dL_law_672 (zb rfl) ?_
    refine z_aload_n C dL_law_674 rfl ?_
    refine z_aload_n C dL_law_675 rfl ?_
    refine z_iload C dL_law_676 rfl ?_
    refine z_iconst (v := 1) C dL_law_678 (by decide) ?_
    refine z_iadd C dL_law_679 ?_
    refine z_sld C S9 v1 dL_law_680 ?_
    refine z_rn (z_runV C kvX9_pass lkL_163 kcX9 (k9_pass hB P' I R) (P'.m) rfl rfl (zb rfl) (zb rfl) (by omega) (by omega) dL_law_681) (fun v9 h9 hv => ?_)
    rcases hv with ⟨c1, c2, c3, -, -⟩ | ⟨k2, w2, hr2, hk2, P2, rfl⟩
    · exact absurd (Rs.yes c1 c2 c3 hr) hk
    · refine z_istore C dL_law_684 (zb rfl) ?_
      refine z_aload_n C dL_law_686 rfl ?_
      refine z_rd (z_runV C kvX9_thrown lkL_133 kcX9 (k9_thrown hB P2) (P2.m) rfl rfl (zb rfl) (zb rfl) (by omega) (by omega) dL_law_687) ?_
      refine z_iload C dL_law_690 rfl ?_
      refine z_icmp_eq (tgt := 697) C dL_law_692 (by decide) (fun _ => ?_) (fun e9 => absurd ((Rs.uni hr2 hr)) e9)
      refine z_iload C dL_law_697 rfl ?_
      refine z_if_ne (tgt := 714) C dL_law_699 (by decide) (fun _ => ?_) (fun e9 => absurd e9 (hk))
      refine z_goto (tgt := 2161) C dL_law_714 (by decide) ?_
      exact Zs.up (by omega) (by omega) (Zs.mask [true, true, true, true, true, true, false, false, false] (kk _ (Stt.mk (loc := loc) P2 rfl I R (show tn (rM ρ) 4 ≤ n + 1 by omega))))
theorem w_time (hB : Base G) (C : Cx G X RL cL_law 9 20 603072 7211114) (S9 : Sc G X LL xs) (v1 : vp_in (i + 1) LL) (v2 : vp_in (i + 2) LL) (v3 : vp_in (i + 3) LL) (hn : n < 512) (hu : uc + 20 ≤ 603072) (hs9 : us + 4400 ≤ 7211114) (S : Stt G h x m o d9 n) (kk : Nx G X uc us n x m o d9 i) : Zs G X 9 h uc us 717 [some (.ref (gb G)), some (.ref x), some (.ref m), some (.ref o), some (.ref d9), some (.int i), none, none, none] [] := by
  obtain ⟨loc, ρ, P, I, R, h4, rfl, rfl, rfl, rfl⟩ := S
  have mm : tn (rM ρ) 4 < 512 := by omega
  refine z_aload_n C dL_law_717 rfl ?_
  refine z_rd (z_runV C kvX8_time lkL_164 kcX8 (k_time hB P) (P.x) rfl rfl (zb rfl) (zb rfl) (by omega) (by omega) dL_law_718) ?_
  refine z_aload_n C dL_law_721 rfl ?_
  refine z_rn (z_runV C kvX9_time lkL_167 kcX9 (k9_time hB P I R) (P.m) rfl rfl (zb rfl) (zb rfl) (by omega) (by omega) dL_law_722) (fun v9 h9 hv => ?_)
  rcases hv with ⟨-, -, -, P2, rfl⟩ | ⟨k2, w2, hr2, hk2, -, -⟩
  · refine z_icmp_eq (tgt := 2161) C dL_law_725 (by decide) (fun _ => ?_) (fun e9 => absurd ((rfl)) e9)
    exact Zs.up (by omega) (by omega) (Zs.mask [true, true, true, true, true, true, false, false, false] (kk _ (Stt.mk (loc := loc) P2 rfl I R (show tn (rM ρ) 4 ≤ n + 1 by omega))))
  · exact absurd (Rs.no hr2) hk2
theorem w_meetCloud (hB : Base G) (C : Cx G X RL cL_law 9 20 603072 7211114) (S9 : Sc G X LL xs) (v1 : vp_in (i + 1) LL) (v2 : vp_in (i + 2) LL) (v3 : vp_in (i + 3) LL) (hn : n < 512) (hu : uc + 20 ≤ 603072) (hs9 : us + 4400 ≤ 7211114) (S : Stt G h x m o d9 n) (kk : Nx G X uc us n x m o d9 i) : Zs G X 9 h uc us 730 [some (.ref (gb G)), some (.ref x), some (.ref m), some (.ref o), some (.ref d9), some (.int i), none, none, none] [] := by
  obtain ⟨loc, ρ, P, I, R, h4, rfl, rfl, rfl, rfl⟩ := S
  have mm : tn (rM ρ) 4 < 512 := by omega
  refine z_aload_n C dL_law_730 rfl ?_
  refine z_aload_n C dL_law_731 rfl ?_
  refine z_iload C dL_law_732 rfl ?_
  refine z_iconst (v := 1) C dL_law_734 (by decide) ?_
  refine z_iadd C dL_law_735 ?_
  refine z_sld C S9 v1 dL_law_736 ?_
  refine z_aload_n C dL_law_737 rfl ?_
  refine z_rn (z_runW C kwL_meetCloud lkL_168 (l_meetCloud hB P I mm) rfl rfl (zb rfl) (zb rfl) (by omega) (by omega) dL_law_738) (fun v9 h9 hv => ?_)
  rcases lw_norm hv with ⟨c1, c2, c3, rfl, loc', f9, J9, Q9, hs', P', ov⟩ | ⟨k9, hr, hk, P', rfl⟩
  · rw [← hs'.a (show 0 < 7 by decide), ← hs'.a (show 4 < 7 by decide), ← hs'.a (show 5 < 7 by decide), ← hs'.a (show 6 < 7 by decide)] at kk ⊢
    refine z_istore C dL_law_741 (zb rfl) ?_
    refine z_aload_n C dL_law_743 rfl ?_
    refine z_aload_n C dL_law_744 rfl ?_
    refine z_iload C dL_law_745 rfl ?_
    refine z_iconst (v := 1) C dL_law_747 (by decide) ?_
    refine z_iadd C dL_law_748 ?_
    refine z_sld C S9 v1 dL_law_749 ?_
    refine z_rn (z_runV C kvX9_meetCloud lkL_170 kcX9 (k9_meetCloud hB P' I R) (P'.m) rfl rfl (zb rfl) (zb rfl) (by omega) (by omega) dL_law_750) (fun v9 h9 hv => ?_)
    rcases hv with ⟨-, -, -, P2, rfl⟩ | ⟨k2, w2, hr2, hk2, P2, rfl⟩
    · skip
      refine z_istore C dL_law_753 (zb rfl) ?_
      refine z_aload_n C dL_law_755 rfl ?_
      refine z_rd (z_runV C kvX9_thrown lkL_133 kcX9 (k9_thrown hB P2) (P2.m) rfl rfl (zb rfl) (zb rfl) (by omega) (by omega) dL_law_756) ?_
      refine z_iload C dL_law_759 rfl ?_
      refine z_icmp_eq (tgt := 766) C dL_law_761 (by decide) (fun _ => ?_) (fun e9 => absurd (rfl) e9)
      refine z_iload C dL_law_766 rfl ?_
      refine z_if_ne (tgt := 783) C dL_law_768 (by decide) (fun e9 => absurd e9 ((fun e => e rfl))) (fun _ => ?_)
      refine z_aload_n C dL_law_771 rfl ?_
      refine z_iconst (v := 0) C dL_law_772 (by decide) ?_
      refine z_lald C (P2.J) (in01) dL_law_773 ?_
      refine z_iload C dL_law_774 rfl ?_
      refine z_i2l C dL_law_776 ?_
      refine z_lcmp C dL_law_777 ?_
      refine z_if_eq (tgt := 783) C dL_law_778 (by decide) (fun _ => ?_) (fun e9 => absurd ((lgc ov)) e9)
      refine z_goto (tgt := 2161) C dL_law_783 (by decide) ?_
      exact Zs.up (by omega) (by omega) (Zs.mask [true, true, true, true, true, true, false, false, false] (kk _ (Stt.mk (loc := loc') P2 rfl (I.meetCloud c1) (RD.same R rfl rfl rfl rfl rfl rfl rfl rfl) (Nat.le_trans (show tn _ 4 ≤ tn (rM ρ) 4 + 1 by first | exact Nat.le_refl _ | exact Nat.le_succ _) (by omega)))))
    · exact absurd (Rs.yes c1 c2 c3 hr2) hk2
  · refine z_istore C dL_law_741 (zb rfl) ?_
    refine z_aload_n C dL_law_743 rfl ?_
    refine z_aload_n C dL_law_744 rfl ?_
    refine z_iload C dL_law_745 rfl ?_
    refine z_iconst (v := 1) C dL_law_747 (by decide) ?_
    refine z_iadd C dL_law_748 ?_
    refine z_sld C S9 v1 dL_law_749 ?_
    refine z_rn (z_runV C kvX9_meetCloud lkL_170 kcX9 (k9_meetCloud hB P' I R) (P'.m) rfl rfl (zb rfl) (zb rfl) (by omega) (by omega) dL_law_750) (fun v9 h9 hv => ?_)
    rcases hv with ⟨c1, c2, c3, -, -⟩ | ⟨k2, w2, hr2, hk2, P2, rfl⟩
    · exact absurd (Rs.yes c1 c2 c3 hr) hk
    · refine z_istore C dL_law_753 (zb rfl) ?_
      refine z_aload_n C dL_law_755 rfl ?_
      refine z_rd (z_runV C kvX9_thrown lkL_133 kcX9 (k9_thrown hB P2) (P2.m) rfl rfl (zb rfl) (zb rfl) (by omega) (by omega) dL_law_756) ?_
      refine z_iload C dL_law_759 rfl ?_
      refine z_icmp_eq (tgt := 766) C dL_law_761 (by decide) (fun _ => ?_) (fun e9 => absurd ((Rs.uni hr2 hr)) e9)
      refine z_iload C dL_law_766 rfl ?_
      refine z_if_ne (tgt := 783) C dL_law_768 (by decide) (fun _ => ?_) (fun e9 => absurd e9 (hk))
      refine z_goto (tgt := 2161) C dL_law_783 (by decide) ?_
      exact Zs.up (by omega) (by omega) (Zs.mask [true, true, true, true, true, true, false, false, false] (kk _ (Stt.mk (loc := loc) P2 rfl I R (show tn (rM ρ) 4 ≤ n + 1 by omega))))
theorem w_meetDoor (hB : Base G) (C : Cx G X RL cL_law 9 20 603072 7211114) (S9 : Sc G X LL xs) (v1 : vp_in (i + 1) LL) (v2 : vp_in (i + 2) LL) (v3 : vp_in (i + 3) LL) (hn : n < 512) (hu : uc + 20 ≤ 603072) (hs9 : us + 4400 ≤ 7211114) (S : Stt G h x m o d9 n) (kk : Nx G X uc us n x m o d9 i) : Zs G X 9 h uc us 786 [some (.ref (gb G)), some (.ref x), some (.ref m), some (.ref o), some (.ref d9), some (.int i), none, none, none] [] := by
  obtain ⟨loc, ρ, P, I, R, h4, rfl, rfl, rfl, rfl⟩ := S
  have mm : tn (rM ρ) 4 < 512 := by omega
  refine z_aload_n C dL_law_786 rfl ?_
  refine z_aload_n C dL_law_787 rfl ?_
  refine z_iload C dL_law_788 rfl ?_
  refine z_iconst (v := 1) C dL_law_790 (by decide) ?_
  refine z_iadd C dL_law_791 ?_
  refine z_sld C S9 v1 dL_law_792 ?_
  refine z_aload_n C dL_law_793 rfl ?_
  refine z_iload C dL_law_794 rfl ?_
  refine z_iconst (v := 2) C dL_law_796 (by decide) ?_
  refine z_iadd C dL_law_797 ?_
  refine z_sld C S9 v2 dL_law_798 ?_
  refine z_aload_n C dL_law_799 rfl ?_
  refine z_rn (z_runW C kwL_meetDoor lkL_171 (l_meetDoor hB P I mm) rfl rfl (zb rfl) (zb rfl) (by omega) (by omega) dL_law_800) (fun v9 h9 hv => ?_)
  rcases lw_norm hv with ⟨c1, c2, c3, rfl, loc', f9, J9, Q9, hs', P', ov⟩ | ⟨k9, hr, hk, P', rfl⟩
  · rw [← hs'.a (show 0 < 7 by decide), ← hs'.a (show 4 < 7 by decide), ← hs'.a (show 5 < 7 by decide), ← hs'.a (show 6 < 7 by decide)] at kk ⊢
    refine z_istore C dL_law_803 (zb rfl) ?_
    refine z_aload_n C dL_law_805 rfl ?_
    refine z_aload_n C dL_law_806 rfl ?_
    refine z_iload C dL_law_807 rfl ?_
    refine z_iconst (v := 1) C dL_law_809 (by decide) ?_
    refine z_iadd C dL_law_810 ?_
    refine z_sld C S9 v1 dL_law_811 ?_
    refine z_aload_n C dL_law_812 rfl ?_
    refine z_iload C dL_law_813 rfl ?_
    refine z_iconst (v := 2) C dL_law_815 (by decide) ?_
    refine z_iadd C dL_law_816 ?_
    refine z_sld C S9 v2 dL_law_817 ?_
    refine z_rn (z_runV C kvX9_meetDoor lkL_173 kcX9 (k9_meetDoor hB P' I R) (P'.m) rfl rfl (zb rfl) (zb rfl) (by omega) (by omega) dL_law_818) (fun v9 h9 hv => ?_)
    rcases hv with ⟨-, -, -, P2, rfl⟩ | ⟨k2, w2, hr2, hk2, P2, rfl⟩
    · skip
      refine z_istore C dL_law_821 (zb rfl) ?_
      refine z_aload_n C dL_law_823 rfl ?_
      refine z_rd (z_runV C kvX9_thrown lkL_133 kcX9 (k9_thrown hB P2) (P2.m) rfl rfl (zb rfl) (zb rfl) (by omega) (by omega) dL_law_824) ?_
      refine z_iload C dL_law_827 rfl ?_
      refine z_icmp_eq (tgt := 834) C dL_law_829 (by decide) (fun _ => ?_) (fun e9 => absurd (rfl) e9)
      refine z_iload C dL_law_834 rfl ?_
      refine z_if_ne (tgt := 851) C dL_law_836 (by decide) (fun e9 => absurd e9 ((fun e => e rfl))) (fun _ => ?_)
      refine z_aload_n C dL_law_839 rfl ?_
      refine z_iconst (v := 0) C dL_law_840 (by decide) ?_
      refine z_lald C (P2.J) (in01) dL_law_841 ?_
      refine z_iload C dL_law_842 rfl ?_
      refine z_i2l C dL_law_844 ?_
      refine z_lcmp C dL_law_845 ?_
      refine z_if_eq (tgt := 851) C dL_law_846 (by decide) (fun _ => ?_) (fun e9 => absurd ((lgc ov)) e9)
      refine z_goto (tgt := 2161) C dL_law_851 (by decide) ?_
      exact Zs.up (by omega) (by omega) (Zs.mask [true, true, true, true, true, true, false, false, false] (kk _ (Stt.mk (loc := loc') P2 rfl (I.meetDoor c1.1 c1.2) (RD.same R rfl rfl rfl rfl rfl rfl rfl rfl) (Nat.le_trans (show tn _ 4 ≤ tn (rM ρ) 4 + 1 by first | exact Nat.le_refl _ | exact Nat.le_succ _) (by omega)))))
    · exact absurd (Rs.yes c1 c2 c3 hr2) hk2
  · refine z_istore C dL_law_803 (zb rfl) ?_
    refine z_aload_n C dL_law_805 rfl ?_
    refine z_aload_n C dL_law_806 rfl ?_
    refine z_iload C dL_law_807 rfl ?_
    refine z_iconst (v := 1) C dL_law_809 (by decide) ?_
    refine z_iadd C dL_law_810 ?_
    refine z_sld C S9 v1 dL_law_811 ?_
    refine z_aload_n C dL_law_812 rfl ?_
    refine z_iload C dL_law_813 rfl ?_
    refine z_iconst (v := 2) C dL_law_815 (by decide) ?_
    refine z_iadd C dL_law_816 ?_
    refine z_sld C S9 v2 dL_law_817 ?_
    refine z_rn (z_runV C kvX9_meetDoor lkL_173 kcX9 (k9_meetDoor hB P' I R) (P'.m) rfl rfl (zb rfl) (zb rfl) (by omega) (by omega) dL_law_818) (fun v9 h9 hv => ?_)
    rcases hv with ⟨c1, c2, c3, -, -⟩ | ⟨k2, w2, hr2, hk2, P2, rfl⟩
    · exact absurd (Rs.yes c1 c2 c3 hr) hk
    · refine z_istore C dL_law_821 (zb rfl) ?_
      refine z_aload_n C dL_law_823 rfl ?_
      refine z_rd (z_runV C kvX9_thrown lkL_133 kcX9 (k9_thrown hB P2) (P2.m) rfl rfl (zb rfl) (zb rfl) (by omega) (by omega) dL_law_824) ?_
      refine z_iload C dL_law_827 rfl ?_
      refine z_icmp_eq (tgt := 834) C dL_law_829 (by decide) (fun _ => ?_) (fun e9 => absurd ((Rs.uni hr2 hr)) e9)
      refine z_iload C dL_law_834 rfl ?_
      refine z_if_ne (tgt := 851) C dL_law_836 (by decide) (fun _ => ?_) (fun e9 => absurd e9 (hk))
      refine z_goto (tgt := 2161) C dL_law_851 (by decide) ?_
      exact Zs.up (by omega) (by omega) (Zs.mask [true, true, true, true, true, true, false, false, false] (kk _ (Stt.mk (loc := loc) P2 rfl I R (show tn (rM ρ) 4 ≤ n + 1 by omega))))
theorem w_opn (hB : Base G) (C : Cx G X RL cL_law 9 20 603072 7211114) (S9 : Sc G X LL xs) (v1 : vp_in (i + 1) LL) (v2 : vp_in (i + 2) LL) (v3 : vp_in (i + 3) LL) (hn : n < 512) (hu : uc + 20 ≤ 603072) (hs9 : us + 4400 ≤ 7211114) (S : Stt G h x m o d9 n) (kk : Nx G X uc us n x m o d9 i) : Zs G X 9 h uc us 854 [some (.ref (gb G)), some (.ref x), some (.ref m), some (.ref o), some (.ref d9), some (.int i), none, none, none] [] := by
  obtain ⟨loc, ρ, P, I, R, h4, rfl, rfl, rfl, rfl⟩ := S
  have mm : tn (rM ρ) 4 < 512 := by omega
  refine z_aload_n C dL_law_854 rfl ?_
  refine z_aload_n C dL_law_855 rfl ?_
  refine z_iload C dL_law_856 rfl ?_
  refine z_iconst (v := 1) C dL_law_858 (by decide) ?_
  refine z_iadd C dL_law_859 ?_
  refine z_sld C S9 v1 dL_law_860 ?_
  refine z_aload_n C dL_law_861 rfl ?_
  refine z_iload C dL_law_862 rfl ?_
  refine z_iconst (v := 2) C dL_law_864 (by decide) ?_
  refine z_iadd C dL_law_865 ?_
  refine z_sld C S9 v2 dL_law_866 ?_
  refine z_aload_n C dL_law_867 rfl ?_
  refine z_rn (z_runW C kwL_open lkL_174 (l_open hB P I) rfl rfl (zb rfl) (zb rfl) (by omega) (by omega) dL_law_868) (fun v9 h9 hv => ?_)
  rcases lw_norm hv with ⟨c1, c2, c3, rfl, loc', f9, J9, Q9, hs', P', ov⟩ | ⟨k9, hr, hk, P', rfl⟩
  · rw [← hs'.a (show 0 < 7 by decide), ← hs'.a (show 4 < 7 by decide), ← hs'.a (show 5 < 7 by decide), ← hs'.a (show 6 < 7 by decide)] at kk ⊢
    refine z_istore C dL_law_871 (zb rfl) ?_
    refine z_aload_n C dL_law_873 rfl ?_
    refine z_aload_n C dL_law_874 rfl ?_
    refine z_iload C dL_law_875 rfl ?_
    refine z_iconst (v := 1) C dL_law_877 (by decide) ?_
    refine z_iadd C dL_law_878 ?_
    refine z_sld C S9 v1 dL_law_879 ?_
    refine z_aload_n C dL_law_880 rfl ?_
    refine z_iload C dL_law_881 rfl ?_
    refine z_iconst (v := 2) C dL_law_883 (by decide) ?_
    refine z_iadd C dL_law_884 ?_
    refine z_sld C S9 v2 dL_law_885 ?_
    refine z_rn (z_runV C kvX9_open lkL_176 kcX9 (k9_open hB P' I R) (P'.m) rfl rfl (zb rfl) (zb rfl) (by omega) (by omega) dL_law_886) (fun v9 h9 hv => ?_)
    rcases hv with ⟨-, -, -, P2, rfl⟩ | ⟨k2, w2, hr2, hk2, P2, rfl⟩
    · skip
      refine z_istore C dL_law_889 (zb rfl) ?_
      refine z_aload_n C dL_law_891 rfl ?_
      refine z_rd (z_runV C kvX9_thrown lkL_133 kcX9 (k9_thrown hB P2) (P2.m) rfl rfl (zb rfl) (zb rfl) (by omega) (by omega) dL_law_892) ?_
      refine z_iload C dL_law_895 rfl ?_
      refine z_icmp_eq (tgt := 902) C dL_law_897 (by decide) (fun _ => ?_) (fun e9 => absurd (rfl) e9)
      refine z_iload C dL_law_902 rfl ?_
      refine z_if_ne (tgt := 919) C dL_law_904 (by decide) (fun e9 => absurd e9 ((fun e => e rfl))) (fun _ => ?_)
      refine z_aload_n C dL_law_907 rfl ?_
      refine z_iconst (v := 0) C dL_law_908 (by decide) ?_
      refine z_lald C (P2.J) (in01) dL_law_909 ?_
      refine z_iload C dL_law_910 rfl ?_
      refine z_i2l C dL_law_912 ?_
      refine z_lcmp C dL_law_913 ?_
      refine z_if_eq (tgt := 919) C dL_law_914 (by decide) (fun _ => ?_) (fun e9 => absurd ((lgc ov)) e9)
      refine z_goto (tgt := 2161) C dL_law_919 (by decide) ?_
      exact Zs.up (by omega) (by omega) (Zs.mask [true, true, true, true, true, true, false, false, false] (kk _ (Stt.mk (loc := loc') P2 rfl (I.opn c1 c2 c3) (RD.same R rfl rfl rfl rfl rfl rfl rfl rfl) (Nat.le_trans (show tn _ 4 ≤ tn (rM ρ) 4 + 1 by first | exact Nat.le_refl _ | exact Nat.le_succ _) (by omega)))))
    · exact absurd (Rs.yes c1 c2 c3 hr2) hk2
  · refine z_istore C dL_law_871 (zb rfl) ?_
    refine z_aload_n C dL_law_873 rfl ?_
    refine z_aload_n C dL_law_874 rfl ?_
    refine z_iload C dL_law_875 rfl ?_
    refine z_iconst (v := 1) C dL_law_877 (by decide) ?_
    refine z_iadd C dL_law_878 ?_
    refine z_sld C S9 v1 dL_law_879 ?_
    refine z_aload_n C dL_law_880 rfl ?_
    refine z_iload C dL_law_881 rfl ?_
    refine z_iconst (v := 2) C dL_law_883 (by decide) ?_
    refine z_iadd C dL_law_884 ?_
    refine z_sld C S9 v2 dL_law_885 ?_
    refine z_rn (z_runV C kvX9_open lkL_176 kcX9 (k9_open hB P' I R) (P'.m) rfl rfl (zb rfl) (zb rfl) (by omega) (by omega) dL_law_886) (fun v9 h9 hv => ?_)
    rcases hv with ⟨c1, c2, c3, -, -⟩ | ⟨k2, w2, hr2, hk2, P2, rfl⟩
    · exact absurd (Rs.yes c1 c2 c3 hr) hk
    · refine z_istore C dL_law_889 (zb rfl) ?_
      refine z_aload_n C dL_law_891 rfl ?_
      refine z_rd (z_runV C kvX9_thrown lkL_133 kcX9 (k9_thrown hB P2) (P2.m) rfl rfl (zb rfl) (zb rfl) (by omega) (by omega) dL_law_892) ?_
      refine z_iload C dL_law_895 rfl ?_
      refine z_icmp_eq (tgt := 902) C dL_law_897 (by decide) (fun _ => ?_) (fun e9 => absurd ((Rs.uni hr2 hr)) e9)
      refine z_iload C dL_law_902 rfl ?_
      refine z_if_ne (tgt := 919) C dL_law_904 (by decide) (fun _ => ?_) (fun e9 => absurd e9 (hk))
      refine z_goto (tgt := 2161) C dL_law_919 (by decide) ?_
      exact Zs.up (by omega) (by omega) (Zs.mask [true, true, true, true, true, true, false, false, false] (kk _ (Stt.mk (loc := loc) P2 rfl I R (show tn (rM ρ) 4 ≤ n + 1 by omega))))
theorem w_answer (hB : Base G) (C : Cx G X RL cL_law 9 20 603072 7211114) (S9 : Sc G X LL xs) (v1 : vp_in (i + 1) LL) (v2 : vp_in (i + 2) LL) (v3 : vp_in (i + 3) LL) (hn : n < 512) (hu : uc + 20 ≤ 603072) (hs9 : us + 4400 ≤ 7211114) (S : Stt G h x m o d9 n) (kk : Nx G X uc us n x m o d9 i) : Zs G X 9 h uc us 922 [some (.ref (gb G)), some (.ref x), some (.ref m), some (.ref o), some (.ref d9), some (.int i), none, none, none] [] := by
  obtain ⟨loc, ρ, P, I, R, h4, rfl, rfl, rfl, rfl⟩ := S
  have mm : tn (rM ρ) 4 < 512 := by omega
  refine z_aload_n C dL_law_922 rfl ?_
  refine z_aload_n C dL_law_923 rfl ?_
  refine z_iload C dL_law_924 rfl ?_
  refine z_iconst (v := 1) C dL_law_926 (by decide) ?_
  refine z_iadd C dL_law_927 ?_
  refine z_sld C S9 v1 dL_law_928 ?_
  refine z_aload_n C dL_law_929 rfl ?_
  refine z_iload C dL_law_930 rfl ?_
  refine z_iconst (v := 2) C dL_law_932 (by decide) ?_
  refine z_iadd C dL_law_933 ?_
  refine z_sld C S9 v2 dL_law_934 ?_
  refine z_aload_n C dL_law_935 rfl ?_
  refine z_rn (z_runW C kwL_answer lkL_177 (l_answer hB P I) rfl rfl (zb rfl) (zb rfl) (by omega) (by omega) dL_law_936) (fun v9 h9 hv => ?_)
  rcases lw_norm hv with ⟨c1, c2, c3, rfl, loc', f9, J9, Q9, hs', P', ov⟩ | ⟨k9, hr, hk, P', rfl⟩
  · rw [← hs'.a (show 0 < 7 by decide), ← hs'.a (show 4 < 7 by decide), ← hs'.a (show 5 < 7 by decide), ← hs'.a (show 6 < 7 by decide)] at kk ⊢
    refine z_istore C dL_law_939 (zb rfl) ?_
    refine z_aload_n C dL_law_941 rfl ?_
    refine z_aload_n C dL_law_942 rfl ?_
    refine z_iload C dL_law_943 rfl ?_
    refine z_iconst (v := 1) C dL_law_945 (by decide) ?_
    refine z_iadd C dL_law_946 ?_
    refine z_sld C S9 v1 dL_law_947 ?_
    refine z_aload_n C dL_law_948 rfl ?_
    refine z_iload C dL_law_949 rfl ?_
    refine z_iconst (v := 2) C dL_law_951 (by decide) ?_
    refine z_iadd C dL_law_952 ?_
    refine z_sld C S9 v2 dL_law_953 ?_
    refine z_rn (z_runV C kvX9_answer lkL_179 kcX9 (k9_answer hB P' I R) (P'.m) rfl rfl (zb rfl) (zb rfl) (by omega) (by omega) dL_law_954) (fun v9 h9 hv => ?_)
    rcases hv with ⟨-, -, -, P2, rfl⟩ | ⟨k2, w2, hr2, hk2, P2, rfl⟩
    · skip
      refine z_istore C dL_law_957 (zb rfl) ?_
      refine z_aload_n C dL_law_959 rfl ?_
      refine z_rd (z_runV C kvX9_thrown lkL_133 kcX9 (k9_thrown hB P2) (P2.m) rfl rfl (zb rfl) (zb rfl) (by omega) (by omega) dL_law_960) ?_
      refine z_iload C dL_law_963 rfl ?_
      refine z_icmp_eq (tgt := 970) C dL_law_965 (by decide) (fun _ => ?_) (fun e9 => absurd (rfl) e9)
      refine z_iload C dL_law_970 rfl ?_
      refine z_if_ne (tgt := 987) C dL_law_972 (by decide) (fun e9 => absurd e9 ((fun e => e rfl))) (fun _ => ?_)
      refine z_aload_n C dL_law_975 rfl ?_
      refine z_iconst (v := 0) C dL_law_976 (by decide) ?_
      refine z_lald C (P2.J) (in01) dL_law_977 ?_
      refine z_iload C dL_law_978 rfl ?_
      refine z_i2l C dL_law_980 ?_
      refine z_lcmp C dL_law_981 ?_
      refine z_if_eq (tgt := 987) C dL_law_982 (by decide) (fun _ => ?_) (fun e9 => absurd ((lgc ov)) e9)
      refine z_goto (tgt := 2161) C dL_law_987 (by decide) ?_
      exact Zs.up (by omega) (by omega) (Zs.mask [true, true, true, true, true, true, false, false, false] (kk _ (Stt.mk (loc := loc') P2 rfl I R (show tn (rM ρ) 4 ≤ n + 1 by omega))))
    · exact absurd (Rs.yes c1 c2 c3 hr2) hk2
  · refine z_istore C dL_law_939 (zb rfl) ?_
    refine z_aload_n C dL_law_941 rfl ?_
    refine z_aload_n C dL_law_942 rfl ?_
    refine z_iload C dL_law_943 rfl ?_
    refine z_iconst (v := 1) C dL_law_945 (by decide) ?_
    refine z_iadd C dL_law_946 ?_
    refine z_sld C S9 v1 dL_law_947 ?_
    refine z_aload_n C dL_law_948 rfl ?_
    refine z_iload C dL_law_949 rfl ?_
    refine z_iconst (v := 2) C dL_law_951 (by decide) ?_
    refine z_iadd C dL_law_952 ?_
    refine z_sld C S9 v2 dL_law_953 ?_
    refine z_rn (z_runV C kvX9_answer lkL_179 kcX9 (k9_answer hB P' I R) (P'.m) rfl rfl (zb rfl) (zb rfl) (by omega) (by omega) dL_law_954) (fun v9 h9 hv => ?_)
    rcases hv with ⟨c1, c2, c3, -, -⟩ | ⟨k2, w2, hr2, hk2, P2, rfl⟩
    · exact absurd (Rs.yes c1 c2 c3 hr) hk
    · refine z_istore C dL_law_957 (zb rfl) ?_
      refine z_aload_n C dL_law_959 rfl ?_
      refine z_rd (z_runV C kvX9_thrown lkL_133 kcX9 (k9_thrown hB P2) (P2.m) rfl rfl (zb rfl) (zb rfl) (by omega) (by omega) dL_law_960) ?_
      refine z_iload C dL_law_963 rfl ?_
      refine z_icmp_eq (tgt := 970) C dL_law_965 (by decide) (fun _ => ?_) (fun e9 => absurd ((Rs.uni hr2 hr)) e9)
      refine z_iload C dL_law_970 rfl ?_
      refine z_if_ne (tgt := 987) C dL_law_972 (by decide) (fun _ => ?_) (fun e9 => absurd e9 (hk))
      refine z_goto (tgt := 2161) C dL_law_987 (by decide) ?_
      exact Zs.up (by omega) (by omega) (Zs.mask [true, true, true, true, true, true, false, false, false] (kk _ (Stt.mk (loc := loc) P2 rfl I R (show tn (rM ρ) 4 ≤ n + 1 by omega))))
theorem w_clock (hB : Base G) (C : Cx G X RL cL_law 9 20 603072 7211114) (S9 : Sc G X LL xs) (v1 : vp_in (i + 1) LL) (v2 : vp_in (i + 2) LL) (v3 : vp_in (i + 3) LL) (hn : n < 512) (hu : uc + 20 ≤ 603072) (hs9 : us + 4400 ≤ 7211114) (S : Stt G h x m o d9 n) (kk : Nx G X uc us n x m o d9 i) : Zs G X 9 h uc us 990 [some (.ref (gb G)), some (.ref x), some (.ref m), some (.ref o), some (.ref d9), some (.int i), none, none, none] [] := by
  obtain ⟨loc, ρ, P, I, R, h4, rfl, rfl, rfl, rfl⟩ := S
  have mm : tn (rM ρ) 4 < 512 := by omega
  refine z_aload_n C dL_law_990 rfl ?_
  refine z_aload_n C dL_law_991 rfl ?_
  refine z_iload C dL_law_992 rfl ?_
  refine z_iconst (v := 1) C dL_law_994 (by decide) ?_
  refine z_iadd C dL_law_995 ?_
  refine z_sld C S9 v1 dL_law_996 ?_
  refine z_aload_n C dL_law_997 rfl ?_
  refine z_rn (z_runW C kwL_clock lkL_180 (l_clock hB P I) rfl rfl (zb rfl) (zb rfl) (by omega) (by omega) dL_law_998) (fun v9 h9 hv => ?_)
  rcases lw_norm hv with ⟨c1, c2, c3, rfl, loc', f9, J9, Q9, hs', P', ov⟩ | ⟨k9, hr, hk, P', rfl⟩
  · rw [← hs'.a (show 0 < 7 by decide), ← hs'.a (show 4 < 7 by decide), ← hs'.a (show 5 < 7 by decide), ← hs'.a (show 6 < 7 by decide)] at kk ⊢
    refine z_istore C dL_law_1001 (zb rfl) ?_
    refine z_aload_n C dL_law_1003 rfl ?_
    refine z_aload_n C dL_law_1004 rfl ?_
    refine z_iload C dL_law_1005 rfl ?_
    refine z_iconst (v := 1) C dL_law_1007 (by decide) ?_
    refine z_iadd C dL_law_1008 ?_
    refine z_sld C S9 v1 dL_law_1009 ?_
    refine z_rn (z_runV C kvX9_clock lkL_182 kcX9 (k9_clock hB P' I R) (P'.m) rfl rfl (zb rfl) (zb rfl) (by omega) (by omega) dL_law_1010) (fun v9 h9 hv => ?_)
    rcases hv with ⟨-, -, -, P2, rfl⟩ | ⟨k2, w2, hr2, hk2, P2, rfl⟩
    · skip
      refine z_istore C dL_law_1013 (zb rfl) ?_
      refine z_aload_n C dL_law_1015 rfl ?_
      refine z_rd (z_runV C kvX9_thrown lkL_133 kcX9 (k9_thrown hB P2) (P2.m) rfl rfl (zb rfl) (zb rfl) (by omega) (by omega) dL_law_1016) ?_
      refine z_iload C dL_law_1019 rfl ?_
      refine z_icmp_eq (tgt := 1026) C dL_law_1021 (by decide) (fun _ => ?_) (fun e9 => absurd (rfl) e9)
      refine z_iload C dL_law_1026 rfl ?_
      refine z_if_ne (tgt := 1043) C dL_law_1028 (by decide) (fun e9 => absurd e9 ((fun e => e rfl))) (fun _ => ?_)
      refine z_aload_n C dL_law_1031 rfl ?_
      refine z_iconst (v := 0) C dL_law_1032 (by decide) ?_
      refine z_lald C (P2.J) (in01) dL_law_1033 ?_
      refine z_iload C dL_law_1034 rfl ?_
      refine z_i2l C dL_law_1036 ?_
      refine z_lcmp C dL_law_1037 ?_
      refine z_if_eq (tgt := 1043) C dL_law_1038 (by decide) (fun _ => ?_) (fun e9 => absurd ((lgc ov)) e9)
      refine z_goto (tgt := 2161) C dL_law_1043 (by decide) ?_
      exact Zs.up (by omega) (by omega) (Zs.mask [true, true, true, true, true, true, false, false, false] (kk _ (Stt.mk (loc := loc') P2 rfl I R (show tn (rM ρ) 4 ≤ n + 1 by omega))))
    · exact absurd (Rs.yes c1 c2 c3 hr2) hk2
  · refine z_istore C dL_law_1001 (zb rfl) ?_
    refine z_aload_n C dL_law_1003 rfl ?_
    refine z_aload_n C dL_law_1004 rfl ?_
    refine z_iload C dL_law_1005 rfl ?_
    refine z_iconst (v := 1) C dL_law_1007 (by decide) ?_
    refine z_iadd C dL_law_1008 ?_
    refine z_sld C S9 v1 dL_law_1009 ?_
    refine z_rn (z_runV C kvX9_clock lkL_182 kcX9 (k9_clock hB P' I R) (P'.m) rfl rfl (zb rfl) (zb rfl) (by omega) (by omega) dL_law_1010) (fun v9 h9 hv => ?_)
    rcases hv with ⟨c1, c2, c3, -, -⟩ | ⟨k2, w2, hr2, hk2, P2, rfl⟩
    · exact absurd (Rs.yes c1 c2 c3 hr) hk
    · refine z_istore C dL_law_1013 (zb rfl) ?_
      refine z_aload_n C dL_law_1015 rfl ?_
      refine z_rd (z_runV C kvX9_thrown lkL_133 kcX9 (k9_thrown hB P2) (P2.m) rfl rfl (zb rfl) (zb rfl) (by omega) (by omega) dL_law_1016) ?_
      refine z_iload C dL_law_1019 rfl ?_
      refine z_icmp_eq (tgt := 1026) C dL_law_1021 (by decide) (fun _ => ?_) (fun e9 => absurd ((Rs.uni hr2 hr)) e9)
      refine z_iload C dL_law_1026 rfl ?_
      refine z_if_ne (tgt := 1043) C dL_law_1028 (by decide) (fun _ => ?_) (fun e9 => absurd e9 (hk))
      refine z_goto (tgt := 2161) C dL_law_1043 (by decide) ?_
      exact Zs.up (by omega) (by omega) (Zs.mask [true, true, true, true, true, true, false, false, false] (kk _ (Stt.mk (loc := loc) P2 rfl I R (show tn (rM ρ) 4 ≤ n + 1 by omega))))
theorem w_drifted (hB : Base G) (C : Cx G X RL cL_law 9 20 603072 7211114) (S9 : Sc G X LL xs) (v1 : vp_in (i + 1) LL) (v2 : vp_in (i + 2) LL) (v3 : vp_in (i + 3) LL) (hn : n < 512) (hu : uc + 20 ≤ 603072) (hs9 : us + 4400 ≤ 7211114) (S : Stt G h x m o d9 n) (kk : Nx G X uc us n x m o d9 i) : Zs G X 9 h uc us 1046 [some (.ref (gb G)), some (.ref x), some (.ref m), some (.ref o), some (.ref d9), some (.int i), none, none, none] [] := by
  obtain ⟨loc, ρ, P, I, R, h4, rfl, rfl, rfl, rfl⟩ := S
  have mm : tn (rM ρ) 4 < 512 := by omega
  refine z_aload_n C dL_law_1046 rfl ?_
  refine z_aload_n C dL_law_1047 rfl ?_
  refine z_iload C dL_law_1048 rfl ?_
  refine z_iconst (v := 1) C dL_law_1050 (by decide) ?_
  refine z_iadd C dL_law_1051 ?_
  refine z_sld C S9 v1 dL_law_1052 ?_
  refine z_aload C dL_law_1053 rfl ?_
  refine z_rn (z_runW C kwL_drifted lkL_183 (l_drifted hB P I) rfl rfl (zb rfl) (zb rfl) (by omega) (by omega) dL_law_1055) (fun v9 h9 hv => ?_)
  rcases lw_norm hv with ⟨c1, c2, c3, rfl, loc', f9, J9, Q9, hs', P', ov⟩ | ⟨k9, hr, hk, P', rfl⟩
  · rw [← hs'.a (show 0 < 7 by decide), ← hs'.a (show 4 < 7 by decide), ← hs'.a (show 5 < 7 by decide), ← hs'.a (show 6 < 7 by decide)] at kk ⊢
    refine z_istore C dL_law_1058 (zb rfl) ?_
    refine z_aload_n C dL_law_1060 rfl ?_
    refine z_aload_n C dL_law_1061 rfl ?_
    refine z_iload C dL_law_1062 rfl ?_
    refine z_iconst (v := 1) C dL_law_1064 (by decide) ?_
    refine z_iadd C dL_law_1065 ?_
    refine z_sld C S9 v1 dL_law_1066 ?_
    refine z_rn (z_runV C kvX9_drifted lkL_186 kcX9 (k9_drifted hB P' I R) (P'.m) rfl rfl (zb rfl) (zb rfl) (by omega) (by omega) dL_law_1067) (fun v9 h9 hv => ?_)
    rcases hv with ⟨-, -, -, P2, rfl⟩ | ⟨k2, w2, hr2, hk2, P2, rfl⟩
    · have hF := (I.dr (c1.ix (by have := I.N.1; omega)).1).2.2.2
      refine z_fstore C dL_law_1070 (zb rfl) ?_
      refine z_aload_n C dL_law_1072 rfl ?_
      refine z_rd (z_runV C kvX9_thrown lkL_133 kcX9 (k9_thrown hB P2) (P2.m) rfl rfl (zb rfl) (zb rfl) (by omega) (by omega) dL_law_1073) ?_
      refine z_iload C dL_law_1076 rfl ?_
      refine z_icmp_eq (tgt := 1083) C dL_law_1078 (by decide) (fun _ => ?_) (fun e9 => absurd (rfl) e9)
      refine z_iload C dL_law_1083 rfl ?_
      refine z_if_ne (tgt := 1121) C dL_law_1085 (by decide) (fun e9 => absurd e9 ((fun e => e rfl))) (fun _ => ?_)
      refine z_aload C dL_law_1088 rfl ?_
      refine z_iconst (v := 0) C dL_law_1090 (by decide) ?_
      refine z_dald C (P2.Q) (in01) dL_law_1091 ?_
      refine z_fload C dL_law_1092 rfl ?_
      refine z_f2d C dL_law_1094 ((okF_f2d hF).1) ?_
      refine z_dcmp C dL_law_1095 ?_
      refine z_if_eq (tgt := 1121) C dL_law_1096 (by decide) (fun _ => ?_) (fun e9 => absurd ((cmpv ov (okF_f2d hF).2)) e9)
      refine z_goto (tgt := 2161) C dL_law_1121 (by decide) ?_
      exact Zs.up (by omega) (by omega) (Zs.mask [true, true, true, true, true, true, false, false, false] (kk _ (Stt.mk (loc := loc') P2 rfl I R (show tn (rM ρ) 4 ≤ n + 1 by omega))))
    · exact absurd (Rs.yes c1 c2 c3 hr2) hk2
  · refine z_istore C dL_law_1058 (zb rfl) ?_
    refine z_aload_n C dL_law_1060 rfl ?_
    refine z_aload_n C dL_law_1061 rfl ?_
    refine z_iload C dL_law_1062 rfl ?_
    refine z_iconst (v := 1) C dL_law_1064 (by decide) ?_
    refine z_iadd C dL_law_1065 ?_
    refine z_sld C S9 v1 dL_law_1066 ?_
    refine z_rn (z_runV C kvX9_drifted lkL_186 kcX9 (k9_drifted hB P' I R) (P'.m) rfl rfl (zb rfl) (zb rfl) (by omega) (by omega) dL_law_1067) (fun v9 h9 hv => ?_)
    rcases hv with ⟨c1, c2, c3, -, -⟩ | ⟨k2, w2, hr2, hk2, P2, rfl⟩
    · exact absurd (Rs.yes c1 c2 c3 hr) hk
    · refine z_fstore C dL_law_1070 (zb rfl) ?_
      refine z_aload_n C dL_law_1072 rfl ?_
      refine z_rd (z_runV C kvX9_thrown lkL_133 kcX9 (k9_thrown hB P2) (P2.m) rfl rfl (zb rfl) (zb rfl) (by omega) (by omega) dL_law_1073) ?_
      refine z_iload C dL_law_1076 rfl ?_
      refine z_icmp_eq (tgt := 1083) C dL_law_1078 (by decide) (fun _ => ?_) (fun e9 => absurd ((Rs.uni hr2 hr)) e9)
      refine z_iload C dL_law_1083 rfl ?_
      refine z_if_ne (tgt := 1121) C dL_law_1085 (by decide) (fun _ => ?_) (fun e9 => absurd e9 (hk))
      refine z_goto (tgt := 2161) C dL_law_1121 (by decide) ?_
      exact Zs.up (by omega) (by omega) (Zs.mask [true, true, true, true, true, true, false, false, false] (kk _ (Stt.mk (loc := loc) P2 rfl I R (show tn (rM ρ) 4 ≤ n + 1 by omega))))
theorem w_driftedBits (hB : Base G) (C : Cx G X RL cL_law 9 20 603072 7211114) (S9 : Sc G X LL xs) (v1 : vp_in (i + 1) LL) (v2 : vp_in (i + 2) LL) (v3 : vp_in (i + 3) LL) (hn : n < 512) (hu : uc + 20 ≤ 603072) (hs9 : us + 4400 ≤ 7211114) (S : Stt G h x m o d9 n) (kk : Nx G X uc us n x m o d9 i) : Zs G X 9 h uc us 1124 [some (.ref (gb G)), some (.ref x), some (.ref m), some (.ref o), some (.ref d9), some (.int i), none, none, none] [] := by
  obtain ⟨loc, ρ, P, I, R, h4, rfl, rfl, rfl, rfl⟩ := S
  have mm : tn (rM ρ) 4 < 512 := by omega
  refine z_aload_n C dL_law_1124 rfl ?_
  refine z_aload_n C dL_law_1125 rfl ?_
  refine z_iload C dL_law_1126 rfl ?_
  refine z_iconst (v := 1) C dL_law_1128 (by decide) ?_
  refine z_iadd C dL_law_1129 ?_
  refine z_sld C S9 v1 dL_law_1130 ?_
  refine z_aload_n C dL_law_1131 rfl ?_
  refine z_rn (z_runW C kwL_driftedBits lkL_187 (l_driftedBits hB P I) rfl rfl (zb rfl) (zb rfl) (by omega) (by omega) dL_law_1132) (fun v9 h9 hv => ?_)
  rcases lw_norm hv with ⟨c1, c2, c3, rfl, loc', f9, J9, Q9, hs', P', ov⟩ | ⟨k9, hr, hk, P', rfl⟩
  · rw [← hs'.a (show 0 < 7 by decide), ← hs'.a (show 4 < 7 by decide), ← hs'.a (show 5 < 7 by decide), ← hs'.a (show 6 < 7 by decide)] at kk ⊢
    refine z_istore C dL_law_1135 (zb rfl) ?_
    refine z_aload_n C dL_law_1137 rfl ?_
    refine z_aload_n C dL_law_1138 rfl ?_
    refine z_iload C dL_law_1139 rfl ?_
    refine z_iconst (v := 1) C dL_law_1141 (by decide) ?_
    refine z_iadd C dL_law_1142 ?_
    refine z_sld C S9 v1 dL_law_1143 ?_
    refine z_rn (z_runV C kvX9_driftedBits lkL_189 kcX9 (k9_driftedBits hB P' I R) (P'.m) rfl rfl (zb rfl) (zb rfl) (by omega) (by omega) dL_law_1144) (fun v9 h9 hv => ?_)
    rcases hv with ⟨-, -, -, P2, rfl⟩ | ⟨k2, w2, hr2, hk2, P2, rfl⟩
    · skip
      refine z_istore C dL_law_1147 (zb rfl) ?_
      refine z_aload_n C dL_law_1149 rfl ?_
      refine z_rd (z_runV C kvX9_thrown lkL_133 kcX9 (k9_thrown hB P2) (P2.m) rfl rfl (zb rfl) (zb rfl) (by omega) (by omega) dL_law_1150) ?_
      refine z_iload C dL_law_1153 rfl ?_
      refine z_icmp_eq (tgt := 1160) C dL_law_1155 (by decide) (fun _ => ?_) (fun e9 => absurd (rfl) e9)
      refine z_iload C dL_law_1160 rfl ?_
      refine z_if_ne (tgt := 1177) C dL_law_1162 (by decide) (fun e9 => absurd e9 ((fun e => e rfl))) (fun _ => ?_)
      refine z_aload_n C dL_law_1165 rfl ?_
      refine z_iconst (v := 0) C dL_law_1166 (by decide) ?_
      refine z_lald C (P2.J) (in01) dL_law_1167 ?_
      refine z_iload C dL_law_1168 rfl ?_
      refine z_i2l C dL_law_1170 ?_
      refine z_lcmp C dL_law_1171 ?_
      refine z_if_eq (tgt := 1177) C dL_law_1172 (by decide) (fun _ => ?_) (fun e9 => absurd ((lgc ov)) e9)
      refine z_goto (tgt := 2161) C dL_law_1177 (by decide) ?_
      exact Zs.up (by omega) (by omega) (Zs.mask [true, true, true, true, true, true, false, false, false] (kk _ (Stt.mk (loc := loc') P2 rfl I R (show tn (rM ρ) 4 ≤ n + 1 by omega))))
    · exact absurd (Rs.yes c1 c2 c3 hr2) hk2
  · refine z_istore C dL_law_1135 (zb rfl) ?_
    refine z_aload_n C dL_law_1137 rfl ?_
    refine z_aload_n C dL_law_1138 rfl ?_
    refine z_iload C dL_law_1139 rfl ?_
    refine z_iconst (v := 1) C dL_law_1141 (by decide) ?_
    refine z_iadd C dL_law_1142 ?_
    refine z_sld C S9 v1 dL_law_1143 ?_
    refine z_rn (z_runV C kvX9_driftedBits lkL_189 kcX9 (k9_driftedBits hB P' I R) (P'.m) rfl rfl (zb rfl) (zb rfl) (by omega) (by omega) dL_law_1144) (fun v9 h9 hv => ?_)
    rcases hv with ⟨c1, c2, c3, -, -⟩ | ⟨k2, w2, hr2, hk2, P2, rfl⟩
    · exact absurd (Rs.yes c1 c2 c3 hr) hk
    · refine z_istore C dL_law_1147 (zb rfl) ?_
      refine z_aload_n C dL_law_1149 rfl ?_
      refine z_rd (z_runV C kvX9_thrown lkL_133 kcX9 (k9_thrown hB P2) (P2.m) rfl rfl (zb rfl) (zb rfl) (by omega) (by omega) dL_law_1150) ?_
      refine z_iload C dL_law_1153 rfl ?_
      refine z_icmp_eq (tgt := 1160) C dL_law_1155 (by decide) (fun _ => ?_) (fun e9 => absurd ((Rs.uni hr2 hr)) e9)
      refine z_iload C dL_law_1160 rfl ?_
      refine z_if_ne (tgt := 1177) C dL_law_1162 (by decide) (fun _ => ?_) (fun e9 => absurd e9 (hk))
      refine z_goto (tgt := 2161) C dL_law_1177 (by decide) ?_
      exact Zs.up (by omega) (by omega) (Zs.mask [true, true, true, true, true, true, false, false, false] (kk _ (Stt.mk (loc := loc) P2 rfl I R (show tn (rM ρ) 4 ≤ n + 1 by omega))))
theorem w_versionOf (hB : Base G) (C : Cx G X RL cL_law 9 20 603072 7211114) (S9 : Sc G X LL xs) (v1 : vp_in (i + 1) LL) (v2 : vp_in (i + 2) LL) (v3 : vp_in (i + 3) LL) (hn : n < 512) (hu : uc + 20 ≤ 603072) (hs9 : us + 4400 ≤ 7211114) (S : Stt G h x m o d9 n) (kk : Nx G X uc us n x m o d9 i) : Zs G X 9 h uc us 1180 [some (.ref (gb G)), some (.ref x), some (.ref m), some (.ref o), some (.ref d9), some (.int i), none, none, none] [] := by
  obtain ⟨loc, ρ, P, I, R, h4, rfl, rfl, rfl, rfl⟩ := S
  have mm : tn (rM ρ) 4 < 512 := by omega
  refine z_aload_n C dL_law_1180 rfl ?_
  refine z_aload_n C dL_law_1181 rfl ?_
  refine z_iload C dL_law_1182 rfl ?_
  refine z_iconst (v := 1) C dL_law_1184 (by decide) ?_
  refine z_iadd C dL_law_1185 ?_
  refine z_sld C S9 v1 dL_law_1186 ?_
  refine z_aload_n C dL_law_1187 rfl ?_
  refine z_rn (z_runW C kwL_versionOf lkL_190 (l_versionOf hB P I) rfl rfl (zb rfl) (zb rfl) (by omega) (by omega) dL_law_1188) (fun v9 h9 hv => ?_)
  rcases lw_norm hv with ⟨c1, c2, c3, rfl, loc', f9, J9, Q9, hs', P', ov⟩ | ⟨k9, hr, hk, P', rfl⟩
  · rw [← hs'.a (show 0 < 7 by decide), ← hs'.a (show 4 < 7 by decide), ← hs'.a (show 5 < 7 by decide), ← hs'.a (show 6 < 7 by decide)] at kk ⊢
    refine z_istore C dL_law_1191 (zb rfl) ?_
    refine z_aload_n C dL_law_1193 rfl ?_
    refine z_aload_n C dL_law_1194 rfl ?_
    refine z_iload C dL_law_1195 rfl ?_
    refine z_iconst (v := 1) C dL_law_1197 (by decide) ?_
    refine z_iadd C dL_law_1198 ?_
    refine z_sld C S9 v1 dL_law_1199 ?_
    refine z_rn (z_runV C kvX9_versionOf lkL_192 kcX9 (k9_versionOf hB P' I R) (P'.m) rfl rfl (zb rfl) (zb rfl) (by omega) (by omega) dL_law_1200) (fun v9 h9 hv => ?_)
    rcases hv with ⟨-, -, -, P2, rfl⟩ | ⟨k2, w2, hr2, hk2, P2, rfl⟩
    · skip
      refine z_istore C dL_law_1203 (zb rfl) ?_
      refine z_aload_n C dL_law_1205 rfl ?_
      refine z_rd (z_runV C kvX9_thrown lkL_133 kcX9 (k9_thrown hB P2) (P2.m) rfl rfl (zb rfl) (zb rfl) (by omega) (by omega) dL_law_1206) ?_
      refine z_iload C dL_law_1209 rfl ?_
      refine z_icmp_eq (tgt := 1216) C dL_law_1211 (by decide) (fun _ => ?_) (fun e9 => absurd (rfl) e9)
      refine z_iload C dL_law_1216 rfl ?_
      refine z_if_ne (tgt := 1233) C dL_law_1218 (by decide) (fun e9 => absurd e9 ((fun e => e rfl))) (fun _ => ?_)
      refine z_aload_n C dL_law_1221 rfl ?_
      refine z_iconst (v := 0) C dL_law_1222 (by decide) ?_
      refine z_lald C (P2.J) (in01) dL_law_1223 ?_
      refine z_iload C dL_law_1224 rfl ?_
      refine z_i2l C dL_law_1226 ?_
      refine z_lcmp C dL_law_1227 ?_
      refine z_if_eq (tgt := 1233) C dL_law_1228 (by decide) (fun _ => ?_) (fun e9 => absurd ((lgc ov)) e9)
      refine z_goto (tgt := 2161) C dL_law_1233 (by decide) ?_
      exact Zs.up (by omega) (by omega) (Zs.mask [true, true, true, true, true, true, false, false, false] (kk _ (Stt.mk (loc := loc') P2 rfl I R (show tn (rM ρ) 4 ≤ n + 1 by omega))))
    · exact absurd (Rs.yes c1 c2 c3 hr2) hk2
  · refine z_istore C dL_law_1191 (zb rfl) ?_
    refine z_aload_n C dL_law_1193 rfl ?_
    refine z_aload_n C dL_law_1194 rfl ?_
    refine z_iload C dL_law_1195 rfl ?_
    refine z_iconst (v := 1) C dL_law_1197 (by decide) ?_
    refine z_iadd C dL_law_1198 ?_
    refine z_sld C S9 v1 dL_law_1199 ?_
    refine z_rn (z_runV C kvX9_versionOf lkL_192 kcX9 (k9_versionOf hB P' I R) (P'.m) rfl rfl (zb rfl) (zb rfl) (by omega) (by omega) dL_law_1200) (fun v9 h9 hv => ?_)
    rcases hv with ⟨c1, c2, c3, -, -⟩ | ⟨k2, w2, hr2, hk2, P2, rfl⟩
    · exact absurd (Rs.yes c1 c2 c3 hr) hk
    · refine z_istore C dL_law_1203 (zb rfl) ?_
      refine z_aload_n C dL_law_1205 rfl ?_
      refine z_rd (z_runV C kvX9_thrown lkL_133 kcX9 (k9_thrown hB P2) (P2.m) rfl rfl (zb rfl) (zb rfl) (by omega) (by omega) dL_law_1206) ?_
      refine z_iload C dL_law_1209 rfl ?_
      refine z_icmp_eq (tgt := 1216) C dL_law_1211 (by decide) (fun _ => ?_) (fun e9 => absurd ((Rs.uni hr2 hr)) e9)
      refine z_iload C dL_law_1216 rfl ?_
      refine z_if_ne (tgt := 1233) C dL_law_1218 (by decide) (fun _ => ?_) (fun e9 => absurd e9 (hk))
      refine z_goto (tgt := 2161) C dL_law_1233 (by decide) ?_
      exact Zs.up (by omega) (by omega) (Zs.mask [true, true, true, true, true, true, false, false, false] (kk _ (Stt.mk (loc := loc) P2 rfl I R (show tn (rM ρ) 4 ≤ n + 1 by omega))))
theorem w_versionByReplay (hB : Base G) (C : Cx G X RL cL_law 9 20 603072 7211114) (S9 : Sc G X LL xs) (v1 : vp_in (i + 1) LL) (v2 : vp_in (i + 2) LL) (v3 : vp_in (i + 3) LL) (hn : n < 512) (hu : uc + 20 ≤ 603072) (hs9 : us + 4400 ≤ 7211114) (S : Stt G h x m o d9 n) (kk : Nx G X uc us n x m o d9 i) : Zs G X 9 h uc us 1236 [some (.ref (gb G)), some (.ref x), some (.ref m), some (.ref o), some (.ref d9), some (.int i), none, none, none] [] := by
  obtain ⟨loc, ρ, P, I, R, h4, rfl, rfl, rfl, rfl⟩ := S
  have mm : tn (rM ρ) 4 < 512 := by omega
  refine z_aload_n C dL_law_1236 rfl ?_
  refine z_aload_n C dL_law_1237 rfl ?_
  refine z_iload C dL_law_1238 rfl ?_
  refine z_iconst (v := 1) C dL_law_1240 (by decide) ?_
  refine z_iadd C dL_law_1241 ?_
  refine z_sld C S9 v1 dL_law_1242 ?_
  refine z_aload_n C dL_law_1243 rfl ?_
  refine z_rn (z_runW C kwL_versionByReplay lkL_193 (l_versionByReplay hB P I) rfl rfl (zb rfl) (zb rfl) (by omega) (by omega) dL_law_1244) (fun v9 h9 hv => ?_)
  rcases lw_norm hv with ⟨c1, c2, c3, rfl, loc', f9, J9, Q9, hs', P', ov⟩ | ⟨k9, hr, hk, P', rfl⟩
  · rw [← hs'.a (show 0 < 7 by decide), ← hs'.a (show 4 < 7 by decide), ← hs'.a (show 5 < 7 by decide), ← hs'.a (show 6 < 7 by decide)] at kk ⊢
    refine z_istore C dL_law_1247 (zb rfl) ?_
    refine z_aload_n C dL_law_1249 rfl ?_
    refine z_aload_n C dL_law_1250 rfl ?_
    refine z_iload C dL_law_1251 rfl ?_
    refine z_iconst (v := 1) C dL_law_1253 (by decide) ?_
    refine z_iadd C dL_law_1254 ?_
    refine z_sld C S9 v1 dL_law_1255 ?_
    refine z_rn (z_runV C kvX9_versionByReplay lkL_195 kcX9 (k9_versionByReplay hB P' I R) (P'.m) rfl rfl (zb rfl) (zb rfl) (by omega) (by omega) dL_law_1256) (fun v9 h9 hv => ?_)
    rcases hv with ⟨-, -, -, P2, rfl⟩ | ⟨k2, w2, hr2, hk2, P2, rfl⟩
    · skip
      refine z_istore C dL_law_1259 (zb rfl) ?_
      refine z_aload_n C dL_law_1261 rfl ?_
      refine z_rd (z_runV C kvX9_thrown lkL_133 kcX9 (k9_thrown hB P2) (P2.m) rfl rfl (zb rfl) (zb rfl) (by omega) (by omega) dL_law_1262) ?_
      refine z_iload C dL_law_1265 rfl ?_
      refine z_icmp_eq (tgt := 1272) C dL_law_1267 (by decide) (fun _ => ?_) (fun e9 => absurd (rfl) e9)
      refine z_iload C dL_law_1272 rfl ?_
      refine z_if_ne (tgt := 1289) C dL_law_1274 (by decide) (fun e9 => absurd e9 ((fun e => e rfl))) (fun _ => ?_)
      refine z_aload_n C dL_law_1277 rfl ?_
      refine z_iconst (v := 0) C dL_law_1278 (by decide) ?_
      refine z_lald C (P2.J) (in01) dL_law_1279 ?_
      refine z_iload C dL_law_1280 rfl ?_
      refine z_i2l C dL_law_1282 ?_
      refine z_lcmp C dL_law_1283 ?_
      refine z_if_eq (tgt := 1289) C dL_law_1284 (by decide) (fun _ => ?_) (fun e9 => absurd ((lgc ov)) e9)
      refine z_goto (tgt := 2161) C dL_law_1289 (by decide) ?_
      exact Zs.up (by omega) (by omega) (Zs.mask [true, true, true, true, true, true, false, false, false] (kk _ (Stt.mk (loc := loc') P2 rfl I R (show tn (rM ρ) 4 ≤ n + 1 by omega))))
    · exact absurd (Rs.yes c1 c2 c3 hr2) hk2
  · refine z_istore C dL_law_1247 (zb rfl) ?_
    refine z_aload_n C dL_law_1249 rfl ?_
    refine z_aload_n C dL_law_1250 rfl ?_
    refine z_iload C dL_law_1251 rfl ?_
    refine z_iconst (v := 1) C dL_law_1253 (by decide) ?_
    refine z_iadd C dL_law_1254 ?_
    refine z_sld C S9 v1 dL_law_1255 ?_
    refine z_rn (z_runV C kvX9_versionByReplay lkL_195 kcX9 (k9_versionByReplay hB P' I R) (P'.m) rfl rfl (zb rfl) (zb rfl) (by omega) (by omega) dL_law_1256) (fun v9 h9 hv => ?_)
    rcases hv with ⟨c1, c2, c3, -, -⟩ | ⟨k2, w2, hr2, hk2, P2, rfl⟩
    · exact absurd (Rs.yes c1 c2 c3 hr) hk
    · refine z_istore C dL_law_1259 (zb rfl) ?_
      refine z_aload_n C dL_law_1261 rfl ?_
      refine z_rd (z_runV C kvX9_thrown lkL_133 kcX9 (k9_thrown hB P2) (P2.m) rfl rfl (zb rfl) (zb rfl) (by omega) (by omega) dL_law_1262) ?_
      refine z_iload C dL_law_1265 rfl ?_
      refine z_icmp_eq (tgt := 1272) C dL_law_1267 (by decide) (fun _ => ?_) (fun e9 => absurd ((Rs.uni hr2 hr)) e9)
      refine z_iload C dL_law_1272 rfl ?_
      refine z_if_ne (tgt := 1289) C dL_law_1274 (by decide) (fun _ => ?_) (fun e9 => absurd e9 (hk))
      refine z_goto (tgt := 2161) C dL_law_1289 (by decide) ?_
      exact Zs.up (by omega) (by omega) (Zs.mask [true, true, true, true, true, true, false, false, false] (kk _ (Stt.mk (loc := loc) P2 rfl I R (show tn (rM ρ) 4 ≤ n + 1 by omega))))
theorem w_versionOn (hB : Base G) (C : Cx G X RL cL_law 9 20 603072 7211114) (S9 : Sc G X LL xs) (v1 : vp_in (i + 1) LL) (v2 : vp_in (i + 2) LL) (v3 : vp_in (i + 3) LL) (hn : n < 512) (hu : uc + 20 ≤ 603072) (hs9 : us + 4400 ≤ 7211114) (S : Stt G h x m o d9 n) (kk : Nx G X uc us n x m o d9 i) : Zs G X 9 h uc us 1292 [some (.ref (gb G)), some (.ref x), some (.ref m), some (.ref o), some (.ref d9), some (.int i), none, none, none] [] := by
  obtain ⟨loc, ρ, P, I, R, h4, rfl, rfl, rfl, rfl⟩ := S
  have mm : tn (rM ρ) 4 < 512 := by omega
  refine z_aload_n C dL_law_1292 rfl ?_
  refine z_aload_n C dL_law_1293 rfl ?_
  refine z_iload C dL_law_1294 rfl ?_
  refine z_iconst (v := 1) C dL_law_1296 (by decide) ?_
  refine z_iadd C dL_law_1297 ?_
  refine z_sld C S9 v1 dL_law_1298 ?_
  refine z_aload_n C dL_law_1299 rfl ?_
  refine z_rn (z_runW C kwL_versionOn lkL_196 (l_versionOn hB P I) rfl rfl (zb rfl) (zb rfl) (by omega) (by omega) dL_law_1300) (fun v9 h9 hv => ?_)
  rcases lw_norm hv with ⟨c1, c2, c3, rfl, loc', f9, J9, Q9, hs', P', ov⟩ | ⟨k9, hr, hk, P', rfl⟩
  · rw [← hs'.a (show 0 < 7 by decide), ← hs'.a (show 4 < 7 by decide), ← hs'.a (show 5 < 7 by decide), ← hs'.a (show 6 < 7 by decide)] at kk ⊢
    refine z_istore C dL_law_1303 (zb rfl) ?_
    refine z_aload_n C dL_law_1305 rfl ?_
    refine z_aload_n C dL_law_1306 rfl ?_
    refine z_iload C dL_law_1307 rfl ?_
    refine z_iconst (v := 1) C dL_law_1309 (by decide) ?_
    refine z_iadd C dL_law_1310 ?_
    refine z_sld C S9 v1 dL_law_1311 ?_
    refine z_rn (z_runV C kvX9_versionOn lkL_198 kcX9 (k9_versionOn hB P' I R) (P'.m) rfl rfl (zb rfl) (zb rfl) (by omega) (by omega) dL_law_1312) (fun v9 h9 hv => ?_)
    rcases hv with ⟨-, -, -, P2, rfl⟩ | ⟨k2, w2, hr2, hk2, P2, rfl⟩
    · skip
      refine z_istore C dL_law_1315 (zb rfl) ?_
      refine z_aload_n C dL_law_1317 rfl ?_
      refine z_rd (z_runV C kvX9_thrown lkL_133 kcX9 (k9_thrown hB P2) (P2.m) rfl rfl (zb rfl) (zb rfl) (by omega) (by omega) dL_law_1318) ?_
      refine z_iload C dL_law_1321 rfl ?_
      refine z_icmp_eq (tgt := 1328) C dL_law_1323 (by decide) (fun _ => ?_) (fun e9 => absurd (rfl) e9)
      refine z_iload C dL_law_1328 rfl ?_
      refine z_if_ne (tgt := 1345) C dL_law_1330 (by decide) (fun e9 => absurd e9 ((fun e => e rfl))) (fun _ => ?_)
      refine z_aload_n C dL_law_1333 rfl ?_
      refine z_iconst (v := 0) C dL_law_1334 (by decide) ?_
      refine z_lald C (P2.J) (in01) dL_law_1335 ?_
      refine z_iload C dL_law_1336 rfl ?_
      refine z_i2l C dL_law_1338 ?_
      refine z_lcmp C dL_law_1339 ?_
      refine z_if_eq (tgt := 1345) C dL_law_1340 (by decide) (fun _ => ?_) (fun e9 => absurd ((lgc ov)) e9)
      refine z_goto (tgt := 2161) C dL_law_1345 (by decide) ?_
      exact Zs.up (by omega) (by omega) (Zs.mask [true, true, true, true, true, true, false, false, false] (kk _ (Stt.mk (loc := loc') P2 rfl I R (show tn (rM ρ) 4 ≤ n + 1 by omega))))
    · exact absurd (Rs.yes c1 c2 c3 hr2) hk2
  · refine z_istore C dL_law_1303 (zb rfl) ?_
    refine z_aload_n C dL_law_1305 rfl ?_
    refine z_aload_n C dL_law_1306 rfl ?_
    refine z_iload C dL_law_1307 rfl ?_
    refine z_iconst (v := 1) C dL_law_1309 (by decide) ?_
    refine z_iadd C dL_law_1310 ?_
    refine z_sld C S9 v1 dL_law_1311 ?_
    refine z_rn (z_runV C kvX9_versionOn lkL_198 kcX9 (k9_versionOn hB P' I R) (P'.m) rfl rfl (zb rfl) (zb rfl) (by omega) (by omega) dL_law_1312) (fun v9 h9 hv => ?_)
    rcases hv with ⟨c1, c2, c3, -, -⟩ | ⟨k2, w2, hr2, hk2, P2, rfl⟩
    · exact absurd (Rs.yes c1 c2 c3 hr) hk
    · refine z_istore C dL_law_1315 (zb rfl) ?_
      refine z_aload_n C dL_law_1317 rfl ?_
      refine z_rd (z_runV C kvX9_thrown lkL_133 kcX9 (k9_thrown hB P2) (P2.m) rfl rfl (zb rfl) (zb rfl) (by omega) (by omega) dL_law_1318) ?_
      refine z_iload C dL_law_1321 rfl ?_
      refine z_icmp_eq (tgt := 1328) C dL_law_1323 (by decide) (fun _ => ?_) (fun e9 => absurd ((Rs.uni hr2 hr)) e9)
      refine z_iload C dL_law_1328 rfl ?_
      refine z_if_ne (tgt := 1345) C dL_law_1330 (by decide) (fun _ => ?_) (fun e9 => absurd e9 (hk))
      refine z_goto (tgt := 2161) C dL_law_1345 (by decide) ?_
      exact Zs.up (by omega) (by omega) (Zs.mask [true, true, true, true, true, true, false, false, false] (kk _ (Stt.mk (loc := loc) P2 rfl I R (show tn (rM ρ) 4 ≤ n + 1 by omega))))
theorem w_fromIn (hB : Base G) (C : Cx G X RL cL_law 9 20 603072 7211114) (S9 : Sc G X LL xs) (v1 : vp_in (i + 1) LL) (v2 : vp_in (i + 2) LL) (v3 : vp_in (i + 3) LL) (hn : n < 512) (hu : uc + 20 ≤ 603072) (hs9 : us + 4400 ≤ 7211114) (S : Stt G h x m o d9 n) (kk : Nx G X uc us n x m o d9 i) : Zs G X 9 h uc us 1348 [some (.ref (gb G)), some (.ref x), some (.ref m), some (.ref o), some (.ref d9), some (.int i), none, none, none] [] := by
  obtain ⟨loc, ρ, P, I, R, h4, rfl, rfl, rfl, rfl⟩ := S
  have mm : tn (rM ρ) 4 < 512 := by omega
  refine z_aload_n C dL_law_1348 rfl ?_
  refine z_aload_n C dL_law_1349 rfl ?_
  refine z_iload C dL_law_1350 rfl ?_
  refine z_iconst (v := 1) C dL_law_1352 (by decide) ?_
  refine z_iadd C dL_law_1353 ?_
  refine z_sld C S9 v1 dL_law_1354 ?_
  refine z_aload_n C dL_law_1355 rfl ?_
  refine z_iload C dL_law_1356 rfl ?_
  refine z_iconst (v := 2) C dL_law_1358 (by decide) ?_
  refine z_iadd C dL_law_1359 ?_
  refine z_sld C S9 v2 dL_law_1360 ?_
  refine z_aload_n C dL_law_1361 rfl ?_
  refine z_rn (z_runW C kwL_fromIn lkL_199 (l_fromIn hB P I) rfl rfl (zb rfl) (zb rfl) (by omega) (by omega) dL_law_1362) (fun v9 h9 hv => ?_)
  rcases lw_norm hv with ⟨c1, c2, c3, rfl, loc', f9, J9, Q9, hs', P', ov⟩ | ⟨k9, hr, hk, P', rfl⟩
  · rw [← hs'.a (show 0 < 7 by decide), ← hs'.a (show 4 < 7 by decide), ← hs'.a (show 5 < 7 by decide), ← hs'.a (show 6 < 7 by decide)] at kk ⊢
    refine z_istore C dL_law_1365 (zb rfl) ?_
    refine z_aload_n C dL_law_1367 rfl ?_
    refine z_aload_n C dL_law_1368 rfl ?_
    refine z_iload C dL_law_1369 rfl ?_
    refine z_iconst (v := 1) C dL_law_1371 (by decide) ?_
    refine z_iadd C dL_law_1372 ?_
    refine z_sld C S9 v1 dL_law_1373 ?_
    refine z_aload_n C dL_law_1374 rfl ?_
    refine z_iload C dL_law_1375 rfl ?_
    refine z_iconst (v := 2) C dL_law_1377 (by decide) ?_
    refine z_iadd C dL_law_1378 ?_
    refine z_sld C S9 v2 dL_law_1379 ?_
    refine z_rn (z_runV C kvX9_fromIn lkL_201 kcX9 (k9_fromIn hB P' I R) (P'.m) rfl rfl (zb rfl) (zb rfl) (by omega) (by omega) dL_law_1380) (fun v9 h9 hv => ?_)
    rcases hv with ⟨-, -, -, P2, rfl⟩ | ⟨k2, w2, hr2, hk2, P2, rfl⟩
    · skip
      refine z_istore C dL_law_1383 (zb rfl) ?_
      refine z_aload_n C dL_law_1385 rfl ?_
      refine z_rd (z_runV C kvX9_thrown lkL_133 kcX9 (k9_thrown hB P2) (P2.m) rfl rfl (zb rfl) (zb rfl) (by omega) (by omega) dL_law_1386) ?_
      refine z_iload C dL_law_1389 rfl ?_
      refine z_icmp_eq (tgt := 1396) C dL_law_1391 (by decide) (fun _ => ?_) (fun e9 => absurd (rfl) e9)
      refine z_iload C dL_law_1396 rfl ?_
      refine z_if_ne (tgt := 1413) C dL_law_1398 (by decide) (fun e9 => absurd e9 ((fun e => e rfl))) (fun _ => ?_)
      refine z_aload_n C dL_law_1401 rfl ?_
      refine z_iconst (v := 0) C dL_law_1402 (by decide) ?_
      refine z_lald C (P2.J) (in01) dL_law_1403 ?_
      refine z_iload C dL_law_1404 rfl ?_
      refine z_i2l C dL_law_1406 ?_
      refine z_lcmp C dL_law_1407 ?_
      refine z_if_eq (tgt := 1413) C dL_law_1408 (by decide) (fun _ => ?_) (fun e9 => absurd ((lgc ov)) e9)
      refine z_goto (tgt := 2161) C dL_law_1413 (by decide) ?_
      exact Zs.up (by omega) (by omega) (Zs.mask [true, true, true, true, true, true, false, false, false] (kk _ (Stt.mk (loc := loc') P2 rfl I R (show tn (rM ρ) 4 ≤ n + 1 by omega))))
    · exact absurd (Rs.yes c1 c2 c3 hr2) hk2
  · refine z_istore C dL_law_1365 (zb rfl) ?_
    refine z_aload_n C dL_law_1367 rfl ?_
    refine z_aload_n C dL_law_1368 rfl ?_
    refine z_iload C dL_law_1369 rfl ?_
    refine z_iconst (v := 1) C dL_law_1371 (by decide) ?_
    refine z_iadd C dL_law_1372 ?_
    refine z_sld C S9 v1 dL_law_1373 ?_
    refine z_aload_n C dL_law_1374 rfl ?_
    refine z_iload C dL_law_1375 rfl ?_
    refine z_iconst (v := 2) C dL_law_1377 (by decide) ?_
    refine z_iadd C dL_law_1378 ?_
    refine z_sld C S9 v2 dL_law_1379 ?_
    refine z_rn (z_runV C kvX9_fromIn lkL_201 kcX9 (k9_fromIn hB P' I R) (P'.m) rfl rfl (zb rfl) (zb rfl) (by omega) (by omega) dL_law_1380) (fun v9 h9 hv => ?_)
    rcases hv with ⟨c1, c2, c3, -, -⟩ | ⟨k2, w2, hr2, hk2, P2, rfl⟩
    · exact absurd (Rs.yes c1 c2 c3 hr) hk
    · refine z_istore C dL_law_1383 (zb rfl) ?_
      refine z_aload_n C dL_law_1385 rfl ?_
      refine z_rd (z_runV C kvX9_thrown lkL_133 kcX9 (k9_thrown hB P2) (P2.m) rfl rfl (zb rfl) (zb rfl) (by omega) (by omega) dL_law_1386) ?_
      refine z_iload C dL_law_1389 rfl ?_
      refine z_icmp_eq (tgt := 1396) C dL_law_1391 (by decide) (fun _ => ?_) (fun e9 => absurd ((Rs.uni hr2 hr)) e9)
      refine z_iload C dL_law_1396 rfl ?_
      refine z_if_ne (tgt := 1413) C dL_law_1398 (by decide) (fun _ => ?_) (fun e9 => absurd e9 (hk))
      refine z_goto (tgt := 2161) C dL_law_1413 (by decide) ?_
      exact Zs.up (by omega) (by omega) (Zs.mask [true, true, true, true, true, true, false, false, false] (kk _ (Stt.mk (loc := loc) P2 rfl I R (show tn (rM ρ) 4 ≤ n + 1 by omega))))
theorem w_waiting (hB : Base G) (C : Cx G X RL cL_law 9 20 603072 7211114) (S9 : Sc G X LL xs) (v1 : vp_in (i + 1) LL) (v2 : vp_in (i + 2) LL) (v3 : vp_in (i + 3) LL) (hn : n < 512) (hu : uc + 20 ≤ 603072) (hs9 : us + 4400 ≤ 7211114) (S : Stt G h x m o d9 n) (kk : Nx G X uc us n x m o d9 i) : Zs G X 9 h uc us 1416 [some (.ref (gb G)), some (.ref x), some (.ref m), some (.ref o), some (.ref d9), some (.int i), none, none, none] [] := by
  obtain ⟨loc, ρ, P, I, R, h4, rfl, rfl, rfl, rfl⟩ := S
  have mm : tn (rM ρ) 4 < 512 := by omega
  refine z_aload_n C dL_law_1416 rfl ?_
  refine z_aload_n C dL_law_1417 rfl ?_
  refine z_iload C dL_law_1418 rfl ?_
  refine z_iconst (v := 1) C dL_law_1420 (by decide) ?_
  refine z_iadd C dL_law_1421 ?_
  refine z_sld C S9 v1 dL_law_1422 ?_
  refine z_aload_n C dL_law_1423 rfl ?_
  refine z_rn (z_runW C kwL_waiting lkL_202 (l_waiting hB P I) rfl rfl (zb rfl) (zb rfl) (by omega) (by omega) dL_law_1424) (fun v9 h9 hv => ?_)
  rcases lw_norm hv with ⟨c1, c2, c3, rfl, loc', f9, J9, Q9, hs', P', ov⟩ | ⟨k9, hr, hk, P', rfl⟩
  · rw [← hs'.a (show 0 < 7 by decide), ← hs'.a (show 4 < 7 by decide), ← hs'.a (show 5 < 7 by decide), ← hs'.a (show 6 < 7 by decide)] at kk ⊢
    refine z_istore C dL_law_1427 (zb rfl) ?_
    refine z_aload_n C dL_law_1429 rfl ?_
    refine z_aload_n C dL_law_1430 rfl ?_
    refine z_iload C dL_law_1431 rfl ?_
    refine z_iconst (v := 1) C dL_law_1433 (by decide) ?_
    refine z_iadd C dL_law_1434 ?_
    refine z_sld C S9 v1 dL_law_1435 ?_
    refine z_rn (z_runV C kvX9_waiting lkL_204 kcX9 (k9_waiting hB P' I R) (P'.m) rfl rfl (zb rfl) (zb rfl) (by omega) (by omega) dL_law_1436) (fun v9 h9 hv => ?_)
    rcases hv with ⟨-, -, -, P2, rfl⟩ | ⟨k2, w2, hr2, hk2, P2, rfl⟩
    · skip
      refine z_istore C dL_law_1439 (zb rfl) ?_
      refine z_aload_n C dL_law_1441 rfl ?_
      refine z_rd (z_runV C kvX9_thrown lkL_133 kcX9 (k9_thrown hB P2) (P2.m) rfl rfl (zb rfl) (zb rfl) (by omega) (by omega) dL_law_1442) ?_
      refine z_iload C dL_law_1445 rfl ?_
      refine z_icmp_eq (tgt := 1452) C dL_law_1447 (by decide) (fun _ => ?_) (fun e9 => absurd (rfl) e9)
      refine z_iload C dL_law_1452 rfl ?_
      refine z_if_ne (tgt := 1469) C dL_law_1454 (by decide) (fun e9 => absurd e9 ((fun e => e rfl))) (fun _ => ?_)
      refine z_aload_n C dL_law_1457 rfl ?_
      refine z_iconst (v := 0) C dL_law_1458 (by decide) ?_
      refine z_lald C (P2.J) (in01) dL_law_1459 ?_
      refine z_iload C dL_law_1460 rfl ?_
      refine z_i2l C dL_law_1462 ?_
      refine z_lcmp C dL_law_1463 ?_
      refine z_if_eq (tgt := 1469) C dL_law_1464 (by decide) (fun _ => ?_) (fun e9 => absurd ((lgc ov)) e9)
      refine z_goto (tgt := 2161) C dL_law_1469 (by decide) ?_
      exact Zs.up (by omega) (by omega) (Zs.mask [true, true, true, true, true, true, false, false, false] (kk _ (Stt.mk (loc := loc') P2 rfl I R (show tn (rM ρ) 4 ≤ n + 1 by omega))))
    · exact absurd (Rs.yes c1 c2 c3 hr2) hk2
  · refine z_istore C dL_law_1427 (zb rfl) ?_
    refine z_aload_n C dL_law_1429 rfl ?_
    refine z_aload_n C dL_law_1430 rfl ?_
    refine z_iload C dL_law_1431 rfl ?_
    refine z_iconst (v := 1) C dL_law_1433 (by decide) ?_
    refine z_iadd C dL_law_1434 ?_
    refine z_sld C S9 v1 dL_law_1435 ?_
    refine z_rn (z_runV C kvX9_waiting lkL_204 kcX9 (k9_waiting hB P' I R) (P'.m) rfl rfl (zb rfl) (zb rfl) (by omega) (by omega) dL_law_1436) (fun v9 h9 hv => ?_)
    rcases hv with ⟨c1, c2, c3, -, -⟩ | ⟨k2, w2, hr2, hk2, P2, rfl⟩
    · exact absurd (Rs.yes c1 c2 c3 hr) hk
    · refine z_istore C dL_law_1439 (zb rfl) ?_
      refine z_aload_n C dL_law_1441 rfl ?_
      refine z_rd (z_runV C kvX9_thrown lkL_133 kcX9 (k9_thrown hB P2) (P2.m) rfl rfl (zb rfl) (zb rfl) (by omega) (by omega) dL_law_1442) ?_
      refine z_iload C dL_law_1445 rfl ?_
      refine z_icmp_eq (tgt := 1452) C dL_law_1447 (by decide) (fun _ => ?_) (fun e9 => absurd ((Rs.uni hr2 hr)) e9)
      refine z_iload C dL_law_1452 rfl ?_
      refine z_if_ne (tgt := 1469) C dL_law_1454 (by decide) (fun _ => ?_) (fun e9 => absurd e9 (hk))
      refine z_goto (tgt := 2161) C dL_law_1469 (by decide) ?_
      exact Zs.up (by omega) (by omega) (Zs.mask [true, true, true, true, true, true, false, false, false] (kk _ (Stt.mk (loc := loc) P2 rfl I R (show tn (rM ρ) 4 ≤ n + 1 by omega))))
theorem w_carried (hB : Base G) (C : Cx G X RL cL_law 9 20 603072 7211114) (S9 : Sc G X LL xs) (v1 : vp_in (i + 1) LL) (v2 : vp_in (i + 2) LL) (v3 : vp_in (i + 3) LL) (hn : n < 512) (hu : uc + 20 ≤ 603072) (hs9 : us + 4400 ≤ 7211114) (S : Stt G h x m o d9 n) (kk : Nx G X uc us n x m o d9 i) : Zs G X 9 h uc us 1472 [some (.ref (gb G)), some (.ref x), some (.ref m), some (.ref o), some (.ref d9), some (.int i), none, none, none] [] := by
  obtain ⟨loc, ρ, P, I, R, h4, rfl, rfl, rfl, rfl⟩ := S
  have mm : tn (rM ρ) 4 < 512 := by omega
  refine z_aload_n C dL_law_1472 rfl ?_
  refine z_aload_n C dL_law_1473 rfl ?_
  refine z_iload C dL_law_1474 rfl ?_
  refine z_iconst (v := 1) C dL_law_1476 (by decide) ?_
  refine z_iadd C dL_law_1477 ?_
  refine z_sld C S9 v1 dL_law_1478 ?_
  refine z_aload_n C dL_law_1479 rfl ?_
  refine z_rn (z_runW C kwL_carried lkL_205 (l_carried hB P I) rfl rfl (zb rfl) (zb rfl) (by omega) (by omega) dL_law_1480) (fun v9 h9 hv => ?_)
  rcases lw_norm hv with ⟨c1, c2, c3, rfl, loc', f9, J9, Q9, hs', P', ov⟩ | ⟨k9, hr, hk, P', rfl⟩
  · rw [← hs'.a (show 0 < 7 by decide), ← hs'.a (show 4 < 7 by decide), ← hs'.a (show 5 < 7 by decide), ← hs'.a (show 6 < 7 by decide)] at kk ⊢
    refine z_istore C dL_law_1483 (zb rfl) ?_
    refine z_aload_n C dL_law_1485 rfl ?_
    refine z_aload_n C dL_law_1486 rfl ?_
    refine z_iload C dL_law_1487 rfl ?_
    refine z_iconst (v := 1) C dL_law_1489 (by decide) ?_
    refine z_iadd C dL_law_1490 ?_
    refine z_sld C S9 v1 dL_law_1491 ?_
    refine z_rn (z_runV C kvX9_carried lkL_207 kcX9 (k9_carried hB P' I R) (P'.m) rfl rfl (zb rfl) (zb rfl) (by omega) (by omega) dL_law_1492) (fun v9 h9 hv => ?_)
    rcases hv with ⟨-, -, -, P2, rfl⟩ | ⟨k2, w2, hr2, hk2, P2, rfl⟩
    · skip
      refine z_istore C dL_law_1495 (zb rfl) ?_
      refine z_aload_n C dL_law_1497 rfl ?_
      refine z_rd (z_runV C kvX9_thrown lkL_133 kcX9 (k9_thrown hB P2) (P2.m) rfl rfl (zb rfl) (zb rfl) (by omega) (by omega) dL_law_1498) ?_
      refine z_iload C dL_law_1501 rfl ?_
      refine z_icmp_eq (tgt := 1508) C dL_law_1503 (by decide) (fun _ => ?_) (fun e9 => absurd (rfl) e9)
      refine z_iload C dL_law_1508 rfl ?_
      refine z_if_ne (tgt := 1525) C dL_law_1510 (by decide) (fun e9 => absurd e9 ((fun e => e rfl))) (fun _ => ?_)
      refine z_aload_n C dL_law_1513 rfl ?_
      refine z_iconst (v := 0) C dL_law_1514 (by decide) ?_
      refine z_lald C (P2.J) (in01) dL_law_1515 ?_
      refine z_iload C dL_law_1516 rfl ?_
      refine z_i2l C dL_law_1518 ?_
      refine z_lcmp C dL_law_1519 ?_
      refine z_if_eq (tgt := 1525) C dL_law_1520 (by decide) (fun _ => ?_) (fun e9 => absurd ((lgc ov)) e9)
      refine z_goto (tgt := 2161) C dL_law_1525 (by decide) ?_
      exact Zs.up (by omega) (by omega) (Zs.mask [true, true, true, true, true, true, false, false, false] (kk _ (Stt.mk (loc := loc') P2 rfl I R (show tn (rM ρ) 4 ≤ n + 1 by omega))))
    · exact absurd (Rs.yes c1 c2 c3 hr2) hk2
  · refine z_istore C dL_law_1483 (zb rfl) ?_
    refine z_aload_n C dL_law_1485 rfl ?_
    refine z_aload_n C dL_law_1486 rfl ?_
    refine z_iload C dL_law_1487 rfl ?_
    refine z_iconst (v := 1) C dL_law_1489 (by decide) ?_
    refine z_iadd C dL_law_1490 ?_
    refine z_sld C S9 v1 dL_law_1491 ?_
    refine z_rn (z_runV C kvX9_carried lkL_207 kcX9 (k9_carried hB P' I R) (P'.m) rfl rfl (zb rfl) (zb rfl) (by omega) (by omega) dL_law_1492) (fun v9 h9 hv => ?_)
    rcases hv with ⟨c1, c2, c3, -, -⟩ | ⟨k2, w2, hr2, hk2, P2, rfl⟩
    · exact absurd (Rs.yes c1 c2 c3 hr) hk
    · refine z_istore C dL_law_1495 (zb rfl) ?_
      refine z_aload_n C dL_law_1497 rfl ?_
      refine z_rd (z_runV C kvX9_thrown lkL_133 kcX9 (k9_thrown hB P2) (P2.m) rfl rfl (zb rfl) (zb rfl) (by omega) (by omega) dL_law_1498) ?_
      refine z_iload C dL_law_1501 rfl ?_
      refine z_icmp_eq (tgt := 1508) C dL_law_1503 (by decide) (fun _ => ?_) (fun e9 => absurd ((Rs.uni hr2 hr)) e9)
      refine z_iload C dL_law_1508 rfl ?_
      refine z_if_ne (tgt := 1525) C dL_law_1510 (by decide) (fun _ => ?_) (fun e9 => absurd e9 (hk))
      refine z_goto (tgt := 2161) C dL_law_1525 (by decide) ?_
      exact Zs.up (by omega) (by omega) (Zs.mask [true, true, true, true, true, true, false, false, false] (kk _ (Stt.mk (loc := loc) P2 rfl I R (show tn (rM ρ) 4 ≤ n + 1 by omega))))
theorem w_audits (hB : Base G) (C : Cx G X RL cL_law 9 20 603072 7211114) (S9 : Sc G X LL xs) (v1 : vp_in (i + 1) LL) (v2 : vp_in (i + 2) LL) (v3 : vp_in (i + 3) LL) (hn : n < 512) (hu : uc + 20 ≤ 603072) (hs9 : us + 4400 ≤ 7211114) (S : Stt G h x m o d9 n) (kk : Nx G X uc us n x m o d9 i) : Zs G X 9 h uc us 1528 [some (.ref (gb G)), some (.ref x), some (.ref m), some (.ref o), some (.ref d9), some (.int i), none, none, none] [] := by
  obtain ⟨loc, ρ, P, I, R, h4, rfl, rfl, rfl, rfl⟩ := S
  have mm : tn (rM ρ) 4 < 512 := by omega
  refine z_aload_n C dL_law_1528 rfl ?_
  refine z_rd (z_runV C kvX8_audits lkL_208 kcX8 (k_audits hB P) (P.x) rfl rfl (zb rfl) (zb rfl) (by omega) (by omega) dL_law_1529) ?_
  refine z_aload_n C dL_law_1532 rfl ?_
  refine z_rn (z_runV C kvX9_audits lkL_211 kcX9 (k9_audits hB P I R) (P.m) rfl rfl (zb rfl) (zb rfl) (by omega) (by omega) dL_law_1533) (fun v9 h9 hv => ?_)
  rcases hv with ⟨-, -, -, P2, rfl⟩ | ⟨k2, w2, hr2, hk2, -, -⟩
  · refine z_icmp_eq (tgt := 2161) C dL_law_1536 (by decide) (fun _ => ?_) (fun e9 => absurd ((rfl)) e9)
    exact Zs.up (by omega) (by omega) (Zs.mask [true, true, true, true, true, true, false, false, false] (kk _ (Stt.mk (loc := loc) P2 rfl I R (show tn (rM ρ) 4 ≤ n + 1 by omega))))
  · exact absurd (Rs.no hr2) hk2
theorem w_letterOf (hB : Base G) (C : Cx G X RL cL_law 9 20 603072 7211114) (S9 : Sc G X LL xs) (v1 : vp_in (i + 1) LL) (v2 : vp_in (i + 2) LL) (v3 : vp_in (i + 3) LL) (hn : n < 512) (hu : uc + 20 ≤ 603072) (hs9 : us + 4400 ≤ 7211114) (S : Stt G h x m o d9 n) (kk : Nx G X uc us n x m o d9 i) : Zs G X 9 h uc us 1541 [some (.ref (gb G)), some (.ref x), some (.ref m), some (.ref o), some (.ref d9), some (.int i), none, none, none] [] := by
  obtain ⟨loc, ρ, P, I, R, h4, rfl, rfl, rfl, rfl⟩ := S
  have mm : tn (rM ρ) 4 < 512 := by omega
  refine z_aload_n C dL_law_1541 rfl ?_
  refine z_aload_n C dL_law_1542 rfl ?_
  refine z_iload C dL_law_1543 rfl ?_
  refine z_iconst (v := 1) C dL_law_1545 (by decide) ?_
  refine z_iadd C dL_law_1546 ?_
  refine z_sld C S9 v1 dL_law_1547 ?_
  refine z_aload_n C dL_law_1548 rfl ?_
  refine z_rn (z_runW C kwL_letterOf lkL_212 (l_letterOf hB P I) rfl rfl (zb rfl) (zb rfl) (by omega) (by omega) dL_law_1549) (fun v9 h9 hv => ?_)
  rcases lw_norm hv with ⟨c1, c2, c3, rfl, loc', f9, J9, Q9, hs', P', ov⟩ | ⟨k9, hr, hk, P', rfl⟩
  · rw [← hs'.a (show 0 < 7 by decide), ← hs'.a (show 4 < 7 by decide), ← hs'.a (show 5 < 7 by decide), ← hs'.a (show 6 < 7 by decide)] at kk ⊢
    refine z_istore C dL_law_1552 (zb rfl) ?_
    refine z_aload_n C dL_law_1554 rfl ?_
    refine z_aload_n C dL_law_1555 rfl ?_
    refine z_iload C dL_law_1556 rfl ?_
    refine z_iconst (v := 1) C dL_law_1558 (by decide) ?_
    refine z_iadd C dL_law_1559 ?_
    refine z_sld C S9 v1 dL_law_1560 ?_
    refine z_rn (z_runV C kvX9_letterOf lkL_214 kcX9 (k9_letterOf hB P' I R) (P'.m) rfl rfl (zb rfl) (zb rfl) (by omega) (by omega) dL_law_1561) (fun v9 h9 hv => ?_)
    rcases hv with ⟨-, -, -, P2, rfl⟩ | ⟨k2, w2, hr2, hk2, P2, rfl⟩
    · skip
      refine z_istore C dL_law_1564 (zb rfl) ?_
      refine z_aload_n C dL_law_1566 rfl ?_
      refine z_rd (z_runV C kvX9_thrown lkL_133 kcX9 (k9_thrown hB P2) (P2.m) rfl rfl (zb rfl) (zb rfl) (by omega) (by omega) dL_law_1567) ?_
      refine z_iload C dL_law_1570 rfl ?_
      refine z_icmp_eq (tgt := 1577) C dL_law_1572 (by decide) (fun _ => ?_) (fun e9 => absurd (rfl) e9)
      refine z_iload C dL_law_1577 rfl ?_
      refine z_if_ne (tgt := 1594) C dL_law_1579 (by decide) (fun e9 => absurd e9 ((fun e => e rfl))) (fun _ => ?_)
      refine z_aload_n C dL_law_1582 rfl ?_
      refine z_iconst (v := 0) C dL_law_1583 (by decide) ?_
      refine z_lald C (P2.J) (in01) dL_law_1584 ?_
      refine z_iload C dL_law_1585 rfl ?_
      refine z_i2l C dL_law_1587 ?_
      refine z_lcmp C dL_law_1588 ?_
      refine z_if_eq (tgt := 1594) C dL_law_1589 (by decide) (fun _ => ?_) (fun e9 => absurd ((lgc ov)) e9)
      refine z_goto (tgt := 2161) C dL_law_1594 (by decide) ?_
      exact Zs.up (by omega) (by omega) (Zs.mask [true, true, true, true, true, true, false, false, false] (kk _ (Stt.mk (loc := loc') P2 rfl I R (show tn (rM ρ) 4 ≤ n + 1 by omega))))
    · exact absurd (Rs.yes c1 c2 c3 hr2) hk2
  · refine z_istore C dL_law_1552 (zb rfl) ?_
    refine z_aload_n C dL_law_1554 rfl ?_
    refine z_aload_n C dL_law_1555 rfl ?_
    refine z_iload C dL_law_1556 rfl ?_
    refine z_iconst (v := 1) C dL_law_1558 (by decide) ?_
    refine z_iadd C dL_law_1559 ?_
    refine z_sld C S9 v1 dL_law_1560 ?_
    refine z_rn (z_runV C kvX9_letterOf lkL_214 kcX9 (k9_letterOf hB P' I R) (P'.m) rfl rfl (zb rfl) (zb rfl) (by omega) (by omega) dL_law_1561) (fun v9 h9 hv => ?_)
    rcases hv with ⟨c1, c2, c3, -, -⟩ | ⟨k2, w2, hr2, hk2, P2, rfl⟩
    · exact absurd (Rs.yes c1 c2 c3 hr) hk
    · refine z_istore C dL_law_1564 (zb rfl) ?_
      refine z_aload_n C dL_law_1566 rfl ?_
      refine z_rd (z_runV C kvX9_thrown lkL_133 kcX9 (k9_thrown hB P2) (P2.m) rfl rfl (zb rfl) (zb rfl) (by omega) (by omega) dL_law_1567) ?_
      refine z_iload C dL_law_1570 rfl ?_
      refine z_icmp_eq (tgt := 1577) C dL_law_1572 (by decide) (fun _ => ?_) (fun e9 => absurd ((Rs.uni hr2 hr)) e9)
      refine z_iload C dL_law_1577 rfl ?_
      refine z_if_ne (tgt := 1594) C dL_law_1579 (by decide) (fun _ => ?_) (fun e9 => absurd e9 (hk))
      refine z_goto (tgt := 2161) C dL_law_1594 (by decide) ?_
      exact Zs.up (by omega) (by omega) (Zs.mask [true, true, true, true, true, true, false, false, false] (kk _ (Stt.mk (loc := loc) P2 rfl I R (show tn (rM ρ) 4 ≤ n + 1 by omega))))
theorem w_letterByList (hB : Base G) (C : Cx G X RL cL_law 9 20 603072 7211114) (S9 : Sc G X LL xs) (v1 : vp_in (i + 1) LL) (v2 : vp_in (i + 2) LL) (v3 : vp_in (i + 3) LL) (hn : n < 512) (hu : uc + 20 ≤ 603072) (hs9 : us + 4400 ≤ 7211114) (S : Stt G h x m o d9 n) (kk : Nx G X uc us n x m o d9 i) : Zs G X 9 h uc us 1597 [some (.ref (gb G)), some (.ref x), some (.ref m), some (.ref o), some (.ref d9), some (.int i), none, none, none] [] := by
  obtain ⟨loc, ρ, P, I, R, h4, rfl, rfl, rfl, rfl⟩ := S
  have mm : tn (rM ρ) 4 < 512 := by omega
  refine z_aload_n C dL_law_1597 rfl ?_
  refine z_aload_n C dL_law_1598 rfl ?_
  refine z_iload C dL_law_1599 rfl ?_
  refine z_iconst (v := 1) C dL_law_1601 (by decide) ?_
  refine z_iadd C dL_law_1602 ?_
  refine z_sld C S9 v1 dL_law_1603 ?_
  refine z_aload_n C dL_law_1604 rfl ?_
  refine z_rn (z_runW C kwL_letterByList lkL_215 (l_letterByList hB P I) rfl rfl (zb rfl) (zb rfl) (by omega) (by omega) dL_law_1605) (fun v9 h9 hv => ?_)
  rcases lw_norm hv with ⟨c1, c2, c3, rfl, loc', f9, J9, Q9, hs', P', ov⟩ | ⟨k9, hr, hk, P', rfl⟩
  · rw [← hs'.a (show 0 < 7 by decide), ← hs'.a (show 4 < 7 by decide), ← hs'.a (show 5 < 7 by decide), ← hs'.a (show 6 < 7 by decide)] at kk ⊢
    refine z_istore C dL_law_1608 (zb rfl) ?_
    refine z_aload_n C dL_law_1610 rfl ?_
    refine z_aload_n C dL_law_1611 rfl ?_
    refine z_iload C dL_law_1612 rfl ?_
    refine z_iconst (v := 1) C dL_law_1614 (by decide) ?_
    refine z_iadd C dL_law_1615 ?_
    refine z_sld C S9 v1 dL_law_1616 ?_
    refine z_rn (z_runV C kvX9_letterByList lkL_217 kcX9 (k9_letterByList hB P' I R) (P'.m) rfl rfl (zb rfl) (zb rfl) (by omega) (by omega) dL_law_1617) (fun v9 h9 hv => ?_)
    rcases hv with ⟨-, -, -, P2, rfl⟩ | ⟨k2, w2, hr2, hk2, P2, rfl⟩
    · skip
      refine z_istore C dL_law_1620 (zb rfl) ?_
      refine z_aload_n C dL_law_1622 rfl ?_
      refine z_rd (z_runV C kvX9_thrown lkL_133 kcX9 (k9_thrown hB P2) (P2.m) rfl rfl (zb rfl) (zb rfl) (by omega) (by omega) dL_law_1623) ?_
      refine z_iload C dL_law_1626 rfl ?_
      refine z_icmp_eq (tgt := 1633) C dL_law_1628 (by decide) (fun _ => ?_) (fun e9 => absurd (rfl) e9)
      refine z_iload C dL_law_1633 rfl ?_
      refine z_if_ne (tgt := 1650) C dL_law_1635 (by decide) (fun e9 => absurd e9 ((fun e => e rfl))) (fun _ => ?_)
      refine z_aload_n C dL_law_1638 rfl ?_
      refine z_iconst (v := 0) C dL_law_1639 (by decide) ?_
      refine z_lald C (P2.J) (in01) dL_law_1640 ?_
      refine z_iload C dL_law_1641 rfl ?_
      refine z_i2l C dL_law_1643 ?_
      refine z_lcmp C dL_law_1644 ?_
      refine z_if_eq (tgt := 1650) C dL_law_1645 (by decide) (fun _ => ?_) (fun e9 => absurd ((lgc ov)) e9)
      refine z_goto (tgt := 2161) C dL_law_1650 (by decide) ?_
      exact Zs.up (by omega) (by omega) (Zs.mask [true, true, true, true, true, true, false, false, false] (kk _ (Stt.mk (loc := loc') P2 rfl I R (show tn (rM ρ) 4 ≤ n + 1 by omega))))
    · exact absurd (Rs.yes c1 c2 c3 hr2) hk2
  · refine z_istore C dL_law_1608 (zb rfl) ?_
    refine z_aload_n C dL_law_1610 rfl ?_
    refine z_aload_n C dL_law_1611 rfl ?_
    refine z_iload C dL_law_1612 rfl ?_
    refine z_iconst (v := 1) C dL_law_1614 (by decide) ?_
    refine z_iadd C dL_law_1615 ?_
    refine z_sld C S9 v1 dL_law_1616 ?_
    refine z_rn (z_runV C kvX9_letterByList lkL_217 kcX9 (k9_letterByList hB P' I R) (P'.m) rfl rfl (zb rfl) (zb rfl) (by omega) (by omega) dL_law_1617) (fun v9 h9 hv => ?_)
    rcases hv with ⟨c1, c2, c3, -, -⟩ | ⟨k2, w2, hr2, hk2, P2, rfl⟩
    · exact absurd (Rs.yes c1 c2 c3 hr) hk
    · refine z_istore C dL_law_1620 (zb rfl) ?_
      refine z_aload_n C dL_law_1622 rfl ?_
      refine z_rd (z_runV C kvX9_thrown lkL_133 kcX9 (k9_thrown hB P2) (P2.m) rfl rfl (zb rfl) (zb rfl) (by omega) (by omega) dL_law_1623) ?_
      refine z_iload C dL_law_1626 rfl ?_
      refine z_icmp_eq (tgt := 1633) C dL_law_1628 (by decide) (fun _ => ?_) (fun e9 => absurd ((Rs.uni hr2 hr)) e9)
      refine z_iload C dL_law_1633 rfl ?_
      refine z_if_ne (tgt := 1650) C dL_law_1635 (by decide) (fun _ => ?_) (fun e9 => absurd e9 (hk))
      refine z_goto (tgt := 2161) C dL_law_1650 (by decide) ?_
      exact Zs.up (by omega) (by omega) (Zs.mask [true, true, true, true, true, true, false, false, false] (kk _ (Stt.mk (loc := loc) P2 rfl I R (show tn (rM ρ) 4 ≤ n + 1 by omega))))
theorem w_minuteOf (hB : Base G) (C : Cx G X RL cL_law 9 20 603072 7211114) (S9 : Sc G X LL xs) (v1 : vp_in (i + 1) LL) (v2 : vp_in (i + 2) LL) (v3 : vp_in (i + 3) LL) (hn : n < 512) (hu : uc + 20 ≤ 603072) (hs9 : us + 4400 ≤ 7211114) (S : Stt G h x m o d9 n) (kk : Nx G X uc us n x m o d9 i) : Zs G X 9 h uc us 1653 [some (.ref (gb G)), some (.ref x), some (.ref m), some (.ref o), some (.ref d9), some (.int i), none, none, none] [] := by
  obtain ⟨loc, ρ, P, I, R, h4, rfl, rfl, rfl, rfl⟩ := S
  have mm : tn (rM ρ) 4 < 512 := by omega
  refine z_aload_n C dL_law_1653 rfl ?_
  refine z_aload_n C dL_law_1654 rfl ?_
  refine z_iload C dL_law_1655 rfl ?_
  refine z_iconst (v := 1) C dL_law_1657 (by decide) ?_
  refine z_iadd C dL_law_1658 ?_
  refine z_sld C S9 v1 dL_law_1659 ?_
  refine z_aload_n C dL_law_1660 rfl ?_
  refine z_rn (z_runW C kwL_minuteOf lkL_218 (l_minuteOf hB P I) rfl rfl (zb rfl) (zb rfl) (by omega) (by omega) dL_law_1661) (fun v9 h9 hv => ?_)
  rcases lw_norm hv with ⟨c1, c2, c3, rfl, loc', f9, J9, Q9, hs', P', ov⟩ | ⟨k9, hr, hk, P', rfl⟩
  · rw [← hs'.a (show 0 < 7 by decide), ← hs'.a (show 4 < 7 by decide), ← hs'.a (show 5 < 7 by decide), ← hs'.a (show 6 < 7 by decide)] at kk ⊢
    refine z_istore C dL_law_1664 (zb rfl) ?_
    refine z_aload_n C dL_law_1666 rfl ?_
    refine z_aload_n C dL_law_1667 rfl ?_
    refine z_iload C dL_law_1668 rfl ?_
    refine z_iconst (v := 1) C dL_law_1670 (by decide) ?_
    refine z_iadd C dL_law_1671 ?_
    refine z_sld C S9 v1 dL_law_1672 ?_
    refine z_rn (z_runV C kvX9_minuteOf lkL_220 kcX9 (k9_minuteOf hB P' I R) (P'.m) rfl rfl (zb rfl) (zb rfl) (by omega) (by omega) dL_law_1673) (fun v9 h9 hv => ?_)
    rcases hv with ⟨-, -, -, P2, rfl⟩ | ⟨k2, w2, hr2, hk2, P2, rfl⟩
    · skip
      refine z_istore C dL_law_1676 (zb rfl) ?_
      refine z_aload_n C dL_law_1678 rfl ?_
      refine z_rd (z_runV C kvX9_thrown lkL_133 kcX9 (k9_thrown hB P2) (P2.m) rfl rfl (zb rfl) (zb rfl) (by omega) (by omega) dL_law_1679) ?_
      refine z_iload C dL_law_1682 rfl ?_
      refine z_icmp_eq (tgt := 1689) C dL_law_1684 (by decide) (fun _ => ?_) (fun e9 => absurd (rfl) e9)
      refine z_iload C dL_law_1689 rfl ?_
      refine z_if_ne (tgt := 1706) C dL_law_1691 (by decide) (fun e9 => absurd e9 ((fun e => e rfl))) (fun _ => ?_)
      refine z_aload_n C dL_law_1694 rfl ?_
      refine z_iconst (v := 0) C dL_law_1695 (by decide) ?_
      refine z_lald C (P2.J) (in01) dL_law_1696 ?_
      refine z_iload C dL_law_1697 rfl ?_
      refine z_i2l C dL_law_1699 ?_
      refine z_lcmp C dL_law_1700 ?_
      refine z_if_eq (tgt := 1706) C dL_law_1701 (by decide) (fun _ => ?_) (fun e9 => absurd ((lgc ov)) e9)
      refine z_goto (tgt := 2161) C dL_law_1706 (by decide) ?_
      exact Zs.up (by omega) (by omega) (Zs.mask [true, true, true, true, true, true, false, false, false] (kk _ (Stt.mk (loc := loc') P2 rfl I R (show tn (rM ρ) 4 ≤ n + 1 by omega))))
    · exact absurd (Rs.yes c1 c2 c3 hr2) hk2
  · refine z_istore C dL_law_1664 (zb rfl) ?_
    refine z_aload_n C dL_law_1666 rfl ?_
    refine z_aload_n C dL_law_1667 rfl ?_
    refine z_iload C dL_law_1668 rfl ?_
    refine z_iconst (v := 1) C dL_law_1670 (by decide) ?_
    refine z_iadd C dL_law_1671 ?_
    refine z_sld C S9 v1 dL_law_1672 ?_
    refine z_rn (z_runV C kvX9_minuteOf lkL_220 kcX9 (k9_minuteOf hB P' I R) (P'.m) rfl rfl (zb rfl) (zb rfl) (by omega) (by omega) dL_law_1673) (fun v9 h9 hv => ?_)
    rcases hv with ⟨c1, c2, c3, -, -⟩ | ⟨k2, w2, hr2, hk2, P2, rfl⟩
    · exact absurd (Rs.yes c1 c2 c3 hr) hk
    · refine z_istore C dL_law_1676 (zb rfl) ?_
      refine z_aload_n C dL_law_1678 rfl ?_
      refine z_rd (z_runV C kvX9_thrown lkL_133 kcX9 (k9_thrown hB P2) (P2.m) rfl rfl (zb rfl) (zb rfl) (by omega) (by omega) dL_law_1679) ?_
      refine z_iload C dL_law_1682 rfl ?_
      refine z_icmp_eq (tgt := 1689) C dL_law_1684 (by decide) (fun _ => ?_) (fun e9 => absurd ((Rs.uni hr2 hr)) e9)
      refine z_iload C dL_law_1689 rfl ?_
      refine z_if_ne (tgt := 1706) C dL_law_1691 (by decide) (fun _ => ?_) (fun e9 => absurd e9 (hk))
      refine z_goto (tgt := 2161) C dL_law_1706 (by decide) ?_
      exact Zs.up (by omega) (by omega) (Zs.mask [true, true, true, true, true, true, false, false, false] (kk _ (Stt.mk (loc := loc) P2 rfl I R (show tn (rM ρ) 4 ≤ n + 1 by omega))))
theorem w_versionAt (hB : Base G) (C : Cx G X RL cL_law 9 20 603072 7211114) (S9 : Sc G X LL xs) (v1 : vp_in (i + 1) LL) (v2 : vp_in (i + 2) LL) (v3 : vp_in (i + 3) LL) (hn : n < 512) (hu : uc + 20 ≤ 603072) (hs9 : us + 4400 ≤ 7211114) (S : Stt G h x m o d9 n) (kk : Nx G X uc us n x m o d9 i) : Zs G X 9 h uc us 1709 [some (.ref (gb G)), some (.ref x), some (.ref m), some (.ref o), some (.ref d9), some (.int i), none, none, none] [] := by
  obtain ⟨loc, ρ, P, I, R, h4, rfl, rfl, rfl, rfl⟩ := S
  have mm : tn (rM ρ) 4 < 512 := by omega
  refine z_aload_n C dL_law_1709 rfl ?_
  refine z_aload_n C dL_law_1710 rfl ?_
  refine z_iload C dL_law_1711 rfl ?_
  refine z_iconst (v := 1) C dL_law_1713 (by decide) ?_
  refine z_iadd C dL_law_1714 ?_
  refine z_sld C S9 v1 dL_law_1715 ?_
  refine z_aload_n C dL_law_1716 rfl ?_
  refine z_rn (z_runW C kwL_versionAt lkL_221 (l_versionAt hB P I) rfl rfl (zb rfl) (zb rfl) (by omega) (by omega) dL_law_1717) (fun v9 h9 hv => ?_)
  rcases lw_norm hv with ⟨c1, c2, c3, rfl, loc', f9, J9, Q9, hs', P', ov⟩ | ⟨k9, hr, hk, P', rfl⟩
  · rw [← hs'.a (show 0 < 7 by decide), ← hs'.a (show 4 < 7 by decide), ← hs'.a (show 5 < 7 by decide), ← hs'.a (show 6 < 7 by decide)] at kk ⊢
    refine z_istore C dL_law_1720 (zb rfl) ?_
    refine z_aload_n C dL_law_1722 rfl ?_
    refine z_aload_n C dL_law_1723 rfl ?_
    refine z_iload C dL_law_1724 rfl ?_
    refine z_iconst (v := 1) C dL_law_1726 (by decide) ?_
    refine z_iadd C dL_law_1727 ?_
    refine z_sld C S9 v1 dL_law_1728 ?_
    refine z_rn (z_runV C kvX9_versionAt lkL_223 kcX9 (k9_versionAt hB P' I R) (P'.m) rfl rfl (zb rfl) (zb rfl) (by omega) (by omega) dL_law_1729) (fun v9 h9 hv => ?_)
    rcases hv with ⟨-, -, -, P2, rfl⟩ | ⟨k2, w2, hr2, hk2, P2, rfl⟩
    · skip
      refine z_istore C dL_law_1732 (zb rfl) ?_
      refine z_aload_n C dL_law_1734 rfl ?_
      refine z_rd (z_runV C kvX9_thrown lkL_133 kcX9 (k9_thrown hB P2) (P2.m) rfl rfl (zb rfl) (zb rfl) (by omega) (by omega) dL_law_1735) ?_
      refine z_iload C dL_law_1738 rfl ?_
      refine z_icmp_eq (tgt := 1745) C dL_law_1740 (by decide) (fun _ => ?_) (fun e9 => absurd (rfl) e9)
      refine z_iload C dL_law_1745 rfl ?_
      refine z_if_ne (tgt := 1762) C dL_law_1747 (by decide) (fun e9 => absurd e9 ((fun e => e rfl))) (fun _ => ?_)
      refine z_aload_n C dL_law_1750 rfl ?_
      refine z_iconst (v := 0) C dL_law_1751 (by decide) ?_
      refine z_lald C (P2.J) (in01) dL_law_1752 ?_
      refine z_iload C dL_law_1753 rfl ?_
      refine z_i2l C dL_law_1755 ?_
      refine z_lcmp C dL_law_1756 ?_
      refine z_if_eq (tgt := 1762) C dL_law_1757 (by decide) (fun _ => ?_) (fun e9 => absurd ((lgc ov)) e9)
      refine z_goto (tgt := 2161) C dL_law_1762 (by decide) ?_
      exact Zs.up (by omega) (by omega) (Zs.mask [true, true, true, true, true, true, false, false, false] (kk _ (Stt.mk (loc := loc') P2 rfl I R (show tn (rM ρ) 4 ≤ n + 1 by omega))))
    · exact absurd (Rs.yes c1 c2 c3 hr2) hk2
  · refine z_istore C dL_law_1720 (zb rfl) ?_
    refine z_aload_n C dL_law_1722 rfl ?_
    refine z_aload_n C dL_law_1723 rfl ?_
    refine z_iload C dL_law_1724 rfl ?_
    refine z_iconst (v := 1) C dL_law_1726 (by decide) ?_
    refine z_iadd C dL_law_1727 ?_
    refine z_sld C S9 v1 dL_law_1728 ?_
    refine z_rn (z_runV C kvX9_versionAt lkL_223 kcX9 (k9_versionAt hB P' I R) (P'.m) rfl rfl (zb rfl) (zb rfl) (by omega) (by omega) dL_law_1729) (fun v9 h9 hv => ?_)
    rcases hv with ⟨c1, c2, c3, -, -⟩ | ⟨k2, w2, hr2, hk2, P2, rfl⟩
    · exact absurd (Rs.yes c1 c2 c3 hr) hk
    · refine z_istore C dL_law_1732 (zb rfl) ?_
      refine z_aload_n C dL_law_1734 rfl ?_
      refine z_rd (z_runV C kvX9_thrown lkL_133 kcX9 (k9_thrown hB P2) (P2.m) rfl rfl (zb rfl) (zb rfl) (by omega) (by omega) dL_law_1735) ?_
      refine z_iload C dL_law_1738 rfl ?_
      refine z_icmp_eq (tgt := 1745) C dL_law_1740 (by decide) (fun _ => ?_) (fun e9 => absurd ((Rs.uni hr2 hr)) e9)
      refine z_iload C dL_law_1745 rfl ?_
      refine z_if_ne (tgt := 1762) C dL_law_1747 (by decide) (fun _ => ?_) (fun e9 => absurd e9 (hk))
      refine z_goto (tgt := 2161) C dL_law_1762 (by decide) ?_
      exact Zs.up (by omega) (by omega) (Zs.mask [true, true, true, true, true, true, false, false, false] (kk _ (Stt.mk (loc := loc) P2 rfl I R (show tn (rM ρ) 4 ≤ n + 1 by omega))))
theorem w_hasArrived (hB : Base G) (C : Cx G X RL cL_law 9 20 603072 7211114) (S9 : Sc G X LL xs) (v1 : vp_in (i + 1) LL) (v2 : vp_in (i + 2) LL) (v3 : vp_in (i + 3) LL) (hn : n < 512) (hu : uc + 20 ≤ 603072) (hs9 : us + 4400 ≤ 7211114) (S : Stt G h x m o d9 n) (kk : Nx G X uc us n x m o d9 i) : Zs G X 9 h uc us 1765 [some (.ref (gb G)), some (.ref x), some (.ref m), some (.ref o), some (.ref d9), some (.int i), none, none, none] [] := by
  obtain ⟨loc, ρ, P, I, R, h4, rfl, rfl, rfl, rfl⟩ := S
  have mm : tn (rM ρ) 4 < 512 := by omega
  refine z_aload_n C dL_law_1765 rfl ?_
  refine z_aload_n C dL_law_1766 rfl ?_
  refine z_iload C dL_law_1767 rfl ?_
  refine z_iconst (v := 1) C dL_law_1769 (by decide) ?_
  refine z_iadd C dL_law_1770 ?_
  refine z_sld C S9 v1 dL_law_1771 ?_
  refine z_aload_n C dL_law_1772 rfl ?_
  refine z_rn (z_runW C kwL_hasArrived lkL_224 (l_hasArrived hB P I) rfl rfl (zb rfl) (zb rfl) (by omega) (by omega) dL_law_1773) (fun v9 h9 hv => ?_)
  rcases lw_norm hv with ⟨c1, c2, c3, rfl, loc', f9, J9, Q9, hs', P', ov⟩ | ⟨k9, hr, hk, P', rfl⟩
  · rw [← hs'.a (show 0 < 7 by decide), ← hs'.a (show 4 < 7 by decide), ← hs'.a (show 5 < 7 by decide), ← hs'.a (show 6 < 7 by decide)] at kk ⊢
    refine z_istore C dL_law_1776 (zb rfl) ?_
    refine z_aload_n C dL_law_1778 rfl ?_
    refine z_aload_n C dL_law_1779 rfl ?_
    refine z_iload C dL_law_1780 rfl ?_
    refine z_iconst (v := 1) C dL_law_1782 (by decide) ?_
    refine z_iadd C dL_law_1783 ?_
    refine z_sld C S9 v1 dL_law_1784 ?_
    refine z_rn (z_runV C kvX9_hasArrived lkL_226 kcX9 (k9_hasArrived hB P' I R) (P'.m) rfl rfl (zb rfl) (zb rfl) (by omega) (by omega) dL_law_1785) (fun v9 h9 hv => ?_)
    rcases hv with ⟨-, -, -, P2, rfl⟩ | ⟨k2, w2, hr2, hk2, P2, rfl⟩
    · by_cases hz : tT (rM ρ) 18 (ix (xs (i + 1).toNatClampNeg)) = -1
      · rw [if_pos hz] at ov ⊢
        refine z_istore C dL_law_1788 (zb rfl) ?_
        refine z_aload_n C dL_law_1790 rfl ?_
        refine z_rd (z_runV C kvX9_thrown lkL_133 kcX9 (k9_thrown hB P2) (P2.m) rfl rfl (zb rfl) (zb rfl) (by omega) (by omega) dL_law_1791) ?_
        refine z_iload C dL_law_1794 rfl ?_
        refine z_icmp_eq (tgt := 1801) C dL_law_1796 (by decide) (fun _ => ?_) (fun e9 => absurd (rfl) e9)
        refine z_iload C dL_law_1801 rfl ?_
        refine z_if_ne (tgt := 1825) C dL_law_1803 (by decide) (fun e9 => absurd e9 ((fun e => e rfl))) (fun _ => ?_)
        refine z_aload_n C dL_law_1806 rfl ?_
        refine z_iconst (v := 0) C dL_law_1807 (by decide) ?_
        refine z_lald C (P2.J) (in01) dL_law_1808 ?_
        refine z_iload C dL_law_1809 rfl ?_
        refine z_if_eq (tgt := 1818) C dL_law_1811 (by decide) (fun _ => ?_) (fun e9 => absurd (rfl) e9)
        refine z_lconst (v := 0) C dL_law_1818 (by decide) ?_
        refine z_lcmp C dL_law_1819 ?_
        refine z_if_eq (tgt := 1825) C dL_law_1820 (by decide) (fun _ => ?_) (fun e9 => absurd ((lgc (ov.trans (by decide)))) e9)
        refine z_goto (tgt := 2161) C dL_law_1825 (by decide) ?_
        exact Zs.up (by omega) (by omega) (Zs.mask [true, true, true, true, true, true, false, false, false] (kk _ (Stt.mk (loc := loc') P2 rfl I R (show tn (rM ρ) 4 ≤ n + 1 by omega))))
      · rw [if_neg hz] at ov ⊢
        refine z_istore C dL_law_1788 (zb rfl) ?_
        refine z_aload_n C dL_law_1790 rfl ?_
        refine z_rd (z_runV C kvX9_thrown lkL_133 kcX9 (k9_thrown hB P2) (P2.m) rfl rfl (zb rfl) (zb rfl) (by omega) (by omega) dL_law_1791) ?_
        refine z_iload C dL_law_1794 rfl ?_
        refine z_icmp_eq (tgt := 1801) C dL_law_1796 (by decide) (fun _ => ?_) (fun e9 => absurd (rfl) e9)
        refine z_iload C dL_law_1801 rfl ?_
        refine z_if_ne (tgt := 1825) C dL_law_1803 (by decide) (fun e9 => absurd e9 ((fun e => e rfl))) (fun _ => ?_)
        refine z_aload_n C dL_law_1806 rfl ?_
        refine z_iconst (v := 0) C dL_law_1807 (by decide) ?_
        refine z_lald C (P2.J) (in01) dL_law_1808 ?_
        refine z_iload C dL_law_1809 rfl ?_
        refine z_if_eq (tgt := 1818) C dL_law_1811 (by decide) (fun e9 => absurd e9 ((by decide))) (fun _ => ?_)
        refine z_lconst (v := 1) C dL_law_1814 (by decide) ?_
        refine z_goto (tgt := 1819) C dL_law_1815 (by decide) ?_
        refine z_lcmp C dL_law_1819 ?_
        refine z_if_eq (tgt := 1825) C dL_law_1820 (by decide) (fun _ => ?_) (fun e9 => absurd ((lgc (ov.trans (by decide)))) e9)
        refine z_goto (tgt := 2161) C dL_law_1825 (by decide) ?_
        exact Zs.up (by omega) (by omega) (Zs.mask [true, true, true, true, true, true, false, false, false] (kk _ (Stt.mk (loc := loc') P2 rfl I R (show tn (rM ρ) 4 ≤ n + 1 by omega))))
    · exact absurd (Rs.yes c1 c2 c3 hr2) hk2
  · refine z_istore C dL_law_1776 (zb rfl) ?_
    refine z_aload_n C dL_law_1778 rfl ?_
    refine z_aload_n C dL_law_1779 rfl ?_
    refine z_iload C dL_law_1780 rfl ?_
    refine z_iconst (v := 1) C dL_law_1782 (by decide) ?_
    refine z_iadd C dL_law_1783 ?_
    refine z_sld C S9 v1 dL_law_1784 ?_
    refine z_rn (z_runV C kvX9_hasArrived lkL_226 kcX9 (k9_hasArrived hB P' I R) (P'.m) rfl rfl (zb rfl) (zb rfl) (by omega) (by omega) dL_law_1785) (fun v9 h9 hv => ?_)
    rcases hv with ⟨c1, c2, c3, -, -⟩ | ⟨k2, w2, hr2, hk2, P2, rfl⟩
    · exact absurd (Rs.yes c1 c2 c3 hr) hk
    · refine z_istore C dL_law_1788 (zb rfl) ?_
      refine z_aload_n C dL_law_1790 rfl ?_
      refine z_rd (z_runV C kvX9_thrown lkL_133 kcX9 (k9_thrown hB P2) (P2.m) rfl rfl (zb rfl) (zb rfl) (by omega) (by omega) dL_law_1791) ?_
      refine z_iload C dL_law_1794 rfl ?_
      refine z_icmp_eq (tgt := 1801) C dL_law_1796 (by decide) (fun _ => ?_) (fun e9 => absurd ((Rs.uni hr2 hr)) e9)
      refine z_iload C dL_law_1801 rfl ?_
      refine z_if_ne (tgt := 1825) C dL_law_1803 (by decide) (fun _ => ?_) (fun e9 => absurd e9 (hk))
      refine z_goto (tgt := 2161) C dL_law_1825 (by decide) ?_
      exact Zs.up (by omega) (by omega) (Zs.mask [true, true, true, true, true, true, false, false, false] (kk _ (Stt.mk (loc := loc) P2 rfl I R (show tn (rM ρ) 4 ≤ n + 1 by omega))))
theorem w_isBreach (hB : Base G) (C : Cx G X RL cL_law 9 20 603072 7211114) (S9 : Sc G X LL xs) (v1 : vp_in (i + 1) LL) (v2 : vp_in (i + 2) LL) (v3 : vp_in (i + 3) LL) (hn : n < 512) (hu : uc + 20 ≤ 603072) (hs9 : us + 4400 ≤ 7211114) (S : Stt G h x m o d9 n) (kk : Nx G X uc us n x m o d9 i) : Zs G X 9 h uc us 1828 [some (.ref (gb G)), some (.ref x), some (.ref m), some (.ref o), some (.ref d9), some (.int i), none, none, none] [] := by
  obtain ⟨loc, ρ, P, I, R, h4, rfl, rfl, rfl, rfl⟩ := S
  have mm : tn (rM ρ) 4 < 512 := by omega
  refine z_aload_n C dL_law_1828 rfl ?_
  refine z_aload_n C dL_law_1829 rfl ?_
  refine z_iload C dL_law_1830 rfl ?_
  refine z_iconst (v := 1) C dL_law_1832 (by decide) ?_
  refine z_iadd C dL_law_1833 ?_
  refine z_sld C S9 v1 dL_law_1834 ?_
  refine z_aload_n C dL_law_1835 rfl ?_
  refine z_rn (z_runW C kwL_isBreach lkL_227 (l_isBreach hB P I) rfl rfl (zb rfl) (zb rfl) (by omega) (by omega) dL_law_1836) (fun v9 h9 hv => ?_)
  rcases lw_norm hv with ⟨c1, c2, c3, rfl, loc', f9, J9, Q9, hs', P', ov⟩ | ⟨k9, hr, hk, P', rfl⟩
  · rw [← hs'.a (show 0 < 7 by decide), ← hs'.a (show 4 < 7 by decide), ← hs'.a (show 5 < 7 by decide), ← hs'.a (show 6 < 7 by decide)] at kk ⊢
    refine z_istore C dL_law_1839 (zb rfl) ?_
    refine z_aload_n C dL_law_1841 rfl ?_
    refine z_aload_n C dL_law_1842 rfl ?_
    refine z_iload C dL_law_1843 rfl ?_
    refine z_iconst (v := 1) C dL_law_1845 (by decide) ?_
    refine z_iadd C dL_law_1846 ?_
    refine z_sld C S9 v1 dL_law_1847 ?_
    refine z_rn (z_runV C kvX9_isBreach lkL_229 kcX9 (k9_isBreach hB P' I R) (P'.m) rfl rfl (zb rfl) (zb rfl) (by omega) (by omega) dL_law_1848) (fun v9 h9 hv => ?_)
    rcases hv with ⟨-, -, -, P2, rfl⟩ | ⟨k2, w2, hr2, hk2, P2, rfl⟩
    · by_cases hz : told (rM ρ) (ix (xs (i + 1).toNatClampNeg)) = true
      · rw [if_pos hz] at ov ⊢
        refine z_istore C dL_law_1851 (zb rfl) ?_
        refine z_aload_n C dL_law_1853 rfl ?_
        refine z_rd (z_runV C kvX9_thrown lkL_133 kcX9 (k9_thrown hB P2) (P2.m) rfl rfl (zb rfl) (zb rfl) (by omega) (by omega) dL_law_1854) ?_
        refine z_iload C dL_law_1857 rfl ?_
        refine z_icmp_eq (tgt := 1864) C dL_law_1859 (by decide) (fun _ => ?_) (fun e9 => absurd (rfl) e9)
        refine z_iload C dL_law_1864 rfl ?_
        refine z_if_ne (tgt := 1888) C dL_law_1866 (by decide) (fun e9 => absurd e9 ((fun e => e rfl))) (fun _ => ?_)
        refine z_aload_n C dL_law_1869 rfl ?_
        refine z_iconst (v := 0) C dL_law_1870 (by decide) ?_
        refine z_lald C (P2.J) (in01) dL_law_1871 ?_
        refine z_iload C dL_law_1872 rfl ?_
        refine z_if_eq (tgt := 1881) C dL_law_1874 (by decide) (fun e9 => absurd e9 ((by decide))) (fun _ => ?_)
        refine z_lconst (v := 1) C dL_law_1877 (by decide) ?_
        refine z_goto (tgt := 1882) C dL_law_1878 (by decide) ?_
        refine z_lcmp C dL_law_1882 ?_
        refine z_if_eq (tgt := 1888) C dL_law_1883 (by decide) (fun _ => ?_) (fun e9 => absurd ((lgc (ov.trans (by decide)))) e9)
        refine z_goto (tgt := 2161) C dL_law_1888 (by decide) ?_
        exact Zs.up (by omega) (by omega) (Zs.mask [true, true, true, true, true, true, false, false, false] (kk _ (Stt.mk (loc := loc') P2 rfl I R (show tn (rM ρ) 4 ≤ n + 1 by omega))))
      · rw [if_neg hz] at ov ⊢
        refine z_istore C dL_law_1851 (zb rfl) ?_
        refine z_aload_n C dL_law_1853 rfl ?_
        refine z_rd (z_runV C kvX9_thrown lkL_133 kcX9 (k9_thrown hB P2) (P2.m) rfl rfl (zb rfl) (zb rfl) (by omega) (by omega) dL_law_1854) ?_
        refine z_iload C dL_law_1857 rfl ?_
        refine z_icmp_eq (tgt := 1864) C dL_law_1859 (by decide) (fun _ => ?_) (fun e9 => absurd (rfl) e9)
        refine z_iload C dL_law_1864 rfl ?_
        refine z_if_ne (tgt := 1888) C dL_law_1866 (by decide) (fun e9 => absurd e9 ((fun e => e rfl))) (fun _ => ?_)
        refine z_aload_n C dL_law_1869 rfl ?_
        refine z_iconst (v := 0) C dL_law_1870 (by decide) ?_
        refine z_lald C (P2.J) (in01) dL_law_1871 ?_
        refine z_iload C dL_law_1872 rfl ?_
        refine z_if_eq (tgt := 1881) C dL_law_1874 (by decide) (fun _ => ?_) (fun e9 => absurd (rfl) e9)
        refine z_lconst (v := 0) C dL_law_1881 (by decide) ?_
        refine z_lcmp C dL_law_1882 ?_
        refine z_if_eq (tgt := 1888) C dL_law_1883 (by decide) (fun _ => ?_) (fun e9 => absurd ((lgc (ov.trans (by decide)))) e9)
        refine z_goto (tgt := 2161) C dL_law_1888 (by decide) ?_
        exact Zs.up (by omega) (by omega) (Zs.mask [true, true, true, true, true, true, false, false, false] (kk _ (Stt.mk (loc := loc') P2 rfl I R (show tn (rM ρ) 4 ≤ n + 1 by omega))))
    · exact absurd (Rs.yes c1 c2 c3 hr2) hk2
  · refine z_istore C dL_law_1839 (zb rfl) ?_
    refine z_aload_n C dL_law_1841 rfl ?_
    refine z_aload_n C dL_law_1842 rfl ?_
    refine z_iload C dL_law_1843 rfl ?_
    refine z_iconst (v := 1) C dL_law_1845 (by decide) ?_
    refine z_iadd C dL_law_1846 ?_
    refine z_sld C S9 v1 dL_law_1847 ?_
    refine z_rn (z_runV C kvX9_isBreach lkL_229 kcX9 (k9_isBreach hB P' I R) (P'.m) rfl rfl (zb rfl) (zb rfl) (by omega) (by omega) dL_law_1848) (fun v9 h9 hv => ?_)
    rcases hv with ⟨c1, c2, c3, -, -⟩ | ⟨k2, w2, hr2, hk2, P2, rfl⟩
    · exact absurd (Rs.yes c1 c2 c3 hr) hk
    · refine z_istore C dL_law_1851 (zb rfl) ?_
      refine z_aload_n C dL_law_1853 rfl ?_
      refine z_rd (z_runV C kvX9_thrown lkL_133 kcX9 (k9_thrown hB P2) (P2.m) rfl rfl (zb rfl) (zb rfl) (by omega) (by omega) dL_law_1854) ?_
      refine z_iload C dL_law_1857 rfl ?_
      refine z_icmp_eq (tgt := 1864) C dL_law_1859 (by decide) (fun _ => ?_) (fun e9 => absurd ((Rs.uni hr2 hr)) e9)
      refine z_iload C dL_law_1864 rfl ?_
      refine z_if_ne (tgt := 1888) C dL_law_1866 (by decide) (fun _ => ?_) (fun e9 => absurd e9 (hk))
      refine z_goto (tgt := 2161) C dL_law_1888 (by decide) ?_
      exact Zs.up (by omega) (by omega) (Zs.mask [true, true, true, true, true, true, false, false, false] (kk _ (Stt.mk (loc := loc) P2 rfl I R (show tn (rM ρ) 4 ≤ n + 1 by omega))))
theorem w_breaches (hB : Base G) (C : Cx G X RL cL_law 9 20 603072 7211114) (S9 : Sc G X LL xs) (v1 : vp_in (i + 1) LL) (v2 : vp_in (i + 2) LL) (v3 : vp_in (i + 3) LL) (hn : n < 512) (hu : uc + 20 ≤ 603072) (hs9 : us + 4400 ≤ 7211114) (S : Stt G h x m o d9 n) (kk : Nx G X uc us n x m o d9 i) : Zs G X 9 h uc us 1891 [some (.ref (gb G)), some (.ref x), some (.ref m), some (.ref o), some (.ref d9), some (.int i), none, none, none] [] := by
  obtain ⟨loc, ρ, P, I, R, h4, rfl, rfl, rfl, rfl⟩ := S
  have mm : tn (rM ρ) 4 < 512 := by omega
  refine z_aload_n C dL_law_1891 rfl ?_
  refine z_rd (z_runV C kvX8_breaches lkL_230 kcX8 (k_breaches hB P) (P.x) rfl rfl (zb rfl) (zb rfl) (by omega) (by omega) dL_law_1892) ?_
  refine z_aload_n C dL_law_1895 rfl ?_
  refine z_rn (z_runV C kvX9_breaches lkL_233 kcX9 (k9_breaches hB P I R) (P.m) rfl rfl (zb rfl) (zb rfl) (by omega) (by omega) dL_law_1896) (fun v9 h9 hv => ?_)
  rcases hv with ⟨-, -, -, P2, rfl⟩ | ⟨k2, w2, hr2, hk2, -, -⟩
  · refine z_icmp_eq (tgt := 2161) C dL_law_1899 (by decide) (fun _ => ?_) (fun e9 => absurd ((rfl)) e9)
    exact Zs.up (by omega) (by omega) (Zs.mask [true, true, true, true, true, true, false, false, false] (kk _ (Stt.mk (loc := loc) P2 rfl I R (show tn (rM ρ) 4 ≤ n + 1 by omega))))
  · exact absurd (Rs.no hr2) hk2
theorem w_breachesAt (hB : Base G) (C : Cx G X RL cL_law 9 20 603072 7211114) (S9 : Sc G X LL xs) (v1 : vp_in (i + 1) LL) (v2 : vp_in (i + 2) LL) (v3 : vp_in (i + 3) LL) (hn : n < 512) (hu : uc + 20 ≤ 603072) (hs9 : us + 4400 ≤ 7211114) (S : Stt G h x m o d9 n) (kk : Nx G X uc us n x m o d9 i) : Zs G X 9 h uc us 1904 [some (.ref (gb G)), some (.ref x), some (.ref m), some (.ref o), some (.ref d9), some (.int i), none, none, none] [] := by
  obtain ⟨loc, ρ, P, I, R, h4, rfl, rfl, rfl, rfl⟩ := S
  have mm : tn (rM ρ) 4 < 512 := by omega
  refine z_aload_n C dL_law_1904 rfl ?_
  refine z_aload_n C dL_law_1905 rfl ?_
  refine z_iload C dL_law_1906 rfl ?_
  refine z_iconst (v := 1) C dL_law_1908 (by decide) ?_
  refine z_iadd C dL_law_1909 ?_
  refine z_sld C S9 v1 dL_law_1910 ?_
  refine z_aload_n C dL_law_1911 rfl ?_
  refine z_rn (z_runW C kwL_breachesAt lkL_234 (l_breachesAt hB P I) rfl rfl (zb rfl) (zb rfl) (by omega) (by omega) dL_law_1912) (fun v9 h9 hv => ?_)
  rcases lw_norm hv with ⟨c1, c2, c3, rfl, loc', f9, J9, Q9, hs', P', ov⟩ | ⟨k9, hr, hk, P', rfl⟩
  · rw [← hs'.a (show 0 < 7 by decide), ← hs'.a (show 4 < 7 by decide), ← hs'.a (show 5 < 7 by decide), ← hs'.a (show 6 < 7 by decide)] at kk ⊢
    refine z_istore C dL_law_1915 (zb rfl) ?_
    refine z_aload_n C dL_law_1917 rfl ?_
    refine z_aload_n C dL_law_1918 rfl ?_
    refine z_iload C dL_law_1919 rfl ?_
    refine z_iconst (v := 1) C dL_law_1921 (by decide) ?_
    refine z_iadd C dL_law_1922 ?_
    refine z_sld C S9 v1 dL_law_1923 ?_
    refine z_rn (z_runV C kvX9_breachesAt lkL_236 kcX9 (k9_breachesAt hB P' I R) (P'.m) rfl rfl (zb rfl) (zb rfl) (by omega) (by omega) dL_law_1924) (fun v9 h9 hv => ?_)
    rcases hv with ⟨-, -, -, P2, rfl⟩ | ⟨k2, w2, hr2, hk2, P2, rfl⟩
    · skip
      refine z_istore C dL_law_1927 (zb rfl) ?_
      refine z_aload_n C dL_law_1929 rfl ?_
      refine z_rd (z_runV C kvX9_thrown lkL_133 kcX9 (k9_thrown hB P2) (P2.m) rfl rfl (zb rfl) (zb rfl) (by omega) (by omega) dL_law_1930) ?_
      refine z_iload C dL_law_1933 rfl ?_
      refine z_icmp_eq (tgt := 1940) C dL_law_1935 (by decide) (fun _ => ?_) (fun e9 => absurd (rfl) e9)
      refine z_iload C dL_law_1940 rfl ?_
      refine z_if_ne (tgt := 1957) C dL_law_1942 (by decide) (fun e9 => absurd e9 ((fun e => e rfl))) (fun _ => ?_)
      refine z_aload_n C dL_law_1945 rfl ?_
      refine z_iconst (v := 0) C dL_law_1946 (by decide) ?_
      refine z_lald C (P2.J) (in01) dL_law_1947 ?_
      refine z_iload C dL_law_1948 rfl ?_
      refine z_i2l C dL_law_1950 ?_
      refine z_lcmp C dL_law_1951 ?_
      refine z_if_eq (tgt := 1957) C dL_law_1952 (by decide) (fun _ => ?_) (fun e9 => absurd ((lgc ov)) e9)
      refine z_goto (tgt := 2161) C dL_law_1957 (by decide) ?_
      exact Zs.up (by omega) (by omega) (Zs.mask [true, true, true, true, true, true, false, false, false] (kk _ (Stt.mk (loc := loc') P2 rfl I R (show tn (rM ρ) 4 ≤ n + 1 by omega))))
    · exact absurd (Rs.yes c1 c2 c3 hr2) hk2
  · refine z_istore C dL_law_1915 (zb rfl) ?_
    refine z_aload_n C dL_law_1917 rfl ?_
    refine z_aload_n C dL_law_1918 rfl ?_
    refine z_iload C dL_law_1919 rfl ?_
    refine z_iconst (v := 1) C dL_law_1921 (by decide) ?_
    refine z_iadd C dL_law_1922 ?_
    refine z_sld C S9 v1 dL_law_1923 ?_
    refine z_rn (z_runV C kvX9_breachesAt lkL_236 kcX9 (k9_breachesAt hB P' I R) (P'.m) rfl rfl (zb rfl) (zb rfl) (by omega) (by omega) dL_law_1924) (fun v9 h9 hv => ?_)
    rcases hv with ⟨c1, c2, c3, -, -⟩ | ⟨k2, w2, hr2, hk2, P2, rfl⟩
    · exact absurd (Rs.yes c1 c2 c3 hr) hk
    · refine z_istore C dL_law_1927 (zb rfl) ?_
      refine z_aload_n C dL_law_1929 rfl ?_
      refine z_rd (z_runV C kvX9_thrown lkL_133 kcX9 (k9_thrown hB P2) (P2.m) rfl rfl (zb rfl) (zb rfl) (by omega) (by omega) dL_law_1930) ?_
      refine z_iload C dL_law_1933 rfl ?_
      refine z_icmp_eq (tgt := 1940) C dL_law_1935 (by decide) (fun _ => ?_) (fun e9 => absurd ((Rs.uni hr2 hr)) e9)
      refine z_iload C dL_law_1940 rfl ?_
      refine z_if_ne (tgt := 1957) C dL_law_1942 (by decide) (fun _ => ?_) (fun e9 => absurd e9 (hk))
      refine z_goto (tgt := 2161) C dL_law_1957 (by decide) ?_
      exact Zs.up (by omega) (by omega) (Zs.mask [true, true, true, true, true, true, false, false, false] (kk _ (Stt.mk (loc := loc) P2 rfl I R (show tn (rM ρ) 4 ≤ n + 1 by omega))))
theorem w_delays (hB : Base G) (C : Cx G X RL cL_law 9 20 603072 7211114) (S9 : Sc G X LL xs) (v1 : vp_in (i + 1) LL) (v2 : vp_in (i + 2) LL) (v3 : vp_in (i + 3) LL) (hn : n < 512) (hu : uc + 20 ≤ 603072) (hs9 : us + 4400 ≤ 7211114) (S : Stt G h x m o d9 n) (kk : Nx G X uc us n x m o d9 i) : Zs G X 9 h uc us 1960 [some (.ref (gb G)), some (.ref x), some (.ref m), some (.ref o), some (.ref d9), some (.int i), none, none, none] [] := by
  obtain ⟨loc, ρ, P, I, R, h4, rfl, rfl, rfl, rfl⟩ := S
  have mm : tn (rM ρ) 4 < 512 := by omega
  refine z_aload_n C dL_law_1960 rfl ?_
  refine z_rd (z_runV C kvX8_delays lkL_237 kcX8 (k_delays hB P) (P.x) rfl rfl (zb rfl) (zb rfl) (by omega) (by omega) dL_law_1961) ?_
  refine z_aload_n C dL_law_1964 rfl ?_
  refine z_rn (z_runV C kvX9_delays lkL_240 kcX9 (k9_delays hB P I R) (P.m) rfl rfl (zb rfl) (zb rfl) (by omega) (by omega) dL_law_1965) (fun v9 h9 hv => ?_)
  rcases hv with ⟨-, -, -, P2, rfl⟩ | ⟨k2, w2, hr2, hk2, -, -⟩
  · refine z_lcmp C dL_law_1968 ?_
    refine z_if_eq (tgt := 2161) C dL_law_1969 (by decide) (fun _ => ?_) (fun e9 => absurd ((lgc rfl)) e9)
    exact Zs.up (by omega) (by omega) (Zs.mask [true, true, true, true, true, true, false, false, false] (kk _ (Stt.mk (loc := loc) P2 rfl I R (show tn (rM ρ) 4 ≤ n + 1 by omega))))
  · exact absurd (Rs.no hr2) hk2
theorem w_meanDelay (hB : Base G) (C : Cx G X RL cL_law 9 20 603072 7211114) (S9 : Sc G X LL xs) (v1 : vp_in (i + 1) LL) (v2 : vp_in (i + 2) LL) (v3 : vp_in (i + 3) LL) (hn : n < 512) (hu : uc + 20 ≤ 603072) (hs9 : us + 4400 ≤ 7211114) (S : Stt G h x m o d9 n) (kk : Nx G X uc us n x m o d9 i) : Zs G X 9 h uc us 1974 [some (.ref (gb G)), some (.ref x), some (.ref m), some (.ref o), some (.ref d9), some (.int i), none, none, none] [] := by
  obtain ⟨loc, ρ, P, I, R, h4, rfl, rfl, rfl, rfl⟩ := S
  have mm : tn (rM ρ) 4 < 512 := by omega
  refine z_aload_n C dL_law_1974 rfl ?_
  refine z_aload C dL_law_1975 rfl ?_
  refine z_rn (z_runW C kwL_meanDelay lkL_241 (l_meanDelay hB P I) rfl rfl (zb rfl) (zb rfl) (by omega) (by omega) dL_law_1977) (fun v9 h9 hv => ?_)
  rcases lw_norm hv with ⟨c1, c2, c3, rfl, loc', f9, J9, Q9, hs', P', ov⟩ | ⟨k9, hr, hk, P', rfl⟩
  · rw [← hs'.a (show 0 < 7 by decide), ← hs'.a (show 4 < 7 by decide), ← hs'.a (show 5 < 7 by decide), ← hs'.a (show 6 < 7 by decide)] at kk ⊢
    refine z_istore C dL_law_1980 (zb rfl) ?_
    refine z_aload_n C dL_law_1982 rfl ?_
    refine z_rn (z_runV C kvX9_meanDelay lkL_244 kcX9 (k9_meanDelay hB P' I R) (P'.m) rfl rfl (zb rfl) (zb rfl) (by omega) (by omega) dL_law_1983) (fun v9 h9 hv => ?_)
    rcases hv with ⟨-, -, -, P2, rfl⟩ | ⟨k2, w2, hr2, hk2, P2, rfl⟩
    · have hF := okD_eq (I.men c1).2
      refine z_dstore C dL_law_1986 (zb rfl) ?_
      refine z_aload_n C dL_law_1988 rfl ?_
      refine z_rd (z_runV C kvX9_thrown lkL_133 kcX9 (k9_thrown hB P2) (P2.m) rfl rfl (zb rfl) (zb rfl) (by omega) (by omega) dL_law_1989) ?_
      refine z_iload C dL_law_1992 rfl ?_
      refine z_icmp_eq (tgt := 1999) C dL_law_1994 (by decide) (fun _ => ?_) (fun e9 => absurd (rfl) e9)
      refine z_iload C dL_law_1999 rfl ?_
      refine z_if_ne (tgt := 2036) C dL_law_2001 (by decide) (fun e9 => absurd e9 ((fun e => e rfl))) (fun _ => ?_)
      refine z_aload C dL_law_2004 rfl ?_
      refine z_iconst (v := 0) C dL_law_2006 (by decide) ?_
      refine z_dald C (P2.Q) (in01) dL_law_2007 ?_
      refine z_dload C dL_law_2008 rfl ?_
      refine z_dcmp C dL_law_2010 ?_
      refine z_if_eq (tgt := 2036) C dL_law_2011 (by decide) (fun _ => ?_) (fun e9 => absurd ((cmpv ov hF)) e9)
      refine z_goto (tgt := 2161) C dL_law_2036 (by decide) ?_
      exact Zs.up (by omega) (by omega) (Zs.mask [true, true, true, true, true, true, false, false, false] (kk _ (Stt.mk (loc := loc') P2 rfl I R (show tn (rM ρ) 4 ≤ n + 1 by omega))))
    · exact absurd (Rs.yes c1 c2 c3 hr2) hk2
  · refine z_istore C dL_law_1980 (zb rfl) ?_
    refine z_aload_n C dL_law_1982 rfl ?_
    refine z_rn (z_runV C kvX9_meanDelay lkL_244 kcX9 (k9_meanDelay hB P' I R) (P'.m) rfl rfl (zb rfl) (zb rfl) (by omega) (by omega) dL_law_1983) (fun v9 h9 hv => ?_)
    rcases hv with ⟨c1, c2, c3, -, -⟩ | ⟨k2, w2, hr2, hk2, P2, rfl⟩
    · exact absurd (Rs.yes c1 c2 c3 hr) hk
    · refine z_dstore C dL_law_1986 (zb rfl) ?_
      refine z_aload_n C dL_law_1988 rfl ?_
      refine z_rd (z_runV C kvX9_thrown lkL_133 kcX9 (k9_thrown hB P2) (P2.m) rfl rfl (zb rfl) (zb rfl) (by omega) (by omega) dL_law_1989) ?_
      refine z_iload C dL_law_1992 rfl ?_
      refine z_icmp_eq (tgt := 1999) C dL_law_1994 (by decide) (fun _ => ?_) (fun e9 => absurd ((Rs.uni hr2 hr)) e9)
      refine z_iload C dL_law_1999 rfl ?_
      refine z_if_ne (tgt := 2036) C dL_law_2001 (by decide) (fun _ => ?_) (fun e9 => absurd e9 (hk))
      refine z_goto (tgt := 2161) C dL_law_2036 (by decide) ?_
      exact Zs.up (by omega) (by omega) (Zs.mask [true, true, true, true, true, true, false, false, false] (kk _ (Stt.mk (loc := loc) P2 rfl I R (show tn (rM ρ) 4 ≤ n + 1 by omega))))
theorem w_meanBits (hB : Base G) (C : Cx G X RL cL_law 9 20 603072 7211114) (S9 : Sc G X LL xs) (v1 : vp_in (i + 1) LL) (v2 : vp_in (i + 2) LL) (v3 : vp_in (i + 3) LL) (hn : n < 512) (hu : uc + 20 ≤ 603072) (hs9 : us + 4400 ≤ 7211114) (S : Stt G h x m o d9 n) (kk : Nx G X uc us n x m o d9 i) : Zs G X 9 h uc us 2039 [some (.ref (gb G)), some (.ref x), some (.ref m), some (.ref o), some (.ref d9), some (.int i), none, none, none] [] := by
  obtain ⟨loc, ρ, P, I, R, h4, rfl, rfl, rfl, rfl⟩ := S
  have mm : tn (rM ρ) 4 < 512 := by omega
  refine z_aload_n C dL_law_2039 rfl ?_
  refine z_aload_n C dL_law_2040 rfl ?_
  refine z_rn (z_runW C kwL_meanBits lkL_245 (l_meanBits hB P I) rfl rfl (zb rfl) (zb rfl) (by omega) (by omega) dL_law_2041) (fun v9 h9 hv => ?_)
  rcases lw_norm hv with ⟨c1, c2, c3, rfl, loc', f9, J9, Q9, hs', P', ov⟩ | ⟨k9, hr, hk, P', rfl⟩
  · rw [← hs'.a (show 0 < 7 by decide), ← hs'.a (show 4 < 7 by decide), ← hs'.a (show 5 < 7 by decide), ← hs'.a (show 6 < 7 by decide)] at kk ⊢
    refine z_istore C dL_law_2044 (zb rfl) ?_
    refine z_aload_n C dL_law_2046 rfl ?_
    refine z_rn (z_runV C kvX9_meanBits lkL_247 kcX9 (k9_meanBits hB P' I R) (P'.m) rfl rfl (zb rfl) (zb rfl) (by omega) (by omega) dL_law_2047) (fun v9 h9 hv => ?_)
    rcases hv with ⟨-, -, -, P2, rfl⟩ | ⟨k2, w2, hr2, hk2, P2, rfl⟩
    · skip
      refine z_lstore C dL_law_2050 (zb rfl) ?_
      refine z_aload_n C dL_law_2052 rfl ?_
      refine z_rd (z_runV C kvX9_thrown lkL_133 kcX9 (k9_thrown hB P2) (P2.m) rfl rfl (zb rfl) (zb rfl) (by omega) (by omega) dL_law_2053) ?_
      refine z_iload C dL_law_2056 rfl ?_
      refine z_icmp_eq (tgt := 2063) C dL_law_2058 (by decide) (fun _ => ?_) (fun e9 => absurd (rfl) e9)
      refine z_iload C dL_law_2063 rfl ?_
      refine z_if_ne (tgt := 2079) C dL_law_2065 (by decide) (fun e9 => absurd e9 ((fun e => e rfl))) (fun _ => ?_)
      refine z_aload_n C dL_law_2068 rfl ?_
      refine z_iconst (v := 0) C dL_law_2069 (by decide) ?_
      refine z_lald C (P2.J) (in01) dL_law_2070 ?_
      refine z_lload C dL_law_2071 rfl ?_
      refine z_lcmp C dL_law_2073 ?_
      refine z_if_eq (tgt := 2079) C dL_law_2074 (by decide) (fun _ => ?_) (fun e9 => absurd ((lgc ov)) e9)
      refine z_goto (tgt := 2161) C dL_law_2079 (by decide) ?_
      exact Zs.up (by omega) (by omega) (Zs.mask [true, true, true, true, true, true, false, false, false] (kk _ (Stt.mk (loc := loc') P2 rfl I R (show tn (rM ρ) 4 ≤ n + 1 by omega))))
    · exact absurd (Rs.yes c1 c2 c3 hr2) hk2
  · refine z_istore C dL_law_2044 (zb rfl) ?_
    refine z_aload_n C dL_law_2046 rfl ?_
    refine z_rn (z_runV C kvX9_meanBits lkL_247 kcX9 (k9_meanBits hB P' I R) (P'.m) rfl rfl (zb rfl) (zb rfl) (by omega) (by omega) dL_law_2047) (fun v9 h9 hv => ?_)
    rcases hv with ⟨c1, c2, c3, -, -⟩ | ⟨k2, w2, hr2, hk2, P2, rfl⟩
    · exact absurd (Rs.yes c1 c2 c3 hr) hk
    · refine z_lstore C dL_law_2050 (zb rfl) ?_
      refine z_aload_n C dL_law_2052 rfl ?_
      refine z_rd (z_runV C kvX9_thrown lkL_133 kcX9 (k9_thrown hB P2) (P2.m) rfl rfl (zb rfl) (zb rfl) (by omega) (by omega) dL_law_2053) ?_
      refine z_iload C dL_law_2056 rfl ?_
      refine z_icmp_eq (tgt := 2063) C dL_law_2058 (by decide) (fun _ => ?_) (fun e9 => absurd ((Rs.uni hr2 hr)) e9)
      refine z_iload C dL_law_2063 rfl ?_
      refine z_if_ne (tgt := 2079) C dL_law_2065 (by decide) (fun _ => ?_) (fun e9 => absurd e9 (hk))
      refine z_goto (tgt := 2161) C dL_law_2079 (by decide) ?_
      exact Zs.up (by omega) (by omega) (Zs.mask [true, true, true, true, true, true, false, false, false] (kk _ (Stt.mk (loc := loc) P2 rfl I R (show tn (rM ρ) 4 ≤ n + 1 by omega))))
theorem w_arrivedShare (hB : Base G) (C : Cx G X RL cL_law 9 20 603072 7211114) (S9 : Sc G X LL xs) (v1 : vp_in (i + 1) LL) (v2 : vp_in (i + 2) LL) (v3 : vp_in (i + 3) LL) (hn : n < 512) (hu : uc + 20 ≤ 603072) (hs9 : us + 4400 ≤ 7211114) (S : Stt G h x m o d9 n) (kk : Nx G X uc us n x m o d9 i) : Zs G X 9 h uc us 2082 [some (.ref (gb G)), some (.ref x), some (.ref m), some (.ref o), some (.ref d9), some (.int i), none, none, none] [] := by
  obtain ⟨loc, ρ, P, I, R, h4, rfl, rfl, rfl, rfl⟩ := S
  have mm : tn (rM ρ) 4 < 512 := by omega
  refine z_aload_n C dL_law_2082 rfl ?_
  refine z_aload C dL_law_2083 rfl ?_
  refine z_rn (z_runW C kwL_arrivedShare lkL_248 (l_arrivedShare hB P I) rfl rfl (zb rfl) (zb rfl) (by omega) (by omega) dL_law_2085) (fun v9 h9 hv => ?_)
  rcases lw_norm hv with ⟨c1, c2, c3, rfl, loc', f9, J9, Q9, hs', P', ov⟩ | ⟨k9, hr, hk, P', rfl⟩
  · rw [← hs'.a (show 0 < 7 by decide), ← hs'.a (show 4 < 7 by decide), ← hs'.a (show 5 < 7 by decide), ← hs'.a (show 6 < 7 by decide)] at kk ⊢
    refine z_istore C dL_law_2088 (zb rfl) ?_
    refine z_aload_n C dL_law_2090 rfl ?_
    refine z_rn (z_runV C kvX9_arrivedShare lkL_250 kcX9 (k9_arrivedShare hB P' I R) (P'.m) rfl rfl (zb rfl) (zb rfl) (by omega) (by omega) dL_law_2091) (fun v9 h9 hv => ?_)
    rcases hv with ⟨-, -, -, P2, rfl⟩ | ⟨k2, w2, hr2, hk2, P2, rfl⟩
    · have hF := fp_share (cnt_le (pArr (rM ρ)) (tn (rM ρ) 2)) (by omega) I.N.2.2.1
      refine z_fstore C dL_law_2094 (zb rfl) ?_
      refine z_aload_n C dL_law_2096 rfl ?_
      refine z_rd (z_runV C kvX9_thrown lkL_133 kcX9 (k9_thrown hB P2) (P2.m) rfl rfl (zb rfl) (zb rfl) (by omega) (by omega) dL_law_2097) ?_
      refine z_iload C dL_law_2100 rfl ?_
      refine z_icmp_eq (tgt := 2107) C dL_law_2102 (by decide) (fun _ => ?_) (fun e9 => absurd (rfl) e9)
      refine z_iload C dL_law_2107 rfl ?_
      refine z_if_ne (tgt := 2145) C dL_law_2109 (by decide) (fun e9 => absurd e9 ((fun e => e rfl))) (fun _ => ?_)
      refine z_aload C dL_law_2112 rfl ?_
      refine z_iconst (v := 0) C dL_law_2114 (by decide) ?_
      refine z_dald C (P2.Q) (in01) dL_law_2115 ?_
      refine z_fload C dL_law_2116 rfl ?_
      refine z_f2d C dL_law_2118 (hF.2.1) ?_
      refine z_dcmp C dL_law_2119 ?_
      refine z_if_eq (tgt := 2145) C dL_law_2120 (by decide) (fun _ => ?_) (fun e9 => absurd ((cmpv ov hF.2.2)) e9)
      refine z_goto (tgt := 2161) C dL_law_2145 (by decide) ?_
      exact Zs.up (by omega) (by omega) (Zs.mask [true, true, true, true, true, true, false, false, false] (kk _ (Stt.mk (loc := loc') P2 rfl I R (show tn (rM ρ) 4 ≤ n + 1 by omega))))
    · exact absurd (Rs.yes c1 c2 c3 hr2) hk2
  · refine z_istore C dL_law_2088 (zb rfl) ?_
    refine z_aload_n C dL_law_2090 rfl ?_
    refine z_rn (z_runV C kvX9_arrivedShare lkL_250 kcX9 (k9_arrivedShare hB P' I R) (P'.m) rfl rfl (zb rfl) (zb rfl) (by omega) (by omega) dL_law_2091) (fun v9 h9 hv => ?_)
    rcases hv with ⟨c1, c2, c3, -, -⟩ | ⟨k2, w2, hr2, hk2, P2, rfl⟩
    · exact absurd (Rs.yes c1 c2 c3 hr) hk
    · refine z_fstore C dL_law_2094 (zb rfl) ?_
      refine z_aload_n C dL_law_2096 rfl ?_
      refine z_rd (z_runV C kvX9_thrown lkL_133 kcX9 (k9_thrown hB P2) (P2.m) rfl rfl (zb rfl) (zb rfl) (by omega) (by omega) dL_law_2097) ?_
      refine z_iload C dL_law_2100 rfl ?_
      refine z_icmp_eq (tgt := 2107) C dL_law_2102 (by decide) (fun _ => ?_) (fun e9 => absurd ((Rs.uni hr2 hr)) e9)
      refine z_iload C dL_law_2107 rfl ?_
      refine z_if_ne (tgt := 2145) C dL_law_2109 (by decide) (fun _ => ?_) (fun e9 => absurd e9 (hk))
      refine z_goto (tgt := 2161) C dL_law_2145 (by decide) ?_
      exact Zs.up (by omega) (by omega) (Zs.mask [true, true, true, true, true, true, false, false, false] (kk _ (Stt.mk (loc := loc) P2 rfl I R (show tn (rM ρ) 4 ≤ n + 1 by omega))))
theorem w_isSound (hB : Base G) (C : Cx G X RL cL_law 9 20 603072 7211114) (S9 : Sc G X LL xs) (v1 : vp_in (i + 1) LL) (v2 : vp_in (i + 2) LL) (v3 : vp_in (i + 3) LL) (hn : n < 512) (hu : uc + 20 ≤ 603072) (hs9 : us + 4400 ≤ 7211114) (S : Stt G h x m o d9 n) (kk : Nx G X uc us n x m o d9 i) : Zs G X 9 h uc us 2148 [some (.ref (gb G)), some (.ref x), some (.ref m), some (.ref o), some (.ref d9), some (.int i), none, none, none] [] := by
  obtain ⟨loc, ρ, P, I, R, h4, rfl, rfl, rfl, rfl⟩ := S
  have mm : tn (rM ρ) 4 < 512 := by omega
  refine z_aload_n C dL_law_2148 rfl ?_
  refine z_rn (z_runV C kvX8_isSound lkL_251 kcX8 (k_isSound hB P I) (P.x) rfl rfl (zb rfl) (zb rfl) (by omega) (by omega) dL_law_2149) (fun v9 h9 hv => ?_)
  obtain ⟨⟨g9, P9⟩, rfl⟩ := hv
  refine z_aload_n C dL_law_2152 rfl ?_
  refine z_rn (z_runV C kvX9_isSound lkL_255 kcX9 (k9_isSound hB P9 I R) (P9.m) rfl rfl (zb rfl) (zb rfl) (by omega) (by omega) dL_law_2153) (fun v9 h9 hv => ?_)
  rcases hv with ⟨-, -, -, P2, rfl⟩ | ⟨k2, w2, hr2, hk2, -, -⟩
  · refine z_icmp_eq (tgt := 2161) C dL_law_2156 (by decide) (fun _ => ?_) (fun e9 => absurd ((rfl)) e9)
    exact Zs.up (by omega) (by omega) (Zs.mask [true, true, true, true, true, true, false, false, false] (kk _ (Stt.mk (loc := loc) P2 rfl I R (show tn (rM ρ) 4 ≤ n + 1 by omega))))
  · exact absurd (Rs.no hr2) hk2
end
