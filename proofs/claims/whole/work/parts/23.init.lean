/-! new T[n][m], and the constructors -/
theorem va_AOA.moved {t : FieldType} {u U : State} (hvm : u.vm.Alike U.vm) (h : va_AOA t u) : va_AOA t U := by
  unfold va_AOA Cond.before Cond.holds at h ⊢
  simp only [Cond.value, beq_iff_eq] at h ⊢
  cases hc : u.vm.findClass (FieldType.array t).toString with
  | none => rw [hc] at h; simp at h
  | some comp =>
    rw [hc] at h
    have f1 : U.vm.findClass (FieldType.array t).toString = some comp := by rw [hvm.findClass]; exact hc
    rw [f1]
    simp only [Option.bind_some, Option.bind_eq_some_iff, Option.map_eq_some_iff] at h ⊢
    obtain ⟨c, hi, k, hk, hb⟩ := h
    obtain ⟨k', hk', he⟩ := hvm.2.2 _ _ hk
    have e1 := va_idx_bare U.vm comp
    have e2 := va_idx_bare u.vm comp
    have e3 : U.vm.bare = u.vm.bare := by first | exact hvm.bare_eq | exact hvm.bare_eq.symm
    rw [e3] at e1
    have hi9 := e1.symm.trans (e2.trans hi)
    refine ⟨c, hi9, k', hk', ?_⟩
    have ek : k'.kind = k.kind := by rw [he]
    rw [ek, hvm.findClass]
    exact hb
/-- many places with one object -/
def hrows (h : Hp) (r : Nat → Nat) (N : Nat) (o : va_E) : Hp := fun b => if b ∈ (List.range N).map r then some o else h b
theorem hrows_in {h : Hp} {r : Nat → Nat} {N i : Nat} {o : va_E} (hi : i < N) : hrows h r N o (r i) = some o := if_pos (List.mem_map.mpr ⟨i, List.mem_range.mpr hi, rfl⟩)
theorem hrows_ne {h : Hp} {r : Nat → Nat} {N b : Nat} {o : va_E} (hb : ∀ i, i < N → r i ≠ b) : hrows h r N o b = h b := if_neg (fun q => by
  obtain ⟨i, hi, e⟩ := List.mem_map.mp q
  exact hb i (List.mem_range.mp hi) e)
section
variable {G : GT} {X : XT} {own : String} {cc : ByteArray} {nL k mc ms uc us pc : Nat} {h : Hp} {L : List (Option Value)} {st : List Value}
theorem z_multi {idx t t0 N K : Nat} {ty : FieldType} {z : vp_A} {vn vk : Int32} (C : Cx G X own cc nL k mc ms) (hcl : Cond.classLink own idx ("[" ++ (FieldType.array ty).toString) ∈ lw_tbl) (hao : Cond.arrayOver (.array ty) ∈ lw_tbl) (hac : Cond.arrayClass ty ∈ lw_tbl) (ht : (zty (gC G))[t]? = some (gC G t, .array ty)) (hy : (Xs X).vm.findClass (FieldType.array ty).toString = some (gC G t0))
    (hvn : vn = nI N) (hvk : vk = nI K) (hN : N < 1000) (hK : K < 1000) (hb : componentBytes ty ≤ 8) (hdf : fits ty (defaultValue ty) = true) (hdd : (defaultValue ty).isDefault = true) (hz : ∀ c : ClassId, Jvm.Free.Multi.innerC c K (defaultValue ty) = vp_cell c z) (h1 : uc + (1 + N) ≤ mc) (h2 : us + (N + N * K) ≤ ms) (d : decode cc pc = .ok (.multianewarray idx 2, 4))
    (kk : ∀ (q : Nat) (r : Nat → Nat) (h1 : Hp), h q = none → (∀ i, i < N → h (r i) = none ∧ r i ≠ q) → (∀ i j, i < N → j < N → r i = r j → i = j) → h1 = hrows (hup h q (.inl (gC G t, N, .inr (.inr (.inr (.inr (fun i => some (r i)))))))) r N (.inl (gC G t0, z)) → Zs G X nL h1 (uc + (1 + N)) (us + (N + N * K)) (pc + 4) L (.ref q :: st)) : Zs G X nL h uc us pc L (.int vk :: .int vn :: st) := by
  intro ls H locs cells slots hl hR hS hc hs
  have g1 := C.hc
  have g2 := C.hs
  subst hvn
  subst hvk
  have hov : va_AOA ty (Xs X) := va_AOA.moved C.hE.1.alike (show va_AOA ty (gs G) from C.hB.1 _ hao)
  have hm : K * componentBytes ty ≤ K * 8 := Nat.mul_le_mul_left K hb
  refine va_mna (X := wl h H.size) (L := []) (f := fun _ => .inr (0, [])) C.hx C.hb C.ho (C.w hcl rfl) hov (C.w hac rfl) hy C.K (by rw [show va_pl [] (fun _ => (.inr (0, []) : va_E)) = [] from rfl, List.append_nil]; exact hR.P) (by rw [show va_pl [] (fun _ => (.inr (0, []) : va_E)) = [] from rfl, List.append_nil]; exact hR.D) hS C.A (N' := N) (K' := K) (z := z) (nI_pos (by omega)) (nI_pos (by omega)) (nI_clamp (by omega)) (nI_clamp (by omega)) (by omega) (by omega) (by omega) hdf hdd (by omega) (by omega) hz d (fun q r cA H1 hri hrL hK2 hP hD hS1 => ?_)
  have e : cA = gC G t := by
    have k1 := (hK2.2 (zty (gC G)).length (cA, .array ty) (by rw [List.getElem?_append_right (Nat.le_refl _), Nat.sub_self]; rfl)).2
    have k2 := (C.K.2 t _ ht).2
    exact Option.some.inj (k1.symm.trans k2)
  subst e
  rw [List.nil_append] at hP hD
  -- where things lie in the list
  have iq : ((wl h H.size ++ [(q, (Sum.inl (gC G t, N, .inr (.inr (.inr (.inr (fun i => if i < N then some (r i) else none))))) : va_E))]) ++ va_pl ((List.range N).map r) (vr_up (fun _ => (.inr (0, []) : va_E)) ((List.range N).map r) (.inl (gC G t0, z))))[(wl h H.size).length]? = some (q, .inl (gC G t, N, .inr (.inr (.inr (.inr (fun i => if i < N then some (r i) else none)))))) := by
    rw [List.getElem?_append_left (by rw [List.length_append]; show _ < _ + 1; omega), List.getElem?_append_right (Nat.le_refl _), Nat.sub_self]
    rfl
  have ir : ∀ i, i < N → ∃ j, (wl h H.size).length < j ∧ ((wl h H.size ++ [(q, (Sum.inl (gC G t, N, .inr (.inr (.inr (.inr (fun i => if i < N then some (r i) else none))))) : va_E))]) ++ va_pl ((List.range N).map r) (vr_up (fun _ => (.inr (0, []) : va_E)) ((List.range N).map r) (.inl (gC G t0, z))))[j]? = some (r i, .inl (gC G t0, z)) := fun i hi => by
    have hmem : r i ∈ (List.range N).map r := List.mem_map.mpr ⟨i, List.mem_range.mpr hi, rfl⟩
    obtain ⟨j, hj⟩ := List.getElem?_of_mem (show (r i, vr_up (fun _ => (.inr (0, []) : va_E)) ((List.range N).map r) (.inl (gC G t0, z)) (r i)) ∈ va_pl ((List.range N).map r) (vr_up (fun _ => (.inr (0, []) : va_E)) ((List.range N).map r) (.inl (gC G t0, z))) from List.mem_map.mpr ⟨r i, hmem, rfl⟩)
    rw [vr_up_in hmem] at hj
    refine ⟨(wl h H.size).length + 1 + j, by omega, ?_⟩
    rw [List.getElem?_append_right (by rw [List.length_append]; show _ + 1 ≤ _; omega), List.length_append]
    show (va_pl _ _)[(wl h H.size).length + 1 + j - ((wl h H.size).length + 1)]? = _
    rw [Nat.add_sub_cancel_left]
    exact hj
  have iw : ∀ (b : Nat) (o : va_E), h b = some o → ∃ j, j < (wl h H.size).length ∧ ((wl h H.size ++ [(q, (Sum.inl (gC G t, N, .inr (.inr (.inr (.inr (fun i => if i < N then some (r i) else none))))) : va_E))]) ++ va_pl ((List.range N).map r) (vr_up (fun _ => (.inr (0, []) : va_E)) ((List.range N).map r) (.inl (gC G t0, z))))[j]? = some (b, o) := fun b o hb => by
    obtain ⟨j, hj⟩ := wl_at hb (hR.lt hb)
    have hlt := (List.getElem?_eq_some_iff.mp hj).1
    exact ⟨j, hlt, by rw [List.getElem?_append_left (by rw [List.length_append]; show _ < _ + 1; omega), List.getElem?_append_left hlt]; exact hj⟩
  have hq0 : h q = none := by
    cases hx : h q with
    | none => rfl
    | some o =>
      obtain ⟨j, hj, hj2⟩ := iw q o hx
      have := hD.1 _ _ _ _ hj2 iq rfl
      omega
  have hr0 : ∀ i, i < N → h (r i) = none ∧ r i ≠ q := fun i hi => by
    obtain ⟨j, hj, hj2⟩ := ir i hi
    refine ⟨?_, fun e => ?_⟩
    · cases hx : h (r i) with
      | none => rfl
      | some o =>
        obtain ⟨j9, hj9, hj92⟩ := iw (r i) o hx
        have := hD.1 _ _ _ _ hj92 hj2 rfl
        omega
    · have := hD.1 _ _ _ _ hj2 iq e
      omega
  have hR1 : Rep G (hrows (hup h q (.inl (gC G t, N, .inr (.inr (.inr (.inr (fun i => some (r i)))))))) r N (.inl (gC G t0, z))) H1 := by
    intro b o hb
    unfold hrows at hb
    split at hb
    · next hmem =>
      cases hb
      obtain ⟨i, hi, rfl⟩ := List.mem_map.mp hmem
      obtain ⟨j, -, hj2⟩ := ir i (List.mem_range.mp hi)
      exact ⟨hD.2 _ _ hj2, hP _ _ hj2⟩
    · by_cases eb : b = q
      · subst eb
        rw [hup_self] at hb
        cases hb
        refine ⟨hD.2 _ _ iq, ?_⟩
        have h9 := hP _ _ iq
        show H1[b]? = some (vp_cell _ _)
        have h8 : H1[b]? = some (vp_cell (gC G t) (N, .inr (.inr (.inr (.inr (fun i => if i < N then some (r i) else none)))))) := h9
        rw [h8, vp_cell_q, vp_cell_q]
        congr 1
        unfold arrV
        congr 1
        congr 1
        funext j
        show va_rf (if (j : Nat) < N then some (r j) else none) = va_rf (some (r j))
        rw [if_pos j.isLt]
      · rw [hup_ne eb] at hb
        obtain ⟨j, -, hj2⟩ := iw b o hb
        exact ⟨(hR b o hb).1, hP _ _ hj2⟩
  have e1 : cells + 1 + N ≤ uc + (1 + N) := by omega
  have e2 : slots + N + N * K ≤ us + (N + N * K) := by omega
  exact kk q r _ hq0 hr0 hri rfl ls H1 locs _ _ hl hR1 hS1 e1 e2
end
