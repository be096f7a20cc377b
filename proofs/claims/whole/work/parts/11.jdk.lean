/-! short forms of posts, and the JDK's methods -/
theorem zb {a b : Nat} (h : Nat.ble a b = true) : a ≤ b := Nat.le_of_ble_eq_true h
def rd (h : Hp) (v : Value) : Option Value → Hp → Prop := fun o h' => h = h' ∧ o = some v
def rv (h : Hp) : Option Value → Hp → Prop := fun o h' => h = h' ∧ o = none
def wr (h1 : Hp) : Option Value → Hp → Prop := fun o h' => h1 = h' ∧ o = none
def rc (c : Prop) (h : Hp) (v : Value) : Option Value → Hp → Prop := fun o h' => c ∧ h = h' ∧ o = some v
def rcv (c : Prop) (h : Hp) : Option Value → Hp → Prop := fun o h' => c ∧ h = h' ∧ o = none
def xc (c : Prop) (En : String) (h : Hp) : String → Hp → Prop := fun E h' => c ∧ h = h' ∧ E = En
theorem hup_hup (h : Hp) (a : Nat) (o o' : va_E) : hup (hup h a o) a o' = hup h a o' := by
  funext b
  by_cases e : b = a
  · rw [e, hup_self, hup_self]
  · rw [hup_ne e, hup_ne e, hup_ne e]
theorem hup_id {h : Hp} {a : Nat} {o : va_E} (e : h a = some o) : hup h a o = h := by
  funext b
  by_cases e1 : b = a
  · rw [e1, hup_self, e]
  · rw [hup_ne e1]
theorem hup_comm {h : Hp} {a b : Nat} {x y : va_E} (e : a ≠ b) : hup (hup h a x) b y = hup (hup h b y) a x := by
  funext c
  by_cases e1 : c = b
  · rw [e1, hup_self, hup_ne (Ne.symm e), hup_self]
  · rw [hup_ne e1]
    by_cases e2 : c = a
    · rw [e2, hup_self, hup_self]
    · rw [hup_ne e2, hup_ne e2, hup_ne e1]
section
variable {G : GT} {X : XT} {own : String} {cc : ByteArray} {nL k mc ms uc us pc mc2 ms2 : Nat} {h h1 : Hp} {L : List (Option Value)} {st st0 av : List Value} {c c2 : Prop} {v : Value} {En : String} {post2 : Option Value → Hp → Prop}
theorem z_rd (hr : ZRun G X nL h uc us mc2 ms2 pc L st0 st av (rd h v) noX) (kk : Zs G X nL h (uc + mc2) (us + ms2) (pc + 3) L (v :: st)) : Zs G X nL h uc us pc L st0 :=
  z_run hr (fun _ _ q => q.elim) (fun o h' hp => by obtain ⟨rfl, rfl⟩ := hp; exact kk)
theorem z_rv (hr : ZRun G X nL h uc us mc2 ms2 pc L st0 st av (rv h) noX) (kk : Zs G X nL h (uc + mc2) (us + ms2) (pc + 3) L st) : Zs G X nL h uc us pc L st0 :=
  z_run hr (fun _ _ q => q.elim) (fun o h' hp => by obtain ⟨rfl, rfl⟩ := hp; exact kk)
theorem z_wr (hr : ZRun G X nL h uc us mc2 ms2 pc L st0 st av (wr h1) noX) (kk : Zs G X nL h1 (uc + mc2) (us + ms2) (pc + 3) L st) : Zs G X nL h uc us pc L st0 :=
  z_run hr (fun _ _ q => q.elim) (fun o h' hp => by obtain ⟨rfl, rfl⟩ := hp; exact kk)
theorem z_rn (hr : ZRun G X nL h uc us mc2 ms2 pc L st0 st av post2 noX) (kk : ∀ (v : Option Value) (h' : Hp), post2 v h' → Zs G X nL h' (uc + mc2) (us + ms2) (pc + 3) L (v.toList ++ st)) : Zs G X nL h uc us pc L st0 :=
  z_run hr (fun _ _ q => q.elim) kk
theorem z_rc (hr : ZRun G X nL h uc us mc2 ms2 pc L st0 st av (rc c h v) (xc c2 En h)) (kx : c2 → Zx G X nL h (uc + mc2) (us + ms2) pc L st En) (kk : c → Zs G X nL h (uc + mc2) (us + ms2) (pc + 3) L (v :: st)) : Zs G X nL h uc us pc L st0 :=
  z_run hr (fun E h' q => by obtain ⟨q, rfl, rfl⟩ := q; exact kx q) (fun o h' hp => by obtain ⟨hp, rfl, rfl⟩ := hp; exact kk hp)
theorem z_rcv (hr : ZRun G X nL h uc us mc2 ms2 pc L st0 st av (rcv c h) (xc c2 En h)) (kx : c2 → Zx G X nL h (uc + mc2) (us + ms2) pc L st En) (kk : c → Zs G X nL h (uc + mc2) (us + ms2) (pc + 3) L st) : Zs G X nL h uc us pc L st0 :=
  z_run hr (fun E h' q => by obtain ⟨q, rfl, rfl⟩ := q; exact kx q) (fun o h' hp => by obtain ⟨hp, rfl, rfl⟩ := hp; exact kk hp)
/-- a loop up to N -/
theorem z_loop {I : Nat → Prop} (N : Nat) (step : ∀ i, i ≤ N → (i < N → I (i + 1)) → I i) : ∀ i, i ≤ N → I i := by
  have key : ∀ d i, i + d = N → I i := fun d => by
    induction d with
    | zero => exact fun i hi => step i (by omega) (fun q => by omega)
    | succ d ih => exact fun i hi => step i (by omega) (fun _ => ih (i + 1) (by omega))
  exact fun i hi => key (N - i) i (by omega)
end
section
variable {G : GT} {h : Hp}
theorem k_pre (hB : Base G) {i n : Int32} (h0 : ¬ i < 0) (h1 : i < n) : Ct G mJ3_checkIndex_8e157 1 0 0 [.int i, .int n, .null] h (rd h (.int i)) noX := by
  refine Ct.introF (m := 0) hB (by decide +kernel) (zb rfl) fun X C E => ?_
  refine z_iload_n C dJ3_checkIndex_8e157_0 rfl ?_
  refine z_if_lt (tgt := 9) C dJ3_checkIndex_8e157_1 (by decide) (fun e9 => absurd e9 (h0)) (fun _ => ?_)
  refine z_iload_n C dJ3_checkIndex_8e157_4 rfl ?_
  refine z_iload_n C dJ3_checkIndex_8e157_5 rfl ?_
  refine z_icmp_lt (tgt := 16) C dJ3_checkIndex_8e157_6 (by decide) (fun _ => ?_) (fun e9 => absurd (h1) e9)
  refine z_iload_n C dJ3_checkIndex_8e157_16 rfl ?_
  exact z_iret C E dJ3_checkIndex_8e157_17 (⟨rfl, rfl⟩) (zb rfl) (zb rfl)
theorem k_chk (hB : Base G) {i n : Int32} (h0 : ¬ i < 0) (h1 : i < n) : Ct G mJ15_checkIndex_7cf53 2 0 0 [.int i, .int n] h (rd h (.int i)) noX := by
  refine Ct.introF (m := 0) hB (by decide +kernel) (zb rfl) fun X C E => ?_
  refine z_iload_n C dJ15_checkIndex_7cf53_0 rfl ?_
  refine z_iload_n C dJ15_checkIndex_7cf53_1 rfl ?_
  refine z_null C dJ15_checkIndex_7cf53_2 ?_
  refine z_rd (z_runS C ksJ3_checkIndex_8e157 lkJ15_105 (k_pre hB h0 h1) rfl rfl (zb rfl) (zb rfl) (zb rfl) (zb rfl) dJ15_checkIndex_7cf53_3) ?_
  exact z_iret C E dJ15_checkIndex_7cf53_6 (⟨rfl, rfl⟩) (zb rfl) (zb rfl)
theorem k_max1 {k : Nat} (hk : k < 2 ^ 20) : (if (1 : Int32) < nI (k / 2) then nI (k / 2) else 1) = nI (max 1 (k / 2)) := by
  have e1 : (1 : Int32) = nI 1 := by decide
  rw [e1]
  by_cases e : 1 < k / 2
  · rw [if_pos ((nI_ltI (by omega) (by omega)).mpr e), Nat.max_eq_right (by omega)]
  · rw [if_neg (fun q => e ((nI_ltI (by omega) (by omega)).mp q)), Nat.max_eq_left (by omega)]
theorem k_newLength (hB : Base G) {x y z r : Int32} (hr : x + (if y < z then z else y) = r) (h0 : 0 < r) (h1 : r ≤ 2147483639) : Ct G mJ8_newLength_cabcc 1 0 0 [.int x, .int y, .int z] h (rd h (.int r)) noX := by
  refine Ct.introF (m := 1) hB (by decide +kernel) (zb rfl) fun X C E => ?_
  refine z_iload_n C dJ8_newLength_cabcc_0 rfl ?_
  refine z_iload_n C dJ8_newLength_cabcc_1 rfl ?_
  refine z_iload_n C dJ8_newLength_cabcc_2 rfl ?_
  refine z_mmax C lkJ8_194 st_max ini_J9 co_max (zb rfl) (zb rfl) (zb rfl) (zb rfl) dJ8_newLength_cabcc_3 ?_
  refine z_iadd C dJ8_newLength_cabcc_6 ?_
  rw [hr]
  have g0 : ¬ r ≤ 0 := by
    rw [Int32.not_le]; exact h0
  have g1 : ¬ (2147483639 : Int32) < r := by
    rw [Int32.not_lt]; exact h1
  refine z_istore_n C dJ8_newLength_cabcc_7 (zb rfl) ?_
  refine z_iconst (v := 0) C dJ8_newLength_cabcc_8 (by decide) ?_
  refine z_iload_n C dJ8_newLength_cabcc_9 rfl ?_
  refine z_icmp_ge (tgt := 21) C dJ8_newLength_cabcc_10 (by decide) (fun e9 => absurd e9 (g0)) (fun _ => ?_)
  refine z_iload_n C dJ8_newLength_cabcc_13 rfl ?_
  refine z_ldc C kstJ8_200 dJ8_newLength_cabcc_14 ?_
  refine z_icmp_gt (tgt := 21) C dJ8_newLength_cabcc_16 (by decide) (fun e9 => absurd e9 (g1)) (fun _ => ?_)
  refine z_iload_n C dJ8_newLength_cabcc_19 rfl ?_
  exact z_iret C E dJ8_newLength_cabcc_20 (⟨rfl, rfl⟩) (zb rfl) (zb rfl)
theorem k_size (hB : Base G) {a : Nat} {m n v : Value} {i : Int32} (ha : h a = some (.inr (0, [m, v, .int i]))) : Ct G mJx4a65c_size_8abf5 1 0 0 [.ref a] h (rd h (.int i)) noX := by
  refine Ct.introF (m := 0) hB (by decide +kernel) (zb rfl) fun X C E => ?_
  refine z_aload_n C dJx4a65c_size_8abf5_0 rfl ?_
  refine z_getf C kcJx4a65c flJx4a65c_48 (ha) rfl dJx4a65c_size_8abf5_1 ?_
  exact z_iret C E dJx4a65c_size_8abf5_4 (⟨rfl, rfl⟩) (zb rfl) (zb rfl)
theorem k_elem (hB : Base G) {a arr e cap : Nat} {m n : Value} {i : Int32} {f : Nat → Option Nat} (ha : h a = some (.inr (0, [m, .ref arr, n]))) (he : h arr = some (oO G cap f)) (hin : vp_in i cap) (hf : f i.toNatClampNeg = some e) : Ct G mJx4a65c_elementData_915e3 1 0 0 [.ref a, .int i] h (rd h (.ref e)) noX := by
  refine Ct.introF (m := 0) hB (by decide +kernel) (zb rfl) fun X C E => ?_
  refine z_aload_n C dJx4a65c_elementData_915e3_0 rfl ?_
  refine z_getf C kcJx4a65c flJx4a65c_9 (ha) rfl dJx4a65c_elementData_915e3_1 ?_
  refine z_iload_n C dJx4a65c_elementData_915e3_4 rfl ?_
  refine z_aaldO C (he) (hin) dJx4a65c_elementData_915e3_5 ?_
  rw [hf]
  exact z_aret C E (Or.inl ⟨_, rfl⟩) (Or.inr ⟨_, rfl⟩) dJx4a65c_elementData_915e3_6 (⟨rfl, rfl⟩) (zb rfl) (zb rfl)
theorem k_get (hB : Base G) {a arr e cap : Nat} {m : Value} {i n : Int32} {f : Nat → Option Nat} (ha : h a = some (.inr (0, [m, .ref arr, .int n]))) (he : h arr = some (oO G cap f)) (h0 : ¬ i < 0) (h1 : i < n) (hin : vp_in i cap) (hf : f i.toNatClampNeg = some e) : Ct G mJx4a65c_get_915e3 3 0 0 [.ref a, .int i] h (rd h (.ref e)) noX := by
  refine Ct.introF (m := 0) hB (by decide +kernel) (zb rfl) fun X C E => ?_
  refine z_iload_n C dJx4a65c_get_915e3_0 rfl ?_
  refine z_aload_n C dJx4a65c_get_915e3_1 rfl ?_
  refine z_getf C kcJx4a65c flJx4a65c_48 (ha) rfl dJx4a65c_get_915e3_2 ?_
  refine z_rd (z_runS C ksJ15_checkIndex_7cf53 lkJx4a65c_118 (k_chk hB h0 h1) rfl rfl (zb rfl) (zb rfl) (zb rfl) (zb rfl) dJx4a65c_get_915e3_5) ?_
  refine z_pop C dJx4a65c_get_915e3_8 rfl ?_
  refine z_aload_n C dJx4a65c_get_915e3_9 rfl ?_
  refine z_iload_n C dJx4a65c_get_915e3_10 rfl ?_
  refine z_rd (z_runV C kvJx4a65c_elementData_915e3 lkJx4a65c_123 kcJx4a65c (k_elem hB ha he hin hf) (ha) rfl rfl (zb rfl) (zb rfl) (zb rfl) (zb rfl) dJx4a65c_get_915e3_11) ?_
  exact z_aret C E (Or.inl ⟨_, rfl⟩) (Or.inr ⟨_, rfl⟩) dJx4a65c_get_915e3_14 (⟨rfl, rfl⟩) (zb rfl) (zb rfl)
theorem k_acInit (hB : Base G) {a : Nat} : Ct G mJxa1e45_init_da8c8 2 0 0 [.ref a] h (rv h) noX := by
  refine Ct.introF (m := 0) hB (by decide +kernel) (zb rfl) fun X C E => ?_
  refine z_aload_n C dJxa1e45_init_da8c8_0 rfl ?_
  refine z_objInit C lkJxa1e45_1 im_obj co_obj (zb rfl) (zb rfl) dJxa1e45_init_da8c8_1 ?_
  exact z_vret C E dJxa1e45_init_da8c8_4 (⟨rfl, rfl⟩) (zb rfl) (zb rfl)
theorem k_alInit (hB : Base G) {a : Nat} {m x n : Value} (ha : h a = some (.inr (0, [m, x, n]))) : Ct G mJxc12de_init_da8c8 3 0 0 [.ref a] h (wr (hup h a (.inr (0, [.int 0, x, n])))) noX := by
  refine Ct.introF (m := 0) hB (by decide +kernel) (zb rfl) fun X C E => ?_
  refine z_aload_n C dJxc12de_init_da8c8_0 rfl ?_
  refine z_rv (z_runI C kiJxa1e45_init_da8c8 (Or.inl lkJxc12de_1) (k_acInit hB) rfl rfl (zb rfl) (zb rfl) (zb rfl) (zb rfl) dJxc12de_init_da8c8_1) ?_
  refine z_aload_n C dJxc12de_init_da8c8_4 rfl ?_
  refine z_iconst (v := 0) C dJxc12de_init_da8c8_5 (by decide) ?_
  refine z_putf C kcJx4a65c flJxc12de_7 (ha) rfl (rfl) (rfl) (zb rfl) dJxc12de_init_da8c8_6 ?_
  intro _ e8; subst e8
  exact z_vret C E dJxc12de_init_da8c8_9 (⟨rfl, rfl⟩) (zb rfl) (zb rfl)
theorem k_listInit (hB : Base G) {a : Nat} {m x n : Value} (ha : h a = some (.inr (0, [m, x, n]))) : Ct G mJx4a65c_init_da8c8 4 0 0 [.ref a] h (wr (hup h a (.inr (0, [.int 0, .ref (gd G), n])))) noX := by
  refine Ct.introF (m := 0) hB (by decide +kernel) (zb rfl) fun X C E => ?_
  refine z_aload_n C dJx4a65c_init_da8c8_0 rfl ?_
  refine z_wr (z_runI C kiJxc12de_init_da8c8 (Or.inl lkJx4a65c_1) (k_alInit hB ha) rfl rfl (zb rfl) (zb rfl) (zb rfl) (zb rfl) dJx4a65c_init_da8c8_1) ?_
  refine z_aload_n C dJx4a65c_init_da8c8_4 rfl ?_
  refine z_getsD C fl_empty dJx4a65c_init_da8c8_5 ?_
  refine z_putf C kcJx4a65c flJx4a65c_9 (hup_self _ _ _) rfl (rfl) (rfl) (zb rfl) dJx4a65c_init_da8c8_8 ?_
  intro _ e8; subst e8
  exact z_vret C E dJx4a65c_init_da8c8_11 (⟨(hup_hup _ _ _ _).symm, rfl⟩) (zb rfl) (zb rfl)
/-- the capacity of a list that has had n elements added -/
def cpf : Nat → Nat
  | 0 => 0
  | k + 1 => if k < cpf k then cpf k else if k = 0 then 10 else k + max 1 (k / 2)
theorem cpf_le : ∀ n : Nat, n ≤ cpf n ∧ cpf n ≤ 2 * n + 10
  | 0 => by simp [cpf]
  | k + 1 => by
    have ih := cpf_le k
    unfold cpf
    split
    · omega
    · split <;> omega
theorem k_copy3 (hB : Base G) {ci : Nat} {Cn : String} {T : u_T} {N9 : Nat} {ty : Nat → FieldType} (kc : KC ci Cn T N9 ty) (hca : Cond.castable Cn "java/lang/Object" ∈ lw_tbl) {a n0 n mi : Nat} {f : Nat → Option Nat} {v : Int32} (hM : va_Mi "[Ljava/lang/Object;" mi (gs G)) (ha : h a = some (oO G n0 f)) (hv : v = nI n) (hn : n0 ≤ n) (hn2 : n < 4000)
    (hf : ∀ i, n0 ≤ i → f i = none) (hel : ∀ i, i < n0 → ∀ y, f i = some y → ∃ fs, h y = some (.inr (ci, fs))) : Ct G mJ7_copyOf_6403c 1 1 4000 [.ref a, .int v, .ref mi] h (fun o h' => ∃ q, h q = none ∧ h' = hup h q (oO G n f) ∧ o = some (.ref q)) noX := by
  refine Ct.introF (m := 1) hB (by decide +kernel) (zb rfl) fun X C E => ?_
  refine z_aload_n C dJ7_copyOf_6403c_0 rfl ?_
  refine z_ldcM C (hM) clJ7_110 dJ7_copyOf_6403c_1 ?_
  refine z_acmp_neR (tgt := 13) C dJ7_copyOf_6403c_3 (by decide) (fun e9 => absurd e9 ((fun e => e rfl))) (fun _ => ?_)
  refine z_iload_n C dJ7_copyOf_6403c_6 rfl ?_
  refine z_newO C clJ7_2 ao_object (hv) ((by omega)) (zb rfl) ((by omega)) dJ7_copyOf_6403c_7 ?_
  intro q1 _ hq1 e8; subst e8
  refine Zs.up (uc' := 1) (us' := 4000) (by omega) (by omega) ?_
  have g0 : hup h q1 (oO G n (fun _ => none)) a = some (oO G n0 f) := hup_n hq1 ha
  refine z_goto (tgt := 24) C dJ7_copyOf_6403c_10 (by decide) ?_
  refine z_astore_n C dJ7_copyOf_6403c_24 (zb rfl) ?_
  refine z_aload_n C dJ7_copyOf_6403c_25 rfl ?_
  refine z_iconst (v := 0) C dJ7_copyOf_6403c_26 (by decide) ?_
  refine z_aload_n C dJ7_copyOf_6403c_27 rfl ?_
  refine z_iconst (v := 0) C dJ7_copyOf_6403c_28 (by decide) ?_
  refine z_aload_n C dJ7_copyOf_6403c_29 rfl ?_
  refine z_alen C rfl (g0) dJ7_copyOf_6403c_30 ?_
  refine z_iload_n C dJ7_copyOf_6403c_31 rfl ?_
  have e1 : (if v < nI n0 then v else nI n0) = nI n0 := by
    rw [hv]
    by_cases e : n < n0
    · omega
    · rw [if_neg (fun q => e ((nI_ltI (by omega) (by omega)).mp q))]
  refine z_mmin C lkJ7_304 st_min ini_J9 co_min (zb rfl) (zb rfl) (zb rfl) (zb rfl) dJ7_copyOf_6403c_32 ?_
  rw [e1]
  have e2 : va_cpy f (fun _ => none) 0 0 n0 = f := by
    funext i
    unfold va_cpy
    by_cases hi : i < n0
    · rw [if_pos (by omega)]; congr 1; omega
    · rw [if_neg (by omega), hf i (by omega)]
  refine z_copy C kc hca lkJ7_150 na_arraycopy st_arraycopy ini_J10 g0 (hup_self _ _ _) rfl (Nat.le_refl _) hn (by omega) (fun i hi y hy => (hel i hi y hy).imp (fun fs hfs => hup_n hq1 hfs)) (zb rfl) (zb rfl) dJ7_copyOf_6403c_35 ?_
  intro _ e8; subst e8
  rw [e2]
  refine z_aload_n C dJ7_copyOf_6403c_38 rfl ?_
  exact z_aret C E (Or.inr ⟨_, rfl⟩) (Or.inr ⟨_, rfl⟩) dJ7_copyOf_6403c_39 (⟨q1, hq1, hup_hup _ _ _ _, rfl⟩) (zb rfl) (zb rfl)
theorem k_copy2 (hB : Base G) {ci : Nat} {Cn : String} {T : u_T} {N9 : Nat} {ty : Nat → FieldType} (kc : KC ci Cn T N9 ty) (hca : Cond.castable Cn "java/lang/Object" ∈ lw_tbl) {a n0 n : Nat} {f : Nat → Option Nat} {v : Int32} (ha : h a = some (oO G n0 f)) (hv : v = nI n) (hn : n0 ≤ n) (hn2 : n < 4000)
    (hf : ∀ i, n0 ≤ i → f i = none) (hel : ∀ i, i < n0 → ∀ y, f i = some y → ∃ fs, h y = some (.inr (ci, fs))) : Ct G mJ7_copyOf_1904c 2 1 4000 [.ref a, .int v] h (fun o h' => ∃ q, h q = none ∧ h' = hup h q (oO G n f) ∧ o = some (.ref q)) noX := by
  refine Ct.introF (m := 0) hB (by decide +kernel) (zb rfl) fun X C E => ?_
  obtain ⟨mi, hM, -⟩ := C.mirror
  refine z_aload_n C dJ7_copyOf_1904c_0 rfl ?_
  refine z_iload_n C dJ7_copyOf_1904c_1 rfl ?_
  refine z_aload_n C dJ7_copyOf_1904c_2 rfl ?_
  refine z_getCls C (hM) lkJ7_86 de_getClass se_getClass im_getClass na_getClass (ha) (zb rfl) (zb rfl) dJ7_copyOf_1904c_3 ?_
  refine z_rn (z_runS C ksJ7_copyOf_6403c lkJ7_300 (k_copy3 hB kc hca hM ha hv hn hn2 hf hel) rfl rfl (zb rfl) (zb rfl) (zb rfl) (zb rfl) dJ7_copyOf_1904c_6) (fun v9 h9 hv => ?_)
  obtain ⟨q, hq, rfl, rfl⟩ := hv
  exact z_aret C E (Or.inr ⟨_, rfl⟩) (Or.inr ⟨_, rfl⟩) dJ7_copyOf_1904c_9 (⟨q, hq, rfl, rfl⟩) (zb rfl) (zb rfl)
theorem k_half {k : Nat} (hk : k < 2 ^ 31) : nI k >>> (1 &&& 31) = nI (k / 2) := pk_shrN hk _ 1 (by decide)
theorem cpf_grow {k : Nat} (hk : k = cpf k) : cpf (k + 1) = if k = 0 then 10 else k + max 1 (k / 2) := by
  rw [show cpf (k + 1) = if k < cpf k then cpf k else if k = 0 then 10 else k + max 1 (k / 2) from rfl, if_neg (by omega)]
/-- grow(int): a bigger array, the elements in it -/
theorem k_grow1 (hB : Base G) {ci : Nat} {Cn : String} {T : u_T} {N9 : Nat} {ty : Nat → FieldType} (kc : KC ci Cn T N9 ty) (hca : Cond.castable Cn "java/lang/Object" ∈ lw_tbl) {a arr k : Nat} {f : Nat → Option Nat} {v : Int32} {m s : Value} (ha : h a = some (.inr (0, [m, .ref arr, s]))) (hk : k = cpf k) (hk2 : k ≤ 600) (hv : v = nI (k + 1)) (harr : (k = 0 ∧ arr = gd G) ∨ (0 < k ∧ h arr = some (oO G (cpf k) f)))
    (hf : ∀ i, k ≤ i → f i = none) (hel : ∀ i, i < k → ∀ y, f i = some y → ∃ fs, h y = some (.inr (ci, fs))) : Ct G mJx4a65c_grow_92f84 3 1 4000 [.ref a, .int v] h (fun o h' => ∃ q, h q = none ∧ h' = hup (hup h q (oO G (cpf (k + 1)) f)) a (.inr (0, [m, .ref q, s])) ∧ o = some (.ref q)) noX := by
  refine Ct.introF (m := 2) hB (by decide +kernel) (zb rfl) fun X C E => ?_
  have hc := cpf_le (k + 1)
  rcases harr with ⟨rfl, rfl⟩ | ⟨h0, harr⟩
  · have e1 : (if (10 : Int32) < v then v else 10) = nI 10 := by rw [hv]; decide
    have e2 : f = fun _ => none := funext fun i => hf i (Nat.zero_le _)
    refine z_aload_n C dJx4a65c_grow_92f84_0 rfl ?_
    refine z_getf C kcJx4a65c flJx4a65c_9 (ha) rfl dJx4a65c_grow_92f84_1 ?_
    refine z_alenD C dJx4a65c_grow_92f84_4 ?_
    refine z_istore_n C dJx4a65c_grow_92f84_5 (zb rfl) ?_
    refine z_iload_n C dJx4a65c_grow_92f84_6 rfl ?_
    refine z_if_gt (tgt := 20) C dJx4a65c_grow_92f84_7 (by decide) (fun e9 => absurd e9 ((by decide))) (fun _ => ?_)
    refine z_aload_n C dJx4a65c_grow_92f84_10 rfl ?_
    refine z_getf C kcJx4a65c flJx4a65c_9 (ha) rfl dJx4a65c_grow_92f84_11 ?_
    refine z_getsD C fl_empty dJx4a65c_grow_92f84_14 ?_
    refine z_acmp_eqR (tgt := 45) C dJx4a65c_grow_92f84_17 (by decide) (fun _ => ?_) (fun e9 => absurd (rfl) e9)
    refine z_aload_n C dJx4a65c_grow_92f84_45 rfl ?_
    refine z_bipush (v := 10) C dJx4a65c_grow_92f84_46 (by decide) ?_
    refine z_iload_n C dJx4a65c_grow_92f84_48 rfl ?_
    refine z_mmax C lkJx4a65c_79 st_max ini_J9 co_max (zb rfl) (zb rfl) (zb rfl) (zb rfl) dJx4a65c_grow_92f84_49 ?_
    rw [e1]
    refine z_newO C clJx4a65c_7 ao_object (rfl) ((by omega)) (zb rfl) ((zb rfl)) dJx4a65c_grow_92f84_52 ?_
    intro q1 _ hq1 e8; subst e8
    refine z_dup_x1 C dJx4a65c_grow_92f84_55 rfl rfl ?_
    refine z_putf C kcJx4a65c flJx4a65c_9 (hup_n hq1 ha) rfl (rfl) (rfl) (zb rfl) dJx4a65c_grow_92f84_56 ?_
    intro _ e8; subst e8
    exact z_aret C E (Or.inr ⟨_, rfl⟩) (Or.inr ⟨_, rfl⟩) dJx4a65c_grow_92f84_59 (⟨q1, hq1, by rw [e2]; rfl, rfl⟩) (zb rfl) (zb rfl)
  · have e1 : nI k + (if nI (k + 1) - nI k < nI k >>> (1 &&& 31) then nI k >>> (1 &&& 31) else nI (k + 1) - nI k) = nI (k + max 1 (k / 2)) := by
      have e3 : nI (k + 1) - nI k = 1 := by
        rw [nI_succ, Int32.add_comm]
        exact Int32.add_sub_cancel _ _
      rw [k_half (by omega), e3, k_max1 (by omega), nI_add]
    have e2 : cpf (k + 1) = k + max 1 (k / 2) := by rw [cpf_grow hk, if_neg (by omega)]
    have hne : h a = some (.inr (0, [m, .ref arr, s])) := ha
    have g1 : ¬ nI (cpf k) ≤ 0 := nI_nle (by omega) (by omega)
    have g2 : 0 < nI (cpf k) := Int32.not_le.mp g1
    rw [← hk] at harr g1 g2
    have g3 : 0 < nI (k + max 1 (k / 2)) := Int32.not_le.mp (nI_nle (by omega) (by omega))
    have g4 : nI (k + max 1 (k / 2)) ≤ 2147483639 := by
      rw [show (2147483639 : Int32) = nI 2147483639 by decide]
      exact nI_le (by omega) (by omega)
    subst hv
    refine z_aload_n C dJx4a65c_grow_92f84_0 rfl ?_
    refine z_getf C kcJx4a65c flJx4a65c_9 (ha) rfl dJx4a65c_grow_92f84_1 ?_
    refine z_alen C rfl (harr) dJx4a65c_grow_92f84_4 ?_
    refine z_istore_n C dJx4a65c_grow_92f84_5 (zb rfl) ?_
    refine z_iload_n C dJx4a65c_grow_92f84_6 rfl ?_
    refine z_if_gt (tgt := 20) C dJx4a65c_grow_92f84_7 (by decide) (fun _ => ?_) (fun e9 => absurd (g2) e9)
    refine z_iload_n C dJx4a65c_grow_92f84_20 rfl ?_
    refine z_iload_n C dJx4a65c_grow_92f84_21 rfl ?_
    refine z_iload_n C dJx4a65c_grow_92f84_22 rfl ?_
    refine z_isub C dJx4a65c_grow_92f84_23 ?_
    refine z_iload_n C dJx4a65c_grow_92f84_24 rfl ?_
    refine z_iconst (v := 1) C dJx4a65c_grow_92f84_25 (by decide) ?_
    refine z_ishr C dJx4a65c_grow_92f84_26 ?_
    refine z_rd (z_runS C ksJ8_newLength_cabcc lkJx4a65c_73 (k_newLength hB e1 g3 g4) rfl rfl (zb rfl) (zb rfl) (zb rfl) (zb rfl) dJx4a65c_grow_92f84_27) ?_
    refine z_istore_n C dJx4a65c_grow_92f84_30 (zb rfl) ?_
    refine z_aload_n C dJx4a65c_grow_92f84_31 rfl ?_
    refine z_aload_n C dJx4a65c_grow_92f84_32 rfl ?_
    refine z_getf C kcJx4a65c flJx4a65c_9 (ha) rfl dJx4a65c_grow_92f84_33 ?_
    refine z_iload_n C dJx4a65c_grow_92f84_36 rfl ?_
    refine z_rn (z_runS C ksJ7_copyOf_1904c lkJx4a65c_66 (k_copy2 hB kc hca harr rfl (by omega) (by omega) hf hel) rfl rfl (zb rfl) (zb rfl) (zb rfl) (zb rfl) dJx4a65c_grow_92f84_37) (fun v9 h9 hv => ?_)
    obtain ⟨q, hq, rfl, rfl⟩ := hv
    refine z_dup_x1 C dJx4a65c_grow_92f84_40 rfl rfl ?_
    refine z_putf C kcJx4a65c flJx4a65c_9 (hup_n hq ha) rfl (rfl) (rfl) (zb rfl) dJx4a65c_grow_92f84_41 ?_
    intro _ e8; subst e8
    exact z_aret C E (Or.inr ⟨_, rfl⟩) (Or.inr ⟨_, rfl⟩) dJx4a65c_grow_92f84_44 (⟨q, hq, by rw [e2]; rfl, rfl⟩) (zb rfl) (zb rfl)
theorem k_grow0 (hB : Base G) {ci : Nat} {Cn : String} {T : u_T} {N9 : Nat} {ty : Nat → FieldType} (kc : KC ci Cn T N9 ty) (hca : Cond.castable Cn "java/lang/Object" ∈ lw_tbl) {a arr k : Nat} {f : Nat → Option Nat} {m : Value} (ha : h a = some (.inr (0, [m, .ref arr, .int (nI k)]))) (hk : k = cpf k) (hk2 : k ≤ 600) (harr : (k = 0 ∧ arr = gd G) ∨ (0 < k ∧ h arr = some (oO G (cpf k) f)))
    (hf : ∀ i, k ≤ i → f i = none) (hel : ∀ i, i < k → ∀ y, f i = some y → ∃ fs, h y = some (.inr (ci, fs))) : Ct G mJx4a65c_grow_d5877 4 1 4000 [.ref a] h (fun o h' => ∃ q, h q = none ∧ h' = hup (hup h q (oO G (cpf (k + 1)) f)) a (.inr (0, [m, .ref q, .int (nI k)])) ∧ o = some (.ref q)) noX := by
  refine Ct.introF (m := 0) hB (by decide +kernel) (zb rfl) fun X C E => ?_
  refine z_aload_n C dJx4a65c_grow_d5877_0 rfl ?_
  refine z_aload_n C dJx4a65c_grow_d5877_1 rfl ?_
  refine z_getf C kcJx4a65c flJx4a65c_48 (ha) rfl dJx4a65c_grow_d5877_2 ?_
  refine z_iconst (v := 1) C dJx4a65c_grow_d5877_5 (by decide) ?_
  refine z_iadd C dJx4a65c_grow_d5877_6 ?_
  refine z_rn (z_runV C kvJx4a65c_grow_92f84 lkJx4a65c_69 kcJx4a65c (k_grow1 hB kc hca ha hk hk2 (nI_1 k) harr hf hel) (ha) rfl rfl (zb rfl) (zb rfl) (zb rfl) (zb rfl) dJx4a65c_grow_d5877_7) (fun v9 h9 hv => ?_)
  obtain ⟨q, hq, rfl, rfl⟩ := hv
  exact z_aret C E (Or.inr ⟨_, rfl⟩) (Or.inr ⟨_, rfl⟩) dJx4a65c_grow_d5877_10 (⟨q, hq, rfl, rfl⟩) (zb rfl) (zb rfl)
/-- the inner add -/
theorem k_add3 (hB : Base G) {ci : Nat} {Cn : String} {T : u_T} {N9 : Nat} {ty : Nat → FieldType} (kc : KC ci Cn T N9 ty) (hca : Cond.castable Cn "java/lang/Object" ∈ lw_tbl) {a arr k x : Nat} {f : Nat → Option Nat} {m : Value} {xs : List Value} (ha : h a = some (.inr (0, [m, .ref arr, .int (nI k)]))) (hk2 : k ≤ 600) (harr : (k = 0 ∧ arr = gd G) ∨ (0 < k ∧ h arr = some (oO G (cpf k) f)))
    (hf : ∀ i, k ≤ i → f i = none) (hel : ∀ i, i < k → ∀ y, f i = some y → ∃ fs, h y = some (.inr (ci, fs))) (hx : h x = some (.inr (ci, xs))) (hxa : x ≠ a) :
    Ct G mJx4a65c_add_72be8 5 1 4000 [.ref a, .ref x, .ref arr, .int (nI k)] h (fun o h' => ∃ q, ((q = arr ∧ 0 < k) ∨ h q = none) ∧ h' = hup (hup h q (oO G (cpf (k + 1)) (va_up f k (some x)))) a (.inr (0, [m, .ref q, .int (nI (k + 1))])) ∧ o = none) noX := by
  refine Ct.introF (m := 0) hB (by decide +kernel) (zb rfl) fun X C E => ?_
  have hc := cpf_le k
  have hc1 := cpf_le (k + 1)
  have grown : k = cpf k → Zs G X 4 h 0 0 6 [some (.ref a), some (.ref x), some (.ref arr), some (.int (nI k))] [] := fun hk => by
    refine z_aload_n C dJx4a65c_add_72be8_6 rfl ?_
    refine z_rn (z_runV C kvJx4a65c_grow_d5877 lkJx4a65c_129 kcJx4a65c (k_grow0 hB kc hca ha hk hk2 harr hf hel) (ha) rfl rfl (zb rfl) (zb rfl) (zb rfl) (zb rfl) dJx4a65c_add_72be8_7) (fun v9 h9 hv => ?_)
    obtain ⟨q, hq, rfl, rfl⟩ := hv
    have hqa : q ≠ a := (h_nn ha hq).symm
    have hqx : q ≠ x := (h_nn hx hq).symm
    have g1 : hup (hup h q (oO G (cpf (k + 1)) f)) a (.inr (0, [m, .ref q, .int (nI k)])) q = some (oO G (cpf (k + 1)) f) := by rw [hup_ne hqa, hup_self]
    have g2 : hup (hup h q (oO G (cpf (k + 1)) f)) a (.inr (0, [m, .ref q, .int (nI k)])) x = some (.inr (ci, xs)) := by rw [hup_ne hxa, hup_ne (Ne.symm hqx), hx]
    refine z_astore_n C dJx4a65c_add_72be8_10 (zb rfl) ?_
    refine z_aload_n C dJx4a65c_add_72be8_11 rfl ?_
    refine z_iload_n C dJx4a65c_add_72be8_12 rfl ?_
    refine z_aload_n C dJx4a65c_add_72be8_13 rfl ?_
    refine z_aast C kc hca (g1) (g2) (nI_in (by omega) (by omega)) dJx4a65c_add_72be8_14 ?_
    intro _ e8; subst e8
    rw [nI_clamp (by omega)]
    have e1 : hup (hup (hup h q (oO G (cpf (k + 1)) f)) a (.inr (0, [m, .ref q, .int (nI k)]))) q (oO G (cpf (k + 1)) (va_up f k (some x))) = hup (hup h q (oO G (cpf (k + 1)) (va_up f k (some x)))) a (.inr (0, [m, .ref q, .int (nI k)])) := by
      rw [hup_comm hqa, hup_hup, hup_comm (Ne.symm hqa)]
    rw [e1]
    refine z_aload_n C dJx4a65c_add_72be8_15 rfl ?_
    refine z_iload_n C dJx4a65c_add_72be8_16 rfl ?_
    refine z_iconst (v := 1) C dJx4a65c_add_72be8_17 (by decide) ?_
    refine z_iadd C dJx4a65c_add_72be8_18 ?_
    rw [nI_1]
    refine z_putf C kcJx4a65c flJx4a65c_48 (hup_self _ _ _) rfl (rfl) (rfl) (zb rfl) dJx4a65c_add_72be8_19 ?_
    intro _ e8; subst e8
    rw [hup_hup]
    exact z_vret C E dJx4a65c_add_72be8_22 (⟨q, Or.inr hq, rfl, rfl⟩) (zb rfl) (zb rfl)
  rcases harr with ⟨rfl, rfl⟩ | ⟨h0, harr⟩
  · refine z_iload_n C dJx4a65c_add_72be8_0 rfl ?_
    refine z_aload_n C dJx4a65c_add_72be8_1 rfl ?_
    refine z_alenD C dJx4a65c_add_72be8_2 ?_
    refine z_icmp_ne (tgt := 11) C dJx4a65c_add_72be8_3 (by decide) (fun e9 => absurd e9 ((fun e => e rfl))) (fun _ => ?_)
    exact grown rfl
  · refine z_iload_n C dJx4a65c_add_72be8_0 rfl ?_
    refine z_aload_n C dJx4a65c_add_72be8_1 rfl ?_
    refine z_alen C rfl (harr) dJx4a65c_add_72be8_2 ?_
    refine z_icmp_ne (tgt := 11) C dJx4a65c_add_72be8_3 (by decide) (fun e => ?_) (fun e => ?_)
    · have hlt : k < cpf k := by
        rcases Nat.lt_or_ge k (cpf k) with q | q
        · exact q
        · exact absurd (congrArg nI (show k = cpf k by omega)) e
      have e2 : cpf (k + 1) = cpf k := if_pos hlt
      refine z_aload_n C dJx4a65c_add_72be8_11 rfl ?_
      refine z_iload_n C dJx4a65c_add_72be8_12 rfl ?_
      refine z_aload_n C dJx4a65c_add_72be8_13 rfl ?_
      refine z_aast C kc hca (harr) (hx) (nI_in hlt (by omega)) dJx4a65c_add_72be8_14 ?_
      intro _ e8; subst e8
      rw [nI_clamp (by omega)]
      have hra : arr ≠ a := fun q => by rw [q, ha] at harr; cases harr
      refine z_aload_n C dJx4a65c_add_72be8_15 rfl ?_
      refine z_iload_n C dJx4a65c_add_72be8_16 rfl ?_
      refine z_iconst (v := 1) C dJx4a65c_add_72be8_17 (by decide) ?_
      refine z_iadd C dJx4a65c_add_72be8_18 ?_
      rw [nI_1]
      refine z_putf C kcJx4a65c flJx4a65c_48 ((hup_ne (Ne.symm hra)).trans ha) rfl (rfl) (rfl) (zb rfl) dJx4a65c_add_72be8_19 ?_
      intro _ e8; subst e8
      exact z_vret C E dJx4a65c_add_72be8_22 (⟨arr, Or.inl ⟨rfl, h0⟩, by rw [e2]; rfl, rfl⟩) (zb rfl) (zb rfl)
    · exact grown ((nI_eq (by omega) (by omega)).mp e)
theorem k_add (hB : Base G) {ci : Nat} {Cn : String} {T : u_T} {N9 : Nat} {ty : Nat → FieldType} (kc : KC ci Cn T N9 ty) (hca : Cond.castable Cn "java/lang/Object" ∈ lw_tbl) {a arr k x : Nat} {f : Nat → Option Nat} {m : Int32} {xs : List Value} (ha : h a = some (.inr (0, [.int m, .ref arr, .int (nI k)]))) (hk2 : k ≤ 600) (harr : (k = 0 ∧ arr = gd G) ∨ (0 < k ∧ h arr = some (oO G (cpf k) f)))
    (hf : ∀ i, k ≤ i → f i = none) (hel : ∀ i, i < k → ∀ y, f i = some y → (∃ fs, h y = some (.inr (ci, fs))) ∧ y ≠ a) (hx : h x = some (.inr (ci, xs))) (hxa : x ≠ a) :
    Ct G mJx4a65c_add_9ea2d 6 1 4000 [.ref a, .ref x] h (fun o h' => ∃ q, ((q = arr ∧ 0 < k) ∨ h q = none) ∧ h' = hup (hup h q (oO G (cpf (k + 1)) (va_up f k (some x)))) a (.inr (0, [.int (m + 1), .ref q, .int (nI (k + 1))])) ∧ o = some (.int 1)) noX := by
  refine Ct.introF (m := 0) hB (by decide +kernel) (zb rfl) fun X C E => ?_
  have g1 : hup h a (.inr (0, [.int (m + 1), .ref arr, .int (nI k)])) a = some (.inr (0, [.int (m + 1), .ref arr, .int (nI k)])) := hup_self _ _ _
  have g2 : (k = 0 ∧ arr = gd G) ∨ (0 < k ∧ hup h a (.inr (0, [.int (m + 1), .ref arr, .int (nI k)])) arr = some (oO G (cpf k) f)) := harr.imp id (fun q => ⟨q.1, by
    have hra : arr ≠ a := fun q9 => by rw [q9, ha] at q; cases q.2
    rw [hup_ne hra]; exact q.2⟩)
  refine z_aload_n C dJx4a65c_add_9ea2d_0 rfl ?_
  refine z_dup C dJx4a65c_add_9ea2d_1 rfl ?_
  refine z_getf C kcJx4a65c flJx4a65c_63 (ha) rfl dJx4a65c_add_9ea2d_2 ?_
  refine z_iconst (v := 1) C dJx4a65c_add_9ea2d_5 (by decide) ?_
  refine z_iadd C dJx4a65c_add_9ea2d_6 ?_
  refine z_putf C kcJx4a65c flJx4a65c_63 (ha) rfl (rfl) (rfl) (zb rfl) dJx4a65c_add_9ea2d_7 ?_
  intro _ e8; subst e8
  refine z_aload_n C dJx4a65c_add_9ea2d_10 rfl ?_
  refine z_aload_n C dJx4a65c_add_9ea2d_11 rfl ?_
  refine z_aload_n C dJx4a65c_add_9ea2d_12 rfl ?_
  refine z_getf C kcJx4a65c flJx4a65c_9 (g1) rfl dJx4a65c_add_9ea2d_13 ?_
  refine z_aload_n C dJx4a65c_add_9ea2d_16 rfl ?_
  refine z_getf C kcJx4a65c flJx4a65c_48 (g1) rfl dJx4a65c_add_9ea2d_17 ?_
  refine z_rn (z_runV C kvJx4a65c_add_72be8 lkJx4a65c_131 kcJx4a65c (k_add3 hB kc hca g1 hk2 g2 hf (fun i hi y hy => by rw [hup_ne (hel i hi y hy).2]; exact (hel i hi y hy).1) (by rw [hup_ne hxa]; exact hx) hxa) (g1) rfl rfl (zb rfl) (zb rfl) (zb rfl) (zb rfl) dJx4a65c_add_9ea2d_20) (fun v9 h9 hv => ?_)
  obtain ⟨q, hq, rfl, rfl⟩ := hv
  have hqa : q ≠ a := by
    rcases hq with ⟨rfl, h0⟩ | hq
    · intro q9
      rcases harr with q8 | q8
      · omega
      · rw [q9, ha] at q8; cases q8.2
    · intro q9
      rw [q9, hup_self] at hq; cases hq
  refine z_iconst (v := 1) C dJx4a65c_add_9ea2d_23 (by decide) ?_
  exact z_zret C E (rfl) dJx4a65c_add_9ea2d_24 (⟨q, hq.imp id (fun q9 => by rw [hup_ne hqa] at q9; exact q9), by rw [hup_comm (Ne.symm hqa), hup_hup], rfl⟩) (zb rfl) (zb rfl)
theorem k_fIsNaN (hB : Base G) {b : UInt32} (hb : FP.fcmp b b = some .eq) : Ct G mJxf58ca_isNaN_12338 1 0 0 [.float b] h (rd h (.int 0)) noX := by
  refine Ct.introF (m := 0) hB (by decide +kernel) (zb rfl) fun X C E => ?_
  refine z_fload_n C dJxf58ca_isNaN_12338_0 rfl ?_
  refine z_fload_n C dJxf58ca_isNaN_12338_1 rfl ?_
  refine z_fcmp C dJxf58ca_isNaN_12338_2 ?_
  rw [hb]
  refine z_if_eq (tgt := 10) C dJxf58ca_isNaN_12338_3 (by decide) (fun _ => ?_) (fun e9 => absurd e9 ((fun e => e rfl)))
  refine z_iconst (v := 0) C dJxf58ca_isNaN_12338_10 (by decide) ?_
  exact z_zret C E (rfl) dJxf58ca_isNaN_12338_11 (⟨rfl, rfl⟩) (zb rfl) (zb rfl)
theorem k_fBits (hB : Base G) {b : UInt32} (hb : FP.fcmp b b = some .eq) : Ct G mJxf58ca_floatToIntBits_5c35a 2 0 0 [.float b] h (rd h (.int b.toInt32)) noX := by
  refine Ct.introF (m := 0) hB (by decide +kernel) (zb rfl) fun X C E => ?_
  refine z_fload_n C dJxf58ca_floatToIntBits_5c35a_0 rfl ?_
  refine z_rd (z_runS C ksJxf58ca_isNaN_12338 lkJxf58ca_59 (k_fIsNaN hB hb) rfl rfl (zb rfl) (zb rfl) (zb rfl) (zb rfl) dJxf58ca_floatToIntBits_5c35a_1) ?_
  refine z_if_ne (tgt := 12) C dJxf58ca_floatToIntBits_5c35a_4 (by decide) (fun e9 => absurd e9 ((fun e => e rfl))) (fun _ => ?_)
  refine z_fload_n C dJxf58ca_floatToIntBits_5c35a_7 rfl ?_
  refine z_f2bits C lkJxf58ca_74 na_floatToRawIntBits st_floatToRawIntBits ini_Jxf58ca (zb rfl) (zb rfl) dJxf58ca_floatToIntBits_5c35a_8 ?_
  exact z_iret C E dJxf58ca_floatToIntBits_5c35a_11 (⟨rfl, rfl⟩) (zb rfl) (zb rfl)
theorem k_dIsNaN (hB : Base G) {b : UInt64} (hb : FP.dcmp b b = some .eq) : Ct G mJxe99ae_isNaN_b9ae7 1 0 0 [.double b] h (rd h (.int 0)) noX := by
  refine Ct.introF (m := 0) hB (by decide +kernel) (zb rfl) fun X C E => ?_
  refine z_dload_n C dJxe99ae_isNaN_b9ae7_0 rfl ?_
  refine z_dload_n C dJxe99ae_isNaN_b9ae7_1 rfl ?_
  refine z_dcmp C dJxe99ae_isNaN_b9ae7_2 ?_
  rw [hb]
  refine z_if_eq (tgt := 10) C dJxe99ae_isNaN_b9ae7_3 (by decide) (fun _ => ?_) (fun e9 => absurd e9 ((fun e => e rfl)))
  refine z_iconst (v := 0) C dJxe99ae_isNaN_b9ae7_10 (by decide) ?_
  exact z_zret C E (rfl) dJxe99ae_isNaN_b9ae7_11 (⟨rfl, rfl⟩) (zb rfl) (zb rfl)
theorem k_dBits (hB : Base G) {b : UInt64} (hb : FP.dcmp b b = some .eq) : Ct G mJxe99ae_doubleToLongBits_ccdee 2 0 0 [.double b] h (rd h (.long b.toInt64)) noX := by
  refine Ct.introF (m := 0) hB (by decide +kernel) (zb rfl) fun X C E => ?_
  refine z_dload_n C dJxe99ae_doubleToLongBits_ccdee_0 rfl ?_
  refine z_rd (z_runS C ksJxe99ae_isNaN_b9ae7 lkJxe99ae_122 (k_dIsNaN hB hb) rfl rfl (zb rfl) (zb rfl) (zb rfl) (zb rfl) dJxe99ae_doubleToLongBits_ccdee_1) ?_
  refine z_if_ne (tgt := 12) C dJxe99ae_doubleToLongBits_ccdee_4 (by decide) (fun e9 => absurd e9 ((fun e => e rfl))) (fun _ => ?_)
  refine z_dload_n C dJxe99ae_doubleToLongBits_ccdee_7 rfl ?_
  refine z_d2bits C lkJxe99ae_134 na_doubleToRawLongBits st_doubleToRawLongBits ini_Jxe99ae (zb rfl) (zb rfl) dJxe99ae_doubleToLongBits_ccdee_8 ?_
  exact z_lret C E dJxe99ae_doubleToLongBits_ccdee_11 (⟨rfl, rfl⟩) (zb rfl) (zb rfl)
theorem k_fill (hB : Base G) {a n : Nat} {f : Nat → Int32} {v : Int32} (ha : h a = some (oI G n f)) (hn : n < 100000) : Ct G mJ7_fill_53178 1 0 0 [.ref a, .int v] h (wr (hup h a (oI G n (fun j => if j < n then v else f j)))) noX := by
  refine Ct.introF (m := 2) hB (by decide +kernel) (zb rfl) fun X C E => ?_
  refine z_iconst (v := 0) C dJ7_fill_53178_0 (by decide) ?_
  refine z_istore_n C dJ7_fill_53178_1 (zb rfl) ?_
  refine z_aload_n C dJ7_fill_53178_2 rfl ?_
  refine z_alen C rfl (ha) dJ7_fill_53178_3 ?_
  refine z_istore_n C dJ7_fill_53178_4 (zb rfl) ?_
  have key := z_loop (I := fun i => Zs G X 4 (hup h a (oI G n (fun j => if j < i then v else f j))) 0 0 5 [some (.ref a), some (.int v), some (.int (nI i)), some (.int (nI n))] []) n (fun i hi ih => by
    refine z_iload_n C dJ7_fill_53178_5 rfl ?_
    refine z_iload_n C dJ7_fill_53178_6 rfl ?_
    refine z_icmp_ge (tgt := 20) C dJ7_fill_53178_7 (by decide) (fun e => ?_) (fun e => ?_)
    · have e1 : i = n := by
        have := (nI_leI (by omega) (by omega)).mp e
        omega
      subst e1
      exact z_vret C E dJ7_fill_53178_20 (⟨rfl, rfl⟩) (zb rfl) (zb rfl)
    · have e1 : i < n := by
        rcases Nat.lt_or_ge i n with q | q
        · exact q
        · exact absurd (nI_le q (by omega)) e
      have e2 : hup (hup h a (oI G n (fun j => if j < i then v else f j))) a (oI G n (upd (fun j => if j < i then v else f j) (nI i).toNatClampNeg v)) = hup h a (oI G n (fun j => if j < i + 1 then v else f j)) := by
        rw [hup_hup]
        congr 4
        funext j
        rw [nI_clamp (by omega)]
        unfold upd
        by_cases q : j = i
        · rw [if_pos q, if_pos (by omega)]
        · rw [if_neg q]
          by_cases q2 : j < i
          · show (if j < i then v else f j) = _
            rw [if_pos q2, if_pos (by omega)]
          · show (if j < i then v else f j) = _
            rw [if_neg q2, if_neg (by omega)]
      refine z_aload_n C dJ7_fill_53178_10 rfl ?_
      refine z_iload_n C dJ7_fill_53178_11 rfl ?_
      refine z_iload_n C dJ7_fill_53178_12 rfl ?_
      refine z_iast C (hup_self _ _ _) (nI_in e1 (by omega)) dJ7_fill_53178_13 ?_
      intro _ e8; subst e8
      rw [e2]
      refine z_iinc _ C dJ7_fill_53178_14 rfl (nI_1 i) (zb rfl) ?_
      refine z_goto (tgt := 5) C dJ7_fill_53178_17 (by decide) ?_
      exact ih e1) 0 (Nat.zero_le _)
  have e3 : hup h a (oI G n (fun j => if j < 0 then v else f j)) = h := hup_id ha
  rw [e3] at key
  exact key
end
