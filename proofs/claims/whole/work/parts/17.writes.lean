/-! the ledger's changes -/
def Rs (c1 c2 c3 : Prop) (k : Int32) : Prop := (c1 ∧ c2 ∧ c3 ∧ k = 0) ∨ (¬ c1 ∧ k = 1) ∨ (c1 ∧ ¬ c2 ∧ k = 2) ∨ (c1 ∧ c2 ∧ ¬ c3 ∧ k = 3)
theorem Rs.uni {c1 c2 c3 : Prop} {k k' : Int32} (h : Rs c1 c2 c3 k) (h' : Rs c1 c2 c3 k') : k = k' := by
  rcases h with ⟨a1, a2, a3, rfl⟩ | ⟨a1, rfl⟩ | ⟨a1, a2, rfl⟩ | ⟨a1, a2, a3, rfl⟩ <;> rcases h' with ⟨b1, b2, b3, rfl⟩ | ⟨b1, rfl⟩ | ⟨b1, b2, rfl⟩ | ⟨b1, b2, b3, rfl⟩ <;> first | rfl | (exfalso; simp_all)
/-- a list, called with exceptions by their cases -/
def xs3 (h : Hp) (c1 c2 c3 : Prop) (x1 x2 x3 : String) : String → Hp → Prop := fun E h' => h = h' ∧ ((¬ c1 ∧ E = x1) ∨ (c1 ∧ ¬ c2 ∧ E = x2) ∨ (c1 ∧ c2 ∧ ¬ c3 ∧ E = x3))
def hasK (σ : SG) (k : Int32) : Prop := ¬ lastc (tT σ 0) k (tn σ 3) = none
def kS (σ : SG) (k : Int32) : Nat := (lastc (tT σ 0) k (tn σ 3)).getD 0
theorem kS_of {σ : SG} {k : Int32} {c : Nat} (h : lastc (tT σ 0) k (tn σ 3) = some c) : hasK σ k ∧ kS σ k = c := by
  refine ⟨fun q => ?_, ?_⟩
  · rw [h] at q; cases q
  · unfold kS; rw [h]; rfl
section
variable {G : GT} {h h' : Hp} {loc loc' : Nat → Nat → Nat} {σ σ' : SG} {ρ : RG}
theorem Same.a {n : Nat → Nat} (hs : Same n loc loc') {i : Nat} (hi : i < 7) : loc' 0 i = loc 0 i := hs 0 i hi (by decide)
theorem Same.b {n : Nat → Nat} (hs : Same n loc loc') {i : Nat} (hi : i < 5) : loc' 1 i = loc 1 i := hs 1 i hi (by decide)
theorem PW.x9 {n : Nat → Nat} (P : PW G h loc' σ ρ) (hs : Same n loc loc') : h (loc 0 0) = some (oX loc' σ) := P.xo (hs.a (by decide))
theorem PW.cl9 {n : Nat → Nat} (P : PW G h loc' σ ρ) (hs : Same n loc loc') : h (loc 0 1) = some (oCl loc' σ) := by rw [← hs.a (show 1 < 7 by decide)]; exact P.cl
theorem PW.ms9 {n : Nat → Nat} (P : PW G h loc' σ ρ) (hs : Same n loc loc') : h (loc 0 2) = some (oMs loc') := by rw [← hs.a (show 2 < 7 by decide)]; exact P.ms
def sTaker (σ : SG) (a : Nat) (v : Int32) : SG := (t1 (tT σ) 17 a v, tR σ, tn σ)
def sArr (σ : SG) (a : Nat) (v : Int32) : SG := (t1 (tT σ) 18 a v, tR σ, tn σ)
theorem PW.setClock (P : PW G h loc σ ρ) {i : Nat} (hi : i < tn σ 0) (m : Int32) : PW G (hup h (loc 3 i) (.inr (3, [.int (tT σ 6 i), .int (tT σ 7 i), .float (tR σ i), .int (now σ), .int m]))) loc (sClock σ i m) ρ := P.set (k := 3) (i := i) hi rfl (by simp [ob, ob0, sClock, t1, tc, upd, tT, tR, tn, now]) (fun i' e hd => by simp [ob, sClock, t1, tc, upd, e, tT, tR, tn, now]) (fun k' i' e hd => by
    match k', e with
    | 0, _ => rfl
    | 1, _ => rfl
    | 2, _ => rfl
    | 3, e => exact absurd rfl e
    | 4, _ => rfl
    | 5, _ => rfl
    | 6, _ => rfl
    | 7, _ => rfl
    | 8, _ => rfl
    | 9, _ => rfl
    | 10, _ => rfl
    | 11, _ => rfl
    | k + 12, _ => rfl)
theorem PW.setVer (P : PW G h loc σ ρ) {i : Nat} (hi : i < tn σ 0) (v : Int32) : PW G (hup h (loc 3 i) (.inr (3, [.int (tT σ 6 i), .int v, .float (tR σ i), .int (tT σ 8 i), .int (tT σ 9 i)]))) loc (sVer σ i v) ρ := P.set (k := 3) (i := i) hi rfl (by simp [ob, ob0, sVer, t1, tc, upd, tT, tR, tn, now]) (fun i' e hd => by simp [ob, sVer, t1, tc, upd, e, tT, tR, tn, now]) (fun k' i' e hd => by
    match k', e with
    | 0, _ => rfl
    | 1, _ => rfl
    | 2, _ => rfl
    | 3, e => exact absurd rfl e
    | 4, _ => rfl
    | 5, _ => rfl
    | 6, _ => rfl
    | 7, _ => rfl
    | 8, _ => rfl
    | 9, _ => rfl
    | 10, _ => rfl
    | 11, _ => rfl
    | k + 12, _ => rfl)
theorem PW.setRate (P : PW G h loc σ ρ) {i : Nat} (hi : i < tn σ 0) (r : UInt32) : PW G (hup h (loc 3 i) (.inr (3, [.int (tT σ 6 i), .int (tT σ 7 i), .float r, .int (tT σ 8 i), .int (tT σ 9 i)]))) loc (sRate σ i r) ρ := P.set (k := 3) (i := i) hi rfl (by simp [ob, ob0, sRate, t1, tc, upd, tT, tR, tn, now]) (fun i' e hd => by simp [ob, sRate, t1, tc, upd, e, tT, tR, tn, now]) (fun k' i' e hd => by
    match k', e with
    | 0, _ => rfl
    | 1, _ => rfl
    | 2, _ => rfl
    | 3, e => exact absurd rfl e
    | 4, _ => rfl
    | 5, _ => rfl
    | 6, _ => rfl
    | 7, _ => rfl
    | 8, _ => rfl
    | 9, _ => rfl
    | 10, _ => rfl
    | 11, _ => rfl
    | k + 12, _ => rfl)
theorem PW.setPhone (P : PW G h loc σ ρ) {i : Nat} (hi : i < tn σ 1) (v : Int32) : PW G (hup h (loc 4 i) (.inr (7, [.int v]))) loc (sPhone σ i v) ρ := P.set (k := 4) (i := i) hi rfl (by simp [ob, ob0, sPhone, t1, tc, upd, tT, tR, tn, now]) (fun i' e hd => by simp [ob, sPhone, t1, tc, upd, e, tT, tR, tn, now]) (fun k' i' e hd => by
    match k', e with
    | 0, _ => rfl
    | 1, _ => rfl
    | 2, _ => rfl
    | 3, _ => rfl
    | 4, e => exact absurd rfl e
    | 5, _ => rfl
    | 6, _ => rfl
    | 7, _ => rfl
    | 8, _ => rfl
    | 9, _ => rfl
    | 10, _ => rfl
    | 11, _ => rfl
    | k + 12, _ => rfl)
theorem PW.setTaker (P : PW G h loc σ ρ) {i : Nat} (hi : i < tn σ 2) (v : Int32) : PW G (hup h (loc 5 i) (.inr (1, [.int (tT σ 11 i), .int (tT σ 12 i), .int (tT σ 13 i), .int (tT σ 14 i), .int (tT σ 15 i), .int (tT σ 16 i), .int v, .int (tT σ 18 i)]))) loc (sTaker σ i v) ρ := P.set (k := 5) (i := i) hi rfl (by simp [ob, ob0, sTaker, t1, tc, upd, tT, tR, tn, now]) (fun i' e hd => by simp [ob, sTaker, t1, tc, upd, e, tT, tR, tn, now]) (fun k' i' e hd => by
    match k', e with
    | 0, _ => rfl
    | 1, _ => rfl
    | 2, _ => rfl
    | 3, _ => rfl
    | 4, _ => rfl
    | 5, e => exact absurd rfl e
    | 6, _ => rfl
    | 7, _ => rfl
    | 8, _ => rfl
    | 9, _ => rfl
    | 10, _ => rfl
    | 11, _ => rfl
    | k + 12, _ => rfl)
theorem PW.setArr (P : PW G h loc σ ρ) {i : Nat} (hi : i < tn σ 2) (v : Int32) : PW G (hup h (loc 5 i) (.inr (1, [.int (tT σ 11 i), .int (tT σ 12 i), .int (tT σ 13 i), .int (tT σ 14 i), .int (tT σ 15 i), .int (tT σ 16 i), .int (tT σ 17 i), .int v]))) loc (sArr σ i v) ρ := P.set (k := 5) (i := i) hi rfl (by simp [ob, ob0, sArr, t1, tc, upd, tT, tR, tn, now]) (fun i' e hd => by simp [ob, sArr, t1, tc, upd, e, tT, tR, tn, now]) (fun k' i' e hd => by
    match k', e with
    | 0, _ => rfl
    | 1, _ => rfl
    | 2, _ => rfl
    | 3, _ => rfl
    | 4, _ => rfl
    | 5, e => exact absurd rfl e
    | 6, _ => rfl
    | 7, _ => rfl
    | 8, _ => rfl
    | 9, _ => rfl
    | 10, _ => rfl
    | 11, _ => rfl
    | k + 12, _ => rfl)
theorem PW.setNow (P : PW G h loc σ ρ) (m : Int32) : PW G (hup h (loc 0 0) (.inr (8, [.ref (loc 0 1), .ref (loc 1 0), .ref (loc 1 1), .ref (loc 1 2), .ref (loc 0 2), .int (now σ + m)]))) loc (sPass σ m) ρ := P.set (k := 0) (i := 0) (show 0 < 7 by decide) rfl (by simp [ob, ob0, sPass, t1, tc, upd, tT, tR, tn, now]) (fun i' e hd => by
    match i', e with
    | 0, e => exact absurd rfl e
    | 1, _ => rfl
    | 2, _ => rfl
    | 3, _ => rfl
    | 4, _ => rfl
    | 5, _ => rfl
    | i + 6, _ => rfl) (fun k' i' e hd => by
    match k', e with
    | 0, e => exact absurd rfl e
    | 1, _ => rfl
    | 2, _ => rfl
    | 3, _ => rfl
    | 4, _ => rfl
    | 5, _ => rfl
    | 6, _ => rfl
    | 7, _ => rfl
    | 8, _ => rfl
    | 9, _ => rfl
    | 10, _ => rfl
    | 11, _ => rfl
    | k + 12, _ => rfl)
theorem PW.setKeys (P : PW G h loc σ ρ)  : PW G (hup h (loc 0 1) (.inr (2, [.ref (loc 1 3), .int (tT σ 22 1 + 1)]))) loc (sKeys σ) ρ := P.set (k := 0) (i := 1) (show 1 < 7 by decide) rfl (by simp [ob, ob0, sKeys, t1, tc, upd, tT, tR, tn, now]) (fun i' e hd => by
    match i', e with
    | 0, _ => rfl
    | 1, e => exact absurd rfl e
    | 2, _ => rfl
    | 3, _ => rfl
    | 4, _ => rfl
    | 5, _ => rfl
    | i + 6, _ => rfl) (fun k' i' e hd => by
    match k', e with
    | 0, e => exact absurd rfl e
    | 1, _ => rfl
    | 2, _ => rfl
    | 3, _ => rfl
    | 4, _ => rfl
    | 5, _ => rfl
    | 6, _ => rfl
    | 7, _ => rfl
    | 8, _ => rfl
    | 9, _ => rfl
    | 10, _ => rfl
    | 11, _ => rfl
    | k + 12, _ => rfl)
theorem ob_push {k9 d f t r : Int32} {k i : Nat} (hd : dm (tn σ) k i) (k1 : k ≠ 1) (k2 : k ≠ 2) : ob G loc (sPush σ k9 d f t r) ρ k i = ob G loc σ ρ k i := by
  match k, hd, k1, k2 with
  | 0, _, _, _ => rfl
  | 1, _, k1, k2 => exact absurd rfl k1
  | 2, _, k1, k2 => exact absurd rfl k2
  | 3, _, _, _ => rfl
  | 4, _, _, _ => rfl
  | 5, _, _, _ => rfl
  | 6, hd, _, _ =>
    have e : i ≠ tn σ 3 := Nat.ne_of_lt hd
    simp [ob, sPush, t1, tc, upd, e, tT, tR, tn, now]
  | 7, _, _, _ => rfl
  | 8, _, _, _ => rfl
  | 9, _, _, _ => rfl
  | 10, _, _, _ => rfl
  | 11, _, _, _ => rfl
  | k + 12, _, _, _ => rfl
theorem ob_addDoor  {k i : Nat} (hd : dm (tn σ) k i) (k1 : k ≠ 1) (k2 : k ≠ 2) : ob G loc (sAddDoor σ) ρ k i = ob G loc σ ρ k i := by
  match k, hd, k1, k2 with
  | 0, _, _, _ => rfl
  | 1, _, k1, k2 => exact absurd rfl k1
  | 2, _, k1, k2 => exact absurd rfl k2
  | 3, hd, _, _ =>
    have e : i ≠ tn σ 0 := Nat.ne_of_lt hd
    simp [ob, sAddDoor, t1, tc, upd, e, tT, tR, tn, now]
  | 4, _, _, _ => rfl
  | 5, _, _, _ => rfl
  | 6, _, _, _ => rfl
  | 7, _, _, _ => rfl
  | 8, _, _, _ => rfl
  | 9, _, _, _ => rfl
  | 10, _, _, _ => rfl
  | 11, _, _, _ => rfl
  | k + 12, _, _, _ => rfl
theorem ob_addPhone  {k i : Nat} (hd : dm (tn σ) k i) (k1 : k ≠ 1) (k2 : k ≠ 2) : ob G loc (sAddPhone σ) ρ k i = ob G loc σ ρ k i := by
  match k, hd, k1, k2 with
  | 0, _, _, _ => rfl
  | 1, _, k1, k2 => exact absurd rfl k1
  | 2, _, k1, k2 => exact absurd rfl k2
  | 3, _, _, _ => rfl
  | 4, hd, _, _ =>
    have e : i ≠ tn σ 1 := Nat.ne_of_lt hd
    simp [ob, sAddPhone, t1, tc, upd, e, tT, tR, tn, now]
  | 5, _, _, _ => rfl
  | 6, _, _, _ => rfl
  | 7, _, _, _ => rfl
  | 8, _, _, _ => rfl
  | 9, _, _, _ => rfl
  | 10, _, _, _ => rfl
  | 11, _, _, _ => rfl
  | k + 12, _, _, _ => rfl
theorem ob_meet {p d v : Int32} {k i : Nat} (hd : dm (tn σ) k i) (k1 : k ≠ 1) (k2 : k ≠ 2) : ob G loc (sMeet σ p d v) ρ k i = ob G loc σ ρ k i := by
  match k, hd, k1, k2 with
  | 0, _, _, _ => rfl
  | 1, _, k1, k2 => exact absurd rfl k1
  | 2, _, k1, k2 => exact absurd rfl k2
  | 3, _, _, _ => rfl
  | 4, _, _, _ => rfl
  | 5, _, _, _ => rfl
  | 6, _, _, _ => rfl
  | 7, hd, _, _ =>
    have e : i ≠ tn σ 4 := Nat.ne_of_lt hd
    simp [ob, sMeet, t1, tc, upd, e, tT, tR, tn, now]
  | 8, _, _, _ => rfl
  | 9, _, _, _ => rfl
  | 10, _, _, _ => rfl
  | 11, _, _, _ => rfl
  | k + 12, _, _, _ => rfl
theorem ob_open {d k9 m l v : Int32} {k i : Nat} (hd : dm (tn σ) k i) (k1 : k ≠ 1) (k2 : k ≠ 2) : ob G loc (sOpen σ d k9 m l v) ρ k i = ob G loc σ ρ k i := by
  match k, hd, k1, k2 with
  | 0, _, _, _ => rfl
  | 1, _, k1, k2 => exact absurd rfl k1
  | 2, _, k1, k2 => exact absurd rfl k2
  | 3, _, _, _ => rfl
  | 4, _, _, _ => rfl
  | 5, hd, _, _ =>
    have e : i ≠ tn σ 2 := Nat.ne_of_lt hd
    simp [ob, sOpen, t1, tc, upd, e, tT, tR, tn, now]
  | 6, _, _, _ => rfl
  | 7, _, _, _ => rfl
  | 8, _, _, _ => rfl
  | 9, _, _, _ => rfl
  | 10, _, _, _ => rfl
  | 11, _, _, _ => rfl
  | k + 12, _, _, _ => rfl
theorem k_keep (hB : Base G) (P : PW G h loc σ ρ) {q : Nat} {k d f t r : Int32} (hq : ∀ k i, dm (tn σ) k i → loc k i ≠ q) (hx : h q = some (.inr (4, [.int k, .int d, .int f, .int t, .int r, .int (now σ)]))) (hb : tn σ 3 < 50) :
    Ct G mX2_keep 7 1 4000 [.ref (loc 0 1), .ref q] h (fun o h' => (∃ loc', Same (tn σ) loc loc' ∧ PW G h' loc' (sPush σ k d f t r) ρ) ∧ o = some (.int (nI (tn σ 3 + 1)))) noX := by
  refine Ct.intro (m := 0) hB (by decide +kernel) (zb rfl) fun X C E => ?_
  refine z_aload_n C dX2_keep_0 rfl ?_
  refine z_getf C kcX2 flX2_10 (P.cl) rfl dX2_keep_1 ?_
  refine z_aload_n C dX2_keep_4 rfl ?_
  refine z_rn (z_runV C kvJx4a65c_add_9ea2d lkX2_33 kcJx4a65c (k_addL hB P (σ' := sPush σ k d f t r) kcX4 caX4 (by decide) hq hx (by omega) rfl (fun loc => by simp [ob, sPush, t1, tc, upd, tT, tR, tn, now]) (fun loc k i hd k1 k2 => ob_push hd k1 k2) (fun loc i => ⟨_, rfl⟩)) (P.list (by decide)) rfl rfl (zb rfl) (zb rfl) (zb rfl) (zb rfl) dX2_keep_5) (fun v9 h9 hv => ?_)
  obtain ⟨⟨loc', hs, P'⟩, rfl⟩ := hv
  refine z_pop C dX2_keep_8 rfl ?_
  refine z_aload_n C dX2_keep_9 rfl ?_
  refine z_getf C kcX2 flX2_10 (P'.cl9 hs) rfl dX2_keep_10 ?_
  refine z_rd (z_runV C kvJx4a65c_size_8abf5 lkX2_20 kcJx4a65c (k_sizeL hB P' (j := 3) (by decide)) (P'.list (by decide)) rfl rfl (zb rfl) (zb rfl) (zb rfl) (zb rfl) dX2_keep_13) ?_
  exact z_iret C E dX2_keep_16 (⟨⟨loc', hs, P'⟩, rfl⟩) (zb rfl) (zb rfl)
theorem k_meetKeep (hB : Base G) (P : PW G h loc σ ρ) {q : Nat} {p d v : Int32} (hq : ∀ k i, dm (tn σ) k i → loc k i ≠ q) (hx : h q = some (.inr (5, [.int p, .int d, .int v]))) (hb : tn σ 4 < 512) :
    Ct G mX6_keep 7 1 4000 [.ref (loc 0 2), .ref q] h (fun o h' => (∃ loc', Same (tn σ) loc loc' ∧ PW G h' loc' (sMeet σ p d v) ρ) ∧ o = none) noX := by
  refine Ct.intro (m := 0) hB (by decide +kernel) (zb rfl) fun X C E => ?_
  have g1 : ¬ (512 : Int32) ≤ nI (tn σ 4) := by
    rw [show (512 : Int32) = nI 512 by decide]
    exact nI_ge hb (by decide)
  refine z_aload_n C dX6_keep_0 rfl ?_
  refine z_getf C kcX6 flX6_12 (P.ms) rfl dX6_keep_1 ?_
  refine z_rd (z_runV C kvJx4a65c_size_8abf5 lkX6_22 kcJx4a65c (k_sizeL hB P (j := 4) (by decide)) (P.list (by decide)) rfl rfl (zb rfl) (zb rfl) (zb rfl) (zb rfl) dX6_keep_4) ?_
  refine z_sipush (v := 512) C dX6_keep_7 (by decide) ?_
  refine z_icmp_ge (tgt := 22) C dX6_keep_10 (by decide) (fun e9 => absurd e9 (g1)) (fun _ => ?_)
  refine z_aload_n C dX6_keep_13 rfl ?_
  refine z_getf C kcX6 flX6_12 (P.ms) rfl dX6_keep_14 ?_
  refine z_aload_n C dX6_keep_17 rfl ?_
  refine z_rn (z_runV C kvJx4a65c_add_9ea2d lkX6_26 kcJx4a65c (k_addL hB P (σ' := sMeet σ p d v) kcX5 caX5 (by decide) hq hx (by omega) rfl (fun loc => by simp [ob, sMeet, t1, tc, upd, tT, tR, tn, now]) (fun loc k i hd k1 k2 => ob_meet hd k1 k2) (fun loc i => ⟨_, rfl⟩)) (P.list (by decide)) rfl rfl (zb rfl) (zb rfl) (zb rfl) (zb rfl) dX6_keep_18) (fun v9 h9 hv => ?_)
  obtain ⟨⟨loc', hs, P'⟩, rfl⟩ := hv
  refine z_pop C dX6_keep_21 rfl ?_
  exact z_vret C E dX6_keep_22 (⟨⟨loc', hs, P'⟩, rfl⟩) (zb rfl) (zb rfl)
def pw (G : GT) (loc : Nat → Nat → Nat) (n : Nat → Nat) (σ' : SG) (ρ : RG) (h' : Hp) : Prop := ∃ loc', Same n loc loc' ∧ PW G h' loc' σ' ρ
def cKey (d f t : Int32) : Prop := okSet d ∧ okTimes f t
def cRoom (σ : SG) : Prop := tT σ 22 1 < 8 ∧ tn σ 3 < 50
theorem k_addKey (hB : Base G) (P : PW G h loc σ ρ) {d f t : Int32} : Ct G mX8_addKey 9 10 4100 [.ref (loc 0 0), .int d, .int f, .int t] h (fun o h' => cKey d f t ∧ cRoom σ ∧ True ∧ pw G loc (tn σ) (sAddKey σ d f t) ρ h' ∧ o = some (.int (tT σ 22 1))) (xs3 h (cKey d f t) (cRoom σ) True xIA xIS xIS) := by
  refine Ct.intro (m := 1) hB (by decide +kernel) (zb rfl) fun X C E => ?_
  refine z_iload_n C dX8_addKey_0 rfl ?_
  refine z_rcv (z_runS C ksX8_checkDoorSet lkX8_40 (k_checkDoorSet hB) rfl rfl (zb rfl) (zb rfl) (zb rfl) (zb rfl) dX8_addKey_1) (fun hc9 => z_out C E (⟨rfl, Or.inl ⟨fun q => hc9 q.1, rfl⟩⟩) (zb rfl) (zb rfl)) (fun c1 => ?_)
  refine z_iload_n C dX8_addKey_4 rfl ?_
  refine z_iload_n C dX8_addKey_5 rfl ?_
  refine z_rcv (z_runS C ksX8_checkTimes lkX8_44 (k_checkTimes hB) rfl rfl (zb rfl) (zb rfl) (zb rfl) (zb rfl) dX8_addKey_6) (fun hc9 => z_out C E (⟨rfl, Or.inl ⟨fun q => hc9 q.2, rfl⟩⟩) (zb rfl) (zb rfl)) (fun c2 => ?_)
  refine z_aload_n C dX8_addKey_9 rfl ?_
  refine z_getf C kcX8 flX8_10 (P.x) rfl dX8_addKey_10 ?_
  refine z_getf C kcX2 flX8_48 (P.cl) rfl dX8_addKey_13 ?_
  refine z_bipush (v := 8) C dX8_addKey_16 (by decide) ?_
  refine z_icmp_lt (tgt := 31) C dX8_addKey_18 (by decide) (fun e3 => ?_) (fun e3 => ?_)
  · refine z_aload_n C dX8_addKey_31 rfl ?_
    refine z_rcv (z_runV C kvX8_checkRoomForChange lkX8_58 kcX8 (k_checkRoom hB P) (P.x) rfl rfl (zb rfl) (zb rfl) (zb rfl) (zb rfl) dX8_addKey_32) (fun hc9 => z_out C E (⟨rfl, Or.inr (Or.inl ⟨⟨c1, c2⟩, fun q => hc9 q.2, rfl⟩)⟩) (zb rfl) (zb rfl)) (fun c4 => ?_)
    refine z_aload_n C dX8_addKey_35 rfl ?_
    refine z_getf C kcX8 flX8_10 (P.x) rfl dX8_addKey_36 ?_
    refine z_getf C kcX2 flX8_48 (P.cl) rfl dX8_addKey_39 ?_
    refine z_istore C dX8_addKey_42 (zb rfl) ?_
    refine z_aload_n C dX8_addKey_44 rfl ?_
    refine z_getf C kcX8 flX8_10 (P.x) rfl dX8_addKey_45 ?_
    refine z_dup C dX8_addKey_48 rfl ?_
    refine z_getf C kcX2 flX8_48 (P.cl) rfl dX8_addKey_49 ?_
    refine z_iconst (v := 1) C dX8_addKey_52 (by decide) ?_
    refine z_iadd C dX8_addKey_53 ?_
    refine z_putf C kcX2 flX8_48 (P.cl) rfl (rfl) (rfl) (zb rfl) dX8_addKey_54 ?_
    intro _ e8; subst e8
    have P1 := P.setKeys
    refine z_aload_n C dX8_addKey_57 rfl ?_
    refine z_getf C kcX8 flX8_10 (P1.x) rfl dX8_addKey_58 ?_
    refine z_new [.int 0, .int 0, .int 0, .int 0, .int 0, .int 0] C kcX4 clX8_61 inX4 ini_X4 (zfX4) (zb rfl) (zb rfl) dX8_addKey_61 ?_
    intro q1 _ hq1 e8; subst e8
    refine z_dup C dX8_addKey_64 rfl ?_
    have P2 := P1.off (P1.new hq1)
    refine z_iload C dX8_addKey_65 rfl ?_
    refine z_iload_n C dX8_addKey_67 rfl ?_
    refine z_iload_n C dX8_addKey_68 rfl ?_
    refine z_iload_n C dX8_addKey_69 rfl ?_
    refine z_iconst (v := 0) C dX8_addKey_70 (by decide) ?_
    refine z_aload_n C dX8_addKey_71 rfl ?_
    refine z_getf C kcX8 flX8_36 (hup_n hq1 P1.x) rfl dX8_addKey_72 ?_
    refine z_wr (z_runI C kiX4_init (Or.inl lkX8_63) (k_keyInit hB rfl (hup_self _ _ _)) rfl rfl (zb rfl) (zb rfl) (zb rfl) (zb rfl) dX8_addKey_75) ?_
    refine z_rn (z_runV C kvX2_keep lkX8_66 kcX2 (k_keep hB ((P2 _).off (P1.new hq1) _) (P1.new hq1) (hup_self _ _ _) c4) (((P2 _).off (P1.new hq1) _).cl) rfl rfl (zb rfl) (zb rfl) (zb rfl) (zb rfl) dX8_addKey_78) (fun v9 h9 hv => ?_)
    obtain ⟨⟨loc', hs, P'⟩, rfl⟩ := hv
    refine z_pop C dX8_addKey_81 rfl ?_
    refine z_iload C dX8_addKey_82 rfl ?_
    exact z_iret C E dX8_addKey_84 (⟨⟨c1, c2⟩, ⟨e3, c4⟩, trivial, ⟨loc', hs, P'⟩, rfl⟩) (zb rfl) (zb rfl)
  · exact z_throw C E ktn ktX8_51_53_55 (zb rfl) (zb rfl) dX8_addKey_21 dX8_addKey_24 dX8_addKey_25 dX8_addKey_27 dX8_addKey_30 (⟨rfl, Or.inr (Or.inl ⟨⟨c1, c2⟩, fun q => e3 q.1, rfl⟩)⟩) (zb rfl) (zb rfl)
def cNR (σ : SG) (k : Int32) : Prop := tT σ 4 (kS σ k) = 0 ∧ tn σ 3 < 50
theorem k_setTimes (hB : Base G) (P : PW G h loc σ ρ) {k f t : Int32} : Ct G mX8_setTimes 9 10 4100 [.ref (loc 0 0), .int k, .int f, .int t] h (fun o h' => hasK σ k ∧ okTimes f t ∧ cNR σ k ∧ pw G loc (tn σ) (sPush σ k (tT σ 1 (kS σ k)) f t 0) ρ h' ∧ o = some (.int (nI (tn σ 3 + 1)))) (xs3 h (hasK σ k) (okTimes f t) (cNR σ k) xNS xIA xIS) := by
  refine Ct.intro (m := 1) hB (by decide +kernel) (zb rfl) fun X C E => ?_
  refine z_aload_n C dX8_setTimes_0 rfl ?_
  refine z_iload_n C dX8_setTimes_1 rfl ?_
  refine z_run (z_runV C kvX8_presentKey lkX8_70 kcX8 (k_presentKey hB P) (P.x) rfl rfl (zb rfl) (zb rfl) (zb rfl) (zb rfl) dX8_setTimes_2) (fun E9 h9 hx => z_out C E ((by obtain ⟨hx, rfl, rfl⟩ := hx; exact ⟨rfl, Or.inl ⟨fun q => q hx, rfl⟩⟩)) (zb rfl) (zb rfl)) (fun v9 h9 hv => ?_)
  obtain ⟨c, hc, rfl, rfl⟩ := hv
  obtain ⟨hk1, rfl⟩ := kS_of hc
  have hc3 := (lastc_lt hc).1
  refine z_astore C dX8_setTimes_5 (zb rfl) ?_
  refine z_iload_n C dX8_setTimes_7 rfl ?_
  refine z_iload_n C dX8_setTimes_8 rfl ?_
  refine z_rcv (z_runS C ksX8_checkTimes lkX8_44 (k_checkTimes hB) rfl rfl (zb rfl) (zb rfl) (zb rfl) (zb rfl) dX8_setTimes_9) (fun hc9 => z_out C E (⟨rfl, Or.inr (Or.inl ⟨hk1, hc9, rfl⟩)⟩) (zb rfl) (zb rfl)) (fun c2 => ?_)
  refine z_aload C dX8_setTimes_12 rfl ?_
  refine z_rcv (z_runS C ksX8_checkNotRevoked lkX8_74 (k_checkNotRevoked hB (P.key hc3)) rfl rfl (zb rfl) (zb rfl) (zb rfl) (zb rfl) dX8_setTimes_14) (fun hc9 => z_out C E (⟨rfl, Or.inr (Or.inr ⟨hk1, c2, fun q => hc9 q.1, rfl⟩)⟩) (zb rfl) (zb rfl)) (fun c3 => ?_)
  refine z_aload_n C dX8_setTimes_17 rfl ?_
  refine z_rcv (z_runV C kvX8_checkRoomForChange lkX8_58 kcX8 (k_checkRoom hB P) (P.x) rfl rfl (zb rfl) (zb rfl) (zb rfl) (zb rfl) dX8_setTimes_18) (fun hc9 => z_out C E (⟨rfl, Or.inr (Or.inr ⟨hk1, c2, fun q => hc9 q.2, rfl⟩)⟩) (zb rfl) (zb rfl)) (fun c4 => ?_)
  refine z_aload_n C dX8_setTimes_21 rfl ?_
  refine z_getf C kcX8 flX8_10 (P.x) rfl dX8_setTimes_22 ?_
  refine z_new [.int 0, .int 0, .int 0, .int 0, .int 0, .int 0] C kcX4 clX8_61 inX4 ini_X4 (zfX4) (zb rfl) (zb rfl) dX8_setTimes_25 ?_
  intro q1 _ hq1 e8; subst e8
  refine z_dup C dX8_setTimes_28 rfl ?_
  have P2 := P.off (P.new hq1)
  refine z_iload_n C dX8_setTimes_29 rfl ?_
  refine z_aload C dX8_setTimes_30 rfl ?_
  refine z_getf C kcX4 flX8_78 (hup_n hq1 (P.key hc3)) rfl dX8_setTimes_32 ?_
  refine z_iload_n C dX8_setTimes_35 rfl ?_
  refine z_iload_n C dX8_setTimes_36 rfl ?_
  refine z_iconst (v := 0) C dX8_setTimes_37 (by decide) ?_
  refine z_aload_n C dX8_setTimes_38 rfl ?_
  refine z_getf C kcX8 flX8_36 (hup_n hq1 P.x) rfl dX8_setTimes_39 ?_
  refine z_wr (z_runI C kiX4_init (Or.inl lkX8_63) (k_keyInit hB rfl (hup_self _ _ _)) rfl rfl (zb rfl) (zb rfl) (zb rfl) (zb rfl) dX8_setTimes_42) ?_
  refine z_rn (z_runV C kvX2_keep lkX8_66 kcX2 (k_keep hB ((P2 _).off (P.new hq1) _) (P.new hq1) (hup_self _ _ _) c4) (((P2 _).off (P.new hq1) _).cl) rfl rfl (zb rfl) (zb rfl) (zb rfl) (zb rfl) dX8_setTimes_45) (fun v9 h9 hv => ?_)
  obtain ⟨⟨loc', hs, P'⟩, rfl⟩ := hv
  exact z_iret C E dX8_setTimes_48 (⟨hk1, c2, ⟨c3, c4⟩, ⟨loc', hs, P'⟩, rfl⟩) (zb rfl) (zb rfl)
theorem k_setDoors (hB : Base G) (P : PW G h loc σ ρ) {k d : Int32} : Ct G mX8_setDoors 9 10 4100 [.ref (loc 0 0), .int k, .int d] h (fun o h' => hasK σ k ∧ okSet d ∧ cNR σ k ∧ pw G loc (tn σ) (sPush σ k d (tT σ 2 (kS σ k)) (tT σ 3 (kS σ k)) 0) ρ h' ∧ o = some (.int (nI (tn σ 3 + 1)))) (xs3 h (hasK σ k) (okSet d) (cNR σ k) xNS xIA xIS) := by
  refine Ct.intro (m := 1) hB (by decide +kernel) (zb rfl) fun X C E => ?_
  refine z_aload_n C dX8_setDoors_0 rfl ?_
  refine z_iload_n C dX8_setDoors_1 rfl ?_
  refine z_run (z_runV C kvX8_presentKey lkX8_70 kcX8 (k_presentKey hB P) (P.x) rfl rfl (zb rfl) (zb rfl) (zb rfl) (zb rfl) dX8_setDoors_2) (fun E9 h9 hx => z_out C E ((by obtain ⟨hx, rfl, rfl⟩ := hx; exact ⟨rfl, Or.inl ⟨fun q => q hx, rfl⟩⟩)) (zb rfl) (zb rfl)) (fun v9 h9 hv => ?_)
  obtain ⟨c, hc, rfl, rfl⟩ := hv
  obtain ⟨hk1, rfl⟩ := kS_of hc
  have hc3 := (lastc_lt hc).1
  refine z_astore_n C dX8_setDoors_5 (zb rfl) ?_
  refine z_iload_n C dX8_setDoors_6 rfl ?_
  refine z_rcv (z_runS C ksX8_checkDoorSet lkX8_40 (k_checkDoorSet hB) rfl rfl (zb rfl) (zb rfl) (zb rfl) (zb rfl) dX8_setDoors_7) (fun hc9 => z_out C E (⟨rfl, Or.inr (Or.inl ⟨hk1, hc9, rfl⟩)⟩) (zb rfl) (zb rfl)) (fun c2 => ?_)
  refine z_aload_n C dX8_setDoors_10 rfl ?_
  refine z_rcv (z_runS C ksX8_checkNotRevoked lkX8_74 (k_checkNotRevoked hB (P.key hc3)) rfl rfl (zb rfl) (zb rfl) (zb rfl) (zb rfl) dX8_setDoors_11) (fun hc9 => z_out C E (⟨rfl, Or.inr (Or.inr ⟨hk1, c2, fun q => hc9 q.1, rfl⟩)⟩) (zb rfl) (zb rfl)) (fun c3 => ?_)
  refine z_aload_n C dX8_setDoors_14 rfl ?_
  refine z_rcv (z_runV C kvX8_checkRoomForChange lkX8_58 kcX8 (k_checkRoom hB P) (P.x) rfl rfl (zb rfl) (zb rfl) (zb rfl) (zb rfl) dX8_setDoors_15) (fun hc9 => z_out C E (⟨rfl, Or.inr (Or.inr ⟨hk1, c2, fun q => hc9 q.2, rfl⟩)⟩) (zb rfl) (zb rfl)) (fun c4 => ?_)
  refine z_aload_n C dX8_setDoors_18 rfl ?_
  refine z_getf C kcX8 flX8_10 (P.x) rfl dX8_setDoors_19 ?_
  refine z_new [.int 0, .int 0, .int 0, .int 0, .int 0, .int 0] C kcX4 clX8_61 inX4 ini_X4 (zfX4) (zb rfl) (zb rfl) dX8_setDoors_22 ?_
  intro q1 _ hq1 e8; subst e8
  refine z_dup C dX8_setDoors_25 rfl ?_
  have P2 := P.off (P.new hq1)
  refine z_iload_n C dX8_setDoors_26 rfl ?_
  refine z_iload_n C dX8_setDoors_27 rfl ?_
  refine z_aload_n C dX8_setDoors_28 rfl ?_
  refine z_getf C kcX4 flX8_80 (hup_n hq1 (P.key hc3)) rfl dX8_setDoors_29 ?_
  refine z_aload_n C dX8_setDoors_32 rfl ?_
  refine z_getf C kcX4 flX8_83 (hup_n hq1 (P.key hc3)) rfl dX8_setDoors_33 ?_
  refine z_iconst (v := 0) C dX8_setDoors_36 (by decide) ?_
  refine z_aload_n C dX8_setDoors_37 rfl ?_
  refine z_getf C kcX8 flX8_36 (hup_n hq1 P.x) rfl dX8_setDoors_38 ?_
  refine z_wr (z_runI C kiX4_init (Or.inl lkX8_63) (k_keyInit hB rfl (hup_self _ _ _)) rfl rfl (zb rfl) (zb rfl) (zb rfl) (zb rfl) dX8_setDoors_41) ?_
  refine z_rn (z_runV C kvX2_keep lkX8_66 kcX2 (k_keep hB ((P2 _).off (P.new hq1) _) (P.new hq1) (hup_self _ _ _) c4) (((P2 _).off (P.new hq1) _).cl) rfl rfl (zb rfl) (zb rfl) (zb rfl) (zb rfl) dX8_setDoors_44) (fun v9 h9 hv => ?_)
  obtain ⟨⟨loc', hs, P'⟩, rfl⟩ := hv
  exact z_iret C E dX8_setDoors_47 (⟨hk1, c2, ⟨c3, c4⟩, ⟨loc', hs, P'⟩, rfl⟩) (zb rfl) (zb rfl)
theorem k_revoke (hB : Base G) (P : PW G h loc σ ρ) {k : Int32} : Ct G mX8_revoke 9 10 4100 [.ref (loc 0 0), .int k] h (fun o h' => hasK σ k ∧ cNR σ k ∧ True ∧ pw G loc (tn σ) (sPush σ k (tT σ 1 (kS σ k)) (tT σ 2 (kS σ k)) (tT σ 3 (kS σ k)) 1) ρ h' ∧ o = some (.int (nI (tn σ 3 + 1)))) (xs3 h (hasK σ k) (cNR σ k) True xNS xIS xIS) := by
  refine Ct.intro (m := 1) hB (by decide +kernel) (zb rfl) fun X C E => ?_
  refine z_aload_n C dX8_revoke_0 rfl ?_
  refine z_iload_n C dX8_revoke_1 rfl ?_
  refine z_run (z_runV C kvX8_presentKey lkX8_70 kcX8 (k_presentKey hB P) (P.x) rfl rfl (zb rfl) (zb rfl) (zb rfl) (zb rfl) dX8_revoke_2) (fun E9 h9 hx => z_out C E ((by obtain ⟨hx, rfl, rfl⟩ := hx; exact ⟨rfl, Or.inl ⟨fun q => q hx, rfl⟩⟩)) (zb rfl) (zb rfl)) (fun v9 h9 hv => ?_)
  obtain ⟨c, hc, rfl, rfl⟩ := hv
  obtain ⟨hk1, rfl⟩ := kS_of hc
  have hc3 := (lastc_lt hc).1
  refine z_astore_n C dX8_revoke_5 (zb rfl) ?_
  refine z_aload_n C dX8_revoke_6 rfl ?_
  refine z_rcv (z_runS C ksX8_checkNotRevoked lkX8_74 (k_checkNotRevoked hB (P.key hc3)) rfl rfl (zb rfl) (zb rfl) (zb rfl) (zb rfl) dX8_revoke_7) (fun hc9 => z_out C E (⟨rfl, Or.inr (Or.inl ⟨hk1, fun q => hc9 q.1, rfl⟩)⟩) (zb rfl) (zb rfl)) (fun c3 => ?_)
  refine z_aload_n C dX8_revoke_10 rfl ?_
  refine z_rcv (z_runV C kvX8_checkRoomForChange lkX8_58 kcX8 (k_checkRoom hB P) (P.x) rfl rfl (zb rfl) (zb rfl) (zb rfl) (zb rfl) dX8_revoke_11) (fun hc9 => z_out C E (⟨rfl, Or.inr (Or.inl ⟨hk1, fun q => hc9 q.2, rfl⟩)⟩) (zb rfl) (zb rfl)) (fun c4 => ?_)
  refine z_aload_n C dX8_revoke_14 rfl ?_
  refine z_getf C kcX8 flX8_10 (P.x) rfl dX8_revoke_15 ?_
  refine z_new [.int 0, .int 0, .int 0, .int 0, .int 0, .int 0] C kcX4 clX8_61 inX4 ini_X4 (zfX4) (zb rfl) (zb rfl) dX8_revoke_18 ?_
  intro q1 _ hq1 e8; subst e8
  refine z_dup C dX8_revoke_21 rfl ?_
  have P2 := P.off (P.new hq1)
  refine z_iload_n C dX8_revoke_22 rfl ?_
  refine z_aload_n C dX8_revoke_23 rfl ?_
  refine z_getf C kcX4 flX8_78 (hup_n hq1 (P.key hc3)) rfl dX8_revoke_24 ?_
  refine z_aload_n C dX8_revoke_27 rfl ?_
  refine z_getf C kcX4 flX8_80 (hup_n hq1 (P.key hc3)) rfl dX8_revoke_28 ?_
  refine z_aload_n C dX8_revoke_31 rfl ?_
  refine z_getf C kcX4 flX8_83 (hup_n hq1 (P.key hc3)) rfl dX8_revoke_32 ?_
  refine z_iconst (v := 1) C dX8_revoke_35 (by decide) ?_
  refine z_aload_n C dX8_revoke_36 rfl ?_
  refine z_getf C kcX8 flX8_36 (hup_n hq1 P.x) rfl dX8_revoke_37 ?_
  refine z_wr (z_runI C kiX4_init (Or.inl lkX8_63) (k_keyInit hB rfl (hup_self _ _ _)) rfl rfl (zb rfl) (zb rfl) (zb rfl) (zb rfl) dX8_revoke_40) ?_
  refine z_rn (z_runV C kvX2_keep lkX8_66 kcX2 (k_keep hB ((P2 _).off (P.new hq1) _) (P.new hq1) (hup_self _ _ _) c4) (((P2 _).off (P.new hq1) _).cl) rfl rfl (zb rfl) (zb rfl) (zb rfl) (zb rfl) dX8_revoke_43) (fun v9 h9 hv => ?_)
  obtain ⟨⟨loc', hs, P'⟩, rfl⟩ := hv
  exact z_iret C E dX8_revoke_46 (⟨hk1, ⟨c3, c4⟩, trivial, ⟨loc', hs, P'⟩, rfl⟩) (zb rfl) (zb rfl)
theorem k_addDoor (hB : Base G) (P : PW G h loc σ ρ) : Ct G mX8_addDoor 9 10 4100 [.ref (loc 0 0)] h (fun o h' => tn σ 0 < 5 ∧ True ∧ True ∧ pw G loc (tn σ) (sAddDoor σ) ρ h' ∧ o = some (.int (nI (tn σ 0)))) (xs3 h (tn σ 0 < 5) True True xIS xIS xIS) := by
  refine Ct.intro (m := 0) hB (by decide +kernel) (zb rfl) fun X C E => ?_
  have hb := P.lt 0
  have h5 : (5 : Int32) = nI 5 := by decide
  refine z_aload_n C dX8_addDoor_0 rfl ?_
  refine z_getf C kcX8 flX8_19 (P.x) rfl dX8_addDoor_1 ?_
  refine z_rd (z_runV C kvJx4a65c_size_8abf5 lkX8_90 kcJx4a65c (k_sizeL hB P (j := 0) (by decide)) (P.list (by decide)) rfl rfl (zb rfl) (zb rfl) (zb rfl) (zb rfl) dX8_addDoor_4) ?_
  refine z_iconst (v := 5) C dX8_addDoor_7 (by decide) ?_
  refine z_icmp_lt (tgt := 21) C dX8_addDoor_8 (by decide) (fun e1 => ?_) (fun e1 => ?_)
  · have c1 : tn σ 0 < 5 := by
      rw [h5] at e1
      exact (nI_ltI (by omega) (by omega)).mp e1
    refine z_aload_n C dX8_addDoor_21 rfl ?_
    refine z_getf C kcX8 flX8_19 (P.x) rfl dX8_addDoor_22 ?_
    refine z_new [.int 0, .int 0, .float 0, .int 0, .int 0] C kcX3 clX8_95 inX3 ini_X3 (zfX3) (zb rfl) (zb rfl) dX8_addDoor_25 ?_
    intro q1 _ hq1 e8; subst e8
    refine z_dup C dX8_addDoor_28 rfl ?_
    have P2 := P.off (P.new hq1)
    refine z_aload_n C dX8_addDoor_29 rfl ?_
    refine z_getf C kcX8 flX8_10 (hup_n hq1 P.x) rfl dX8_addDoor_30 ?_
    refine z_rd (z_runV C kvX2_newest lkX8_86 kcX2 (k_newest hB (P2 _)) (hup_n hq1 P.cl) rfl rfl (zb rfl) (zb rfl) (zb rfl) (zb rfl) dX8_addDoor_33) ?_
    refine z_aload_n C dX8_addDoor_36 rfl ?_
    refine z_getf C kcX8 flX8_36 (hup_n hq1 P.x) rfl dX8_addDoor_37 ?_
    refine z_wr (z_runI C kiX3_init (Or.inl lkX8_97) (k_doorInit hB (hup_self _ _ _)) rfl rfl (zb rfl) (zb rfl) (zb rfl) (zb rfl) dX8_addDoor_40) ?_
    refine z_rn (z_runV C kvJx4a65c_add_9ea2d lkX8_99 kcJx4a65c (k_addL hB ((P2 _).off (P.new hq1) _) (σ' := sAddDoor σ) kcX3 caX3 (by decide) (P.new hq1) (hup_self _ _ _) (by omega) rfl (fun loc => by simp [ob, sAddDoor, t1, tc, upd, tT, tR, tn, now]) (fun loc k i hd k1 k2 => ob_addDoor hd k1 k2) (fun loc i => ⟨_, rfl⟩)) (((P2 _).off (P.new hq1) _).list (by decide)) rfl rfl (zb rfl) (zb rfl) (zb rfl) (zb rfl) dX8_addDoor_43) (fun v9 h9 hv => ?_)
    obtain ⟨⟨loc', hs, P'⟩, rfl⟩ := hv
    refine z_pop C dX8_addDoor_46 rfl ?_
    refine z_aload_n C dX8_addDoor_47 rfl ?_
    refine z_getf C kcX8 flX8_19 (P'.x9 hs) rfl dX8_addDoor_48 ?_
    refine z_rd (z_runV C kvJx4a65c_size_8abf5 lkX8_90 kcJx4a65c (k_sizeL hB P' (j := 0) (by decide)) (P'.list (by decide)) rfl rfl (zb rfl) (zb rfl) (zb rfl) (zb rfl) dX8_addDoor_51) ?_
    refine z_iconst (v := 1) C dX8_addDoor_54 (by decide) ?_
    refine z_isub C dX8_addDoor_55 ?_
    have e2 : nI (tn (sAddDoor σ) 0) - 1 = nI (tn σ 0) := k_pred _
    rw [e2]
    exact z_iret C E dX8_addDoor_56 (⟨c1, trivial, trivial, ⟨loc', hs, P'⟩, rfl⟩) (zb rfl) (zb rfl)
  · exact z_throw C E ktn ktX8_51_93_55 (zb rfl) (zb rfl) dX8_addDoor_11 dX8_addDoor_14 dX8_addDoor_15 dX8_addDoor_17 dX8_addDoor_20 (⟨rfl, Or.inl ⟨fun q => e1 (by rw [h5]; exact (nI_ltI (by omega) (by omega)).mpr q), rfl⟩⟩) (zb rfl) (zb rfl)
theorem k_addPhone (hB : Base G) (P : PW G h loc σ ρ) (hz : IvP σ) : Ct G mX8_addPhone 9 10 4100 [.ref (loc 0 0)] h (fun o h' => tn σ 1 < 3 ∧ True ∧ True ∧ pw G loc (tn σ) (sAddPhone σ) ρ h' ∧ o = some (.int (nI (tn σ 1)))) (xs3 h (tn σ 1 < 3) True True xIS xIS xIS) := by
  refine Ct.intro (m := 0) hB (by decide +kernel) (zb rfl) fun X C E => ?_
  have hb := P.lt 1
  have h5 : (3 : Int32) = nI 3 := by decide
  refine z_aload_n C dX8_addPhone_0 rfl ?_
  refine z_getf C kcX8 flX8_23 (P.x) rfl dX8_addPhone_1 ?_
  refine z_rd (z_runV C kvJx4a65c_size_8abf5 lkX8_90 kcJx4a65c (k_sizeL hB P (j := 1) (by decide)) (P.list (by decide)) rfl rfl (zb rfl) (zb rfl) (zb rfl) (zb rfl) dX8_addPhone_4) ?_
  refine z_iconst (v := 3) C dX8_addPhone_7 (by decide) ?_
  refine z_icmp_lt (tgt := 21) C dX8_addPhone_8 (by decide) (fun e1 => ?_) (fun e1 => ?_)
  · have c1 : tn σ 1 < 3 := by
      rw [h5] at e1
      exact (nI_ltI (by omega) (by omega)).mp e1
    refine z_aload_n C dX8_addPhone_21 rfl ?_
    refine z_getf C kcX8 flX8_23 (P.x) rfl dX8_addPhone_22 ?_
    refine z_new [.int 0] C kcX7 clX8_126 inX7 ini_X7 (zfX7) (zb rfl) (zb rfl) dX8_addPhone_25 ?_
    intro q1 _ hq1 e8; subst e8
    refine z_dup C dX8_addPhone_28 rfl ?_
    refine z_wr (z_runI C kiX7_init (Or.inr ⟨_, lkX8_128⟩) (k_phoneInit hB (hup_self _ _ _)) rfl rfl (zb rfl) (zb rfl) (zb rfl) (zb rfl) dX8_addPhone_29) ?_
    have P2 := P.off (P.new hq1)
    have hz0 := hz.2 (tn σ 1) (Nat.le_refl _)
    refine z_rn (z_runV C kvJx4a65c_add_9ea2d lkX8_99 kcJx4a65c (k_addL hB ((P2 _).off (P.new hq1) _) (σ' := sAddPhone σ) kcX7 caX7 (by decide) (P.new hq1) (hup_self _ _ _) (by omega) rfl (fun loc => by rw [← hz0]; rfl) (fun loc k i hd k1 k2 => ob_addPhone hd k1 k2) (fun loc i => ⟨_, rfl⟩)) (((P2 _).off (P.new hq1) _).list (by decide)) rfl rfl (zb rfl) (zb rfl) (zb rfl) (zb rfl) dX8_addPhone_32) (fun v9 h9 hv => ?_)
    obtain ⟨⟨loc', hs, P'⟩, rfl⟩ := hv
    refine z_pop C dX8_addPhone_35 rfl ?_
    refine z_aload_n C dX8_addPhone_36 rfl ?_
    refine z_getf C kcX8 flX8_23 (P'.x9 hs) rfl dX8_addPhone_37 ?_
    refine z_rd (z_runV C kvJx4a65c_size_8abf5 lkX8_90 kcJx4a65c (k_sizeL hB P' (j := 1) (by decide)) (P'.list (by decide)) rfl rfl (zb rfl) (zb rfl) (zb rfl) (zb rfl) dX8_addPhone_40) ?_
    refine z_iconst (v := 1) C dX8_addPhone_43 (by decide) ?_
    refine z_isub C dX8_addPhone_44 ?_
    have e2 : nI (tn (sAddPhone σ) 1) - 1 = nI (tn σ 1) := k_pred _
    rw [e2]
    exact z_iret C E dX8_addPhone_45 (⟨c1, trivial, trivial, ⟨loc', hs, P'⟩, rfl⟩) (zb rfl) (zb rfl)
  · exact z_throw C E ktn ktX8_51_124_55 (zb rfl) (zb rfl) dX8_addPhone_11 dX8_addPhone_14 dX8_addPhone_15 dX8_addPhone_17 dX8_addPhone_20 (⟨rfl, Or.inl ⟨fun q => e1 (by rw [h5]; exact (nI_ltI (by omega) (by omega)).mpr q), rfl⟩⟩) (zb rfl) (zb rfl)
def cTh (th : Int32) : Prop := ¬ th < -500 ∧ th ≤ 500
theorem k_setRate (hB : Base G) (P : PW G h loc σ ρ) (I : Inv σ) {d th : Int32} : Ct G mX8_setRate 9 10 4100 [.ref (loc 0 0), .int d, .int th] h (fun o h' => In d (tn σ 0) ∧ cTh th ∧ True ∧ pw G loc (tn σ) (sSetRate σ (ix d) th) ρ h' ∧ o = some (.int (clk σ (ix d)))) (xs3 h (In d (tn σ 0)) (cTh th) True xIO xIA xIA) := by
  refine Ct.intro (m := 2) hB (by decide +kernel) (zb rfl) fun X C E => ?_
  have hb := P.lt 0
  refine z_aload_n C dX8_setRate_0 rfl ?_
  refine z_iload_n C dX8_setRate_1 rfl ?_
  refine z_rc (z_runV C kvX8_doorOf lkX8_103 kcX8 (k_doorOf hB P) (P.x) rfl rfl (zb rfl) (zb rfl) (zb rfl) (zb rfl) dX8_setRate_2) (fun hc9 => z_out C E (⟨rfl, Or.inl ⟨hc9, rfl⟩⟩) (zb rfl) (zb rfl)) (fun hd => ?_)
  refine z_astore_n C dX8_setRate_5 (zb rfl) ?_
  have hi := (hd.ix (by omega)).1
  refine z_iload_n C dX8_setRate_6 rfl ?_
  refine z_sipush (v := (-500)) C dX8_setRate_7 (by decide) ?_
  refine z_icmp_lt (tgt := 20) C dX8_setRate_10 (by decide) (fun e1 => ?_) (fun e1 => ?_)
  · exact z_throw C E ktn ktX8_107_109_111 (zb rfl) (zb rfl) dX8_setRate_20 dX8_setRate_23 dX8_setRate_24 dX8_setRate_26 dX8_setRate_29 (⟨rfl, Or.inr (Or.inl ⟨hd, fun q => q.1 e1, rfl⟩)⟩) (zb rfl) (zb rfl)
  · refine z_iload_n C dX8_setRate_13 rfl ?_
    refine z_sipush (v := 500) C dX8_setRate_14 (by decide) ?_
    refine z_icmp_le (tgt := 30) C dX8_setRate_17 (by decide) (fun e2 => ?_) (fun e2 => ?_)
    · refine z_aload_n C dX8_setRate_30 rfl ?_
      refine z_aload_n C dX8_setRate_31 rfl ?_
      refine z_getf C kcX8 flX8_36 (P.x) rfl dX8_setRate_32 ?_
      refine z_rd (z_runV C kvX3_minuteAt lkX8_112 kcX3 (k_minuteAt hB (P.door hi) (I.dr hi).1) (P.door hi) rfl rfl (zb rfl) (zb rfl) (zb rfl) (zb rfl) dX8_setRate_35) ?_
      refine z_istore C dX8_setRate_38 (zb rfl) ?_
      refine z_aload_n C dX8_setRate_40 rfl ?_
      refine z_aload_n C dX8_setRate_41 rfl ?_
      refine z_getf C kcX8 flX8_36 (P.x) rfl dX8_setRate_42 ?_
      refine z_iload C dX8_setRate_45 rfl ?_
      refine z_wr (z_runV C kvX3_setClock lkX8_116 kcX3 (k_setClock hB (P.door hi)) (P.door hi) rfl rfl (zb rfl) (zb rfl) (zb rfl) (zb rfl) dX8_setRate_47) ?_
      have P1 := P.setClock hi (clk σ (ix d))
      obtain ⟨f1, f2, -⟩ := fp_rate e1 e2
      refine z_aload_n C dX8_setRate_50 rfl ?_
      refine z_fconst1 C dX8_setRate_51 ?_
      refine z_iload_n C dX8_setRate_52 rfl ?_
      refine z_i2f C dX8_setRate_53 ?_
      refine z_ldcf C kstX8_119 dX8_setRate_54 ?_
      refine z_fdiv C dX8_setRate_56 (f1) ?_
      refine z_fadd C dX8_setRate_57 (f2) ?_
      refine z_putf C kcX3 flX8_120 (P1.door hi) rfl (rfl) (rfl) (zb rfl) dX8_setRate_58 ?_
      intro _ e8; subst e8
      have P2 := P1.setRate hi (rateOf th)
      refine z_iload C dX8_setRate_61 rfl ?_
      exact z_iret C E dX8_setRate_63 (⟨hd, ⟨e1, e2⟩, trivial, ⟨loc, Same.refl _ _, P2⟩, rfl⟩) (zb rfl) (zb rfl)
    · exact z_throw C E ktn ktX8_107_109_111 (zb rfl) (zb rfl) dX8_setRate_20 dX8_setRate_23 dX8_setRate_24 dX8_setRate_26 dX8_setRate_29 (⟨rfl, Or.inr (Or.inl ⟨hd, fun q => e2 q.2, rfl⟩)⟩) (zb rfl) (zb rfl)
def cPass (σ : SG) (m : Int32) : Prop := (¬ m < 1 ∧ m ≤ 10000) ∧ m ≤ 100000 - now σ
theorem k_pass (hB : Base G) (P : PW G h loc σ ρ) {m : Int32} : Ct G mX8_pass 9 10 4100 [.ref (loc 0 0), .int m] h (fun o h' => cPass σ m ∧ True ∧ True ∧ pw G loc (tn σ) (sPass σ m) ρ h' ∧ o = some (.int (now σ + m))) (xs3 h (cPass σ m) True True xIA xIA xIA) := by
  refine Ct.intro (m := 0) hB (by decide +kernel) (zb rfl) fun X C E => ?_
  refine z_iload_n C dX8_pass_0 rfl ?_
  refine z_iconst (v := 1) C dX8_pass_1 (by decide) ?_
  refine z_icmp_lt (tgt := 12) C dX8_pass_2 (by decide) (fun e1 => ?_) (fun e1 => ?_)
  · exact z_throw C E ktn ktX8_107_129_111 (zb rfl) (zb rfl) dX8_pass_12 dX8_pass_15 dX8_pass_16 dX8_pass_18 dX8_pass_21 (⟨rfl, Or.inl ⟨fun q => q.1.1 e1, rfl⟩⟩) (zb rfl) (zb rfl)
  · refine z_iload_n C dX8_pass_5 rfl ?_
    refine z_sipush (v := 10000) C dX8_pass_6 (by decide) ?_
    refine z_icmp_le (tgt := 22) C dX8_pass_9 (by decide) (fun e2 => ?_) (fun e2 => ?_)
    · refine z_iload_n C dX8_pass_22 rfl ?_
      refine z_ldc C kstX8_131 dX8_pass_23 ?_
      refine z_aload_n C dX8_pass_25 rfl ?_
      refine z_getf C kcX8 flX8_36 (P.x) rfl dX8_pass_26 ?_
      refine z_isub C dX8_pass_29 ?_
      refine z_icmp_le (tgt := 43) C dX8_pass_30 (by decide) (fun e3 => ?_) (fun e3 => ?_)
      · refine z_aload_n C dX8_pass_43 rfl ?_
        refine z_dup C dX8_pass_44 rfl ?_
        refine z_getf C kcX8 flX8_36 (P.x) rfl dX8_pass_45 ?_
        refine z_iload_n C dX8_pass_48 rfl ?_
        refine z_iadd C dX8_pass_49 ?_
        refine z_putf C kcX8 flX8_36 (P.x) rfl (rfl) (rfl) (zb rfl) dX8_pass_50 ?_
        intro _ e8; subst e8
        have P1 := P.setNow m
        refine z_aload_n C dX8_pass_53 rfl ?_
        refine z_getf C kcX8 flX8_36 (P1.x) rfl dX8_pass_54 ?_
        exact z_iret C E dX8_pass_57 (⟨⟨⟨e1, e2⟩, e3⟩, trivial, trivial, ⟨loc, Same.refl _ _, P1⟩, rfl⟩) (zb rfl) (zb rfl)
      · exact z_throw C E ktn ktX8_107_132_111 (zb rfl) (zb rfl) dX8_pass_33 dX8_pass_36 dX8_pass_37 dX8_pass_39 dX8_pass_42 (⟨rfl, Or.inl ⟨fun q => e3 q.2, rfl⟩⟩) (zb rfl) (zb rfl)
    · exact z_throw C E ktn ktX8_107_129_111 (zb rfl) (zb rfl) dX8_pass_12 dX8_pass_15 dX8_pass_16 dX8_pass_18 dX8_pass_21 (⟨rfl, Or.inl ⟨fun q => e2 q.1.2, rfl⟩⟩) (zb rfl) (zb rfl)
theorem k_answer (hB : Base G) (P : PW G h loc σ ρ) (I : Inv σ) {d k : Int32} : Ct G mX8_answer 9 10 4100 [.ref (loc 0 0), .int d, .int k] h (fun o h' => In d (tn σ 0) ∧ hasK σ k ∧ True ∧ h = h' ∧ o = some (.int (letter σ (ix (tT σ 7 (ix d))) k d (clk σ (ix d))))) (xs3 h (In d (tn σ 0)) (hasK σ k) True xIO xNS xNS) := by
  refine Ct.intro (m := 1) hB (by decide +kernel) (zb rfl) fun X C E => ?_
  have hb := P.lt 0
  refine z_aload_n C dX8_answer_0 rfl ?_
  refine z_iload_n C dX8_answer_1 rfl ?_
  refine z_rc (z_runV C kvX8_doorOf lkX8_103 kcX8 (k_doorOf hB P) (P.x) rfl rfl (zb rfl) (zb rfl) (zb rfl) (zb rfl) dX8_answer_2) (fun hc9 => z_out C E (⟨rfl, Or.inl ⟨hc9, rfl⟩⟩) (zb rfl) (zb rfl)) (fun hd => ?_)
  refine z_astore_n C dX8_answer_5 (zb rfl) ?_
  have hi := (hd.ix (by omega)).1
  refine z_aload_n C dX8_answer_6 rfl ?_
  refine z_iload_n C dX8_answer_7 rfl ?_
  refine z_run (z_runV C kvX8_presentKey lkX8_70 kcX8 (k_presentKey hB P) (P.x) rfl rfl (zb rfl) (zb rfl) (zb rfl) (zb rfl) dX8_answer_8) (fun E9 h9 hx => z_out C E ((by obtain ⟨hx, rfl, rfl⟩ := hx; exact ⟨rfl, Or.inr (Or.inl ⟨hd, fun q => q hx, rfl⟩)⟩)) (zb rfl) (zb rfl)) (fun v9 h9 hv => ?_)
  obtain ⟨c, hc, rfl, rfl⟩ := hv
  have hk1 := (kS_of hc).1
  refine z_pop C dX8_answer_11 rfl ?_
  refine z_aload_n C dX8_answer_12 rfl ?_
  refine z_getf C kcX8 flX8_10 (P.x) rfl dX8_answer_13 ?_
  refine z_aload_n C dX8_answer_16 rfl ?_
  refine z_getf C kcX3 flX8_162 (P.door hi) rfl dX8_answer_17 ?_
  refine z_iload_n C dX8_answer_20 rfl ?_
  refine z_iload_n C dX8_answer_21 rfl ?_
  refine z_aload_n C dX8_answer_22 rfl ?_
  refine z_aload_n C dX8_answer_23 rfl ?_
  refine z_getf C kcX8 flX8_36 (P.x) rfl dX8_answer_24 ?_
  refine z_rd (z_runV C kvX3_minuteAt lkX8_112 kcX3 (k_minuteAt hB (P.door hi) (I.dr hi).1) (P.door hi) rfl rfl (zb rfl) (zb rfl) (zb rfl) (zb rfl) dX8_answer_27) ?_
  refine z_rd (z_runV C kvX2_letterIn lkX8_177 kcX2 (k_letterD hB P (I.D _ hi).2.2.2.1) (P.cl) rfl rfl (zb rfl) (zb rfl) (zb rfl) (zb rfl) dX8_answer_30) ?_
  exact z_zret C E (letter_nar _ _ _ _ _) dX8_answer_33 (⟨hd, hk1, trivial, rfl, rfl⟩) (zb rfl) (zb rfl)
theorem k_open (hB : Base G) (P : PW G h loc σ ρ) (I : Inv σ) {d k : Int32} : Ct G mX8_open 9 10 4100 [.ref (loc 0 0), .int d, .int k] h (fun o h' => In d (tn σ 0) ∧ hasK σ k ∧ tn σ 2 < 60 ∧ pw G loc (tn σ) (sOpen σ d k (clk σ (ix d)) (letter σ (ix (tT σ 7 (ix d))) k d (clk σ (ix d))) (tT σ 7 (ix d))) ρ h' ∧ o = some (.int (letter σ (ix (tT σ 7 (ix d))) k d (clk σ (ix d))))) (xs3 h (In d (tn σ 0)) (hasK σ k) (tn σ 2 < 60) xIO xNS xIS) := by
  refine Ct.intro (m := 3) hB (by decide +kernel) (zb rfl) fun X C E => ?_
  have hb := P.lt 0
  have hb2 := P.lt 2
  have h60 : (60 : Int32) = nI 60 := by decide
  refine z_aload_n C dX8_open_0 rfl ?_
  refine z_iload_n C dX8_open_1 rfl ?_
  refine z_rc (z_runV C kvX8_doorOf lkX8_103 kcX8 (k_doorOf hB P) (P.x) rfl rfl (zb rfl) (zb rfl) (zb rfl) (zb rfl) dX8_open_2) (fun hc9 => z_out C E (⟨rfl, Or.inl ⟨hc9, rfl⟩⟩) (zb rfl) (zb rfl)) (fun hd => ?_)
  refine z_astore_n C dX8_open_5 (zb rfl) ?_
  have hi := (hd.ix (by omega)).1
  refine z_aload_n C dX8_open_6 rfl ?_
  refine z_iload_n C dX8_open_7 rfl ?_
  refine z_run (z_runV C kvX8_presentKey lkX8_70 kcX8 (k_presentKey hB P) (P.x) rfl rfl (zb rfl) (zb rfl) (zb rfl) (zb rfl) dX8_open_8) (fun E9 h9 hx => z_out C E ((by obtain ⟨hx, rfl, rfl⟩ := hx; exact ⟨rfl, Or.inr (Or.inl ⟨hd, fun q => q hx, rfl⟩)⟩)) (zb rfl) (zb rfl)) (fun v9 h9 hv => ?_)
  obtain ⟨c, hc, rfl, rfl⟩ := hv
  have hk1 := (kS_of hc).1
  refine z_pop C dX8_open_11 rfl ?_
  refine z_aload_n C dX8_open_12 rfl ?_
  refine z_getf C kcX8 flX8_26 (P.x) rfl dX8_open_13 ?_
  refine z_rd (z_runV C kvJx4a65c_size_8abf5 lkX8_90 kcJx4a65c (k_sizeL hB P (j := 2) (by decide)) (P.list (by decide)) rfl rfl (zb rfl) (zb rfl) (zb rfl) (zb rfl) dX8_open_16) ?_
  refine z_bipush (v := 60) C dX8_open_19 (by decide) ?_
  refine z_icmp_lt (tgt := 34) C dX8_open_21 (by decide) (fun e1 => ?_) (fun e1 => ?_)
  · have c3 : tn σ 2 < 60 := by
      rw [h60] at e1
      exact (nI_ltI (by omega) (by omega)).mp e1
    have hl := letter_nar σ (ix (tT σ 7 (ix d))) k d (clk σ (ix d))
    refine z_aload_n C dX8_open_34 rfl ?_
    refine z_aload_n C dX8_open_35 rfl ?_
    refine z_getf C kcX8 flX8_36 (P.x) rfl dX8_open_36 ?_
    refine z_rd (z_runV C kvX3_minuteAt lkX8_112 kcX3 (k_minuteAt hB (P.door hi) (I.dr hi).1) (P.door hi) rfl rfl (zb rfl) (zb rfl) (zb rfl) (zb rfl) dX8_open_39) ?_
    refine z_istore C dX8_open_42 (zb rfl) ?_
    refine z_aload_n C dX8_open_44 rfl ?_
    refine z_getf C kcX8 flX8_10 (P.x) rfl dX8_open_45 ?_
    refine z_aload_n C dX8_open_48 rfl ?_
    refine z_getf C kcX3 flX8_162 (P.door hi) rfl dX8_open_49 ?_
    refine z_iload_n C dX8_open_52 rfl ?_
    refine z_iload_n C dX8_open_53 rfl ?_
    refine z_iload C dX8_open_54 rfl ?_
    refine z_rd (z_runV C kvX2_letterIn lkX8_177 kcX2 (k_letterD hB P (I.D _ hi).2.2.2.1) (P.cl) rfl rfl (zb rfl) (zb rfl) (zb rfl) (zb rfl) dX8_open_56) ?_
    refine z_istore C dX8_open_59 (zb rfl) ?_
    refine z_aload_n C dX8_open_61 rfl ?_
    refine z_getf C kcX8 flX8_26 (P.x) rfl dX8_open_62 ?_
    refine z_new [.int 0, .int 0, .int 0, .int 0, .int 0, .int 0, .int 0, .int 0] C kcX0 clX8_153 inX0 ini_X0 (zfX0) (zb rfl) (zb rfl) dX8_open_65 ?_
    intro q1 _ hq1 e8; subst e8
    refine z_dup C dX8_open_68 rfl ?_
    have P2 := P.off (P.new hq1)
    refine z_iload_n C dX8_open_69 rfl ?_
    refine z_iload_n C dX8_open_70 rfl ?_
    refine z_iload C dX8_open_71 rfl ?_
    refine z_iload C dX8_open_73 rfl ?_
    refine z_aload_n C dX8_open_75 rfl ?_
    refine z_getf C kcX3 flX8_162 (hup_n hq1 (P.door hi)) rfl dX8_open_76 ?_
    refine z_aload_n C dX8_open_79 rfl ?_
    refine z_getf C kcX8 flX8_36 (hup_n hq1 P.x) rfl dX8_open_80 ?_
    refine z_wr (z_runI C kiX0_init (Or.inl lkX8_181) (k_auditInit hB hl (hup_self _ _ _)) rfl rfl (zb rfl) (zb rfl) (zb rfl) (zb rfl) dX8_open_83) ?_
    refine z_rn (z_runV C kvJx4a65c_add_9ea2d lkX8_99 kcJx4a65c (k_addL hB ((P2 _).off (P.new hq1) _) (σ' := sOpen σ d k (clk σ (ix d)) (letter σ (ix (tT σ 7 (ix d))) k d (clk σ (ix d))) (tT σ 7 (ix d))) kcX0 caX0 (by decide) (P.new hq1) (hup_self _ _ _) (by omega) rfl (fun loc => by simp [ob, sOpen, t1, tc, upd, tT, tR, tn, now, clk, drift]) (fun loc k i hd k1 k2 => ob_open hd k1 k2) (fun loc i => ⟨_, rfl⟩)) (((P2 _).off (P.new hq1) _).list (by decide)) rfl rfl (zb rfl) (zb rfl) (zb rfl) (zb rfl) dX8_open_86) (fun v9 h9 hv => ?_)
    obtain ⟨⟨loc', hs, P'⟩, rfl⟩ := hv
    refine z_pop C dX8_open_89 rfl ?_
    refine z_iload C dX8_open_90 rfl ?_
    exact z_zret C E (hl) dX8_open_92 (⟨hd, hk1, c3, ⟨loc', hs, P'⟩, rfl⟩) (zb rfl) (zb rfl)
  · exact z_throw C E ktn ktX8_51_175_55 (zb rfl) (zb rfl) dX8_open_24 dX8_open_27 dX8_open_28 dX8_open_30 dX8_open_33 (⟨rfl, Or.inr (Or.inr ⟨hd, hk1, fun q => e1 (by rw [h60]; exact (nI_ltI (by omega) (by omega)).mpr q), rfl⟩)⟩) (zb rfl) (zb rfl)
/-! the two meetings: a loop over the audits -/
theorem sArrive_0 (τ : SG) (p : Int32) : sArrive τ p 0 = τ := by
  unfold sArrive
  have e : tc (tT τ) 18 (fun a => if a < 0 ∧ pCarr τ p a = true then now τ else tT τ 18 a) = tT τ := by
    funext c a
    unfold tc
    split
    · next q => rw [q]; exact if_neg (fun z => absurd z.1 (Nat.not_lt_zero _))
    · rfl
  rw [e]
theorem sArrive_T {τ : SG} {p : Int32} {n c a : Nat} (e : c ≠ 18) : tT (sArrive τ p n) c a = tT τ c a := by
  show tc _ _ _ _ _ = _
  unfold tc
  rw [if_neg e]
theorem sArrive_18 {τ : SG} {p : Int32} {n a : Nat} (e : n ≤ a) : tT (sArrive τ p n) 18 a = tT τ 18 a := by
  have e9 : tT (sArrive τ p n) 18 a = if a < n ∧ pCarr τ p a = true then now τ else tT τ 18 a := rfl
  rw [e9]
  exact if_neg (fun q => absurd q.1 (by omega))
theorem sArrive_s {τ : SG} {p : Int32} {n : Nat} (e : pCarr τ p n = true) : sArr (sArrive τ p n) n (now τ) = sArrive τ p (n + 1) := by
  unfold sArr
  have q : t1 (tT (sArrive τ p n)) 18 n (now τ) = tT (sArrive τ p (n + 1)) := by
    funext c a
    show tc (tT (sArrive τ p n)) 18 _ c a = tc _ _ _ c a
    unfold tc
    by_cases h : c = 18
    · subst h
      rw [if_pos rfl, if_pos rfl]
      show (if a = n then now τ else (if a < n ∧ _ then _ else _)) = if a < n + 1 ∧ _ then _ else _
      by_cases h2 : a = n
      · subst h2
        rw [if_pos rfl, if_pos ⟨Nat.lt_succ_self _, e⟩]
      · rw [if_neg h2]
        by_cases h3 : a < n ∧ pCarr τ p a = true
        · rw [if_pos h3, if_pos ⟨by omega, h3.2⟩]
        · rw [if_neg h3, if_neg (fun z => h3 ⟨by omega, z.2⟩)]
    · rw [if_neg h, if_neg h, sArrive_T h]
  rw [q]
  rfl
theorem sArrive_n {τ : SG} {p : Int32} {n : Nat} (e : pCarr τ p n = false) : sArrive τ p n = sArrive τ p (n + 1) := by
  unfold sArrive
  have q : (fun a => if a < n ∧ pCarr τ p a = true then now τ else tT τ 18 a) = fun a => if a < n + 1 ∧ pCarr τ p a = true then now τ else tT τ 18 a := by
    funext a
    by_cases h3 : a < n ∧ pCarr τ p a = true
    · rw [if_pos h3, if_pos ⟨by omega, h3.2⟩]
    · rw [if_neg h3, if_neg (fun z => h3 ⟨by
        by_cases h2 : a = n
        · rw [h2, e] at z; exact absurd z.2 (by decide)
        · omega, z.2⟩)]
  rw [q]
theorem k_meetCloud (hB : Base G) (P : PW G h loc σ ρ) (hm : tn σ 4 < 512) {p : Int32} : Ct G mX8_meetCloud 9 10 4100 [.ref (loc 0 0), .int p] h (fun o h' => In p (tn σ 1) ∧ True ∧ True ∧ pw G loc (tn σ) (sMeetCloud σ p) ρ h' ∧ o = some (.int (nI (cnt (pCarr σ p) (tn σ 2))))) (xs3 h (In p (tn σ 1)) True True xIO xIO xIO) := by
  refine Ct.intro (m := 4) hB (by decide +kernel) (zb rfl) fun X C E => ?_
  have hb := P.lt 1
  have hb2 := P.lt 2
  refine z_aload_n C dX8_meetCloud_0 rfl ?_
  refine z_iload_n C dX8_meetCloud_1 rfl ?_
  refine z_rc (z_runV C kvX8_phoneOf lkX8_134 kcX8 (k_phoneOf hB P) (P.x) rfl rfl (zb rfl) (zb rfl) (zb rfl) (zb rfl) dX8_meetCloud_2) (fun hc9 => z_out C E (⟨rfl, Or.inl ⟨hc9, rfl⟩⟩) (zb rfl) (zb rfl)) (fun hd => ?_)
  refine z_astore_n C dX8_meetCloud_5 (zb rfl) ?_
  have hi := (hd.ix (by omega)).1
  refine z_aload_n C dX8_meetCloud_6 rfl ?_
  refine z_aload_n C dX8_meetCloud_7 rfl ?_
  refine z_getf C kcX8 flX8_10 (P.x) rfl dX8_meetCloud_8 ?_
  refine z_rd (z_runV C kvX2_newest lkX8_86 kcX2 (k_newest hB P) (P.cl) rfl rfl (zb rfl) (zb rfl) (zb rfl) (zb rfl) dX8_meetCloud_11) ?_
  refine z_putf C kcX7 flX8_138 (P.phone hi) rfl (rfl) (rfl) (zb rfl) dX8_meetCloud_14 ?_
  intro _ e8; subst e8
  have P1 := P.setPhone hi (nI (tn σ 3))
  refine z_aload_n C dX8_meetCloud_17 rfl ?_
  refine z_getf C kcX8 flX8_32 (P1.x) rfl dX8_meetCloud_18 ?_
  refine z_new [.int 0, .int 0, .int 0] C kcX5 clX8_141 inX5 ini_X5 (zfX5) (zb rfl) (zb rfl) dX8_meetCloud_21 ?_
  intro q1 _ hq1 e8; subst e8
  refine z_dup C dX8_meetCloud_24 rfl ?_
  have P2 := P1.off (P1.new hq1)
  refine z_iload_n C dX8_meetCloud_25 rfl ?_
  refine z_iconst (v := (-1)) C dX8_meetCloud_26 (by decide) ?_
  refine z_aload_n C dX8_meetCloud_27 rfl ?_
  refine z_getf C kcX8 flX8_10 (hup_n hq1 P1.x) rfl dX8_meetCloud_28 ?_
  refine z_rd (z_runV C kvX2_newest lkX8_86 kcX2 (k_newest hB (P2 _)) (hup_n hq1 P1.cl) rfl rfl (zb rfl) (zb rfl) (zb rfl) (zb rfl) dX8_meetCloud_31) ?_
  refine z_wr (z_runI C kiX5_init (Or.inl lkX8_143) (k_meetInit hB (hup_self _ _ _)) rfl rfl (zb rfl) (zb rfl) (zb rfl) (zb rfl) dX8_meetCloud_34) ?_
  refine z_rn (z_runV C kvX6_keep lkX8_146 kcX6 (k_meetKeep hB ((P2 _).off (P1.new hq1) _) (P1.new hq1) (hup_self _ _ _) hm) (((P2 _).off (P1.new hq1) _).ms) rfl rfl (zb rfl) (zb rfl) (zb rfl) (zb rfl) dX8_meetCloud_37) (fun v9 h9 hv => ?_)
  obtain ⟨⟨loc', hs, P'⟩, rfl⟩ := hv
  refine z_iconst (v := 0) C dX8_meetCloud_40 (by decide) ?_
  refine z_istore_n C dX8_meetCloud_41 (zb rfl) ?_
  refine z_iconst (v := 0) C dX8_meetCloud_42 (by decide) ?_
  refine z_istore C dX8_meetCloud_43 (zb rfl) ?_
  obtain ⟨τ, hτ⟩ : ∃ τ, τ = sMeet (sPhone σ (ix p) (nI (tn σ 3))) p (-1) (nI (tn σ 3)) := ⟨_, rfl⟩
  have hP9 : PW G h9 loc' (sArrive τ p 0) ρ := by rw [sArrive_0, hτ]; exact P'
  have hn : tn τ 2 = tn σ 2 := by rw [hτ]; rfl
  have hcn : pCarr σ p = pCarr τ p := by rw [hτ]; rfl
  refine Zs.mask [true, true, false, true, true, false] ?_
  refine z_loop (I := fun i => ∀ h1, PW G h1 loc' (sArrive τ p i) ρ → Zs G X 6 h1 (0 + 1 + 0 + 1 + 0 + 0 + 1) (0 + 6 + 0 + 3 + 0 + 0 + 4000) 45 [some (.ref (loc 0 0)), some (.int p), none, some (.int (nI (cnt (pCarr τ p) i))), some (.int (nI i)), none] []) (tn σ 2) (fun i hi ih => ?_) 0 (Nat.zero_le _) h9 hP9
  intro h1 P
  have hs2 : tn (sArrive τ p i) 2 = tn σ 2 := hn
  refine z_iload C dX8_meetCloud_45 rfl ?_
  refine z_aload_n C dX8_meetCloud_47 rfl ?_
  refine z_getf C kcX8 flX8_26 (P.x9 hs) rfl dX8_meetCloud_48 ?_
  refine z_rd (z_runV C kvJx4a65c_size_8abf5 lkX8_90 kcJx4a65c (k_sizeL hB P (j := 2) (by decide)) (P.list (by decide)) rfl rfl (zb rfl) (zb rfl) (zb rfl) (zb rfl) dX8_meetCloud_51) ?_
  refine z_icmp_ge (tgt := 98) C dX8_meetCloud_54 (by decide) (fun e1 => ?_) (fun e1 => ?_)
  · rw [hs2] at e1
    have ei := i_top hb2 hi e1
    refine z_iload_n C dX8_meetCloud_98 rfl ?_
    exact z_iret C E dX8_meetCloud_99 (⟨hd, trivial, trivial, ⟨loc', hs, by unfold sMeetCloud; rw [← hτ, ← ei]; exact P⟩, by rw [ei, hcn]⟩) (zb rfl) (zb rfl)
  · rw [hs2] at e1
    have ei := i_in hb2 hi e1
    have ih := ih ei
    have ea : i < tn (sArrive τ p i) 2 := by rw [hs2]; exact ei
    refine z_aload_n C dX8_meetCloud_57 rfl ?_
    refine z_getf C kcX8 flX8_26 (P.x9 hs) rfl dX8_meetCloud_58 ?_
    refine z_iload C dX8_meetCloud_61 rfl ?_
    refine z_rd (z_runV C kvJx4a65c_get_915e3 lkX8_149 kcJx4a65c (k_getL hB P (j := 2) (by decide) ea) (P.list (by decide)) rfl rfl (zb rfl) (zb rfl) (zb rfl) (zb rfl) dX8_meetCloud_63) ?_
    refine z_checkcast C kcX0 clX8_153 (P.audit ea) dX8_meetCloud_66 ?_
    refine z_astore C dX8_meetCloud_69 (zb rfl) ?_
    refine z_aload C dX8_meetCloud_71 rfl ?_
    refine z_iload_n C dX8_meetCloud_73 rfl ?_
    refine z_rd (z_runV C kvX0_isCarriedBy lkX8_155 kcX0 (k_isCarriedBy hB (P.audit ea)) (P.audit ea) rfl rfl (zb rfl) (zb rfl) (zb rfl) (zb rfl) dX8_meetCloud_74) ?_
    rw [sArrive_T (show 17 ≠ 18 by decide), sArrive_18 (Nat.le_refl i)]
    cases hp : pCarr τ p i with
    | true =>
      rw [if_pos (of_decide_eq_true hp)]
      rw [cnt_pos hp, ← sArrive_s hp] at ih
      have e9 : tT (sArrive τ p i) 22 0 = now τ := sArrive_T (by decide)
      refine z_if_eq (tgt := 92) C dX8_meetCloud_77 (by decide) (fun e9 => absurd e9 ((by decide))) (fun _ => ?_)
      refine z_aload C dX8_meetCloud_80 rfl ?_
      refine z_aload_n C dX8_meetCloud_82 rfl ?_
      refine z_getf C kcX8 flX8_36 (P.x9 hs) rfl dX8_meetCloud_83 ?_
      rw [e9]
      refine z_putf C kcX0 flX8_159 (P.audit ea) rfl (rfl) (rfl) (zb rfl) dX8_meetCloud_86 ?_
      intro _ e8; subst e8
      refine z_iinc _ C dX8_meetCloud_89 rfl (nI_1 _) (zb rfl) ?_
      refine z_iinc _ C dX8_meetCloud_92 rfl (nI_1 _) (zb rfl) ?_
      refine z_goto (tgt := 45) C dX8_meetCloud_95 (by decide) ?_
      exact Zs.mask [true, true, false, true, true, false] (ih _ (P.setArr ea (now τ)))
    | false =>
      rw [if_neg (of_decide_eq_false hp)]
      rw [cnt_neg hp, ← sArrive_n hp] at ih
      refine z_if_eq (tgt := 92) C dX8_meetCloud_77 (by decide) (fun _ => ?_) (fun e9 => absurd e9 ((fun e => e rfl)))
      refine z_iinc _ C dX8_meetCloud_92 rfl (nI_1 _) (zb rfl) ?_
      refine z_goto (tgt := 45) C dX8_meetCloud_95 (by decide) ?_
      exact Zs.mask [true, true, false, true, true, false] (ih _ P)
theorem sTake_0 (τ : SG) (p d : Int32) : sTake τ p d 0 = τ := by
  unfold sTake
  have e : tc (tT τ) 17 (fun a => if a < 0 ∧ pWait τ d a = true then p else tT τ 17 a) = tT τ := by
    funext c a
    unfold tc
    split
    · next q => rw [q]; exact if_neg (fun z => absurd z.1 (Nat.not_lt_zero _))
    · rfl
  rw [e]
theorem sTake_T {τ : SG} {p d : Int32} {n c a : Nat} (e : c ≠ 17) : tT (sTake τ p d n) c a = tT τ c a := by
  show tc _ _ _ _ _ = _
  unfold tc
  rw [if_neg e]
theorem sTake_17 {τ : SG} {p d : Int32} {n a : Nat} (e : n ≤ a) : tT (sTake τ p d n) 17 a = tT τ 17 a := by
  have e9 : tT (sTake τ p d n) 17 a = if a < n ∧ pWait τ d a = true then p else tT τ 17 a := rfl
  rw [e9]
  exact if_neg (fun q => absurd q.1 (by omega))
theorem sTake_s {τ : SG} {p d : Int32} {n : Nat} (e : pWait τ d n = true) : sTaker (sTake τ p d n) n (p) = sTake τ p d (n + 1) := by
  unfold sTaker
  have q : t1 (tT (sTake τ p d n)) 17 n (p) = tT (sTake τ p d (n + 1)) := by
    funext c a
    show tc (tT (sTake τ p d n)) 17 _ c a = tc _ _ _ c a
    unfold tc
    by_cases h : c = 17
    · subst h
      rw [if_pos rfl, if_pos rfl]
      show (if a = n then p else (if a < n ∧ _ then _ else _)) = if a < n + 1 ∧ _ then _ else _
      by_cases h2 : a = n
      · subst h2
        rw [if_pos rfl, if_pos ⟨Nat.lt_succ_self _, e⟩]
      · rw [if_neg h2]
        by_cases h3 : a < n ∧ pWait τ d a = true
        · rw [if_pos h3, if_pos ⟨by omega, h3.2⟩]
        · rw [if_neg h3, if_neg (fun z => h3 ⟨by omega, z.2⟩)]
    · rw [if_neg h, if_neg h, sTake_T h]
  rw [q]
  rfl
theorem sTake_n {τ : SG} {p d : Int32} {n : Nat} (e : pWait τ d n = false) : sTake τ p d n = sTake τ p d (n + 1) := by
  unfold sTake
  have q : (fun a => if a < n ∧ pWait τ d a = true then p else tT τ 17 a) = fun a => if a < n + 1 ∧ pWait τ d a = true then p else tT τ 17 a := by
    funext a
    by_cases h3 : a < n ∧ pWait τ d a = true
    · rw [if_pos h3, if_pos ⟨by omega, h3.2⟩]
    · rw [if_neg h3, if_neg (fun z => h3 ⟨by
        by_cases h2 : a = n
        · rw [h2, e] at z; exact absurd z.2 (by decide)
        · omega, z.2⟩)]
  rw [q]
theorem k_meetDoor (hB : Base G) (P : PW G h loc σ ρ) (hm : tn σ 4 < 512) {p d : Int32} : Ct G mX8_meetDoor 9 10 4100 [.ref (loc 0 0), .int p, .int d] h (fun o h' => (In p (tn σ 1) ∧ In d (tn σ 0)) ∧ True ∧ True ∧ pw G loc (tn σ) (sMeetDoor σ p d) ρ h' ∧ o = some (.int (nI (cnt (pWait σ d) (tn σ 2))))) (xs3 h (In p (tn σ 1) ∧ In d (tn σ 0)) True True xIO xIO xIO) := by
  refine Ct.intro (m := 5) hB (by decide +kernel) (zb rfl) fun X C E => ?_
  have hb := P.lt 1
  have hb0 := P.lt 0
  have hb2 := P.lt 2
  refine z_aload_n C dX8_meetDoor_0 rfl ?_
  refine z_iload_n C dX8_meetDoor_1 rfl ?_
  refine z_rc (z_runV C kvX8_phoneOf lkX8_134 kcX8 (k_phoneOf hB P) (P.x) rfl rfl (zb rfl) (zb rfl) (zb rfl) (zb rfl) dX8_meetDoor_2) (fun hc9 => z_out C E (⟨rfl, Or.inl ⟨fun q => hc9 q.1, rfl⟩⟩) (zb rfl) (zb rfl)) (fun hp => ?_)
  refine z_astore_n C dX8_meetDoor_5 (zb rfl) ?_
  have hpi := (hp.ix (by omega)).1
  refine z_aload_n C dX8_meetDoor_6 rfl ?_
  refine z_iload_n C dX8_meetDoor_7 rfl ?_
  refine z_rc (z_runV C kvX8_doorOf lkX8_103 kcX8 (k_doorOf hB P) (P.x) rfl rfl (zb rfl) (zb rfl) (zb rfl) (zb rfl) dX8_meetDoor_8) (fun hc9 => z_out C E (⟨rfl, Or.inl ⟨fun q => hc9 q.2, rfl⟩⟩) (zb rfl) (zb rfl)) (fun hd => ?_)
  refine z_astore C dX8_meetDoor_11 (zb rfl) ?_
  have hi := (hd.ix (by omega)).1
  refine z_aload C dX8_meetDoor_13 rfl ?_
  refine z_aload C dX8_meetDoor_15 rfl ?_
  refine z_getf C kcX3 flX8_162 (P.door hi) rfl dX8_meetDoor_17 ?_
  refine z_aload_n C dX8_meetDoor_20 rfl ?_
  refine z_getf C kcX7 flX8_138 (P.phone hpi) rfl dX8_meetDoor_21 ?_
  refine z_mmax C lkX8_163 st_max ini_J9 co_max (zb rfl) (zb rfl) (zb rfl) (zb rfl) dX8_meetDoor_24 ?_
  refine z_putf C kcX3 flX8_162 (P.door hi) rfl (rfl) (rfl) (zb rfl) dX8_meetDoor_27 ?_
  intro _ e8; subst e8
  have P0 := P.setVer hi (i32max (tT σ 7 (ix d)) (tT σ 10 (ix p)))
  refine z_aload C dX8_meetDoor_30 rfl ?_
  refine z_aload_n C dX8_meetDoor_32 rfl ?_
  refine z_getf C kcX8 flX8_36 (P0.x) rfl dX8_meetDoor_33 ?_
  refine z_aload_n C dX8_meetDoor_36 rfl ?_
  refine z_getf C kcX8 flX8_36 (P0.x) rfl dX8_meetDoor_37 ?_
  refine z_wr (z_runV C kvX3_setClock lkX8_116 kcX3 (k_setClock hB (P0.door hi)) (P0.door hi) rfl rfl (zb rfl) (zb rfl) (zb rfl) (zb rfl) dX8_meetDoor_40) ?_
  have P1 := P0.setClock hi (now σ)
  refine z_aload_n C dX8_meetDoor_43 rfl ?_
  refine z_getf C kcX8 flX8_32 (P1.x) rfl dX8_meetDoor_44 ?_
  refine z_new [.int 0, .int 0, .int 0] C kcX5 clX8_141 inX5 ini_X5 (zfX5) (zb rfl) (zb rfl) dX8_meetDoor_47 ?_
  intro q1 _ hq1 e8; subst e8
  refine z_dup C dX8_meetDoor_50 rfl ?_
  have P2 := P1.off (P1.new hq1)
  refine z_iload_n C dX8_meetDoor_51 rfl ?_
  refine z_iload_n C dX8_meetDoor_52 rfl ?_
  refine z_aload_n C dX8_meetDoor_53 rfl ?_
  refine z_getf C kcX8 flX8_10 (hup_n hq1 P1.x) rfl dX8_meetDoor_54 ?_
  refine z_rd (z_runV C kvX2_newest lkX8_86 kcX2 (k_newest hB (P2 _)) (hup_n hq1 P1.cl) rfl rfl (zb rfl) (zb rfl) (zb rfl) (zb rfl) dX8_meetDoor_57) ?_
  refine z_wr (z_runI C kiX5_init (Or.inl lkX8_143) (k_meetInit hB (hup_self _ _ _)) rfl rfl (zb rfl) (zb rfl) (zb rfl) (zb rfl) dX8_meetDoor_60) ?_
  refine z_rn (z_runV C kvX6_keep lkX8_146 kcX6 (k_meetKeep hB ((P2 _).off (P1.new hq1) _) (P1.new hq1) (hup_self _ _ _) hm) (((P2 _).off (P1.new hq1) _).ms) rfl rfl (zb rfl) (zb rfl) (zb rfl) (zb rfl) dX8_meetDoor_63) (fun v9 h9 hv => ?_)
  obtain ⟨⟨loc', hs, P'⟩, rfl⟩ := hv
  refine z_iconst (v := 0) C dX8_meetDoor_66 (by decide) ?_
  refine z_istore C dX8_meetDoor_67 (zb rfl) ?_
  refine z_iconst (v := 0) C dX8_meetDoor_69 (by decide) ?_
  refine z_istore C dX8_meetDoor_70 (zb rfl) ?_
  obtain ⟨τ, hτ⟩ : ∃ τ, τ = sMeet (sClock (sVer σ (ix d) (i32max (tT σ 7 (ix d)) (tT σ 10 (ix p)))) (ix d) (now σ)) p d (nI (tn σ 3)) := ⟨_, rfl⟩
  have hP9 : PW G h9 loc' (sTake τ p d 0) ρ := by rw [sTake_0, hτ]; exact P'
  have hn : tn τ 2 = tn σ 2 := by rw [hτ]; rfl
  have hcn : pWait σ d = pWait τ d := by rw [hτ]; rfl
  refine Zs.mask [true, true, true, false, false, true, true, false] ?_
  refine z_loop (I := fun i => ∀ h1, PW G h1 loc' (sTake τ p d i) ρ → Zs G X 8 h1 (0 + 1 + 1 + 0 + 1 + 0 + 0 + 1) (0 + 6 + 6 + 0 + 3 + 0 + 0 + 4000) 72 [some (.ref (loc 0 0)), some (.int p), some (.int d), none, none, some (.int (nI (cnt (pWait τ d) i))), some (.int (nI i)), none] []) (tn σ 2) (fun i hi ih => ?_) 0 (Nat.zero_le _) h9 hP9
  intro h1 P
  have hs2 : tn (sTake τ p d i) 2 = tn σ 2 := hn
  refine z_iload C dX8_meetDoor_72 rfl ?_
  refine z_aload_n C dX8_meetDoor_74 rfl ?_
  refine z_getf C kcX8 flX8_26 (P.x9 hs) rfl dX8_meetDoor_75 ?_
  refine z_rd (z_runV C kvJx4a65c_size_8abf5 lkX8_90 kcJx4a65c (k_sizeL hB P (j := 2) (by decide)) (P.list (by decide)) rfl rfl (zb rfl) (zb rfl) (zb rfl) (zb rfl) dX8_meetDoor_78) ?_
  refine z_icmp_ge (tgt := 122) C dX8_meetDoor_81 (by decide) (fun e1 => ?_) (fun e1 => ?_)
  · rw [hs2] at e1
    have ei := i_top hb2 hi e1
    refine z_iload C dX8_meetDoor_122 rfl ?_
    exact z_iret C E dX8_meetDoor_124 (⟨⟨hp, hd⟩, trivial, trivial, ⟨loc', hs, by unfold sMeetDoor; rw [← hτ, ← ei]; exact P⟩, by rw [ei, hcn]⟩) (zb rfl) (zb rfl)
  · rw [hs2] at e1
    have ei := i_in hb2 hi e1
    have ih := ih ei
    have ea : i < tn (sTake τ p d i) 2 := by rw [hs2]; exact ei
    refine z_aload_n C dX8_meetDoor_84 rfl ?_
    refine z_getf C kcX8 flX8_26 (P.x9 hs) rfl dX8_meetDoor_85 ?_
    refine z_iload C dX8_meetDoor_88 rfl ?_
    refine z_rd (z_runV C kvJx4a65c_get_915e3 lkX8_149 kcJx4a65c (k_getL hB P (j := 2) (by decide) ea) (P.list (by decide)) rfl rfl (zb rfl) (zb rfl) (zb rfl) (zb rfl) dX8_meetDoor_90) ?_
    refine z_checkcast C kcX0 clX8_153 (P.audit ea) dX8_meetDoor_93 ?_
    refine z_astore C dX8_meetDoor_96 (zb rfl) ?_
    refine z_aload C dX8_meetDoor_98 rfl ?_
    refine z_iload_n C dX8_meetDoor_100 rfl ?_
    refine z_rd (z_runV C kvX0_isWaitingAt lkX8_169 kcX0 (k_isWaitingAt hB (P.audit ea)) (P.audit ea) rfl rfl (zb rfl) (zb rfl) (zb rfl) (zb rfl) dX8_meetDoor_101) ?_
    rw [sTake_T (show 11 ≠ 17 by decide), sTake_17 (Nat.le_refl i)]
    cases hq : pWait τ d i with
    | true =>
      rw [if_pos (of_decide_eq_true hq)]
      rw [cnt_pos hq, ← sTake_s hq] at ih
      refine z_if_eq (tgt := 116) C dX8_meetDoor_104 (by decide) (fun e9 => absurd e9 ((by decide))) (fun _ => ?_)
      refine z_aload C dX8_meetDoor_107 rfl ?_
      refine z_iload_n C dX8_meetDoor_109 rfl ?_
      refine z_putf C kcX0 flX8_172 (P.audit ea) rfl (rfl) (rfl) (zb rfl) dX8_meetDoor_110 ?_
      intro _ e8; subst e8
      refine z_iinc _ C dX8_meetDoor_113 rfl (nI_1 _) (zb rfl) ?_
      refine z_iinc _ C dX8_meetDoor_116 rfl (nI_1 _) (zb rfl) ?_
      refine z_goto (tgt := 72) C dX8_meetDoor_119 (by decide) ?_
      exact Zs.mask [true, true, true, false, false, true, true, false] (ih _ (P.setTaker ea p))
    | false =>
      rw [if_neg (of_decide_eq_false hq)]
      rw [cnt_neg hq, ← sTake_n hq] at ih
      refine z_if_eq (tgt := 116) C dX8_meetDoor_104 (by decide) (fun _ => ?_) (fun e9 => absurd e9 ((fun e => e rfl)))
      refine z_iinc _ C dX8_meetDoor_116 rfl (nI_1 _) (zb rfl) ?_
      refine z_goto (tgt := 72) C dX8_meetDoor_119 (by decide) ?_
      exact Zs.mask [true, true, true, false, false, true, true, false] (ih _ P)

end
