/-! fields, new cells, calls -/
def ftk (n : Nat) (ty : FieldType) : Bool := match n, ty with
  | 0, .int => true
  | 2, .boolean => true
  | 1, .object _ => true
  | 1, .array _ => true
  | _, _ => false
def ClsOk (ci : Nat) (C : String) (T : u_T) (N : Nat) : Prop := (∀ w ∈ u_ws C T N, w ∈ gtbl) ∧ ∃ ty : Nat → FieldType, (∀ k, k < N → parseFieldDescriptor (T k).2.2.1 = some (ty k)) ∧ (∀ a, a < N → ∀ b, b < N → a ≠ b → (T a).2.1 ≠ (T b).2.1) ∧ ∀ k, k < N → ftk (skd ci k) (ty k) = true
set_option maxRecDepth 20000 in
theorem clsOk0 : ClsOk 0 RX0 TX0 2 := ⟨by decide +kernel, tyX0, tyX0_ok, nmX0, by decide +kernel⟩
set_option maxRecDepth 20000 in
theorem clsOk1 : ClsOk 1 RX1 TX1 5 := ⟨by decide +kernel, tyX1, tyX1_ok, nmX1, by decide +kernel⟩
set_option maxRecDepth 20000 in
theorem clsOk2 : ClsOk 2 RX2 TX2 5 := ⟨by decide +kernel, tyX2, tyX2_ok, nmX2, by decide +kernel⟩
set_option maxRecDepth 20000 in
theorem clsOk3 : ClsOk 3 RX3 TX3 2 := ⟨by decide +kernel, tyX3, tyX3_ok, nmX3, by decide +kernel⟩
set_option maxRecDepth 20000 in
theorem clsOk4 : ClsOk 4 RX4 TX4 7 := ⟨by decide +kernel, tyX4, tyX4_ok, nmX4, by decide +kernel⟩
set_option maxRecDepth 20000 in
theorem clsOk5 : ClsOk 5 RX5 TX5 13 := ⟨by decide +kernel, tyX5, tyX5_ok, nmX5, by decide +kernel⟩
set_option maxRecDepth 20000 in
theorem clsOk6 : ClsOk 6 RX6 TX6 9 := ⟨by decide +kernel, tyX6, tyX6_ok, nmX6, by decide +kernel⟩
theorem clsOk : ∀ (ci : Nat) (r : vw_C), vwCl[ci]? = some r → ClsOk ci r.1 r.2.1 r.2.2 := by
  intro ci r h
  match ci, h with
  | 0, h => cases h; exact clsOk0
  | 1, h => cases h; exact clsOk1
  | 2, h => cases h; exact clsOk2
  | 3, h => cases h; exact clsOk3
  | 4, h => cases h; exact clsOk4
  | 5, h => cases h; exact clsOk5
  | 6, h => cases h; exact clsOk6
  | n + 7, h => simp [vwCl] at h
theorem ftk1 {ty : FieldType} (h : ftk 1 ty = true) : defaultValue ty = .null := by
  cases ty <;> first | rfl | cases h
theorem ftk0 {n : Nat} {ty : FieldType} (h : ftk n ty = true) (hn : n ≠ 1) : defaultValue ty = .int 0 := by
  unfold ftk at h
  split at h
  · rfl
  · rfl
  · exact absurd rfl hn
  · exact absurd rfl hn
  · cases h
theorem nfw40 : nativeFrameWords "java/lang/System" "arraycopy" 5 ≤ 40 := by decide +kernel
section G4
variable {p : Program} {l : Launch} {e : Env} {Rm : Room} {s : State} {m : MethodId} {args : Array Value} {below : List Frame} {meth : Method} {c : Code} {Q : State → Prop} {D : va_G} {B n0 : Nat} {α0 : Nat → Nat} {cells slots pc k d : Nat} {L : List (Option MV)} {st : List MV} {w : MW}
theorem g_getf (C : Cx p Rm s m args meth c B k d) {j ci f a : Nat} {Cn : String} {T : u_T} {N : Nat} (h : decode (mB k) pc = .ok (.getfield j, 3)) (hk : kd w a = 10 + ci) (hcl : vwCl[ci]? = some (Cn, T, N)) (hf : f < N) (hl0 : Cond.fieldLink (mOwn k) j (T f).1 (T f).2.1 (T f).2.2.1 ∈ gtbl) (hsk : skd ci f ≠ 1) (g : Gw p l e Rm s m args below meth c Q D B n0 α0 cells slots (pc + 3) L (.inl (gi w a f) :: st) w) : Gw p l e Rm s m args below meth c Q D B n0 α0 cells slots pc L (.inr a :: st) w := by
  intro α ls stk H locs ha hl hs hw hS
  obtain ⟨_, rfl, hr, hs1⟩ := hs.cR
  obtain ⟨ws, tys, hw⟩ := hw
  obtain ⟨r, fs, e1, e2, e3, e4⟩ := hw.ob hk
  have er : r = (Cn, T, N) := Option.some.inj (e2.symm.trans hcl)
  subst er
  obtain ⟨hin, ty, hty, hnm, hft⟩ := clsOk _ _ hcl
  have e4f := e4 f hf
  unfold FR at e4f
  rw [if_neg hsk] at e4f
  obtain ⟨x, hx, hv⟩ := e4f
  exact va_get C.1 C.2.1 C.2.2.2.2.1 hin C.2.2.2.1 hw.1 hw.2.1 _ e1 hcl f hf (C.2.2.2.2.1 _ hl0) (fun _ h => h) hx h (g α ls _ H locs ha hl ⟨hv, hs1⟩ ⟨ws, tys, hw⟩ hS)
theorem g_getr (C : Cx p Rm s m args meth c B k d) {j ci f a b : Nat} {Cn : String} {T : u_T} {N : Nat} (h : decode (mB k) pc = .ok (.getfield j, 3)) (hk : kd w a = 10 + ci) (hcl : vwCl[ci]? = some (Cn, T, N)) (hf : f < N) (hl0 : Cond.fieldLink (mOwn k) j (T f).1 (T f).2.1 (T f).2.2.1 ∈ gtbl) (hsk : skd ci f = 1) (hb : gr w a f = some b) (g : Gw p l e Rm s m args below meth c Q D B n0 α0 cells slots (pc + 3) L (.inr b :: st) w) : Gw p l e Rm s m args below meth c Q D B n0 α0 cells slots pc L (.inr a :: st) w := by
  intro α ls stk H locs ha hl hs hw hS
  obtain ⟨_, rfl, hr, hs1⟩ := hs.cR
  obtain ⟨ws, tys, hw⟩ := hw
  obtain ⟨r, fs, e1, e2, e3, e4⟩ := hw.ob hk
  have er : r = (Cn, T, N) := Option.some.inj (e2.symm.trans hcl)
  subst er
  obtain ⟨hin, ty, hty, hnm, hft⟩ := clsOk _ _ hcl
  have e4f := e4 f hf
  unfold FR at e4f
  rw [if_pos hsk] at e4f
  obtain ⟨hx, hv⟩ := e4f
  rw [hb] at hx
  exact va_get C.1 C.2.1 C.2.2.2.2.1 hin C.2.2.2.1 hw.1 hw.2.1 _ e1 hcl f hf (C.2.2.2.2.1 _ hl0) (fun _ h => h) hx h (g α ls _ H locs ha hl ⟨⟨rfl, hv b hb⟩, hs1⟩ ⟨ws, tys, hw⟩ hS)
theorem g_putf (C : Cx p Rm s m args meth c B k d) {j ci f a : Nat} {Cn : String} {T : u_T} {N : Nat} {v : Int} (h : decode (mB k) pc = .ok (.putfield j, 3)) (hk : kd w a = 10 + ci) (hcl : vwCl[ci]? = some (Cn, T, N)) (hf : f < N) (hl0 : Cond.fieldLink (mOwn k) j (T f).1 (T f).2.1 (T f).2.2.1 ∈ gtbl) (hsk : skd ci f = 0) (hfin : (T f).2.2.2 = false) (g : Gw p l e Rm s m args below meth c Q D B n0 α0 cells slots (pc + 3) L st (si w a f v)) : Gw p l e Rm s m args below meth c Q D B n0 α0 cells slots pc L (.inl v :: .inr a :: st) w := by
  intro α ls stk H locs ha hl hs hw hS
  obtain ⟨x1, _, rfl, rfl, hs1⟩ := hs.cI
  obtain ⟨_, rfl, hr, hs2⟩ := hs1.cR
  obtain ⟨ws, tys, hw⟩ := hw
  obtain ⟨r, fs, e1, e2, e3, e4⟩ := hw.ob hk
  have er : r = (Cn, T, N) := Option.some.inj (e2.symm.trans hcl)
  subst er
  obtain ⟨hin, ty, hty, hnm, hft⟩ := clsOk _ _ hcl
  have e4f := e4 f hf
  unfold FR at e4f
  have hrg := hw.rng (a := a) (by rw [hk]; omega)
  have hs1 : skd ci f ≠ 1 := by rw [hsk]; decide
  have ht := hft f hf
  have htf : ty f = .int := by
    rw [hsk] at ht
    revert ht
    cases ty f <;> simp [ftk]
  refine va_put C.1 C.2.1 C.2.2.2.2.1 hin ty hty hnm C.2.2.2.1 hw.1 hw.2.1 hw.2.2.1 hS _ e1 hcl f hf (C.2.2.2.2.1 _ hl0) (fun _ h => h) hfin (ty := .int) (by rw [hty f hf, htf]) rfl rfl (by rw [e3]; exact hf) h (fun H1 locs1 hP1 hD1 hS1 => g α ls _ H1 locs1 ha hl hs2 ⟨_, tys, hw.upd rfl (fun _ => rfl) (fun _ => rfl) hrg hP1 hD1 (fun b hb => ⟨fun i => by rw [gi_si, if_neg (fun q => hb q.1)], fun i => rfl⟩) (Or.inr (Or.inr (Or.inr ⟨ci, _, _, hk, rfl, hcl, by rw [List.length_set]; exact e3, fun i hi => ?_⟩)))⟩ hS1)
  unfold FR
  have e4i := e4 i hi
  unfold FR at e4i
  by_cases hif : i = f
  · subst hif
    rw [if_neg hs1, List.getElem?_set_self (by rw [e3]; exact hi), gi_si, if_pos ⟨rfl, rfl⟩]
    exact ⟨x1, rfl, rfl⟩
  · have e9 : gi (si w a f x1.toInt) a i = gi w a i := by rw [gi_si, if_neg (fun q => hif q.2)]
    rw [List.getElem?_set_ne (Ne.symm hif), e9]
    exact e4i
theorem g_putz (C : Cx p Rm s m args meth c B k d) {j ci f a : Nat} {Cn : String} {T : u_T} {N : Nat} {v : Int} (h : decode (mB k) pc = .ok (.putfield j, 3)) (hk : kd w a = 10 + ci) (hcl : vwCl[ci]? = some (Cn, T, N)) (hf : f < N) (hl0 : Cond.fieldLink (mOwn k) j (T f).1 (T f).2.1 (T f).2.2.1 ∈ gtbl) (hsk : skd ci f = 2) (hfin : (T f).2.2.2 = false) (hv : v = 0 ∨ v = 1) (g : Gw p l e Rm s m args below meth c Q D B n0 α0 cells slots (pc + 3) L st (si w a f v)) : Gw p l e Rm s m args below meth c Q D B n0 α0 cells slots pc L (.inl v :: .inr a :: st) w := by
  intro α ls stk H locs ha hl hs hw hS
  obtain ⟨x1, _, rfl, rfl, hs1⟩ := hs.cI
  obtain ⟨_, rfl, hr, hs2⟩ := hs1.cR
  obtain ⟨ws, tys, hw⟩ := hw
  obtain ⟨r, fs, e1, e2, e3, e4⟩ := hw.ob hk
  have er : r = (Cn, T, N) := Option.some.inj (e2.symm.trans hcl)
  subst er
  obtain ⟨hin, ty, hty, hnm, hft⟩ := clsOk _ _ hcl
  have e4f := e4 f hf
  unfold FR at e4f
  have hrg := hw.rng (a := a) (by rw [hk]; omega)
  have hs1 : skd ci f ≠ 1 := by rw [hsk]; decide
  have ht := hft f hf
  have htf : ty f = .boolean := by
    rw [hsk] at ht
    revert ht
    cases ty f <;> simp [ftk]
  have hz : x1 = 0 ∨ x1 = 1 := by
    rcases hv with h | h
    · exact Or.inl (Int32.toInt_inj.mp h)
    · exact Or.inr (Int32.toInt_inj.mp h)
  refine va_put C.1 C.2.1 C.2.2.2.2.1 hin ty hty hnm C.2.2.2.1 hw.1 hw.2.1 hw.2.2.1 hS _ e1 hcl f hf (C.2.2.2.2.1 _ hl0) (fun _ h => h) hfin (ty := .boolean) (by rw [hty f hf, htf]) (by rcases hz with rfl | rfl <;> rfl) (by rcases hz with rfl | rfl <;> rfl) (by rw [e3]; exact hf) h (fun H1 locs1 hP1 hD1 hS1 => g α ls _ H1 locs1 ha hl hs2 ⟨_, tys, hw.upd rfl (fun _ => rfl) (fun _ => rfl) hrg hP1 hD1 (fun b hb => ⟨fun i => by rw [gi_si, if_neg (fun q => hb q.1)], fun i => rfl⟩) (Or.inr (Or.inr (Or.inr ⟨ci, _, _, hk, rfl, hcl, by rw [List.length_set]; exact e3, fun i hi => ?_⟩)))⟩ hS1)
  unfold FR
  have e4i := e4 i hi
  unfold FR at e4i
  by_cases hif : i = f
  · subst hif
    rw [if_neg hs1, List.getElem?_set_self (by rw [e3]; exact hi), gi_si, if_pos ⟨rfl, rfl⟩]
    exact ⟨x1, rfl, rfl⟩
  · have e9 : gi (si w a f x1.toInt) a i = gi w a i := by rw [gi_si, if_neg (fun q => hif q.2)]
    rw [List.getElem?_set_ne (Ne.symm hif), e9]
    exact e4i
theorem g_putr (C : Cx p Rm s m args meth c B k d) {j ci f a : Nat} {Cn : String} {T : u_T} {N : Nat} {v : Nat} (h : decode (mB k) pc = .ok (.putfield j, 3)) (hk : kd w a = 10 + ci) (hcl : vwCl[ci]? = some (Cn, T, N)) (hf : f < N) (hl0 : Cond.fieldLink (mOwn k) j (T f).1 (T f).2.1 (T f).2.2.1 ∈ gtbl) (hsk : skd ci f = 1) (hfin : (T f).2.2.2 = true) (hdc : (T f).1 = mOwn k) (hini : (mY k).name = "<init>") (g : Gw p l e Rm s m args below meth c Q D B n0 α0 cells slots (pc + 3) L st (sr w a f (some v))) : Gw p l e Rm s m args below meth c Q D B n0 α0 cells slots pc L (.inr v :: .inr a :: st) w := by
  intro α ls stk H locs ha hl hs hw hS
  obtain ⟨_, rfl, hrv, hs1⟩ := hs.cR
  obtain ⟨_, rfl, hr, hs2⟩ := hs1.cR
  obtain ⟨ws, tys, hw⟩ := hw
  obtain ⟨r, fs, e1, e2, e3, e4⟩ := hw.ob hk
  have er : r = (Cn, T, N) := Option.some.inj (e2.symm.trans hcl)
  subst er
  obtain ⟨hin, ty, hty, hnm, hft⟩ := clsOk _ _ hcl
  have e4f := e4 f hf
  unfold FR at e4f
  have hrg := hw.rng (a := a) (by rw [hk]; omega)
  have ht := hft f hf
  have hnf : narrow (ty f) (.ref (α v)) = .ref (α v) ∧ fits (ty f) (.ref (α v)) = true := by
    rw [hsk] at ht
    revert ht
    cases ty f <;> simp [ftk, narrow, Jvm.fits]
  refine va_putF C.1 C.2.1 C.2.2.2.2.1 hin ty hty hnm C.2.2.2.1 hw.1 hw.2.1 hw.2.2.1 hS _ e1 hcl f hf (C.2.2.2.2.1 _ hl0) (fun _ h => h) hfin (C.2.2.2.2.2.2.2.1 hini) hdc (ty := ty f) (hty f hf) hnf.1 hnf.2 (by rw [e3]; exact hf) h (fun H1 locs1 hP1 hD1 hS1 => g α ls _ H1 locs1 ha hl hs2 ⟨_, tys, hw.upd rfl (fun _ => rfl) (fun _ => rfl) hrg hP1 hD1 (fun b hb => ⟨fun i => rfl, fun i => by rw [gr_sr, if_neg (fun q => hb q.1)]⟩) (Or.inr (Or.inr (Or.inr ⟨ci, _, _, hk, rfl, hcl, by rw [List.length_set]; exact e3, fun i hi => ?_⟩)))⟩ hS1)
  unfold FR
  have e4i := e4 i hi
  unfold FR at e4i
  by_cases hif : i = f
  · subst hif
    rw [if_pos hsk, List.getElem?_set_self (by rw [e3]; exact hi), gr_sr, if_pos ⟨rfl, rfl⟩]
    exact ⟨rfl, fun b hb => by cases hb; exact hrv⟩
  · have e9 : gr (sr w a f (some v)) a i = gr w a i := by rw [gr_sr, if_neg (fun q => hif q.2)]
    rw [List.getElem?_set_ne (Ne.symm hif), e9]
    exact e4i
theorem g_newi (C : Cx p Rm s m args meth c B k d) {j : Int} (h : decode (mB k) pc = .ok (.newarray .int, 2)) (hw0 : Cond.arrayClass .int ∈ gtbl) (hR : cells + 1 ≤ Rm.cells ∧ slots + j.toNat ≤ Rm.slots) (hn0 : n0 ≤ nx w) (hj : 0 ≤ j ∧ j ≤ 1000) (g : Gw p l e Rm s m args below meth c Q D B n0 α0 (cells + 1) (slots + j.toNat) (pc + 2) L (.inr (nx w) :: st) (al w 1 j.toNat j.toNat)) : Gw p l e Rm s m args below meth c Q D B n0 α0 cells slots pc L (.inl j :: st) w := by
  intro α ls stk H locs ha hl hs hw hS
  obtain ⟨x1, _, rfl, rfl, hs1⟩ := hs.cI
  obtain ⟨ws, tys, hw⟩ := hw
  have hnn : ¬ x1 < 0 := by rw [Int32.lt_iff_toInt_lt]; simp only [Int32.toInt_zero]; omega
  exact va_newa (atype := .int) (ty := .int) C.1 C.2.1 (C.2.2.2.2.1 _ hw0) rfl hw.1 hw.2.1 hw.2.2.1 hS (fun q hq => Nat.le_trans C.2.2.2.2.2.2.2.2 hq) (a0 := (x1.toInt.toNat, .inl (fun _ => 0))) (fun _ => rfl) hnn rfl (by show x1.toInt.toNat * 4 ≤ _; omega) hR.1 hR.2 h (fun q cA H1 hK1 hP1 hD1 hS1 => g (fun b => if b = nx w then q else α b) ls _ H1 locs (fun b hb => by rw [if_neg (by omega)]; exact ha b hb) (hl.mono (Nat.le_succ _) (fun b hb => if_neg (by omega))) ⟨⟨(if_pos rfl).symm, Nat.lt_succ_self _⟩, hs1.mono (Nat.le_succ _) (fun b hb => if_neg (by omega))⟩ ⟨_, _, hw.push rfl hK1 hP1 hD1 (Or.inl ⟨by simp [kd, al, u1], cA, fun _ => 0, tys.length, by simp [ln, al, u1], by rw [List.getElem?_append_right (Nat.le_refl _)]; simp, fun i => by simp [gi, al, z2]⟩)⟩ hS1)
theorem g_newc (C : Cx p Rm s m args meth c B k d) {j : Int} (h : decode (mB k) pc = .ok (.newarray .char, 2)) (hw0 : Cond.arrayClass .char ∈ gtbl) (hR : cells + 1 ≤ Rm.cells ∧ slots + j.toNat ≤ Rm.slots) (hn0 : n0 ≤ nx w) (hj : 0 ≤ j ∧ j ≤ 1000) (g : Gw p l e Rm s m args below meth c Q D B n0 α0 (cells + 1) (slots + j.toNat) (pc + 2) L (.inr (nx w) :: st) (al w 2 j.toNat j.toNat)) : Gw p l e Rm s m args below meth c Q D B n0 α0 cells slots pc L (.inl j :: st) w := by
  intro α ls stk H locs ha hl hs hw hS
  obtain ⟨x1, _, rfl, rfl, hs1⟩ := hs.cI
  obtain ⟨ws, tys, hw⟩ := hw
  have hnn : ¬ x1 < 0 := by rw [Int32.lt_iff_toInt_lt]; simp only [Int32.toInt_zero]; omega
  exact va_newa (atype := .char) (ty := .char) C.1 C.2.1 (C.2.2.2.2.1 _ hw0) rfl hw.1 hw.2.1 hw.2.2.1 hS (fun q hq => Nat.le_trans C.2.2.2.2.2.2.2.2 hq) (a0 := (x1.toInt.toNat, .inl (fun _ => 0))) (fun _ => rfl) hnn rfl (by show x1.toInt.toNat * 2 ≤ _; omega) hR.1 hR.2 h (fun q cA H1 hK1 hP1 hD1 hS1 => g (fun b => if b = nx w then q else α b) ls _ H1 locs (fun b hb => by rw [if_neg (by omega)]; exact ha b hb) (hl.mono (Nat.le_succ _) (fun b hb => if_neg (by omega))) ⟨⟨(if_pos rfl).symm, Nat.lt_succ_self _⟩, hs1.mono (Nat.le_succ _) (fun b hb => if_neg (by omega))⟩ ⟨_, _, hw.push rfl hK1 hP1 hD1 (Or.inr (Or.inl ⟨by simp [kd, al, u1], cA, fun _ => 0, tys.length, by simp [ln, al, u1], by rw [List.getElem?_append_right (Nat.le_refl _)]; simp, fun i => by simp [gi, al, z2]⟩))⟩ hS1)
theorem g_newq (C : Cx p Rm s m args meth c B k d) {j : Int} {i : Nat} (h : decode (mB k) pc = .ok (.anewarray i, 3)) (hw0 : Cond.classLink (mOwn k) i RX3 ∈ gtbl) (hR : cells + 1 ≤ Rm.cells ∧ slots + j.toNat ≤ Rm.slots) (hn0 : n0 ≤ nx w) (hj : 0 ≤ j ∧ j ≤ 1000) (g : Gw p l e Rm s m args below meth c Q D B n0 α0 (cells + 1) (slots + j.toNat) (pc + 3) L (.inr (nx w) :: st) (al w 3 j.toNat j.toNat)) : Gw p l e Rm s m args below meth c Q D B n0 α0 cells slots pc L (.inl j :: st) w := by
  intro α ls stk H locs ha hl hs hw hS
  obtain ⟨x1, _, rfl, rfl, hs1⟩ := hs.cI
  obtain ⟨ws, tys, hw⟩ := hw
  have hnn : ¬ x1 < 0 := by rw [Int32.lt_iff_toInt_lt]; simp only [Int32.toInt_zero]; omega
  exact va_newq C.1 C.2.1 C.2.2.2.1 (C.2.2.2.2.1 _ hw0) C.2.2.2.2.2.1.2 hw.1 hw.2.1 hw.2.2.1 hS (fun q hq => Nat.le_trans C.2.2.2.2.2.2.2.2 hq) hnn (N' := x1.toInt.toNat) rfl (by omega) hR.1 hR.2 h (fun q cA H1 hK1 hP1 hD1 hS1 => g (fun b => if b = nx w then q else α b) ls _ H1 locs (fun b hb => by rw [if_neg (by omega)]; exact ha b hb) (hl.mono (Nat.le_succ _) (fun b hb => if_neg (by omega))) ⟨⟨(if_pos rfl).symm, Nat.lt_succ_self _⟩, hs1.mono (Nat.le_succ _) (fun b hb => if_neg (by omega))⟩ ⟨_, _, hw.push rfl hK1 hP1 hD1 (Or.inr (Or.inr (Or.inl ⟨by simp [kd, al, u1], cA, fun _ => none, tys.length, by simp [ln, al, u1], by rw [List.getElem?_append_right (Nat.le_refl _)]; simp, fun i => by simp [gr, al, z2]⟩)))⟩ hS1)
theorem g_new (C : Cx p Rm s m args meth c B k d) {i ci : Nat} {Cn : String} {T : u_T} {N : Nat} (h : decode (mB k) pc = .ok (.new i, 3)) (hcl : vwCl[ci]? = some (Cn, T, N)) (hw0 : Cond.classLink (mOwn k) i Cn ∈ gtbl) (hw1 : Cond.instantiable Cn N ∈ gtbl) (hw2 : Cond.initialized Cn ∈ gtbl) (hR : cells + 1 ≤ Rm.cells ∧ slots + N ≤ Rm.slots) (hn0 : n0 ≤ nx w) (g : Gw p l e Rm s m args below meth c Q D B n0 α0 (cells + 1) (slots + N) (pc + 3) L (.inr (nx w) :: st) (al w (10 + ci) 0 N)) : Gw p l e Rm s m args below meth c Q D B n0 α0 cells slots pc L st w := by
  intro α ls stk H locs ha hl hs hw hS
  obtain ⟨ws, tys, hw⟩ := hw
  obtain ⟨hin, ty, hty, hnm, hft⟩ := clsOk _ _ hcl
  have hvf : ∀ j, j < N → defaultValue (ty j) = vp_V ((List.range N).map fun j => defaultValue (ty j)) j := by
    intro j hj
    unfold vp_V
    rw [List.getD_eq_getElem?_getD, List.getElem?_map, List.getElem?_range hj]
    rfl
  refine va_new (ci := ci) (fs := (List.range N).map fun j => defaultValue (ty j)) C.1 C.2.1 C.2.2.2.2.1 hin ty hty C.2.2.2.1 (C.2.2.2.2.1 _ hw0) (C.2.2.2.2.1 _ hw1) (C.2.2.2.2.1 _ hw2) hw.1 hw.2.1 hw.2.2.1 hS (fun q hq => Nat.le_trans C.2.2.2.2.2.2.2.2 hq) hcl hvf hR.1 hR.2 h (fun q H1 hP1 hD1 hS1 => ?_)
  refine g (fun b => if b = nx w then q else α b) ls _ H1 locs (fun b hb => by rw [if_neg (by omega)]; exact ha b hb) (hl.mono (Nat.le_succ _) (fun b hb => if_neg (by omega))) ⟨⟨(if_pos rfl).symm, Nat.lt_succ_self _⟩, hs.mono (Nat.le_succ _) (fun b hb => if_neg (by omega))⟩ ⟨_, tys ++ [], hw.push rfl (by rw [List.append_nil]; exact hw.1) hP1 hD1 (Or.inr (Or.inr (Or.inr ⟨ci, _, _, by simp [kd, al, u1], rfl, hcl, by simp, fun j hj => ?_⟩)))⟩ hS1
  have ht := hft j hj
  unfold FR
  rw [List.getElem?_map, List.getElem?_range hj]
  have hg : gr (al w (10 + ci) 0 N) (nx w) j = none := by simp [gr, al, z2]
  have hi : gi (al w (10 + ci) 0 N) (nx w) j = 0 := by simp [gi, al, z2]
  rw [hg, hi]
  split
  · rename_i h1
    rw [h1] at ht
    rw [Option.map_some, ftk1 ht]
    exact ⟨rfl, fun b hb => by cases hb⟩
  · rename_i h1
    rw [Option.map_some, ftk0 ht h1]
    exact ⟨0, rfl, rfl⟩
theorem g_objinit (C : Cx p Rm s m args meth c B k d) {i a : Nat} (h : decode (mB k) pc = .ok (.invokespecial i, 3)) (hLn : L.length = mL k) (hr : st.length ≤ 8) (hw0 : Cond.methodLink (mOwn k) i Lib.objectInit ∈ gtbl) (hw1 : Cond.instanceMethod Lib.objectInit ∈ gtbl) (hw2 : Cond.code Lib.objectInit ⟨#[0xb1]⟩ 1 none ∈ gtbl) (g : Gw p l e Rm s m args below meth c Q D B n0 α0 cells slots (pc + 3) L st w) : Gw p l e Rm s m args below meth c Q D B n0 α0 cells slots pc L (.inr a :: st) w := by
  intro α ls stk H locs ha hl hs hw hS
  obtain ⟨_, rfl, hra, hs1⟩ := hs.cR
  have hT := C.2.2.2.2.1
  have hR := C.2.2.2.2.2.2.1
  refine W.objInit C.1 C.2.1 C.2.2.2.1 (hT _ hw0) (hT _ hw1) (hT _ hw2) rfl (by rw [C.2.2.1, ← hLn]; exact hl.len) rfl h (by omega) ?_ (g α ls _ H locs ha hl hs1 hw hS)
  show 2 * 0 + _ + 12 ≤ _
  rw [hs1.cat]
  omega
theorem g_max (C : Cx p Rm s m args meth c B k d) {i : Nat} {x y : Int} (h : decode (mB k) pc = .ok (.invokestatic i, 3)) (hLn : L.length = mL k) (hr : st.length ≤ 8) (hR : cells ≤ Rm.cells ∧ slots ≤ Rm.slots) (hw0 : Cond.methodLink (mOwn k) i Lib.Math.max.name ∈ gtbl) (hw1 : Cond.static Lib.Math.max.name ∈ gtbl) (hw2 : Cond.initialized "java/lang/Math" ∈ gtbl) (hw3 : Cond.code Lib.Math.max.name Lib.Math.max.code 2 (some .int) ∈ gtbl) (g : Gw p l e Rm s m args below meth c Q D B n0 α0 cells slots (pc + 3) L (.inl (maxI x y) :: st) w) : Gw p l e Rm s m args below meth c Q D B n0 α0 cells slots pc L (.inl y :: .inl x :: st) w := by
  intro α ls stk H locs ha hl hs hw hS
  obtain ⟨y1, _, rfl, rfl, hs1⟩ := hs.cI
  obtain ⟨x1, _, rfl, rfl, hs2⟩ := hs1.cI
  have hT := C.2.2.2.2.1
  have hRR := C.2.2.2.2.2.2.1
  refine va_mmax C.1 C.2.1 (by rw [C.2.2.1, ← hLn]; exact hl.len.symm) C.2.2.2.1 (hT _ hw0) (hT _ hw1) (hT _ hw2) (hT _ hw3) (by omega) (by rw [hs2.cat]; omega) hR.1 hR.2 h (g α ls _ H locs ha hl ⟨?_, hs2⟩ hw hS)
  show Int32.toInt (if x1 < y1 then y1 else x1) = maxI x1.toInt y1.toInt
  unfold maxI
  split <;> rename_i h9 <;> rw [Int32.lt_iff_toInt_lt] at h9
  · rw [if_pos h9]
  · rw [if_neg h9]
theorem g_min (C : Cx p Rm s m args meth c B k d) {i : Nat} {x y : Int} (h : decode (mB k) pc = .ok (.invokestatic i, 3)) (hLn : L.length = mL k) (hr : st.length ≤ 8) (hR : cells ≤ Rm.cells ∧ slots ≤ Rm.slots) (hw0 : Cond.methodLink (mOwn k) i Lib.Math.min.name ∈ gtbl) (hw1 : Cond.static Lib.Math.min.name ∈ gtbl) (hw2 : Cond.initialized "java/lang/Math" ∈ gtbl) (hw3 : Cond.code Lib.Math.min.name Lib.Math.min.code 2 (some .int) ∈ gtbl) (g : Gw p l e Rm s m args below meth c Q D B n0 α0 cells slots (pc + 3) L (.inl (minI x y) :: st) w) : Gw p l e Rm s m args below meth c Q D B n0 α0 cells slots pc L (.inl y :: .inl x :: st) w := by
  intro α ls stk H locs ha hl hs hw hS
  obtain ⟨y1, _, rfl, rfl, hs1⟩ := hs.cI
  obtain ⟨x1, _, rfl, rfl, hs2⟩ := hs1.cI
  have hT := C.2.2.2.2.1
  have hRR := C.2.2.2.2.2.2.1
  refine va_mmin C.1 C.2.1 (by rw [C.2.2.1, ← hLn]; exact hl.len.symm) C.2.2.2.1 (hT _ hw0) (hT _ hw1) (hT _ hw2) (hT _ hw3) (by omega) (by rw [hs2.cat]; omega) hR.1 hR.2 h (g α ls _ H locs ha hl ⟨?_, hs2⟩ hw hS)
  show Int32.toInt (if y1 < x1 then y1 else x1) = minI x1.toInt y1.toInt
  unfold minI
  split <;> rename_i h9 <;> rw [Int32.lt_iff_toInt_lt] at h9
  · rw [if_pos h9]
  · rw [if_neg h9]
theorem g_copy (C : Cx p Rm s m args meth c B k d) {i a b : Nat} {sp tp j : Int} (h : decode (mB k) pc = .ok (.invokestatic i, 3)) (hLn : L.length = mL k) (hr : st.length ≤ 8) (hw0 : Cond.methodLink (mOwn k) i arraycopyName ∈ gtbl) (hw1 : Cond.native arraycopyName ∈ gtbl) (hw2 : Cond.static arraycopyName ∈ gtbl) (hw3 : Cond.initialized "java/lang/System" ∈ gtbl) (hk : kd w a = 1 ∧ kd w b = 1 ∧ 0 ≤ sp ∧ 0 ≤ tp ∧ 0 ≤ j ∧ sp + j ≤ ln w a ∧ tp + j ≤ ln w b) (g : Gw p l e Rm s m args below meth c Q D B n0 α0 cells slots (pc + 3) L st (cpw w a sp.toNat b tp.toNat j.toNat)) : Gw p l e Rm s m args below meth c Q D B n0 α0 cells slots pc L (.inl j :: .inl tp :: .inr b :: .inl sp :: .inr a :: st) w := by
  intro α ls stk H locs ha hl hs hw hS
  obtain ⟨j1, _, rfl, rfl, hs1⟩ := hs.cI
  obtain ⟨t1, _, rfl, rfl, hs2⟩ := hs1.cI
  obtain ⟨_, rfl, hrb, hs3⟩ := hs2.cR
  obtain ⟨s1, _, rfl, rfl, hs4⟩ := hs3.cI
  obtain ⟨_, rfl, hra, hs5⟩ := hs4.cR
  obtain ⟨ws, tys, hw⟩ := hw
  obtain ⟨hka, hkb, h1, h2, h3, h4, h5⟩ := hk
  obtain ⟨cA, fA, tA, a1, a2, a3⟩ := hw.ia hka
  obtain ⟨cB, fB, tB, b1, b2, b3⟩ := hw.ia hkb
  have hrg := hw.rng (a := b) (by rw [hkb]; decide)
  have hT := C.2.2.2.2.1
  have hRR := C.2.2.2.2.2.2.1
  have hng : ∀ x : Int32, 0 ≤ x.toInt → ¬ x < 0 := fun x hx => by rw [Int32.lt_iff_toInt_lt]; simp only [Int32.toInt_zero]; omega
  refine va_copyi C.1 C.2.1 (by rw [C.2.2.1, ← hLn]; exact hl.len.symm) C.2.2.2.1 (hT _ hw0) (hT _ hw1) (hT _ hw2) (hT _ hw3) hw.1 hw.2.1 hw.2.2.1 hS _ _ tA tB a1 b1 a2 b2 rfl (hng _ h1) (hng _ h2) (hng _ h3) (by rw [clamp_toInt, clamp_toInt]; omega) (by rw [clamp_toInt, clamp_toInt]; omega) (fun _ _ => rfl) (by omega) (by rw [hs5.cat]; have e := nfw40; omega) h (fun H1 locs1 hP1 hD1 hS1 => g α ls _ H1 locs1 ha hl hs5 ⟨_, tys, hw.upd rfl (fun _ => rfl) (fun _ => rfl) hrg hP1 hD1 (fun x hx => ⟨fun i => ?_, fun i => rfl⟩) (Or.inl ⟨hkb, cB, _, tB, rfl, b2, fun i => ?_⟩)⟩ hS1)
  · show cp2 _ _ _ _ _ _ x i = _
    unfold cp2
    rw [if_neg (fun q => hx q.1)]
    rfl
  · show Int32.toInt (va_cpy _ _ _ _ _ i) = cp2 _ _ _ _ _ _ b i
    unfold cp2 va_cpy
    rw [clamp_toInt, clamp_toInt, clamp_toInt]
    by_cases hc : t1.toInt.toNat ≤ i ∧ i < t1.toInt.toNat + j1.toInt.toNat
    · rw [if_pos hc, if_pos ⟨rfl, hc⟩]
      exact a3 _
    · rw [if_neg hc, if_neg (fun q => hc q.2)]
      exact b3 i
end G4
