/-! one row an instruction, from the small machine to the machine -/
theorem pk_charV (x : Int32) (h0 : 0 ≤ x.toInt) (h1 : x.toInt < 65536) : (x.toUInt32.toUInt16.toUInt32.toInt32).toInt = x.toInt := by
  obtain ⟨j, hj, rfl⟩ : ∃ j : Nat, j < 65536 ∧ x = nI j := by
    refine ⟨x.toInt.toNat, by omega, ?_⟩
    rw [← Int32.toInt_inj, nI_toInt (by omega)]
    omega
  have h := (pk_charN hj).1
  have h2 : vp_nar .char (nI j) = nI j := by unfold vp_nar; rw [h]
  rw [vp_nar_char] at h2
  rw [h2]
section G3
variable {p : Program} {l : Launch} {e : Env} {Rm : Room} {s : State} {m : MethodId} {args : Array Value} {below : List Frame} {meth : Method} {c : Code} {Q : State → Prop} {D : va_G} {B n0 : Nat} {α0 : Nat → Nat} {cells slots pc k d : Nat} {L : List (Option MV)} {st : List MV} {w : MW}
theorem g_iconst (C : Cx p Rm s m args meth c B k d) {z : Int} (h : decode (mB k) pc = .ok (.iconst z, 1)) (hz : -1 ≤ z ∧ z ≤ 5) (g : Gw p l e Rm s m args below meth c Q D B n0 α0 cells slots (pc + 1) L (.inl z :: st) w) : Gw p l e Rm s m args below meth c Q D B n0 α0 cells slots pc L st w := by
  intro α ls stk H locs ha hl hs hw hS
  exact lv_iconst C.1 C.2.1 h rfl (g α ls _ H locs ha hl ⟨i32_of (by omega) (by omega), hs⟩ hw hS)
theorem g_bipush (C : Cx p Rm s m args meth c B k d) {z : Int} (h : decode (mB k) pc = .ok (.bipush z, 2)) (hz : -128 ≤ z ∧ z ≤ 127) (g : Gw p l e Rm s m args below meth c Q D B n0 α0 cells slots (pc + 2) L (.inl z :: st) w) : Gw p l e Rm s m args below meth c Q D B n0 α0 cells slots pc L st w := by
  intro α ls stk H locs ha hl hs hw hS
  refine lv_bipush C.1 C.2.1 h rfl (g α ls _ H locs ha hl ⟨?_, hs⟩ hw hS)
  show ((Int8.ofInt z).toInt32).toInt = z
  rw [Int8.toInt_toInt32, Int8.toInt_ofInt, show (Int8.size : Nat) = 256 from rfl, Int.bmod_def]
  split <;> omega
theorem g_ldc (C : Cx p Rm s m args meth c B k d) {j v : Nat} (h : decode (mB k) pc = .ok (.ldc j, 2)) (hw0 : Cond.constant (mOwn k) j (Int32.ofNat v) ∈ gtbl) (hz : v ≤ 2147483647) (g : Gw p l e Rm s m args below meth c Q D B n0 α0 cells slots (pc + 2) L (.inl (v : Int) :: st) w) : Gw p l e Rm s m args below meth c Q D B n0 α0 cells slots pc L st w := by
  intro α ls stk H locs ha hl hs hw hS
  exact lv_ldc C.1 C.2.1 C.2.2.2.1 (C.2.2.2.2.1 _ hw0) h (g α ls _ H locs ha hl ⟨nI_toInt (by omega), hs⟩ hw hS)
theorem g_sipush (C : Cx p Rm s m args meth c B k d) {z : Int} (h : decode (mB k) pc = .ok (.sipush z, 3)) (hz : -32768 ≤ z ∧ z ≤ 32767) (g : Gw p l e Rm s m args below meth c Q D B n0 α0 cells slots (pc + 3) L (.inl z :: st) w) : Gw p l e Rm s m args below meth c Q D B n0 α0 cells slots pc L st w := by
  intro α ls stk H locs ha hl hs hw hS
  refine lv_sipush C.1 C.2.1 h rfl (g α ls _ H locs ha hl ⟨?_, hs⟩ hw hS)
  show ((Int16.ofInt z).toInt32).toInt = z
  rw [Int16.toInt_toInt32, Int16.toInt_ofInt, show (Int16.size : Nat) = 65536 from rfl, Int.bmod_def]
  split <;> omega
theorem g_iload_n (C : Cx p Rm s m args meth c B k d) {j : Fin 4} {z : Int} (h : decode (mB k) pc = .ok (.iload_n j, 1)) (hj : L[(j : Nat)]? = some (some (.inl z))) (g : Gw p l e Rm s m args below meth c Q D B n0 α0 cells slots (pc + 1) L (.inl z :: st) w) : Gw p l e Rm s m args below meth c Q D B n0 α0 cells slots pc L st w := by
  intro α ls stk H locs ha hl hs hw hS
  obtain ⟨x, hx, hv⟩ := hl.getI hj
  exact lv_iload_n C.1 C.2.1 h rfl hx (g α ls _ H locs ha hl ⟨hv, hs⟩ hw hS)
theorem g_iload (C : Cx p Rm s m args meth c B k d) {j : Nat} {z : Int} (h : decode (mB k) pc = .ok (.iload j, 2)) (hj : L[(j : Nat)]? = some (some (.inl z))) (g : Gw p l e Rm s m args below meth c Q D B n0 α0 cells slots (pc + 2) L (.inl z :: st) w) : Gw p l e Rm s m args below meth c Q D B n0 α0 cells slots pc L st w := by
  intro α ls stk H locs ha hl hs hw hS
  obtain ⟨x, hx, hv⟩ := hl.getI hj
  exact lv_iload C.1 C.2.1 h hx (g α ls _ H locs ha hl ⟨hv, hs⟩ hw hS)
theorem g_aload_n (C : Cx p Rm s m args meth c B k d) {j : Fin 4} {z : Nat} (h : decode (mB k) pc = .ok (.aload_n j, 1)) (hj : L[(j : Nat)]? = some (some (.inr z))) (g : Gw p l e Rm s m args below meth c Q D B n0 α0 cells slots (pc + 1) L (.inr z :: st) w) : Gw p l e Rm s m args below meth c Q D B n0 α0 cells slots pc L st w := by
  intro α ls stk H locs ha hl hs hw hS
  obtain ⟨hx, hv⟩ := hl.getR hj
  exact lv_aload_n C.1 C.2.1 h rfl hx (g α ls _ H locs ha hl ⟨⟨rfl, hv⟩, hs⟩ hw hS)
theorem g_aload (C : Cx p Rm s m args meth c B k d) {j : Nat} {z : Nat} (h : decode (mB k) pc = .ok (.aload j, 2)) (hj : L[(j : Nat)]? = some (some (.inr z))) (g : Gw p l e Rm s m args below meth c Q D B n0 α0 cells slots (pc + 2) L (.inr z :: st) w) : Gw p l e Rm s m args below meth c Q D B n0 α0 cells slots pc L st w := by
  intro α ls stk H locs ha hl hs hw hS
  obtain ⟨hx, hv⟩ := hl.getR hj
  exact lv_aload C.1 C.2.1 h hx (g α ls _ H locs ha hl ⟨⟨rfl, hv⟩, hs⟩ hw hS)
theorem g_istore_n (C : Cx p Rm s m args meth c B k d) {j : Fin 4} {z : Int} (h : decode (mB k) pc = .ok (.istore_n j, 1)) (hj : (j : Nat) < L.length) (g : Gw p l e Rm s m args below meth c Q D B n0 α0 cells slots (pc + 1) (L.set (j : Nat) (some (.inl z))) st w) : Gw p l e Rm s m args below meth c Q D B n0 α0 cells slots pc L (.inl z :: st) w := by
  intro α ls stk H locs ha hl hs hw hS
  obtain ⟨x, _, rfl, hx, hs1⟩ := hs.cI
  obtain ⟨lv, h1, h2, h3⟩ := hl
  exact lv_istore_n C.1 C.2.1 h rfl h1 hj rfl (fun ls' h' => g α ls' _ H locs ha (LR.set (v := .inl z) (x := .int x) h2 h3 hx rfl h') hs1 hw hS)
theorem g_istore (C : Cx p Rm s m args meth c B k d) {j : Nat} {z : Int} (h : decode (mB k) pc = .ok (.istore j, 2)) (hj : (j : Nat) < L.length) (g : Gw p l e Rm s m args below meth c Q D B n0 α0 cells slots (pc + 2) (L.set (j : Nat) (some (.inl z))) st w) : Gw p l e Rm s m args below meth c Q D B n0 α0 cells slots pc L (.inl z :: st) w := by
  intro α ls stk H locs ha hl hs hw hS
  obtain ⟨x, _, rfl, hx, hs1⟩ := hs.cI
  obtain ⟨lv, h1, h2, h3⟩ := hl
  exact lv_istore C.1 C.2.1 h h1 hj rfl (fun ls' h' => g α ls' _ H locs ha (LR.set (v := .inl z) (x := .int x) h2 h3 hx rfl h') hs1 hw hS)
theorem g_astore_n (C : Cx p Rm s m args meth c B k d) {j : Fin 4} {z : Nat} (h : decode (mB k) pc = .ok (.astore_n j, 1)) (hj : (j : Nat) < L.length) (g : Gw p l e Rm s m args below meth c Q D B n0 α0 cells slots (pc + 1) (L.set (j : Nat) (some (.inr z))) st w) : Gw p l e Rm s m args below meth c Q D B n0 α0 cells slots pc L (.inr z :: st) w := by
  intro α ls stk H locs ha hl hs hw hS
  obtain ⟨_, rfl, hx, hs1⟩ := hs.cR
  obtain ⟨lv, h1, h2, h3⟩ := hl
  exact lv_astore_n C.1 C.2.1 h rfl h1 hj rfl (fun ls' h' => g α ls' _ H locs ha (LR.set (v := .inr z) (x := .ref (α z)) h2 h3 ⟨rfl, hx⟩ rfl h') hs1 hw hS)
theorem g_astore (C : Cx p Rm s m args meth c B k d) {j : Nat} {z : Nat} (h : decode (mB k) pc = .ok (.astore j, 2)) (hj : (j : Nat) < L.length) (g : Gw p l e Rm s m args below meth c Q D B n0 α0 cells slots (pc + 2) (L.set (j : Nat) (some (.inr z))) st w) : Gw p l e Rm s m args below meth c Q D B n0 α0 cells slots pc L (.inr z :: st) w := by
  intro α ls stk H locs ha hl hs hw hS
  obtain ⟨_, rfl, hx, hs1⟩ := hs.cR
  obtain ⟨lv, h1, h2, h3⟩ := hl
  exact lv_astore C.1 C.2.1 h h1 hj rfl (fun ls' h' => g α ls' _ H locs ha (LR.set (v := .inr z) (x := .ref (α z)) h2 h3 ⟨rfl, hx⟩ rfl h') hs1 hw hS)
theorem g_iadd (C : Cx p Rm s m args meth c B k d) {x y : Int} (h : decode (mB k) pc = .ok (.iadd, 1))  (g : Gw p l e Rm s m args below meth c Q D B n0 α0 cells slots (pc + 1) L (.inl (wrap (x + y)) :: st) w) : Gw p l e Rm s m args below meth c Q D B n0 α0 cells slots pc L (.inl y :: .inl x :: st) w := by
  intro α ls stk H locs ha hl hs hw hS
  obtain ⟨y1, _, rfl, rfl, hs1⟩ := hs.cI
  obtain ⟨x1, _, rfl, rfl, hs2⟩ := hs1.cI
  exact lv_iadd C.1 C.2.1 h (g α ls _ H locs ha hl ⟨i32_wa x1 y1, hs2⟩ hw hS)
theorem g_isub (C : Cx p Rm s m args meth c B k d) {x y : Int} (h : decode (mB k) pc = .ok (.isub, 1))  (g : Gw p l e Rm s m args below meth c Q D B n0 α0 cells slots (pc + 1) L (.inl (wrap (x - y)) :: st) w) : Gw p l e Rm s m args below meth c Q D B n0 α0 cells slots pc L (.inl y :: .inl x :: st) w := by
  intro α ls stk H locs ha hl hs hw hS
  obtain ⟨y1, _, rfl, rfl, hs1⟩ := hs.cI
  obtain ⟨x1, _, rfl, rfl, hs2⟩ := hs1.cI
  exact lv_isub C.1 C.2.1 h (g α ls _ H locs ha hl ⟨i32_ws x1 y1, hs2⟩ hw hS)
theorem g_imul (C : Cx p Rm s m args meth c B k d) {x y : Int} (h : decode (mB k) pc = .ok (.imul, 1))  (g : Gw p l e Rm s m args below meth c Q D B n0 α0 cells slots (pc + 1) L (.inl (wrap (x * y)) :: st) w) : Gw p l e Rm s m args below meth c Q D B n0 α0 cells slots pc L (.inl y :: .inl x :: st) w := by
  intro α ls stk H locs ha hl hs hw hS
  obtain ⟨y1, _, rfl, rfl, hs1⟩ := hs.cI
  obtain ⟨x1, _, rfl, rfl, hs2⟩ := hs1.cI
  exact lv_imul C.1 C.2.1 h (g α ls _ H locs ha hl ⟨i32_wm x1 y1, hs2⟩ hw hS)
theorem g_iand (C : Cx p Rm s m args meth c B k d) {x y : Int} (h : decode (mB k) pc = .ok (.iand, 1))  (g : Gw p l e Rm s m args below meth c Q D B n0 α0 cells slots (pc + 1) L (.inl (andI x y) :: st) w) : Gw p l e Rm s m args below meth c Q D B n0 α0 cells slots pc L (.inl y :: .inl x :: st) w := by
  intro α ls stk H locs ha hl hs hw hS
  obtain ⟨y1, _, rfl, rfl, hs1⟩ := hs.cI
  obtain ⟨x1, _, rfl, rfl, hs2⟩ := hs1.cI
  exact lv_iand C.1 C.2.1 h (g α ls _ H locs ha hl ⟨i32_opI _ x1 y1, hs2⟩ hw hS)
theorem g_ior (C : Cx p Rm s m args meth c B k d) {x y : Int} (h : decode (mB k) pc = .ok (.ior, 1))  (g : Gw p l e Rm s m args below meth c Q D B n0 α0 cells slots (pc + 1) L (.inl (orI x y) :: st) w) : Gw p l e Rm s m args below meth c Q D B n0 α0 cells slots pc L (.inl y :: .inl x :: st) w := by
  intro α ls stk H locs ha hl hs hw hS
  obtain ⟨y1, _, rfl, rfl, hs1⟩ := hs.cI
  obtain ⟨x1, _, rfl, rfl, hs2⟩ := hs1.cI
  exact lv_ior C.1 C.2.1 h (g α ls _ H locs ha hl ⟨i32_opI _ x1 y1, hs2⟩ hw hS)
theorem g_ixor (C : Cx p Rm s m args meth c B k d) {x y : Int} (h : decode (mB k) pc = .ok (.ixor, 1))  (g : Gw p l e Rm s m args below meth c Q D B n0 α0 cells slots (pc + 1) L (.inl (xorI x y) :: st) w) : Gw p l e Rm s m args below meth c Q D B n0 α0 cells slots pc L (.inl y :: .inl x :: st) w := by
  intro α ls stk H locs ha hl hs hw hS
  obtain ⟨y1, _, rfl, rfl, hs1⟩ := hs.cI
  obtain ⟨x1, _, rfl, rfl, hs2⟩ := hs1.cI
  exact lv_ixor C.1 C.2.1 h (g α ls _ H locs ha hl ⟨i32_opI _ x1 y1, hs2⟩ hw hS)
theorem g_ishl (C : Cx p Rm s m args meth c B k d) {x y : Int} (h : decode (mB k) pc = .ok (.ishl, 1))  (g : Gw p l e Rm s m args below meth c Q D B n0 α0 cells slots (pc + 1) L (.inl (shlI x y) :: st) w) : Gw p l e Rm s m args below meth c Q D B n0 α0 cells slots pc L (.inl y :: .inl x :: st) w := by
  intro α ls stk H locs ha hl hs hw hS
  obtain ⟨y1, _, rfl, rfl, hs1⟩ := hs.cI
  obtain ⟨x1, _, rfl, rfl, hs2⟩ := hs1.cI
  exact lv_ishl C.1 C.2.1 h (g α ls _ H locs ha hl ⟨i32_opI (fun x y => x <<< (y &&& 31)) x1 y1, hs2⟩ hw hS)
theorem g_ishr (C : Cx p Rm s m args meth c B k d) {x y : Int} (h : decode (mB k) pc = .ok (.ishr, 1))  (g : Gw p l e Rm s m args below meth c Q D B n0 α0 cells slots (pc + 1) L (.inl (shrI x y) :: st) w) : Gw p l e Rm s m args below meth c Q D B n0 α0 cells slots pc L (.inl y :: .inl x :: st) w := by
  intro α ls stk H locs ha hl hs hw hS
  obtain ⟨y1, _, rfl, rfl, hs1⟩ := hs.cI
  obtain ⟨x1, _, rfl, rfl, hs2⟩ := hs1.cI
  exact lv_ishr C.1 C.2.1 h (g α ls _ H locs ha hl ⟨i32_opI (fun x y => x >>> (y &&& 31)) x1 y1, hs2⟩ hw hS)
theorem g_iushr (C : Cx p Rm s m args meth c B k d) {x y : Int} (h : decode (mB k) pc = .ok (.iushr, 1))  (g : Gw p l e Rm s m args below meth c Q D B n0 α0 cells slots (pc + 1) L (.inl (ushrI x y) :: st) w) : Gw p l e Rm s m args below meth c Q D B n0 α0 cells slots pc L (.inl y :: .inl x :: st) w := by
  intro α ls stk H locs ha hl hs hw hS
  obtain ⟨y1, _, rfl, rfl, hs1⟩ := hs.cI
  obtain ⟨x1, _, rfl, rfl, hs2⟩ := hs1.cI
  exact lv_iushr C.1 C.2.1 h rfl (g α ls _ H locs ha hl ⟨i32_opI (fun x y => (x.toUInt32 >>> (y.toUInt32 &&& Int32.toUInt32 31)).toInt32) x1 y1, hs2⟩ hw hS)
theorem g_idiv (C : Cx p Rm s m args meth c B k d) {x y : Int} (h : decode (mB k) pc = .ok (.idiv, 1)) (hy : y ≠ 0) (g : Gw p l e Rm s m args below meth c Q D B n0 α0 cells slots (pc + 1) L (.inl (divI x y) :: st) w) : Gw p l e Rm s m args below meth c Q D B n0 α0 cells slots pc L (.inl y :: .inl x :: st) w := by
  intro α ls stk H locs ha hl hs hw hS
  obtain ⟨y1, _, rfl, rfl, hs1⟩ := hs.cI
  obtain ⟨x1, _, rfl, rfl, hs2⟩ := hs1.cI
  exact lv_idiv C.1 C.2.1 h (fun e => hy (by rw [e]; rfl)) (g α ls _ H locs ha hl ⟨i32_opI (fun x y => x / y) x1 y1, hs2⟩ hw hS)
theorem g_irem (C : Cx p Rm s m args meth c B k d) {x y : Int} (h : decode (mB k) pc = .ok (.irem, 1)) (hy : y ≠ 0) (g : Gw p l e Rm s m args below meth c Q D B n0 α0 cells slots (pc + 1) L (.inl (remI x y) :: st) w) : Gw p l e Rm s m args below meth c Q D B n0 α0 cells slots pc L (.inl y :: .inl x :: st) w := by
  intro α ls stk H locs ha hl hs hw hS
  obtain ⟨y1, _, rfl, rfl, hs1⟩ := hs.cI
  obtain ⟨x1, _, rfl, rfl, hs2⟩ := hs1.cI
  exact lv_irem C.1 C.2.1 h (fun e => hy (by rw [e]; rfl)) (g α ls _ H locs ha hl ⟨i32_opI (fun x y => x - x / y * y) x1 y1, hs2⟩ hw hS)
theorem g_i2c (C : Cx p Rm s m args meth c B k d) {x : Int} (h : decode (mB k) pc = .ok (.i2c, 1))  (g : Gw p l e Rm s m args below meth c Q D B n0 α0 cells slots (pc + 1) L (.inl (chrI x) :: st) w) : Gw p l e Rm s m args below meth c Q D B n0 α0 cells slots pc L (.inl x :: st) w := by
  intro α ls stk H locs ha hl hs hw hS
  obtain ⟨x1, _, rfl, rfl, hs1⟩ := hs.cI
  refine lv_i2c C.1 C.2.1 h rfl (g α ls _ H locs ha hl ⟨?_, hs1⟩ hw hS)
  show ((x1.toUInt32 % 65536).toInt32).toInt = chrI x1.toInt
  rw [pk_char x1, nI_toInt (by omega)]
  unfold chrI
  have e : (x1.toBitVec.toNat : Int) = x1.toInt % 4294967296 := by
    have := BitVec.toInt_eq_toNat_bmod x1.toBitVec
    have h1 : x1.toInt = x1.toBitVec.toInt := rfl
    have h2 := x1.toBitVec.isLt
    rw [h1, BitVec.toInt_eq_toNat_cond]
    split <;> omega
  omega
theorem g_dup (C : Cx p Rm s m args meth c B k d) {v : MV} (h : decode (mB k) pc = .ok (.dup, 1))  (g : Gw p l e Rm s m args below meth c Q D B n0 α0 cells slots (pc + 1) L (v :: v :: st) w) : Gw p l e Rm s m args below meth c Q D B n0 α0 cells slots pc L (v :: st) w := by
  intro α ls stk H locs ha hl hs hw hS
  obtain ⟨x, _, rfl, hv, hc, hs1⟩ := hs.c1
  exact lv_dup C.1 C.2.1 h hc (g α ls _ H locs ha hl ⟨hv, hv, hs1⟩ hw hS)
theorem g_dup2 (C : Cx p Rm s m args meth c B k d) {v v2 : MV} (h : decode (mB k) pc = .ok (.dup2, 1))  (g : Gw p l e Rm s m args below meth c Q D B n0 α0 cells slots (pc + 1) L (v :: v2 :: v :: v2 :: st) w) : Gw p l e Rm s m args below meth c Q D B n0 α0 cells slots pc L (v :: v2 :: st) w := by
  intro α ls stk H locs ha hl hs hw hS
  obtain ⟨x, _, rfl, hv, hc, hs1⟩ := hs.c1
  obtain ⟨x2, _, rfl, hv2, hc2, hs2⟩ := hs1.c1
  exact lv_dup2_11 C.1 C.2.1 h hc hc2 (g α ls _ H locs ha hl ⟨hv, hv2, hv, hv2, hs2⟩ hw hS)
theorem g_pop (C : Cx p Rm s m args meth c B k d) {v : MV} (h : decode (mB k) pc = .ok (.pop, 1))  (g : Gw p l e Rm s m args below meth c Q D B n0 α0 cells slots (pc + 1) L st w) : Gw p l e Rm s m args below meth c Q D B n0 α0 cells slots pc L (v :: st) w := by
  intro α ls stk H locs ha hl hs hw hS
  obtain ⟨x, _, rfl, hv, hc, hs1⟩ := hs.c1
  exact lv_pop C.1 C.2.1 h hc (g α ls _ H locs ha hl hs1 hw hS)
theorem g_iinc (C : Cx p Rm s m args meth c B k d) {j : Nat} {z x : Int} (h : decode (mB k) pc = .ok (.iinc j z, 3)) (hj : L[j]? = some (some (.inl x))) (hz : -32768 ≤ z ∧ z ≤ 32767) (g : Gw p l e Rm s m args below meth c Q D B n0 α0 cells slots (pc + 3) (L.set j (some (.inl (wrap (x + z))))) st w) : Gw p l e Rm s m args below meth c Q D B n0 α0 cells slots pc L st w := by
  intro α ls stk H locs ha hl hs hw hS
  obtain ⟨lv, h1, h2, h3⟩ := hl
  obtain ⟨x1, hx, hv⟩ := h3 j _ hj
  obtain ⟨x1, rfl, hv⟩ : ∃ y : Int32, x1 = .int y ∧ y.toInt = x := by
    cases x1 <;> first | exact ⟨_, rfl, hv⟩ | exact hv.elim
  obtain ⟨i, hi⟩ := List.getElem?_of_mem hx
  refine lv_iinc C.1 C.2.1 h h1 hi rfl (List.getElem?_eq_some_iff.mp hj).1 rfl (fun ls' h' => g α ls' stk H locs ha (LR.set (v := .inl (wrap (x + z))) (x := .int (x1 + Int32.ofInt z)) h2 h3 ?_ rfl h') hs hw hS)
  show (x1 + Int32.ofInt z).toInt = wrap (x + z)
  rw [i32_wa, hv, i32_of (by omega) (by omega)]
theorem gto_eq {pc : Nat} {off : Int} (h : 0 ≤ (pc : Int) + off) : (pc : Int) + off = (gto pc off : Int) := by
  unfold gto
  rw [Int.toNat_of_nonneg h]
theorem g_goto (C : Cx p Rm s m args meth c B k d) {off : Int} (h : decode (mB k) pc = .ok (.goto off, 3)) (ho : 0 ≤ (pc : Int) + off) (g : Gw p l e Rm s m args below meth c Q D B n0 α0 cells slots (gto pc off) L st w) : Gw p l e Rm s m args below meth c Q D B n0 α0 cells slots pc L st w := by
  intro α ls stk H locs ha hl hs hw hS
  exact lv_goto C.1 C.2.1 h (gto_eq ho) (g α ls stk H locs ha hl hs hw hS)
theorem ic_eq (x y : Int32) : x = y ↔ x.toInt = y.toInt := Int32.toInt_inj.symm
theorem ic_ne (x y : Int32) : x ≠ y ↔ x.toInt ≠ y.toInt := not_congr (ic_eq x y)
theorem ic_nn (x y : Int32) : ¬ x = y ↔ x.toInt ≠ y.toInt := not_congr (ic_eq x y)
theorem ic_lt (x y : Int32) : x < y ↔ x.toInt < y.toInt := Int32.lt_iff_toInt_lt
theorem ic_gt (x y : Int32) : y < x ↔ y.toInt < x.toInt := Int32.lt_iff_toInt_lt
theorem ic_ge (x y : Int32) : y ≤ x ↔ y.toInt ≤ x.toInt := Int32.le_iff_toInt_le
theorem ic_le (x y : Int32) : x ≤ y ↔ x.toInt ≤ y.toInt := Int32.le_iff_toInt_le
theorem g_icmp_eq (C : Cx p Rm s m args meth c B k d) {off : Int} {x y : Int} (h : decode (mB k) pc = .ok (.if_icmp .eq off, 3)) (ho : 0 ≤ (pc : Int) + off) (g : x = y → Gw p l e Rm s m args below meth c Q D B n0 α0 cells slots (gto pc off) L st w) (g2 : ¬ (x = y) → Gw p l e Rm s m args below meth c Q D B n0 α0 cells slots (pc + 3) L st w) : Gw p l e Rm s m args below meth c Q D B n0 α0 cells slots pc L (.inl y :: .inl x :: st) w := by
  intro α ls stk H locs ha hl hs hw hS
  obtain ⟨y1, _, rfl, rfl, hs1⟩ := hs.cI
  obtain ⟨x1, _, rfl, rfl, hs2⟩ := hs1.cI
  exact lv_icmp_eq C.1 C.2.1 h (gto_eq ho) (fun hc => g ((ic_eq x1 y1).mp hc) α ls _ H locs ha hl hs2 hw hS) (fun hc => g2 (fun hd => hc ((ic_eq x1 y1).mpr hd)) α ls _ H locs ha hl hs2 hw hS)
theorem g_if_eq (C : Cx p Rm s m args meth c B k d) {off : Int} {x : Int} (h : decode (mB k) pc = .ok (.ifCond .eq off, 3)) (ho : 0 ≤ (pc : Int) + off) (g : x = 0 → Gw p l e Rm s m args below meth c Q D B n0 α0 cells slots (gto pc off) L st w) (g2 : ¬ (x = 0) → Gw p l e Rm s m args below meth c Q D B n0 α0 cells slots (pc + 3) L st w) : Gw p l e Rm s m args below meth c Q D B n0 α0 cells slots pc L (.inl x :: st) w := by
  intro α ls stk H locs ha hl hs hw hS
  obtain ⟨x1, _, rfl, rfl, hs1⟩ := hs.cI
  exact lv_if_eq C.1 C.2.1 h (gto_eq ho) (fun hc => g ((ic_eq x1 0).mp hc) α ls _ H locs ha hl hs1 hw hS) (fun hc => g2 (fun hd => hc ((ic_eq x1 0).mpr hd)) α ls _ H locs ha hl hs1 hw hS)
theorem g_icmp_ne (C : Cx p Rm s m args meth c B k d) {off : Int} {x y : Int} (h : decode (mB k) pc = .ok (.if_icmp .ne off, 3)) (ho : 0 ≤ (pc : Int) + off) (g : x ≠ y → Gw p l e Rm s m args below meth c Q D B n0 α0 cells slots (gto pc off) L st w) (g2 : ¬ (x ≠ y) → Gw p l e Rm s m args below meth c Q D B n0 α0 cells slots (pc + 3) L st w) : Gw p l e Rm s m args below meth c Q D B n0 α0 cells slots pc L (.inl y :: .inl x :: st) w := by
  intro α ls stk H locs ha hl hs hw hS
  obtain ⟨y1, _, rfl, rfl, hs1⟩ := hs.cI
  obtain ⟨x1, _, rfl, rfl, hs2⟩ := hs1.cI
  exact lv_icmp_ne C.1 C.2.1 h (gto_eq ho) (fun hc => g ((ic_ne x1 y1).mp hc) α ls _ H locs ha hl hs2 hw hS) (fun hc => g2 (fun hd => hd ((ic_eq x1 y1).mp hc)) α ls _ H locs ha hl hs2 hw hS)
theorem g_if_ne (C : Cx p Rm s m args meth c B k d) {off : Int} {x : Int} (h : decode (mB k) pc = .ok (.ifCond .ne off, 3)) (ho : 0 ≤ (pc : Int) + off) (g : x ≠ 0 → Gw p l e Rm s m args below meth c Q D B n0 α0 cells slots (gto pc off) L st w) (g2 : ¬ (x ≠ 0) → Gw p l e Rm s m args below meth c Q D B n0 α0 cells slots (pc + 3) L st w) : Gw p l e Rm s m args below meth c Q D B n0 α0 cells slots pc L (.inl x :: st) w := by
  intro α ls stk H locs ha hl hs hw hS
  obtain ⟨x1, _, rfl, rfl, hs1⟩ := hs.cI
  exact lv_if_ne C.1 C.2.1 h (gto_eq ho) (fun hc => g ((ic_ne x1 0).mp hc) α ls _ H locs ha hl hs1 hw hS) (fun hc => g2 (fun hd => hd ((ic_eq x1 0).mp hc)) α ls _ H locs ha hl hs1 hw hS)
theorem g_icmp_lt (C : Cx p Rm s m args meth c B k d) {off : Int} {x y : Int} (h : decode (mB k) pc = .ok (.if_icmp .lt off, 3)) (ho : 0 ≤ (pc : Int) + off) (g : x < y → Gw p l e Rm s m args below meth c Q D B n0 α0 cells slots (gto pc off) L st w) (g2 : ¬ (x < y) → Gw p l e Rm s m args below meth c Q D B n0 α0 cells slots (pc + 3) L st w) : Gw p l e Rm s m args below meth c Q D B n0 α0 cells slots pc L (.inl y :: .inl x :: st) w := by
  intro α ls stk H locs ha hl hs hw hS
  obtain ⟨y1, _, rfl, rfl, hs1⟩ := hs.cI
  obtain ⟨x1, _, rfl, rfl, hs2⟩ := hs1.cI
  exact lv_icmp_lt C.1 C.2.1 h (gto_eq ho) (fun hc => g ((ic_lt x1 y1).mp hc) α ls _ H locs ha hl hs2 hw hS) (fun hc => g2 (fun hd => hc ((ic_lt x1 y1).mpr hd)) α ls _ H locs ha hl hs2 hw hS)
theorem g_if_lt (C : Cx p Rm s m args meth c B k d) {off : Int} {x : Int} (h : decode (mB k) pc = .ok (.ifCond .lt off, 3)) (ho : 0 ≤ (pc : Int) + off) (g : x < 0 → Gw p l e Rm s m args below meth c Q D B n0 α0 cells slots (gto pc off) L st w) (g2 : ¬ (x < 0) → Gw p l e Rm s m args below meth c Q D B n0 α0 cells slots (pc + 3) L st w) : Gw p l e Rm s m args below meth c Q D B n0 α0 cells slots pc L (.inl x :: st) w := by
  intro α ls stk H locs ha hl hs hw hS
  obtain ⟨x1, _, rfl, rfl, hs1⟩ := hs.cI
  exact lv_if_lt C.1 C.2.1 h (gto_eq ho) (fun hc => g ((ic_lt x1 0).mp hc) α ls _ H locs ha hl hs1 hw hS) (fun hc => g2 (fun hd => hc ((ic_lt x1 0).mpr hd)) α ls _ H locs ha hl hs1 hw hS)
theorem g_icmp_ge (C : Cx p Rm s m args meth c B k d) {off : Int} {x y : Int} (h : decode (mB k) pc = .ok (.if_icmp .ge off, 3)) (ho : 0 ≤ (pc : Int) + off) (g : y ≤ x → Gw p l e Rm s m args below meth c Q D B n0 α0 cells slots (gto pc off) L st w) (g2 : ¬ (y ≤ x) → Gw p l e Rm s m args below meth c Q D B n0 α0 cells slots (pc + 3) L st w) : Gw p l e Rm s m args below meth c Q D B n0 α0 cells slots pc L (.inl y :: .inl x :: st) w := by
  intro α ls stk H locs ha hl hs hw hS
  obtain ⟨y1, _, rfl, rfl, hs1⟩ := hs.cI
  obtain ⟨x1, _, rfl, rfl, hs2⟩ := hs1.cI
  exact lv_icmp_ge C.1 C.2.1 h (gto_eq ho) (fun hc => g ((ic_ge x1 y1).mp hc) α ls _ H locs ha hl hs2 hw hS) (fun hc => g2 (fun hd => hc ((ic_ge x1 y1).mpr hd)) α ls _ H locs ha hl hs2 hw hS)
theorem g_if_ge (C : Cx p Rm s m args meth c B k d) {off : Int} {x : Int} (h : decode (mB k) pc = .ok (.ifCond .ge off, 3)) (ho : 0 ≤ (pc : Int) + off) (g : 0 ≤ x → Gw p l e Rm s m args below meth c Q D B n0 α0 cells slots (gto pc off) L st w) (g2 : ¬ (0 ≤ x) → Gw p l e Rm s m args below meth c Q D B n0 α0 cells slots (pc + 3) L st w) : Gw p l e Rm s m args below meth c Q D B n0 α0 cells slots pc L (.inl x :: st) w := by
  intro α ls stk H locs ha hl hs hw hS
  obtain ⟨x1, _, rfl, rfl, hs1⟩ := hs.cI
  exact lv_if_ge C.1 C.2.1 h (gto_eq ho) (fun hc => g ((ic_ge x1 0).mp hc) α ls _ H locs ha hl hs1 hw hS) (fun hc => g2 (fun hd => hc ((ic_ge x1 0).mpr hd)) α ls _ H locs ha hl hs1 hw hS)
theorem g_icmp_gt (C : Cx p Rm s m args meth c B k d) {off : Int} {x y : Int} (h : decode (mB k) pc = .ok (.if_icmp .gt off, 3)) (ho : 0 ≤ (pc : Int) + off) (g : y < x → Gw p l e Rm s m args below meth c Q D B n0 α0 cells slots (gto pc off) L st w) (g2 : ¬ (y < x) → Gw p l e Rm s m args below meth c Q D B n0 α0 cells slots (pc + 3) L st w) : Gw p l e Rm s m args below meth c Q D B n0 α0 cells slots pc L (.inl y :: .inl x :: st) w := by
  intro α ls stk H locs ha hl hs hw hS
  obtain ⟨y1, _, rfl, rfl, hs1⟩ := hs.cI
  obtain ⟨x1, _, rfl, rfl, hs2⟩ := hs1.cI
  exact lv_icmp_gt C.1 C.2.1 h (gto_eq ho) (fun hc => g ((ic_gt x1 y1).mp hc) α ls _ H locs ha hl hs2 hw hS) (fun hc => g2 (fun hd => hc ((ic_gt x1 y1).mpr hd)) α ls _ H locs ha hl hs2 hw hS)
theorem g_if_gt (C : Cx p Rm s m args meth c B k d) {off : Int} {x : Int} (h : decode (mB k) pc = .ok (.ifCond .gt off, 3)) (ho : 0 ≤ (pc : Int) + off) (g : 0 < x → Gw p l e Rm s m args below meth c Q D B n0 α0 cells slots (gto pc off) L st w) (g2 : ¬ (0 < x) → Gw p l e Rm s m args below meth c Q D B n0 α0 cells slots (pc + 3) L st w) : Gw p l e Rm s m args below meth c Q D B n0 α0 cells slots pc L (.inl x :: st) w := by
  intro α ls stk H locs ha hl hs hw hS
  obtain ⟨x1, _, rfl, rfl, hs1⟩ := hs.cI
  exact lv_if_gt C.1 C.2.1 h (gto_eq ho) (fun hc => g ((ic_gt x1 0).mp hc) α ls _ H locs ha hl hs1 hw hS) (fun hc => g2 (fun hd => hc ((ic_gt x1 0).mpr hd)) α ls _ H locs ha hl hs1 hw hS)
theorem g_icmp_le (C : Cx p Rm s m args meth c B k d) {off : Int} {x y : Int} (h : decode (mB k) pc = .ok (.if_icmp .le off, 3)) (ho : 0 ≤ (pc : Int) + off) (g : x ≤ y → Gw p l e Rm s m args below meth c Q D B n0 α0 cells slots (gto pc off) L st w) (g2 : ¬ (x ≤ y) → Gw p l e Rm s m args below meth c Q D B n0 α0 cells slots (pc + 3) L st w) : Gw p l e Rm s m args below meth c Q D B n0 α0 cells slots pc L (.inl y :: .inl x :: st) w := by
  intro α ls stk H locs ha hl hs hw hS
  obtain ⟨y1, _, rfl, rfl, hs1⟩ := hs.cI
  obtain ⟨x1, _, rfl, rfl, hs2⟩ := hs1.cI
  exact lv_icmp_le C.1 C.2.1 h (gto_eq ho) (fun hc => g ((ic_le x1 y1).mp hc) α ls _ H locs ha hl hs2 hw hS) (fun hc => g2 (fun hd => hc ((ic_le x1 y1).mpr hd)) α ls _ H locs ha hl hs2 hw hS)
theorem g_if_le (C : Cx p Rm s m args meth c B k d) {off : Int} {x : Int} (h : decode (mB k) pc = .ok (.ifCond .le off, 3)) (ho : 0 ≤ (pc : Int) + off) (g : x ≤ 0 → Gw p l e Rm s m args below meth c Q D B n0 α0 cells slots (gto pc off) L st w) (g2 : ¬ (x ≤ 0) → Gw p l e Rm s m args below meth c Q D B n0 α0 cells slots (pc + 3) L st w) : Gw p l e Rm s m args below meth c Q D B n0 α0 cells slots pc L (.inl x :: st) w := by
  intro α ls stk H locs ha hl hs hw hS
  obtain ⟨x1, _, rfl, rfl, hs1⟩ := hs.cI
  exact lv_if_le C.1 C.2.1 h (gto_eq ho) (fun hc => g ((ic_le x1 0).mp hc) α ls _ H locs ha hl hs1 hw hS) (fun hc => g2 (fun hd => hc ((ic_le x1 0).mpr hd)) α ls _ H locs ha hl hs1 hw hS)
theorem g_switchO (C : Cx p Rm s m args meth c B k d) {dflt lo hi : Int} {offs : Array Int} {x : Int} {n : Nat} (h : decode (mB k) pc = .ok (.tableswitch dflt lo hi offs, n)) (hx : x < lo ∨ hi < x) (ho : 0 ≤ (pc : Int) + dflt) (g : Gw p l e Rm s m args below meth c Q D B n0 α0 cells slots (gto pc dflt) L st w) : Gw p l e Rm s m args below meth c Q D B n0 α0 cells slots pc L (.inl x :: st) w := by
  intro α ls stk H locs ha hl hs hw hS
  obtain ⟨x1, _, rfl, rfl, hs1⟩ := hs.cI
  exact lv_tableOut C.1 C.2.1 h hx (gto_eq ho) (g α ls _ H locs ha hl hs1 hw hS)
theorem g_switchI (C : Cx p Rm s m args meth c B k d) {dflt lo hi off : Int} {offs : Array Int} {x : Int} {n : Nat} (h : decode (mB k) pc = .ok (.tableswitch dflt lo hi offs, n)) (h1 : ¬ x < lo) (h2 : ¬ hi < x) (hf : offs[(x - lo).toNat]? = some off) (ho : 0 ≤ (pc : Int) + off) (g : Gw p l e Rm s m args below meth c Q D B n0 α0 cells slots (gto pc off) L st w) : Gw p l e Rm s m args below meth c Q D B n0 α0 cells slots pc L (.inl x :: st) w := by
  intro α ls stk H locs ha hl hs hw hS
  obtain ⟨x1, _, rfl, rfl, hs1⟩ := hs.cI
  exact lv_tableIn C.1 C.2.1 h h1 h2 hf (gto_eq ho) (g α ls _ H locs ha hl hs1 hw hS)
theorem vp_in_of_int {j : Int32} {n : Nat} (h : 0 ≤ j.toInt ∧ j.toInt < n) : vp_in j n := vp_in_iff.mpr h
theorem clamp_toInt (j : Int32) : j.toNatClampNeg = j.toInt.toNat := rfl
theorem g_iald (C : Cx p Rm s m args meth c B k d) {a : Nat} {j : Int} (h : decode (mB k) pc = .ok (.iaload, 1)) (hk : kd w a = 1 ∧ 0 ≤ j ∧ j < ln w a) (g : Gw p l e Rm s m args below meth c Q D B n0 α0 cells slots (pc + 1) L (.inl (gi w a j.toNat) :: st) w) : Gw p l e Rm s m args below meth c Q D B n0 α0 cells slots pc L (.inl j :: .inr a :: st) w := by
  intro α ls stk H locs ha hl hs hw hS
  obtain ⟨j1, _, rfl, rfl, hs1⟩ := hs.cI
  obtain ⟨_, rfl, hr, hs2⟩ := hs1.cR
  obtain ⟨ws, tys, hw⟩ := hw
  obtain ⟨cA, f, t0, h1, h2, h3⟩ := hw.ia hk.1
  exact va_iald C.1 C.2.1 hw.1 hw.2.1 _ t0 h1 h2 (vp_in_of_int hk.2) h (g α ls _ H locs ha hl ⟨h3 _, hs2⟩ ⟨ws, tys, hw⟩ hS)
theorem g_cald (C : Cx p Rm s m args meth c B k d) {a : Nat} {j : Int} (h : decode (mB k) pc = .ok (.caload, 1)) (hk : kd w a = 2 ∧ 0 ≤ j ∧ j < ln w a) (g : Gw p l e Rm s m args below meth c Q D B n0 α0 cells slots (pc + 1) L (.inl (gi w a j.toNat) :: st) w) : Gw p l e Rm s m args below meth c Q D B n0 α0 cells slots pc L (.inl j :: .inr a :: st) w := by
  intro α ls stk H locs ha hl hs hw hS
  obtain ⟨j1, _, rfl, rfl, hs1⟩ := hs.cI
  obtain ⟨_, rfl, hr, hs2⟩ := hs1.cR
  obtain ⟨ws, tys, hw⟩ := hw
  obtain ⟨cA, f, t0, h1, h2, h3⟩ := hw.ca hk.1
  exact va_cald C.1 C.2.1 hw.1 hw.2.1 _ t0 h1 h2 (vp_in_of_int hk.2) h (g α ls _ H locs ha hl ⟨h3 _, hs2⟩ ⟨ws, tys, hw⟩ hS)
theorem g_aald (C : Cx p Rm s m args meth c B k d) {a b : Nat} {j : Int} (h : decode (mB k) pc = .ok (.aaload, 1)) (hk : kd w a = 3 ∧ 0 ≤ j ∧ j < ln w a) (hb : gr w a j.toNat = some b) (g : Gw p l e Rm s m args below meth c Q D B n0 α0 cells slots (pc + 1) L (.inr b :: st) w) : Gw p l e Rm s m args below meth c Q D B n0 α0 cells slots pc L (.inl j :: .inr a :: st) w := by
  intro α ls stk H locs ha hl hs hw hS
  obtain ⟨j1, _, rfl, rfl, hs1⟩ := hs.cI
  obtain ⟨_, rfl, hr, hs2⟩ := hs1.cR
  obtain ⟨ws, tys, hw⟩ := hw
  obtain ⟨cA, f, t0, h1, h2, h3⟩ := hw.qa hk.1
  obtain ⟨h4, h5⟩ := h3 j1.toNatClampNeg
  refine va_aldq C.1 C.2.1 hw.1 hw.2.1 _ t0 h1 h2 (vp_in_of_int hk.2) h ?_
  rw [h4]
  rw [clamp_toInt, hb]
  exact g α ls _ H locs ha hl ⟨⟨rfl, h5 b hb⟩, hs2⟩ ⟨ws, tys, hw⟩ hS
theorem g_iast (C : Cx p Rm s m args meth c B k d) {a : Nat} {j v : Int} (h : decode (mB k) pc = .ok (.iastore, 1)) (hk : kd w a = 1 ∧ 0 ≤ j ∧ j < ln w a) (g : Gw p l e Rm s m args below meth c Q D B n0 α0 cells slots (pc + 1) L st (si w a j.toNat v)) : Gw p l e Rm s m args below meth c Q D B n0 α0 cells slots pc L (.inl v :: .inl j :: .inr a :: st) w := by
  intro α ls stk H locs ha hl hs hw hS
  obtain ⟨x1, _, rfl, rfl, hs1⟩ := hs.cI
  obtain ⟨j1, _, rfl, rfl, hs2⟩ := hs1.cI
  obtain ⟨_, rfl, hr, hs3⟩ := hs2.cR
  obtain ⟨ws, tys, hw⟩ := hw
  obtain ⟨cA, f, t0, h1, h2, h3⟩ := hw.ia hk.1
  have hrg := hw.rng (a := a) (by rw [hk.1]; decide)
  refine va_iast C.1 C.2.1 hw.1 hw.2.1 hw.2.2.1 hS _ t0 h1 h2 (vp_in_of_int hk.2) h (fun H1 locs1 hP1 hD1 hS1 => g α ls _ H1 locs1 ha hl hs3 ⟨_, tys, hw.upd rfl (fun _ => rfl) (fun _ => rfl) hrg hP1 hD1 (fun b hb => ⟨fun i => by rw [gi_si, if_neg (fun q => hb q.1)], fun i => rfl⟩) (Or.inl ⟨hk.1, cA, _, t0, rfl, h2, ?_⟩)⟩ hS1)
  refine fun i => ?_
  rw [gi_si, clamp_toInt]
  unfold upd
  by_cases hi : i = j1.toInt.toNat
  · rw [if_pos hi, if_pos ⟨rfl, hi⟩]
  · rw [if_neg hi, if_neg (fun q => hi q.2)]
    exact h3 i
theorem g_cast (C : Cx p Rm s m args meth c B k d) {a : Nat} {j v : Int} (h : decode (mB k) pc = .ok (.castore, 1)) (hk : kd w a = 2 ∧ 0 ≤ j ∧ j < ln w a) (hv : 0 ≤ v ∧ v < 65536) (g : Gw p l e Rm s m args below meth c Q D B n0 α0 cells slots (pc + 1) L st (si w a j.toNat v)) : Gw p l e Rm s m args below meth c Q D B n0 α0 cells slots pc L (.inl v :: .inl j :: .inr a :: st) w := by
  intro α ls stk H locs ha hl hs hw hS
  obtain ⟨x1, _, rfl, rfl, hs1⟩ := hs.cI
  obtain ⟨j1, _, rfl, rfl, hs2⟩ := hs1.cI
  obtain ⟨_, rfl, hr, hs3⟩ := hs2.cR
  obtain ⟨ws, tys, hw⟩ := hw
  obtain ⟨cA, f, t0, h1, h2, h3⟩ := hw.ca hk.1
  have hrg := hw.rng (a := a) (by rw [hk.1]; decide)
  refine va_cast C.1 C.2.1 hw.1 hw.2.1 hw.2.2.1 hS _ t0 h1 h2 (vp_in_of_int hk.2) h (fun H1 locs1 hP1 hD1 hS1 => g α ls _ H1 locs1 ha hl hs3 ⟨_, tys, hw.upd rfl (fun _ => rfl) (fun _ => rfl) hrg hP1 hD1 (fun b hb => ⟨fun i => by rw [gi_si, if_neg (fun q => hb q.1)], fun i => rfl⟩) (Or.inr (Or.inl ⟨hk.1, cA, _, t0, rfl, h2, ?_⟩))⟩ hS1)
  refine fun i => ?_
  rw [gi_si, clamp_toInt]
  unfold upd
  by_cases hi : i = j1.toInt.toNat
  · rw [if_pos hi, if_pos ⟨rfl, hi⟩]
    rw [vp_nar_char, pk_charV x1 hv.1 hv.2]
  · rw [if_neg hi, if_neg (fun q => hi q.2)]
    exact h3 i
theorem g_aast (C : Cx p Rm s m args meth c B k d) {a v : Nat} {j : Int} (h : decode (mB k) pc = .ok (.aastore, 1)) (hk : kd w a = 3 ∧ 0 ≤ j ∧ j < ln w a) (hv : kd w v = 13) (g : Gw p l e Rm s m args below meth c Q D B n0 α0 cells slots (pc + 1) L st (sr w a j.toNat (some v))) : Gw p l e Rm s m args below meth c Q D B n0 α0 cells slots pc L (.inr v :: .inl j :: .inr a :: st) w := by
  intro α ls stk H locs ha hl hs hw hS
  obtain ⟨_, rfl, hrv, hs1⟩ := hs.cR
  obtain ⟨j1, _, rfl, rfl, hs2⟩ := hs1.cI
  obtain ⟨_, rfl, hr, hs3⟩ := hs2.cR
  obtain ⟨ws, tys, hw⟩ := hw
  obtain ⟨cA, f, t0, h1, h2, h3⟩ := hw.qa hk.1
  obtain ⟨r, fs, e1, e2, -⟩ := hw.ob (ci := 3) hv
  have hrg := hw.rng (a := a) (by rw [hk.1]; decide)
  have er : r = (RX3, TX3, 2) := (Option.some.inj e2).symm
  subst er
  refine va_astq C.1 C.2.1 hw.1 hw.2.1 hw.2.2.1 hS _ t0 (v - 1) 3 (r := (RX3, TX3, 2)) h1 h2 e1 e2 (vp_in_of_int hk.2) h (fun H1 locs1 hP1 hD1 hS1 => g α ls _ H1 locs1 ha hl hs3 ⟨_, tys, hw.upd rfl (fun _ => rfl) (fun _ => rfl) hrg hP1 hD1 (fun b hb => ⟨fun i => rfl, fun i => by rw [gr_sr, if_neg (fun q => hb q.1)]⟩) (Or.inr (Or.inr (Or.inl ⟨hk.1, cA, _, t0, rfl, h2, ?_⟩)))⟩ hS1)
  refine fun i => ?_
  rw [gr_sr, clamp_toInt]
  unfold va_up
  by_cases hi : i = j1.toInt.toNat
  · rw [if_pos hi, if_pos ⟨rfl, hi⟩]
    exact ⟨rfl, fun b hb => by cases hb; exact hrv⟩
  · rw [if_neg hi, if_neg (fun q => hi q.2)]
    exact h3 i
theorem g_alen (C : Cx p Rm s m args meth c B k d) {a : Nat} (h : decode (mB k) pc = .ok (.arraylength, 1)) (hk : kd w a = 1 ∧ ln w a < 2147483648) (g : Gw p l e Rm s m args below meth c Q D B n0 α0 cells slots (pc + 1) L (.inl (ln w a) :: st) w) : Gw p l e Rm s m args below meth c Q D B n0 α0 cells slots pc L (.inr a :: st) w := by
  intro α ls stk H locs ha hl hs hw hS
  obtain ⟨_, rfl, hr, hs1⟩ := hs.cR
  obtain ⟨ws, tys, hw⟩ := hw
  obtain ⟨cA, f, t0, h1, h2, h3⟩ := hw.ia hk.1
  exact va_alen C.1 C.2.1 hw.1 hw.2.1 _ t0 h1 h2 rfl h (g α ls _ H locs ha hl ⟨nI_toInt hk.2, hs1⟩ ⟨ws, tys, hw⟩ hS)
end G3
