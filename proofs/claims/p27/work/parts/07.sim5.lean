/-! contracts of methods out of runs of the small machine; calls -/
def rmF (d mc ms : Nat) : Room := { frames := d + 1, cells := mc, slots := ms, locals := 64 * (d + 1) }
/-- the script, at the cell 0 -/
def SX (X : Nat × (Nat → Int)) (B : Nat) (α0 : Nat → Nat) (s : State) : Prop := ∃ xs : Nat → Int32, va_X (α0 0) X.1 xs s s.heap ∧ α0 0 < s.heap.size ∧ ¬ aB B (α0 0) ∧ ∀ i, (xs i).toInt = X.2 i
def QcM (D : va_G) (B : Nat) (α0 : Nat → Nat) (w w' : MW) (v : Option MV) : Array Value → State → Outcome → State → Prop := match v with
  | none => va_Qv (fun α' : Nat → Nat => ∀ a, a < nx w → α' a = α0 a) (fun α' t => WH α' D B w' t t.heap) (aB B)
  | some (.inl z) => va_Qi (fun (r : Int32) (α' : Nat → Nat) => r.toInt = z ∧ ∀ a, a < nx w → α' a = α0 a) (fun α' t => WH α' D B w' t t.heap) (aB B)
  | some (.inr z) => va_Qr (fun α' : Nat → Nat => ∀ a, a < nx w → α' a = α0 a) (fun α' q t => (q = α' z ∧ z < nx w') ∧ WH α' D B w' t t.heap) (aB B)
def PcM (X : Nat × (Nat → Int)) (D : va_G) (B : Nat) (α0 : Nat → Nat) (w : MW) (vals : List Value) : Array Value → State → Prop := va_Pc vals (fun U => B ≤ U.heap.size ∧ NW U ∧ WH α0 D B w U U.heap ∧ SX X B α0 U)
def MetK (X : Nat × (Nat → Int)) (l : Launch) (D : va_G) (B d k : Nat) (as : List MV) (w w' : MW) (v : Option MV) : Prop := as.length ≤ mL k → ∀ (α0 : Nat → Nat) (vals : List Value), SR α0 (nx w) as vals →
  Met l (mY k) (.code (mY k) (mB k) (mL k) (mRet k) :: gtbl) (rmF d (nx w' - nx w) (sl w' - sl w)) (PcM X D B α0 w vals) (QcM D B α0 w w' v) (nx w' - nx w) (sl w' - sl w) (aB B)
theorem goodG {ws : List Cond} (h : ∀ w ∈ ws, w ∈ gtbl) : GoodIn gtbl ws := fun w hw => ⟨h w hw, good_of_word (List.mem_filter.mp (h w hw)).2⟩
theorem blindM {X : Nat × (Nat → Int)} {D : va_G} {B : Nat} {α0 : Nat → Nat} {w : MW} {vals : List Value} : FrameBlind (PcM X D B α0 w vals) := by
  intro a U g mk q
  obtain ⟨q1, q2, q3, ⟨ws, tys, q4, q5⟩, xs, q6, q7⟩ := q
  exact ⟨q1, q2, q3.same rfl, ⟨ws, tys, va_K.moved (u := U) (U := U.calling g mk a) (Vm.Alike.refl U.vm) q4, q5⟩, xs, va_X.moved (u := U) (U := U.calling g mk a) (Vm.Alike.refl U.vm) q6, q7⟩
/-- what the tables must say of a callee -/
def CalleeOk (k1 n : Nat) : Prop := (.code (mY k1) (mB k1) (mL k1) (mRet k1) ∈ gtbl ∧ Cond.initialized (mY k1).cls ∈ gtbl) ∧ ((mY k1).cls ≠ "java/lang/invoke/MethodHandle" ∧ (mY k1).cls ≠ "java/lang/invoke/VarHandle" ∧ (parseMethodDescriptor (mY k1).desc).map (fun d => d.parameters.length) = some n) ∧ mL k1 ≤ 40
section G5
variable {X : Nat × (Nat → Int)} {p : Program} {l : Launch} {e : Env} {Rm : Room} {s : State} {m : MethodId} {args : Array Value} {below : List Frame} {meth : Method} {c : Code} {Q : State → Prop} {D : va_G} {B n0 : Nat} {α0 α : Nat → Nat} {cells slots pc k k1 d n j : Nat} {L : List (Option MV)} {st : List MV} {w w' : MW} {v : Option MV} {as : List MV} {As r : List Value} {ls : Array Slot} {H : Heap} {locs : List Loc}
theorem preM (C : Cx p Rm s m args meth c B k (d + 1)) (hw : WH α D B w s H) (hS : va_S (aB B) s.heap H locs) (hx : SX X B α0 s) (h0 : α 0 = α0 0) {vals : List Value} : ∀ U : State, U.heap = H → s.WarmedH U.vm → PcM X D B α w vals vals.toArray U := by
  intro U hU hW
  refine ⟨rfl, ?_, C.2.2.2.2.2.1.warm hW, ?_, ?_⟩
  · rw [hU]
    exact Nat.le_trans C.2.2.2.2.2.2.2.2 hS.1
  · rw [hU]
    exact hw.moved hW.alike
  · obtain ⟨xs, x1, x2, x3, x5⟩ := hx
    refine ⟨xs, ?_, ?_, by rw [h0]; exact x3, x5⟩
    · rw [hU, h0]
      exact va_X.moved hW.alike (x1.kept (hS.2.1 _ x2 x3))
    · rw [hU, h0]
      exact Nat.lt_of_lt_of_le x2 hS.1
theorem recvM {b ci : Nat} {Cn : String} {T : u_T} {N : Nat} (hw : WH α D B w s H) (hcl : vwCl[ci]? = some (Cn, T, N)) (hk : kd w b = 10 + ci) : ∃ cellB : Cell, H[α b]? = some cellB ∧ cellB.vm.isStatics = false ∧ s.vm.findClass Cn = some cellB.cls := by
  obtain ⟨ws, tys, hw⟩ := hw
  obtain ⟨r, fs, e1, e2, -⟩ := hw.ob hk
  exact va_recv hw.1 hw.2.1 hcl e1
theorem fixM (C : Cx p Rm s m args meth c B k d) : CallFix p m c (mB k) (mL k) s args gtbl (mOwn k) := ⟨C.1, C.2.1, C.2.2.1, C.2.2.2.1, C.2.2.2.2.1⟩
theorem roomM {mc ms : Nat} (C : Cx p Rm s m args meth c B k (d + 1)) (h : mL k1 ≤ 40) : (rmF d mc ms).frames + 1 ≤ Rm.frames ∧ 8 + (mL k1 + 11) + (rmF d mc ms).locals ≤ Rm.locals := by
  have := C.2.2.2.2.2.2.1
  constructor
  · show d + 1 + 1 ≤ _; omega
  · show 8 + (mL k1 + 11) + 64 * (d + 1) ≤ _; omega
theorem memM {w1 : Cond} (hc : CalleeOk k1 n) : ∀ w2 ∈ (Cond.code (mY k1) (mB k1) (mL k1) (mRet k1) :: gtbl), w2 ∈ gtbl := by
  intro w2 h2
  rcases List.mem_cons.mp h2 with h2 | h2
  · rw [h2]; exact hc.1.1
  · exact h2
theorem run_virt {b ci : Nat} {Cn : String} {T : u_T} {N : Nat} (C : Cx p Rm s m args meth c B k (d + 1)) (h : decode (mB k) pc = .ok (.invokevirtual j, 3)) (hM : MetK X l D B d k1 (.inr b :: as) w w' v) (hal : (Sum.inr b :: as : List MV).length ≤ mL k1) (hc : CalleeOk k1 n) (hw0 : Cond.methodLink (mOwn k) j (mY k1) ∈ gtbl) (hw1 : Cond.instanceMethod (mY k1) ∈ gtbl) (hw2 : Cond.selects (mY k1).cls (mY k1) (mY k1) ∈ gtbl)
    (hcl : vwCl[ci]? = some (Cn, T, N)) (hCn : Cn = (mY k1).cls) (hk : kd w b = 10 + ci) (hln : as.length = n) (hLn : L.length = mL k) (hr : st.length ≤ 8) (hmc : cells + (nx w' - nx w) ≤ Rm.cells ∧ slots + (sl w' - sl w) ≤ Rm.slots) (hl : LR α (nx w) L ls) (hs : SR α (nx w) (.inr b :: as) (.ref (α b) :: As)) (hs2 : SR α (nx w) st r) (hw : WH α D B w s H) (hS : va_S (aB B) s.heap H locs) (hx : SX X B α0 s) (h0 : α 0 = α0 0) :
    va_Run p l e Rm s m args below meth c H locs cells slots (nx w' - nx w) (sl w' - sl w) (F0 m pc ls (As.reverse ++ .ref (α b) :: r)) r (QcM D B α w w' v (Value.ref (α b) :: As).toArray) (aB B) := by
  subst hCn
  refine va_runV (As := As) (rest := r) (n := n) (C := (mY k1).cls) (fixM C) (hM hal α _ hs) (cwV n C.2.2.2.2.1 (goodG ?_) rfl rfl rfl ⟨rfl, hc.2.1⟩ (roomM C hc.2.2)) ⟨blindM, recvM hw hcl hk, preM C hw hS hx h0⟩ rfl ?_ (by show ls.size = _; rw [hl.len]; exact hLn) rfl (lv_room (by rw [hs2.cat]; exact hr)) h hmc
  · intro w2 h2
    unfold wsV at h2
    rcases List.mem_append.mp h2 with h2 | h2
    · simp only [List.mem_cons, List.not_mem_nil, or_false] at h2
      rcases h2 with rfl | rfl | rfl | rfl
      · exact hw0
      · exact hw1
      · exact hw2
      · exact hc.1.2
    · exact memM (w1 := .tt) hc w2 h2
  · have := hs.2.len
    rw [this]; exact hln
theorem run_stat (C : Cx p Rm s m args meth c B k (d + 1)) (h : decode (mB k) pc = .ok (.invokestatic j, 3)) (hM : MetK X l D B d k1 as w w' v) (hal : as.length ≤ mL k1) (hc : CalleeOk k1 n) (hw0 : Cond.methodLink (mOwn k) j (mY k1) ∈ gtbl) (hw1 : Cond.static (mY k1) ∈ gtbl)
    (hln : as.length = n) (hLn : L.length = mL k) (hr : st.length ≤ 8) (hmc : cells + (nx w' - nx w) ≤ Rm.cells ∧ slots + (sl w' - sl w) ≤ Rm.slots) (hl : LR α (nx w) L ls) (hs : SR α (nx w) as As) (hs2 : SR α (nx w) st r) (hw : WH α D B w s H) (hS : va_S (aB B) s.heap H locs) (hx : SX X B α0 s) (h0 : α 0 = α0 0) :
    va_Run p l e Rm s m args below meth c H locs cells slots (nx w' - nx w) (sl w' - sl w) (F0 m pc ls (As.reverse ++ r)) r (QcM D B α w w' v As.toArray) (aB B) := by
  refine va_runS (As := As) (rest := r) (n := n) (fixM C) (hM hal α _ hs) (va_cwS n C.2.2.2.2.1 (goodG ?_) rfl rfl rfl hc.2.1 (roomM C hc.2.2)) ⟨blindM, preM C hw hS hx h0⟩ rfl ?_ (by show ls.size = _; rw [hl.len]; exact hLn) rfl (lv_room (by rw [hs2.cat]; exact hr)) h hmc
  · intro w2 h2
    unfold va_wsS at h2
    rcases List.mem_append.mp h2 with h2 | h2
    · simp only [List.mem_cons, List.not_mem_nil, or_false] at h2
      rcases h2 with rfl | rfl | rfl
      · exact hw0
      · exact hw1
      · exact hc.1.2
    · exact memM (w1 := .tt) hc w2 h2
  · rw [hs.len]; exact hln
theorem run_statN {host : String} (C : Cx p Rm s m args meth c B k (d + 1)) (h : decode (mB k) pc = .ok (.invokestatic j, 3)) (hM : MetK X l D B d k1 as w w' v) (hal : as.length ≤ mL k1) (hc : CalleeOk k1 n) (hw0 : va_Nw (.methodLinkNest (mOwn k) j (mY k1) host) s) (hw1 : Cond.static (mY k1) ∈ gtbl)
    (hln : as.length = n) (hLn : L.length = mL k) (hr : st.length ≤ 8) (hmc : cells + (nx w' - nx w) ≤ Rm.cells ∧ slots + (sl w' - sl w) ≤ Rm.slots) (hl : LR α (nx w) L ls) (hs : SR α (nx w) as As) (hs2 : SR α (nx w) st r) (hw : WH α D B w s H) (hS : va_S (aB B) s.heap H locs) (hx : SX X B α0 s) (h0 : α 0 = α0 0) :
    va_Run p l e Rm s m args below meth c H locs cells slots (nx w' - nx w) (sl w' - sl w) (F0 m pc ls (As.reverse ++ r)) r (QcM D B α w w' v As.toArray) (aB B) := by
  refine va_runSN (As := As) (rest := r) (n := n) (fixM C) (hM hal α _ hs) ⟨va_cnB n C.2.2.2.2.1 (goodG (memM (w1 := .tt) hc)) rfl rfl rfl hw0 (C.2.2.2.2.1 _ hc.1.2) hc.2.1 (roomM C hc.2.2), C.2.2.2.2.1 _ hw1, trivial⟩ ⟨blindM, preM C hw hS hx h0⟩ rfl ?_ (by show ls.size = _; rw [hl.len]; exact hLn) rfl (lv_room (by rw [hs2.cat]; exact hr)) h hmc
  rw [hs.len]; exact hln
theorem run_init {b : Nat} (C : Cx p Rm s m args meth c B k (d + 1)) (h : decode (mB k) pc = .ok (.invokespecial j, 3)) (hM : MetK X l D B d k1 (.inr b :: as) w w' v) (hal : (Sum.inr b :: as : List MV).length ≤ mL k1) (hc : CalleeOk k1 n) (hw0 : Cond.methodLink (mOwn k) j (mY k1) ∈ gtbl) (hw1 : Cond.instanceMethod (mY k1) ∈ gtbl) (hnm : (mY k1).name = "<init>") (hrt : mRet k1 = none)
    (hln : as.length = n) (hLn : L.length = mL k) (hr : st.length ≤ 8) (hmc : cells + (nx w' - nx w) ≤ Rm.cells ∧ slots + (sl w' - sl w) ≤ Rm.slots) (hl : LR α (nx w) L ls) (hs : SR α (nx w) (.inr b :: as) (.ref (α b) :: As)) (hs2 : SR α (nx w) st r) (hw : WH α D B w s H) (hS : va_S (aB B) s.heap H locs) (hx : SX X B α0 s) (h0 : α 0 = α0 0) :
    va_Run p l e Rm s m args below meth c H locs cells slots (nx w' - nx w) (sl w' - sl w) (F0 m pc ls (As.reverse ++ .ref (α b) :: r)) r (QcM D B α w w' v (Value.ref (α b) :: As).toArray) (aB B) := by
  have hM2 := hM hal α _ hs
  have hc2 := hc.1.1
  have hmem := memM (w1 := .tt) hc
  rw [hrt] at hM2 hmem
  refine va_runI (As := As) (rest := r) (n := n) (fixM C) hM2 (cwI n C.2.2.2.2.1 (goodG hmem) rfl rfl rfl (C.2.2.2.2.1 _ hc.1.2) (C.2.2.2.2.1 _ hw0) (C.2.2.2.2.1 _ hw1) hnm hc.2.1 (roomM C hc.2.2)) ⟨blindM, preM C hw hS hx h0⟩ rfl ?_ (by show ls.size = _; rw [hl.len]; exact hLn) rfl (lv_room (by rw [hs2.cat]; exact hr)) h hmc
  have := hs.2.len
  rw [this]; exact hln
theorem run_initN {b : Nat} {host : String} (C : Cx p Rm s m args meth c B k (d + 1)) (h : decode (mB k) pc = .ok (.invokespecial j, 3)) (hM : MetK X l D B d k1 (.inr b :: as) w w' v) (hal : (Sum.inr b :: as : List MV).length ≤ mL k1) (hc : CalleeOk k1 n) (hw0 : va_Nw (.methodLinkNest (mOwn k) j (mY k1) host) s) (hw1 : Cond.instanceMethod (mY k1) ∈ gtbl) (hnm : (mY k1).name = "<init>") (hrt : mRet k1 = none)
    (hln : as.length = n) (hLn : L.length = mL k) (hr : st.length ≤ 8) (hmc : cells + (nx w' - nx w) ≤ Rm.cells ∧ slots + (sl w' - sl w) ≤ Rm.slots) (hl : LR α (nx w) L ls) (hs : SR α (nx w) (.inr b :: as) (.ref (α b) :: As)) (hs2 : SR α (nx w) st r) (hw : WH α D B w s H) (hS : va_S (aB B) s.heap H locs) (hx : SX X B α0 s) (h0 : α 0 = α0 0) :
    va_Run p l e Rm s m args below meth c H locs cells slots (nx w' - nx w) (sl w' - sl w) (F0 m pc ls (As.reverse ++ .ref (α b) :: r)) r (QcM D B α w w' v (Value.ref (α b) :: As).toArray) (aB B) := by
  have hM2 := hM hal α _ hs
  have hmem := memM (w1 := .tt) hc
  rw [hrt] at hM2 hmem
  refine va_runIN (As := As) (rest := r) (n := n) (fixM C) hM2 ⟨va_cnB n C.2.2.2.2.1 (goodG hmem) rfl rfl rfl hw0 (C.2.2.2.2.1 _ hc.1.2) hc.2.1 (roomM C hc.2.2), hnm, C.2.2.2.2.1 _ hw1⟩ ⟨blindM, preM C hw hS hx h0⟩ rfl ?_ (by show ls.size = _; rw [hl.len]; exact hLn) rfl (lv_room (by rw [hs2.cat]; exact hr)) h hmc
  have := hs.2.len
  rw [this]; exact hln
/-- behind a call -/
theorem g_back {kind : Nat} {st2 : List MV} {stk : List Value} {a : Array Value} {mc ms : Nat} (hrun : va_Run p l e Rm s m args below meth c H locs cells slots mc ms (F0 m pc ls stk) r (QcM D B α w w' v a) (aB B)) (hp : pushR kind v st = some st2) (hn0 : n0 ≤ nx w) (hnn : nx w ≤ nx w')
    (ha : ∀ a, a < n0 → α a = α0 a) (hl : LR α (nx w) L ls) (hs2 : SR α (nx w) st r) (hS : va_S (aB B) s.heap H locs) (g : Gw p l e Rm s m args below meth c Q D B n0 α0 (cells + mc) (slots + ms) (pc + 3) L st2 w') : W p l e Rm s m args below meth c H locs cells slots Q (F0 m pc ls stk) := by
  rcases v with _ | z | z
  · have : st2 = st := by
      unfold pushR at hp
      split at hp <;> simp_all
    subst this
    refine va_callv (a := a) hrun hS (fun _ _ h => h) (fun _ h => h) (fun u t H1 locs1 ht hvm hq hB hz hk hS1 => ?_)
    rw [ht] at hB
    exact g u ls r H1 locs1 (fun x hx => by rw [hq x (by omega)]; exact ha x hx) (hl.mono hnn hq) (hs2.mono hnn hq) (hB.moved hvm.symm) hS1
  · have : st2 = .inl z :: st := by
      unfold pushR at hp
      split at hp <;> simp_all
    subst this
    refine va_calli (a := a) hrun hS (fun _ _ h => h) (fun _ h => h) (fun x u t H1 locs1 ht hvm hq hB hz hk hS1 => ?_)
    rw [ht] at hB
    exact g u ls _ H1 locs1 (fun x hx => by rw [hq.2 x (by omega)]; exact ha x hx) (hl.mono hnn hq.2) ⟨hq.1, hs2.mono hnn hq.2⟩ (hB.moved hvm.symm) hS1
  · have : st2 = .inr z :: st := by
      unfold pushR at hp
      split at hp <;> simp_all
    subst this
    refine va_callr (a := a) hrun hS (fun _ _ h => h) (fun _ h => h) (fun u x t H1 locs1 ht hvm hq hB hz hk hS1 => ?_)
    obtain ⟨hB1, hB⟩ := hB
    rw [ht] at hB
    exact g u ls _ H1 locs1 (fun x hx => by rw [hq x (by omega)]; exact ha x hx) (hl.mono hnn hq) ⟨hB1, hs2.mono hnn hq⟩ (hB.moved hvm.symm) hS1
end G5

