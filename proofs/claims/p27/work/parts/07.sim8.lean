/-! THE SIMULATION: what the small machine runs, the machine runs -/
theorem gd_inv {α : Type} {c : Prop} [Decidable c] {o : Option α} {a : α} (h : gd c o = some a) : c ∧ o = some a := by
  unfold gd at h
  split at h
  · rename_i hc
    exact ⟨hc, h⟩
  · cases h
theorem aGo_inv {pc : Nat} {L : List (Option MV)} {st : List MV} {w : MW} {a : Act} (h : aGo pc L st w = some a) : a = .inl (pc, L, st, w) := (Option.some.inj h).symm
theorem aRet_inv {v : Option MV} {w : MW} {a : Act} (h : aRet v w = some a) : a = .inr (.inl (v, w)) := (Option.some.inj h).symm
theorem s1I_inv {st : List MV} {f : Int → List MV → Option Act} {a : Act} (h : s1I st f = some a) : ∃ x r, st = .inl x :: r ∧ f x r = some a := by
  unfold s1I at h
  split at h
  · exact ⟨_, _, rfl, h⟩
  · cases h
theorem s1R_inv {st : List MV} {f : Nat → List MV → Option Act} {a : Act} (h : s1R st f = some a) : ∃ x r, st = .inr x :: r ∧ f x r = some a := by
  unfold s1R at h
  split at h
  · exact ⟨_, _, rfl, h⟩
  · cases h
theorem s2I_inv {st : List MV} {f : Int → Int → List MV → Option Act} {a : Act} (h : s2I st f = some a) : ∃ x y r, st = .inl y :: .inl x :: r ∧ f x y r = some a := by
  unfold s2I at h
  obtain ⟨y, r1, rfl, h1⟩ := s1I_inv h
  obtain ⟨x, r2, rfl, h2⟩ := s1I_inv h1
  exact ⟨x, y, r2, rfl, h2⟩
theorem lgI_inv {L : List (Option MV)} {i : Nat} {f : Int → Option Act} {a : Act} (h : lgI L i f = some a) : ∃ x, L[i]? = some (some (.inl x)) ∧ f x = some a := by
  unfold lgI at h
  split at h
  · rename_i x hx
    exact ⟨x, hx, h⟩
  · cases h
theorem lgR_inv {L : List (Option MV)} {i : Nat} {f : Nat → Option Act} {a : Act} (h : lgR L i f = some a) : ∃ x, L[i]? = some (some (.inr x)) ∧ f x = some a := by
  unfold lgR at h
  split at h
  · rename_i x hx
    exact ⟨x, hx, h⟩
  · cases h
theorem mcallV_inv {kind k n ci pc : Nat} {L : List (Option MV)} {st : List MV} {w : MW} {a : Act} (h : mcall kind k n ci true pc L st w = some a) : ∃ b as s2, st = (as.reverse ++ [.inr b]) ++ s2 ∧ as.length + 1 = n ∧ s2.length ≤ 8 ∧ kd w b = 10 + ci ∧ a = .inr (.inr (kind, k, .inr b :: as, pc + 3, L, s2, w)) := by
  unfold mcall at h
  obtain ⟨⟨h1, h2⟩, h⟩ := gd_inv h
  dsimp only at h
  split at h
  · rename_i b as he
    obtain ⟨h3, h⟩ := gd_inv h
    have e1 : st.take n = as.reverse ++ [.inr b] := by
      have := congrArg List.reverse he
      rw [List.reverse_reverse, List.reverse_cons] at this
      exact this
    refine ⟨b, as, st.drop n, ?_, ?_, h2, h3, (Option.some.inj h).symm⟩
    · rw [← e1, List.take_append_drop]
    · have := congrArg List.length e1
      rw [List.length_take, List.length_append, List.length_reverse] at this
      simp only [List.length_singleton] at this
      omega
  · cases h
theorem mcallS_inv {kind k n ci pc : Nat} {L : List (Option MV)} {st : List MV} {w : MW} {a : Act} (h : mcall kind k n ci false pc L st w = some a) : ∃ as s2, st = as.reverse ++ s2 ∧ as.length = n ∧ s2.length ≤ 8 ∧ a = .inr (.inr (kind, k, as, pc + 3, L, s2, w)) := by
  unfold mcall at h
  obtain ⟨⟨h1, h2⟩, h⟩ := gd_inv h
  dsimp only at h
  refine ⟨(st.take n).reverse, st.drop n, ?_, ?_, h2, (Option.some.inj h).symm⟩
  · rw [List.reverse_reverse, List.take_append_drop]
  · rw [List.length_reverse, List.length_take]
    omega
theorem okF_inv {k j ci f pl : Nat} (h : okF k j ci f pl = true) : ∃ (Cn : String) (T : u_T) (N : Nat), vwCl[ci]? = some (Cn, T, N) ∧ f < N ∧ Cond.fieldLink (mOwn k) j (T f).1 (T f).2.1 (T f).2.2.1 ∈ gtbl ∧ fldB ci f = (T f).2.2.2 ∧ fldO ci f = (T f).1 := by
  unfold okF at h
  split at h
  · rename_i Cn T N he
    rw [Bool.and_eq_true, decide_eq_true_eq] at h
    exact ⟨Cn, T, N, he, h.1, wk_mem h.2, by unfold fldB; rw [he], by unfold fldO; rw [he]⟩
  · cases h
theorem kill_len (ds : List Nat) : ∀ (L : List (Option MV)), (kill ds L).length = L.length := by
  induction ds with
  | nil => intro L; rfl
  | cons i ds ih => intro L; show (kill ds (L.set i none)).length = _; rw [ih, List.length_set]
theorem clsN_inv {ci : Nat} (h : ci < 7) : ∃ (Cn : String) (T : u_T) (N : Nat), vwCl[ci]? = some (Cn, T, N) ∧ clsN ci = Cn := by
  have h2 : ci < vwCl.length := h
  refine ⟨(vwCl[ci]).1, (vwCl[ci]).2.1, (vwCl[ci]).2.2, List.getElem?_eq_getElem h2, ?_⟩
  unfold clsN
  rw [List.getElem?_eq_getElem h2]
section SM
variable {p : Program} {l : Launch} {e : Env} {Rm : Room} {s : State} {m : MethodId} {args : Array Value} {below : List Frame} {meth : Method} {c : Code} {Q : State → Prop} {D : va_G} {B n0 : Nat} {α0 : Nat → Nat}
/-- from here to the method's end -/
def Cont (p : Program) (l : Launch) (e : Env) (Rm : Room) (s : State) (m : MethodId) (args : Array Value) (below : List Frame) (meth : Method) (c : Code) (Q : State → Prop) (D : va_G) (B n0 : Nat) (α0 : Nat → Nat) (k mc ms : Nat) (r : Option MV × MW) (pc : Nat) (L : List (Option MV)) (st : List MV) (w : MW) : Prop :=
  (nx w ≤ nx r.2 ∧ sl w ≤ sl r.2) ∧ ∀ cells slots : Nat, L.length = mL k → cells + nx r.2 = mc + nx w → slots + sl r.2 = ms + sl w → n0 ≤ nx w → Gw p l e Rm s m args below meth c Q D B n0 α0 cells slots pc L st w
/-- at a return: what the frame has -/
def RetAt (k : Nat) (α : Nat → Nat) (r : Option MV × MW) (pc : Nat) (stk : List Value) : Prop := match r.1 with
  | none => decode (mB k) pc = .ok (.return_, 1) ∧ stk = [] ∧ mRet k = none
  | some (.inl z) => ∃ x : Int32, decode (mB k) pc = .ok (.ireturn, 1) ∧ stk = [.int x] ∧ x.toInt = z ∧ (mRet k = some .int ∨ (mRet k = some .boolean ∧ (z = 0 ∨ z = 1)))
  | some (.inr a) => decode (mB k) pc = .ok (.areturn, 1) ∧ stk = [.ref (α a)] ∧ a < nx r.2 ∧ mRet k = some (.object "SometimesSums$Table")
def EndOk (p : Program) (l : Launch) (e : Env) (Rm : Room) (s : State) (m : MethodId) (args : Array Value) (below : List Frame) (meth : Method) (c : Code) (Q : State → Prop) (D : va_G) (B n0 : Nat) (α0 : Nat → Nat) (k mc ms : Nat) (r : Option MV × MW) : Prop :=
  ∀ (α : Nat → Nat) (pc : Nat) (ls : Array Slot) (stk : List Value) (H : Heap) (locs : List Loc), (∀ a, a < n0 → α a = α0 a) → RetAt k α r pc stk → WH α D B r.2 s H → va_S (aB B) s.heap H locs → W p l e Rm s m args below meth c H locs mc ms Q (F0 m pc ls stk)
def ScrOk (s : State) (B n0 k : Nat) (α0 : Nat → Nat) (X : Nat × (Nat → Int)) : Prop := SX X B α0 s ∧ 0 < n0
def CallOk (X : Nat × (Nat → Int)) (l : Launch) (D : va_G) (B d : Nat) (Cn : Nat → List (Option MV) → List MV → MW → Prop) (act : Act) : Prop := match act with
  | .inr (.inr (kind, k', as, pc', L', st', w')) => ∃ (d' : Nat) (r1 : Option MV × MW) (st2 : List MV), d = d' + 1 ∧ (1 ≤ k' → (nx w' ≤ nx r1.2 ∧ sl w' ≤ sl r1.2) ∧ MetK X l D B d' k' as w' r1.2 r1.1) ∧ pushR kind r1.1 st' = some st2 ∧ Cn pc' L' st2 r1.2
  | _ => True

set_option maxHeartbeats 4000000 in
theorem sim_step {X : Nat × (Nat → Int)} {k d mc ms pc nn : Nat} {r : Option MV × MW} {i : Instr} {u : List Nat} {L : List (Option MV)} {st : List MV} {w : MW} {act : Act} (C : Cx p Rm s m args meth c B k d) (hR : mc ≤ Rm.cells ∧ ms ≤ Rm.slots) (hend : EndOk p l e Rm s m args below meth c Q D B n0 α0 k mc ms r) (hscr : ScrOk s B n0 k α0 X)
    (hdec : decode (mB k) pc = .ok (i, nn)) (hlen : mlen i nn = nn) (hok : okR k i u = true) (hm : mstep X i nn u pc L st w = some act)
    (hgo : ∀ (pc' : Nat) (L' : List (Option MV)) (st' : List MV) (w' : MW), act = .inl (pc', L', st', w') → Cont p l e Rm s m args below meth c Q D B n0 α0 k mc ms r pc' L' st' w')
    (hret : ∀ (v : Option MV) (w' : MW), act = .inr (.inl (v, w')) → r = (v, w'))
    (hcall : CallOk X l D B d (Cont p l e Rm s m args below meth c Q D B n0 α0 k mc ms r) act) : Cont p l e Rm s m args below meth c Q D B n0 α0 k mc ms r pc L st w := by
  unfold mstep at hm
  split at hm
  · rename_i z
    simp only [mlen] at hlen
    subst hlen
    obtain ⟨hz, hm1⟩ := gd_inv hm
    have K := hgo _ _ _ _ (aGo_inv hm1)
    exact ⟨K.1, fun cells slots h1 h2 h3 h4 => g_iconst C hdec hz (K.2 cells slots h1 h2 h3 h4)⟩
  · rename_i z
    simp only [mlen] at hlen
    subst hlen
    obtain ⟨hz, hm1⟩ := gd_inv hm
    have K := hgo _ _ _ _ (aGo_inv hm1)
    exact ⟨K.1, fun cells slots h1 h2 h3 h4 => g_bipush C hdec hz (K.2 cells slots h1 h2 h3 h4)⟩
  · rename_i z
    simp only [mlen] at hlen
    subst hlen
    obtain ⟨hz, hm1⟩ := gd_inv hm
    have K := hgo _ _ _ _ (aGo_inv hm1)
    exact ⟨K.1, fun cells slots h1 h2 h3 h4 => g_sipush C hdec hz (K.2 cells slots h1 h2 h3 h4)⟩
  · rename_i j
    simp only [mlen] at hlen
    subst hlen
    split at hm
    · rename_i v us
      obtain ⟨hz, hm1⟩ := gd_inv hm
      have K := hgo _ _ _ _ (aGo_inv hm1)
      simp only [okR] at hok
      split at hok
      · rename_i hu
        cases hu
        exact ⟨K.1, fun cells slots h1 h2 h3 h4 => g_ldc C hdec (wk_mem hok) hz (K.2 cells slots h1 h2 h3 h4)⟩
      · cases hok
    · cases hm
  · rename_i j
    simp only [mlen] at hlen
    subst hlen
    obtain ⟨x, hx, hm1⟩ := lgI_inv hm
    have K := hgo _ _ _ _ (aGo_inv hm1)
    exact ⟨K.1, fun cells slots h1 h2 h3 h4 => g_iload_n C hdec hx (K.2 cells slots h1 h2 h3 h4)⟩
  · rename_i j
    simp only [mlen] at hlen
    subst hlen
    obtain ⟨x, hx, hm1⟩ := lgI_inv hm
    have K := hgo _ _ _ _ (aGo_inv hm1)
    exact ⟨K.1, fun cells slots h1 h2 h3 h4 => g_iload C hdec hx (K.2 cells slots h1 h2 h3 h4)⟩
  · rename_i j
    simp only [mlen] at hlen
    subst hlen
    obtain ⟨x, hx, hm1⟩ := lgR_inv hm
    have K := hgo _ _ _ _ (aGo_inv hm1)
    exact ⟨K.1, fun cells slots h1 h2 h3 h4 => g_aload_n C hdec hx (K.2 cells slots h1 h2 h3 h4)⟩
  · rename_i j
    simp only [mlen] at hlen
    subst hlen
    obtain ⟨x, hx, hm1⟩ := lgR_inv hm
    have K := hgo _ _ _ _ (aGo_inv hm1)
    exact ⟨K.1, fun cells slots h1 h2 h3 h4 => g_aload C hdec hx (K.2 cells slots h1 h2 h3 h4)⟩
  · rename_i j
    simp only [mlen] at hlen
    subst hlen
    obtain ⟨x, _, rfl, hm1⟩ := s1I_inv hm
    obtain ⟨hj, hm2⟩ := gd_inv hm1
    have K := hgo _ _ _ _ (aGo_inv hm2)
    exact ⟨K.1, fun cells slots h1 h2 h3 h4 => g_istore_n C hdec hj (K.2 cells slots (by rw [List.length_set]; exact h1) h2 h3 h4)⟩
  · rename_i j
    simp only [mlen] at hlen
    subst hlen
    obtain ⟨x, _, rfl, hm1⟩ := s1I_inv hm
    obtain ⟨hj, hm2⟩ := gd_inv hm1
    have K := hgo _ _ _ _ (aGo_inv hm2)
    exact ⟨K.1, fun cells slots h1 h2 h3 h4 => g_istore C hdec hj (K.2 cells slots (by rw [List.length_set]; exact h1) h2 h3 h4)⟩
  · rename_i j
    simp only [mlen] at hlen
    subst hlen
    obtain ⟨x, _, rfl, hm1⟩ := s1R_inv hm
    obtain ⟨hj, hm2⟩ := gd_inv hm1
    have K := hgo _ _ _ _ (aGo_inv hm2)
    exact ⟨K.1, fun cells slots h1 h2 h3 h4 => g_astore_n C hdec hj (K.2 cells slots (by rw [List.length_set]; exact h1) h2 h3 h4)⟩
  · rename_i j
    simp only [mlen] at hlen
    subst hlen
    obtain ⟨x, _, rfl, hm1⟩ := s1R_inv hm
    obtain ⟨hj, hm2⟩ := gd_inv hm1
    have K := hgo _ _ _ _ (aGo_inv hm2)
    exact ⟨K.1, fun cells slots h1 h2 h3 h4 => g_astore C hdec hj (K.2 cells slots (by rw [List.length_set]; exact h1) h2 h3 h4)⟩
  · simp only [mlen] at hlen
    subst hlen
    obtain ⟨x, y, _, rfl, hm1⟩ := s2I_inv hm
    have K := hgo _ _ _ _ (aGo_inv hm1)
    exact ⟨K.1, fun cells slots h1 h2 h3 h4 => g_iadd C hdec (K.2 cells slots h1 h2 h3 h4)⟩
  · simp only [mlen] at hlen
    subst hlen
    obtain ⟨x, y, _, rfl, hm1⟩ := s2I_inv hm
    have K := hgo _ _ _ _ (aGo_inv hm1)
    exact ⟨K.1, fun cells slots h1 h2 h3 h4 => g_isub C hdec (K.2 cells slots h1 h2 h3 h4)⟩
  · simp only [mlen] at hlen
    subst hlen
    obtain ⟨x, y, _, rfl, hm1⟩ := s2I_inv hm
    have K := hgo _ _ _ _ (aGo_inv hm1)
    exact ⟨K.1, fun cells slots h1 h2 h3 h4 => g_imul C hdec (K.2 cells slots h1 h2 h3 h4)⟩
  · simp only [mlen] at hlen
    subst hlen
    obtain ⟨x, y, _, rfl, hm1⟩ := s2I_inv hm
    obtain ⟨hy, hm2⟩ := gd_inv hm1
    have K := hgo _ _ _ _ (aGo_inv hm2)
    exact ⟨K.1, fun cells slots h1 h2 h3 h4 => g_idiv C hdec hy (K.2 cells slots h1 h2 h3 h4)⟩
  · simp only [mlen] at hlen
    subst hlen
    obtain ⟨x, y, _, rfl, hm1⟩ := s2I_inv hm
    obtain ⟨hy, hm2⟩ := gd_inv hm1
    have K := hgo _ _ _ _ (aGo_inv hm2)
    exact ⟨K.1, fun cells slots h1 h2 h3 h4 => g_irem C hdec hy (K.2 cells slots h1 h2 h3 h4)⟩
  · simp only [mlen] at hlen
    subst hlen
    obtain ⟨x, y, _, rfl, hm1⟩ := s2I_inv hm
    have K := hgo _ _ _ _ (aGo_inv hm1)
    exact ⟨K.1, fun cells slots h1 h2 h3 h4 => g_iand C hdec (K.2 cells slots h1 h2 h3 h4)⟩
  · simp only [mlen] at hlen
    subst hlen
    obtain ⟨x, y, _, rfl, hm1⟩ := s2I_inv hm
    have K := hgo _ _ _ _ (aGo_inv hm1)
    exact ⟨K.1, fun cells slots h1 h2 h3 h4 => g_ior C hdec (K.2 cells slots h1 h2 h3 h4)⟩
  · simp only [mlen] at hlen
    subst hlen
    obtain ⟨x, y, _, rfl, hm1⟩ := s2I_inv hm
    have K := hgo _ _ _ _ (aGo_inv hm1)
    exact ⟨K.1, fun cells slots h1 h2 h3 h4 => g_ixor C hdec (K.2 cells slots h1 h2 h3 h4)⟩
  · simp only [mlen] at hlen
    subst hlen
    obtain ⟨x, y, _, rfl, hm1⟩ := s2I_inv hm
    have K := hgo _ _ _ _ (aGo_inv hm1)
    exact ⟨K.1, fun cells slots h1 h2 h3 h4 => g_ishl C hdec (K.2 cells slots h1 h2 h3 h4)⟩
  · simp only [mlen] at hlen
    subst hlen
    obtain ⟨x, y, _, rfl, hm1⟩ := s2I_inv hm
    have K := hgo _ _ _ _ (aGo_inv hm1)
    exact ⟨K.1, fun cells slots h1 h2 h3 h4 => g_ishr C hdec (K.2 cells slots h1 h2 h3 h4)⟩
  · simp only [mlen] at hlen
    subst hlen
    obtain ⟨x, y, _, rfl, hm1⟩ := s2I_inv hm
    have K := hgo _ _ _ _ (aGo_inv hm1)
    exact ⟨K.1, fun cells slots h1 h2 h3 h4 => g_iushr C hdec (K.2 cells slots h1 h2 h3 h4)⟩
  · simp only [mlen] at hlen
    subst hlen
    obtain ⟨x, _, rfl, hm1⟩ := s1I_inv hm
    have K := hgo _ _ _ _ (aGo_inv hm1)
    exact ⟨K.1, fun cells slots h1 h2 h3 h4 => g_i2c C hdec (K.2 cells slots h1 h2 h3 h4)⟩
  · simp only [mlen] at hlen
    subst hlen
    split at hm
    · have K := hgo _ _ _ _ (aGo_inv hm)
      exact ⟨K.1, fun cells slots h1 h2 h3 h4 => g_dup C hdec (K.2 cells slots h1 h2 h3 h4)⟩
    · cases hm
  · simp only [mlen] at hlen
    subst hlen
    split at hm
    · have K := hgo _ _ _ _ (aGo_inv hm)
      exact ⟨K.1, fun cells slots h1 h2 h3 h4 => g_dup2 C hdec (K.2 cells slots h1 h2 h3 h4)⟩
    · cases hm
  · simp only [mlen] at hlen
    subst hlen
    split at hm
    · have K := hgo _ _ _ _ (aGo_inv hm)
      exact ⟨K.1, fun cells slots h1 h2 h3 h4 => g_pop C hdec (K.2 cells slots h1 h2 h3 h4)⟩
    · cases hm
  · rename_i j z
    simp only [mlen] at hlen
    subst hlen
    obtain ⟨x, hx, hm1⟩ := lgI_inv hm
    obtain ⟨hz, hm2⟩ := gd_inv hm1
    have K := hgo _ _ _ _ (aGo_inv hm2)
    exact ⟨K.1, fun cells slots h1 h2 h3 h4 => g_iinc C hdec hx hz.2 (K.2 cells slots (by rw [List.length_set]; exact h1) h2 h3 h4)⟩
  · rename_i off
    simp only [mlen] at hlen
    subst hlen
    obtain ⟨hz, hm1⟩ := gd_inv hm
    have K := hgo _ _ _ _ (aGo_inv hm1)
    exact ⟨K.1, fun cells slots h1 h2 h3 h4 => g_goto C hdec hz (K.2 cells slots h1 h2 h3 h4)⟩
  · rename_i cc off
    simp only [mlen] at hlen
    subst hlen
    obtain ⟨x, _, rfl, hm1⟩ := s1I_inv hm
    obtain ⟨hz, hm2⟩ := gd_inv hm1
    cases cc
    · simp only [tst, decide_eq_true_eq] at hm2
      split at hm2
      · rename_i hcd
        have K := hgo _ _ _ _ (aGo_inv hm2)
        exact ⟨K.1, fun cells slots h1 h2 h3 h4 => g_if_eq C hdec hz (fun _ => K.2 cells slots h1 h2 h3 h4) (fun hn => absurd hcd hn)⟩
      · rename_i hcd
        have K := hgo _ _ _ _ (aGo_inv hm2)
        exact ⟨K.1, fun cells slots h1 h2 h3 h4 => g_if_eq C hdec hz (fun hp => absurd hp hcd) (fun _ => K.2 cells slots h1 h2 h3 h4)⟩
    · simp only [tst, decide_eq_true_eq] at hm2
      split at hm2
      · rename_i hcd
        have K := hgo _ _ _ _ (aGo_inv hm2)
        exact ⟨K.1, fun cells slots h1 h2 h3 h4 => g_if_ne C hdec hz (fun _ => K.2 cells slots h1 h2 h3 h4) (fun hn => absurd hcd hn)⟩
      · rename_i hcd
        have K := hgo _ _ _ _ (aGo_inv hm2)
        exact ⟨K.1, fun cells slots h1 h2 h3 h4 => g_if_ne C hdec hz (fun hp => absurd hp hcd) (fun _ => K.2 cells slots h1 h2 h3 h4)⟩
    · simp only [tst, decide_eq_true_eq] at hm2
      split at hm2
      · rename_i hcd
        have K := hgo _ _ _ _ (aGo_inv hm2)
        exact ⟨K.1, fun cells slots h1 h2 h3 h4 => g_if_lt C hdec hz (fun _ => K.2 cells slots h1 h2 h3 h4) (fun hn => absurd hcd hn)⟩
      · rename_i hcd
        have K := hgo _ _ _ _ (aGo_inv hm2)
        exact ⟨K.1, fun cells slots h1 h2 h3 h4 => g_if_lt C hdec hz (fun hp => absurd hp hcd) (fun _ => K.2 cells slots h1 h2 h3 h4)⟩
    · simp only [tst, decide_eq_true_eq] at hm2
      split at hm2
      · rename_i hcd
        have K := hgo _ _ _ _ (aGo_inv hm2)
        exact ⟨K.1, fun cells slots h1 h2 h3 h4 => g_if_ge C hdec hz (fun _ => K.2 cells slots h1 h2 h3 h4) (fun hn => absurd hcd hn)⟩
      · rename_i hcd
        have K := hgo _ _ _ _ (aGo_inv hm2)
        exact ⟨K.1, fun cells slots h1 h2 h3 h4 => g_if_ge C hdec hz (fun hp => absurd hp hcd) (fun _ => K.2 cells slots h1 h2 h3 h4)⟩
    · simp only [tst, decide_eq_true_eq] at hm2
      split at hm2
      · rename_i hcd
        have K := hgo _ _ _ _ (aGo_inv hm2)
        exact ⟨K.1, fun cells slots h1 h2 h3 h4 => g_if_gt C hdec hz (fun _ => K.2 cells slots h1 h2 h3 h4) (fun hn => absurd hcd hn)⟩
      · rename_i hcd
        have K := hgo _ _ _ _ (aGo_inv hm2)
        exact ⟨K.1, fun cells slots h1 h2 h3 h4 => g_if_gt C hdec hz (fun hp => absurd hp hcd) (fun _ => K.2 cells slots h1 h2 h3 h4)⟩
    · simp only [tst, decide_eq_true_eq] at hm2
      split at hm2
      · rename_i hcd
        have K := hgo _ _ _ _ (aGo_inv hm2)
        exact ⟨K.1, fun cells slots h1 h2 h3 h4 => g_if_le C hdec hz (fun _ => K.2 cells slots h1 h2 h3 h4) (fun hn => absurd hcd hn)⟩
      · rename_i hcd
        have K := hgo _ _ _ _ (aGo_inv hm2)
        exact ⟨K.1, fun cells slots h1 h2 h3 h4 => g_if_le C hdec hz (fun hp => absurd hp hcd) (fun _ => K.2 cells slots h1 h2 h3 h4)⟩
  · rename_i cc off
    simp only [mlen] at hlen
    subst hlen
    obtain ⟨x, y, _, rfl, hm1⟩ := s2I_inv hm
    obtain ⟨hz, hm2⟩ := gd_inv hm1
    cases cc
    · simp only [tst, decide_eq_true_eq] at hm2
      split at hm2
      · rename_i hcd
        have K := hgo _ _ _ _ (aGo_inv hm2)
        exact ⟨K.1, fun cells slots h1 h2 h3 h4 => g_icmp_eq C hdec hz (fun _ => K.2 cells slots h1 h2 h3 h4) (fun hn => absurd hcd hn)⟩
      · rename_i hcd
        have K := hgo _ _ _ _ (aGo_inv hm2)
        exact ⟨K.1, fun cells slots h1 h2 h3 h4 => g_icmp_eq C hdec hz (fun hp => absurd hp hcd) (fun _ => K.2 cells slots h1 h2 h3 h4)⟩
    · simp only [tst, decide_eq_true_eq] at hm2
      split at hm2
      · rename_i hcd
        have K := hgo _ _ _ _ (aGo_inv hm2)
        exact ⟨K.1, fun cells slots h1 h2 h3 h4 => g_icmp_ne C hdec hz (fun _ => K.2 cells slots h1 h2 h3 h4) (fun hn => absurd hcd hn)⟩
      · rename_i hcd
        have K := hgo _ _ _ _ (aGo_inv hm2)
        exact ⟨K.1, fun cells slots h1 h2 h3 h4 => g_icmp_ne C hdec hz (fun hp => absurd hp hcd) (fun _ => K.2 cells slots h1 h2 h3 h4)⟩
    · simp only [tst, decide_eq_true_eq] at hm2
      split at hm2
      · rename_i hcd
        have K := hgo _ _ _ _ (aGo_inv hm2)
        exact ⟨K.1, fun cells slots h1 h2 h3 h4 => g_icmp_lt C hdec hz (fun _ => K.2 cells slots h1 h2 h3 h4) (fun hn => absurd hcd hn)⟩
      · rename_i hcd
        have K := hgo _ _ _ _ (aGo_inv hm2)
        exact ⟨K.1, fun cells slots h1 h2 h3 h4 => g_icmp_lt C hdec hz (fun hp => absurd hp hcd) (fun _ => K.2 cells slots h1 h2 h3 h4)⟩
    · simp only [tst, decide_eq_true_eq] at hm2
      split at hm2
      · rename_i hcd
        have K := hgo _ _ _ _ (aGo_inv hm2)
        exact ⟨K.1, fun cells slots h1 h2 h3 h4 => g_icmp_ge C hdec hz (fun _ => K.2 cells slots h1 h2 h3 h4) (fun hn => absurd hcd hn)⟩
      · rename_i hcd
        have K := hgo _ _ _ _ (aGo_inv hm2)
        exact ⟨K.1, fun cells slots h1 h2 h3 h4 => g_icmp_ge C hdec hz (fun hp => absurd hp hcd) (fun _ => K.2 cells slots h1 h2 h3 h4)⟩
    · simp only [tst, decide_eq_true_eq] at hm2
      split at hm2
      · rename_i hcd
        have K := hgo _ _ _ _ (aGo_inv hm2)
        exact ⟨K.1, fun cells slots h1 h2 h3 h4 => g_icmp_gt C hdec hz (fun _ => K.2 cells slots h1 h2 h3 h4) (fun hn => absurd hcd hn)⟩
      · rename_i hcd
        have K := hgo _ _ _ _ (aGo_inv hm2)
        exact ⟨K.1, fun cells slots h1 h2 h3 h4 => g_icmp_gt C hdec hz (fun hp => absurd hp hcd) (fun _ => K.2 cells slots h1 h2 h3 h4)⟩
    · simp only [tst, decide_eq_true_eq] at hm2
      split at hm2
      · rename_i hcd
        have K := hgo _ _ _ _ (aGo_inv hm2)
        exact ⟨K.1, fun cells slots h1 h2 h3 h4 => g_icmp_le C hdec hz (fun _ => K.2 cells slots h1 h2 h3 h4) (fun hn => absurd hcd hn)⟩
      · rename_i hcd
        have K := hgo _ _ _ _ (aGo_inv hm2)
        exact ⟨K.1, fun cells slots h1 h2 h3 h4 => g_icmp_le C hdec hz (fun hp => absurd hp hcd) (fun _ => K.2 cells slots h1 h2 h3 h4)⟩
  · rename_i dflt lo hi offs
    obtain ⟨x, _, rfl, hm1⟩ := s1I_inv hm
    split at hm1
    · rename_i hx
      obtain ⟨hz, hm2⟩ := gd_inv hm1
      have K := hgo _ _ _ _ (aGo_inv hm2)
      exact ⟨K.1, fun cells slots h1 h2 h3 h4 => g_switchO C hdec hx hz (K.2 cells slots h1 h2 h3 h4)⟩
    · rename_i hx
      split at hm1
      · rename_i off hf
        obtain ⟨hz, hm3⟩ := gd_inv hm1
        have K := hgo _ _ _ _ (aGo_inv hm3)
        exact ⟨K.1, fun cells slots h1 h2 h3 h4 => g_switchI C hdec (fun q => hx (Or.inl q)) (fun q => hx (Or.inr q)) hf hz (K.2 cells slots h1 h2 h3 h4)⟩
      · cases hm1
  · rename_i j
    simp only [mlen] at hlen
    subst hlen
    obtain ⟨a, _, rfl, hm1⟩ := s1R_inv hm
    split at hm1
    · obtain ⟨hk, hm2⟩ := gd_inv hm1
      have K := hgo _ _ _ _ (aGo_inv hm2)
      simp only [okR, Bool.and_eq_true, decide_eq_true_eq] at hok
      obtain ⟨Cn, T, N, e1, e2, e3, -⟩ := okF_inv hok.1
      exact ⟨K.1, fun cells slots h1 h2 h3 h4 => g_getf C hdec hk e1 e2 e3 hok.2 (K.2 cells slots h1 h2 h3 h4)⟩
    · obtain ⟨hk, hm3⟩ := gd_inv hm1
      split at hm3
      · rename_i hb
        have K := hgo _ _ _ _ (aGo_inv hm3)
        simp only [okR, Bool.and_eq_true, decide_eq_true_eq] at hok
        obtain ⟨Cn, T, N, e1, e2, e3, -⟩ := okF_inv hok.1
        exact ⟨K.1, fun cells slots h1 h2 h3 h4 => g_getr C hdec hk e1 e2 e3 hok.2 hb (K.2 cells slots h1 h2 h3 h4)⟩
      · cases hm3
    · cases hm1
  · rename_i j
    simp only [mlen] at hlen
    subst hlen
    split at hm
    · obtain ⟨v, _, rfl, hm1⟩ := s1I_inv hm
      obtain ⟨a, _, rfl, hm2⟩ := s1R_inv hm1
      obtain ⟨hk, hm3⟩ := gd_inv hm2
      have K := hgo _ _ _ _ (aGo_inv hm3)
      simp only [okR, Bool.and_eq_true, decide_eq_true_eq, Bool.not_eq_true'] at hok
      obtain ⟨Cn, T, N, e1, e2, e3, e4, -⟩ := okF_inv hok.1.1
      exact ⟨K.1, fun cells slots h1 h2 h3 h4 => g_putf C hdec hk e1 e2 e3 hok.1.2 (by rw [← e4]; exact hok.2) (K.2 cells slots h1 h2 h3 h4)⟩
    · obtain ⟨v, _, rfl, hm4⟩ := s1I_inv hm
      obtain ⟨a, _, rfl, hm5⟩ := s1R_inv hm4
      obtain ⟨hk, hm6⟩ := gd_inv hm5
      have K := hgo _ _ _ _ (aGo_inv hm6)
      simp only [okR, Bool.and_eq_true, decide_eq_true_eq, Bool.not_eq_true'] at hok
      obtain ⟨Cn, T, N, e1, e2, e3, e4, -⟩ := okF_inv hok.1.1
      exact ⟨K.1, fun cells slots h1 h2 h3 h4 => g_putz C hdec hk.1 e1 e2 e3 hok.1.2 (by rw [← e4]; exact hok.2) hk.2 (K.2 cells slots h1 h2 h3 h4)⟩
    · obtain ⟨v, _, rfl, hm7⟩ := s1R_inv hm
      obtain ⟨a, _, rfl, hm8⟩ := s1R_inv hm7
      obtain ⟨hk, hm9⟩ := gd_inv hm8
      have K := hgo _ _ _ _ (aGo_inv hm9)
      simp only [okR, Bool.and_eq_true, decide_eq_true_eq] at hok
      obtain ⟨Cn, T, N, e1, e2, e3, e4, e5⟩ := okF_inv hok.1.1.1.1
      exact ⟨K.1, fun cells slots h1 h2 h3 h4 => g_putr C hdec hk e1 e2 e3 hok.1.1.1.2 (by rw [← e4]; exact hok.1.1.2) (by rw [← e5]; exact hok.1.2) hok.2 (K.2 cells slots h1 h2 h3 h4)⟩
    · cases hm
  · simp only [mlen] at hlen
    subst hlen
    obtain ⟨j, _, rfl, hm1⟩ := s1I_inv hm
    obtain ⟨a, _, rfl, hm2⟩ := s1R_inv hm1
    split at hm2
    · obtain ⟨hk, hm3⟩ := gd_inv hm2
      have K := hgo _ _ _ _ (aGo_inv hm3)
      exact ⟨K.1, fun cells slots h1 h2 h3 h4 => g_iald C hdec hk (K.2 cells slots h1 h2 h3 h4)⟩
    · rename_i hu
      obtain ⟨hk, hm4⟩ := gd_inv hm2
      have K := hgo _ _ _ _ (aGo_inv hm4)
      obtain ⟨⟨xs, x1, x2, x3, x5⟩, x4⟩ := hscr
      refine ⟨K.1, fun cells slots h1 h2 h3 h4 => ?_⟩
      intro α ls stk H locs ha hl hs hw hS
      obtain ⟨j1, _, rfl, rfl, hs1⟩ := hs.cI
      obtain ⟨_, rfl, hr, hs2⟩ := hs1.cR
      obtain ⟨hk1, hk2⟩ := hk
      subst hk1
      rw [ha 0 x4]
      exact va_sld C.1 C.2.1 x1 x2 x3 hS (vp_in_of_int hk2) hdec (K.2 cells slots h1 h2 h3 h4 α ls _ H locs ha hl ⟨x5 _, hs2⟩ hw hS)
  · simp only [mlen] at hlen
    subst hlen
    obtain ⟨v, _, rfl, hm1⟩ := s1I_inv hm
    obtain ⟨j, _, rfl, hm2⟩ := s1I_inv hm1
    obtain ⟨a, _, rfl, hm3⟩ := s1R_inv hm2
    obtain ⟨hk, hm4⟩ := gd_inv hm3
    have K := hgo _ _ _ _ (aGo_inv hm4)
    exact ⟨K.1, fun cells slots h1 h2 h3 h4 => g_iast C hdec hk (K.2 cells slots h1 h2 h3 h4)⟩
  · simp only [mlen] at hlen
    subst hlen
    obtain ⟨j, _, rfl, hm1⟩ := s1I_inv hm
    obtain ⟨a, _, rfl, hm2⟩ := s1R_inv hm1
    obtain ⟨hk, hm3⟩ := gd_inv hm2
    have K := hgo _ _ _ _ (aGo_inv hm3)
    exact ⟨K.1, fun cells slots h1 h2 h3 h4 => g_cald C hdec hk (K.2 cells slots h1 h2 h3 h4)⟩
  · simp only [mlen] at hlen
    subst hlen
    obtain ⟨v, _, rfl, hm1⟩ := s1I_inv hm
    obtain ⟨j, _, rfl, hm2⟩ := s1I_inv hm1
    obtain ⟨a, _, rfl, hm3⟩ := s1R_inv hm2
    obtain ⟨hk, hm4⟩ := gd_inv hm3
    have K := hgo _ _ _ _ (aGo_inv hm4)
    exact ⟨K.1, fun cells slots h1 h2 h3 h4 => g_cast C hdec hk.1 hk.2 (K.2 cells slots h1 h2 h3 h4)⟩
  · simp only [mlen] at hlen
    subst hlen
    obtain ⟨j, _, rfl, hm1⟩ := s1I_inv hm
    obtain ⟨a, _, rfl, hm2⟩ := s1R_inv hm1
    obtain ⟨hk, hm3⟩ := gd_inv hm2
    split at hm3
    · rename_i b hb
      have K := hgo _ _ _ _ (aGo_inv hm3)
      exact ⟨K.1, fun cells slots h1 h2 h3 h4 => g_aald C hdec hk hb (K.2 cells slots h1 h2 h3 h4)⟩
    · cases hm3
  · simp only [mlen] at hlen
    subst hlen
    obtain ⟨v, _, rfl, hm1⟩ := s1R_inv hm
    obtain ⟨j, _, rfl, hm2⟩ := s1I_inv hm1
    obtain ⟨a, _, rfl, hm3⟩ := s1R_inv hm2
    obtain ⟨hk, hm4⟩ := gd_inv hm3
    have K := hgo _ _ _ _ (aGo_inv hm4)
    exact ⟨K.1, fun cells slots h1 h2 h3 h4 => g_aast C hdec hk.1 hk.2 (K.2 cells slots h1 h2 h3 h4)⟩
  · simp only [mlen] at hlen
    subst hlen
    obtain ⟨a, _, rfl, hm1⟩ := s1R_inv hm
    split at hm1
    · obtain ⟨hk, hm2⟩ := gd_inv hm1
      have K := hgo _ _ _ _ (aGo_inv hm2)
      exact ⟨K.1, fun cells slots h1 h2 h3 h4 => g_alen C hdec hk (K.2 cells slots h1 h2 h3 h4)⟩
    · rename_i hu
      obtain ⟨hk, hm3⟩ := gd_inv hm1
      have K := hgo _ _ _ _ (aGo_inv hm3)
      obtain ⟨⟨xs, x1, x2, x3, x5⟩, x4⟩ := hscr
      refine ⟨K.1, fun cells slots h1 h2 h3 h4 => ?_⟩
      intro α ls stk H locs ha hl hs hw hS
      obtain ⟨_, rfl, hr, hs2⟩ := hs.cR
      obtain ⟨hk1, hk2⟩ := hk
      subst hk1
      rw [ha 0 x4]
      exact va_slen C.1 C.2.1 x1 x2 x3 hS hdec (K.2 cells slots h1 h2 h3 h4 α ls _ H locs ha hl ⟨nI_toInt hk2, hs2⟩ hw hS)
  · rename_i t
    simp only [mlen] at hlen
    subst hlen
    obtain ⟨j, _, rfl, hm1⟩ := s1I_inv hm
    obtain ⟨hj, hm2⟩ := gd_inv hm1
    split at hm2
    · have K := hgo _ _ _ _ (aGo_inv hm2)
      have K1 : nx w + 1 ≤ nx r.2 := K.1.1
      have K2 : sl w + j.toNat ≤ sl r.2 := K.1.2
      simp only [okR] at hok
      split at hok
      · exact ⟨⟨by omega, by omega⟩, fun cells slots h1 h2 h3 h4 => g_newi C hdec (wk_mem hok) ⟨by omega, by omega⟩ h4 hj (K.2 _ _ h1 (by show cells + 1 + _ = _ + (nx w + 1); omega) (by show slots + j.toNat + _ = _ + (sl w + j.toNat); omega) (Nat.le_succ_of_le h4))⟩
      · cases hok
    · have K := hgo _ _ _ _ (aGo_inv hm2)
      have K1 : nx w + 1 ≤ nx r.2 := K.1.1
      have K2 : sl w + j.toNat ≤ sl r.2 := K.1.2
      simp only [okR] at hok
      split at hok
      · exact ⟨⟨by omega, by omega⟩, fun cells slots h1 h2 h3 h4 => g_newc C hdec (wk_mem hok) ⟨by omega, by omega⟩ h4 hj (K.2 _ _ h1 (by show cells + 1 + _ = _ + (nx w + 1); omega) (by show slots + j.toNat + _ = _ + (sl w + j.toNat); omega) (Nat.le_succ_of_le h4))⟩
      · cases hok
    · cases hm2
  · rename_i i0
    simp only [mlen] at hlen
    subst hlen
    obtain ⟨j, _, rfl, hm1⟩ := s1I_inv hm
    obtain ⟨hj, hm2⟩ := gd_inv hm1
    have K := hgo _ _ _ _ (aGo_inv hm2)
    have K1 : nx w + 1 ≤ nx r.2 := K.1.1
    have K2 : sl w + j.toNat ≤ sl r.2 := K.1.2
    simp only [okR] at hok
    split at hok
    · exact ⟨⟨by omega, by omega⟩, fun cells slots h1 h2 h3 h4 => g_newq C hdec (wk_mem hok) ⟨by omega, by omega⟩ h4 hj (K.2 _ _ h1 (by show cells + 1 + _ = _ + (nx w + 1); omega) (by show slots + j.toNat + _ = _ + (sl w + j.toNat); omega) (Nat.le_succ_of_le h4))⟩
    · cases hok
  · rename_i i0
    simp only [mlen] at hlen
    subst hlen
    split at hm
    · rename_i ci nf us
      have K := hgo _ _ _ _ (aGo_inv hm)
      have K1 : nx w + 1 ≤ nx r.2 := K.1.1
      have K2 : sl w + nf ≤ sl r.2 := K.1.2
      simp only [okR] at hok
      split at hok
      · rename_i ci2 nf2 p1 p2 p3 hu
        cases hu
        split at hok
        · rename_i Cn T N hcl
          simp only [Bool.and_eq_true, decide_eq_true_eq] at hok
          obtain ⟨⟨⟨e1, e2⟩, e3⟩, e4⟩ := hok
          subst e1
          exact ⟨⟨by omega, by omega⟩, fun cells slots h1 h2 h3 h4 => g_new C hdec hcl (wk_mem e2) (wk_mem e3) (wk_mem e4) ⟨by omega, by omega⟩ h4 (K.2 _ _ h1 (by show cells + 1 + _ = _ + (nx w + 1); omega) (by show slots + _ + _ = _ + (sl w + _); omega) (Nat.le_succ_of_le h4))⟩
        · cases hok
      · cases hok
    · cases hm
  · rename_i j
    simp only [mlen] at hlen
    subst hlen
    split at hm
    · obtain ⟨a, _, rfl, hm1⟩ := s1R_inv hm
      obtain ⟨h8, hm2⟩ := gd_inv hm1
      have K := hgo _ _ _ _ (aGo_inv hm2)
      simp only [okR] at hok
      split at hok
      · rename_i hu
        cases hu
        simp only [Bool.and_eq_true] at hok
        exact ⟨K.1, fun cells slots h1 h2 h3 h4 => g_objinit C hdec h1 h8 (wk_mem hok.1.1) (wk_mem hok.1.2) (wk_mem hok.2) (K.2 cells slots h1 h2 h3 h4)⟩
      · rename_i hu
        cases hu
      · rename_i hu
        cases hu
      · cases hok
    · obtain ⟨b, as, s2, rfl, hln, h8, hkb, rfl⟩ := mcallV_inv hm
      simp only [okR] at hok
      split at hok
      · rename_i hu
        cases hu
      · rename_i hu
        cases hu
        simp only [Bool.and_eq_true, decide_eq_true_eq] at hok
        obtain ⟨⟨⟨⟨⟨hk1, hn⟩, hlk⟩, hin⟩, hnm⟩, hrt⟩ := hok
        obtain ⟨d1, r1, st2, rfl, hM, hp, K⟩ := hcall
        obtain ⟨hgr, hM⟩ := hM hk1.1
        have hK := K.1
        have hc := calleeOk (decide_eq_true_eq.mpr hk1)
        refine ⟨⟨by omega, by omega⟩, fun cells slots h1 h2 h3 h4 => ?_⟩
        intro α ls stk H locs ha hl hs hw hS
        obtain ⟨q0, rr, rfl, hs1, hs2⟩ := SR.app hs
        have hs3 := hs1.rev
        rw [List.reverse_append, List.reverse_reverse, List.reverse_singleton, List.singleton_append] at hs3
        obtain ⟨As, eA, hbn, hs4⟩ := hs3.cR
        have eq0 : q0 = As.reverse ++ [.ref (α b)] := by
          have := congrArg List.reverse eA
          rw [List.reverse_reverse, List.reverse_cons] at this
          exact this
        subst eq0
        have hrun := run_init (e := e) (below := below) (α := α) (r := rr) (st := s2) (cells := cells) (slots := slots) (As := As) C hdec hM (by first | (simp only [List.length_cons]; omega) | omega) hc (wk_mem hlk) (wk_mem hin) hnm hrt (by omega) h1 h8 ⟨by omega, by omega⟩ hl ⟨⟨rfl, hbn⟩, hs4⟩ hs2 hw hS hscr.1 (ha 0 hscr.2)
        rw [List.append_assoc, List.singleton_append]
        exact g_back hrun hp h4 hgr.1 ha hl hs2 hS (K.2 _ _ h1 (by omega) (by omega) (by omega))
      · rename_i hu
        cases hu
      · cases hok
    · obtain ⟨b, as, s2, rfl, hln, h8, hkb, rfl⟩ := mcallV_inv hm
      simp only [okR] at hok
      split at hok
      · rename_i hu
        cases hu
      · rename_i hu
        cases hu
      · rename_i hu
        cases hu
        simp only [Bool.and_eq_true, decide_eq_true_eq] at hok
        obtain ⟨⟨⟨⟨⟨hk1, hn⟩, hlk⟩, hin⟩, hnm⟩, hrt⟩ := hok
        obtain ⟨d1, r1, st2, rfl, hM, hp, K⟩ := hcall
        obtain ⟨hgr, hM⟩ := hM hk1.1
        have hK := K.1
        have hc := calleeOk (decide_eq_true_eq.mpr hk1)
        have hlk := C.2.2.2.2.2.1.at _ _ hlk
        refine ⟨⟨by omega, by omega⟩, fun cells slots h1 h2 h3 h4 => ?_⟩
        intro α ls stk H locs ha hl hs hw hS
        obtain ⟨q0, rr, rfl, hs1, hs2⟩ := SR.app hs
        have hs3 := hs1.rev
        rw [List.reverse_append, List.reverse_reverse, List.reverse_singleton, List.singleton_append] at hs3
        obtain ⟨As, eA, hbn, hs4⟩ := hs3.cR
        have eq0 : q0 = As.reverse ++ [.ref (α b)] := by
          have := congrArg List.reverse eA
          rw [List.reverse_reverse, List.reverse_cons] at this
          exact this
        subst eq0
        have hrun := run_initN (e := e) (below := below) (α := α) (r := rr) (st := s2) (cells := cells) (slots := slots) (As := As) C hdec hM (by first | (simp only [List.length_cons]; omega) | omega) hc hlk (wk_mem hin) hnm hrt (by omega) h1 h8 ⟨by omega, by omega⟩ hl ⟨⟨rfl, hbn⟩, hs4⟩ hs2 hw hS hscr.1 (ha 0 hscr.2)
        rw [List.append_assoc, List.singleton_append]
        exact g_back hrun hp h4 hgr.1 ha hl hs2 hS (K.2 _ _ h1 (by omega) (by omega) (by omega))
      · cases hok
    · cases hm
  · rename_i j
    simp only [mlen] at hlen
    subst hlen
    split at hm
    · obtain ⟨b, as, s2, rfl, hln, h8, hkb, rfl⟩ := mcallV_inv hm
      simp only [okR] at hok
      split at hok
      · rename_i hu
        cases hu
        simp only [Bool.and_eq_true, decide_eq_true_eq] at hok
        obtain ⟨⟨⟨⟨⟨⟨hk1, hn⟩, hci⟩, hcn⟩, hlk⟩, hin⟩, hse⟩ := hok
        obtain ⟨d1, r1, st2, rfl, hM, hp, K⟩ := hcall
        obtain ⟨hgr, hM⟩ := hM hk1.1
        have hK := K.1
        have hc := calleeOk (decide_eq_true_eq.mpr hk1)
        obtain ⟨Cn, T, N, hcl, hcn2⟩ := clsN_inv hci
        refine ⟨⟨by omega, by omega⟩, fun cells slots h1 h2 h3 h4 => ?_⟩
        intro α ls stk H locs ha hl hs hw hS
        obtain ⟨q0, rr, rfl, hs1, hs2⟩ := SR.app hs
        have hs3 := hs1.rev
        rw [List.reverse_append, List.reverse_reverse, List.reverse_singleton, List.singleton_append] at hs3
        obtain ⟨As, eA, hbn, hs4⟩ := hs3.cR
        have eq0 : q0 = As.reverse ++ [.ref (α b)] := by
          have := congrArg List.reverse eA
          rw [List.reverse_reverse, List.reverse_cons] at this
          exact this
        subst eq0
        have hrun := run_virt (e := e) (below := below) (α := α) (r := rr) (st := s2) (cells := cells) (slots := slots) (As := As) C hdec hM (by first | (simp only [List.length_cons]; omega) | omega) hc (wk_mem hlk) (wk_mem hin) (wk_mem hse) hcl (hcn2.symm.trans hcn) hkb (by omega) h1 h8 ⟨by omega, by omega⟩ hl ⟨⟨rfl, hbn⟩, hs4⟩ hs2 hw hS hscr.1 (ha 0 hscr.2)
        rw [List.append_assoc, List.singleton_append]
        exact g_back hrun hp h4 hgr.1 ha hl hs2 hS (K.2 _ _ h1 (by omega) (by omega) (by omega))
      · cases hok
    · cases hm
  · rename_i j
    simp only [mlen] at hlen
    subst hlen
    split at hm
    · obtain ⟨as, s2, rfl, hln, h8, rfl⟩ := mcallS_inv hm
      simp only [okR] at hok
      split at hok
      · rename_i hu
        cases hu
        simp only [Bool.and_eq_true, decide_eq_true_eq] at hok
        obtain ⟨⟨⟨hk1, hn⟩, hlk⟩, hin⟩ := hok
        obtain ⟨d1, r1, st2, rfl, hM, hp, K⟩ := hcall
        obtain ⟨hgr, hM⟩ := hM hk1.1
        have hK := K.1
        have hc := calleeOk (decide_eq_true_eq.mpr hk1)
        refine ⟨⟨by omega, by omega⟩, fun cells slots h1 h2 h3 h4 => ?_⟩
        intro α ls stk H locs ha hl hs hw hS
        obtain ⟨q0, rr, rfl, hs1, hs2⟩ := SR.app hs
        have hs3 := hs1.rev
        rw [List.reverse_reverse] at hs3
        have hrun := run_stat (e := e) (below := below) (α := α) (r := rr) (st := s2) (cells := cells) (slots := slots) (As := q0.reverse) C hdec hM (by first | (simp only [List.length_cons]; omega) | omega) hc (wk_mem hlk) (wk_mem hin) (by omega) h1 h8 ⟨by omega, by omega⟩ hl hs3 hs2 hw hS hscr.1 (ha 0 hscr.2)
        rw [List.reverse_reverse] at hrun
        exact g_back hrun hp h4 hgr.1 ha hl hs2 hS (K.2 _ _ h1 (by omega) (by omega) (by omega))
      · rename_i hu
        cases hu
      · rename_i hu
        cases hu
      · rename_i hu
        cases hu
      · rename_i hu
        cases hu
      · cases hok
    · obtain ⟨x, y, _, rfl, hm1⟩ := s2I_inv hm
      obtain ⟨h8, hm2⟩ := gd_inv hm1
      have K := hgo _ _ _ _ (aGo_inv hm2)
      simp only [okR] at hok
      split at hok
      · rename_i hu
        cases hu
      · rename_i hu
        cases hu
      · rename_i hu
        cases hu
        simp only [Bool.and_eq_true] at hok
        exact ⟨K.1, fun cells slots h1 h2 h3 h4 => g_max C hdec h1 h8 ⟨by have := K.1.1; omega, by have := K.1.2; omega⟩ (wk_mem hok.1.1.1) (wk_mem hok.1.1.2) (wk_mem hok.1.2) (wk_mem hok.2) (K.2 cells slots h1 h2 h3 h4)⟩
      · rename_i hu
        cases hu
      · rename_i hu
        cases hu
      · cases hok
    · obtain ⟨x, y, _, rfl, hm3⟩ := s2I_inv hm
      obtain ⟨h8, hm4⟩ := gd_inv hm3
      have K := hgo _ _ _ _ (aGo_inv hm4)
      simp only [okR] at hok
      split at hok
      · rename_i hu
        cases hu
      · rename_i hu
        cases hu
      · rename_i hu
        cases hu
      · rename_i hu
        cases hu
        simp only [Bool.and_eq_true] at hok
        exact ⟨K.1, fun cells slots h1 h2 h3 h4 => g_min C hdec h1 h8 ⟨by have := K.1.1; omega, by have := K.1.2; omega⟩ (wk_mem hok.1.1.1) (wk_mem hok.1.1.2) (wk_mem hok.1.2) (wk_mem hok.2) (K.2 cells slots h1 h2 h3 h4)⟩
      · rename_i hu
        cases hu
      · cases hok
    · obtain ⟨as, s2, rfl, hln, h8, rfl⟩ := mcallS_inv hm
      simp only [okR] at hok
      split at hok
      · rename_i hu
        cases hu
      · rename_i hu
        cases hu
        simp only [Bool.and_eq_true, decide_eq_true_eq] at hok
        obtain ⟨⟨⟨hk1, hn⟩, hlk⟩, hin⟩ := hok
        obtain ⟨d1, r1, st2, rfl, hM, hp, K⟩ := hcall
        obtain ⟨hgr, hM⟩ := hM hk1.1
        have hK := K.1
        have hc := calleeOk (decide_eq_true_eq.mpr hk1)
        have hlk := C.2.2.2.2.2.1.at _ _ hlk
        refine ⟨⟨by omega, by omega⟩, fun cells slots h1 h2 h3 h4 => ?_⟩
        intro α ls stk H locs ha hl hs hw hS
        obtain ⟨q0, rr, rfl, hs1, hs2⟩ := SR.app hs
        have hs3 := hs1.rev
        rw [List.reverse_reverse] at hs3
        have hrun := run_statN (e := e) (below := below) (α := α) (r := rr) (st := s2) (cells := cells) (slots := slots) (As := q0.reverse) C hdec hM (by first | (simp only [List.length_cons]; omega) | omega) hc hlk (wk_mem hin) (by omega) h1 h8 ⟨by omega, by omega⟩ hl hs3 hs2 hw hS hscr.1 (ha 0 hscr.2)
        rw [List.reverse_reverse] at hrun
        exact g_back hrun hp h4 hgr.1 ha hl hs2 hS (K.2 _ _ h1 (by omega) (by omega) (by omega))
      · rename_i hu
        cases hu
      · rename_i hu
        cases hu
      · rename_i hu
        cases hu
      · cases hok
    · obtain ⟨tp, j1, _, rfl, hm5⟩ := s2I_inv hm
      obtain ⟨t, _, rfl, hm6⟩ := s1R_inv hm5
      obtain ⟨sp, _, rfl, hm7⟩ := s1I_inv hm6
      obtain ⟨s1, _, rfl, hm8⟩ := s1R_inv hm7
      obtain ⟨hk, hm9⟩ := gd_inv hm8
      have K := hgo _ _ _ _ (aGo_inv hm9)
      simp only [okR] at hok
      split at hok
      · rename_i hu
        cases hu
      · rename_i hu
        cases hu
      · rename_i hu
        cases hu
      · rename_i hu
        cases hu
      · rename_i hu
        cases hu
        simp only [Bool.and_eq_true] at hok
        exact ⟨K.1, fun cells slots h1 h2 h3 h4 => g_copy C hdec h1 hk.1 (wk_mem hok.1.1.1) (wk_mem hok.1.1.2) (wk_mem hok.1.2) (wk_mem hok.2) hk.2 (K.2 cells slots h1 h2 h3 h4)⟩
      · cases hok
    · cases hm
  · simp only [mlen] at hlen
    subst hlen
    split at hm
    · obtain ⟨x, q9, rfl, hm1⟩ := s1I_inv hm
      obtain ⟨hq, hm2⟩ := gd_inv hm1
      subst hq
      have er := hret _ _ (aRet_inv hm2)
      subst er
      simp only [okR] at hok
      split at hok
      · simp only [decide_eq_true_eq] at hok
        refine ⟨⟨Nat.le_refl _, Nat.le_refl _⟩, fun cells slots h1 h2 h3 h4 => ?_⟩
        intro α ls stk H locs ha hl hs hw hS
        have ec : cells = mc := by dsimp only at h2; omega
        have es : slots = ms := by dsimp only at h3; omega
        subst ec; subst es
        obtain ⟨x1, q1, rfl, hx, hs1⟩ := hs.cI
        have := hs1.nil
        subst this
        exact hend α pc ls _ H locs ha ⟨x1, hdec, rfl, hx, Or.inl hok⟩ hw hS
      · rename_i hu
        cases hu
      · cases hok
    · obtain ⟨x, q9, rfl, hm3⟩ := s1I_inv hm
      obtain ⟨hq, hm4⟩ := gd_inv hm3
      obtain ⟨hq, hz⟩ := hq
      subst hq
      have er := hret _ _ (aRet_inv hm4)
      subst er
      simp only [okR] at hok
      split at hok
      · rename_i hu
        cases hu
      · simp only [decide_eq_true_eq] at hok
        refine ⟨⟨Nat.le_refl _, Nat.le_refl _⟩, fun cells slots h1 h2 h3 h4 => ?_⟩
        intro α ls stk H locs ha hl hs hw hS
        have ec : cells = mc := by dsimp only at h2; omega
        have es : slots = ms := by dsimp only at h3; omega
        subst ec; subst es
        obtain ⟨x1, q1, rfl, hx, hs1⟩ := hs.cI
        have := hs1.nil
        subst this
        exact hend α pc ls _ H locs ha ⟨x1, hdec, rfl, hx, Or.inr ⟨hok, hz⟩⟩ hw hS
      · cases hok
    · cases hm
  · simp only [mlen] at hlen
    subst hlen
    obtain ⟨x, q9, rfl, hm1⟩ := s1R_inv hm
    obtain ⟨hq, hm2⟩ := gd_inv hm1
    subst hq
    have er := hret _ _ (aRet_inv hm2)
    subst er
    simp only [okR, decide_eq_true_eq] at hok
    refine ⟨⟨Nat.le_refl _, Nat.le_refl _⟩, fun cells slots h1 h2 h3 h4 => ?_⟩
    intro α ls stk H locs ha hl hs hw hS
    have ec : cells = mc := by dsimp only at h2; omega
    have es : slots = ms := by dsimp only at h3; omega
    subst ec; subst es
    obtain ⟨q1, rfl, hx, hs1⟩ := hs.cR
    have := hs1.nil
    subst this
    exact hend α pc ls _ H locs ha ⟨hdec, rfl, hx, hok⟩ hw hS
  · simp only [mlen] at hlen
    subst hlen
    obtain ⟨hq, hm1⟩ := gd_inv hm
    subst hq
    have er := hret _ _ (aRet_inv hm1)
    subst er
    simp only [okR, decide_eq_true_eq] at hok
    refine ⟨⟨Nat.le_refl _, Nat.le_refl _⟩, fun cells slots h1 h2 h3 h4 => ?_⟩
    intro α ls stk H locs ha hl hs hw hS
    have ec : cells = mc := by dsimp only at h2; omega
    have es : slots = ms := by dsimp only at h3; omega
    subst ec; subst es
    have := hs.nil
    subst this
    exact hend α pc ls _ H locs ha ⟨hdec, rfl, hok⟩ hw hS
  · cases hm
end SM
