/-! each instruction of the code tables is what the bytes and the tables' words say -/
def mlen (i : Instr) (n : Nat) : Nat := match i with
  | .bipush _ | .ldc _ | .iload _ | .aload _ | .istore _ | .astore _ | .newarray _ => 2
  | .sipush _ | .iinc _ _ | .goto _ | .ifCond _ _ | .if_icmp _ _ | .getfield _ | .putfield _ | .anewarray _ | .new _ | .invokespecial _ | .invokevirtual _ | .invokestatic _ => 3
  | .tableswitch _ _ _ _ => n
  | _ => 1
def okF (k j ci f pl : Nat) : Bool := match vwCl[ci]? with
  | some (_, T, N) => decide (f < N) && wk pl (.fieldLink (mOwn k) j (T f).1 (T f).2.1 (T f).2.2.1)
  | none => false
def fldB (ci f : Nat) : Bool := match vwCl[ci]? with
  | some (_, T, _) => (T f).2.2.2
  | none => false
def fldO (ci f : Nat) : String := match vwCl[ci]? with
  | some (_, T, _) => (T f).1
  | none => ""
def clsN (ci : Nat) : String := match vwCl[ci]? with
  | some (C, _, _) => C
  | none => ""
def rk (k : Nat) : Nat := match mRet k with
  | none => 0
  | some .int => 1
  | some .boolean => 1
  | _ => 2
def okR (k : Nat) (i : Instr) (u : List Nat) : Bool := match i with
  | .getfield j => (match u with
    | [ci, f, 0, pl] => okF k j ci f pl && decide (skd ci f ≠ 1)
    | [ci, f, 1, pl] => okF k j ci f pl && decide (skd ci f = 1)
    | _ => true)
  | .putfield j => (match u with
    | [ci, f, 0, pl] => okF k j ci f pl && decide (skd ci f = 0) && !fldB ci f
    | [ci, f, 2, pl] => okF k j ci f pl && decide (skd ci f = 2) && !fldB ci f
    | [ci, f, 1, pl] => okF k j ci f pl && decide (skd ci f = 1) && fldB ci f && decide (fldO ci f = mOwn k) && decide ((mY k).name = "<init>")
    | _ => true)
  | .ldc j => (match u with
    | [v, p] => wk p (.constant (mOwn k) j (Int32.ofNat v))
    | _ => false)
  | .newarray t => (match u with
    | [pl] => wk pl (.arrayClass (newarray.typeOf t))
    | _ => false)
  | .anewarray j => (match u with
    | pl :: _ => wk pl (.classLink (mOwn k) j RX3)
    | _ => false)
  | .new j => (match u with
    | [ci, nf, p1, p2, p3] => (match vwCl[ci]? with
      | some (C, _, N) => decide (nf = N) && wk p1 (.classLink (mOwn k) j C) && wk p2 (.instantiable C N) && wk p3 (.initialized C)
      | none => false)
    | _ => false)
  | .invokespecial j => (match u with
    | [0, p1, p2, p3] => wk p1 (.methodLink (mOwn k) j Lib.objectInit) && wk p2 (.instanceMethod Lib.objectInit) && wk p3 (.code Lib.objectInit ⟨#[0xb1]⟩ 1 none)
    | [1, k1, n, _, p1, p2, _, _] => decide (1 ≤ k1 ∧ k1 ∈ cks) && decide (n = nps k1 + 1 ∧ n ≤ mL k1) && wk p1 (.methodLink (mOwn k) j (mY k1)) && wk p2 (.instanceMethod (mY k1)) && decide ((mY k1).name = "<init>") && decide (mRet k1 = none)
    | [2, k1, n, _, p1, p2, _, _] => decide (1 ≤ k1 ∧ k1 ∈ cks) && decide (n = nps k1 + 1 ∧ n ≤ mL k1) && decide (nests[p1]? = some (.methodLinkNest (mOwn k) j (mY k1) RX6)) && wk p2 (.instanceMethod (mY k1)) && decide ((mY k1).name = "<init>") && decide (mRet k1 = none)
    | _ => false)
  | .invokevirtual j => (match u with
    | [_, k1, n, ci, p1, p2, p3, _, _] => decide (1 ≤ k1 ∧ k1 ∈ cks) && decide (n = nps k1 + 1 ∧ n ≤ mL k1) && decide (ci < 7) && decide (clsN ci = (mY k1).cls) && wk p1 (.methodLink (mOwn k) j (mY k1)) && wk p2 (.instanceMethod (mY k1)) && wk p3 (.selects (mY k1).cls (mY k1) (mY k1))
    | _ => false)
  | .invokestatic j => (match u with
    | [0, _, k1, n, p1, p2, _, _] => decide (1 ≤ k1 ∧ k1 ∈ cks) && decide (n = nps k1 ∧ n ≤ mL k1) && wk p1 (.methodLink (mOwn k) j (mY k1)) && wk p2 (.static (mY k1))
    | [4, _, k1, n, p1, p2, _, _] => decide (1 ≤ k1 ∧ k1 ∈ cks) && decide (n = nps k1 ∧ n ≤ mL k1) && decide (nests[p1]? = some (.methodLinkNest (mOwn k) j (mY k1) RX6)) && wk p2 (.static (mY k1))
    | [1, p1, p2, p3, p4] => wk p1 (.methodLink (mOwn k) j Lib.Math.max.name) && wk p2 (.static Lib.Math.max.name) && wk p3 (.initialized "java/lang/Math") && wk p4 (.code Lib.Math.max.name Lib.Math.max.code 2 (some .int))
    | [2, p1, p2, p3, p4] => wk p1 (.methodLink (mOwn k) j Lib.Math.min.name) && wk p2 (.static Lib.Math.min.name) && wk p3 (.initialized "java/lang/Math") && wk p4 (.code Lib.Math.min.name Lib.Math.min.code 2 (some .int))
    | [3, p1, p2, p3, p4] => wk p1 (.methodLink (mOwn k) j arraycopyName) && wk p2 (.native arraycopyName) && wk p3 (.static arraycopyName) && wk p4 (.initialized "java/lang/System")
    | _ => false)
  | .ireturn => (match u with
    | [0] => decide (mRet k = some .int)
    | [1] => decide (mRet k = some .boolean)
    | _ => false)
  | .areturn => decide (mRet k = some (.object "SometimesSums$Table"))
  | .return_ => decide (mRet k = none)
  | _ => true
def okI (k pc : Nat) (e : MC) : Bool := decide (decode (mB k) pc = .ok (e.1, e.2.1)) && decide (mlen e.1 e.2.1 = e.2.1) && okR k e.1 e.2.2.1
def okT (k : Nat) (t : List (List (Nat × MC))) : Bool := t.all fun r => r.all fun q => okI k q.1 q.2
theorem mfind_mem {r : List (Nat × MC)} {pc : Nat} {e : MC} (h : mfind r pc = some e) : (pc, e) ∈ r := by
  induction r with
  | nil => cases h
  | cons a r ih =>
    obtain ⟨q, f⟩ := a
    unfold mfind at h
    cases hq : Nat.beq q pc with
    | true =>
      rw [hq] at h
      have := Nat.eq_of_beq_eq_true hq
      subst this
      cases h
      exact List.mem_cons_self
    | false =>
      rw [hq] at h
      exact List.mem_cons_of_mem _ (ih h)
theorem okT_use {k : Nat} {t : List (List (Nat × MC))} (hc : okT k t = true) {pc : Nat} {e : MC} (h : cdT t pc = some e) : okI k pc e = true := by
  unfold cdT at h
  unfold okT at hc
  have h1 := mfind_mem h
  rw [List.getD_eq_getElem?_getD] at h1
  cases hr : t[pc / 16]? with
  | none => rw [hr] at h1; cases h1
  | some r =>
    rw [hr] at h1
    rw [Option.getD_some] at h1
    have h2 : (r.all fun q => okI k q.1 q.2) = true := List.all_eq_true.mp hc r (List.mem_of_getElem? hr)
    have h4 := List.all_eq_true.mp h2 (pc, e) h1
    dsimp only at h4
    exact h4
