/-! A small machine: ints are integers (wrapped), references are numbers of cells in the order of making (1, 2, ..), the script is the cell 0. -/
abbrev MV : Type := Int ⊕ Nat
/-- ((next cell, slots made), kinds, lengths), ints, references. Kinds: 1 int array, 2 char array, 3 array of tables, 10 + i object of the class i -/
abbrev MW : Type := ((Nat × Nat) × (Nat → Nat) × (Nat → Nat)) × (Nat → Nat → Int) × (Nat → Nat → Option Nat)
def nx (w : MW) : Nat := w.1.1.1
def sl (w : MW) : Nat := w.1.1.2
def kd (w : MW) (a : Nat) : Nat := w.1.2.1 a
def ln (w : MW) (a : Nat) : Nat := w.1.2.2 a
def gi (w : MW) (a k : Nat) : Int := w.2.1 a k
def gr (w : MW) (a k : Nat) : Option Nat := w.2.2 a k
def u1 {α : Type} (f : Nat → α) (a : Nat) (v : α) : Nat → α := fun b => if b = a then v else f b
def u2 {α : Type} (f : Nat → Nat → α) (a k : Nat) (v : α) : Nat → Nat → α := fun b j => if b = a ∧ j = k then v else f b j
def z2 {α : Type} (f : Nat → Nat → α) (a : Nat) (v : α) : Nat → Nat → α := fun b j => if b = a then v else f b j
def si (w : MW) (a k : Nat) (v : Int) : MW := (w.1, u2 w.2.1 a k v, w.2.2)
def sr (w : MW) (a k : Nat) (v : Option Nat) : MW := (w.1, w.2.1, u2 w.2.2 a k v)
def cp2 (f : Nat → Nat → Int) (s sp t tp n : Nat) : Nat → Nat → Int := fun b j => if b = t ∧ tp ≤ j ∧ j < tp + n then f s (sp + (j - tp)) else f b j
/-- arraycopy -/
def cpw (w : MW) (s sp t tp n : Nat) : MW := (w.1, cp2 w.2.1 s sp t tp n, w.2.2)
/-- a new cell of a kind -/
def al (w : MW) (kind len slots : Nat) : MW := (((nx w + 1, sl w + slots), u1 w.1.2.1 (nx w) kind, u1 w.1.2.2 (nx w) len), z2 w.2.1 (nx w) 0, z2 w.2.2 (nx w) none)
def wrap (z : Int) : Int := z.bmod 4294967296
def opI (f : Int32 → Int32 → Int32) (x y : Int) : Int := (f (Int32.ofInt x) (Int32.ofInt y)).toInt
def divI : Int → Int → Int := opI (fun x y => x / y)
def remI : Int → Int → Int := opI (fun x y => x - x / y * y)
def andI : Int → Int → Int := opI (fun x y => x &&& y)
def orI : Int → Int → Int := opI (fun x y => x ||| y)
def xorI : Int → Int → Int := opI (fun x y => x ^^^ y)
def shlI : Int → Int → Int := opI (fun x y => x <<< (y &&& 31))
def shrI : Int → Int → Int := opI (fun x y => x >>> (y &&& 31))
def ushrI : Int → Int → Int := opI (fun x y => (x.toUInt32 >>> (y.toUInt32 &&& Int32.toUInt32 31)).toInt32)
def chrI (x : Int) : Int := x % 65536
def maxI (x y : Int) : Int := if x < y then y else x
def minI (x y : Int) : Int := if y < x then y else x
/-- an instruction, its length, what it means (class, slot, callee ..), the locals that are dead there -/
abbrev MC : Type := Instr × Nat × List Nat × List Nat
/-- its class, its name, its bytes, its locals, what it returns, its code -/
abbrev MI : Type := String × MethodName × ByteArray × Nat × Option FieldType × (Nat → Option MC)
def kill (ds : List Nat) (L : List (Option MV)) : List (Option MV) := ds.foldl (fun L i => L.set i none) L
abbrev Act : Type := (Nat × List (Option MV) × List MV × MW) ⊕ (Option MV × MW) ⊕ (Nat × Nat × List MV × Nat × List (Option MV) × List MV × MW)
def aGo (pc : Nat) (L : List (Option MV)) (st : List MV) (w : MW) : Option Act := some (.inl (pc, L, st, w))
def aRet (v : Option MV) (w : MW) : Option Act := some (.inr (.inl (v, w)))
def aCall (kind k : Nat) (as : List MV) (pc : Nat) (L : List (Option MV)) (st : List MV) (w : MW) : Option Act := some (.inr (.inr (kind, k, as, pc, L, st, w)))
def gd {α : Type} (c : Prop) [Decidable c] (o : Option α) : Option α := if c then o else none
def gto (pc : Nat) (off : Int) : Nat := ((pc : Int) + off).toNat
def lgI (L : List (Option MV)) (i : Nat) (f : Int → Option Act) : Option Act := match L[i]? with
  | some (some (.inl x)) => f x
  | _ => none
def lgR (L : List (Option MV)) (i : Nat) (f : Nat → Option Act) : Option Act := match L[i]? with
  | some (some (.inr x)) => f x
  | _ => none
def s1I (st : List MV) (f : Int → List MV → Option Act) : Option Act := match st with
  | .inl x :: r => f x r
  | _ => none
def s1R (st : List MV) (f : Nat → List MV → Option Act) : Option Act := match st with
  | .inr x :: r => f x r
  | _ => none
def s2I (st : List MV) (f : Int → Int → List MV → Option Act) : Option Act := s1I st fun y r => s1I r fun x r => f x y r
def tst (c : ClassFile.Cond) (x y : Int) : Bool := match c with
  | .eq => decide (x = y)
  | .ne => decide (x ≠ y)
  | .lt => decide (x < y)
  | .ge => decide (y ≤ x)
  | .gt => decide (y < x)
  | .le => decide (x ≤ y)
def ixI (i : Int) (n : Nat) : Prop := 0 ≤ i ∧ i < n
def mcall (kind k n ci : Nat) (virt : Bool) (pc : Nat) (L : List (Option MV)) (st : List MV) (w : MW) : Option Act :=
  gd (n ≤ st.length ∧ (st.drop n).length ≤ 8) (match virt with
    | true => (match (st.take n).reverse with
      | .inr b :: as => gd (kd w b = 10 + ci) (aCall kind k (.inr b :: as) (pc + 3) L (st.drop n) w)
      | _ => none)
    | false => aCall kind k (st.take n).reverse (pc + 3) L (st.drop n) w)
/-- one instruction -/
def mstep (X : Nat × (Nat → Int)) (i : Instr) (n : Nat) (u : List Nat) (pc : Nat) (L : List (Option MV)) (st : List MV) (w : MW) : Option Act :=
  match i with
  | .iconst z => gd (-1 ≤ z ∧ z ≤ 5) (aGo (pc + 1) L (.inl z :: st) w)
  | .bipush z => gd (-128 ≤ z ∧ z ≤ 127) (aGo (pc + 2) L (.inl z :: st) w)
  | .sipush z => gd (-32768 ≤ z ∧ z ≤ 32767) (aGo (pc + 3) L (.inl z :: st) w)
  | .ldc _ => (match u with
    | v :: _ => gd (v ≤ 2147483647) (aGo (pc + 2) L (.inl (v : Int) :: st) w)
    | _ => none)
  | .iload_n j => lgI L j fun x => aGo (pc + 1) L (.inl x :: st) w
  | .iload j => lgI L j fun x => aGo (pc + 2) L (.inl x :: st) w
  | .aload_n j => lgR L j fun x => aGo (pc + 1) L (.inr x :: st) w
  | .aload j => lgR L j fun x => aGo (pc + 2) L (.inr x :: st) w
  | .istore_n j => s1I st fun x r => gd ((j : Nat) < L.length) (aGo (pc + 1) (L.set j (some (.inl x))) r w)
  | .istore j => s1I st fun x r => gd (j < L.length) (aGo (pc + 2) (L.set j (some (.inl x))) r w)
  | .astore_n j => s1R st fun x r => gd ((j : Nat) < L.length) (aGo (pc + 1) (L.set j (some (.inr x))) r w)
  | .astore j => s1R st fun x r => gd (j < L.length) (aGo (pc + 2) (L.set j (some (.inr x))) r w)
  | .iadd => s2I st fun x y r => aGo (pc + 1) L (.inl (wrap (x + y)) :: r) w
  | .isub => s2I st fun x y r => aGo (pc + 1) L (.inl (wrap (x - y)) :: r) w
  | .imul => s2I st fun x y r => aGo (pc + 1) L (.inl (wrap (x * y)) :: r) w
  | .idiv => s2I st fun x y r => gd (y ≠ 0) (aGo (pc + 1) L (.inl (divI x y) :: r) w)
  | .irem => s2I st fun x y r => gd (y ≠ 0) (aGo (pc + 1) L (.inl (remI x y) :: r) w)
  | .iand => s2I st fun x y r => aGo (pc + 1) L (.inl (andI x y) :: r) w
  | .ior => s2I st fun x y r => aGo (pc + 1) L (.inl (orI x y) :: r) w
  | .ixor => s2I st fun x y r => aGo (pc + 1) L (.inl (xorI x y) :: r) w
  | .ishl => s2I st fun x y r => aGo (pc + 1) L (.inl (shlI x y) :: r) w
  | .ishr => s2I st fun x y r => aGo (pc + 1) L (.inl (shrI x y) :: r) w
  | .iushr => s2I st fun x y r => aGo (pc + 1) L (.inl (ushrI x y) :: r) w
  | .i2c => s1I st fun x r => aGo (pc + 1) L (.inl (chrI x) :: r) w
  | .dup => (match st with
    | v :: r => aGo (pc + 1) L (v :: v :: r) w
    | _ => none)
  | .dup2 => (match st with
    | v1 :: v2 :: r => aGo (pc + 1) L (v1 :: v2 :: v1 :: v2 :: r) w
    | _ => none)
  | .pop => (match st with
    | _ :: r => aGo (pc + 1) L r w
    | _ => none)
  | .iinc j z => lgI L j fun x => gd (j < L.length ∧ -32768 ≤ z ∧ z ≤ 32767) (aGo (pc + 3) (L.set j (some (.inl (wrap (x + z))))) st w)
  | .goto off => gd (0 ≤ (pc : Int) + off) (aGo (gto pc off) L st w)
  | .ifCond c off => s1I st fun x r => gd (0 ≤ (pc : Int) + off) (if tst c x 0 then aGo (gto pc off) L r w else aGo (pc + 3) L r w)
  | .if_icmp c off => s2I st fun x y r => gd (0 ≤ (pc : Int) + off) (if tst c x y then aGo (gto pc off) L r w else aGo (pc + 3) L r w)
  | .tableswitch dflt lo hi offs => s1I st fun x r => if x < lo ∨ hi < x then gd (0 ≤ (pc : Int) + dflt) (aGo (gto pc dflt) L r w) else (match offs[(x - lo).toNat]? with
    | some off => gd (0 ≤ (pc : Int) + off) (aGo (gto pc off) L r w)
    | none => none)
  | .getfield _ => s1R st fun a r => (match u with
    | [ci, k, 0, _] => gd (kd w a = 10 + ci) (aGo (pc + 3) L (.inl (gi w a k) :: r) w)
    | [ci, k, 1, _] => gd (kd w a = 10 + ci) (match gr w a k with
      | some b => aGo (pc + 3) L (.inr b :: r) w
      | none => none)
    | _ => none)
  | .putfield _ => (match u with
    | [ci, k, 0, _] => s1I st fun v r => s1R r fun a r => gd (kd w a = 10 + ci) (aGo (pc + 3) L r (si w a k v))
    | [ci, k, 2, _] => s1I st fun v r => s1R r fun a r => gd (kd w a = 10 + ci ∧ (v = 0 ∨ v = 1)) (aGo (pc + 3) L r (si w a k v))
    | [ci, k, 1, _] => s1R st fun v r => s1R r fun a r => gd (kd w a = 10 + ci) (aGo (pc + 3) L r (sr w a k (some v)))
    | _ => none)
  | .iaload => s1I st fun j r => s1R r fun a r => (match u with
    | [] => gd (kd w a = 1 ∧ 0 ≤ j ∧ j < ln w a) (aGo (pc + 1) L (.inl (gi w a j.toNat) :: r) w)
    | _ => gd (a = 0 ∧ 0 ≤ j ∧ j < X.1) (aGo (pc + 1) L (.inl (X.2 j.toNat) :: r) w))
  | .iastore => s1I st fun v r => s1I r fun j r => s1R r fun a r => gd (kd w a = 1 ∧ 0 ≤ j ∧ j < ln w a) (aGo (pc + 1) L r (si w a j.toNat v))
  | .caload => s1I st fun j r => s1R r fun a r => gd (kd w a = 2 ∧ 0 ≤ j ∧ j < ln w a) (aGo (pc + 1) L (.inl (gi w a j.toNat) :: r) w)
  | .castore => s1I st fun v r => s1I r fun j r => s1R r fun a r => gd ((kd w a = 2 ∧ 0 ≤ j ∧ j < ln w a) ∧ 0 ≤ v ∧ v < 65536) (aGo (pc + 1) L r (si w a j.toNat v))
  | .aaload => s1I st fun j r => s1R r fun a r => gd (kd w a = 3 ∧ 0 ≤ j ∧ j < ln w a) (match gr w a j.toNat with
    | some b => aGo (pc + 1) L (.inr b :: r) w
    | none => none)
  | .aastore => s1R st fun v r => s1I r fun j r => s1R r fun a r => gd ((kd w a = 3 ∧ 0 ≤ j ∧ j < ln w a) ∧ kd w v = 13) (aGo (pc + 1) L r (sr w a j.toNat (some v)))
  | .arraylength => s1R st fun a r => (match u with
    | [] => gd (kd w a = 1 ∧ ln w a < 2147483648) (aGo (pc + 1) L (.inl (ln w a) :: r) w)
    | _ => gd (a = 0 ∧ X.1 < 2147483648) (aGo (pc + 1) L (.inl X.1 :: r) w))
  | .newarray t => s1I st fun j r => gd (0 ≤ j ∧ j ≤ 1000) (match t with
    | .int => aGo (pc + 2) L (.inr (nx w) :: r) (al w 1 j.toNat j.toNat)
    | .char => aGo (pc + 2) L (.inr (nx w) :: r) (al w 2 j.toNat j.toNat)
    | _ => none)
  | .anewarray _ => s1I st fun j r => gd (0 ≤ j ∧ j ≤ 1000) (aGo (pc + 3) L (.inr (nx w) :: r) (al w 3 j.toNat j.toNat))
  | .new _ => (match u with
    | ci :: nf :: _ => aGo (pc + 3) L (.inr (nx w) :: st) (al w (10 + ci) 0 nf)
    | _ => none)
  | .invokespecial _ => (match u with
    | 0 :: _ => s1R st fun _ r => gd (r.length ≤ 8) (aGo (pc + 3) L r w)
    | 1 :: k :: m :: ci :: _ => mcall 0 k m ci true pc L st w
    | 2 :: k :: m :: ci :: _ => mcall 0 k m ci true pc L st w
    | _ => none)
  | .invokevirtual _ => (match u with
    | kind :: k :: m :: ci :: _ => mcall kind k m ci true pc L st w
    | _ => none)
  | .invokestatic _ => (match u with
    | 0 :: kind :: k :: m :: _ => mcall kind k m 0 false pc L st w
    | 1 :: _ => s2I st fun x y r => gd (r.length ≤ 8) (aGo (pc + 3) L (.inl (maxI x y) :: r) w)
    | 2 :: _ => s2I st fun x y r => gd (r.length ≤ 8) (aGo (pc + 3) L (.inl (minI x y) :: r) w)
    | 4 :: kind :: k :: m :: _ => mcall kind k m 0 false pc L st w
    | 3 :: _ => s2I st fun tp j r => s1R r fun t r => s1I r fun sp r => s1R r fun s r => gd (r.length ≤ 8 ∧ kd w s = 1 ∧ kd w t = 1 ∧ 0 ≤ sp ∧ 0 ≤ tp ∧ 0 ≤ j ∧ sp + j ≤ ln w s ∧ tp + j ≤ ln w t) (aGo (pc + 3) L r (cpw w s sp.toNat t tp.toNat j.toNat))
    | _ => none)
  | .ireturn => (match u with
    | 0 :: _ => s1I st fun x r => gd (r = []) (aRet (some (.inl x)) w)
    | 1 :: _ => s1I st fun x r => gd (r = [] ∧ (x = 0 ∨ x = 1)) (aRet (some (.inl x)) w)
    | _ => none)
  | .areturn => s1R st fun x r => gd (r = []) (aRet (some (.inr x)) w)
  | .return_ => gd (st = []) (aRet none w)
  | _ => none
