/-! from the small machine to the machine: what the two have to do with each other -/
def aB (B : Nat) : Nat → Prop := fun q => B ≤ q
def VR (α : Nat → Nat) (n : Nat) : MV → Value → Prop
  | .inl z, .int y => y.toInt = z
  | .inr a, .ref q => q = α a ∧ a < n
  | _, _ => False
def SR (α : Nat → Nat) (n : Nat) : List MV → List Value → Prop
  | [], [] => True
  | v :: r, x :: q => VR α n v x ∧ SR α n r q
  | _, _ => False
def LR (α : Nat → Nat) (n : Nat) (L : List (Option MV)) (ls : Array Slot) : Prop := ∃ lv : List (Nat × Value), lv_has ls L.length lv ∧ (∀ q ∈ lv, q.2.category = 1) ∧ ∀ (i : Nat) (v : MV), L[i]? = some (some v) → ∃ x, (i, x) ∈ lv ∧ VR α n v x
def FR (α : Nat → Nat) (w : MW) (a ci k : Nat) (v : Option Value) : Prop := if skd ci k = 1 then v = some (va_rf ((gr w a k).map α)) ∧ ∀ b, gr w a k = some b → b < nx w else ∃ x : Int32, v = some (.int x) ∧ x.toInt = gi w a k
def CR (α : Nat → Nat) (tys : List (ClassId × FieldType)) (w : MW) (a : Nat) (e : va_E) : Prop :=
  (kd w a = 1 ∧ ∃ (cA : ClassId) (f : Nat → Int32) (t0 : Nat), e = .inl (cA, ln w a, .inl f) ∧ tys[t0]? = some (cA, .int) ∧ ∀ i, (f i).toInt = gi w a i) ∨
  (kd w a = 2 ∧ ∃ (cA : ClassId) (f : Nat → Int32) (t0 : Nat), e = .inl (cA, ln w a, .inl f) ∧ tys[t0]? = some (cA, .char) ∧ ∀ i, (f i).toInt = gi w a i) ∨
  (kd w a = 3 ∧ ∃ (cA : ClassId) (f : Nat → Option Nat) (t0 : Nat), e = .inl (cA, ln w a, .inr (.inr (.inr (.inr f)))) ∧ tys[t0]? = some (cA, .object RX3) ∧ ∀ i, f i = (gr w a i).map α ∧ ∀ b, gr w a i = some b → b < nx w) ∨
  (∃ (ci : Nat) (r : vw_C) (fs : List Value), kd w a = 10 + ci ∧ e = .inr (ci, fs) ∧ vwCl[ci]? = some r ∧ fs.length = r.2.2 ∧ ∀ k, k < r.2.2 → FR α w a ci k (fs[k]?))
def WC (α : Nat → Nat) (D : va_G) (B : Nat) (w : MW) (U : State) (H : Heap) (ws : va_W) (tys : List (ClassId × FieldType)) : Prop :=
  va_K D vwCl tys U ∧ va_P D vwCl ws H ∧ va_D (aB B) ws ∧ 1 ≤ nx w ∧ ws.length + 1 = nx w ∧ (∀ a, 1 ≤ a → a < nx w → ∃ e, ws[a - 1]? = some (α a, e) ∧ CR α tys w a e) ∧ ∀ a, a = 0 ∨ nx w ≤ a → kd w a = 0
def WH (α : Nat → Nat) (D : va_G) (B : Nat) (w : MW) (U : State) (H : Heap) : Prop := ∃ (ws : va_W) (tys : List (ClassId × FieldType)), WC α D B w U H ws tys
theorem VR.mono {α β : Nat → Nat} {n n' : Nat} {v : MV} {x : Value} (h : VR α n v x) (hn : n ≤ n') (hb : ∀ a, a < n → β a = α a) : VR β n' v x := by
  cases v with
  | inl z => cases x <;> first | exact h | exact h.elim
  | inr a => cases x <;> first | exact ⟨by rw [hb a h.2]; exact h.1, Nat.lt_of_lt_of_le h.2 hn⟩ | exact h.elim
theorem SR.mono {α β : Nat → Nat} {n n' : Nat} (hn : n ≤ n') (hb : ∀ a, a < n → β a = α a) : ∀ {st : List MV} {q : List Value}, SR α n st q → SR β n' st q
  | [], [], _ => trivial
  | _ :: _, _ :: _, h => ⟨VR.mono h.1 hn hb, SR.mono hn hb h.2⟩
theorem LR.mono {α β : Nat → Nat} {n n' : Nat} (hn : n ≤ n') (hb : ∀ a, a < n → β a = α a) {L : List (Option MV)} {ls : Array Slot} (h : LR α n L ls) : LR β n' L ls := by
  obtain ⟨lv, h1, h2, h3⟩ := h
  exact ⟨lv, h1, h2, fun i v hv => (h3 i v hv).imp fun x hx => ⟨hx.1, hx.2.mono hn hb⟩⟩
theorem LR.getI {α : Nat → Nat} {n : Nat} {L : List (Option MV)} {ls : Array Slot} (h : LR α n L ls) {i : Nat} {z : Int} (hi : L[i]? = some (some (.inl z))) : ∃ y : Int32, ls[i]? = some (.val (.int y)) ∧ y.toInt = z := by
  obtain ⟨lv, h1, h2, h3⟩ := h
  obtain ⟨x, hx, hv⟩ := h3 i _ hi
  cases x <;> first | exact ⟨_, h1.2.2 _ hx, hv⟩ | exact hv.elim
theorem LR.getR {α : Nat → Nat} {n : Nat} {L : List (Option MV)} {ls : Array Slot} (h : LR α n L ls) {i a : Nat} (hi : L[i]? = some (some (.inr a))) : ls[i]? = some (.val (.ref (α a))) ∧ a < n := by
  obtain ⟨lv, h1, h2, h3⟩ := h
  obtain ⟨x, hx, hv⟩ := h3 i _ hi
  cases x <;> first | exact ⟨by rw [h1.2.2 _ hx]; rw [hv.1], hv.2⟩ | exact hv.elim
theorem LR.len {α : Nat → Nat} {n : Nat} {L : List (Option MV)} {ls : Array Slot} (h : LR α n L ls) : ls.size = L.length := by
  obtain ⟨lv, h1, -⟩ := h
  exact h1.1
theorem LR.set {α : Nat → Nat} {n : Nat} {L : List (Option MV)} {ls : Array Slot} {lv : List (Nat × Value)} {i : Nat} {v : MV} {x : Value} (hc : ∀ q ∈ lv, q.2.category = 1) (hL : ∀ (i : Nat) (v : MV), L[i]? = some (some v) → ∃ x, (i, x) ∈ lv ∧ VR α n v x) (hv : VR α n v x) (hx : x.category = 1)
    (h : lv_has ls L.length ((i, x) :: lv.filter (fun q => !(q.1 == i) && !(q.1 + 1 == i && q.2.category == 2)))) : LR α n (L.set i (some v)) ls := by
  refine ⟨_, by rw [List.length_set]; exact h, fun q hq => ?_, fun j u hu => ?_⟩
  · rcases List.mem_cons.mp hq with e | hq
    · rw [e]; exact hx
    · exact hc q (List.mem_filter.mp hq).1
  · by_cases hj : i = j
    · subst hj
      rw [List.getElem?_set_self'] at hu
      cases hL2 : L[i]? with
      | none => rw [hL2] at hu; cases hu
      | some y =>
        rw [hL2] at hu
        cases hu
        exact ⟨x, List.mem_cons_self, hv⟩
    · rw [List.getElem?_set_ne hj] at hu
      obtain ⟨y, hy, hw⟩ := hL j u hu
      refine ⟨y, List.mem_cons_of_mem _ (List.mem_filter.mpr ⟨hy, ?_⟩), hw⟩
      have h1 := hc _ hy
      dsimp only at h1 ⊢
      rw [h1]
      simp [Ne.symm hj]
theorem LR.kill1 {α : Nat → Nat} {n : Nat} {L : List (Option MV)} {ls : Array Slot} (i : Nat) (h : LR α n L ls) : LR α n (L.set i none) ls := by
  obtain ⟨lv, h1, h2, h3⟩ := h
  refine ⟨lv, by rw [List.length_set]; exact h1, h2, fun j u hu => ?_⟩
  by_cases hj : i = j
  · subst hj
    rw [List.getElem?_set_self'] at hu
    cases hL2 : L[i]? with
    | none => rw [hL2] at hu; cases hu
    | some y => rw [hL2] at hu; cases hu
  · rw [List.getElem?_set_ne hj] at hu
    exact h3 j u hu
theorem LR.kill {α : Nat → Nat} {n : Nat} {ls : Array Slot} : ∀ (ds : List Nat) {L : List (Option MV)}, LR α n L ls → LR α n (kill ds L) ls
  | [], _, h => h
  | i :: ds, _, h => LR.kill ds (h.kill1 i)
theorem bm_id {z : Int} (h1 : -2147483648 ≤ z) (h2 : z < 2147483648) : z.bmod 4294967296 = z := by
  rw [Int.bmod_def]
  split <;> omega
theorem i32_of {z : Int} (h1 : -2147483648 ≤ z) (h2 : z < 2147483648) : (Int32.ofInt z).toInt = z := by
  rw [Int32.toInt_ofInt]
  exact bm_id h1 h2
theorem i32_rng (x : Int32) : -2147483648 ≤ x.toInt ∧ x.toInt < 2147483648 := ⟨Int32.le_toInt x, Int32.toInt_lt x⟩
theorem i32_opI (f : Int32 → Int32 → Int32) (x y : Int32) : (f x y).toInt = opI f x.toInt y.toInt := by
  unfold opI
  rw [Int32.ofInt_toInt, Int32.ofInt_toInt]
theorem i32_wa (x y : Int32) : (x + y).toInt = wrap (x.toInt + y.toInt) := by rw [Int32.toInt_add]; rfl
theorem i32_ws (x y : Int32) : (x - y).toInt = wrap (x.toInt - y.toInt) := by rw [Int32.toInt_sub]; rfl
theorem i32_wm (x y : Int32) : (x * y).toInt = wrap (x.toInt * y.toInt) := by rw [Int32.toInt_mul]; rfl
