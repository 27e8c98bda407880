/-! context of a frame, the goal from a small state, worlds written and grown -/
def nests : List Cond := [.methodLinkNest RX6 39 yX1_init RX6, .methodLinkNest RX3 61 yX6_bit RX6, .methodLinkNest RX2 39 yX6_bit RX6]
def gtbl : List Cond := lw_tbl.filter goodWord
def NW (U : State) : Prop := (va_Nw (.methodLinkNest RX6 39 yX1_init RX6) U ∧ va_Nw (.methodLinkNest RX3 61 yX6_bit RX6) U ∧ va_Nw (.methodLinkNest RX2 39 yX6_bit RX6) U) ∧ va_AO RX3 U
theorem NW.warm {s U : State} (hW : s.WarmedH U.vm) (h : NW s) : NW U := ⟨⟨va_Nw.warmM hW h.1.1, va_Nw.warmM hW h.1.2.1, va_Nw.warmM hW h.1.2.2⟩, va_AO.moved hW.alike h.2⟩
theorem NW.same {u U : State} (hv : u.vm = U.vm) (h : NW u) : NW U := ⟨⟨va_Nw.same rfl hv h.1.1, va_Nw.same rfl hv h.1.2.1, va_Nw.same rfl hv h.1.2.2⟩, va_AO.moved (by rw [hv]; exact Vm.Alike.refl _) h.2⟩
theorem NW.at {U : State} (h : NW U) : ∀ (j : Nat) (w : Cond), nests[j]? = some w → va_Nw w U := by
  intro j w hj
  match j, hj with
  | 0, hj => cases hj; exact h.1.1
  | 1, hj => cases hj; exact h.1.2.1
  | 2, hj => cases hj; exact h.1.2.2
  | j + 3, hj => simp [nests] at hj
def Cx (p : Program) (Rm : Room) (s : State) (m : MethodId) (args : Array Value) (meth : Method) (c : Code) (B k d : Nat) : Prop :=
  p.tables.exec = Jvm.exec ∧ c.code = mB k ∧ c.maxLocals = mL k ∧ s.vm.findClass (mOwn k) = some m.cls ∧ (∀ w ∈ gtbl, w.before args s = true) ∧ NW s ∧ (d + 1 ≤ Rm.frames ∧ 64 * (d + 1) ≤ Rm.locals) ∧ ((mY k).name = "<init>" → meth.name = "<init>") ∧ B ≤ s.heap.size
def Gw (p : Program) (l : Launch) (e : Env) (Rm : Room) (s : State) (m : MethodId) (args : Array Value) (below : List Frame) (meth : Method) (c : Code) (Q : State → Prop) (D : va_G) (B n0 : Nat) (α0 : Nat → Nat) (cells slots pc : Nat) (L : List (Option MV)) (st : List MV) (w : MW) : Prop :=
  ∀ (α : Nat → Nat) (ls : Array Slot) (stk : List Value) (H : Heap) (locs : List Loc), (∀ a, a < n0 → α a = α0 a) → LR α (nx w) L ls → SR α (nx w) st stk → WH α D B w s H → va_S (aB B) s.heap H locs → W p l e Rm s m args below meth c H locs cells slots Q (F0 m pc ls stk)
theorem SR.cI {α : Nat → Nat} {n : Nat} {z : Int} {st : List MV} {stk : List Value} (h : SR α n (.inl z :: st) stk) : ∃ (y : Int32) (q : List Value), stk = .int y :: q ∧ y.toInt = z ∧ SR α n st q := by
  cases stk with
  | nil => exact h.elim
  | cons x q =>
    obtain ⟨h1, h2⟩ := h
    cases x <;> first | exact ⟨_, q, rfl, h1, h2⟩ | exact h1.elim
theorem SR.cR {α : Nat → Nat} {n a : Nat} {st : List MV} {stk : List Value} (h : SR α n (.inr a :: st) stk) : ∃ (q : List Value), stk = .ref (α a) :: q ∧ a < n ∧ SR α n st q := by
  cases stk with
  | nil => exact h.elim
  | cons x q =>
    obtain ⟨h1, h2⟩ := h
    cases x <;> first | (obtain ⟨e, h1⟩ := h1; subst e; exact ⟨q, rfl, h1, h2⟩) | exact h1.elim
theorem SR.c1 {α : Nat → Nat} {n : Nat} {v : MV} {st : List MV} {stk : List Value} (h : SR α n (v :: st) stk) : ∃ (x : Value) (q : List Value), stk = x :: q ∧ VR α n v x ∧ x.category = 1 ∧ SR α n st q := by
  cases stk with
  | nil => exact h.elim
  | cons x q =>
    obtain ⟨h1, h2⟩ := h
    refine ⟨x, q, rfl, h1, ?_, h2⟩
    cases v <;> cases x <;> first | rfl | exact h1.elim
theorem SR.nil {α : Nat → Nat} {n : Nat} {stk : List Value} (h : SR α n [] stk) : stk = [] := by
  cases stk with
  | nil => rfl
  | cons x q => exact h.elim
theorem SR.cat {α : Nat → Nat} {n : Nat} : ∀ {st : List MV} {stk : List Value}, SR α n st stk → (stk.map fun v => v.category).sum = st.length
  | [], stk, h => by rw [h.nil]; rfl
  | v :: st, stk, h => by
    obtain ⟨x, q, rfl, -, h1, h2⟩ := h.c1
    rw [List.map_cons, List.sum_cons, h1, SR.cat h2, List.length_cons]
    omega
theorem SR.len {α : Nat → Nat} {n : Nat} : ∀ {st : List MV} {stk : List Value}, SR α n st stk → stk.length = st.length
  | [], stk, h => by rw [h.nil]; rfl
  | v :: st, stk, h => by
    obtain ⟨x, q, rfl, -, -, h2⟩ := h.c1
    rw [List.length_cons, SR.len h2, List.length_cons]
theorem SR.app {α : Nat → Nat} {n : Nat} : ∀ {a b : List MV} {stk : List Value}, SR α n (a ++ b) stk → ∃ q r, stk = q ++ r ∧ SR α n a q ∧ SR α n b r
  | [], b, stk, h => ⟨[], stk, rfl, trivial, h⟩
  | v :: a, b, stk, h => by
    obtain ⟨x, q, rfl, h1, -, h2⟩ := SR.c1 (st := a ++ b) h
    obtain ⟨q1, r, rfl, h3, h4⟩ := SR.app h2
    exact ⟨x :: q1, r, rfl, ⟨h1, h3⟩, h4⟩
theorem SR.join {α : Nat → Nat} {n : Nat} : ∀ {a b : List MV} {q r : List Value}, SR α n a q → SR α n b r → SR α n (a ++ b) (q ++ r)
  | [], _, q, _, h, h2 => by rw [h.nil]; exact h2
  | v :: a, b, q, r, h, h2 => by
    obtain ⟨x, q, rfl, h1, -, h3⟩ := SR.c1 h
    exact ⟨h1, SR.join h3 h2⟩
theorem SR.rev {α : Nat → Nat} {n : Nat} : ∀ {a : List MV} {q : List Value}, SR α n a q → SR α n a.reverse q.reverse
  | [], q, h => by rw [h.nil]; trivial
  | v :: a, q, h => by
    obtain ⟨x, q, rfl, h1, -, h3⟩ := SR.c1 h
    rw [List.reverse_cons, List.reverse_cons]
    exact SR.join (SR.rev h3) ⟨h1, trivial⟩
theorem WH.moved {α : Nat → Nat} {D : va_G} {B : Nat} {w : MW} {u U : State} {H : Heap} (hvm : u.vm.Alike U.vm) (h : WH α D B w u H) : WH α D B w U H := by
  obtain ⟨ws, tys, h1, h2⟩ := h
  exact ⟨ws, tys, va_K.moved hvm h1, h2⟩
section WCs
variable {α : Nat → Nat} {D : va_G} {B : Nat} {w w' : MW} {U : State} {H H1 : Heap} {ws : va_W} {tys : List (ClassId × FieldType)} {a : Nat}
theorem WC.rng (h : WC α D B w U H ws tys) (hk : kd w a ≠ 0) : 1 ≤ a ∧ a < nx w := by
  obtain ⟨-, -, -, -, -, -, h7⟩ := h
  rcases Nat.eq_zero_or_pos a with e | e
  · exact absurd (h7 a (Or.inl e)) hk
  · rcases Nat.lt_or_ge a (nx w) with g | g
    · exact ⟨e, g⟩
    · exact absurd (h7 a (Or.inr g)) hk
theorem WC.ia (h : WC α D B w U H ws tys) (hk : kd w a = 1) : ∃ (cA : ClassId) (f : Nat → Int32) (t0 : Nat), ws[a - 1]? = some (α a, .inl (cA, ln w a, .inl f)) ∧ tys[t0]? = some (cA, .int) ∧ ∀ i, (f i).toInt = gi w a i := by
  have hr := h.rng (by rw [hk]; decide)
  obtain ⟨-, -, -, -, -, h6, -⟩ := h
  obtain ⟨e, he, hc⟩ := h6 a hr.1 hr.2
  rcases hc with ⟨-, cA, f, t0, rfl, h1, h2⟩ | ⟨h0, -⟩ | ⟨h0, -⟩ | ⟨ci, r, fs, h0, -⟩
  · exact ⟨cA, f, t0, he, h1, h2⟩
  · omega
  · omega
  · omega
theorem WC.ca (h : WC α D B w U H ws tys) (hk : kd w a = 2) : ∃ (cA : ClassId) (f : Nat → Int32) (t0 : Nat), ws[a - 1]? = some (α a, .inl (cA, ln w a, .inl f)) ∧ tys[t0]? = some (cA, .char) ∧ ∀ i, (f i).toInt = gi w a i := by
  have hr := h.rng (by rw [hk]; decide)
  obtain ⟨-, -, -, -, -, h6, -⟩ := h
  obtain ⟨e, he, hc⟩ := h6 a hr.1 hr.2
  rcases hc with ⟨h0, -⟩ | ⟨-, cA, f, t0, rfl, h1, h2⟩ | ⟨h0, -⟩ | ⟨ci, r, fs, h0, -⟩
  · omega
  · exact ⟨cA, f, t0, he, h1, h2⟩
  · omega
  · omega
theorem WC.qa (h : WC α D B w U H ws tys) (hk : kd w a = 3) : ∃ (cA : ClassId) (f : Nat → Option Nat) (t0 : Nat), ws[a - 1]? = some (α a, .inl (cA, ln w a, .inr (.inr (.inr (.inr f))))) ∧ tys[t0]? = some (cA, .object RX3) ∧ ∀ i, f i = (gr w a i).map α ∧ ∀ b, gr w a i = some b → b < nx w := by
  have hr := h.rng (by rw [hk]; decide)
  obtain ⟨-, -, -, -, -, h6, -⟩ := h
  obtain ⟨e, he, hc⟩ := h6 a hr.1 hr.2
  rcases hc with ⟨h0, -⟩ | ⟨h0, -⟩ | ⟨-, cA, f, t0, rfl, h1, h2⟩ | ⟨ci, r, fs, h0, -⟩
  · omega
  · omega
  · exact ⟨cA, f, t0, he, h1, h2⟩
  · omega
theorem WC.ob {ci : Nat} (h : WC α D B w U H ws tys) (hk : kd w a = 10 + ci) : ∃ (r : vw_C) (fs : List Value), ws[a - 1]? = some (α a, .inr (ci, fs)) ∧ vwCl[ci]? = some r ∧ fs.length = r.2.2 ∧ ∀ k, k < r.2.2 → FR α w a ci k (fs[k]?) := by
  have hr := h.rng (by rw [hk]; omega)
  obtain ⟨-, -, -, -, -, h6, -⟩ := h
  obtain ⟨e, he, hc⟩ := h6 a hr.1 hr.2
  rcases hc with ⟨h0, -⟩ | ⟨h0, -⟩ | ⟨h0, -⟩ | ⟨ci', r, fs, h0, rfl, h1, h2, h3⟩
  · omega
  · omega
  · omega
  · have : ci' = ci := by omega
    subst this
    exact ⟨r, fs, he, h1, h2, h3⟩
theorem CR.cong {β : Nat → Nat} {tys' : List (ClassId × FieldType)} {e : va_E} (h : CR α tys w a e) (hn : nx w ≤ nx w') (hb : ∀ b, b < nx w → β b = α b) (ht : ∀ (t : Nat) (q : ClassId × FieldType), tys[t]? = some q → tys'[t]? = some q) (hk : kd w' a = kd w a) (hl : ln w' a = ln w a) (hi : ∀ j, gi w' a j = gi w a j) (hg : ∀ j, gr w' a j = gr w a j) : CR β tys' w' a e := by
  have hm : ∀ j, (∀ b, gr w a j = some b → b < nx w) → (gr w' a j).map β = (gr w a j).map α := by
    intro j hj
    rw [hg]
    cases hx : gr w a j with
    | none => rfl
    | some b => simp only [Option.map_some]; rw [hb b (hj b hx)]
  rcases h with ⟨h0, cA, f, t0, rfl, h1, h2⟩ | ⟨h0, cA, f, t0, rfl, h1, h2⟩ | ⟨h0, cA, f, t0, rfl, h1, h2⟩ | ⟨ci, r, fs, h0, rfl, h1, h2, h3⟩
  · exact Or.inl ⟨by rw [hk]; exact h0, cA, f, t0, by rw [hl], ht _ _ h1, fun i => by rw [h2, hi]⟩
  · exact Or.inr (Or.inl ⟨by rw [hk]; exact h0, cA, f, t0, by rw [hl], ht _ _ h1, fun i => by rw [h2, hi]⟩)
  · exact Or.inr (Or.inr (Or.inl ⟨by rw [hk]; exact h0, cA, f, t0, by rw [hl], ht _ _ h1, fun i => ⟨by rw [(h2 i).1, hm i (h2 i).2], fun b hb' => Nat.lt_of_lt_of_le ((h2 i).2 b (by rw [← hg]; exact hb')) hn⟩⟩))
  · refine Or.inr (Or.inr (Or.inr ⟨ci, r, fs, by rw [hk]; exact h0, rfl, h1, h2, fun k hk' => ?_⟩))
    have h4 := h3 k hk'
    unfold FR at h4 ⊢
    split
    · rename_i hs
      rw [if_pos hs] at h4
      exact ⟨by rw [h4.1, hm k h4.2], fun b hb' => Nat.lt_of_lt_of_le (h4.2 b (by rw [← hg]; exact hb')) hn⟩
    · rename_i hs
      rw [if_neg hs] at h4
      rw [hi]
      exact h4
theorem WC.upd {e' : va_E} (h : WC α D B w U H ws tys) (hn : nx w' = nx w) (hk : ∀ b, kd w' b = kd w b) (hl : ∀ b, ln w' b = ln w b) (ha : 1 ≤ a ∧ a < nx w) (hP : va_P D vwCl (ws.set (a - 1) (α a, e')) H1) (hD : va_D (aB B) (ws.set (a - 1) (α a, e'))) (ho : ∀ b, b ≠ a → (∀ j, gi w' b j = gi w b j) ∧ ∀ j, gr w' b j = gr w b j) (hc : CR α tys w' a e') : WC α D B w' U H1 (ws.set (a - 1) (α a, e')) tys := by
  obtain ⟨h1, -, -, h4, h5, h6, h7⟩ := h
  refine ⟨h1, hP, hD, by rw [hn]; exact h4, by rw [List.length_set, hn]; exact h5, fun b hb1 hb2 => ?_, fun b hb => by rw [hk]; exact h7 b (by rw [← hn]; exact hb)⟩
  rw [hn] at hb2
  by_cases hba : b = a
  · subst hba
    exact ⟨e', by rw [List.getElem?_set_self (by omega)], hc⟩
  · obtain ⟨e, he, hcr⟩ := h6 b hb1 hb2
    exact ⟨e, by rw [List.getElem?_set_ne (by omega)]; exact he, hcr.cong (by omega) (fun _ _ => rfl) (fun _ _ h => h) (hk b) (hl b) (ho b hba).1 (ho b hba).2⟩
theorem WC.push {kind len sz q : Nat} {e' : va_E} {ty : List (ClassId × FieldType)} {β : Nat → Nat} (h : WC α D B w U H ws tys) (hβ : β = fun b => if b = nx w then q else α b) (hK : va_K D vwCl (tys ++ ty) U) (hP : va_P D vwCl (ws ++ [(q, e')]) H1) (hD : va_D (aB B) (ws ++ [(q, e')])) (hc : CR β (tys ++ ty) (al w kind len sz) (nx w) e') : WC β D B (al w kind len sz) U H1 (ws ++ [(q, e')]) (tys ++ ty) := by
  obtain ⟨-, -, -, h4, h5, h6, h7⟩ := h
  have hnx : nx (al w kind len sz) = nx w + 1 := rfl
  refine ⟨hK, hP, hD, by rw [hnx]; omega, by rw [List.length_append, hnx]; simp only [List.length_singleton]; omega, fun b hb1 hb2 => ?_, fun b hb => ?_⟩
  · rw [hnx] at hb2
    by_cases hb : b = nx w
    · subst hb
      refine ⟨e', ?_, hc⟩
      rw [List.getElem?_append_right (by omega), hβ]
      rw [show nx w - 1 - ws.length = 0 by omega]
      simp
    · obtain ⟨e, he, hcr⟩ := h6 b hb1 (by omega)
      refine ⟨e, ?_, hcr.cong (by rw [hnx]; omega) (fun c hc => ?_) (fun t q ht => ?_) ?_ ?_ ?_ ?_⟩
      · rw [List.getElem?_append_left (by omega), he, hβ]
        simp [hb]
      · rw [hβ]; simp only; rw [if_neg (by omega)]
      · rw [List.getElem?_append_left ((List.getElem?_eq_some_iff.mp ht).1)]
        exact ht
      · simp [kd, al, u1, hb]
      · simp [ln, al, u1, hb]
      · intro j; simp [gi, al, z2, hb]
      · intro j; simp [gr, al, z2, hb]
  · rw [hnx] at hb
    have hb2 : b ≠ nx w := by omega
    have := h7 b (by omega)
    simpa [kd, al, u1, hb2] using this
end WCs
theorem kd_si (w : MW) (a j b : Nat) (v : Int) : kd (si w a j v) b = kd w b := rfl
theorem kd_sr (w : MW) (a j b : Nat) (v : Option Nat) : kd (sr w a j v) b = kd w b := rfl
theorem gi_si (w : MW) (a j b i : Nat) (v : Int) : gi (si w a j v) b i = if b = a ∧ i = j then v else gi w b i := rfl
theorem gr_sr (w : MW) (a j b i : Nat) (v : Option Nat) : gr (sr w a j v) b i = if b = a ∧ i = j then v else gr w b i := rfl
theorem va_S.size {A : Nat → Prop} {H0 H : Heap} {locs : List Loc} (h : va_S A H0 H locs) : H0.size ≤ H.size := h.1

