/-! THE CLAIM OUT OF ONE WALK OF THE LAW'S BODY. Your part is whole_start (and what it stands on); all else here is the same for every law, but numbers. -/
def R_law : String := "SometimesSumsLaw"
def lw_P (b : Addr) (xs : List Int32) (args : Array Value) (s : State) : Prop := args = #[.ref b] ∧ s.IntsAt b xs ∧ xs.length ≤ 260 ∧ (Jvm.Cond.and given_1 narrow_1).before args s = true
def lw_Q (_ : Array Value) (s : State) (o : Outcome) (t : State) : Prop := o = .returned (some (.int 1)) ∧ Framed s o t [] 600000 7302250
def lw_Z (below : List Frame) (a : Array Value) (s : State) : State → Prop := fun t => ∃ o, t.status = .running ∧ Ended t below o ∧ lw_Q a s o t
/-- the law's own end, with 1 on the stack, nothing written that was there before, its room as the claim has it -/
theorem lw_ret {p : Program} {l : Launch} {e : Env} {s : State} {m : MethodId} {below : List Frame} {meth : Method} {c : Code} {b : Nat} (hx : p.tables.exec = Jvm.exec) (hb : c.code = code) (hr : meth.sig.returnType = ret) (hlocks : meth.locks = false) {pc : Nat} {H : Heap} {ls : Array Slot} (hdg : decode code pc = .ok (.ireturn, 1)) : W p l e room_1 s m #[Value.ref b] below meth c H [] 600000 7302250 (lw_Z below #[Value.ref b] s) (F0 m pc ls [.int 1]) := by
  intro T hT X
  obtain ⟨fs, hret, hrun, hended, hW, hframe⟩ := X.leave (v := some (.int 1)) (hlocks := hlocks) (fun h => by rw [hr] at h; cases h)
  have hmeth' : T.vm.method? m = some meth := X.method'
  refine ⟨T.setFrames fs, ?_, .returned (some (.int 1)), hrun, hended, rfl, ⟨_, rfl⟩, hW, hframe⟩
  jvm_step X.here [X.here.top, hx, hb, hdg, hmeth', hr, ret, narrow_b1]
  (try refine ⟨rfl, ?_⟩); (try refine ⟨rfl, ?_⟩)
  first | (intro acts; rw [hret _ acts rfl rfl rfl]) | rw [hret _ _ rfl rfl rfl]
  exact Steps.refl _
/-- what holds at the law's entry: the machine, the code, the tables' words (any of lw_tbl by 'hts w (by decide +kernel)'), the script of L ints xs at the cell b, what the Statement gives of the start (any of its parts by flat_of_before) -/
def lw_At (p : Program) (s : State) (m : MethodId) (meth : Method) (c : Code) (b L : Nat) (xs : Nat → Int32) : Prop :=
  p.tables.exec = Jvm.exec ∧ c.code = code ∧ meth.sig.returnType = ret ∧ c.maxLocals = 9 ∧ s.vm.findClass R_law = some m.cls ∧ (∀ w ∈ lw_tbl, w.before #[Value.ref b] s = true) ∧ va_X b L xs s s.heap ∧ b < s.heap.size ∧ meth.locks = false ∧ (Jvm.Cond.and given_1 narrow_1).before #[Value.ref b] s = true
/-- the start: no cell yet -/
def w00 : MW := (((1, 0), fun _ => 0, fun _ => 0), fun _ _ => 0, fun _ _ => none)
/-- what is left: the small machine's run of the law answers 1 -/
def LawRuns : Prop := ∀ (L : Nat) (f : Nat → Int), L ≤ 260 → (∀ i, -2147483648 ≤ f i ∧ f i < 2147483648) → ∃ (d : Nat) (w1 : MW), d ≤ 100 ∧ run (L, f) d 0 [.inr 0] w00 = some (some (.inl 1), w1) ∧ nx w1 ≤ 1000 ∧ sl w1 ≤ 100000
theorem instAll : ∀ (ci : Nat) (r : vw_C), vwCl[ci]? = some r → ∃ n, Cond.instantiable r.1 n ∈ gtbl := by
  intro ci r h
  match ci, h with
  | 0, h => cases h; exact ⟨2, by decide +kernel⟩
  | 1, h => cases h; exact ⟨5, by decide +kernel⟩
  | 2, h => cases h; exact ⟨5, by decide +kernel⟩
  | 3, h => cases h; exact ⟨2, by decide +kernel⟩
  | 4, h => cases h; exact ⟨7, by decide +kernel⟩
  | 5, h => cases h; exact ⟨13, by decide +kernel⟩
  | 6, h => cases h; exact ⟨9, by decide +kernel⟩
  | n + 7, h => simp [vwCl] at h
theorem start_of (hokA : OkAll) (hrun : LawRuns) {p : Program} {e : Env} {s : State} {m : MethodId} {below : List Frame} {meth : Method} {c : Code} (l : Launch) {b L : Nat} {xs : Nat → Int32} (hL : L ≤ 260) (C0 : lw_At p s m meth c b L xs) : W p l e room_1 s m #[Value.ref b] below meth c s.heap [] 0 0 (lw_Z below #[Value.ref b] s) (entryFrame m ([Value.ref b] : List Value).toArray 9) := by
  obtain ⟨hx, hb, hr, hml, hown, hts, hX, hbl, hlocks, hgv⟩ := id C0
  obtain ⟨d, w1, hd, hr1, hn1, hs1⟩ := hrun L (fun i => (xs i).toInt) hL (fun i => i32_rng (xs i))
  obtain ⟨n, hex⟩ := R_iff.mp hr1
  have hg : ∀ w ∈ gtbl, w.before #[Value.ref b] s = true := fun w hw => hts w (List.mem_filter.mp hw).1
  have key : ∀ k : Nat, ∃ (q : ClassId × (Nat → Nat)), ∀ r : vw_C, vwCl[k]? = some r → u_Kn s r.1 r.2.1 r.2.2 q.1 q.2 := by
    intro k
    cases hk : vwCl[k]? with
    | none => exact ⟨(0, fun _ => 0), fun r h => by cases h⟩
    | some r =>
      obtain ⟨n, hi⟩ := instAll k r hk
      obtain ⟨cC, iS, h1⟩ := u_known hg (clsOk k r hk).1 (hg _ hi)
      exact ⟨(cC, iS), fun r' h => by cases h; exact h1⟩
  have hK : va_K (fun k => (Classical.choose (key k)).1, fun k => (Classical.choose (key k)).2) vwCl [] s := ⟨fun k q h => Classical.choose_spec (key k) q h, fun k q h => by simp at h⟩
  have hNW : NW s := ⟨⟨va_Nw.of rfl (hts _ (by decide +kernel)), va_Nw.of rfl (hts _ (by decide +kernel)), va_Nw.of rfl (hts _ (by decide +kernel))⟩, va_AO.of (hts _ (by decide +kernel))⟩
  have C : Cx p room_1 s m #[Value.ref b] meth c s.heap.size 0 d := ⟨hx, hb, hml, hown, hg, hNW, ⟨by show d + 1 ≤ 2048; omega, by show 64 * (d + 1) ≤ 84000; omega⟩, fun h => absurd h (by decide +kernel), Nat.le_refl _⟩
  have hgr := ex_grow _ _ _ _ _ _ _ _ hex
  have hn0 : nx w00 = 1 := rfl
  have hs0 : sl w00 = 0 := rfl
  rw [lg_entry_eq]
  have hcont := sim_frame (l := l) (e := e) (below := below) (Q := lw_Z below #[Value.ref b] s) (D := (fun k => (Classical.choose (key k)).1, fun k => (Classical.choose (key k)).2)) (n0 := 1) (α0 := fun _ => b) (X := (L, fun i => (xs i).toInt)) (mc := nx w1 - 1) (ms := sl w1) (r := (some (.inl 1), w1)) hokA (fun d' n' k' as w2 r2 _ hk' h1 => met_all hokA l _ _ d' n' k' as w2 r2 hk' h1) C ⟨by show nx w1 - 1 ≤ 600000; omega, by show sl w1 ≤ 7302250; omega⟩ ?_ ⟨⟨xs, hX, hbl, Nat.not_le.mpr hbl, fun _ => rfl⟩, Nat.zero_lt_one⟩ n 0 (entry 0 [.inr 0]) [] w00 hex
  · refine hcont.2 0 0 (by decide +kernel) (by dsimp only; dsimp only at hgr; omega) (by dsimp only; dsimp only at hgr; omega) (Nat.le_refl _) (fun _ => b) _ [] s.heap [] (fun _ _ => rfl) (entry_LR (vals := [.ref b]) ⟨⟨rfl, Nat.zero_lt_one⟩, trivial⟩ (by decide +kernel)) trivial ⟨[], [], hK, fun k q h => by simp at h, ⟨fun i j p q h => by simp at h, fun k q h => by simp at h⟩, Nat.le_refl _, rfl, fun a h1 h2 => by rw [hn0] at h2; omega, fun _ _ => rfl⟩ va_S.rf
  · intro α pc ls stk H locs ha hra hw hS
    obtain ⟨x, h1, rfl, h2, -⟩ := hra
    have hx1 : x = 1 := Int32.toInt_inj.mp h2
    subst hx1
    refine va_forget (fun q hq => hS.2.2 q hq) ?_
    refine W.widen (k := 600000) (n := 7302250) (by omega) (by omega) ?_
    exact lw_ret hx hb hr hlocks h1
