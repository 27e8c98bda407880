/-! runs grow the world; a frame from its run; contracts of all methods -/
def GrowAct (w : MW) (act : Act) : Prop := match act with
  | .inl (_, _, _, w') => nx w ≤ nx w' ∧ sl w ≤ sl w'
  | .inr (.inl (_, w')) => nx w ≤ nx w' ∧ sl w ≤ sl w'
  | .inr (.inr (_, _, _, _, _, _, w')) => nx w ≤ nx w' ∧ sl w ≤ sl w'
def GO (w : MW) (o : Option Act) : Prop := ∀ a, o = some a → GrowAct w a
theorem GO_none {w : MW} : GO w none := fun _ h => by cases h
theorem GO_gd {w : MW} {c : Prop} [Decidable c] {o : Option Act} (h : GO w o) : GO w (gd c o) := fun a ha => h a (gd_inv ha).2
theorem GO_ite {w : MW} {c : Prop} [Decidable c] {o o2 : Option Act} (h : GO w o) (h2 : GO w o2) : GO w (if c then o else o2) := by
  split
  · exact h
  · exact h2
theorem GO_s1I {w : MW} {st : List MV} {f : Int → List MV → Option Act} (h : ∀ x r, GO w (f x r)) : GO w (s1I st f) := fun a ha => by
  obtain ⟨x, r, -, ha⟩ := s1I_inv ha
  exact h x r a ha
theorem GO_s1R {w : MW} {st : List MV} {f : Nat → List MV → Option Act} (h : ∀ x r, GO w (f x r)) : GO w (s1R st f) := fun a ha => by
  obtain ⟨x, r, -, ha⟩ := s1R_inv ha
  exact h x r a ha
theorem GO_s2I {w : MW} {st : List MV} {f : Int → Int → List MV → Option Act} (h : ∀ x y r, GO w (f x y r)) : GO w (s2I st f) := fun a ha => by
  obtain ⟨x, y, r, -, ha⟩ := s2I_inv ha
  exact h x y r a ha
theorem GO_lgI {w : MW} {L : List (Option MV)} {i : Nat} {f : Int → Option Act} (h : ∀ x, GO w (f x)) : GO w (lgI L i f) := fun a ha => by
  obtain ⟨x, -, ha⟩ := lgI_inv ha
  exact h x a ha
theorem GO_lgR {w : MW} {L : List (Option MV)} {i : Nat} {f : Nat → Option Act} (h : ∀ x, GO w (f x)) : GO w (lgR L i f) := fun a ha => by
  obtain ⟨x, -, ha⟩ := lgR_inv ha
  exact h x a ha
theorem GO_go {w w' : MW} {pc : Nat} {L : List (Option MV)} {st : List MV} (h : nx w ≤ nx w' ∧ sl w ≤ sl w') : GO w (aGo pc L st w') := fun a ha => by
  rw [aGo_inv ha]
  exact h
theorem GO_ret {w : MW} {v : Option MV} : GO w (aRet v w) := fun a ha => by
  rw [aRet_inv ha]
  exact ⟨Nat.le_refl _, Nat.le_refl _⟩
theorem GO_call {w : MW} {kind k n ci pc : Nat} {b : Bool} {L : List (Option MV)} {st : List MV} : GO w (mcall kind k n ci b pc L st w) := fun a ha => by
  cases b with
  | true =>
    obtain ⟨b, as, s2, -, -, -, -, rfl⟩ := mcallV_inv ha
    exact ⟨Nat.le_refl _, Nat.le_refl _⟩
  | false =>
    obtain ⟨as, s2, -, -, -, rfl⟩ := mcallS_inv ha
    exact ⟨Nat.le_refl _, Nat.le_refl _⟩
set_option maxHeartbeats 4000000 in
theorem mstep_grow {X : Nat × (Nat → Int)} {i : Instr} {n : Nat} {u : List Nat} {pc : Nat} {L : List (Option MV)} {st : List MV} {w : MW} : GO w (mstep X i n u pc L st w) := by
  unfold mstep
  split
  all_goals (repeat' (first | exact GO_none | exact GO_ret | exact GO_call | exact GO_go ⟨Nat.le_refl _, Nat.le_refl _⟩ | exact GO_go ⟨Nat.le_succ _, Nat.le_add_right _ _⟩ | refine GO_gd ?_ | refine GO_s2I fun _ _ _ => ?_ | refine GO_s1I fun _ _ => ?_ | refine GO_s1R fun _ _ => ?_ | refine GO_lgI fun _ => ?_ | refine GO_lgR fun _ => ?_ | split))
theorem ex_grow {X : Nat × (Nat → Int)} : ∀ (n d k pc : Nat) (L : List (Option MV)) (st : List MV) (w : MW) (r : Option MV × MW), ex X n d k pc L st w = some r → nx w ≤ nx r.2 ∧ sl w ≤ sl r.2 := by
  intro n
  induction n with
  | zero => intro d k pc L st w r h; simp [ex] at h
  | succ n ih =>
    intro d k pc L st w r h
    rw [ex] at h
    cases hs : stepAt X k pc L st w with
    | none => rw [hs] at h; cases h
    | some a =>
      rw [hs] at h
      have hg : GrowAct w a := by
        unfold stepAt at hs
        split at hs
        · cases hs
        · exact mstep_grow a hs
      rcases a with ⟨pc', L', st', w'⟩ | ⟨v, w'⟩ | ⟨kind, k', as, pc', L', st', w'⟩
      · have h1 := ih _ _ _ _ _ _ _ h
        exact ⟨Nat.le_trans hg.1 h1.1, Nat.le_trans hg.2 h1.2⟩
      · cases h
        exact hg
      · cases d with
        | zero => cases h
        | succ d =>
          dsimp only at h
          cases h1 : ex X n d k' 0 (entry k' as) [] w' with
          | none => rw [h1] at h; cases h
          | some r1 =>
            rw [h1] at h
            dsimp only at h
            cases h2 : pushR kind r1.1 st' with
            | none => rw [h2] at h; cases h
            | some st2 =>
              rw [h2] at h
              have a1 := ih _ _ _ _ _ _ _ h1
              have a2 := ih _ _ _ _ _ _ _ h
              exact ⟨Nat.le_trans hg.1 (Nat.le_trans a1.1 a2.1), Nat.le_trans hg.2 (Nat.le_trans a1.2 a2.2)⟩
def OkAll : Prop := ∀ (k pc : Nat) (e : MC), cd k pc = some e → okI k pc e = true
section SF
variable {p : Program} {l : Launch} {e : Env} {Rm : Room} {s : State} {m : MethodId} {args : Array Value} {below : List Frame} {meth : Method} {c : Code} {Q : State → Prop} {D : va_G} {B n0 : Nat} {α0 : Nat → Nat}
theorem cont_kill {k mc ms pc : Nat} {r : Option MV × MW} {ds : List Nat} {L : List (Option MV)} {st : List MV} {w : MW} (h : Cont p l e Rm s m args below meth c Q D B n0 α0 k mc ms r pc (kill ds L) st w) : Cont p l e Rm s m args below meth c Q D B n0 α0 k mc ms r pc L st w := by
  refine ⟨h.1, fun cells slots h1 h2 h3 h4 => ?_⟩
  intro α ls stk H locs ha hl hs hw hS
  exact h.2 cells slots (by rw [kill_len]; exact h1) h2 h3 h4 α ls stk H locs ha (hl.kill ds) hs hw hS
theorem sim_frame {X : Nat × (Nat → Int)} {k d mc ms : Nat} {r : Option MV × MW} (hokA : OkAll) (hmet : ∀ (d' n' k' : Nat) (as : List MV) (w1 : MW) (r1 : Option MV × MW), d = d' + 1 → 1 ≤ k' → ex X n' d' k' 0 (entry k' as) [] w1 = some r1 → MetK X l D B d' k' as w1 r1.2 r1.1)
    (C : Cx p Rm s m args meth c B k d) (hR : mc ≤ Rm.cells ∧ ms ≤ Rm.slots) (hend : EndOk p l e Rm s m args below meth c Q D B n0 α0 k mc ms r) (hscr : ScrOk s B n0 k α0 X) :
    ∀ (n pc : Nat) (L : List (Option MV)) (st : List MV) (w : MW), ex X n d k pc L st w = some r → Cont p l e Rm s m args below meth c Q D B n0 α0 k mc ms r pc L st w := by
  intro n
  induction n with
  | zero => intro pc L st w h; simp [ex] at h
  | succ n ih =>
    intro pc L st w h
    rw [ex] at h
    cases hs : stepAt X k pc L st w with
    | none => rw [hs] at h; cases h
    | some act =>
      rw [hs] at h
      unfold stepAt at hs
      split at hs
      · cases hs
      · rename_i i nn u ds hcd
        have hok := hokA k pc _ hcd
        unfold okI at hok
        simp only [Bool.and_eq_true, decide_eq_true_eq] at hok
        obtain ⟨⟨hdec, hlen⟩, hokr⟩ := hok
        refine cont_kill (ds := ds) (sim_step C hR hend hscr hdec hlen hokr hs ?_ ?_ ?_)
        · intro pc' L' st' w' ea
          subst ea
          exact ih _ _ _ _ h
        · intro v w' ea
          subst ea
          exact (Option.some.inj h).symm
        · rcases act with ⟨pc', L', st', w'⟩ | ⟨v, w'⟩ | ⟨kind, k', as, pc', L', st', w'⟩
          · trivial
          · trivial
          · cases d with
            | zero => cases h
            | succ d =>
              dsimp only at h
              cases h1 : ex X n d k' 0 (entry k' as) [] w' with
              | none => rw [h1] at h; cases h
              | some r1 =>
                rw [h1] at h
                dsimp only at h
                cases h2 : pushR kind r1.1 st' with
                | none => rw [h2] at h; cases h
                | some st2 =>
                  rw [h2] at h
                  exact ⟨d, r1, st2, rfl, fun hk => ⟨ex_grow _ _ _ _ _ _ _ _ h1, hmet d n k' as w' r1 rfl hk h1⟩, h2, ih _ _ _ _ h⟩
end SF
