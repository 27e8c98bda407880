/-! contracts of all methods; the law from its run -/
theorem lg_sl1 : ∀ {vals : List Value}, (∀ v ∈ vals, v.category = 1) → lg_sl vals = vals.map Slot.val
  | [], _ => rfl
  | v :: vs, h => by
    have h1 := h v List.mem_cons_self
    have h2 := lg_sl1 (vals := vs) (fun x hx => h x (List.mem_cons_of_mem _ hx))
    unfold lg_sl at h2 ⊢
    rw [List.flatMap_cons, h2, if_neg (by rw [h1]; decide)]
    rfl
theorem lv_args1 : ∀ {vals : List Value} (i : Nat), (∀ v ∈ vals, v.category = 1) → ∀ (j : Nat) (x : Value), vals[j]? = some x → (i + j, x) ∈ lv_args i vals
  | [], _, _, _, _, hx => by simp at hx
  | v :: vs, i, h, j, x, hx => by
    have h1 := h v List.mem_cons_self
    unfold lv_args
    cases j with
    | zero =>
      have : v = x := by simpa using hx
      subst this
      exact List.mem_cons_self
    | succ j =>
      rw [if_neg (by rw [h1]; decide)]
      have := lv_args1 (i + 1) (fun x hx => h x (List.mem_cons_of_mem _ hx)) j x (by simpa using hx)
      rw [show i + (j + 1) = i + 1 + j by omega]
      exact List.mem_cons_of_mem _ this
theorem lv_args_mem : ∀ {vals : List Value} (i : Nat) (q : Nat × Value), q ∈ lv_args i vals → q.2 ∈ vals
  | [], _, _, h => by cases h
  | v :: vs, i, q, h => by
    unfold lv_args at h
    rcases List.mem_cons.mp h with h | h
    · rw [h]; exact List.mem_cons_self
    · exact List.mem_cons_of_mem _ (lv_args_mem _ _ h)
theorem SR.get {α : Nat → Nat} {n : Nat} : ∀ {as : List MV} {vals : List Value}, SR α n as vals → ∀ (i : Nat) (v : MV), as[i]? = some v → ∃ x, vals[i]? = some x ∧ VR α n v x
  | [], _, _, i, v, hi => by simp at hi
  | a :: as, vals, h, i, v, hi => by
    obtain ⟨x, q, rfl, h1, -, h2⟩ := h.c1
    cases i with
    | zero =>
      have : a = v := by simpa using hi
      subst this
      exact ⟨x, rfl, h1⟩
    | succ i => exact SR.get h2 i v (by simpa using hi)
theorem SR.cats {α : Nat → Nat} {n : Nat} : ∀ {as : List MV} {vals : List Value}, SR α n as vals → ∀ x ∈ vals, x.category = 1
  | [], vals, h => by rw [h.nil]; intro x hx; cases hx
  | a :: as, vals, h => by
    obtain ⟨x, q, rfl, h1, hc, h2⟩ := h.c1
    intro y hy
    rcases List.mem_cons.mp hy with hy | hy
    · rw [hy]; exact hc
    · exact SR.cats h2 y hy
theorem entry_len {k : Nat} {as : List MV} (h : as.length ≤ mL k) : (entry k as).length = mL k := by
  unfold entry
  rw [List.length_append, List.length_map, List.length_replicate]
  omega
theorem entry_LR {α : Nat → Nat} {n k : Nat} {as : List MV} {vals : List Value} (h : SR α n as vals) (hk : as.length ≤ mL k) : LR α n (entry k as) ((lg_sl vals ++ List.replicate (mL k - (lg_sl vals).length) Slot.unset).toArray) := by
  have hc := h.cats
  have hl : (lg_sl vals).length = as.length := by rw [lg_sl1 hc, List.length_map, h.len]
  refine ⟨lv_args 0 vals, ?_, fun q hq => hc _ (lv_args_mem _ _ hq), fun i v hi => ?_⟩
  · rw [entry_len hk]
    exact lv_entry vals (by omega)
  · unfold entry at hi
    by_cases hlt : i < as.length
    · rw [List.getElem?_append_left (by rw [List.length_map]; exact hlt), List.getElem?_map] at hi
      cases ha : as[i]? with
      | none => rw [ha] at hi; cases hi
      | some u =>
        rw [ha] at hi
        cases hi
        obtain ⟨x, hx, hv⟩ := h.get i _ ha
        refine ⟨x, ?_, hv⟩
        have := lv_args1 0 hc i x hx
        rw [Nat.zero_add] at this
        exact this
    · rw [List.getElem?_append_right (by rw [List.length_map]; omega)] at hi
      have := List.mem_of_getElem? hi
      have := List.eq_of_mem_replicate this
      cases this
theorem plainAll : ∀ k, k < 107 → 1 ≤ k → plainName (mY k).cls = true ∧ mOwn k = (mY k).cls := by decide +kernel
theorem cd_lt {k pc : Nat} {e : MC} (h : cd k pc = some e) : k < 107 := by
  rcases Nat.lt_or_ge k 107 with hk | hk
  · exact hk
  · exfalso
    have hn : mt k = mNone := by
      unfold mt
      rcases Nat.lt_or_ge k 112 with hk2 | hk2
      · have key2 : ∀ k, k < 112 → 107 ≤ k → k / 16 = 6 ∧ 11 ≤ k % 16 := by decide +kernel
        obtain ⟨e1, e2⟩ := key2 k hk2 hk
        rw [e1, List.getD_eq_getElem?_getD, List.getElem?_eq_none]
        · rfl
        · exact e2
      · have e3 : mtls.getD (k / 16) [] = [] := by
          rw [List.getD_eq_getElem?_getD, List.getElem?_eq_none]
          · rfl
          · show 7 ≤ k / 16
            omega
        rw [e3]
        rfl
    unfold cd at h
    rw [hn] at h
    cases h
theorem ex_lt {X : Nat × (Nat → Int)} {n d k pc : Nat} {L : List (Option MV)} {st : List MV} {w : MW} {r : Option MV × MW} (h : ex X n d k pc L st w = some r) : k < 107 := by
  cases n with
  | zero => simp [ex] at h
  | succ n =>
    rw [ex] at h
    cases hs : stepAt X k pc L st w with
    | none => rw [hs] at h; cases h
    | some act =>
      unfold stepAt at hs
      split at hs
      · cases hs
      · rename_i hcd
        exact cd_lt hcd
theorem met_one {X : Nat × (Nat → Int)} (hokA : OkAll) {l : Launch} {D : va_G} {B d n k : Nat} {as : List MV} {w : MW} {r : Option MV × MW} (hmet : ∀ (d' n' k' : Nat) (as : List MV) (w1 : MW) (r1 : Option MV × MW), d = d' + 1 → 1 ≤ k' → ex X n' d' k' 0 (entry k' as) [] w1 = some r1 → MetK X l D B d' k' as w1 r1.2 r1.1)
    (hk : 1 ≤ k) (h : ex X n d k 0 (entry k as) [] w = some r) : MetK X l D B d k as w r.2 r.1 := by
  intro hal α0 vals hvs
  have hgr := ex_grow _ _ _ _ _ _ _ _ h
  have hpl := plainAll k (ex_lt h) hk
  refine Met.ofW (cc := mB k) (maxL := mL k) (ret := mRet k) hpl.1 rfl ?_
  intro p e s m args below meth c s₁ Bd hml hv
  obtain ⟨rfl, hB, hN, hW, hX⟩ := hv
  have hts := atoms_spec (ws := .code (mY k) (mB k) (mL k) (mRet k) :: gtbl) Bd.pre
  have hlocks := Bd.notSynchronized
  have C : Cx p (rmF d (nx r.2 - nx w) (sl r.2 - sl w)) s m vals.toArray meth c B k d :=
    ⟨Bd.exec, Bd.bytes, hml, by rw [hpl.2]; exact findClass_of_methodNamed Bd.named, fun w hw => hts w (List.mem_cons_of_mem _ hw), hN, ⟨Nat.le_refl _, Nat.le_refl _⟩, fun hi => by rw [(name_of_methodNamed Bd.named Bd.method).1]; exact hi, hB⟩
  rw [lg_entry_eq]
  have hcont := sim_frame (l := l) (e := e) (below := below) (Q := MQ below (QcM D B α0 w r.2 r.1) vals.toArray s (nx r.2 - nx w) (sl r.2 - sl w) (aB B)) (D := D) (n0 := nx w) (α0 := α0) (X := X) (mc := nx r.2 - nx w) (ms := sl r.2 - sl w) (r := r) hokA hmet C ⟨Nat.le_refl _, Nat.le_refl _⟩ ?_ ⟨hX, by obtain ⟨ws, tys, q1, q2, q3, q4, -⟩ := hW; exact q4⟩ n 0 (entry k as) [] w h
  · exact hcont.2 0 0 (entry_len hal) (by omega) (by omega) (Nat.le_refl _) α0 _ [] s.heap [] (fun _ _ => rfl) (entry_LR hvs hal) trivial hW va_S.rf
  · intro α pc ls stk H locs ha hra hw hS
    obtain ⟨v, w'⟩ := r
    rcases v with _ | z | z
    · obtain ⟨h1, rfl, h3⟩ := hra
      exact W.vret C.1 C.2.1 (by rw [Bd.returns]; exact h3) (fun t ht hWt => ⟨⟨α, rfl, ha, by show WH _ _ _ _ t t.heap; rw [ht]; exact hw.moved hWt.alike⟩, hS.F ht⟩) hS.2.2 h1
    · obtain ⟨x, h1, rfl, rfl, h3⟩ := hra
      rcases h3 with h3 | ⟨h3, h4⟩
      · exact W.iret C.1 C.2.1 (by rw [Bd.returns]; exact h3) (fun t ht hWt => ⟨⟨x, α, rfl, ⟨rfl, ha⟩, by show WH _ _ _ _ t t.heap; rw [ht]; exact hw.moved hWt.alike⟩, hS.F ht⟩) hS.2.2 h1
      · refine W.zret (ty := .boolean) C.1 C.2.1 (by rw [Bd.returns]; exact h3) ?_ (fun t ht hWt => ⟨⟨x, α, rfl, ⟨rfl, ha⟩, by show WH _ _ _ _ t t.heap; rw [ht]; exact hw.moved hWt.alike⟩, hS.F ht⟩) hS.2.2 h1
        have hz : x = 0 ∨ x = 1 := by
          rcases h4 with h | h
          · exact Or.inl (Int32.toInt_inj.mp h)
          · exact Or.inr (Int32.toInt_inj.mp h)
        rcases hz with rfl | rfl <;> rfl
    · obtain ⟨h1, rfl, h2, h3⟩ := hra
      exact W.aret C.1 C.2.1 (by rw [Bd.returns]; exact h3) (Or.inl ⟨_, rfl⟩) (Or.inr ⟨_, rfl⟩) (fun t ht hWt => ⟨⟨α, _, rfl, ha, ⟨rfl, h2⟩, by show WH _ _ _ _ t t.heap; rw [ht]; exact hw.moved hWt.alike⟩, hS.F ht⟩) hS.2.2 h1
theorem met_all {X : Nat × (Nat → Int)} (hokA : OkAll) (l : Launch) (D : va_G) (B : Nat) : ∀ (d n k : Nat) (as : List MV) (w : MW) (r : Option MV × MW), 1 ≤ k → ex X n d k 0 (entry k as) [] w = some r → MetK X l D B d k as w r.2 r.1 := by
  intro d
  induction d with
  | zero =>
    intro n k as w r hk h
    exact met_one hokA (fun _ _ _ _ _ _ h0 => absurd h0 (by omega)) hk h
  | succ d ih =>
    intro n k as w r hk h
    refine met_one hokA (fun d' n' k' as' w1 r1 h0 hk' h1 => ?_) hk h
    have : d = d' := by omega
    subst this
    exact ih n' k' as' w1 r1 hk' h1
