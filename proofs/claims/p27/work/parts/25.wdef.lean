/-! weights: the narrowing and the search, without the machine -/
abbrev AB : Type := (Int → Int) × (Int → Int)
def lm (r : AB) (x l h : Int) : AB := (fun j => if j = x ∧ r.1 x < l then l else r.1 j, fun j => if j = x ∧ h < r.2 x then h else r.2 j)
def lmc (r : AB) (x l h : Int) : Bool := decide (r.1 x < l ∨ h < r.2 x)
def n1 (r : AB) (s : T3) : AB := lm r s.2.2 (r.1 s.1 + r.1 s.2.1) (r.2 s.1 + r.2 s.2.1)
def n2 (r : AB) (s : T3) : AB := lm r s.1 (r.1 s.2.2 - r.2 s.2.1) (r.2 s.2.2 - r.1 s.2.1)
def n3 (r : AB) (s : T3) : AB := lm r s.2.1 (r.1 s.2.2 - r.2 s.1) (r.2 s.2.2 - r.1 s.1)
def n4 (r : AB) (s : T3) : AB := if s.1 = s.2.1 then lm r s.1 (divI (r.1 s.2.2 + 1) 2) (divI (r.2 s.2.2) 2) else r
def c1 (r : AB) (s : T3) : Bool := lmc r s.2.2 (r.1 s.1 + r.1 s.2.1) (r.2 s.1 + r.2 s.2.1)
def c2 (r : AB) (s : T3) : Bool := lmc r s.1 (r.1 s.2.2 - r.2 s.2.1) (r.2 s.2.2 - r.1 s.2.1)
def c3 (r : AB) (s : T3) : Bool := lmc r s.2.1 (r.1 s.2.2 - r.2 s.1) (r.2 s.2.2 - r.1 s.1)
def c4 (r : AB) (s : T3) : Bool := if s.1 = s.2.1 then lmc r s.1 (divI (r.1 s.2.2 + 1) 2) (divI (r.2 s.2.2) 2) else false
def ns (r : AB) (s : T3) : AB := n4 (n3 (n2 (n1 r s) s) s) s
def nsc (r : AB) (s : T3) : Bool := c1 r s || c2 (n1 r s) s || c3 (n2 (n1 r s) s) s || c4 (n3 (n2 (n1 r s) s) s) s
def emp (r : AB) (x : Int) : Bool := decide (r.2 x < r.1 x)
def nrA : List T3 → AB → Bool → Option (AB × Bool)
  | [], r, c => some (r, c)
  | s :: ps, r, c => if emp (ns r s) s.1 || emp (ns r s) s.2.1 || emp (ns r s) s.2.2 then none else nrA ps (ns r s) (c || nsc r s)
def nrR (ps : List T3) : Nat → AB → Option AB
  | 0, r => some r
  | k + 1, r => match nrA ps r false with
    | none => none
    | some (r', c) => if c then nrR ps k r' else some r'
def nrw (n : Int) (ps : List T3) (r : AB) : Option AB := if lsA (fun x => emp r x) n = 12 then nrR ps 100 r else none
/-- all ranges within 0..6, none empty -/
def Bd (n : Int) (r : AB) : Prop := ∀ x, 0 ≤ x → x < n → 0 ≤ r.1 x ∧ r.1 x ≤ r.2 x ∧ r.2 x ≤ 6
def Bx (n m : Int) (r : AB) : Prop := ∀ x, 0 ≤ x → x < n → (-m ≤ r.1 x ∧ r.1 x ≤ m) ∧ (-m ≤ r.2 x ∧ r.2 x ≤ m)
def shr (n : Int) (r r' : AB) : Prop := ∀ x, 0 ≤ x → x < n → r.1 x ≤ r'.1 x ∧ r'.2 x ≤ r.2 x
def psIn (n : Int) (s : T3) : Prop := (0 ≤ s.1 ∧ s.1 < n) ∧ (0 ≤ s.2.1 ∧ s.2.1 < n) ∧ (0 ≤ s.2.2 ∧ s.2.2 < n)
section WD
variable {n m : Int} {r r' : AB} {s : T3} {ps : List T3}
theorem lm_shr {x l h : Int} : shr n r (lm r x l h) := by
  intro j h0 h1
  unfold lm
  dsimp only
  by_cases e : j = x
  · subst e
    (repeat' split) <;> omega
  · rw [if_neg (fun q => e q.1), if_neg (fun q => e q.1)]
    omega
theorem shr.rf : shr n r r := fun _ _ _ => ⟨Int.le_refl _, Int.le_refl _⟩
theorem shr.tr {r2 : AB} (h : shr n r r') (h2 : shr n r' r2) : shr n r r2 := fun x h0 h1 => ⟨Int.le_trans (h x h0 h1).1 (h2 x h0 h1).1, Int.le_trans (h2 x h0 h1).2 (h x h0 h1).2⟩
theorem n4_shr : shr n r (n4 r s) := by
  unfold n4
  split
  · exact lm_shr
  · exact shr.rf
theorem ns_shr : shr n r (ns r s) := ((lm_shr.tr lm_shr).tr lm_shr).tr n4_shr
theorem lm_bx {x l h : Int} (hr : Bx n m r) (hl : -m ≤ l ∧ l ≤ m) (hh : -m ≤ h ∧ h ≤ m) : Bx n m (lm r x l h) := by
  intro j h0 h1
  have := hr j h0 h1
  unfold lm
  dsimp only
  (repeat' split) <;> omega
theorem Bx.mono {m' : Int} (h : Bx n m r) (hm : m ≤ m') : Bx n m' r := fun x h0 h1 => by have := h x h0 h1; omega
theorem Bd.bx (h : Bd n r) : Bx n 6 r := fun x h0 h1 => by have := h x h0 h1; omega
theorem n1_bx (hr : Bx n 6 r) (hs : psIn n s) : Bx n 12 (n1 r s) := by
  have h1 := hr s.1 hs.1.1 hs.1.2
  have h2 := hr s.2.1 hs.2.1.1 hs.2.1.2
  exact lm_bx (hr.mono (by omega)) (by omega) (by omega)
theorem n2_bx (hr : Bx n 12 r) (hs : psIn n s) : Bx n 24 (n2 r s) := by
  have h1 := hr s.2.1 hs.2.1.1 hs.2.1.2
  have h2 := hr s.2.2 hs.2.2.1 hs.2.2.2
  exact lm_bx (hr.mono (by omega)) (by omega) (by omega)
theorem n3_bx (hr : Bx n 24 r) (hs : psIn n s) : Bx n 48 (n3 r s) := by
  have h1 := hr s.1 hs.1.1 hs.1.2
  have h2 := hr s.2.2 hs.2.2.1 hs.2.2.2
  exact lm_bx (hr.mono (by omega)) (by omega) (by omega)
/-- a step that leaves no range empty keeps the bounds -/
theorem ns_other {x : Int} (h1 : x ≠ s.1) (h2 : x ≠ s.2.1) (h3 : x ≠ s.2.2) : (ns r s).1 x = r.1 x ∧ (ns r s).2 x = r.2 x := by
  have lo : ∀ (q : AB) (y l h : Int), x ≠ y → (lm q y l h).1 x = q.1 x ∧ (lm q y l h).2 x = q.2 x := fun q y l h hy => ⟨if_neg (fun z => hy z.1), if_neg (fun z => hy z.1)⟩
  have l4 : ∀ q : AB, (n4 q s).1 x = q.1 x ∧ (n4 q s).2 x = q.2 x := fun q => by
    unfold n4
    split
    · exact lo _ _ _ _ h1
    · exact ⟨rfl, rfl⟩
  unfold ns
  have e4 := l4 (n3 (n2 (n1 r s) s) s)
  have e3 := lo (n2 (n1 r s) s) s.2.1 ((n2 (n1 r s) s).1 s.2.2 - (n2 (n1 r s) s).2 s.1) ((n2 (n1 r s) s).2 s.2.2 - (n2 (n1 r s) s).1 s.1) h2
  have e2 := lo (n1 r s) s.1 ((n1 r s).1 s.2.2 - (n1 r s).2 s.2.1) ((n1 r s).2 s.2.2 - (n1 r s).1 s.2.1) h1
  have e1 := lo r s.2.2 (r.1 s.1 + r.1 s.2.1) (r.2 s.1 + r.2 s.2.1) h3
  exact ⟨e4.1.trans (e3.1.trans (e2.1.trans e1.1)), e4.2.trans (e3.2.trans (e2.2.trans e1.2))⟩
theorem ns_bd (hr : Bd n r) (he : ¬ (emp (ns r s) s.1 || emp (ns r s) s.2.1 || emp (ns r s) s.2.2) = true) : Bd n (ns r s) := by
  intro x h0 h1
  have h2 := hr x h0 h1
  have h3 := ns_shr (n := n) (r := r) (s := s) x h0 h1
  simp only [Bool.or_eq_true, not_or, Bool.not_eq_true] at he
  obtain ⟨⟨e1, e2⟩, e3⟩ := he
  have e1' := of_decide_eq_false e1
  have e2' := of_decide_eq_false e2
  have e3' := of_decide_eq_false e3
  by_cases a1 : x = s.1
  · rw [a1] at h3 h2 ⊢; omega
  · by_cases a2 : x = s.2.1
    · rw [a2] at h3 h2 ⊢; omega
    · by_cases a3 : x = s.2.2
      · rw [a3] at h3 h2 ⊢; omega
      · have := ns_other (r := r) (s := s) a1 a2 a3
        omega
theorem nrA_bd : ∀ (ps : List T3) (r : AB) (c : Bool) {r' : AB} {c' : Bool}, Bd n r → nrA ps r c = some (r', c') → Bd n r' ∧ shr n r r'
  | [], r, c, r', c', hr, h => by
    cases h
    exact ⟨hr, shr.rf⟩
  | s :: ps, r, c, r', c', hr, h => by
    rw [nrA] at h
    split at h
    · cases h
    · next he =>
      have := nrA_bd ps _ _ (ns_bd hr he) h
      exact ⟨this.1, ns_shr.tr this.2⟩
theorem nrR_bd : ∀ (k : Nat) (r : AB) {r' : AB}, Bd n r → nrR ps k r = some r' → Bd n r' ∧ shr n r r'
  | 0, r, r', hr, h => by
    cases h
    exact ⟨hr, shr.rf⟩
  | k + 1, r, r', hr, h => by
    rw [nrR] at h
    split at h
    · cases h
    · next r2 c2 he =>
      have h1 := nrA_bd ps r false hr he
      split at h
      · have := nrR_bd k r2 h1.1 h
        exact ⟨this.1, h1.2.tr this.2⟩
      · cases h
        exact h1
end WD
