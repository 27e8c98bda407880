/-! the small machine runs: by steps and depth; then without steps -/
abbrev RS : Type := Option (Option MV × MW)
def entry (k : Nat) (as : List MV) : List (Option MV) := as.map some ++ List.replicate (mL k - as.length) none
def pushR (kind : Nat) (v : Option MV) (st : List MV) : Option (List MV) := match kind, v with
  | 0, none => some st
  | 1, some (.inl x) => some (.inl x :: st)
  | 2, some (.inr x) => some (.inr x :: st)
  | _, _ => none
def stepAt (X : Nat × (Nat → Int)) (k pc : Nat) (L : List (Option MV)) (st : List MV) (w : MW) : Option Act := match cd k pc with
  | none => none
  | some (i, n, u, ds) => mstep X i n u pc (kill ds L) st w
def ex (X : Nat × (Nat → Int)) : Nat → Nat → Nat → Nat → List (Option MV) → List MV → MW → RS
  | 0, _, _, _, _, _, _ => none
  | n + 1, d, k, pc, L, st, w => match stepAt X k pc L st w with
    | none => none
    | some (.inl (pc', L', st', w')) => ex X n d k pc' L' st' w'
    | some (.inr (.inl r)) => some r
    | some (.inr (.inr (kind, k', as, pc', L', st', w'))) => match d with
      | 0 => none
      | d + 1 => match ex X n d k' 0 (entry k' as) [] w' with
        | none => none
        | some r => match pushR kind r.1 st' with
          | none => none
          | some st2 => ex X n (d + 1) k pc' L' st2 r.2
theorem ex_step {X : Nat × (Nat → Int)} : ∀ (n d k pc : Nat) (L : List (Option MV)) (st : List MV) (w : MW) (r : Option MV × MW), ex X n d k pc L st w = some r → ex X (n + 1) d k pc L st w = some r := by
  intro n
  induction n with
  | zero => intro d k pc L st w r h; simp [ex] at h
  | succ n ih =>
    intro d k pc L st w r h
    rw [ex] at h ⊢
    cases hs : stepAt X k pc L st w with
    | none => rw [hs] at h; cases h
    | some a =>
      rw [hs] at h
      rcases a with ⟨pc', L', st', w'⟩ | r' | ⟨kind, k', as, pc', L', st', w'⟩
      · exact ih _ _ _ _ _ _ _ h
      · exact h
      · cases d with
        | zero => cases h
        | succ d =>
          dsimp only at h ⊢
          cases h1 : ex X n d k' 0 (entry k' as) [] w' with
          | none => rw [h1] at h; cases h
          | some r1 =>
            rw [h1] at h
            rw [ih _ _ _ _ _ _ _ h1]
            dsimp only at h ⊢
            cases h2 : pushR kind r1.1 st' with
            | none => rw [h2] at h; cases h
            | some st2 => rw [h2] at h; exact ih _ _ _ _ _ _ _ h
theorem ex_le {X : Nat × (Nat → Int)} {n m d k pc : Nat} {L : List (Option MV)} {st : List MV} {w : MW} {r : Option MV × MW} (hm : n ≤ m) (h : ex X n d k pc L st w = some r) : ex X m d k pc L st w = some r := by
  induction hm with
  | refl => exact h
  | step _ ih => exact ex_step _ _ _ _ _ _ _ _ ih
theorem ex_one {X : Nat × (Nat → Int)} {n m d k pc : Nat} {L : List (Option MV)} {st : List MV} {w : MW} {r q : Option MV × MW} (h : ex X n d k pc L st w = some r) (h2 : ex X m d k pc L st w = some q) : r = q := by
  have a := ex_le (Nat.le_max_left n m) h
  have b := ex_le (Nat.le_max_right n m) h2
  rw [a] at b
  exact Option.some.inj b
/-- the run, however many steps it takes -/
noncomputable def R (X : Nat × (Nat → Int)) (d k pc : Nat) (L : List (Option MV)) (st : List MV) (w : MW) : RS := by
  classical exact if h : ∃ r n, ex X n d k pc L st w = some r then some (Classical.choose h) else none
theorem R_iff {X : Nat × (Nat → Int)} {d k pc : Nat} {L : List (Option MV)} {st : List MV} {w : MW} {r : Option MV × MW} : R X d k pc L st w = some r ↔ ∃ n, ex X n d k pc L st w = some r := by
  unfold R
  constructor
  · intro h
    split at h
    · rename_i hx
      obtain ⟨n, hn⟩ := Classical.choose_spec hx
      exact ⟨n, by rw [hn]; exact h⟩
    · cases h
  · rintro ⟨n, hn⟩
    have hx : ∃ r n, ex X n d k pc L st w = some r := ⟨r, n, hn⟩
    rw [dif_pos hx]
    obtain ⟨m, hm⟩ := Classical.choose_spec hx
    rw [ex_one hm hn]
def rV (o : RS) (f : MW → RS) : RS := match o with
  | some (none, w) => f w
  | _ => none
def rI (o : RS) (f : Int → MW → RS) : RS := match o with
  | some (some (.inl x), w) => f x w
  | _ => none
def rR (o : RS) (f : Nat → MW → RS) : RS := match o with
  | some (some (.inr x), w) => f x w
  | _ => none
def rO (o : Option Nat) (f : Nat → RS) : RS := match o with
  | some x => f x
  | none => none
noncomputable def run (X : Nat × (Nat → Int)) (d k : Nat) (as : List MV) (w : MW) : RS := R X d k 0 (entry k as) [] w
noncomputable def fin (X : Nat × (Nat → Int)) (d k : Nat) : Option Act → RS
  | none => none
  | some (.inl (pc', L', st', w')) => R X d k pc' L' st' w'
  | some (.inr (.inl r)) => some r
  | some (.inr (.inr (kind, k', as, pc', L', st', w'))) => match d with
    | 0 => none
    | d + 1 => match kind with
      | 0 => rV (run X d k' as w') fun v => R X (d + 1) k pc' L' st' v
      | 1 => rI (run X d k' as w') fun x v => R X (d + 1) k pc' L' (.inl x :: st') v
      | 2 => rR (run X d k' as w') fun x v => R X (d + 1) k pc' L' (.inr x :: st') v
      | _ => none
theorem rs_ext {a b : RS} (h : ∀ r, a = some r ↔ b = some r) : a = b := by
  cases a with
  | none => cases b with
    | none => rfl
    | some y => exact absurd ((h y).mpr rfl) (by simp)
  | some x => exact ((h x).mp rfl).symm
theorem fin_call (X : Nat × (Nat → Int)) (d k kind k' : Nat) (as : List MV) (pc : Nat) (L : List (Option MV)) (st : List MV) (w : MW) (r : Option MV × MW) :
    fin X (d + 1) k (some (.inr (.inr (kind, k', as, pc, L, st, w)))) = some r ↔ ∃ q st2, run X d k' as w = some q ∧ pushR kind q.1 st = some st2 ∧ R X (d + 1) k pc L st2 q.2 = some r := by
  unfold fin
  match kind with
  | 0 =>
    dsimp only
    rcases run X d k' as w with _ | ⟨_ | x | x, v⟩ <;> simp [rV, pushR]
  | 1 =>
    dsimp only
    rcases run X d k' as w with _ | ⟨_ | x | x, v⟩ <;> simp [rI, pushR]
  | 2 =>
    dsimp only
    rcases run X d k' as w with _ | ⟨_ | x | x, v⟩ <;> simp [rR, pushR]
  | n + 3 =>
    dsimp only
    rcases run X d k' as w with _ | ⟨_ | x | x, v⟩ <;> simp [pushR]
theorem R_eq (X : Nat × (Nat → Int)) (d k pc : Nat) (L : List (Option MV)) (st : List MV) (w : MW) : R X d k pc L st w = fin X d k (stepAt X k pc L st w) := by
  apply rs_ext
  intro r
  rw [R_iff]
  constructor
  · rintro ⟨n, h⟩
    cases n with
    | zero => simp [ex] at h
    | succ n =>
      rw [ex] at h
      cases hs : stepAt X k pc L st w with
      | none => rw [hs] at h; cases h
      | some a =>
        rw [hs] at h
        rcases a with ⟨pc', L', st', w'⟩ | r' | ⟨kind, k', as, pc', L', st', w'⟩
        · exact R_iff.mpr ⟨n, h⟩
        · exact h
        · cases d with
          | zero => cases h
          | succ d =>
            dsimp only at h
            cases h1 : ex X n d k' 0 (entry k' as) [] w' with
            | none => rw [h1] at h; cases h
            | some r1 =>
              rw [h1] at h
              dsimp only at h
              cases h2 : pushR kind r1.1 st' with
              | none => rw [h2] at h; cases h
              | some st2 => rw [h2] at h; exact (fin_call ..).mpr ⟨r1, st2, R_iff.mpr ⟨n, h1⟩, h2, R_iff.mpr ⟨n, h⟩⟩
  · intro h
    cases hs : stepAt X k pc L st w with
    | none => rw [hs] at h; cases h
    | some a =>
      rw [hs] at h
      rcases a with ⟨pc', L', st', w'⟩ | r' | ⟨kind, k', as, pc', L', st', w'⟩
      · obtain ⟨n, hn⟩ := R_iff.mp h
        exact ⟨n + 1, by rw [ex, hs]; exact hn⟩
      · exact ⟨1, by rw [ex, hs]; exact h⟩
      · cases d with
        | zero => cases h
        | succ d =>
          obtain ⟨r1, st2, h1, h2, h3⟩ := (fin_call ..).mp h
          obtain ⟨n1, h1⟩ := R_iff.mp h1
          obtain ⟨n3, h3⟩ := R_iff.mp h3
          refine ⟨max n1 n3 + 1, ?_⟩
          rw [ex, hs]
          dsimp only
          rw [ex_le (Nat.le_max_left n1 n3) h1]
          dsimp only
          rw [h2]
          exact ex_le (Nat.le_max_right n1 n3) h3
theorem R_of {X : Nat × (Nat → Int)} {d k pc n : Nat} {i : Instr} {u ds : List Nat} {L L' : List (Option MV)} {st : List MV} {w : MW} (h : cd k pc = some (i, n, u, ds)) (hk : kill ds L = L') : R X d k pc L st w = fin X d k (mstep X i n u pc L' st w) := by
  rw [R_eq, stepAt, h]
  dsimp only
  rw [hk]
theorem fin_gd {X : Nat × (Nat → Int)} {d k : Nat} {c : Prop} [Decidable c] {o : Option Act} : fin X d k (gd c o) = gd c (fin X d k o) := by
  unfold gd
  split <;> rfl
theorem fin_ite {X : Nat × (Nat → Int)} {d k : Nat} {c : Prop} [Decidable c] {o o' : Option Act} : fin X d k (if c then o else o') = if c then fin X d k o else fin X d k o' := by
  split <;> rfl
