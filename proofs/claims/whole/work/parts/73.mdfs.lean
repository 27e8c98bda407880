/-! the reference's search: what is before a path, in pure terms -/
def SWP (t : Int → Int → Int) (n : Int) (rI : AB) (f : Int → Int) : Prop := SolS t n f ∧ InR n rI f
def GeT (m : Int) (T f : Int → Int) : Prop := ∃ j, (0 ≤ j ∧ j ≤ m) ∧ (∀ i, 0 ≤ i → i < j → f i = T i) ∧ (T j < f j ∨ (j = m ∧ f j = T j))
noncomputable def CtT (t : Int → Int → Int) (n k : Int) (rI : AB) (m : Int) (T : Int → Int) : Int := cnt k (fun _ => True) (fun f => SWP t n rI f ∧ ¬ GeT m T f) n.toNat (fun _ => 0)
noncomputable def CtA (t : Int → Int → Int) (n k : Int) (rI : AB) : Int := cnt k (fun _ => True) (SWP t n rI) n.toNat (fun _ => 0)
def lxl (n : Int) (f h : Int → Int) : Prop := (∀ x, 0 ≤ x → x < n → h x = f x) ∨ ∃ y, 0 ≤ y ∧ y < n ∧ f y < h y ∧ ∀ j, 0 ≤ j → j < y → f j = h j
def mzT (T : Int → Int) : Nat → Int
  | 0 => 0
  | k + 1 => mzT T k + (T k + 1) * 10 ^ (12 - k)
section NG
variable {n k m : Int} {t : Int → Int → Int} {rI : AB} {T T2 f g : Int → Int}
theorem upI_eq {i v : Int} : upI T i v i = v := if_pos rfl
theorem upI_ne {i v j : Int} (h : j ≠ i) : upI T i v j = T j := if_neg h
theorem SolS.cg (hw : twf t n) (h : ∀ x, 0 ≤ x → x < n → f x = g x) (hs : SolS t n f) : SolS t n g := fun a b a0 a1 b0 b1 h12 => by
  have val := hw.2.1 a b
  rw [← h a a0 a1, ← h b b0 b1, ← h (t a b) (by omega) (by omega)]
  exact hs a b a0 a1 b0 b1 h12
theorem SWP.cg (hw : twf t n) (h : ∀ x, 0 ≤ x → x < n → f x = g x) (hs : SWP t n rI f) : SWP t n rI g := ⟨hs.1.cg hw h, fun j j0 j1 => by
  have := hs.2 j j0 j1
  unfold wi at this ⊢
  rw [← h j j0 j1]
  exact this⟩
theorem GeT.cg (hm : m < n) (h : ∀ x, 0 ≤ x → x < n → f x = g x) (hs : GeT m T f) : GeT m T g := by
  obtain ⟨j, hj, h1, h2⟩ := hs
  refine ⟨j, hj, fun i i0 i1 => by rw [← h i i0 (by omega)]; exact h1 i i0 i1, ?_⟩
  rw [← h j hj.1 (by omega)]
  exact h2
/-- within the range, nothing else -/
def inZ (n : Int) (f : Int → Int) : Int → Int := fun x => if 0 ≤ x ∧ x < n then f x else 0
theorem inZ_eq {x : Int} (x0 : 0 ≤ x) (x1 : x < n) : inZ n f x = f x := if_pos ⟨x0, x1⟩
theorem inZ_rc (h0n : 0 ≤ n) (h : ∀ x, 0 ≤ x → x < n → 0 ≤ f x ∧ f x ≤ k) : Rc k (fun _ => True) n.toNat (fun _ => 0) (inZ n f) := fun x => ⟨fun q => by rw [inZ_eq q.1 (by omega)]; exact h x q.1 (by omega), fun q => if_neg (fun r => q ⟨r.1, by omega, trivial⟩)⟩
theorem CtT_all (h0n : 0 ≤ n) : CtT t n k rI m T + cnt k (fun _ => True) (fun f => SWP t n rI f ∧ GeT m T f) n.toNat (fun _ => 0) = CtA t n k rI := by
  refine (cnt_add (P := SWP t n rI) n.toNat _ (fun f _ => ⟨⟨fun h => ?_, fun h => h.elim (fun q => q.1) (fun q => q.1)⟩, fun h => h.1.2 h.2.2⟩)).symm
  by_cases q : GeT m T f
  · exact Or.inr ⟨h, q⟩
  · exact Or.inl ⟨h, q⟩
theorem CtT_le (h0n : 0 ≤ n) : 0 ≤ CtT t n k rI m T ∧ CtT t n k rI m T ≤ CtA t n k rI := by
  have h1 := CtT_all (t := t) (k := k) (rI := rI) (m := m) (T := T) h0n
  have h2 := cnt_nn (k := k) (p := fun _ => True) (P := fun f => SWP t n rI f ∧ GeT m T f) n.toNat (fun _ => 0)
  have h3 := cnt_nn (k := k) (p := fun _ => True) (P := fun f => SWP t n rI f ∧ ¬ GeT m T f) n.toNat (fun _ => 0)
  refine ⟨h3, ?_⟩
  omega
theorem CtT_m1 (h : m < 0) : CtT t n k rI m T = CtA t n k rI := cnt_cg n.toNat _ (fun f _ => ⟨fun q => q.1, fun q => ⟨q, fun ⟨j, hj, _⟩ => by omega⟩⟩)
theorem CtT_cg {m2 : Int} (h : ∀ f, SWP t n rI f → (GeT m T f ↔ GeT m2 T2 f)) : CtT t n k rI m T = CtT t n k rI m2 T2 := cnt_cg n.toNat _ (fun f _ => ⟨fun q => ⟨q.1, fun r => q.2 ((h f q.1).mpr r)⟩, fun q => ⟨q.1, fun r => q.2 ((h f q.1).mp r)⟩⟩)
theorem ge_pop (h1 : 1 ≤ m) (h : (∀ j, 0 ≤ j → j < m → f j = T j) → f m < T m) : GeT m T f ↔ GeT (m - 1) (upI T (m - 1) (T (m - 1) + 1)) f := by
  constructor
  · rintro ⟨j, hj, g1, g2⟩
    by_cases e : j = m
    · have := h (fun i i0 i1 => g1 i i0 (by omega))
      rw [e] at g2
      omega
    · refine ⟨j, by omega, fun i i0 i1 => by rw [upI_ne (by omega)]; exact g1 i i0 i1, ?_⟩
      by_cases e2 : j = m - 1
      · rw [e2, upI_eq]
        rw [e2] at g2
        omega
      · rw [upI_ne e2]
        omega
  · rintro ⟨j, hj, g1, g2⟩
    refine ⟨j, by omega, fun i i0 i1 => by have := g1 i i0 i1; rw [upI_ne (by omega)] at this; exact this, ?_⟩
    by_cases e2 : j = m - 1
    · rw [e2, upI_eq] at g2
      rw [e2]
      omega
    · rw [upI_ne e2] at g2
      omega
theorem ge_pop0 (h : f 0 < T 0) (m2 : Int) (h2 : m2 < 0) : GeT 0 T f ↔ GeT m2 T2 f := by
  constructor
  · rintro ⟨j, hj, g1, g2⟩
    have e : j = 0 := by omega
    rw [e] at g2
    omega
  · rintro ⟨j, hj, _⟩
    omega
theorem ge_next (h0 : 0 ≤ m) (h : ¬ ∀ j, 0 ≤ j → j ≤ m → f j = T j) : GeT m T f ↔ GeT m (upI T m (T m + 1)) f := by
  constructor
  · rintro ⟨j, hj, g1, g2⟩
    refine ⟨j, hj, fun i i0 i1 => by rw [upI_ne (by omega)]; exact g1 i i0 i1, ?_⟩
    by_cases e : j = m
    · rw [e, upI_eq]
      rw [e] at g2
      rcases g2 with g2 | ⟨_, g2⟩
      · omega
      · refine absurd (fun i i0 i1 => ?_) h
        by_cases ei : i = m
        · rw [ei]; exact g2
        · exact g1 i i0 (by omega)
    · rw [upI_ne e]
      omega
  · rintro ⟨j, hj, g1, g2⟩
    refine ⟨j, hj, fun i i0 i1 => by have := g1 i i0 i1; rw [upI_ne (by omega)] at this; exact this, ?_⟩
    by_cases e : j = m
    · rw [e, upI_eq] at g2
      rw [e]
      omega
    · rw [upI_ne e] at g2
      omega
theorem ge_push {y : Int} (h0 : 0 ≤ m) (h : (∀ j, 0 ≤ j → j ≤ m → f j = T j) → y ≤ f (m + 1)) : GeT m T f ↔ GeT (m + 1) (upI T (m + 1) y) f := by
  constructor
  · rintro ⟨j, hj, g1, g2⟩
    by_cases e : T j < f j
    · exact ⟨j, by omega, fun i i0 i1 => by rw [upI_ne (by omega)]; exact g1 i i0 i1, Or.inl (by rw [upI_ne (by omega)]; exact e)⟩
    · obtain ⟨ej, ef⟩ := g2.resolve_left e
      have all : ∀ i, 0 ≤ i → i ≤ m → f i = T i := fun i i0 i1 => by
        by_cases ei : i = m
        · rw [ei, ← ej]; exact ef
        · exact g1 i i0 (by omega)
      have hy := h all
      refine ⟨m + 1, by omega, fun i i0 i1 => by rw [upI_ne (by omega)]; exact all i i0 (by omega), ?_⟩
      rw [upI_eq]
      omega
  · rintro ⟨j, hj, g1, g2⟩
    by_cases e : j = m + 1
    · refine ⟨m, by omega, fun i i0 i1 => by have := g1 i i0 (by omega); rw [upI_ne (by omega)] at this; exact this, Or.inr ⟨rfl, ?_⟩⟩
      have := g1 m h0 (by omega)
      rw [upI_ne (by omega)] at this
      exact this
    · refine ⟨j, by omega, fun i i0 i1 => by have := g1 i i0 i1; rw [upI_ne (by omega)] at this; exact this, ?_⟩
      rw [upI_ne e] at g2
      omega
theorem mz_cg : ∀ (q : Nat), (∀ i : Nat, i < q → T i = T2 i) → mzT T q = mzT T2 q
  | 0, _ => rfl
  | q + 1, h => by rw [mzT, mzT, mz_cg q (fun i hi => h i (by omega)), h q (by omega)]
theorem mz_bd : ∀ (q : Nat), q ≤ 12 → (∀ i : Nat, i < q → 0 ≤ T i ∧ T i ≤ 7) → mzT T q + 10 ^ (13 - q) ≤ 10 ^ 13
  | 0, _, _ => by show (0 : Int) + 10 ^ 13 ≤ 10 ^ 13; omega
  | q + 1, hq, h => by
    have ih := mz_bd q (by omega) (fun i hi => h i (by omega))
    have hT := h q (by omega)
    rw [mzT, show 13 - (q + 1) = 12 - q by omega]
    rw [show 13 - q = (12 - q) + 1 by omega, Int.pow_succ] at ih
    have hp : (0 : Int) < 10 ^ (12 - q) := Int.pow_pos (by omega)
    generalize (10 : Int) ^ (12 - q) = p at *
    have : (T q + 1) * p ≤ 8 * p := Int.mul_le_mul_of_nonneg_right (by omega) (by omega)
    omega
theorem mz_next {q : Nat} (hq : q ≤ 12) : mzT T (q + 1) < mzT (upI T q (T q + 1)) (q + 1) := by
  rw [mzT, mzT, mz_cg (T2 := T) q (fun i hi => upI_ne (by omega)), upI_eq]
  have hp : (0 : Int) < 10 ^ (12 - q) := Int.pow_pos (by omega)
  generalize (10 : Int) ^ (12 - q) = p at *
  rw [Int.add_mul (T q + 1) 1 p]
  omega
theorem mz_push {q : Nat} {y : Int} (hy : 0 ≤ y) : mzT T q < mzT (upI T q y) (q + 1) := by
  rw [mzT, mz_cg (T := upI T q y) (T2 := T) q (fun i hi => upI_ne (by omega)), upI_eq]
  have hp : (0 : Int) < 10 ^ (12 - q) := Int.pow_pos (by omega)
  have := Int.mul_pos (show 0 < y + 1 by omega) hp
  omega
theorem mz_pop {q : Nat} (hq : q + 1 ≤ 12) (h0 : 0 ≤ T ((q + 1 : Nat) : Int)) (h7 : T ((q + 1 : Nat) : Int) ≤ 7) : mzT T (q + 2) < mzT (upI T q (T q + 1)) (q + 1) := by
  rw [mzT, mzT, mzT, mz_cg (T := upI T q (T q + 1)) (T2 := T) q (fun i hi => upI_ne (by omega)), upI_eq, show 12 - q = 12 - (q + 1) + 1 by omega, Int.pow_succ]
  have hp : (0 : Int) < 10 ^ (12 - (q + 1)) := Int.pow_pos (by omega)
  generalize (10 : Int) ^ (12 - (q + 1)) = p at *
  have h1 : (T ((q + 1 : Nat) : Int) + 1) * p ≤ 8 * p := Int.mul_le_mul_of_nonneg_right (by omega) (by omega)
  have h2 : (T (q : Int) + 1 + 1) * (p * 10) = (T (q : Int) + 1) * (p * 10) + p * 10 := by rw [Int.add_mul (T (q : Int) + 1) 1 (p * 10), Int.one_mul]
  omega
end NG
