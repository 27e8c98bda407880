/-! the class's table, read -/
section TR
variable {X : Nat × (Nat → Int)} {d : Nat} {w : MW} {r : Nat} {n : Int} {t : Int → Int → Int}
theorem bit_ok (X : Nat × (Nat → Int)) (d : Nat) (a : Int) (w : MW) : run X d 95 [.inl a] w = some (some (.inl (shlI 1 a)), w) := b95_0 X d a w
theorem lea_ok (h : Tb w r n t) (a b : Int) : run X (d + 2) 38 [.inr r, .inl a, .inl b] w = some (some (.inl (lsA (fun c => decide (t a c = b)) n)), w) := by
  have h0 := h.n0
  have h12 := h.n12
  apply ok_one
  refine ok_eq (b38_0 X (d + 1) r a b w) ?_
  refine ok_up (fun i s => R X (d + 2) 38 2 [some (.inr r), some (.inl a), some (.inl b), some (.inl i)] [] s) (fun i s => s = w ∧ lsA (fun c => decide (t a c = b)) n = lsF (fun c => decide (t a c = b)) (n - i).toNat i) 0 n h0 ?_ ?_ w ⟨rfl, by rw [Int.sub_zero]; rfl⟩
  · intro i s h1 h2 ⟨e, hI⟩ ih
    subst e
    refine ok_eq (b38_2 X (d + 1) r a b i s) (ok_gd h.k (ok_iff (by rw [h.sz]; omega) (ok_gd h.k (ok_i (at_ok h a i) (ok_if (fun hc => ?_) (fun hc => ok_ret ⟨?_, rfl⟩))))))
    · rw [wrap_id (by omega) (by omega)]
      exact ih s ⟨rfl, by rw [hI, lsF_no h2 (by simpa using hc)]⟩
    · rw [hI, lsF_yes h2 (by simpa using hc)]
  · intro s ⟨e, hI⟩
    subst e
    refine ok_eq (b38_2 X (d + 1) r a b n s) (ok_gd h.k (ok_ift (by rw [h.sz]; omega) (ok_ret ⟨?_, rfl⟩)))
    rw [hI, Int.sub_self]
    rfl
theorem rest_ok (h : Tb w r n t) (a : Int) : run X (d + 3) 39 [.inr r, .inl a] w = some (some (.inl (lsA (fun c => decide (t a c = 1)) n)), w) := by
  apply ok_one
  exact ok_eq (b39_0 X (d + 2) r a w) (ok_gd h.k (ok_i (lea_ok h a 1) (ok_ret ⟨rfl, rfl⟩)))
theorem adds_ok (h : Tb w r n t) (a : Int) : run X (d + 3) 40 [.inr r, .inl a] w = some (some (.inl (bI2 (fun j => decide (t a j ≠ 12)) n)), w) := by
  have h0 := h.n0
  have h12 := h.n12
  apply ok_one
  refine ok_eq (b40_0 X (d + 2) r a w) ?_
  refine ok_up (fun i s => R X (d + 3) 40 4 [some (.inr r), some (.inl a), some (.inl (bI2 (fun j => decide (t a j ≠ 12)) i)), some (.inl i)] [] s) (fun _ s => s = w) 0 n h0 ?_ ?_ w rfl
  · intro i s h1 h2 e ih
    subst e
    refine ok_eq (b40_4 X (d + 2) r a _ i s) (ok_gd h.k (ok_iff (by rw [h.sz]; omega) (ok_gd h.k (ok_i (hasSum_ok h a i) (ok_if (fun hc => ?_) (fun hc => ok_i (bit_ok X _ i s) ?_))))))
    · have := ih s rfl
      rw [bI2_s h1 (by omega), Int.toNat_of_nonneg h1, if_neg (by simpa using bI_eq.mp hc)] at this
      rw [wrap_id (by omega) (by omega)]
      exact this
    · have := ih s rfl
      rw [bI2_s h1 (by omega), Int.toNat_of_nonneg h1, if_pos (by simpa using bI_ne.mp hc)] at this
      rw [wrap_id (by omega) (by omega)]
      exact this
  · intro s e
    subst e
    exact ok_eq (b40_4 X (d + 2) r a _ n s) (ok_gd h.k (ok_ift (by rw [h.sz]; omega) (ok_ret ⟨rfl, rfl⟩)))
theorem bI_rng {c : Prop} [Decidable c] : 0 ≤ bI c ∧ bI c ≤ 1 := by
  unfold bI
  split <;> omega
/-- how many sums of two things there are -/
def pws (t : Int → Int → Int) (n : Int) : Int := Sg (fun a => Sg (fun b => bI (t a b ≠ 12)) a (n - a).toNat) 1 (n - 1).toNat
theorem Sg_rng {f : Int → Int} {lo c : Int} {k : Nat} (hf : ∀ i, 0 ≤ f i ∧ f i ≤ c) (hk : k ≤ 12) (hc : 0 ≤ c) : 0 ≤ Sg f lo k ∧ Sg f lo k ≤ c * 12 := by
  have h := Sg_bd (lo := lo) hf k
  refine ⟨h.1, Int.le_trans h.2 (Int.mul_le_mul_of_nonneg_left (by omega) hc)⟩
theorem pws_ok (h : Tb w r n t) (hn : 1 ≤ n) : run X (d + 3) 41 [.inr r] w = some (some (.inl (pws t n)), w) := by
  have h12 := h.n12
  apply ok_one
  refine ok_eq (b41_0 X (d + 2) r w) ?_
  refine ok_up (fun i s => R X (d + 3) 41 4 [some (.inr r), some (.inl (Sg (fun a => Sg (fun b => bI (t a b ≠ 12)) a (n - a).toNat) 1 (i - 1).toNat)), some (.inl i), none] [] s) (fun _ s => s = w) 1 n hn ?_ ?_ w rfl
  · intro i s h1 h2 e ih
    subst e
    have hin : ∀ lo k, k ≤ 12 → 0 ≤ Sg (fun b => bI (t i b ≠ 12)) lo k ∧ Sg (fun b => bI (t i b ≠ 12)) lo k ≤ 1 * 12 := fun lo k hk => Sg_rng (fun _ => bI_rng) hk (by omega)
    refine ok_eq (b41_4 X (d + 2) r _ i s) (ok_gd h.k (ok_iff (by rw [h.sz]; omega) ?_))
    have hb : 0 ≤ Sg (fun a => Sg (fun b => bI (t a b ≠ 12)) a (n - a).toNat) 1 (i - 1).toNat ∧ Sg (fun a => Sg (fun b => bI (t a b ≠ 12)) a (n - a).toNat) 1 (i - 1).toNat ≤ 1000000 := by
      have h3 : ∀ k : Nat, (k : Int) ≤ n - 1 → 0 ≤ Sg (fun a => Sg (fun b => bI (t a b ≠ 12)) a (n - a).toNat) 1 k ∧ Sg (fun a => Sg (fun b => bI (t a b ≠ 12)) a (n - a).toNat) 1 k ≤ 12 * k := by
        intro k
        induction k with
        | zero => intro _; simp [Sg]
        | succ k ihk =>
          intro hk
          have g1 := ihk (by omega)
          have g2 : 0 ≤ Sg (fun b => bI (t (1 + (k : Int)) b ≠ 12)) (1 + (k : Int)) (n - (1 + (k : Int))).toNat ∧ Sg (fun b => bI (t (1 + (k : Int)) b ≠ 12)) (1 + (k : Int)) (n - (1 + (k : Int))).toNat ≤ 1 * 12 := Sg_rng (fun _ => bI_rng) (by omega) (by omega)
          rw [Sg]
          omega
      have := h3 (i - 1).toNat (by omega)
      omega
    refine ok_up (fun j s' => R X (d + 3) 41 14 [some (.inr r), some (.inl (Sg (fun a => Sg (fun b => bI (t a b ≠ 12)) a (n - a).toNat) 1 (i - 1).toNat + Sg (fun b => bI (t i b ≠ 12)) i (j - i).toNat)), some (.inl i), some (.inl j)] [] s') (fun _ s' => s' = s) i n (by omega) ?_ ?_ s rfl |> fun z => by
      have e0 : Sg (fun a => Sg (fun b => bI (t a b ≠ 12)) a (n - a).toNat) 1 (i - 1).toNat + Sg (fun b => bI (t i b ≠ 12)) i (i - i).toNat = Sg (fun a => Sg (fun b => bI (t a b ≠ 12)) a (n - a).toNat) 1 (i - 1).toNat := by
        rw [Int.sub_self]; simp [Sg]
      rw [e0] at z
      exact z
    · intro j s' g1 g2 e' ih'
      subst e'
      have hj := hin i (j - i).toNat (by omega)
      have z := ih' s' rfl
      rw [Sg_s g1] at z
      refine ok_eq (b41_14 X (d + 2) r _ i j s') (ok_gd h.k (ok_iff (by rw [h.sz]; omega) (ok_gd h.k (ok_i (hasSum_ok h i j) (ok_if (fun hc => ?_) (fun hc => ?_))))))
      · rw [wrap_id (by omega) (by omega)]
        rw [hc, Int.add_zero] at z
        exact z
      · have h1' : bI (t i j ≠ 12) = 1 := by have := bI_ne.mp hc; unfold bI; rw [if_pos this]
        rw [h1', ← Int.add_assoc] at z
        rw [wrap_id (by omega) (by omega), wrap_id (by omega) (by omega)]
        exact z
    · intro s' e'
      subst e'
      have z := ih s' rfl
      rw [Sg_s h1] at z
      refine ok_eq (b41_14 X (d + 2) r _ i n s') (ok_gd h.k (ok_ift (by rw [h.sz]; omega) ?_))
      rw [wrap_id (by omega) (by omega)]
      exact z
  · intro s e
    subst e
    exact ok_eq (b41_4 X (d + 2) r _ n s) (ok_gd h.k (ok_ift (by rw [h.sz]; omega) (ok_ret ⟨rfl, rfl⟩)))
end TR
