/-! one act of p27's law -/
/-- behind an act: another state, or an error and the same state -/
def AP (w : MW) (A : AS) (x : Int) (w' : MW) : Prop := ∃ B, ClS w' B ∧ Kh 1 37 w w' ∧ (0 ≤ x ∨ B = A)
section AC
variable {X : Nat × (Nat → Int)} {d : Nat} {w w1 w' : MW} {A : AS} {x : Int}
theorem low_e {v n : Int} (h0 : 0 < n) : run X d 101 [.inl v, .inl n] w = some (some (.inl (lowF v n)), w) := by
  apply ok_one
  exact ok_eq (b101_0 X d v n w) (ok_gd (by omega) (ok_ret ⟨rfl, rfl⟩))
theorem cell_ex (hX : X.1 < 2147483648) {k : Int} (hk : 0 ≤ k) : ∃ x, run X d 102 [.inr 0, .inl k] w = some (some (.inl x), w) := by
  by_cases h : (X.1 : Int) ≤ k
  · exact ⟨_, ok_one (ok_eq (b102_0 X d 0 k w) (ok_gd ⟨rfl, hX⟩ (ok_ift h (ok_ret ⟨rfl, rfl⟩))))⟩
  · exact ⟨_, ok_one (ok_eq (b102_0 X d 0 k w) (ok_gd ⟨rfl, hX⟩ (ok_iff h (ok_gd ⟨rfl, hk, by omega⟩ (ok_ret ⟨rfl, rfl⟩)))))⟩
theorem fo_ap {r : Int × AS} (k : Kh 1 37 w w1) (h : FO w1 r x w') (hr : 0 ≤ r.1 ∨ r.2 = A) : AP w A x w' := by
  refine ⟨r.2, h.2.1, k.tr h.2.2, ?_⟩
  rw [h.1]
  exact hr
theorem take_s (a : Int) {b : Int} (hb : 0 ≤ b ∧ b < 31) : 0 ≤ (takeF A a b).1 ∨ (takeF A a b).2 = A := by
  have hs : 0 ≤ shlI 1 b := by
    rw [shl1 hb.1 hb.2]
    exact Int.natCast_nonneg _
  unfold takeF
  by_cases c1 : ¬ (a = 0 ∨ a = 1)
  · rw [if_pos c1]
    exact Or.inr rfl
  · rw [if_neg c1]
    by_cases c2 : b < 1 ∨ (if a = 0 then 11 else 3) < b
    · rw [if_pos c2]
      exact Or.inr rfl
    · rw [if_neg c2]
      by_cases c3 : a = 0
      · rw [if_pos c3]
        left
        show 0 ≤ b + 1
        omega
      · rw [if_neg c3]
        exact Or.inl hs
theorem add_s (ho : okB A.1) : 0 ≤ (addF A).1 ∨ (addF A).2 = A := by
  have := ho.1
  unfold addF
  split
  · left
    show 0 ≤ A.1.1
    omega
  · exact Or.inr rfl
theorem rem_s (ho : okB A.1) (c : Int) : 0 ≤ (remF A c).1 ∨ (remF A c).2 = A := by
  have := ho.1
  unfold remF
  split
  · exact Or.inr rfl
  · split
    · exact Or.inr rfl
    · left
      show 0 ≤ A.1.1 - 1
      omega
theorem glue_s (ho : okB A.1) (m : Int) : 0 ≤ (glueF A m).1 ∨ (glueF A m).2 = A := by
  have := ho.1
  unfold glueF
  split
  · exact Or.inr rfl
  · split
    · exact Or.inr rfl
    · left
      show 0 ≤ A.1.1 + m - 1
      omega
theorem twice_s (ho : okB A.1) : 0 ≤ (twiceF A).1 ∨ (twiceF A).2 = A := by
  have := ho.1
  unfold twiceF
  split
  · exact Or.inr rfl
  · left
    show 0 ≤ 2 * A.1.1
    omega
theorem swap_s (ho : okB A.1) (f s : Int) : 0 ≤ (swapF A f s).1 ∨ (swapF A f s).2 = A := by
  have h12 := ho.2.1
  unfold swapF
  split
  · exact Or.inr rfl
  · split
    · exact Or.inr rfl
    · split
      · exact Or.inr rfl
      · left
        show 0 ≤ nmg A.1.2 A.1.1 f s
        exact (sg2_bd (fun a b => bI_rng) h12 (Int.le_refl _)).1
theorem undo_s : 0 ≤ (undoF A).1 ∨ (undoF A).2 = A := by
  unfold undoF
  split
  · exact Or.inr rfl
  · left
    show (0 : Int) ≤ (A.2.2.1.dropLast.length : Int)
    omega
theorem rest_s (h : ClS w A) : 0 ≤ (restF A).1 ∨ (restF A).2 = A := by
  obtain ⟨-, -, hsn, -, -⟩ := h
  rcases hsn with ⟨q1, -⟩ | ⟨a, q1, -, -, q4⟩
  · right
    unfold restF
    rw [q1]
  · left
    unfold restF
    rw [q1]
    have := q4.1
    show 0 ≤ a.1
    omega
theorem en_nn (ho : okB A.1) (a b : Int) : 0 ≤ A.1.2 a b := by
  have := ho.2.2.2.1 a b
  omega
theorem set_s (ho : okB A.1) (a b c : Int) : 0 ≤ (setF A a b c).1 ∨ (setF A a b c).2 = A := by
  unfold setF
  split
  · exact Or.inr rfl
  · split
    · exact Or.inr rfl
    · split
      · exact Or.inr rfl
      · exact Or.inl (en_nn ho a b)
theorem clear_s (ho : okB A.1) (a b : Int) : 0 ≤ (clearF A a b).1 ∨ (clearF A a b).2 = A := by
  unfold clearF
  split
  · exact Or.inr rfl
  · split
    · exact Or.inr rfl
    · split
      · exact Or.inr rfl
      · exact Or.inl (en_nn ho a b)
theorem act_ok (hX : X.1 < 2147483648) (h : ClS w A) {j : Int} (hj : 0 ≤ j ∧ j ≤ 13) : OkI (run X (d + 7) 103 [.inr 1, .inr 0, .inl j] w) (AP w A) := by
  refine ok_eq (b103_0 X (d + 6) 1 0 j w) ?_
  rw [wrap_id (z := 5 * j) (by omega) (by omega), wrap_id (z := 5 * j + 1) (by omega) (by omega), wrap_id (z := 5 * j + 2) (by omega) (by omega), wrap_id (z := 5 * j + 3) (by omega) (by omega)]
  refine ok_gd (h.1.1 1) (ok_I (ct_q (d := d + 1) h 0) (fun n1 w1 ⟨e1, c1, k1⟩ => ?_))
  have ho := c1.2.1.2
  have h2 := ho.1
  have h12 := ho.2.1
  have hg := c1.1.1 1
  have en : n1 = A.1.1 := e1.trans (if_pos rfl)
  rw [en]
  obtain ⟨v2, q2⟩ := cell_ex (d := d + 6) (w := w1) hX (k := 5 * j) (by omega)
  obtain ⟨v4, q4⟩ := cell_ex (d := d + 6) (w := w1) hX (k := 5 * j + 1) (by omega)
  obtain ⟨v6, q6⟩ := cell_ex (d := d + 6) (w := w1) hX (k := 5 * j + 2) (by omega)
  obtain ⟨v8, q8⟩ := cell_ex (d := d + 6) (w := w1) hX (k := 5 * j + 3) (by omega)
  rw [wrap_id (z := A.1.1 + 1) (by omega) (by omega)]
  refine ok_i q2 (ok_i (low_e (by omega)) (ok_i q4 (ok_i (low_e (by omega)) (ok_i q6 (ok_i (low_e (by omega)) (ok_i q8 (ok_i (low_e (by omega)) ?_)))))))
  have fin : ∀ {r : Int × AS}, (0 ≤ r.1 ∨ r.2 = A) → ∀ x w', FO w1 r x w' → Ok (some (some (.inl x), w')) (fun v w' => ∃ x, v = some (.inl x) ∧ AP w A x w') := fun hr x w' hx => ok_ret ⟨_, rfl, fo_ap k1 hx hr⟩
  unfold swt
  refine ok_if (fun _ => ok_i q4 (ok_i (low_e (by omega)) (ok_gd hg (ok_I (take_ok (d := d) c1 0 _) (fin (take_s 0 (by have := lowF_rng (v := v4) (n := 13) (by omega) (by omega); omega))))))) (fun _ => ?_)
  unfold swt
  refine ok_if (fun _ => ok_i q4 (ok_i (low_e (by omega)) (ok_gd hg (ok_I (take_ok (d := d) c1 1 _) (fin (take_s 1 (by have := lowF_rng (v := v4) (n := 5) (by omega) (by omega); omega))))))) (fun _ => ?_)
  unfold swt
  refine ok_if (fun _ => ok_gd hg (ok_I (add_ok (d := d + 1) c1) (fin (add_s ho)))) (fun _ => ?_)
  unfold swt
  refine ok_if (fun _ => ok_gd hg (ok_I (rem_f (d := d + 1) c1 _) (fin (rem_s ho _)))) (fun _ => ?_)
  unfold swt
  refine ok_if (fun _ => ok_i q4 (ok_i (low_e (by omega)) (ok_gd hg (ok_I (glue_ok (d := d + 2) c1 _) (fin (glue_s ho _)))))) (fun _ => ?_)
  unfold swt
  refine ok_if (fun _ => ok_gd hg (ok_I (twice_ok (d := d + 1) c1) (fin (twice_s ho)))) (fun _ => ?_)
  unfold swt
  refine ok_if (fun _ => ok_gd hg (ok_I (swap_f (d := d + 1) c1 _ _) (fin (swap_s ho _ _)))) (fun _ => ?_)
  unfold swt
  refine ok_if (fun _ => ok_gd hg (ok_I (undo_ok (d := d + 4) c1) (fin undo_s))) (fun _ => ?_)
  unfold swt
  refine ok_if (fun _ => ok_gd hg (ok_I (rest_f (d := d + 4) c1) (fin (rest_s c1)))) (fun _ => ?_)
  have clr : Ok (R X (d + 7) 103 221 [some (.inr 1), none, none, none, none, some (.inl (lowF v4 (A.1.1 + 1))), some (.inl (lowF v6 A.1.1)), none] [] w1) (fun v w' => ∃ x, v = some (.inl x) ∧ AP w A x w') := ok_eq (b103_221 X (d + 6) 1 _ _ w1) (ok_gd hg (ok_I (clear_ok (d := d + 2) c1 _ _) (fin (clear_s ho _ _))))
  unfold swt
  refine ok_if (fun _ => clr) (fun _ => ?_)
  unfold swt
  refine ok_if (fun _ => clr) (fun _ => ?_)
  unfold swt
  exact ok_gd hg (ok_I (set_ok (d := d + 2) c1 _ _ _) (fin (set_s ho _ _ _)))
end AC
