/-! the reference's first break -/
section MX
variable {X : Nat × (Nat → Int)} {d : Nat} {w w' : MW} {n : Int} {t : Int → Int → Int} {A : AS}
def fbX (t : Int → Int → Int) (n x : Int) : Prop := (x = -1 ∧ fbN t n) ∨ (x < 1752 ∧ fstB t n x)
theorem first_m (hS : Sh w) (h : TbM w n t) (hw : twf t n) (h2n : 2 ≤ n) (hn : n ≤ 12) : OkI (run X (d + 2) 144 [.inr 38] w) (fun x w' => w' = w ∧ fbX t n x) := by
  have found : ∀ k : Int, 0 ≤ k → k < 1752 → Bk t n k = true → (∀ j, 0 ≤ j → j < k → Bk t n j = false) → Ok (some (some (.inl k), w)) (fun v w' => ∃ x, v = some (.inl x) ∧ w' = w ∧ fbX t n x) := fun k k0 k1 hb hj => ok_ret ⟨k, rfl, rfl, Or.inr ⟨k1, k0, hb, hj⟩⟩
  have ext : ∀ {i j : Int}, (∀ q, 0 ≤ q → q < i → Bk t n q = false) → j = i + 1 → Bk t n i = false → ∀ q, 0 ≤ q → q < j → Bk t n q = false := fun {i j} hI hj hb q q0 q1 => by
    by_cases e : q = i
    · rw [e]; exact hb
    · exact hI q q0 (by omega)
  refine ok_eq (b144_0 X (d + 1) 38 w) ?_
  refine ok_up (fun i s => R X (d + 2) 144 2 [some (.inr 38), some (.inl i), none, none, none] [] s) (fun i s => s = w ∧ ∀ q, 0 ≤ q → q < i → Bk t n q = false) 0 1728 (by omega) ?_ ?_ w ⟨rfl, fun q q0 q1 => by omega⟩
  · intro i s i0 i1 ⟨e, hI⟩ ih
    rw [e]
    refine ok_eq (b144_2 X (d + 1) 38 i w) ?_
    rw [divI_p i0 (by omega) (by omega) (by omega), divI_p i0 (by omega) (by omega) (by omega), remI_p (x := i / 12) (by omega) (by omega) (by omega) (by omega), remI_p i0 (by omega) (by omega) (by omega), wrap_id (z := i + 1) (by omega) (by omega)]
    have eB : Bk t n i = (decide (i / 144 < n ∧ i / 12 % 12 < n ∧ i % 12 < n) && unl t (i / 144) (i / 12 % 12) (i % 12)) := if_pos i1
    have no : ¬ (i / 144 < n ∧ i / 12 % 12 < n ∧ i % 12 < n) → Ok (R X (d + 2) 144 2 [some (.inr 38), some (.inl (i + 1)), none, none, none] [] w) (fun v w' => ∃ x, v = some (.inl x) ∧ w' = w ∧ fbX t n x) := fun q => ih w ⟨rfl, ext hI rfl (by rw [eB, decide_eq_false q]; rfl)⟩
    refine ok_iff (by omega) (ok_gd (hS.1 38) (ok_if (fun q => no (by rw [h.1] at q; omega)) (fun q1 => ok_gd (hS.1 38) (ok_if (fun q => no (by rw [h.1] at q; omega)) (fun q2 => ok_gd (hS.1 38) (ok_if (fun q => no (by rw [h.1] at q; omega)) (fun q3 => ?_)))))))
    rw [h.1] at q1 q2 q3
    rw [decide_eq_true (show i / 144 < n ∧ i / 12 % 12 < n ∧ i % 12 < n by omega)] at eB
    refine ok_gd (hS.1 38) (ok_i (unl_ok (d := d) hS h hw hn (by omega) (by omega) (by omega)) (ok_if (fun q => ih w ⟨rfl, ext hI rfl ?_⟩) (fun q => found i i0 (by omega) ?_ hI)))
    · have := bI_eq.mp q
      rw [eB]
      simpa using this
    · have := bI_ne.mp q
      rw [eB]
      simpa using this
  intro s ⟨e, hI⟩
  rw [e]
  refine ok_eq (b144_2 X (d + 1) 38 1728 w) (ok_ift (by omega) ?_)
  refine ok_up (fun i s => R X (d + 2) 144 75 [some (.inr 38), some (.inl i), none, none, none] [] s) (fun i s => s = w ∧ ∀ q, 0 ≤ q → q < 1728 + i → Bk t n q = false) 0 n (by omega) ?_ ?_ w ⟨rfl, fun q q0 q1 => hI q q0 (by omega)⟩
  · intro i s i0 i1 ⟨e, hI⟩ ih
    rw [e]
    have eB : Bk t n (1728 + i) = (decide (i < n) && decide (rsts t n i ≠ 1)) := by
      unfold Bk
      rw [if_neg (by omega), if_pos (by omega), show 1728 + i - 1728 = i by omega]
    rw [decide_eq_true i1] at eB
    refine ok_eq (b144_75 X (d + 1) 38 i w) (ok_gd (hS.1 38) (ok_iff (by rw [h.1]; omega) (ok_gd (hS.1 38) (ok_i (unm_ok (d := d) hS h hw h2n hn (by omega)) ?_))))
    rw [wrap_id (z := i + 1) (by omega) (by omega), wrap_id (z := 1728 + i) (by omega) (by omega)]
    refine ok_if (fun q => ih w ⟨rfl, ext hI (by omega) ?_⟩) (fun q => found _ (by omega) (by omega) ?_ hI)
    · have := bI_eq.mp q
      rw [eB]
      simpa using this
    · have := bI_ne.mp q
      rw [eB]
      simpa using this
  intro s ⟨e, hI⟩
  rw [e]
  have hI2 : ∀ q, 0 ≤ q → q < 1740 → Bk t n q = false := fun q q0 q1 => by
    by_cases g : q < 1728 + n
    · exact hI q q0 g
    · unfold Bk
      rw [if_neg (by omega), if_pos (by omega), decide_eq_false (by omega)]
      rfl
  refine ok_eq (b144_75 X (d + 1) 38 n w) (ok_gd (hS.1 38) (ok_ift (by rw [h.1]; omega) ?_))
  refine ok_up (fun i s => R X (d + 2) 144 105 [some (.inr 38), some (.inl i), none, none, none] [] s) (fun i s => s = w ∧ ∀ q, 0 ≤ q → q < 1740 + i → Bk t n q = false) 0 n (by omega) ?_ ?_ w ⟨rfl, fun q q0 q1 => hI2 q q0 (by omega)⟩
  · intro i s i0 i1 ⟨e, hI⟩ ih
    rw [e]
    have eB : Bk t n (1740 + i) = (decide (1740 + i < 1752 ∧ 1 ≤ i ∧ i < n) && decide (t i 1 ≠ 12)) := by
      unfold Bk
      rw [if_neg (by omega), if_neg (by omega), show 1740 + i - 1740 = i by omega]
    refine ok_eq (b144_105 X (d + 1) 38 i w) (ok_gd (hS.1 38) (ok_iff (by rw [h.1]; omega) (ok_gd (hS.1 38) (ok_i (abo_ok (d := d) hS h hw h2n hn (by omega)) ?_))))
    rw [wrap_id (z := i + 1) (by omega) (by omega), wrap_id (z := 1740 + i) (by omega) (by omega)]
    refine ok_if (fun q => ih w ⟨rfl, ext hI (by omega) ?_⟩) (fun q => found _ (by omega) (by omega) ?_ hI)
    · have := bI_eq.mp q
      rw [eB]
      by_cases g : i = 0
      · rw [decide_eq_false (by omega)]
        rfl
      · rw [decide_eq_false (fun r => this ⟨g, r⟩)]
        simp
    · have := bI_ne.mp q
      rw [eB, decide_eq_true (by omega), decide_eq_true this.2]
      rfl
  intro s ⟨e, hI⟩
  rw [e]
  refine ok_eq (b144_105 X (d + 1) 38 n w) (ok_gd (hS.1 38) (ok_ift (by rw [h.1]; omega) (ok_ret ⟨_, rfl, rfl, Or.inl ⟨rfl, fun q q0 q1 => ?_⟩⟩)))
  by_cases g : q < 1740 + n
  · exact hI q q0 g
  · unfold Bk
    rw [if_neg (by omega), if_neg (by omega), decide_eq_false (by omega)]
    rfl
theorem mbr_q (hS : Sh w) (h : MoS w A) (ho : okB A.1) (c : Int) : OkI (run X (d + 3) 146 [.inr 38, .inl c] w) (QM w A (fun x => brQ A c x)) := by
  obtain ⟨o1, o2, o3⟩ := ho
  refine ok_eq (b146_0 X (d + 2) 38 c w) (ok_i (in_ok X (d + 2) c 0 3 w) (ok_if (fun h1 => ok_gd (hS.1 38) (ok_I (first_m (d := d) hS h.1 o3 o1 o2) (fun k z ⟨ez, hk⟩ => ?_))) (fun h1 => ok_ret ⟨_, rfl, QM.same h ?_⟩)))
  rotate_left
  · unfold brQ
    rw [if_pos (by have := bI_eq.mp (Decidable.not_not.mp h1); omega)]
  rw [ez]
  have hc := bI_ne.mp h1
  have e0 : ∀ x, ((fbN A.1.2 A.1.1 ∧ x = -5) ∨ ∃ k, k < 1752 ∧ fstB A.1.2 A.1.1 k ∧ x = brV k c) → brQ A c x := fun x hx => by
    unfold brQ
    rw [if_neg (by omega)]
    exact hx
  rcases hk with ⟨k1, hf⟩ | ⟨k1, hf⟩
  · exact ok_ift k1 (ok_ret ⟨_, rfl, QM.same h (e0 _ (Or.inl ⟨hf, rfl⟩))⟩)
  · have k0 := hf.1
    refine ok_iff (by omega) ?_
    have go : (k < 1728 ∨ c ≤ 1) → Ok (R X (d + 3) 146 37 [none, some (.inl c), some (.inl k)] [] w) (fun v w' => ∃ x, v = some (.inl x) ∧ QM w A (fun x => brQ A c x) x w') := by
      intro hkc
      refine ok_eq (b146_37 X (d + 2) c k w) ?_
      have fin1 : ∀ x, x = brV k c → Ok (some (some (.inl x), w)) (fun v w' => ∃ x, v = some (.inl x) ∧ QM w A (fun x => brQ A c x) x w') := fun x hx => ok_ret ⟨_, rfl, QM.same h (e0 _ (Or.inr ⟨k, k1, hf, hx⟩))⟩
      refine ok_if (fun g => ?_) (fun g => ?_)
      · rw [divI_p k0 (by omega) (by omega) (by omega), divI_p k0 (by omega) (by omega) (by omega), remI_p (x := k / 12) (by omega) (by omega) (by omega) (by omega), remI_p k0 (by omega) (by omega) (by omega)]
        refine ok_if (fun g1 => ok_if (fun g2 => ok_if (fun g3 => fin1 _ ?_) (fun g3 => fin1 _ ?_)) (fun g2 => fin1 _ ?_)) (fun g1 => fin1 _ ?_)
        · unfold brV
          rw [if_neg (by omega), if_neg (by omega), if_neg (by omega), if_neg (by omega)]
        · unfold brV
          rw [if_neg (by omega), if_neg (by omega), if_neg (by omega), if_pos (by omega)]
        · unfold brV
          rw [if_neg (by omega), if_neg (by omega), if_pos (by omega)]
          unfold da
          rw [if_pos g]
        · unfold brV
          rw [if_neg (by omega), if_pos (by omega)]
          unfold dl
          rw [if_pos g]
      · rw [wrap_id (z := k - 1728) (by omega) (by omega), divI_p (x := k - 1728) (by omega) (by omega) (by omega) (by omega), remI_p (x := k - 1728) (by omega) (by omega) (by omega) (by omega), wrap_id (z := 1 + (k - 1728) / 12) (by omega) (by omega)]
        refine ok_if (fun g1 => fin1 _ ?_) (fun g1 => fin1 _ ?_)
        · unfold brV
          rw [if_neg (by omega), if_neg (by omega), if_pos (by omega)]
          unfold da
          rw [if_neg g]
        · unfold brV
          rw [if_neg (by omega), if_pos (by omega)]
          unfold dl
          rw [if_neg g]
          split <;> omega
    refine ok_if (fun q => go (Or.inl q)) (fun q => ok_if (fun q2 => go (Or.inr q2)) (fun q2 => ok_ret ⟨_, rfl, QM.same h (e0 _ (Or.inr ⟨k, k1, hf, ?_⟩))⟩))
    unfold brV
    rw [if_pos (by omega)]
end MX
