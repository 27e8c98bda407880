/-! tables of sets; sums that name a thing -/
def tos (all s : Int) : Int := if s = 0 then 0 else if s = all then 1 else s + 1
def sot (all x : Int) : Int := if x = 0 then 0 else if x = 1 then all else x - 1
def tsets (all : Int) : Int → Int → Int := fun x y => if 0 ≤ x ∧ x ≤ all ∧ 0 ≤ y ∧ y ≤ all then (if andI (sot all x) (sot all y) = 0 then tos all (orI (sot all x) (sot all y)) else 12) else 12
def okAl (all : Int) : Prop := all = 1 ∨ all = 3 ∨ all = 7
theorem andI_comm (x y : Int) : andI x y = andI y x := by
  unfold andI opI
  exact congrArg Int32.toInt (Int32.and_comm _ _)
theorem orI_comm (x y : Int) : orI x y = orI y x := by
  unfold orI opI
  exact congrArg Int32.toInt (Int32.or_comm _ _)
theorem tsets_sym (all : Int) : tsym (tsets all) := by
  intro x y
  unfold tsets
  rw [andI_comm (sot all y), orI_comm (sot all y)]
  by_cases h1 : 0 ≤ x ∧ x ≤ all ∧ 0 ≤ y ∧ y ≤ all
  · rw [if_pos h1, if_pos (show 0 ≤ y ∧ y ≤ all ∧ 0 ≤ x ∧ x ≤ all by omega)]
  · rw [if_neg h1, if_neg (show ¬ (0 ≤ y ∧ y ≤ all ∧ 0 ≤ x ∧ x ≤ all) by omega)]
theorem or_rng {all a b : Int} (h : okAl all) (ha : 0 ≤ a ∧ a ≤ all) (hb : 0 ≤ b ∧ b ≤ all) : (a = 0 → orI a b = b) ∧ (0 < a → 0 < orI a b ∧ orI a b ≤ all) ∧ andI 0 b = 0 := by
  have key : ∀ m : Nat, (m = 1 ∨ m = 3 ∨ m = 7) → ∀ a : Nat, a ≤ m → ∀ b : Nat, b ≤ m → (a = 0 → orI a b = b) ∧ (0 < a → 0 < orI a b ∧ orI a b ≤ m) ∧ andI 0 b = 0 := by
    intro m hm
    rcases hm with rfl | rfl | rfl <;> decide +kernel
  have := key all.toNat (by rcases h with rfl | rfl | rfl <;> decide) a.toNat (by omega) b.toNat (by omega)
  rw [Int.toNat_of_nonneg ha.1, Int.toNat_of_nonneg hb.1] at this
  have e : ((all.toNat : Nat) : Int) = all := Int.toNat_of_nonneg (by rcases h with rfl | rfl | rfl <;> decide)
  rw [e] at this
  exact ⟨fun q => this.1 (by omega), fun q => this.2.1 (by omega), this.2.2⟩
theorem sot_rng {all x : Int} (h : okAl all) (h0 : 0 ≤ x) (h1 : x ≤ all) : 0 ≤ sot all x ∧ sot all x ≤ all := by
  unfold sot
  have : 1 ≤ all := by rcases h with rfl | rfl | rfl <;> decide
  (repeat' split) <;> omega
theorem sot_tos {all x : Int} (h : okAl all) (h0 : 0 ≤ x) (h1 : x ≤ all) : sot all (tos all x) = x ∧ 0 ≤ tos all x ∧ tos all x ≤ all := by
  unfold sot tos
  have : 1 ≤ all := by rcases h with rfl | rfl | rfl <;> decide
  (repeat' split) <;> omega
theorem tos_sot {all x : Int} (h : okAl all) (h0 : 0 ≤ x) (h1 : x ≤ all) : tos all (sot all x) = x := by
  unfold sot tos
  have : 1 ≤ all := by rcases h with rfl | rfl | rfl <;> decide
  (repeat' split) <;> omega
theorem tsets_0 {all : Int} (h : okAl all) (y : Int) : tsets all 0 y = if 0 ≤ y ∧ y < all + 1 then y else 12 := by
  have h1 : 1 ≤ all := by rcases h with rfl | rfl | rfl <;> decide
  unfold tsets
  by_cases hy : 0 ≤ y ∧ y < all + 1
  · have hs := sot_rng h hy.1 (by omega)
    have e0 : sot all 0 = 0 := by unfold sot; rw [if_pos rfl]
    have ho := or_rng h (a := 0) (b := sot all y) ⟨by omega, by omega⟩ hs
    rw [if_pos (by omega), if_pos hy, e0, ho.2.2, if_pos rfl, ho.1 rfl, tos_sot h hy.1 (by omega)]
  · rw [if_neg (by omega), if_neg hy]
section FS
variable {X : Nat × (Nat → Int)} {d : Nat} {w w' : MW} {r : Nat} {n : Int} {t : Int → Int → Int}
theorem tos_ok (X : Nat × (Nat → Int)) (d : Nat) {s all : Int} (w : MW) (h0 : 1 ≤ s) (h1 : s < 100) : run X d 34 [.inl s, .inl all] w = some (some (.inl (tos all s)), w) := by
  apply ok_one
  unfold tos
  refine ok_eq (b34_0 X d s all w) (ok_if (fun h2 => ok_ret ⟨?_, rfl⟩) (fun h2 => ok_ret ⟨?_, rfl⟩))
  · rw [if_neg (by omega), if_neg h2, wrap_id (by omega) (by omega)]
  · rw [if_neg (by omega), if_pos (by omega)]
theorem sets_ok (hr : Ts w r) {m : Int} (hm : 1 ≤ m ∧ m ≤ 3) : OkV (run X (d + 4) 33 [.inr r, .inl m] w) (fun w' => Tb w' r (shlI 1 m) (tsets (shlI 1 m - 1)) ∧ Kp r (r + 1) w w') := by
  obtain ⟨all, hall, eall⟩ : ∃ all, okAl all ∧ shlI 1 m = all + 1 := by
    have hm3 : m = 1 ∨ m = 2 ∨ m = 3 := by omega
    rcases hm3 with rfl | rfl | rfl
    · exact ⟨1, Or.inl rfl, by decide +kernel⟩
    · exact ⟨3, Or.inr (Or.inl rfl), by decide +kernel⟩
    · exact ⟨7, Or.inr (Or.inr rfl), by decide +kernel⟩
  have ha1 : 1 ≤ all ∧ all ≤ 7 := by rcases hall with rfl | rfl | rfl <;> decide
  rw [eall, Int.add_sub_cancel]
  have hT := tsets_sym all
  refine ok_eq (b33_0 X (d + 3) r m w) (ok_gd hr.1 ?_)
  rw [eall, Int.add_sub_cancel, wrap_id (z := all) (by omega) (by omega), wrap_id (z := all + 1) (by omega) (by omega)]
  refine ok_V (empty_ok (d := d) hr (k := all + 1) (by omega) (by omega)) (fun w1 ⟨hw1, hk1⟩ => ?_)
  have hB0 := bld_new hw1 hT (tsets_0 hall)
  have kdB : ∀ {s : MW} {Dn}, Bld s r (all + 1) (tsets all) Dn → kd s r = 13 := fun {s Dn} ⟨t2, q, _⟩ => q.k
  refine ok_up (fun i s => R X (d + 4) 33 15 [some (.inr r), none, some (.inl all), some (.inl i), none] [] s) (fun i s => Bld s r (all + 1) (tsets all) (fun x y => (x = 0 ∨ y = 0) ∨ sot all x < i ∨ sot all y < i) ∧ Kp r (r + 1) w s) 1 (all + 1) (by omega) ?_ ?_ w1 ⟨hB0.sub (fun x y hd => ?_), hk1⟩
  · intro i s g1 g2 ⟨hB, hK⟩ ih
    refine ok_eq (b33_15 X (d + 3) r all i s) (ok_iff (by omega) ?_)
    refine ok_up (fun j s => R X (d + 4) 33 23 [some (.inr r), none, some (.inl all), some (.inl i), some (.inl j)] [] s) (fun j s => Bld s r (all + 1) (tsets all) (fun x y => (x = 0 ∨ y = 0) ∨ sot all x < i ∨ sot all y < i ∨ (sot all x = i ∧ sot all y < j) ∨ (sot all y = i ∧ sot all x < j)) ∧ Kp r (r + 1) w s) i (all + 1) (by omega) ?_ ?_ s ⟨hB.sub (fun x y hd => Or.inl (by omega)), hK⟩
    · intro j s2 g3 g4 ⟨hB2, hK2⟩ ih2
      have ti := sot_tos hall (x := i) (by omega) (by omega)
      have tj := sot_tos hall (x := j) (by omega) (by omega)
      have stp : ∀ x y, sot all x = i → sot all y = j → tsets all x y = 12 ∨ (x = tos all i ∧ y = tos all j) := by
        intro x y e1 e2
        by_cases hx : 0 ≤ x ∧ x ≤ all ∧ 0 ≤ y ∧ y ≤ all
        · right
          rw [← e1, ← e2]
          exact ⟨(tos_sot hall hx.1 hx.2.1).symm, (tos_sot hall hx.2.2.1 hx.2.2.2).symm⟩
        · left
          unfold tsets
          rw [if_neg hx]
      refine ok_eq (b33_23 X (d + 3) r all i j s2) (ok_iff (by omega) ?_)
      rw [wrap_id (z := j + 1) (by omega) (by omega)]
      have eT : tsets all (tos all i) (tos all j) = if andI i j = 0 then tos all (orI i j) else 12 := by
        unfold tsets
        rw [if_pos ⟨ti.2.1, ti.2.2, tj.2.1, tj.2.2⟩, ti.1, tj.1]
      refine ok_if (fun hc => ih2 s2 ⟨hB2.sub (fun x y hd => ?_), hK2⟩) (fun hc => ?_)
      · rw [if_neg hc] at eT
        rcases hd with hd | hd | hd | ⟨e1, hd⟩ | ⟨e1, hd⟩
        · exact Or.inl (Or.inl hd)
        · exact Or.inl (Or.inr (Or.inl hd))
        · exact Or.inl (Or.inr (Or.inr (Or.inl hd)))
        · by_cases e2 : sot all y = j
          · right
            rcases stp x y e1 e2 with q | ⟨q1, q2⟩
            · exact q
            · rw [q1, q2, eT]
          · exact Or.inl (by omega)
        · by_cases e2 : sot all x = j
          · right
            rw [hT]
            rcases stp y x e1 e2 with q | ⟨q1, q2⟩
            · exact q
            · rw [q1, q2, eT]
          · exact Or.inl (by omega)
      · have hc0 : andI i j = 0 := by omega
        rw [if_pos hc0] at eT
        have ho := or_rng hall (a := i) (b := j) ⟨by omega, by omega⟩ ⟨by omega, by omega⟩
        have ho2 := ho.2.1 (by omega)
        have to := sot_tos hall (x := orI i j) (by omega) (by omega)
        refine ok_i (tos_ok X _ s2 (by omega) (by omega)) (ok_i (tos_ok X _ s2 (by omega) (by omega)) (ok_i (tos_ok X _ s2 (by omega) (by omega)) (ok_gd (kdB hB2) ?_)))
        refine ok_V (bld_put (d := d + 2) hB2 hT ⟨⟨ti.2.1, by omega⟩, ⟨tj.2.1, by omega⟩, Or.inl ⟨to.2.1, by omega⟩⟩ eT.symm (Dn' := fun x y => (x = 0 ∨ y = 0) ∨ sot all x < i ∨ sot all y < i ∨ (sot all x = i ∧ sot all y < j + 1) ∨ (sot all y = i ∧ sot all x < j + 1)) (fun x y hd => ?_)) (fun s3 ⟨q1, q2⟩ => ih2 s3 ⟨q1, hK2.tr (q2.wide (Nat.le_succ _) (Nat.le_refl _))⟩)
        rcases hd with hd | hd | hd | ⟨e1, hd⟩ | ⟨e1, hd⟩
        · exact Or.inl (Or.inl hd)
        · exact Or.inl (Or.inr (Or.inl hd))
        · exact Or.inl (Or.inr (Or.inr (Or.inl hd)))
        · by_cases e2 : sot all y = j
          · rcases stp x y e1 e2 with q | q
            · exact Or.inr (Or.inl q)
            · exact Or.inr (Or.inr (Or.inl q))
          · exact Or.inl (by omega)
        · by_cases e2 : sot all x = j
          · rcases stp y x e1 e2 with q | q
            · exact Or.inr (Or.inl (by rw [hT]; exact q))
            · exact Or.inr (Or.inr (Or.inr ⟨q.2, q.1⟩))
          · exact Or.inl (by omega)
    · intro s2 ⟨hB2, hK2⟩
      refine ok_eq (b33_23 X (d + 3) r all i (all + 1) s2) (ok_ift (by omega) ?_)
      rw [wrap_id (z := i + 1) (by omega) (by omega)]
      refine ih s2 ⟨hB2.sub (fun x y hd => ?_), hK2⟩
      by_cases hx : 0 ≤ x ∧ x ≤ all ∧ 0 ≤ y ∧ y ≤ all
      · have := sot_rng hall hx.1 hx.2.1
        have := sot_rng hall hx.2.2.1 hx.2.2.2
        exact Or.inl (by omega)
      · right
        unfold tsets
        rw [if_neg hx]
  · intro s ⟨hB, hK⟩
    refine ok_eq (b33_15 X (d + 3) r all (all + 1) s) (ok_ift (by omega) (ok_ret ⟨rfl, hB.fin (fun x y => ?_), hK⟩))
    by_cases hx : 0 ≤ x ∧ x ≤ all ∧ 0 ≤ y ∧ y ≤ all
    · have := sot_rng hall hx.1 hx.2.1
      exact Or.inl (by omega)
    · right
      unfold tsets
      rw [if_neg hx]
  · by_cases hx : 0 ≤ x ∧ x ≤ all ∧ 0 ≤ y ∧ y ≤ all
    · have := sot_rng hall hx.1 hx.2.1
      have := sot_rng hall hx.2.2.1 hx.2.2.2
      left
      rcases hd with hd | hd | hd
      · exact hd
      · left
        have : sot all x = 0 := by omega
        unfold sot at this
        revert this
        (repeat' split) <;> omega
      · right
        have : sot all y = 0 := by omega
        unfold sot at this
        revert this
        (repeat' split) <;> omega
    · right
      unfold tsets
      rw [if_neg hx]
end FS
