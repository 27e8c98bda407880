/-! the reference: its table, and rows that keep one -/
def mc (v : Int) : Int := if v = 12 then -1 else v
def enc (n : Int) (t : Int → Int → Int) (k : Int) : Int := if (1 ≤ k / 12 ∧ k / 12 < n) ∧ (1 ≤ k % 12 ∧ k % 12 < n) then mc (t (k / 12) (k % 12)) else -1
def TbM (w : MW) (n : Int) (t : Int → Int → Int) : Prop := gi w 38 0 = n ∧ ∀ k, 0 ≤ k → k < 144 → gi w 39 k.toNat = enc n t k
def RowS (w : MW) (r : Nat) (o : Int) (a : AT) : Prop := gi w r o.toNat = a.1 ∧ ∀ k, 0 ≤ k → k < 144 → gi w r (o + 1 + k).toNat = enc a.1 a.2 k
section MB
variable {X : Nat × (Nat → Int)} {d : Nat} {w w' : MW} {n : Int} {t : Int → Int → Int}
theorem shM (hS : Sh w) : kd w 38 = 17 ∧ kd w 39 = 1 ∧ ln w 39 = 144 ∧ gr w 38 1 = some 39 ∧ kd w 41 = 1 ∧ ln w 41 = 580 ∧ gr w 38 3 = some 41 ∧ kd w 42 = 1 ∧ ln w 42 = 145 ∧ gr w 38 5 = some 42 :=
  ⟨hS.1 38, hS.1 39, hS.2.1 39, hS.2.2 38 1 (by decide), hS.1 41, hS.2.1 41, hS.2.2 38 3 (by decide), hS.1 42, hS.2.1 42, hS.2.2 38 5 (by decide)⟩
theorem in_ok (X : Nat × (Nat → Int)) (d : Nat) (v l h : Int) (w : MW) : run X d 102 [.inl v, .inl l, .inl h] w = some (some (.inl (bI (l ≤ v ∧ v ≤ h))), w) := by
  apply ok_one
  refine ok_eq (b102_0 X d v l h w) (ok_if (fun q => ok_ret ⟨?_, rfl⟩) (fun q => ok_if (fun q2 => ok_ret ⟨?_, rfl⟩) (fun q2 => ok_ret ⟨?_, rfl⟩)))
  · rw [show bI (l ≤ v ∧ v ≤ h) = 0 from if_neg (by omega)]
  · rw [show bI (l ≤ v ∧ v ≤ h) = 0 from if_neg (by omega)]
  · rw [show bI (l ≤ v ∧ v ≤ h) = 1 from if_pos (by omega)]
theorem ist_ok (hS : Sh w) (h : gi w 38 0 = n) (hn : 0 ≤ n ∧ n ≤ 12) (v : Int) : run X (d + 1) 103 [.inr 38, .inl v] w = some (some (.inl (bI (0 ≤ v ∧ v < n))), w) := by
  apply ok_one
  refine ok_eq (b103_0 X d 38 v w) (ok_gd (hS.1 38) (ok_i (in_ok X d v 0 _ w) (ok_gd (bI01 _) (ok_ret ⟨?_, rfl⟩))))
  rw [h, wrap_id (by omega) (by omega)]
  by_cases e : 0 ≤ v ∧ v < n
  · rw [show bI (0 ≤ v ∧ v < n) = 1 from if_pos e, show bI (0 ≤ v ∧ v ≤ n - 1) = 1 from if_pos (by omega)]
  · rw [show bI (0 ≤ v ∧ v < n) = 0 from if_neg e, show bI (0 ≤ v ∧ v ≤ n - 1) = 0 from if_neg (by omega)]
theorem mc_ne {v : Int} (h : v ≠ 12) : mc v = v := if_neg h
theorem plus_ok (hS : Sh w) (h : TbM w n t) (hw : twf t n) (hn : n ≤ 12) {a b : Int} (ha : 0 ≤ a ∧ a < n) (hb : 0 ≤ b ∧ b < n) : run X d 104 [.inr 38, .inl a, .inl b] w = some (some (.inl (mc (t a b))), w) := by
  obtain ⟨k38, k39, l39, g1, -⟩ := shM hS
  apply ok_one
  refine ok_eq (b104_0 X d 38 a b w) (ok_if (fun h1 => ok_if (fun h2 => ok_gd k38 (ok_r g1 ?_)) (fun h2 => ok_ret ⟨?_, rfl⟩)) (fun h1 => ok_ret ⟨?_, rfl⟩))
  · rw [wrap_id (z := 12 * a) (by omega) (by omega), wrap_id (z := 12 * a + b) (by omega) (by omega)]
    refine ok_gd ⟨k39, by omega, by rw [l39]; omega⟩ (ok_ret ⟨?_, rfl⟩)
    rw [h.2 (12 * a + b) (by omega) (by omega)]
    unfold enc
    rw [show (12 * a + b) / 12 = a by omega, show (12 * a + b) % 12 = b by omega, if_pos (by omega)]
  · have e : b = 0 := Decidable.not_not.mp h2
    rw [e, hw.1, hw.2.2.1 a ha.1 ha.2, mc_ne (by omega)]
  · have e : a = 0 := Decidable.not_not.mp h1
    rw [e, hw.2.2.1 b hb.1 hb.2, mc_ne (by omega)]
theorem lays_ok (hS : Sh w) (h : TbM w n t) {r : Nat} (hr : r = 41 ∨ r = 42) {o : Int} (ho : 0 ≤ o ∧ o + 144 < ln w r) (hl : ln w r ≤ 580) : OkV (run X d 106 [.inr 38, .inr r, .inl o] w) (fun w' => RowS w' r o (n, t) ∧ Kp r r w w' ∧ ∀ j : Nat, ((j : Int) < o ∨ o + 145 ≤ j) → gi w' r j = gi w r j) := by
  obtain ⟨k38, k39, l39, g1, k41, l41, g3, k42, l42, g5⟩ := shM hS
  have kr : kd w r = 1 := by rcases hr with rfl | rfl <;> assumption
  have hr2 : r ≠ 38 ∧ r ≠ 39 := by omega
  refine ok_eq (b106_0 X d 38 r o w) (ok_gd k38 (ok_gd ⟨kr, ho.1, by omega⟩ ?_))
  rw [h.1]
  refine ok_up (fun i z => R X d 106 9 [some (.inr 38), some (.inr r), some (.inl o), some (.inl i)] [] z) (fun i z => Kp r r w z ∧ gi z r o.toNat = n ∧ (∀ k, 0 ≤ k → k < i → gi z r (o + 1 + k).toNat = enc n t k) ∧ ∀ j : Nat, ((j : Int) < o ∨ o + 145 ≤ j) → gi z r j = gi w r j) 0 144 (by omega) ?_ ?_ _ ⟨Kp.si (by omega) (by omega), gi_si_eq, fun k q1 q2 => by omega, fun j hj => gi_si_ne2 (by omega)⟩
  · intro i z i0 i1 ⟨hK, h1, h2, h3⟩ ih
    have Sz := hS.kp hK
    refine ok_eq (b106_9 X d 38 r o i z) (ok_iff (by omega) (ok_gd (Sz.1 38) (ok_r (Sz.2.2 38 1 (by decide)) (ok_gd ⟨Sz.1 39, i0, by rw [show ln z 39 = 144 from Sz.2.1 39]; omega⟩ ?_))))
    rw [wrap_id (z := o + 1) (by omega) (by omega), wrap_id (z := o + 1 + i) (by omega) (by omega), wrap_id (z := i + 1) (by omega) (by omega)]
    refine ok_gd ⟨by rw [hK.kd]; exact kr, by omega, by rw [hK.ln]; omega⟩ (ih _ ⟨hK.tr (Kp.si (by omega) (by omega)), ?_, fun k q1 q2 => ?_, fun j hj => ?_⟩)
    · rw [gi_si_ne2 (by omega)]; exact h1
    · by_cases e : k = i
      · rw [e, gi_si_eq, hK.gi (by omega)]
        exact h.2 i i0 i1
      · rw [gi_si_ne2 (by omega)]
        exact h2 k q1 (by omega)
    · rw [gi_si_ne2 (by omega)]; exact h3 j hj
  · intro z ⟨hK, h1, h2, h3⟩
    exact ok_eq (b106_9 X d 38 r o 144 z) (ok_ift (by omega) (ok_ret ⟨rfl, ⟨h1, h2⟩, hK, h3⟩))
theorem gets_ok (hS : Sh w) {a : AT} {r : Nat} (hr : r = 41 ∨ r = 42) {o : Int} (ho : 0 ≤ o ∧ o + 144 < ln w r) (hl : ln w r ≤ 580) (h : RowS w r o a) : OkV (run X d 107 [.inr 38, .inr r, .inl o] w) (fun w' => TbM w' a.1 a.2 ∧ Kp 38 39 w w' ∧ ∀ j : Nat, j ≠ 0 → gi w' 38 j = gi w 38 j) := by
  obtain ⟨k38, k39, l39, g1, k41, l41, g3, k42, l42, g5⟩ := shM hS
  have kr : kd w r = 1 := by rcases hr with rfl | rfl <;> assumption
  refine ok_eq (b107_0 X d 38 r o w) (ok_gd ⟨kr, ho.1, by omega⟩ (ok_gd k38 ?_))
  rw [h.1]
  refine ok_up (fun i z => R X d 107 9 [some (.inr 38), some (.inr r), some (.inl o), some (.inl i)] [] z) (fun i z => Kp 38 39 w z ∧ gi z 38 0 = a.1 ∧ (∀ k, 0 ≤ k → k < i → gi z 39 k.toNat = enc a.1 a.2 k) ∧ ∀ j : Nat, j ≠ 0 → gi z 38 j = gi w 38 j) 0 144 (by omega) ?_ ?_ _ ⟨Kp.si (by omega) (by omega), gi_si_eq, fun k q1 q2 => by omega, fun j hj => gi_si_ne2 hj⟩
  · intro i z i0 i1 ⟨hK, h1, h2, h3⟩ ih
    have Sz := hS.kp hK
    refine ok_eq (b107_9 X d 38 r o i z) (ok_iff (by omega) (ok_gd (Sz.1 38) (ok_r (Sz.2.2 38 1 (by decide)) ?_)))
    rw [wrap_id (z := o + 1) (by omega) (by omega), wrap_id (z := o + 1 + i) (by omega) (by omega), wrap_id (z := i + 1) (by omega) (by omega)]
    refine ok_gd ⟨by rw [hK.kd]; exact kr, by omega, by rw [hK.ln]; omega⟩ (ok_gd ⟨Sz.1 39, i0, by rw [show ln z 39 = 144 from Sz.2.1 39]; omega⟩ (ih _ ⟨hK.tr (Kp.si (by omega) (by omega)), ?_, fun k q1 q2 => ?_, fun j hj => ?_⟩))
    · rw [gi_si_ne (by omega)]; exact h1
    · by_cases e : k = i
      · rw [e, gi_si_eq, hK.gi (by omega)]
        exact h.2 i i0 i1
      · rw [gi_si_ne2 (by omega)]
        exact h2 k q1 (by omega)
    · rw [gi_si_ne (by omega)]; exact h3 j hj
  · intro z ⟨hK, h1, h2, h3⟩
    exact ok_eq (b107_9 X d 38 r o 144 z) (ok_ift (by omega) (ok_ret ⟨rfl, ⟨h1, h2⟩, hK, h3⟩))
end MB
