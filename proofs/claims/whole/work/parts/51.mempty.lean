/-! the reference's empty table, and a thing that comes -/
section MF
variable {X : Nat × (Nat → Int)} {d : Nat} {w w1 : MW} {A : AS} {n : Int} {t : Int → Int → Int}
theorem enc_new {m k : Int} : enc m (tnew m) k = -1 := by
  unfold enc
  by_cases e : (1 ≤ k / 12 ∧ k / 12 < m) ∧ (1 ≤ k % 12 ∧ k % 12 < m)
  · rw [if_pos e]
    have : tnew m (k / 12) (k % 12) = 12 := by
      unfold tnew twid
      rw [if_neg (by omega), if_neg (by omega)]
    rw [this]
    rfl
  · rw [if_neg e]
theorem emptyM_ok (hS : Sh w) (m : Int) : OkV (run X d 112 [.inr 38, .inl m] w) (fun w' => TbM w' m (tnew m) ∧ Kp 38 39 w w' ∧ ∀ j : Nat, j ≠ 0 → gi w' 38 j = gi w 38 j) := by
  refine ok_eq (b112_0 X d 38 m w) (ok_gd (hS.1 38) ?_)
  refine ok_up (fun i z => R X d 112 7 [some (.inr 38), none, some (.inl i)] [] z) (fun i z => Kp 38 39 w z ∧ gi z 38 0 = m ∧ (∀ k, 0 ≤ k → k < i → gi z 39 k.toNat = -1) ∧ ∀ j : Nat, j ≠ 0 → gi z 38 j = gi w 38 j) 0 144 (by omega) ?_ ?_ _ ⟨Kp.si (by omega) (by omega), gi_si_eq, fun k q1 q2 => by omega, fun j hj => gi_si_ne2 hj⟩
  · intro i z i0 i1 ⟨hK, h1, h2, h3⟩ ih
    have Sz := hS.kp hK
    refine ok_eq (b112_7 X d 38 i z) (ok_iff (by omega) (ok_gd (Sz.1 38) (ok_r (Sz.2.2 38 1 (by decide)) (ok_gd ⟨Sz.1 39, i0, by rw [show ln z 39 = 144 from Sz.2.1 39]; omega⟩ ?_))))
    rw [wrap_id (z := i + 1) (by omega) (by omega)]
    refine ih _ ⟨hK.tr (Kp.si (by omega) (by omega)), by rw [gi_si_ne (by omega)]; exact h1, fun k q1 q2 => ?_, fun j hj => by rw [gi_si_ne (by omega)]; exact h3 j hj⟩
    by_cases e : k = i
    · rw [e, gi_si_eq]
    · rw [gi_si_ne2 (by omega)]
      exact h2 k q1 (by omega)
  · intro z ⟨hK, h1, h2, h3⟩
    exact ok_eq (b112_7 X d 38 144 z) (ok_ift (by omega) (ok_ret ⟨rfl, ⟨h1, fun k k0 k1 => by rw [h2 k k0 k1, enc_new]⟩, hK, h3⟩))
end MF
