/-! the reference: a thing comes -/
section MG
variable {X : Nat × (Nat → Int)} {d : Nat} {w w1 : MW} {A : AS} {n : Int} {t : Int → Int → Int}
theorem enc_wid (hw : twf t n) {k : Int} : enc (n + 1) (twid t n 1) k = enc n t k := by
  unfold enc twid
  by_cases e : (1 ≤ k / 12 ∧ k / 12 < n + 1) ∧ (1 ≤ k % 12 ∧ k % 12 < n + 1)
  · rw [if_pos e, if_neg (by omega), if_neg (by omega)]
    by_cases e2 : (1 ≤ k / 12 ∧ k / 12 < n) ∧ (1 ≤ k % 12 ∧ k % 12 < n)
    · rw [if_pos e2]
    · rw [if_neg e2, hw.2.2.2 _ _ (by omega)]
      rfl
  · rw [if_neg e, if_neg (by omega)]
theorem come_ok (hS : Sh w) (h : TbM w n t) (hw : twf t n) (hn : 1 ≤ n ∧ n < 12) : OkV (run X (d + 1) 119 [.inr 38] w) (fun w' => TbM w' (n + 1) (twid t n 1) ∧ Kp 38 39 w w' ∧ ∀ j : Nat, j ≠ 0 → gi w' 38 j = gi w 38 j) := by
  refine ok_eq (b119_0 X d 38 w) ?_
  refine ok_up (fun i z => R X (d + 1) 119 2 [some (.inr 38), some (.inl i)] [] z) (fun i z => Kp 39 39 w z ∧ ∀ k, 0 ≤ k → k < 144 → gi z 39 k.toNat = enc n t k) 0 12 (by omega) ?_ ?_ w ⟨Kp.rf, h.2⟩
  · intro i z i0 i1 ⟨hK, h2⟩ ih
    have Sz := hS.kp hK
    refine ok_eq (b119_2 X d 38 i z) (ok_iff (by omega) (ok_gd (Sz.1 38) (ok_gd (Sz.1 38) ?_)))
    rw [hK.gi (by omega), h.1, wrap_id (z := i + 1) (by omega) (by omega)]
    refine ok_V (Q := fun y => y = si (si z 39 (12 * n + i).toNat (-1)) 39 (12 * i + n).toNat (-1)) ⟨_, _, tell_ok Sz (by omega) (by omega) (-1), rfl, rfl⟩ (fun y hy => ?_)
    rw [hy]
    refine ih _ ⟨hK.tr ((Kp.si (by omega) (by omega)).tr (Kp.si (by omega) (by omega))), fun k k0 k1 => ?_⟩
    have hk := h2 k k0 k1
    have e1 : ∀ q : Int, (q / 12 = n ∨ q % 12 = n) → enc n t q = -1 := fun q hq => if_neg (by omega)
    by_cases c1 : k = 12 * i + n
    · rw [c1, gi_si_eq, e1 _ (by omega)]
    · rw [gi_si_ne2 (by omega)]
      by_cases c2 : k = 12 * n + i
      · rw [c2, gi_si_eq, e1 _ (by omega)]
      · rw [gi_si_ne2 (by omega)]
        exact hk
  · intro z ⟨hK, h2⟩
    have Sz := hS.kp hK
    refine ok_eq (b119_2 X d 38 12 z) (ok_ift (by omega) (ok_gd (Sz.1 38) (ok_gd (Sz.1 38) (ok_ret ⟨rfl, ⟨?_, fun k k0 k1 => ?_⟩, (hK.wide (by omega) (by omega)).tr (Kp.si (by omega) (by omega)), fun j hj => ?_⟩))))
    · rw [gi_si_eq, hK.gi (by omega), h.1, wrap_id (by omega) (by omega)]
    · rw [gi_si_ne (by omega), h2 k k0 k1, enc_wid hw]
    · rw [gi_si_ne2 hj, hK.gi (by omega)]
end MG
