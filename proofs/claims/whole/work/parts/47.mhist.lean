/-! the reference: its history -/
def HM (w : MW) (L : List AT) : Prop := gi w 38 4 = L.length ∧ L.length ≤ 4 ∧ ∀ (i : Nat) (a : AT), L[i]? = some a → RowS w 41 (145 * i) a
section MH
variable {X : Nat × (Nat → Int)} {d : Nat} {w w' : MW} {n : Int} {t : Int → Int → Int} {L : List AT}
theorem TbM.kp {lo hi : Nat} (h : TbM w n t) (k : Kp lo hi w w') (h1 : 39 < lo ∨ hi < 38) : TbM w' n t := ⟨by rw [k.gi (by omega)]; exact h.1, fun j j0 j1 => by rw [k.gi (by omega)]; exact h.2 j j0 j1⟩
theorem rec_put (hS : Sh w) (hT : TbM w n t) (hH : HM w L) (hl : L.length < 4) : OkV (R X (d + 1) 108 49 [some (.inr 38), none] [] w) (fun w' => HM w' (L ++ [(n, t)]) ∧ TbM w' n t ∧ Kp 38 41 w w' ∧ (∀ j, j ≠ 4 → gi w' 38 j = gi w 38 j) ∧ ∀ b, b = 39 ∨ b = 40 → ∀ j, gi w' b j = gi w b j) := by
  obtain ⟨k38, k39, l39, g1, k41, l41, g3, -⟩ := shM hS
  obtain ⟨h1, h2, h3⟩ := hH
  refine ok_eq (b108_49 X d 38 w) (ok_gd k38 (ok_r g3 (ok_gd k38 (ok_gd k38 ?_))))
  rw [h1, wrap_id (z := 145 * (L.length : Int)) (by omega) (by omega)]
  refine ok_V (lays_ok hS hT (Or.inl rfl) (o := 145 * L.length) (by rw [l41]; omega) (by rw [l41]; omega)) (fun z ⟨z1, z2, z3⟩ => ?_)
  have Sz := hS.kp z2
  refine ok_gd (Sz.1 38) (ok_gd (Sz.1 38) (ok_ret ⟨rfl, ?_, ?_, (z2.wide (by omega) (by omega)).tr (Kp.si (by omega) (by omega)), fun j hj => ?_, fun b hb j => ?_⟩))
  · have hlen : (L ++ [(n, t)]).length = L.length + 1 := by simp
    refine ⟨?_, by rw [hlen]; omega, fun i a hi => ?_⟩
    · rw [gi_si_eq, z2.gi (by omega), h1, wrap_id (by omega) (by omega), hlen]
      omega
    · have row : RowS z 41 (145 * i) a := by
        rcases get_app hi with q | ⟨q, rfl⟩
        · have hlt : i < L.length := (List.getElem?_eq_some_iff.mp q).1
          obtain ⟨r1, r2⟩ := h3 i a q
          exact ⟨by rw [z3 _ (by omega)]; exact r1, fun k k0 k1 => by rw [z3 _ (by omega)]; exact r2 k k0 k1⟩
        · rw [q]; exact z1
      exact ⟨by rw [gi_si_ne (by omega)]; exact row.1, fun k k0 k1 => by rw [gi_si_ne (by omega)]; exact row.2 k k0 k1⟩
  · have := hT.kp z2 (by omega)
    exact ⟨by rw [gi_si_ne2 (by omega)]; exact this.1, fun k k0 k1 => by rw [gi_si_ne (by omega)]; exact this.2 k k0 k1⟩
  · rw [gi_si_ne2 hj, z2.gi (by omega)]
  · rw [gi_si_ne (by omega), z2.gi (by omega)]
theorem rec_m (hS : Sh w) (hT : TbM w n t) (hH : HM w L) : OkV (run X (d + 1) 108 [.inr 38] w) (fun w' => HM w' (pushH L (n, t)) ∧ TbM w' n t ∧ Kp 38 41 w w' ∧ (∀ j, j ≠ 4 → gi w' 38 j = gi w 38 j) ∧ ∀ b, b = 39 ∨ b = 40 → ∀ j, gi w' b j = gi w b j) := by
  obtain ⟨k38, k39, l39, g1, k41, l41, g3, -⟩ := shM hS
  obtain ⟨h1, h2, h3⟩ := id hH
  refine ok_eq (b108_0 X d 38 w) (ok_gd k38 ?_)
  rw [h1]
  refine ok_if (fun hc => ?_) (fun hc => ?_)
  · have : pushH L (n, t) = L ++ [(n, t)] := by
      unfold pushH
      rw [if_neg (by omega)]
    rw [this]
    exact rec_put hS hT hH (by omega)
  · have h4 : L.length = 4 := by have := Decidable.not_not.mp hc; omega
    have : pushH L (n, t) = L.tail ++ [(n, t)] := by
      unfold pushH
      rw [if_pos h4]
    rw [this]
    refine ok_up (fun i z => R X (d + 1) 108 10 [some (.inr 38), some (.inl i)] [] z) (fun i z => Kp 41 41 w z ∧ ∀ j : Nat, gi z 41 j = if (j : Int) < i then gi w 41 (j + 145) else gi w 41 j) 0 435 (by omega) ?_ ?_ w ⟨Kp.rf, fun j => by rw [if_neg (by omega)]⟩
    · intro i z i0 i1 ⟨hK, hI⟩ ih
      have Sz := hS.kp hK
      have z41 : kd z 41 = 1 := Sz.1 41
      have m41 : ln z 41 = 580 := Sz.2.1 41
      have y3 : gr z 38 3 = some 41 := Sz.2.2 38 3 (by decide)
      refine ok_eq (b108_10 X d 38 i z) (ok_iff (by omega) (ok_gd (Sz.1 38) (ok_r y3 (ok_gd (Sz.1 38) (ok_r y3 ?_)))))
      rw [wrap_id (z := i + 145) (by omega) (by omega), wrap_id (z := i + 1) (by omega) (by omega)]
      refine ok_gd ⟨z41, by omega, by rw [m41]; omega⟩ (ok_gd ⟨z41, i0, by rw [m41]; omega⟩ (ih _ ⟨hK.tr (Kp.si (by omega) (by omega)), fun j => ?_⟩))
      by_cases e : (j : Int) = i
      · rw [show j = i.toNat by omega, gi_si_eq, hI, if_neg (by omega), if_pos (by omega), show (i + 145).toNat = i.toNat + 145 by omega]
      · rw [gi_si_ne2 (by omega), hI]
        by_cases e2 : (j : Int) < i
        · rw [if_pos e2, if_pos (by omega)]
        · rw [if_neg e2, if_neg (by omega)]
    · intro z ⟨hK, hI⟩
      have Sz := hS.kp hK
      refine ok_eq (b108_10 X d 38 435 z) (ok_ift (by omega) (ok_gd (Sz.1 38) (ok_gd (Sz.1 38) ?_)))
      rw [hK.gi (by omega), h1, wrap_id (by omega) (by omega)]
      have K1 : Kp 38 38 z (si z 38 4 ((L.length : Int) - 1)) := Kp.si (by omega) (by omega)
      have hT1 : TbM (si z 38 4 ((L.length : Int) - 1)) n t := by
        have := hT.kp hK (by omega)
        exact ⟨by rw [gi_si_ne2 (by omega)]; exact this.1, fun k k0 k1 => by rw [gi_si_ne (by omega)]; exact this.2 k k0 k1⟩
      have hH1 : HM (si z 38 4 ((L.length : Int) - 1)) L.tail := by
        refine ⟨by rw [gi_si_eq, List.length_tail]; omega, by rw [List.length_tail]; omega, fun i a hi => ?_⟩
        rw [List.getElem?_tail] at hi
        have hlt : i + 1 < L.length := (List.getElem?_eq_some_iff.mp hi).1
        obtain ⟨r1, r2⟩ := h3 (i + 1) a hi
        refine ⟨?_, fun k k0 k1 => ?_⟩
        · rw [gi_si_ne (by omega), hI, if_pos (by omega), ← r1]
          congr 1
        · rw [gi_si_ne (by omega), hI, if_pos (by omega), ← r2 k k0 k1]
          congr 1
          omega
      refine ok_imp (rec_put (X := X) (d := d) (Sz.kp K1) hT1 hH1 (by rw [List.length_tail]; omega)) (fun v w2 ⟨q0, q1, q2, q3, q4, q5⟩ => ⟨q0, q1, q2, ((hK.wide (by omega) (by omega)).tr (K1.wide (by omega) (by omega))).tr q3, fun j hj => ?_, fun b hb j => ?_⟩)
      · rw [q4 j hj, gi_si_ne2 hj, hK.gi (by omega)]
      · rw [q5 b hb, gi_si_ne (by omega), hK.gi (by omega)]
end MH
