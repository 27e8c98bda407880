/-! the reference's restore, type, clearText -/
section MC
variable {X : Nat × (Nat → Int)} {d : Nat} {w w1 : MW} {A : AS}
/-- records, over the whole state -/
theorem recS (hS : Sh w) (h : MoS w A) : OkV (run X (d + 1) 108 [.inr 38] w) (fun w' => (TbM w' A.1.1 A.1.2 ∧ HM w' (pushH A.2.2.1 A.1) ∧ MSn w' A.2.1 ∧ MTx w' A.2.2.2.1 A.2.2.2.2) ∧ Kp 38 41 w w') := by
  obtain ⟨hT, hH, hN, hX⟩ := h
  refine ok_imp (rec_m (X := X) (d := d) hS hT hH) (fun v w2 ⟨q0, q1, q2, q3, q4, q5⟩ => ⟨q0, ⟨q2, q1, hN.kp q3 (by omega) (q4 6 (by omega)), hX.kp q3 (by omega) (q4 8 (by omega))⟩, q3⟩)
/-- a new table after records -/
theorem MoS.act {w2 : MW} (h : TbM w1 A.1.1 A.1.2 ∧ HM w1 (pushH A.2.2.1 A.1) ∧ MSn w1 A.2.1 ∧ MTx w1 A.2.2.2.1 A.2.2.2.2) (k1 : Kp 38 41 w w1) (k2 : Kp 38 40 w1 w2) (k3 : ∀ j, j ≠ 0 → gi w2 38 j = gi w1 38 j) {a : AT} (hT : TbM w2 a.1 a.2) : MoS w2 (push A a) ∧ Kp 38 48 w w2 :=
  ⟨⟨hT, h.2.1.kp k2 (by omega) (k3 4 (by omega)), h.2.2.1.kp k2 (by omega) (k3 6 (by omega)), h.2.2.2.kp k2 (by omega) (k3 8 (by omega))⟩, (k1.wide (by omega) (by omega)).tr (k2.wide (by omega) (by omega))⟩
theorem rest_m (hS : Sh w) (h : MoS w A) : OkI (run X (d + 2) 111 [.inr 38] w) (MO w (restF A)) := by
  obtain ⟨hT, hH, hN, hX⟩ := id h
  refine ok_eq (b111_0 X (d + 1) 38 w) (ok_gd (hS.1 38) ?_)
  rcases hN with ⟨q1, q2⟩ | ⟨a, q1, q2, q3⟩
  · refine ok_iff (by omega) (ok_ret ⟨_, rfl, MO.same h ?_⟩)
    unfold restF
    rw [q1]
  · refine ok_ift (by omega) (ok_gd (hS.1 38) (ok_V (recS (d := d) hS h) (fun z ⟨hz, kz⟩ => ?_)))
    have Sz := hS.kp kz
    have hrow : RowS z 42 0 a := ⟨by rw [kz.gi (by omega)]; exact q3.1, fun k k0 k1 => by rw [kz.gi (by omega)]; exact q3.2 k k0 k1⟩
    have l42 : ln z 42 = 145 := Sz.2.1 42
    refine ok_gd (Sz.1 38) (ok_r (Sz.2.2 38 5 (by decide)) (ok_gd (Sz.1 38) (ok_V (gets_ok Sz (Or.inr rfl) (by rw [l42]; omega) (by rw [l42]; omega) hrow) (fun u ⟨u1, u2, u3⟩ => ok_gd ((Sz.kp u2).1 38) (ok_ret ⟨_, rfl, ?_⟩)))))
    obtain ⟨r1, r2⟩ := MoS.act hz kz (u2.wide (by omega) (by omega)) u3 u1
    rw [show restF A = (a.1, push A a) by unfold restF; rw [q1]]
    exact ⟨u1.1, r1, r2⟩
theorem clr_m (hS : Sh w) (h : MoS w A) : OkI (run X d 131 [.inr 38] w) (MO w (clrF A)) := by
  obtain ⟨hT, hH, hN, hX⟩ := id h
  have K : Kp 38 38 w (si w 38 8 0) := Kp.si (by omega) (by omega)
  refine ok_eq (b131_0 X d 38 w) (ok_gd (hS.1 38) (ok_gd (hS.1 38) (ok_ret ⟨_, rfl, hX.1, ⟨⟨by rw [gi_si_ne2 (by omega)]; exact hT.1, fun k k0 k1 => by rw [gi_si_ne (by omega)]; exact hT.2 k k0 k1⟩, hH.kp K (by omega) (gi_si_ne2 (by omega)), hN.kp K (by omega) (gi_si_ne2 (by omega)), gi_si_eq, (by show (0 : Int) ≤ 0 ∧ (0 : Int) ≤ 60; omega), fun j j0 j1 => absurd j1 (by show ¬ j < 0; omega)⟩, K.wide (by omega) (by omega)⟩)))
theorem type_m (hS : Sh w) (h : MoS w A) (c : Int) : OkI (run X d 130 [.inr 38, .inl c] w) (MO w (typeF A c)) := by
  obtain ⟨hT, hH, hN, hX⟩ := id h
  obtain ⟨t1, t2, t3⟩ := id hX
  have k38 : kd w 38 = 17 := hS.1 38
  have k43 : kd w 43 = 1 := hS.1 43
  have l43 : ln w 43 = 60 := hS.2.1 43
  refine ok_eq (b130_0 X d 38 c w) (ok_gd k38 ?_)
  rw [t1]
  refine ok_if (fun hc => ok_gd k38 (ok_r (hS.2.2 38 7 (by decide)) (ok_gd k38 (ok_gd ⟨k43, t2.1, by rw [l43]; omega⟩ (ok_gd k38 (ok_gd k38 (ok_gd k38 ?_))))))) (fun hc => ok_ret ⟨_, rfl, MO.same h (if_neg (by omega))⟩)
  rw [gi_si_eq, gi_si_ne (by omega), t1, wrap_id (by omega) (by omega)]
  have K1 : Kp 43 43 w (si w 43 A.2.2.2.1.toNat c) := Kp.si (by omega) (by omega)
  have K2 : Kp 38 38 (si w 43 A.2.2.2.1.toNat c) (si (si w 43 A.2.2.2.1.toNat c) 38 8 (A.2.2.2.1 + 1)) := Kp.si (by omega) (by omega)
  refine ok_ret ⟨_, rfl, ?_⟩
  rw [show typeF A c = _ from if_pos (show A.2.2.2.1 < 60 by omega)]
  refine ⟨rfl, ⟨⟨by rw [gi_si_ne2 (by omega), gi_si_ne (by omega)]; exact hT.1, fun k k0 k1 => by rw [gi_si_ne (by omega), gi_si_ne (by omega)]; exact hT.2 k k0 k1⟩, (hH.kp K1 (by omega) (gi_si_ne (by omega))).kp K2 (by omega) (gi_si_ne2 (by omega)), (hN.kp K1 (by omega) (gi_si_ne (by omega))).kp K2 (by omega) (gi_si_ne2 (by omega)), gi_si_eq, (by dsimp only; omega), fun j j0 j1 => ?_⟩, (K1.wide (by omega) (by omega)).tr (K2.wide (by omega) (by omega))⟩
  rw [gi_si_ne (by omega)]
  dsimp only at j1 ⊢
  by_cases e : j = A.2.2.2.1
  · rw [if_pos e, e, gi_si_eq]
  · rw [if_neg e, gi_si_ne2 (by omega)]
    exact t3 j j0 (by omega)
end MC
