/-! the reference's addThing -/
section MI
variable {X : Nat × (Nat → Int)} {d : Nat} {w w1 : MW} {A : AS}
theorem add_m (hS : Sh w) (h : MoS w A) (ho : okB A.1) : OkI (run X (d + 2) 120 [.inr 38] w) (MO w (addF A)) := by
  obtain ⟨o1, o2, o3⟩ := ho
  refine ok_eq (b120_0 X (d + 1) 38 w) (ok_gd (hS.1 38) ?_)
  rw [h.1.1]
  refine ok_if (fun hc => ok_gd (hS.1 38) (ok_V (recS (d := d) hS h) (fun z ⟨hz, kz⟩ => ?_))) (fun hc => ok_ret ⟨_, rfl, MO.same h (if_neg (by omega))⟩)
  have Sz := hS.kp kz
  refine ok_gd (Sz.1 38) (ok_V (come_ok (d := d) Sz hz.1 o3 ⟨by omega, by omega⟩) (fun u ⟨u1, u2, u3⟩ => ok_gd ((Sz.kp u2).1 38) (ok_ret ⟨_, rfl, ?_⟩)))
  obtain ⟨r1, r2⟩ := MoS.act (a := (A.1.1 + 1, twid A.1.2 A.1.1 1)) hz kz (u2.wide (by omega) (by omega)) u3 u1
  rw [u1.1, wrap_id (by omega) (by omega), show addF A = (A.1.1, push A (A.1.1 + 1, twid A.1.2 A.1.1 1)) from if_pos (by omega)]
  exact ⟨by dsimp only; omega, r1, r2⟩
end MI
