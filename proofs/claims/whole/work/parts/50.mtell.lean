/-! the reference puts a sum in -/
section ME
variable {X : Nat × (Nat → Int)} {d : Nat} {w w1 : MW} {A : AS} {n : Int} {t : Int → Int → Int}
theorem tell_ok (hS : Sh w) {a b : Int} (ha : 0 ≤ a ∧ a < 12) (hb : 0 ≤ b ∧ b < 12) (v : Int) : run X d 105 [.inr 38, .inl a, .inl b, .inl v] w = some (none, si (si w 39 (12 * a + b).toNat v) 39 (12 * b + a).toNat v) := by
  obtain ⟨k38, k39, l39, g1, -⟩ := shM hS
  apply ok_one
  refine ok_eq (b105_0 X d 38 a b v w) (ok_gd k38 (ok_r g1 ?_))
  rw [wrap_id (z := 12 * a) (by omega) (by omega), wrap_id (z := 12 * a + b) (by omega) (by omega), wrap_id (z := 12 * b) (by omega) (by omega), wrap_id (z := 12 * b + a) (by omega) (by omega)]
  exact ok_gd ⟨k39, by omega, by rw [l39]; omega⟩ (ok_gd k38 (ok_r g1 (ok_gd ⟨k39, by omega, by show _ < ((ln w 39 : Nat) : Int); rw [l39]; omega⟩ (ok_ret ⟨rfl, rfl⟩))))
theorem tell_T (h : TbM w n t) (hn : n ≤ 12) {a b c v : Int} (ha : 1 ≤ a ∧ a < n) (hb : 1 ≤ b ∧ b < n) (hv : v = mc c) : TbM (si (si w 39 (12 * a + b).toNat v) 39 (12 * b + a).toNat v) n (tput t a b c) ∧ Kp 39 39 w (si (si w 39 (12 * a + b).toNat v) 39 (12 * b + a).toNat v) := by
  refine ⟨⟨by rw [gi_si_ne (by omega), gi_si_ne (by omega)]; exact h.1, fun k k0 k1 => ?_⟩, (Kp.si (by omega) (by omega)).tr (Kp.si (by omega) (by omega))⟩
  have hk := h.2 k k0 k1
  unfold enc at hk ⊢
  unfold tput
  by_cases e1 : k = 12 * b + a
  · rw [e1, gi_si_eq, show (12 * b + a) / 12 = b by omega, show (12 * b + a) % 12 = a by omega, if_pos ⟨hb, ha⟩, if_pos (Or.inr ⟨rfl, rfl⟩), hv]
  · rw [gi_si_ne2 (by omega)]
    by_cases e2 : k = 12 * a + b
    · rw [e2, gi_si_eq, show (12 * a + b) / 12 = a by omega, show (12 * a + b) % 12 = b by omega, if_pos ⟨ha, hb⟩, if_pos (Or.inl ⟨rfl, rfl⟩), hv]
    · rw [gi_si_ne2 (by omega), hk]
      by_cases e3 : (1 ≤ k / 12 ∧ k / 12 < n) ∧ (1 ≤ k % 12 ∧ k % 12 < n)
      · rw [if_pos e3, if_pos e3, if_neg (by omega)]
      · rw [if_neg e3, if_neg e3]
theorem set_m (hS : Sh w) (h : MoS w A) (ho : okB A.1) (a b c : Int) : OkI (run X (d + 2) 123 [.inr 38, .inl a, .inl b, .inl c] w) (MO w (setF A a b c)) := by
  obtain ⟨o1, o2, o3⟩ := ho
  have k38 : kd w 38 = 17 := hS.1 38
  have hi := fun v => ist_ok (X := X) (d := d) hS h.1.1 ⟨by omega, o2⟩ v
  refine ok_eq (b123_0 X (d + 1) 38 a b c w) (ok_gd k38 (ok_i (hi a) (ok_if (fun h1 => ok_ret ⟨_, rfl, MO.same h (if_pos (fun q => bI_eq.mp h1 q.1))⟩) (fun h1 => ok_gd k38 (ok_i (hi b) (ok_if (fun h2 => ok_ret ⟨_, rfl, MO.same h (if_pos (fun q => bI_eq.mp h2 q.2.1))⟩) (fun h2 => ok_gd k38 (ok_i (hi c) (ok_if (fun h3 => ?_) (fun h3 => ok_ret ⟨_, rfl, MO.same h (if_pos (fun q => bI_eq.mp (Decidable.not_not.mp h3) q.2.2))⟩))))))))))
  have ha := bI_ne.mp h1
  have hb := bI_ne.mp h2
  have hc := bI_ne.mp h3
  have e0 : setF A a b c = if a = 0 ∨ b = 0 then (-4, A) else if A.1.2 a b = c then (-5, A) else (A.1.2 a b, push A (A.1.1, tput A.1.2 a b c)) := if_neg (fun q => q ⟨ha, hb, hc⟩)
  have hval := o3.2.1 a b
  refine ok_if (fun h4 => ok_ret ⟨_, rfl, MO.same h (by rw [e0, if_pos (Or.inl h4)])⟩) (fun h4 => ok_if (fun h5 => ok_gd k38 (ok_i (plus_ok hS h.1 o3 o2 ha hb) (ok_if (fun h6 => ?_) (fun h6 => ok_ret ⟨_, rfl, MO.same h ?_⟩)))) (fun h5 => ok_ret ⟨_, rfl, MO.same h (by rw [e0, if_pos (Or.inr (Decidable.not_not.mp h5))])⟩))
  rotate_left
  · have h6' := Decidable.not_not.mp h6
    unfold mc at h6'
    rw [e0, if_neg (fun q => q.elim h4 h5), if_pos (by split at h6' <;> omega)]
  have hne : A.1.2 a b ≠ c := fun q => h6 (by rw [q]; exact mc_ne (by omega))
  have e1 : setF A a b c = (A.1.2 a b, push A (A.1.1, tput A.1.2 a b c)) := by rw [e0, if_neg (fun q => q.elim h4 h5), if_neg hne]
  refine ok_gd k38 (ok_V (recS (d := d) hS h) (fun z ⟨hz, kz⟩ => ?_))
  have Sz := hS.kp kz
  obtain ⟨t1, t2⟩ := tell_T hz.1 o2 (a := a) (b := b) (c := c) (v := c) (by omega) (by omega) (mc_ne (by omega)).symm
  obtain ⟨r1, r2⟩ := MoS.act (a := (A.1.1, tput A.1.2 a b c)) hz kz (t2.wide (by omega) (by omega)) (fun j _ => t2.gi (by omega) j) t1
  refine ok_gd (Sz.1 38) (ok_V (Q := fun y => y = si (si z 39 (12 * a + b).toNat c) 39 (12 * b + a).toNat c) ⟨_, _, tell_ok Sz (by omega) (by omega) c, rfl, rfl⟩ (fun y hy => ?_))
  rw [hy, e1]
  refine ok_if (fun h7 => ok_ret ⟨_, rfl, ?_, r1, r2⟩) (fun h7 => ok_ret ⟨_, rfl, ?_, r1, r2⟩)
  · unfold mc at h7 ⊢
    split at h7
    · exact absurd rfl h7
    · next q => rw [if_neg q]
  · have := Decidable.not_not.mp h7
    unfold mc at this
    split at this
    · next q => exact q.symm
    · omega
theorem clear_m (hS : Sh w) (h : MoS w A) (ho : okB A.1) (a b : Int) : OkI (run X (d + 2) 124 [.inr 38, .inl a, .inl b] w) (MO w (clearF A a b)) := by
  obtain ⟨o1, o2, o3⟩ := ho
  have k38 : kd w 38 = 17 := hS.1 38
  have hi := fun v => ist_ok (X := X) (d := d) hS h.1.1 ⟨by omega, o2⟩ v
  refine ok_eq (b124_0 X (d + 1) 38 a b w) (ok_gd k38 (ok_i (hi a) (ok_if (fun h1 => ok_ret ⟨_, rfl, MO.same h (if_pos (fun q => bI_eq.mp h1 q.1))⟩) (fun h1 => ok_gd k38 (ok_i (hi b) (ok_if (fun h2 => ?_) (fun h2 => ok_ret ⟨_, rfl, MO.same h (if_pos (fun q => bI_eq.mp (Decidable.not_not.mp h2) q.2))⟩)))))))
  have ha := bI_ne.mp h1
  have hb := bI_ne.mp h2
  have e0 : clearF A a b = if a = 0 ∨ b = 0 then (-4, A) else if A.1.2 a b = 12 then (-5, A) else (A.1.2 a b, push A (A.1.1, tput A.1.2 a b 12)) := if_neg (fun q => q ⟨ha, hb⟩)
  have hval := o3.2.1 a b
  refine ok_if (fun h4 => ok_ret ⟨_, rfl, MO.same h (by rw [e0, if_pos (Or.inl h4)])⟩) (fun h4 => ok_if (fun h5 => ok_gd k38 (ok_i (plus_ok hS h.1 o3 o2 ha hb) (ok_if (fun h6 => ?_) (fun h6 => ok_ret ⟨_, rfl, MO.same h ?_⟩)))) (fun h5 => ok_ret ⟨_, rfl, MO.same h (by rw [e0, if_pos (Or.inr (Decidable.not_not.mp h5))])⟩))
  rotate_left
  · have h6' := Decidable.not_not.mp h6
    unfold mc at h6'
    rw [e0, if_neg (fun q => q.elim h4 h5), if_pos (by split at h6' <;> omega)]
  have hne : A.1.2 a b ≠ 12 := fun q => h6 (by rw [q]; rfl)
  have e1 : clearF A a b = (A.1.2 a b, push A (A.1.1, tput A.1.2 a b 12)) := by rw [e0, if_neg (fun q => q.elim h4 h5), if_neg hne]
  refine ok_gd k38 (ok_V (recS (d := d) hS h) (fun z ⟨hz, kz⟩ => ?_))
  have Sz := hS.kp kz
  obtain ⟨t1, t2⟩ := tell_T hz.1 o2 (a := a) (b := b) (c := 12) (v := -1) (by omega) (by omega) rfl
  obtain ⟨r1, r2⟩ := MoS.act (a := (A.1.1, tput A.1.2 a b 12)) hz kz (t2.wide (by omega) (by omega)) (fun j _ => t2.gi (by omega) j) t1
  refine ok_gd (Sz.1 38) (ok_V (Q := fun y => y = si (si z 39 (12 * a + b).toNat (-1)) 39 (12 * b + a).toNat (-1)) ⟨_, _, tell_ok Sz (by omega) (by omega) (-1), rfl, rfl⟩ (fun y hy => ?_))
  rw [hy, e1, mc_ne hne]
  exact ok_ret ⟨_, rfl, rfl, r1, r2⟩
end ME
