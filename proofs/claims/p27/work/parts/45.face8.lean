/-! counts and things, told -/
section FJ
variable {X : Nat × (Nat → Int)} {d : Nat} {w w1 w2 w3 : MW} {A : AS}
theorem tms_ok (h : ClS w A) (s : Int) : run X (d + 2) 100 [.inr 1, .inl s] w = some (some (.inl (tmF A.1.2 s 19 1 s)), w) := by
  obtain ⟨hS, ⟨hb, hok⟩, hsn, ⟨hh, hho⟩, htx⟩ := h
  obtain ⟨k1, g0, g1, g3, g4, g5, g6, g7, g8, k2, -⟩ := shF hS
  obtain ⟨R0, hR0⟩ : ∃ R0, R0 = tmF A.1.2 s 19 1 s := ⟨_, rfl⟩
  rw [← hR0]
  apply ok_one
  refine ok_eq (b100_0 X (d + 1) 1 s w) ?_
  refine ok_up (fun i (z : Int × MW) => R X (d + 2) 100 4 [some (.inr 1), some (.inl s), some (.inl z.1), some (.inl i)] [] z.2) (fun i z => z.2 = w ∧ R0 = tmF A.1.2 s (20 - i).toNat i z.1) 1 20 (by omega) ?_ ?_ (s, w) ⟨rfl, hR0⟩
  · intro i z h2 h3 ⟨e, hE⟩ ih
    obtain ⟨v, y⟩ := z
    dsimp only at e hE ⊢
    subst e
    rw [show (20 - i).toNat = (20 - (i + 1)).toNat + 1 by omega, tmF] at hE
    refine ok_eq (b100_4 X (d + 1) 1 s v i y) (ok_iff (by omega) (ok_gd k1 (ok_r g0 (ok_gd k2 (ok_i (at_ok hb v s) ?_)))))
    rw [wrap_id (z := i + 1) (by omega) (by omega)]
    refine ok_if (fun hc => ih (A.1.2 v s, y) ⟨rfl, ?_⟩) (fun hc => ok_ret ⟨?_, rfl⟩)
    · rw [hE, if_neg hc]
    · rw [hE, if_pos (Decidable.not_not.mp hc)]
  · intro z ⟨e, hE⟩
    obtain ⟨v, y⟩ := z
    dsimp only at e hE ⊢
    subst e
    rw [show ((20 : Int) - 20).toNat = 0 from rfl, tmF] at hE
    exact ok_eq (b100_4 X (d + 1) 1 s v 20 y) (ok_ift (by omega) (ok_ret ⟨by rw [hE], rfl⟩))
theorem th_q (h : ClS w A) (s c : Int) : OkI (run X (d + 5) 88 [.inr 1, .inl s, .inl c] w) (QO w A (fun x => x = thQ A s c)) := by
  have hcs := h
  obtain ⟨hS, ⟨hb, hok⟩, hsn, ⟨hh, hho⟩, htx⟩ := h
  obtain ⟨k1, g0, g1, g3, g4, g5, g6, g7, g8, k2, k4, k6, k16, k21, k22, k27, -⟩ := shF hS
  obtain ⟨o1, o2, o3⟩ := hok
  refine ok_eq (b88_0 X (d + 4) 1 s c w) (ok_gd k1 (ok_r g0 (ok_gd k2 (ok_i (has_ok hb s) (ok_if (fun h1 => ok_gd k1 (ok_r g6 (ok_gd k1 (ok_r g0 (ok_gd k22 (ok_V (find_ok (d := d) hS hb o3) (fun z ⟨hR, hK⟩ => ?_))))))) (fun h1 => ok_ret ⟨_, rfl, QO.same hcs (if_pos (bI_eq.mp (Decidable.not_not.mp h1))).symm⟩))))))
  obtain ⟨hcz, hkz⟩ := hcs.qry (hK.wide (by omega) (by omega))
  have hs := bI_ne.mp h1
  have hSz := hS.kp hK
  have hbz := hb.kp hK (by omega)
  have z1 : kd z 1 = 16 := hSz.1 1
  have z2 : kd z 2 = 13 := hSz.1 2
  have z22 : kd z 22 = 12 := hSz.1 22
  have y0 : gr z 1 0 = some 2 := hSz.2.2 1 0 (by decide)
  have y6 : gr z 1 6 = some 22 := hSz.2.2 1 6 (by decide)
  have z23 : kd z 23 = 1 := hSz.1 23
  have l23 : ln z 23 = 12 := hSz.2.1 23
  have z24 : kd z 24 = 1 := hSz.1 24
  have l24 : ln z 24 = 12 := hSz.2.1 24
  have z25 : kd z 25 = 1 := hSz.1 25
  have l25 : ln z 25 = 12 := hSz.2.1 25
  obtain ⟨p1, p2, p3, p4⟩ := hR.2 s hs.1 hs.2
  have e0 : thQ A s c = if c = 0 then orN (lsA (fun y => decide (A.1.2 s y = 1)) A.1.1) else if c = 1 then prt A.1.2 A.1.1 s else if c = 2 then whl A.1.2 A.1.1 s else if c = 3 then bI (smA A.1.2 A.1.1 s = true) else if c = 4 then bI (shA A.1.2 A.1.1 s = true) else if c = 5 then tgt A.1.2 A.1.1 s else if c = 6 then bI2 (fun j => decide (A.1.2 s j ≠ 12)) A.1.1 else if c = 7 then tmF A.1.2 s 19 1 s else -2 := if_neg (fun q => q hs)
  unfold swt
  refine ok_if (fun e => ok_gd z1 (ok_r y0 (ok_gd z2 (ok_i (rest_ok (d := d + 1) hbz s) (ok_i (orN_ok X _ _ z) (ok_ret ⟨_, rfl, ?_, hcz, hkz⟩)))))) (fun e => ?_)
  · rw [e0, if_pos e]
  unfold swt
  refine ok_if (fun f => ok_gd z1 (ok_r y6 (ok_gd z22 (ok_r (hSz.2.2 22 0 (by decide)) (ok_gd ⟨z23, hs.1, by rw [l23]; omega⟩ (ok_ret ⟨_, rfl, ?_, hcz, hkz⟩)))))) (fun f => ?_)
  · rw [e0, if_neg e, if_pos (by omega), p1]
  unfold swt
  refine ok_if (fun g => ok_gd z1 (ok_r y6 (ok_gd z22 (ok_r (hSz.2.2 22 1 (by decide)) (ok_gd ⟨z24, hs.1, by rw [l24]; omega⟩ (ok_ret ⟨_, rfl, ?_, hcz, hkz⟩)))))) (fun g => ?_)
  · rw [e0, if_neg e, if_neg (by omega), if_pos (by omega), p2]
  unfold swt
  refine ok_if (fun i => ok_gd z1 (ok_r y6 (ok_gd z22 (ok_i (smA_ok (d := d + 2) hSz hR o2 hs) (ok_if (fun u => ok_ret ⟨_, rfl, ?_, hcz, hkz⟩) (fun u => ok_ret ⟨_, rfl, ?_, hcz, hkz⟩)))))) (fun i => ?_)
  · rw [e0, if_neg e, if_neg (by omega), if_neg (by omega), if_pos (by omega), u]
  · rw [e0, if_neg e, if_neg (by omega), if_neg (by omega), if_pos (by omega)]
    exact (if_pos (bI_ne.mp u)).symm
  unfold swt
  refine ok_if (fun j => ok_gd z1 (ok_r y6 (ok_gd z22 (ok_i (shA_ok (d := d + 3) hSz hR o2 (by omega) hs) (ok_if (fun u => ok_ret ⟨_, rfl, ?_, hcz, hkz⟩) (fun u => ok_ret ⟨_, rfl, ?_, hcz, hkz⟩)))))) (fun j => ?_)
  · rw [e0, if_neg e, if_neg (by omega), if_neg (by omega), if_neg (by omega), if_pos (by omega), u]
  · rw [e0, if_neg e, if_neg (by omega), if_neg (by omega), if_neg (by omega), if_pos (by omega)]
    exact (if_pos (bI_ne.mp u)).symm
  unfold swt
  refine ok_if (fun k => ok_gd z1 (ok_r y6 (ok_gd z22 (ok_r (hSz.2.2 22 2 (by decide)) (ok_gd ⟨z25, hs.1, by rw [l25]; omega⟩ (ok_ret ⟨_, rfl, ?_, hcz, hkz⟩)))))) (fun k => ?_)
  · rw [e0, if_neg e, if_neg (by omega), if_neg (by omega), if_neg (by omega), if_neg (by omega), if_pos (by omega), p3]
  unfold swt
  refine ok_if (fun l => ok_gd z1 (ok_r y0 (ok_gd z2 (ok_i (adds_ok (d := d + 1) hbz s) (ok_ret ⟨_, rfl, ?_, hcz, hkz⟩))))) (fun l => ?_)
  · rw [e0, if_neg e, if_neg (by omega), if_neg (by omega), if_neg (by omega), if_neg (by omega), if_neg (by omega), if_pos (by omega)]
  unfold swt
  refine ok_if (fun m => ok_gd z1 (ok_i (tms_ok (d := d + 2) hcz s) (ok_ret ⟨_, rfl, ?_, hcz, hkz⟩))) (fun m => ?_)
  · rw [e0, if_neg e, if_neg (by omega), if_neg (by omega), if_neg (by omega), if_neg (by omega), if_neg (by omega), if_neg (by omega), if_pos (by omega)]
  unfold swt
  refine ok_ret ⟨_, rfl, ?_, hcz, hkz⟩
  rw [e0, if_neg e, if_neg (by omega), if_neg (by omega), if_neg (by omega), if_neg (by omega), if_neg (by omega), if_neg (by omega), if_neg (by omega)]
theorem ct_q (h : ClS w A) (c : Int) : OkI (run X (d + 5) 94 [.inr 1, .inl c] w) (QO w A (fun x => x = ctQ A c)) := by
  have hcs := h
  obtain ⟨hS, ⟨hb, hok⟩, hsn, ⟨hh, hho⟩, htx⟩ := h
  obtain ⟨k1, g0, g1, g3, g4, g5, g6, g7, g8, k2, k4, k6, k16, k21, k22, k27, -⟩ := shF hS
  obtain ⟨o1, o2, o3⟩ := hok
  have rel : ∀ {f : MW → RS}, (∀ z, RlS z A.1.2 A.1.1 → Sh z → ClS z A → Kh 1 37 w z → Ok (f z) (fun v w' => ∃ x, v = some (.inl x) ∧ QO w A (fun x => x = ctQ A c) x w')) → Ok (gd (kd w 1 = 16) (rO (gr w 1 6) fun b8 => gd (kd w 1 = 16) (rO (gr w 1 0) fun b9 => gd (kd w b8 = 12) (rV (run X (d + 4) 11 [.inr b8, .inr b9] w) f)))) (fun v w' => ∃ x, v = some (.inl x) ∧ QO w A (fun x => x = ctQ A c) x w') := by
    intro f hf
    refine ok_gd k1 (ok_r g6 (ok_gd k1 (ok_r g0 (ok_gd k22 (ok_V (find_ok (d := d) hS hb o3) (fun z ⟨hR, hK⟩ => ?_))))))
    obtain ⟨hcz, hkz⟩ := hcs.qry (hK.wide (by omega) (by omega))
    exact hf z hR (hS.kp hK) hcz hkz
  have law : ∀ {f : MW → RS}, (∀ z, LwS A.1.2 A.1.1 z 1752 → Sh z → ClS z A → Kh 1 37 w z → Ok (f z) (fun v w' => ∃ x, v = some (.inl x) ∧ QO w A (fun x => x = ctQ A c) x w')) → Ok (gd (kd w 1 = 16) (rO (gr w 1 5) fun b8 => gd (kd w 1 = 16) (rO (gr w 1 0) fun b9 => gd (kd w b8 = 11) (rV (run X (d + 4) 6 [.inr b8, .inr b9] w) f)))) (fun v w' => ∃ x, v = some (.inl x) ∧ QO w A (fun x => x = ctQ A c) x w') := by
    intro f hf
    refine ok_gd k1 (ok_r g5 (ok_gd k1 (ok_r g0 (ok_gd k21 (ok_V (check_ok (d := d + 1) hS hb (by omega)) (fun z ⟨hR, hK⟩ => ?_))))))
    obtain ⟨hcz, hkz⟩ := hcs.qry (hK.wide (by omega) (by omega))
    exact hf z hR (hS.kp hK) hcz hkz
  refine ok_eq (b94_0 X (d + 4) 1 c w) ?_
  unfold swt
  refine ok_if (fun e => ok_gd k1 (ok_r g0 (ok_gd k2 (ok_ret ⟨_, rfl, QO.same hcs ?_⟩)))) (fun e => ?_)
  · rw [hb.sz]; exact (if_pos e).symm
  unfold swt
  refine ok_if (fun e1 => ok_gd k1 (ok_r g0 (ok_gd k2 (ok_i (pws_ok (d := d + 1) hb (by omega)) (ok_ret ⟨_, rfl, QO.same hcs ?_⟩))))) (fun e1 => ?_)
  · unfold ctQ; rw [if_neg e, if_pos (by omega)]
  unfold swt
  refine ok_if (fun e2 => law (fun z hL hSz hcz hkz => ok_gd (hSz.1 1) (ok_r (hSz.2.2 1 5 (by decide)) (ok_gd (hSz.1 21) (ok_if (fun u => ok_ret ⟨_, rfl, ?_, hcz, hkz⟩) (fun u => ok_ret ⟨_, rfl, ?_, hcz, hkz⟩)))))) (fun e2 => ?_)
  · have := hL.1
    show _ = ctQ A c
    unfold ctQ; rw [if_neg e, if_neg (by omega), if_pos (by omega)]
    exact (if_neg (by omega)).symm
  · have := hL.1
    show _ = ctQ A c
    unfold ctQ; rw [if_neg e, if_neg (by omega), if_pos (by omega)]
    exact (if_pos (by omega)).symm
  unfold swt
  refine ok_if (fun e3 => rel (fun z hR hSz hcz hkz => ok_gd (hSz.1 1) (ok_r (hSz.2.2 1 6 (by decide)) (ok_gd (hSz.1 22) (ok_i (nbk_ok (d := d + 2) hSz hR o2 (by omega)) (ok_ret ⟨_, rfl, ?_, hcz, hkz⟩)))))) (fun e3 => ?_)
  · show _ = ctQ A c
    unfold ctQ; rw [if_neg e, if_neg (by omega), if_neg (by omega), if_pos (by omega)]
  unfold swt
  refine ok_if (fun e4 => rel (fun z hR hSz hcz hkz => ok_gd (hSz.1 1) (ok_r (hSz.2.2 1 6 (by decide)) (ok_gd (hSz.1 22) (ok_i (sms_ok (d := d + 1) hSz hR o2 (by omega)) (ok_ret ⟨_, rfl, ?_, hcz, hkz⟩)))))) (fun e4 => ?_)
  · show _ = ctQ A c
    unfold ctQ; rw [if_neg e, if_neg (by omega), if_neg (by omega), if_neg (by omega), if_pos (by omega)]
  unfold swt
  refine ok_if (fun e5 => rel (fun z hR hSz hcz hkz => ok_gd (hSz.1 1) (ok_r (hSz.2.2 1 6 (by decide)) (ok_gd (hSz.1 22) (ok_i (shs_ok (d := d + 2) hSz hR o2 (by omega)) (ok_ret ⟨_, rfl, ?_, hcz, hkz⟩)))))) (fun e5 => ?_)
  · show _ = ctQ A c
    unfold ctQ; rw [if_neg e, if_neg (by omega), if_neg (by omega), if_neg (by omega), if_neg (by omega), if_pos (by omega)]
  unfold swt
  refine ok_if (fun e6 => rel (fun z hR hSz hcz hkz => ok_gd (hSz.1 1) (ok_r (hSz.2.2 1 6 (by decide)) (ok_gd (hSz.1 22) (ok_i (apt_ok (d := d + 3) hSz hR o2 (by omega)) (ok_ret ⟨_, rfl, ?_, hcz, hkz⟩)))))) (fun e6 => ?_)
  · show _ = ctQ A c
    unfold ctQ; rw [if_neg e, if_neg (by omega), if_neg (by omega), if_neg (by omega), if_neg (by omega), if_neg (by omega), if_pos (by omega)]
  unfold swt
  refine ok_if (fun e7 => law (fun z hL hSz hcz hkz => ok_gd (hSz.1 1) (ok_r (hSz.2.2 1 5 (by decide)) (ok_gd (hSz.1 21) (ok_ret ⟨_, rfl, ?_, hcz, hkz⟩))))) (fun e7 => ?_)
  · show _ = ctQ A c
    unfold ctQ; rw [if_neg e, if_neg (by omega), if_neg (by omega), if_neg (by omega), if_neg (by omega), if_neg (by omega), if_neg (by omega), if_pos (by omega)]
    exact hL.1
  unfold swt
  refine ok_if (fun e8 => ok_gd k1 (ok_r g3 (ok_gd k6 (ok_ret ⟨_, rfl, QO.same hcs ?_⟩)))) (fun e8 => ?_)
  · obtain ⟨ρ, -, -, -, -, hl, -⟩ := id hh
    unfold ctQ; rw [if_neg e, if_neg (by omega), if_neg (by omega), if_neg (by omega), if_neg (by omega), if_neg (by omega), if_neg (by omega), if_neg (by omega), if_pos (by omega)]
    exact hl
  unfold swt
  refine ok_if (fun e9 => ok_gd k1 (ok_r g4 (ok_gd k16 (ok_ret ⟨_, rfl, QO.same hcs ?_⟩)))) (fun e9 => ?_)
  · unfold ctQ; rw [if_neg e, if_neg (by omega), if_neg (by omega), if_neg (by omega), if_neg (by omega), if_neg (by omega), if_neg (by omega), if_neg (by omega), if_neg (by omega), if_pos (by omega)]
    exact htx.1
  unfold swt
  refine ok_ret ⟨_, rfl, QO.same hcs ?_⟩
  unfold ctQ; rw [if_neg e, if_neg (by omega), if_neg (by omega), if_neg (by omega), if_neg (by omega), if_neg (by omega), if_neg (by omega), if_neg (by omega), if_neg (by omega), if_neg (by omega)]
end FJ
