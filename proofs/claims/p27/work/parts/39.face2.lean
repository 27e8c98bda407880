/-! more of the class's acts -/
section FD
variable {X : Nat × (Nat → Int)} {d : Nat} {w w1 w2 w3 : MW} {A : AS}
theorem FO.same (h : ClS w A) {r : Int × AS} {v : Int} (e : r = (v, A)) : FO w r v w := by
  rw [e]
  exact ⟨rfl, h, Kh.rf⟩
theorem set_ok (h : ClS w A) (a b c : Int) : OkI (run X (d + 4) 74 [.inr 1, .inl a, .inl b, .inl c] w) (FO w (setF A a b c)) := by
  have hcs := h
  obtain ⟨hS, ⟨hb, hok⟩, hsn, ⟨hh, hho⟩, htx⟩ := h
  obtain ⟨k1, g0, g1, g3, g4, g5, g6, g7, g8, k2, k4, k6, k16, k21, k22, k27, k37, l37⟩ := shF hS
  obtain ⟨o1, o2, o3⟩ := hok
  refine ok_eq (b74_0 X (d + 3) 1 a b c w) (ok_gd k1 (ok_r g0 (ok_gd k2 (ok_i (has_ok hb a) (ok_if (fun h1 => ok_ret ⟨_, rfl, FO.same hcs ?_⟩) (fun h1 => ok_gd k1 (ok_r g0 (ok_gd k2 (ok_i (has_ok hb b) (ok_if (fun h2 => ok_ret ⟨_, rfl, FO.same hcs ?_⟩) (fun h2 => ok_gd k1 (ok_r g0 (ok_gd k2 (ok_i (has_ok hb c) (ok_if (fun h3 => ?_) (fun h3 => ok_ret ⟨_, rfl, FO.same hcs ?_⟩))))))))))))))))
  · exact if_pos (fun q => bI_eq.mp h1 q.1)
  · exact if_pos (fun q => bI_eq.mp h2 q.2.1)
  rotate_left
  · exact if_pos (fun q => bI_eq.mp (Decidable.not_not.mp h3) q.2.2)
  have ha := bI_ne.mp h1
  have hb' := bI_ne.mp h2
  have hc := bI_ne.mp h3
  have e0 : setF A a b c = if a = 0 ∨ b = 0 then (-4, A) else if A.1.2 a b = c then (-5, A) else (A.1.2 a b, push A (A.1.1, tput A.1.2 a b c)) := if_neg (fun q => q ⟨ha, hb', hc⟩)
  refine ok_if (fun h4 => ok_ret ⟨_, rfl, FO.same hcs ?_⟩) (fun h4 => ok_if (fun h5 => ok_gd k1 (ok_r g0 (ok_gd k2 (ok_i (at_ok hb a b) (ok_if (fun h6 => ?_) (fun h6 => ok_ret ⟨_, rfl, FO.same hcs ?_⟩)))))) (fun h5 => ok_ret ⟨_, rfl, FO.same hcs ?_⟩))
  · rw [e0, if_pos (Or.inl h4)]
  rotate_left
  · rw [e0, if_neg (fun q => q.elim h4 h5), if_pos (Decidable.not_not.mp h6)]
  · rw [e0, if_pos (Or.inr (Decidable.not_not.mp h5))]
  refine ok_gd k1 (ok_r g3 (ok_gd k1 (ok_r g0 (ok_gd k6 (ok_R (rem_ok (d := d + 2) hS hh hb) (fun z0 z ⟨q1, q2, q3, q4⟩ => ?_))))))
  have hSz := hS.kh q4
  refine ok_gd (hSz.1 1) (ok_r (hSz.2.2 1 0 (by decide)) (ok_gd (hSz.1 2) (ok_V (put_ok (d := d + 2) q3 (a := a) (b := b) (c := c) ⟨ha, hb', Or.inl hc⟩) (fun u ⟨u1, u2⟩ => ok_ret ⟨_, rfl, ?_⟩))))
  obtain ⟨r1, r2⟩ := hcs.act q4 q2 Kp.rf (u2.wide (by omega) (by omega)) (a := (A.1.1, tput A.1.2 a b c)) u1 ⟨o1, o2, twf_put o3 (by omega) (by omega) (Or.inl hc)⟩
  rw [e0, if_neg (fun q => q.elim h4 h5), if_neg h6]
  exact ⟨rfl, r1, r2⟩
theorem clear_ok (h : ClS w A) (a b : Int) : OkI (run X (d + 4) 75 [.inr 1, .inl a, .inl b] w) (FO w (clearF A a b)) := by
  have hcs := h
  obtain ⟨hS, ⟨hb, hok⟩, hsn, ⟨hh, hho⟩, htx⟩ := h
  obtain ⟨k1, g0, g1, g3, g4, g5, g6, g7, g8, k2, k4, k6, k16, k21, k22, k27, k37, l37⟩ := shF hS
  obtain ⟨o1, o2, o3⟩ := hok
  refine ok_eq (b75_0 X (d + 3) 1 a b w) (ok_gd k1 (ok_r g0 (ok_gd k2 (ok_i (has_ok hb a) (ok_if (fun h1 => ok_ret ⟨_, rfl, FO.same hcs ?_⟩) (fun h1 => ok_gd k1 (ok_r g0 (ok_gd k2 (ok_i (has_ok hb b) (ok_if (fun h2 => ?_) (fun h2 => ok_ret ⟨_, rfl, FO.same hcs ?_⟩)))))))))))
  · exact if_pos (fun q => bI_eq.mp h1 q.1)
  rotate_left
  · exact if_pos (fun q => bI_eq.mp (Decidable.not_not.mp h2) q.2)
  have ha := bI_ne.mp h1
  have hb' := bI_ne.mp h2
  have e0 : clearF A a b = if a = 0 ∨ b = 0 then (-4, A) else if A.1.2 a b = 12 then (-5, A) else (A.1.2 a b, push A (A.1.1, tput A.1.2 a b 12)) := if_neg (fun q => q ⟨ha, hb'⟩)
  refine ok_if (fun h4 => ok_ret ⟨_, rfl, FO.same hcs ?_⟩) (fun h4 => ok_if (fun h5 => ok_gd k1 (ok_r g0 (ok_gd k2 (ok_i (at_ok hb a b) (ok_if (fun h6 => ?_) (fun h6 => ok_ret ⟨_, rfl, FO.same hcs ?_⟩)))))) (fun h5 => ok_ret ⟨_, rfl, FO.same hcs ?_⟩))
  · rw [e0, if_pos (Or.inl h4)]
  rotate_left
  · rw [e0, if_neg (fun q => q.elim h4 h5), if_pos (Decidable.not_not.mp h6)]
  · rw [e0, if_pos (Or.inr (Decidable.not_not.mp h5))]
  refine ok_gd k1 (ok_r g3 (ok_gd k1 (ok_r g0 (ok_gd k6 (ok_R (rem_ok (d := d + 2) hS hh hb) (fun z0 z ⟨q1, q2, q3, q4⟩ => ?_))))))
  have hSz := hS.kh q4
  refine ok_gd (hSz.1 1) (ok_r (hSz.2.2 1 0 (by decide)) (ok_gd (hSz.1 2) (ok_V (put_ok (d := d + 2) q3 (a := a) (b := b) (c := 12) ⟨ha, hb', Or.inr rfl⟩) (fun u ⟨u1, u2⟩ => ok_ret ⟨_, rfl, ?_⟩))))
  obtain ⟨r1, r2⟩ := hcs.act q4 q2 Kp.rf (u2.wide (by omega) (by omega)) (a := (A.1.1, tput A.1.2 a b 12)) u1 ⟨o1, o2, twf_put o3 (by omega) (by omega) (Or.inr rfl)⟩
  rw [e0, if_neg (fun q => q.elim h4 h5), if_neg h6]
  exact ⟨rfl, r1, r2⟩
theorem glue_ok (h : ClS w A) (m : Int) : OkI (run X (d + 4) 77 [.inr 1, .inl m] w) (FO w (glueF A m)) := by
  have hcs := h
  obtain ⟨hS, ⟨hb, hok⟩, hsn, ⟨hh, hho⟩, htx⟩ := h
  obtain ⟨k1, g0, g1, g3, g4, g5, g6, g7, g8, k2, k4, k6, k16, k21, k22, k27, k37, l37⟩ := shF hS
  obtain ⟨o1, o2, o3⟩ := hok
  refine ok_eq (b77_0 X (d + 3) 1 m w) (ok_if (fun h1 => ok_ret ⟨_, rfl, FO.same hcs (if_pos (Or.inl h1))⟩) (fun h1 => ok_if (fun h2 => ok_gd k1 (ok_r g0 (ok_gd k2 ?_))) (fun h2 => ok_ret ⟨_, rfl, FO.same hcs (if_pos (Or.inr (by omega)))⟩)))
  rw [hb.sz, wrap_id (z := A.1.1 + m) (by omega) (by omega), wrap_id (z := A.1.1 + m - 1) (by omega) (by omega)]
  have e0 : glueF A m = if 12 < A.1.1 + m - 1 then (-3, A) else (A.1.1 + m - 1, push A (A.1.1 + m - 1, tchain A.1.2 A.1.1 m)) := if_neg (by omega)
  refine ok_if (fun h3 => ok_gd k1 (ok_r g3 (ok_gd k1 (ok_r g0 (ok_gd k6 (ok_R (rem_ok (d := d + 2) hS hh hb) (fun z0 z ⟨q1, q2, q3, q4⟩ => ?_))))))) (fun h3 => ok_ret ⟨_, rfl, FO.same hcs (by rw [e0, if_pos (by omega)])⟩)
  have hSz := hS.kh q4
  refine ok_gd (hSz.1 1) (ok_r (hSz.2.2 1 0 (by decide)) (ok_gd (hSz.1 2) (ok_V (chain_ok (d := d) q3 o3.1 o1 (m := m) (by omega) h3) (fun u ⟨u1, u2⟩ => ?_))))
  have hSu := hSz.kp u2
  obtain ⟨r1, r2⟩ := hcs.act q4 q2 Kp.rf u2 (a := (A.1.1 + m - 1, tchain A.1.2 A.1.1 m)) u1 ⟨by dsimp only; omega, h3, twf_chain o3 o1 (by omega)⟩
  refine ok_gd (hSu.1 1) (ok_r (hSu.2.2 1 0 (by decide)) (ok_gd (hSu.1 2) (ok_ret ⟨_, rfl, ?_⟩)))
  rw [e0, if_neg (by omega)]
  exact ⟨u1.sz, r1, r2⟩
theorem hc_ap {b : Nat} (h : hcell b) : b + 1 < 2 ∨ 3 < b := by
  unfold hcell at h
  omega
theorem twice_ok (h : ClS w A) : OkI (run X (d + 5) 78 [.inr 1] w) (FO w (twiceF A)) := by
  have hcs := h
  obtain ⟨hS, ⟨hb, hok⟩, hsn, ⟨hh, hho⟩, htx⟩ := h
  obtain ⟨k1, g0, g1, g3, g4, g5, g6, g7, g8, k2, k4, k6, k16, k21, k22, k27, k37, l37⟩ := shF hS
  obtain ⟨o1, o2, o3⟩ := hok
  refine ok_eq (b78_0 X (d + 4) 1 w) (ok_gd k1 (ok_r g0 (ok_gd k2 ?_)))
  rw [hb.sz, wrap_id (z := 2 * A.1.1) (by omega) (by omega)]
  refine ok_if (fun h3 => ok_gd k1 (ok_r g3 (ok_gd k1 (ok_r g0 (ok_gd k6 (ok_R (rem_ok (d := d + 3) hS hh hb) (fun z0 z ⟨q1, q2, q3, q4⟩ => ?_))))))) (fun h3 => ok_ret ⟨_, rfl, FO.same hcs (if_pos (by omega))⟩)
  have hSz := hS.kh q4
  refine ok_gd (hSz.1 1) (ok_r (hSz.2.2 1 0 (by decide)) (ok_gd (hSz.1 2) (ok_V (pairs_ok (d := d) q3.ts q1.2 o3 o1 (by omega) (hc_ap q1.1)) (fun u ⟨u1, u2⟩ => ?_))))
  have hSu := hSz.kp u2
  obtain ⟨r1, r2⟩ := hcs.act q4 q2 Kp.rf u2 (a := (2 * A.1.1, tpair A.1.2 A.1.1)) u1 ⟨by dsimp only; omega, h3, twf_pair o3 o1 (by omega)⟩
  refine ok_gd (hSu.1 1) (ok_r (hSu.2.2 1 0 (by decide)) (ok_gd (hSu.1 2) (ok_ret ⟨_, rfl, ?_⟩)))
  rw [show twiceF A = (2 * A.1.1, push A (2 * A.1.1, tpair A.1.2 A.1.1)) from if_neg (by omega)]
  exact ⟨u1.sz, r1, r2⟩
/-- an act on the text -/
theorem ClS.txt (h : ClS w A) (k : Kp 16 17 w w1) {L : Int} {c : Int → Int} (hT : Tx w1 L c) : ClS w1 (A.1, A.2.1, A.2.2.1, (L, c)) ∧ Kh 1 37 w w1 := by
  obtain ⟨hS, ⟨hb, hok⟩, hsn, ⟨hh, hho⟩, htx⟩ := h
  refine ⟨⟨hS.kp k, ⟨hb.kp k (by omega), hok⟩, ?_, ⟨hh.kh k (by omega), hho⟩, hT⟩, k.kh.wide (by omega) (by omega)⟩
  rcases hsn with ⟨q1, q2⟩ | ⟨b, q1, q2, q3, q4⟩
  · exact Or.inl ⟨q1, by rw [k.gi (by omega)]; exact q2⟩
  · exact Or.inr ⟨b, q1, by rw [k.gi (by omega)]; exact q2, q3.kp k (by omega), q4⟩
theorem undo_ok (h : ClS w A) : OkI (run X (d + 2) 82 [.inr 1] w) (FO w (undoF A)) := by
  have hcs := h
  obtain ⟨hS, ⟨hb, hok⟩, hsn, ⟨hh, hho⟩, htx⟩ := h
  obtain ⟨k1, g0, g1, g3, g4, g5, g6, g7, g8, k2, k4, k6, k16, k21, k22, k27, k37, l37⟩ := shF hS
  refine ok_eq (b82_0 X (d + 1) 1 w) (ok_gd k1 (ok_r g3 (ok_gd k1 (ok_r g0 (ok_gd k6 (ok_I (back_ok (d := d) hS hh hb) (fun x z ⟨hK, hx⟩ => ?_)))))))
  rcases hx with ⟨e, rfl, rfl⟩ | ⟨L2, a, e, rfl, hT, hH, hG⟩
  · refine ok_ift rfl (ok_ret ⟨_, rfl, FO.same hcs ?_⟩)
    unfold undoF
    rw [e]
    rfl
  · have hSz := hS.kh hK
    refine ok_iff (by omega) (ok_gd (hSz.1 1) (ok_r (hSz.2.2 1 3 (by decide)) (ok_gd (hSz.1 6) (ok_ret ⟨_, rfl, ?_⟩))))
    have e2 : undoF A = ((L2.length : Int), (a, A.2.1, L2, A.2.2.2)) := by
      unfold undoF
      rw [e, List.getLast?_concat, List.dropLast_concat]
    rw [e2]
    obtain ⟨ρ, -, -, -, -, hl, -⟩ := id hH
    have hoa : okB a := hho a (by rw [e]; simp)
    refine ⟨hl, ⟨hSz, ⟨hT, hoa⟩, ?_, ⟨hH, fun b hb2 => hho b (by rw [e]; exact List.mem_append_left _ hb2)⟩, htx.kh hK (by omega)⟩, hK.wide (by omega) (by omega)⟩
    rcases hsn with ⟨q1, q2⟩ | ⟨b, q1, q2, q3, q4⟩
    · exact Or.inl ⟨q1, by rw [hK.gi (by omega)]; exact q2⟩
    · refine Or.inr ⟨b, q1, by rw [hK.gi (by omega)]; exact q2, ⟨⟨hSz.1 4, hSz.1 5, hSz.2.1 5, hSz.2.2 4 1 (by decide)⟩, ⟨by rw [hG 4 (by omega) (by omega) (by omega)]; exact q3.sz, q3.n0, q3.n12⟩, fun x y h1 h2 h3 h4 => by rw [hG 5 (by omega) (by omega) (by omega)]; exact q3.en h1 h2 h3 h4, q3.2.2.2⟩, q4⟩
theorem keep_ok (h : ClS w A) : OkI (run X (d + 1) 83 [.inr 1] w) (FO w (keepF A)) := by
  have hcs := h
  obtain ⟨hS, ⟨hb, hok⟩, hsn, ⟨hh, hho⟩, htx⟩ := h
  obtain ⟨k1, g0, g1, g3, g4, g5, g6, g7, g8, k2, k4, k6, k16, k21, k22, k27, k37, l37⟩ := shF hS
  refine ok_eq (b83_0 X d 1 w) (ok_gd k1 (ok_r g1 (ok_gd k1 (ok_r g0 (ok_gd k4 (ok_V (become_ok (d := d) (r := 4) (hS.ts (Or.inr (Or.inr rfl))) hb (by omega)) (fun z ⟨z1, z2⟩ => ?_)))))))
  have hSz := hS.kp z2
  have hK : Kp 1 5 w (si z 1 2 1) := (z2.wide (by omega) (by omega)).tr (Kp.si (by omega) (by omega))
  have K1 : Kp 1 1 z (si z 1 2 1) := Kp.si (by omega) (by omega)
  refine ok_gd ⟨hSz.1 1, Or.inr rfl⟩ (ok_gd (hSz.1 1) (ok_r (hSz.2.2 1 0 (by decide)) (ok_gd (hSz.1 2) (ok_ret ⟨_, rfl, ?_, ⟨hS.kp hK, ⟨(hb.kp z2 (by omega)).kp K1 (by omega), hok⟩, Or.inr ⟨A.1, rfl, gi_si_eq, z1.kp K1 (by omega), hok⟩, ⟨hh.kh hK (by omega), hho⟩, htx.kh hK.kh (by omega)⟩, hK.kh.wide (by omega) (by omega)⟩))))
  rw [gi_si_ne (by omega), z2.gi (by omega)]
  exact hb.sz
theorem rest_f (h : ClS w A) : OkI (run X (d + 2) 84 [.inr 1] w) (FO w (restF A)) := by
  have hcs := h
  obtain ⟨hS, ⟨hb, hok⟩, hsn, ⟨hh, hho⟩, htx⟩ := h
  obtain ⟨k1, g0, g1, g3, g4, g5, g6, g7, g8, k2, k4, k6, k16, k21, k22, k27, k37, l37⟩ := shF hS
  refine ok_eq (b84_0 X (d + 1) 1 w) (ok_gd k1 ?_)
  rcases hsn with ⟨q1, q2⟩ | ⟨b, q1, q2, q3, q4⟩
  · refine ok_iff (by omega) (ok_ret ⟨_, rfl, FO.same hcs ?_⟩)
    unfold restF
    rw [q1]
  · refine ok_ift (by omega) (ok_gd k1 (ok_r g3 (ok_gd k1 (ok_r g0 (ok_gd k6 (ok_R (rem_ok (d := d) hS hh hb) (fun z0 z ⟨u1, u2, u3, u4⟩ => ?_)))))))
    have hSz := hS.kh u4
    refine ok_gd (hSz.1 1) (ok_r (hSz.2.2 1 0 (by decide)) (ok_gd (hSz.1 1) (ok_r (hSz.2.2 1 1 (by decide)) (ok_gd (hSz.1 2) (ok_V (become_ok (d := d + 1) u3.ts (q3.kh u4 (by omega) (by omega)) (by omega)) (fun v ⟨v1, v2⟩ => ?_))))))
    have hSv := hSz.kp v2
    obtain ⟨r1, r2⟩ := hcs.act u4 u2 Kp.rf v2 (a := b) v1 q4
    refine ok_gd (hSv.1 1) (ok_r (hSv.2.2 1 0 (by decide)) (ok_gd (hSv.1 2) (ok_ret ⟨_, rfl, ?_⟩)))
    rw [show restF A = (b.1, push A b) by unfold restF; rw [q1]]
    exact ⟨v1.sz, r1, r2⟩
end FD
