/-! the reference reads one sum, then a row of them -/
section MS
variable {X : Nat × (Nat → Int)} {d : Nat} {w w' w2 : MW} {L p : Int} {c : Int → Int} {acc : List T3}
theorem sum_m (hS : Sh w) (h : MTx w L c) (hp : gi w 38 9 = p) (h0 : 0 ≤ p) (hL : p ≤ L) (hT : MTs w acc) (full : acc.length < 15 ∨ nv L c p = -1) {P : Option MV → MW → Prop}
    (hn : ∀ z, (sumP L c p).1 = none → KT w z → gi z 38 9 = (sumP L c p).2 → P (some (.inl 0)) z)
    (hs : ∀ s z, (sumP L c p).1 = some s → KT w z → gi z 38 9 = (sumP L c p).2 → gi z 38 11 = acc.length → (∀ i : Nat, i < 3 * acc.length → gi z 44 i = gi w 44 i) → gi z 44 (3 * acc.length) = s.1 → gi z 44 (3 * acc.length + 1) = s.2.1 → gi z 44 (3 * acc.length + 2) = mc s.2.2 → Ok (R X (d + 3) 135 124 [some (.inr 38), none] [] z) P) :
    Ok (R X (d + 3) 135 12 [some (.inr 38), some (.inl 1)] [] w) P := by
  refine ok_eq (b135_12 X (d + 2) 38 1 w) (ok_iff (by omega) (ok_gd (hS.1 38) (ok_I (numb_m (d := d) hS h hp h0 hL) (fun v1 z1 ⟨x1, a1, n1, k1⟩ => ?_))))
  have S1 := hS.kp k1.1
  have T1 := h.kt k1.kt
  have l44 : ln z1 44 = 66 := S1.2.1 44
  have e11 : gi z1 38 11 = acc.length := by rw [k1.2 11 (by omega) (by omega)]; exact hT.1
  have b1 := ne_rng (L := L) (c := c) (p := p) hL
  have dn1' := nv_none (L := L) (c := c) (p := p)
  rw [x1]
  refine ok_if (fun q1 => ?_) (fun q1 => ok_ret ?_)
  rotate_left
  · have g1 : nv L c p = -1 := Decidable.not_not.mp (fun r => q1 (bI_ne.mpr r))
    have e : sumP L c p = (none, ne L c p) := by unfold sumP; rw [if_pos g1]
    refine hn z1 (by rw [e]) k1.kt (by rw [e]; exact a1)
  have g1 := bI_ne.mp q1
  have hl : acc.length < 15 := full.resolve_right g1
  refine ok_gd (S1.1 38) (ok_r (S1.2.2 38 10 (by decide)) (ok_gd (S1.1 38) (ok_gd (S1.1 38) ?_)))
  rw [e11, wrap_id (z := 3 * (acc.length : Int)) (by omega) (by omega), n1 g1, show Int.toNat (3 * (acc.length : Int)) = 3 * acc.length by omega]
  refine ok_gd ⟨S1.1 44, by omega, by rw [l44]; omega⟩ (ok_gd (S1.1 38) ?_)
  generalize hz2 : si z1 44 (3 * acc.length) (nv L c p) = z2
  have k2 : KT w z2 := by rw [← hz2]; exact k1.kt.tr KT.s44
  have S2 := hS.kp k2.1
  have T2 := h.kt k2
  have a2 : gi z2 38 9 = ne L c p := by rw [← hz2, gi_si_ne (by omega)]; exact a1
  have t2 : gi z2 44 (3 * acc.length) = nv L c p := by rw [← hz2]; exact gi_si_eq
  have o2 : ∀ i : Nat, i < 3 * acc.length → gi z2 44 i = gi w 44 i := fun i hi => by rw [← hz2, gi_si_ne2 (by omega), k1.1.gi (by omega)]
  have f2 : gi z2 38 11 = acc.length := by rw [← hz2, gi_si_ne (by omega)]; exact e11
  refine ok_I (sign_m (d := d) S2 T2 a2 (by omega) b1.2.1 43) (fun v3 z3 ⟨x3, a3, k3⟩ => ?_)
  have S3 := S2.kp k3.1
  rw [x3]
  refine ok_if (fun q3 => ok_ret ?_) (fun q3 => ?_)
  · have g3 := bI_eq.mp q3
    have e : sumP L c p = (none, ne L c p) := by unfold sumP; rw [if_neg g1, if_pos g3]
    refine hn z3 (by rw [e]) (k2.tr k3.kt) ?_
    rw [e, a3, q3]
    dsimp only
    omega
  have g3 := bI_ne.mp q3
  rw [show bI (sk L c 43 (ne L c p)) = 1 from if_pos g3] at a3
  have b2 := ne_rng (L := L) (c := c) (p := ne L c p + 1) (by have := g3.1; omega)
  refine ok_gd (S3.1 38) (ok_I (numb_m (d := d) S3 (T2.kt k3.kt) a3 (by omega) (by have := g3.1; omega)) (fun v4 z4 ⟨x4, a4, n4', k4⟩ => ?_))
  have S4 := S3.kp k4.1
  have k4' : KT w z4 := (k2.tr k3.kt).tr k4.kt
  have l4 : ln z4 44 = 66 := S4.2.1 44
  have f4 : gi z4 38 11 = acc.length := by rw [k4.2 11 (by omega) (by omega), k3.2 11 (by omega) (by omega)]; exact f2
  have p44 : ∀ i, gi z4 44 i = gi z2 44 i := fun i => by rw [k4.1.gi (by omega), k3.1.gi (by omega)]
  rw [x4]
  refine ok_if (fun q4 => ?_) (fun q4 => ok_ret ?_)
  rotate_left
  · have g4 : nv L c (ne L c p + 1) = -1 := Decidable.not_not.mp (fun r => q4 (bI_ne.mpr r))
    have e : sumP L c p = (none, ne L c (ne L c p + 1)) := by unfold sumP; rw [if_neg g1, if_neg (fun r => r g3), if_pos g4]
    refine hn z4 (by rw [e]) k4' (by rw [e]; exact a4)
  have g4 := bI_ne.mp q4
  refine ok_gd (S4.1 38) (ok_r (S4.2.2 38 10 (by decide)) (ok_gd (S4.1 38) (ok_gd (S4.1 38) ?_)))
  rw [f4, n4' g4, wrap_id (z := 3 * (acc.length : Int)) (by omega) (by omega), wrap_id (z := 3 * (acc.length : Int) + 1) (by omega) (by omega), show Int.toNat (3 * (acc.length : Int) + 1) = 3 * acc.length + 1 by omega]
  refine ok_gd ⟨S4.1 44, by omega, by rw [l4]; omega⟩ ?_
  generalize hz5 : si z4 44 (3 * acc.length + 1) (nv L c (ne L c p + 1)) = z5
  have k5 : KT w z5 := by rw [← hz5]; exact k4'.tr KT.s44
  have S5 := hS.kp k5.1
  have l5 : ln z5 44 = 66 := S5.2.1 44
  have f5 : gi z5 38 11 = acc.length := by rw [← hz5, gi_si_ne (by omega)]; exact f4
  refine ok_gd (S5.1 38) (ok_r (S5.2.2 38 10 (by decide)) (ok_gd (S5.1 38) ?_))
  rw [f5, wrap_id (z := 3 * (acc.length : Int)) (by omega) (by omega), wrap_id (z := 3 * (acc.length : Int) + 2) (by omega) (by omega), show Int.toNat (3 * (acc.length : Int) + 2) = 3 * acc.length + 2 by omega]
  refine ok_gd ⟨S5.1 44, by omega, by rw [l5]; omega⟩ (ok_gd (S5.1 38) ?_)
  generalize hz6 : si z5 44 (3 * acc.length + 2) (-1) = z6
  have k6 : KT w z6 := by rw [← hz6]; exact k5.tr KT.s44
  have S6 := hS.kp k6.1
  have a6 : gi z6 38 9 = ne L c (ne L c p + 1) := by rw [← hz6, gi_si_ne (by omega), ← hz5, gi_si_ne (by omega)]; exact a4
  have f6 : gi z6 38 11 = acc.length := by rw [← hz6, gi_si_ne (by omega)]; exact f5
  have o6 : ∀ i : Nat, i < 3 * acc.length → gi z6 44 i = gi w 44 i := fun i hi => by rw [← hz6, gi_si_ne2 (by omega), ← hz5, gi_si_ne2 (by omega), p44]; exact o2 i hi
  have s0 : gi z6 44 (3 * acc.length) = nv L c p := by rw [← hz6, gi_si_ne2 (by omega), ← hz5, gi_si_ne2 (by omega), p44]; exact t2
  have s1 : gi z6 44 (3 * acc.length + 1) = nv L c (ne L c p + 1) := by rw [← hz6, gi_si_ne2 (by omega), ← hz5]; exact gi_si_eq
  have s2 : gi z6 44 (3 * acc.length + 2) = -1 := by rw [← hz6]; exact gi_si_eq
  refine ok_I (sign_m (d := d) S6 (h.kt k6) a6 (by omega) b2.2.1 61) (fun v7 z7 ⟨x7, a7, k7⟩ => ?_)
  have S7 := S6.kp k7.1
  have k7' := k6.tr k7.kt
  rw [x7]
  refine ok_if (fun q7 => ?_) (fun q7 => ?_)
  · have g7 := bI_eq.mp q7
    have e : sumP L c p = (some (nv L c p, nv L c (ne L c p + 1), 12), ne L c (ne L c p + 1)) := by unfold sumP; rw [if_neg g1, if_neg (fun r => r g3), if_neg g4, if_neg g7]
    refine hs _ z7 (by rw [e]) k7' (by rw [e, a7, q7]; dsimp only; omega) (by rw [k7.2 11 (by omega) (by omega)]; exact f6) (fun i hi => by rw [k7.1.gi (by omega)]; exact o6 i hi) (by rw [k7.1.gi (by omega)]; exact s0) (by rw [k7.1.gi (by omega)]; exact s1) (by rw [k7.1.gi (by omega)]; exact s2)
  have g7 := bI_ne.mp q7
  rw [show bI (sk L c 61 (ne L c (ne L c p + 1))) = 1 from if_pos g7] at a7
  refine ok_gd (S7.1 38) (ok_I (numb_m (d := d) S7 (h.kt k7') a7 (by omega) (by have := g7.1; omega)) (fun v8 z8 ⟨x8, a8, n8, k8⟩ => ?_))
  have S8 := S7.kp k8.1
  have k8' := k7'.tr k8.kt
  have l8 : ln z8 44 = 66 := S8.2.1 44
  have f8 : gi z8 38 11 = acc.length := by rw [k8.2 11 (by omega) (by omega), k7.2 11 (by omega) (by omega)]; exact f6
  have p8 : ∀ i, gi z8 44 i = gi z6 44 i := fun i => by rw [k8.1.gi (by omega), k7.1.gi (by omega)]
  rw [x8]
  refine ok_if (fun q8 => ?_) (fun q8 => ok_ret ?_)
  rotate_left
  · have g8 : nv L c (ne L c (ne L c p + 1) + 1) = -1 := Decidable.not_not.mp (fun r => q8 (bI_ne.mpr r))
    have e : sumP L c p = (none, ne L c (ne L c (ne L c p + 1) + 1)) := by unfold sumP; rw [if_neg g1, if_neg (fun r => r g3), if_neg g4, if_pos g7, if_pos g8]
    refine hn z8 (by rw [e]) k8' (by rw [e]; exact a8)
  have g8 := bI_ne.mp q8
  refine ok_gd (S8.1 38) (ok_r (S8.2.2 38 10 (by decide)) (ok_gd (S8.1 38) (ok_gd (S8.1 38) ?_)))
  rw [f8, n8 g8, wrap_id (z := 3 * (acc.length : Int)) (by omega) (by omega), wrap_id (z := 3 * (acc.length : Int) + 2) (by omega) (by omega), show Int.toNat (3 * (acc.length : Int) + 2) = 3 * acc.length + 2 by omega]
  have e : sumP L c p = (some (nv L c p, nv L c (ne L c p + 1), nv L c (ne L c (ne L c p + 1) + 1)), ne L c (ne L c (ne L c p + 1) + 1)) := by unfold sumP; rw [if_neg g1, if_neg (fun r => r g3), if_neg g4, if_pos g7, if_neg g8]
  have v3 := nv_rng (L := L) (c := c) (p := ne L c (ne L c p + 1) + 1)
  refine ok_gd ⟨S8.1 44, by omega, by rw [l8]; omega⟩ (hs _ _ (by rw [e]) (k8'.tr KT.s44) (by rw [e, gi_si_ne (by omega)]; exact a8) (by rw [gi_si_ne (by omega)]; exact f8) (fun i hi => by rw [gi_si_ne2 (by omega), p8]; exact o6 i hi) (by rw [gi_si_ne2 (by omega), p8]; exact s0) (by rw [gi_si_ne2 (by omega), p8]; exact s1) ?_)
  rw [gi_si_eq, mc_ne]
  dsimp only
  omega
theorem rows_m : ∀ (k : Nat) (w : MW) (p : Int) (acc : List T3), Sh w → MTx w L c → gi w 38 9 = p → 0 ≤ p → p ≤ L → MTs w acc → acc.length + k = 15 → 4 * (acc.length : Int) ≤ p → OkI (R X (d + 3) 135 12 [some (.inr 38), some (.inl 1)] [] w) (fun x w' => KT w w' ∧ gi w' 38 9 = (rowP L c k p acc).2.2 ∧ x = bI ((rowP L c k p acc).1 = true) ∧ ((rowP L c k p acc).1 = true → MTs w' (rowP L c k p acc).2.1))
  | 0, w, p, acc, hS, h, hp, h0, hL, hT, hk, h4 => by
    have t2 := h.2.1
    have dgp : dg L c p = -1 := if_neg (by omega)
    have nvp := nv_none.mpr dgp
    have e : sumP L c p = (none, p) := by
      unfold sumP
      rw [if_pos nvp]
      unfold ne
      rw [if_pos dgp]
    refine sum_m (d := d) hS h hp h0 hL hT (Or.inr nvp) (fun z _ hz h9 => ⟨0, rfl, hz, by rw [h9, e]; rfl, rfl, fun q => by cases q⟩) (fun s z q => by rw [e] at q; cases q)
  | k + 1, w, p, acc, hS, h, hp, h0, hL, hT, hk, h4 => by
    have sr := sumP_rng (L := L) (c := c) (p := p) hL
    refine sum_m (d := d) hS h hp h0 hL hT (Or.inl (by omega)) (fun z hz kz h9 => ?_) (fun s z hz kz h9 h11 ho s0 s1 s2 => ?_)
    · have e : rowP L c (k + 1) p acc = (false, acc, (sumP L c p).2) := by
        rw [rowP]
        rcases hsp : sumP L c p with ⟨_ | _, _⟩
        · rfl
        · rw [hsp] at hz; cases hz
      rw [e]
      exact ⟨0, rfl, kz, h9, rfl, fun q => by cases q⟩
    · have Sz := hS.kp kz.1
      have hq := (sr.2.2 s hz)
      generalize hQ : (sumP L c p).2 = Q at *
      have e : rowP L c (k + 1) p acc = if Q = L then (true, acc ++ [s], Q) else if sk L c 44 Q then rowP L c k (Q + 1) (acc ++ [s]) else (false, acc ++ [s], Q) := by
        rw [rowP]
        rcases hsp : sumP L c p with ⟨_ | _, _⟩
        · rw [hsp] at hz; cases hz
        · rw [hsp] at hz hQ
          cases hz
          cases hQ
          rfl
      have K11 : KT z (si z 38 11 (wrap (gi z 38 11 + 1))) := KT.s11
      have hlen : (acc ++ [s]).length = acc.length + 1 := by simp
      have hT1 : MTs (si z 38 11 (wrap (gi z 38 11 + 1))) (acc ++ [s]) := by
        refine ⟨by rw [gi_si_eq, h11, wrap_id (by omega) (by omega), hlen]; omega, by rw [hlen]; omega, fun i r hi => ?_⟩
        rw [gi_si_ne (by omega), gi_si_ne (by omega), gi_si_ne (by omega)]
        rcases get_app hi with g | ⟨g, rfl⟩
        · have hlt : i < acc.length := (List.getElem?_eq_some_iff.mp g).1
          rw [ho _ (by omega), ho _ (by omega), ho _ (by omega)]
          exact hT.2.2 i r g
        · rw [g]
          exact ⟨s0, s1, s2⟩
      refine ok_eq (b135_124 X (d + 2) 38 z) (ok_gd (Sz.1 38) (ok_gd (Sz.1 38) (ok_gd (Sz.1 38) ?_)))
      refine ok_I (sign_m (d := d) (p := Q) (Sz.kp K11.1) ((h.kt kz).kt K11) (by rw [gi_si_ne2 (by omega)]; exact h9) (by omega) sr.2.1 44) (fun v1 u ⟨x1, a1, k1⟩ => ?_)
      have Su := (Sz.kp K11.1).kp k1.1
      have ku : KT w u := (kz.tr K11).tr k1.kt
      have hT2 : MTs u (acc ++ [s]) := ⟨by rw [k1.2 11 (by omega) (by omega)]; exact hT1.1, hT1.2.1, fun i r hi => by rw [k1.1.gi (by omega), k1.1.gi (by omega), k1.1.gi (by omega)]; exact hT1.2.2 i r hi⟩
      have t8 : gi u 38 8 = L := by rw [ku.2.2 8 (by omega) (by omega) (by omega)]; exact h.1
      rw [x1, e]
      by_cases hsk : sk L c 44 Q
      · have hb : bI (sk L c 44 Q) = 1 := if_pos hsk
        have hQL : Q < L := hsk.1
        rw [hb, if_neg (by omega), if_pos hsk]
        rw [hb] at a1
        refine ok_imp (rows_m k u (Q + 1) (acc ++ [s]) Su (h.kt ku) a1 (by omega) (by omega) hT2 (by rw [hlen]; omega) (by rw [hlen]; omega)) (fun v w2 ⟨x, g0, g1, g2⟩ => ⟨x, g0, ku.tr g1, g2⟩)
      · have hb : bI (sk L c 44 Q) = 0 := if_neg hsk
        rw [hb] at a1 ⊢
        refine ok_eq (b135_12 X (d + 2) 38 0 u) (ok_ift rfl (ok_gd (Su.1 38) (ok_gd (Su.1 38) ?_)))
        rw [a1, t8]
        by_cases g : Q = L
        · rw [if_pos g]
          exact ok_iff (by omega) (ok_ret ⟨1, rfl, ku, by rw [a1]; dsimp only; omega, rfl, fun _ => hT2⟩)
        · rw [if_neg g, if_neg hsk]
          exact ok_ift (by omega) (ok_ret ⟨0, rfl, ku, by rw [a1]; dsimp only; omega, rfl, fun q => by cases q⟩)
theorem row_m (hS : Sh w) (h : MTx w L c) : OkI (run X (d + 3) 135 [.inr 38] w) (fun x w' => KT w w' ∧ gi w' 38 9 = (rowR L c).2.2 ∧ x = bI ((rowR L c).1 = true) ∧ ((rowR L c).1 = true → MTs w' (rowR L c).2.1)) := by
  have t2 := h.2.1
  have k1 : KT w (si (si w 38 9 0) 38 11 0) := KA.s9.kt.tr KT.s11
  refine ok_eq (b135_0 X (d + 2) 38 w) (ok_gd (hS.1 38) (ok_gd (hS.1 38) ?_))
  refine ok_imp (rows_m (X := X) (d := d) 15 _ 0 [] (hS.kp k1.1) (h.kt k1) (by rw [gi_si_ne2 (by omega)]; exact gi_si_eq) (by omega) (by omega) ⟨gi_si_eq, by simp, fun i s hi => by simp at hi⟩ rfl (by simp)) (fun v w2 ⟨x, g0, g1, g2⟩ => ⟨x, g0, k1.tr g1, g2⟩)
end MS
