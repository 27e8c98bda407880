/-! swapping and reading, in the machine -/
section FG
variable {X : Nat × (Nat → Int)} {d : Nat} {w w1 w2 w3 : MW} {A : AS}
theorem swap_f (h : ClS w A) (f s : Int) : OkI (run X (d + 5) 79 [.inr 1, .inl f, .inl s] w) (FO w (swapF A f s)) := by
  have hcs := h
  obtain ⟨hS, ⟨hb, hok⟩, hsn, ⟨hh, hho⟩, htx⟩ := h
  obtain ⟨k1, g0, g1, g3, g4, g5, g6, g7, g8, k2, k4, k6, k16, k21, k22, k27, k37, l37⟩ := shF hS
  obtain ⟨o1, o2, o3⟩ := hok
  refine ok_eq (b79_0 X (d + 4) 1 f s w) (ok_gd k1 (ok_r g0 (ok_gd k2 (ok_i (has_ok hb f) (ok_if (fun h1 => ok_ret ⟨_, rfl, FO.same hcs (if_pos (fun q => bI_eq.mp h1 q.1))⟩) (fun h1 => ok_gd k1 (ok_r g0 (ok_gd k2 (ok_i (has_ok hb s) (ok_if (fun h2 => ?_) (fun h2 => ok_ret ⟨_, rfl, FO.same hcs (if_pos (fun q => bI_eq.mp (Decidable.not_not.mp h2) q.2))⟩)))))))))))
  have hf := bI_ne.mp h1
  have hs := bI_ne.mp h2
  have e0 : swapF A f s = if f < 2 ∨ s < 2 then (-4, A) else if f = s then (-5, A) else (nmg A.1.2 A.1.1 f s, push A (A.1.1, tswp A.1.2 f s)) := if_neg (fun q => q ⟨hf, hs⟩)
  refine ok_i (inw_ok X _ f w) (ok_if (fun h3 => ok_ret ⟨_, rfl, FO.same hcs (by have := bI_ne.mp h3; rw [e0, if_pos (by omega)])⟩) (fun h3 => ok_i (inw_ok X _ s w) (ok_if (fun h4 => ok_if (fun h5 => ?_) (fun h5 => ok_ret ⟨_, rfl, FO.same hcs ?_⟩)) (fun h4 => ok_ret ⟨_, rfl, FO.same hcs (by have := bI_ne.mp h4; rw [e0, if_pos (by omega)])⟩))))
  rotate_left
  · have q3 := bI_eq.mp (Decidable.not_not.mp h3)
    have q4 := bI_eq.mp h4
    rw [e0, if_neg (by omega), if_pos (Decidable.not_not.mp h5)]
  have p3 := bI_eq.mp (Decidable.not_not.mp h3)
  have p4 := bI_eq.mp h4
  have hf2 : 2 ≤ f ∧ f < A.1.1 := by omega
  have hs2 : 2 ≤ s ∧ s < A.1.1 := by omega
  rw [e0, if_neg (by omega), if_neg h5]
  refine ok_gd k1 (ok_r g3 (ok_gd k1 (ok_r g0 (ok_gd k6 (ok_R (rem_ok (d := d + 3) hS hh hb) (fun b z ⟨q1, q2, q3, q4⟩ => ?_))))))
  have hSz := hS.kh q4
  have hap := hc_ap q1.1
  have hb37 : b + 1 < 37 := by have := q1.1; unfold hcell at this; omega
  refine ok_up (fun i z => R X (d + 5) 79 64 [some (.inr 1), some (.inl f), some (.inl s), some (.inr b), some (.inl i)] [] z) (fun i y => Kp 37 37 z y ∧ ∀ j : Int, 0 ≤ j → j < i → gi y 37 j.toNat = j) 0 12 (by omega) ?_ ?_ z ⟨Kp.rf, fun j j0 j1 => by omega⟩
  · intro i y i0 i1 ⟨hK, hI⟩ ih
    have hSy := hSz.kp hK
    have y1 : kd y 1 = 16 := hSy.1 1
    have y37 : kd y 37 = 1 := hSy.1 37
    have m37 : ln y 37 = 12 := hSy.2.1 37
    refine ok_eq (b79_64 X (d + 4) 1 f s b i y) (ok_iff (by omega) (ok_gd y1 (ok_r (hSy.2.2 1 8 (by decide)) (ok_gd ⟨y37, i0, by rw [m37]; omega⟩ ?_))))
    rw [wrap_id (z := i + 1) (by omega) (by omega)]
    refine ih _ ⟨hK.tr (Kp.si (by omega) (by omega)), fun j j0 j1 => ?_⟩
    by_cases e : j = i
    · rw [e, gi_si_eq]
    · rw [gi_si_ne2 (by omega)]
      exact hI j j0 (by omega)
  · intro y ⟨hK, hI⟩
    have hSy := hSz.kp hK
    have y1 : kd y 1 = 16 := hSy.1 1
    have y37 : kd y 37 = 1 := hSy.1 37
    have m37 : ln y 37 = 12 := hSy.2.1 37
    have hK2 : Kp 37 37 z (si (si y 37 f.toNat s) 37 s.toNat f) := hK.tr ((Kp.si (by omega) (by omega)).tr (Kp.si (by omega) (by omega)))
    have hSs := hSz.kp hK2
    have hNu : Nu (si (si y 37 f.toNat s) 37 s.toNat f) 37 (sg f s) := ⟨y37, m37, fun i i0 i1 => by
      unfold sg
      by_cases e : i = f
      · rw [if_pos e, e, gi_si_ne2 (by omega), gi_si_eq]
      · by_cases e2 : i = s
        · rw [if_neg e, if_pos e2, e2, gi_si_eq]
        · rw [if_neg e, if_neg e2, gi_si_ne2 (by omega), gi_si_ne2 (by omega)]
          exact hI i i0 i1⟩
    refine ok_eq (b79_64 X (d + 4) 1 f s b 12 y) (ok_ift (by omega) (ok_gd y1 (ok_r (hSy.2.2 1 8 (by decide)) (ok_gd ⟨y37, hf.1, by rw [m37]; omega⟩ (ok_gd y1 (ok_r (hSy.2.2 1 8 (by decide)) (ok_gd ⟨y37, hs.1, by show _ < ((ln y 37 : Nat) : Int); rw [m37]; omega⟩ (ok_gd y1 (ok_r (hSy.2.2 1 0 (by decide)) ?_)))))))))
    generalize hss : si (si y 37 f.toNat s) 37 s.toNat f = u0 at hK2 hSs hNu
    have hTb := q1.2.kp hK2 (by omega)
    have hT2 := q3.kp hK2 (by omega)
    refine ok_gd hTb.k (ok_gd (hSs.1 2) ?_)
    rw [hTb.sz]
    refine ok_V (empty_ok (d := d + 1) hT2.ts (k := A.1.1) (by omega) (by omega)) (fun u ⟨u1, u2⟩ => ?_)
    have hSu := hSs.kp u2
    have hTw := twf_swp o3 o2 hf2 hs2
    have hB := bld_new u1 hTw.1 (row0 hTw (by omega))
    refine ok_gd (hSu.1 1) (ok_r (hSu.2.2 1 0 (by decide)) (ok_gd (hSu.1 1) (ok_r (hSu.2.2 1 8 (by decide)) (ok_gd (hSu.1 2) ?_))))
    have e12 : ∀ v, sg f s v = 12 ↔ v = 12 := fun v => by
      unfold sg
      (repeat' split) <;> omega
    refine ok_V (addren_ok (d := d + 2) hTw.1 hB (hTb.kp u2 (by omega)) (by omega) (hNu.kp u2 (by omega)) ⟨by omega, by omega⟩ o3.2.1 (fun a b' hr => ?_) (fun x y' hxy => ?_)) (fun v ⟨v1, v2⟩ => ?_)
    · unfold tswp
      rw [(sg_rng (x := a) hf2 hs2).2, (sg_rng (x := b') hf2 hs2).2]
    · by_cases x0 : x = 0
      · exact Or.inl x0
      · by_cases y0 : y' = 0
        · exact Or.inr (Or.inl y0)
        · refine Or.inr (Or.inr ?_)
          have hne : A.1.2 (sg f s x) (sg f s y') ≠ 12 := fun q => hxy ((e12 _).mpr q)
          have hv := (o3.2.1 (sg f s x) (sg f s y')).resolve_left hne
          have hrg : 0 ≤ sg f s x ∧ sg f s x < A.1.1 ∧ 0 ≤ sg f s y' ∧ sg f s y' < A.1.1 := by
            refine Classical.byContradiction fun hno => hne (o3.2.2.2 _ _ hno)
          have hx := (sg_rng (x := x) hf2 hs2)
          have hy := (sg_rng (x := y') hf2 hs2)
          have hx' := hx.1.mpr ⟨hrg.1, hrg.2.1⟩
          have hy' := hy.1.mpr ⟨hrg.2.2.1, hrg.2.2.2⟩
          have nx : 1 ≤ sg f s x := by
            unfold sg
            (repeat' split) <;> omega
          have ny : 1 ≤ sg f s y' := by
            unfold sg
            (repeat' split) <;> omega
          have hnu := (sg_rng (x := A.1.2 (sg f s x) (sg f s y')) hf2 hs2).1.mp hv
          by_cases hle : sg f s x ≤ sg f s y'
          · exact ⟨sg f s x, sg f s y', ⟨nx, hle, hrg.2.2.2, hne, by omega, ⟨by rw [hx.2]; exact hx', by rw [hy.2]; exact hy', Or.inl hnu⟩⟩, Or.inl ⟨hx.2.symm, hy.2.symm⟩⟩
          · rw [o3.1 (sg f s x) (sg f s y')] at hne hnu
            exact ⟨sg f s y', sg f s x, ⟨ny, by omega, hrg.2.1, hne, by omega, ⟨by rw [hy.2]; exact hy', by rw [hx.2]; exact hx', Or.inl hnu⟩⟩, Or.inr ⟨hx.2.symm, hy.2.symm⟩⟩
    · have hSv := hSu.kp v2
      obtain ⟨r1, r2⟩ := hcs.act q4 q2 hK2 (u2.tr (v2.wide (by omega) (by omega))) (a := (A.1.1, tswp A.1.2 f s)) v1 ⟨o1, o2, hTw⟩
      refine ok_gd (hSv.1 1) (ok_r (hSv.2.2 1 0 (by decide)) (ok_gd (hSv.1 2) (ok_i (nmg_ok (d := d + 2) v1 hTw.2.1 (by omega) ⟨by omega, by omega⟩ ⟨by omega, by omega⟩) (ok_ret ⟨_, rfl, ?_, r1, r2⟩))))
      exact nmg_swp o3 o2 hf2 hs2 h5
/-- what only looks keeps the state -/
theorem ClS.qry (h : ClS w A) (k : Kp 18 37 w w1) : ClS w1 A ∧ Kh 1 37 w w1 := by
  obtain ⟨hS, ⟨hb, hok⟩, hsn, ⟨hh, hho⟩, htx⟩ := h
  refine ⟨⟨hS.kp k, ⟨hb.kp k (by omega), hok⟩, ?_, ⟨hh.kh k (by omega), hho⟩, htx.kh k.kh (by omega)⟩, k.kh.wide (by omega) (by omega)⟩
  rcases hsn with ⟨q1, q2⟩ | ⟨b, q1, q2, q3, q4⟩
  · exact Or.inl ⟨q1, by rw [k.gi (by omega)]; exact q2⟩
  · exact Or.inr ⟨b, q1, by rw [k.gi (by omega)]; exact q2, q3.kp k (by omega), q4⟩
end FG
