/-! removing, swapping, reading, in the machine -/
section FE
variable {X : Nat × (Nat → Int)} {d : Nat} {w w1 w2 w3 : MW} {A : AS}
theorem inw_ok (X : Nat × (Nat → Int)) (d : Nat) (a : Int) (w : MW) : run X d 96 [.inl a] w = some (some (.inl (bI (a = 0 ∨ a = 1))), w) := by
  apply ok_one
  refine ok_eq (b96_0 X d a w) (ok_if (fun h => ok_ret ⟨?_, rfl⟩) (fun h => ok_if (fun h2 => ok_ret ⟨?_, rfl⟩) (fun h2 => ok_ret ⟨?_, rfl⟩)))
  · rw [show bI (a = 0 ∨ a = 1) = 1 from if_pos (Or.inl h)]
  · rw [show bI (a = 0 ∨ a = 1) = 0 from if_neg (fun q => q.elim h h2)]
  · rw [show bI (a = 0 ∨ a = 1) = 1 from if_pos (Or.inr (Decidable.not_not.mp h2))]
theorem row0 {t : Int → Int → Int} {n : Int} (h : twf t n) (hn : 1 ≤ n) (y : Int) : t 0 y = if 0 ≤ y ∧ y < n then y else 12 := by
  by_cases e : 0 ≤ y ∧ y < n
  · rw [if_pos e]; exact h.2.2.1 y e.1 e.2
  · rw [if_neg e]; exact h.2.2.2 0 y (by omega)
def nuR (c i : Int) : Int := if i = c then -1 else if i < c then i else i - 1
theorem rem_f (h : ClS w A) (c : Int) : OkI (run X (d + 5) 73 [.inr 1, .inl c] w) (FO w (remF A c)) := by
  have hcs := h
  obtain ⟨hS, ⟨hb, hok⟩, hsn, ⟨hh, hho⟩, htx⟩ := h
  obtain ⟨k1, g0, g1, g3, g4, g5, g6, g7, g8, k2, k4, k6, k16, k21, k22, k27, k37, l37⟩ := shF hS
  obtain ⟨o1, o2, o3⟩ := hok
  refine ok_eq (b73_0 X (d + 4) 1 c w) (ok_gd k1 (ok_r g0 (ok_gd k2 (ok_i (has_ok hb c) (ok_if (fun h1 => ok_i (inw_ok X _ c w) (ok_if (fun h2 => ?_) (fun h2 => ok_ret ⟨_, rfl, FO.same hcs ?_⟩))) (fun h1 => ok_ret ⟨_, rfl, FO.same hcs (if_pos (bI_eq.mp (Decidable.not_not.mp h1)))⟩))))))
  rotate_left
  · have h1' := bI_ne.mp h1
    have h2' := bI_ne.mp h2
    unfold remF
    rw [if_neg (fun q => q h1'), if_pos (by omega)]
  have hc := bI_ne.mp h1
  have hc2 := bI_eq.mp h2
  have hc2' : 2 ≤ c := by omega
  have e0 : remF A c = (A.1.1 - 1, push A (A.1.1 - 1, trem A.1.2 A.1.1 c)) := by
    unfold remF
    rw [if_neg (fun q => q hc), if_neg (by omega)]
  rw [e0]
  refine ok_gd k1 (ok_r g3 (ok_gd k1 (ok_r g0 (ok_gd k6 (ok_R (rem_ok (d := d + 3) hS hh hb) (fun b z ⟨q1, q2, q3, q4⟩ => ?_))))))
  have hSz := hS.kh q4
  have hap := hc_ap q1.1
  have hb37 : b + 1 < 37 := by have := q1.1; unfold hcell at this; omega
  refine ok_up (fun i z => R X (d + 5) 73 37 [some (.inr 1), some (.inl c), some (.inr b), some (.inl i)] [] z) (fun i y => Kp 37 37 z y ∧ ∀ j : Int, 0 ≤ j → j < i → gi y 37 j.toNat = if j < c then j else j - 1) 0 12 (by omega) ?_ ?_ z ⟨Kp.rf, fun j j0 j1 => by omega⟩
  · intro i y i0 i1 ⟨hK, hI⟩ ih
    have hSy := hSz.kp hK
    have y1 : kd y 1 = 16 := hSy.1 1
    have y37 : kd y 37 = 1 := hSy.1 37
    have m37 : ln y 37 = 12 := hSy.2.1 37
    have nxt : ∀ v, (v = if i < c then i else i - 1) → Kp 37 37 z (si y 37 i.toNat v) ∧ ∀ j : Int, 0 ≤ j → j < i + 1 → gi (si y 37 i.toNat v) 37 j.toNat = if j < c then j else j - 1 := fun v hv => ⟨hK.tr (Kp.si (by omega) (by omega)), fun j j0 j1 => by
      by_cases e : j = i
      · rw [e, gi_si_eq, hv]
      · rw [gi_si_ne2 (by omega)]
        exact hI j j0 (by omega)⟩
    refine ok_eq (b73_37 X (d + 4) 1 c b i y) (ok_iff (by omega) (ok_gd y1 (ok_r (hSy.2.2 1 8 (by decide)) ?_)))
    rw [wrap_id (z := i + 1) (by omega) (by omega), wrap_id (z := i - 1) (by omega) (by omega)]
    exact ok_if (fun hc3 => ok_gd ⟨y37, i0, by rw [m37]; omega⟩ (ih _ (nxt _ (if_neg (by omega)).symm))) (fun hc3 => ok_gd ⟨y37, i0, by rw [m37]; omega⟩ (ih _ (nxt _ (if_pos (by omega)).symm)))
  · intro y ⟨hK, hI⟩
    have hSy := hSz.kp hK
    have y1 : kd y 1 = 16 := hSy.1 1
    have y37 : kd y 37 = 1 := hSy.1 37
    have m37 : ln y 37 = 12 := hSy.2.1 37
    have hK2 : Kp 37 37 z (si y 37 c.toNat (-1)) := hK.tr (Kp.si (by omega) (by omega))
    have hSs := hSz.kp hK2
    have hNu : Nu (si y 37 c.toNat (-1)) 37 (nuR c) := ⟨y37, m37, fun i i0 i1 => by
      unfold nuR
      by_cases e : i = c
      · rw [if_pos e, e, gi_si_eq]
      · rw [if_neg e, gi_si_ne2 (by omega)]
        exact hI i i0 i1⟩
    refine ok_eq (b73_37 X (d + 4) 1 c b 12 y) (ok_ift (by omega) (ok_gd y1 (ok_r (hSy.2.2 1 8 (by decide)) (ok_gd ⟨y37, hc.1, by rw [m37]; omega⟩ (ok_gd y1 (ok_r (hSy.2.2 1 0 (by decide)) ?_))))))
    generalize hss : si y 37 c.toNat (-1) = s at hK2 hSs hNu
    have hTb := q1.2.kp hK2 (by omega)
    have hT2 := q3.kp hK2 (by omega)
    refine ok_gd hTb.k (ok_gd (hSs.1 2) ?_)
    rw [hTb.sz, wrap_id (z := A.1.1 - 1) (by omega) (by omega)]
    refine ok_V (empty_ok (d := d + 1) hT2.ts (k := A.1.1 - 1) (by omega) (by omega)) (fun u ⟨u1, u2⟩ => ?_)
    have hSu := hSs.kp u2
    have hTw := twf_rem o3 o2 ⟨hc2', hc.2⟩
    have hB := bld_new u1 hTw.1 (row0 hTw (by omega))
    refine ok_gd (hSu.1 1) (ok_r (hSu.2.2 1 0 (by decide)) (ok_gd (hSu.1 1) (ok_r (hSu.2.2 1 8 (by decide)) (ok_gd (hSu.1 2) ?_))))
    refine ok_V (addren_ok (d := d + 2) hTw.1 hB (hTb.kp u2 (by omega)) (by omega) (hNu.kp u2 (by omega)) ⟨by omega, by omega⟩ o3.2.1 (fun a b' hr => ?_) (fun x y' hxy => ?_)) (fun v ⟨v1, v2⟩ => ?_)
    · obtain ⟨r1, r2, r3, r4, r5, ⟨r6, r7, r8⟩⟩ := hr
      have hv := (o3.2.1 a b').resolve_left r4
      have ua : up1 c (nuR c a) = a := by
        unfold nuR at r6 ⊢
        unfold up1
        (repeat' split) <;> omega
      have ub : up1 c (nuR c b') = b' := by
        unfold nuR at r7 ⊢
        unfold up1
        (repeat' split) <;> omega
      unfold trem
      rw [if_pos (by omega), ua, ub]
      generalize A.1.2 a b' = v at r4 r5 hv
      unfold nuR at r5 ⊢
      (repeat' split) <;> omega
    · by_cases x0 : x = 0
      · exact Or.inl x0
      · by_cases y0 : y' = 0
        · exact Or.inr (Or.inl y0)
        · refine Or.inr (Or.inr ?_)
          have hin : 0 ≤ x ∧ x < A.1.1 - 1 ∧ 0 ≤ y' ∧ y' < A.1.1 - 1 := by
            refine Classical.byContradiction fun hno => hxy ?_
            exact if_neg hno
          have hval : trem A.1.2 A.1.1 c x y' = if A.1.2 (up1 c x) (up1 c y') = 12 ∨ A.1.2 (up1 c x) (up1 c y') = c then 12 else if c < A.1.2 (up1 c x) (up1 c y') then A.1.2 (up1 c x) (up1 c y') - 1 else A.1.2 (up1 c x) (up1 c y') := if_pos hin
          have hne : ¬ (A.1.2 (up1 c x) (up1 c y') = 12 ∨ A.1.2 (up1 c x) (up1 c y') = c) := fun q => hxy (by rw [hval, if_pos q])
          have nx : nuR c (up1 c x) = x ∧ 1 ≤ up1 c x ∧ up1 c x < A.1.1 := by
            unfold nuR up1
            (repeat' split) <;> omega
          have ny : nuR c (up1 c y') = y' ∧ 1 ≤ up1 c y' ∧ up1 c y' < A.1.1 := by
            unfold nuR up1
            (repeat' split) <;> omega
          have hv := (o3.2.1 (up1 c x) (up1 c y')).resolve_left (fun q => hne (Or.inl q))
          have hnu : nuR c (A.1.2 (up1 c x) (up1 c y')) ≠ -1 ∧ 0 ≤ nuR c (A.1.2 (up1 c x) (up1 c y')) ∧ nuR c (A.1.2 (up1 c x) (up1 c y')) < A.1.1 - 1 := by
            have : A.1.2 (up1 c x) (up1 c y') ≠ c := fun q => hne (Or.inr q)
            unfold nuR
            (repeat' split) <;> omega
          by_cases hle : up1 c x ≤ up1 c y'
          · exact ⟨up1 c x, up1 c y', ⟨nx.2.1, hle, ny.2.2, fun q => hne (Or.inl q), hnu.1, ⟨by omega, by omega, Or.inl ⟨hnu.2.1, hnu.2.2⟩⟩⟩, Or.inl ⟨nx.1.symm, ny.1.symm⟩⟩
          · rw [o3.1 (up1 c x) (up1 c y')] at hne hnu
            exact ⟨up1 c y', up1 c x, ⟨ny.2.1, by omega, nx.2.2, fun q => hne (Or.inl q), hnu.1, ⟨by omega, by omega, Or.inl ⟨hnu.2.1, hnu.2.2⟩⟩⟩, Or.inr ⟨nx.1.symm, ny.1.symm⟩⟩
    · have hSv := hSu.kp v2
      obtain ⟨r1, r2⟩ := hcs.act q4 q2 hK2 (u2.tr (v2.wide (by omega) (by omega))) (a := (A.1.1 - 1, trem A.1.2 A.1.1 c)) v1 ⟨by dsimp only; omega, by dsimp only; omega, hTw⟩
      exact ok_gd (hSv.1 1) (ok_r (hSv.2.2 1 0 (by decide)) (ok_gd (hSv.1 2) (ok_ret ⟨_, rfl, v1.sz, r1, r2⟩)))
end FE
