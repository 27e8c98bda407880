/-! the reference: the next row, with one weight fixed; the first row -/
section NF
variable {X : Nat × (Nat → Int)} {d : Nat} {w w' w2 : MW} {n row : Int} {t : Int → Int → Int} {r r' q p p2 : AB}
theorem fix_m (hS : Sh w) (hn0 : gi w 38 0 = n) (hn : n ≤ 12) {i v : Int} (hi : 0 ≤ i ∧ i < n) (hR : RowW w n (12 * i) r) : OkV (run X d 162 [.inr 38, .inl i, .inl v] w) (fun w' => RowW w' n (12 * (i + 1)) (setR r i v) ∧ FrR (12 * (i + 1)) w w') := by
  refine ok_eq (b162_0 X d 38 i v w) ?_
  have e1 : ∀ q : Int, (0 ≤ q ∧ q < n) → (12 * (i + 1) + q).toNat = 12 * (i.toNat + 1) + q.toNat := fun q hq => by omega
  refine ok_up (fun j z => R X d 162 2 [some (.inr 38), some (.inl i), some (.inl v), some (.inl j)] [] z) (fun j z => FrR (12 * (i + 1)) w z ∧ ∀ x, 0 ≤ x → x < j → gi z 45 (12 * (i + 1) + x).toNat = r.1 x ∧ gi z 46 (12 * (i + 1) + x).toNat = r.2 x) 0 n (by omega) ?_ ?_ w ⟨FrR.rf, fun x x0 x1 => by omega⟩
  · intro j z j0 j1 ⟨hF, hI⟩ ih
    have Sz := hS.kp hF.1
    have z45 : kd z 45 = 1 := Sz.1 45
    have z46 : kd z 46 = 1 := Sz.1 46
    have l45 : ln z 45 = 156 := Sz.2.1 45
    have l46 : ln z 46 = 156 := Sz.2.1 46
    have o1 := hF.2 (12 * i + j).toNat (by omega)
    have o2 := hR j j0 j1
    refine ok_eq (b162_2 X d 38 i v j z) (ok_gd (Sz.1 38) (ok_iff (by rw [hF.1.gi (by omega), hn0]; omega) (ok_gd (Sz.1 38) (ok_r (Sz.2.2 38 13 (by decide)) (ok_gd (Sz.1 38) (ok_r (Sz.2.2 38 13 (by decide)) ?_))))))
    rw [wrap_id (z := i + 1) (by omega) (by omega), wrap_id (z := 12 * i) (by omega) (by omega), wrap_id (z := 12 * i + j) (by omega) (by omega), wrap_id (z := 12 * (i + 1)) (by omega) (by omega), wrap_id (z := 12 * (i + 1) + j) (by omega) (by omega), wrap_id (z := j + 1) (by omega) (by omega), o1.1, o2.1]
    refine ok_gd ⟨z45, by omega, by rw [l45]; omega⟩ (ok_gd ⟨z45, by omega, by rw [l45]; omega⟩ (ok_gd (Sz.1 38) (ok_r (Sz.2.2 38 14 (by decide)) (ok_gd (Sz.1 38) (ok_r (Sz.2.2 38 14 (by decide)) (ok_gd ⟨z46, by omega, by show _ < ((ln z 46 : Nat) : Int); rw [l46]; omega⟩ (ok_gd ⟨z46, by omega, by show _ < ((ln z 46 : Nat) : Int); rw [l46]; omega⟩ ?_)))))))
    rw [gi_si_ne (show (46 : Nat) ≠ 45 by omega), o1.2, o2.2]
    refine ih _ ⟨⟨hF.1.tr ((Kp.si (by omega) (by omega)).tr (Kp.si (by omega) (by omega))), fun m hm => ?_⟩, fun x x0 x1 => ?_⟩
    · rw [gi_si_ne (by omega), gi_si_ne2 (by omega), gi_si_ne2 (by omega), gi_si_ne (by omega)]
      exact hF.2 m hm
    · by_cases e : x = j
      · rw [e, gi_si_ne (by omega), gi_si_eq, gi_si_eq]
        exact ⟨rfl, rfl⟩
      · rw [gi_si_ne (by omega), gi_si_ne2 (by omega), gi_si_ne2 (by omega), gi_si_ne (by omega)]
        exact hI x x0 (by omega)
  · intro z ⟨hF, hI⟩
    have Sz := hS.kp hF.1
    have z45 : kd z 45 = 1 := Sz.1 45
    have z46 : kd z 46 = 1 := Sz.1 46
    have l45 : ln z 45 = 156 := Sz.2.1 45
    have l46 : ln z 46 = 156 := Sz.2.1 46
    refine ok_eq (b162_2 X d 38 i v n z) (ok_gd (Sz.1 38) (ok_ift (by rw [hF.1.gi (by omega), hn0]; omega) (ok_gd (Sz.1 38) (ok_r (Sz.2.2 38 13 (by decide)) ?_))))
    rw [wrap_id (z := i + 1) (by omega) (by omega), wrap_id (z := 12 * (i + 1)) (by omega) (by omega), wrap_id (z := 12 * (i + 1) + i) (by omega) (by omega)]
    refine ok_gd ⟨z45, by omega, by rw [l45]; omega⟩ (ok_gd (Sz.1 38) (ok_r (Sz.2.2 38 14 (by decide)) (ok_gd ⟨z46, by omega, by show _ < ((ln z 46 : Nat) : Int); rw [l46]; omega⟩ (ok_ret ⟨rfl, fun x x0 x1 => ?_, ⟨hF.1.tr ((Kp.si (by omega) (by omega)).tr (Kp.si (by omega) (by omega))), fun m hm => ?_⟩⟩))))
    · unfold setR
      by_cases e : x = i
      · rw [e, gi_si_ne (by omega), gi_si_eq, gi_si_eq]
        exact ⟨(if_pos rfl).symm, (if_pos rfl).symm⟩
      · rw [gi_si_ne (by omega), gi_si_ne2 (by omega), gi_si_ne2 (by omega), gi_si_ne (by omega)]
        obtain ⟨h1, h2⟩ := hI x x0 x1
        exact ⟨h1.trans (if_neg e).symm, h2.trans (if_neg e).symm⟩
    · rw [gi_si_ne (by omega), gi_si_ne2 (by omega), gi_si_ne2 (by omega), gi_si_ne (by omega)]
      exact hF.2 m hm
/-- the first row: of a thing the weight v may be told (-1: not) -/
def rw0 (k s v : Int) : AB := (fun j => if j = 0 then (if s = 0 ∧ 0 < v then v else 0) else if j = 1 then k else if j = s ∧ v ≠ -1 then v else 0, fun j => if j = 0 then 0 else if j = 1 then (if s = 1 ∧ v ≠ -1 ∧ v < k then v else k) else if j = s ∧ v ≠ -1 then v else k)
theorem init_m (hS : Sh w) (hn0 : gi w 38 0 = n) (h2n : 2 ≤ n) (hn : n ≤ 12) {k c s v : Int} {P : Option MV → MW → Prop}
    (go : ∀ (z : MW) (x : Int), Kp 45 46 w z → RowW (si z 46 1 x) n 0 (rw0 k s v) → Ok (R X (d + 1) 163 136 [some (.inr 38), none, some (.inl c), none, none, none, none] [.inl x, .inl 1, .inr 46] z) P) :
    Ok (run X (d + 1) 163 [.inr 38, .inl k, .inl c, .inl s, .inl v] w) P := by
  refine ok_eq (b163_0 X d 38 k c s v w) ?_
  refine ok_up (fun j z => R X (d + 1) 163 3 [some (.inr 38), some (.inl k), some (.inl c), some (.inl s), some (.inl v), some (.inl j), none] [] z) (fun j z => Kp 45 46 w z ∧ ∀ x, 0 ≤ x → x < j → gi z 45 x.toNat = (if x = 1 then k else if x = s ∧ v ≠ -1 then v else 0) ∧ gi z 46 x.toNat = (if x = 0 then 0 else if x = s ∧ v ≠ -1 then v else k)) 0 n (by omega) ?_ ?_ w ⟨Kp.rf, fun x x0 x1 => by omega⟩
  · intro j z j0 j1 ⟨hK, hI⟩ ih
    have Sz := hS.kp hK
    have z45 : kd z 45 = 1 := Sz.1 45
    have z46 : kd z 46 = 1 := Sz.1 46
    have l45 : ln z 45 = 156 := Sz.2.1 45
    have l46 : ln z 46 = 156 := Sz.2.1 46
    have two : ∀ lo hi : Int, lo = (if j = 1 then k else if j = s ∧ v ≠ -1 then v else 0) → hi = (if j = 0 then 0 else if j = s ∧ v ≠ -1 then v else k) → Ok (R X (d + 1) 163 3 [some (.inr 38), some (.inl k), some (.inl c), some (.inl s), some (.inl v), some (.inl (j + 1)), none] [] (si (si z 45 j.toNat lo) 46 j.toNat hi)) P := fun lo hi h1 h2 => ih _ ⟨hK.tr ((Kp.si (by omega) (by omega)).tr (Kp.si (by omega) (by omega))), fun x x0 x1 => by
      by_cases e : x = j
      · rw [e, gi_si_ne (by omega), gi_si_eq, gi_si_eq]
        exact ⟨h1, h2⟩
      · rw [gi_si_ne (by omega), gi_si_ne2 (by omega), gi_si_ne2 (by omega), gi_si_ne (by omega)]
        exact hI x x0 (by omega)⟩
    have low : ∀ lo : Int, lo = (if j = 1 then k else if j = s ∧ v ≠ -1 then v else 0) → Ok (R X (d + 1) 163 46 [some (.inr 38), some (.inl k), some (.inl c), some (.inl s), some (.inl v), some (.inl j), none] [.inl lo, .inl j, .inr 45] z) P := by
      intro lo h1
      have c46 : kd (si z 45 j.toNat lo) 46 = 1 ∧ 0 ≤ j ∧ j < ln (si z 45 j.toNat lo) 46 := ⟨z46, j0, by rw [ln_si, l46]; omega⟩
      refine ok_eq (b163_46 X d 38 k c s v j lo j 45 z) (ok_gd ⟨z45, j0, by rw [l45]; omega⟩ (ok_gd (Sz.1 38) (ok_r (Sz.2.2 38 14 (by decide)) ?_)))
      rw [wrap_id (z := j + 1) (by omega) (by omega)]
      refine ok_if (fun g0 => ok_if (fun gs => ok_gd c46 (two _ _ h1 ?_)) (fun gs => ok_if (fun gv => ok_gd c46 (two _ _ h1 ?_)) (fun gv => ok_gd c46 (two _ _ h1 ?_)))) (fun g0 => ok_gd c46 (two _ _ h1 ?_))
      · rw [if_neg g0, if_neg (fun r => gs r.1)]
      · rw [if_neg g0, if_neg (fun r => r.2 gv)]
      · rw [if_neg g0, if_pos ⟨Decidable.not_not.mp gs, gv⟩]
      · rw [if_pos (Decidable.not_not.mp g0)]
    refine ok_eq (b163_3 X d 38 k c s v j z) (ok_gd (Sz.1 38) (ok_iff (by rw [hK.gi (by omega), hn0]; omega) (ok_gd (Sz.1 38) (ok_r (Sz.2.2 38 13 (by decide)) (ok_if (fun g1 => ok_if (fun gs => ok_eq (b163_45 X d 38 k c s v j j 45 z) (low 0 ?_)) (fun gs => ok_if (fun gv => ok_eq (b163_45 X d 38 k c s v j j 45 z) (low 0 ?_)) (fun gv => low _ ?_))) (fun g1 => low _ ?_))))))
    · rw [if_neg g1, if_neg (fun r => gs r.1)]
    · rw [if_neg g1, if_neg (fun r => r.2 gv)]
    · rw [if_neg g1, if_pos ⟨Decidable.not_not.mp gs, gv⟩]
    · rw [if_pos (Decidable.not_not.mp g1)]
  · intro z ⟨hK, hI⟩
    have Sz := hS.kp hK
    have z45 : kd z 45 = 1 := Sz.1 45
    have l45 : ln z 45 = 156 := Sz.2.1 45
    have last : ∀ lo hi : Int, lo = (if s = 0 ∧ 0 < v then v else 0) → hi = (if s = 1 ∧ v ≠ -1 ∧ v < k then v else k) → Ok (R X (d + 1) 163 136 [some (.inr 38), none, some (.inl c), none, none, none, none] [.inl hi, .inl 1, .inr 46] (si z 45 (0 : Int).toNat lo)) P := fun lo hi h1 h2 => go _ hi (hK.tr (Kp.si (by omega) (by omega))) (fun x x0 x1 => by
      rw [Int.zero_add]
      have hx := hI x x0 x1
      refine ⟨?_, ?_⟩
      · rw [gi_si_ne (show (45 : Nat) ≠ 46 by omega)]
        show _ = if x = 0 then (if s = 0 ∧ 0 < v then v else 0) else if x = 1 then k else if x = s ∧ v ≠ -1 then v else 0
        by_cases e : x = 0
        · rw [e, gi_si_eq, h1, if_pos rfl]
        · rw [gi_si_ne2 (by omega), if_neg e]
          exact hx.1
      · show _ = if x = 0 then 0 else if x = 1 then (if s = 1 ∧ v ≠ -1 ∧ v < k then v else k) else if x = s ∧ v ≠ -1 then v else k
        by_cases e : x = 1
        · rw [e, if_neg (by omega), if_pos rfl, show (1 : Int).toNat = 1 from rfl, gi_si_eq, h2]
        · rw [gi_si_ne2 (by omega), gi_si_ne (by omega), hx.2]
          by_cases e0 : x = 0
          · rw [if_pos e0, if_pos e0]
          · rw [if_neg e0, if_neg e0, if_neg e])
    have mid : ∀ lo : Int, lo = (if s = 0 ∧ 0 < v then v else 0) → Ok (R X (d + 1) 163 107 [some (.inr 38), some (.inl k), some (.inl c), some (.inl s), some (.inl v), none, none] [.inl lo, .inl 0, .inr 45] z) P := by
      intro lo h1
      have k2 : (¬ (s = 1 ∧ v ≠ -1 ∧ v < k)) → Ok (R X (d + 1) 163 135 [some (.inr 38), some (.inl k), some (.inl c), none, none, none, none] [.inl 1, .inr 46] (si z 45 (0 : Int).toNat lo)) P := fun g => ok_eq (b163_135 X d 38 k c 1 46 _) (last lo k h1 (if_neg g).symm)
      refine ok_eq (b163_107 X d 38 k c s v lo 0 45 z) (ok_gd ⟨z45, by omega, by rw [l45]; omega⟩ (ok_gd (Sz.1 38) (ok_r (Sz.2.2 38 14 (by decide)) (ok_if (fun g => k2 (fun r => g r.1)) (fun g => ok_if (fun g2 => k2 (fun r => r.2.1 g2)) (fun g2 => ok_if (fun g3 => k2 (fun r => by omega)) (fun g3 => last lo v h1 ?_)))))))
      rw [if_pos ⟨Decidable.not_not.mp g, g2, by omega⟩]
    refine ok_eq (b163_3 X d 38 k c s v n z) (ok_gd (Sz.1 38) (ok_ift (by rw [hK.gi (by omega), hn0]; omega) (ok_gd (Sz.1 38) (ok_r (Sz.2.2 38 13 (by decide)) (ok_if (fun g => ok_eq (b163_106 X d 38 k c s v 0 45 z) (mid 0 ?_)) (fun g => ok_if (fun g2 => ok_eq (b163_106 X d 38 k c s v 0 45 z) (mid 0 ?_)) (fun g2 => mid v ?_)))))))
    · rw [if_neg (fun r => g r.1)]
    · rw [if_neg (fun r => by omega)]
    · rw [if_pos ⟨Decidable.not_not.mp g, by omega⟩]
end NF
