/-! the reference's bounds: raised and lowered -/
def mRs (r : AB) (x l : Int) : AB := (fun j => if j = x ∧ r.1 x < l then l else r.1 j, r.2)
def mLw (r : AB) (x h : Int) : AB := (r.1, fun j => if j = x ∧ h < r.2 x then h else r.2 j)
def RowW (w : MW) (n row : Int) (r : AB) : Prop := ∀ t, 0 ≤ t → t < n → gi w 45 (row + t).toNat = r.1 t ∧ gi w 46 (row + t).toNat = r.2 t
def FrR (row : Int) (w w' : MW) : Prop := Kp 45 46 w w' ∧ ∀ j : Nat, ¬ (row ≤ j ∧ (j : Int) < row + 12) → gi w' 45 j = gi w 45 j ∧ gi w' 46 j = gi w 46 j
/-- what one change does -/
def Opx (n : Int) (r r' : AB) (x : Int) : Prop := shr n r r' ∧ (x = 0 ∨ x = 1) ∧ (x = 0 → r' = r) ∧ (x ≠ 0 → ∃ t, (0 ≤ t ∧ t < n) ∧ (r.1 t < r'.1 t ∨ r'.2 t < r.2 t))
section NC
variable {X : Nat × (Nat → Int)} {d : Nat} {w w' w2 : MW} {n row : Int} {t : Int → Int → Int} {r r' r2 : AB}
theorem FrR.rf : FrR row w w := ⟨Kp.rf, fun _ _ => ⟨rfl, rfl⟩⟩
theorem FrR.tr (h : FrR row w w') (h2 : FrR row w' w2) : FrR row w w2 := ⟨h.1.tr h2.1, fun j hj => ⟨(h2.2 j hj).1.trans (h.2 j hj).1, (h2.2 j hj).2.trans (h.2 j hj).2⟩⟩
theorem orBB {x y : Int} (hx : x = 0 ∨ x = 1) (hy : y = 0 ∨ y = 1) : (orI x y = 0 ∨ orI x y = 1) ∧ (orI x y = 0 ↔ x = 0 ∧ y = 0) := by
  have e00 : orI 0 0 = 0 := by decide +kernel
  have e01 : orI 0 1 = 1 := by decide +kernel
  have e10 : orI 1 0 = 1 := by decide +kernel
  have e11 : orI 1 1 = 1 := by decide +kernel
  rcases hx with rfl | rfl <;> rcases hy with rfl | rfl
  · rw [e00]; exact ⟨Or.inl rfl, by simp⟩
  · rw [e01]; exact ⟨Or.inr rfl, by simp⟩
  · rw [e10]; exact ⟨Or.inr rfl, by simp⟩
  · rw [e11]; exact ⟨Or.inr rfl, by simp⟩
theorem Opx.tr {x y : Int} (h : Opx n r r' x) (h2 : Opx n r' r2 y) : Opx n r r2 (orI x y) := by
  obtain ⟨a1, a2, a3, a4⟩ := h
  obtain ⟨b1, b2, b3, b4⟩ := h2
  obtain ⟨c1, c2⟩ := orBB a2 b2
  refine ⟨a1.tr b1, c1, fun q => ?_, fun q => ?_⟩
  · obtain ⟨q1, q2⟩ := c2.mp q
    rw [b3 q2, a3 q1]
  · by_cases q1 : x = 0
    · have q2 : y ≠ 0 := fun q2 => q (c2.mpr ⟨q1, q2⟩)
      obtain ⟨u, u1, u2⟩ := b4 q2
      exact ⟨u, u1, by have := a1 u u1.1 u1.2; omega⟩
    · obtain ⟨u, u1, u2⟩ := a4 q1
      exact ⟨u, u1, by have := b1 u u1.1 u1.2; omega⟩
theorem mRs_op {x l : Int} (hx : 0 ≤ x ∧ x < n) : Opx n r (mRs r x l) (bI (r.1 x < l)) := by
  refine ⟨fun j j0 j1 => ⟨?_, Int.le_refl _⟩, bI01 _, fun q => ?_, fun q => ⟨x, hx, Or.inl ?_⟩⟩
  · show r.1 j ≤ if j = x ∧ r.1 x < l then l else r.1 j
    split
    · rename_i g; rw [g.1]; omega
    · omega
  · have := bI_eq.mp q
    refine Prod.ext (funext fun j => ?_) rfl
    exact if_neg (fun g => this g.2)
  · have := bI_ne.mp q
    show r.1 x < if x = x ∧ r.1 x < l then l else r.1 x
    rw [if_pos ⟨rfl, this⟩]
    exact this
theorem mLw_op {x h : Int} (hx : 0 ≤ x ∧ x < n) : Opx n r (mLw r x h) (bI (h < r.2 x)) := by
  refine ⟨fun j j0 j1 => ⟨Int.le_refl _, ?_⟩, bI01 _, fun q => ?_, fun q => ⟨x, hx, Or.inr ?_⟩⟩
  · show (if j = x ∧ h < r.2 x then h else r.2 j) ≤ r.2 j
    split
    · rename_i g; rw [g.1]; omega
    · omega
  · have := bI_eq.mp q
    refine Prod.ext rfl (funext fun j => ?_)
    exact if_neg (fun g => this g.2)
  · have := bI_ne.mp q
    show (if x = x ∧ h < r.2 x then h else r.2 x) < r.2 x
    rw [if_pos ⟨rfl, this⟩]
    exact this
theorem mRs_in {x l : Int} {f : Int → Int} (hl : l ≤ f x) (h : ∀ j, 0 ≤ j → j < n → wi r f j) : ∀ j, 0 ≤ j → j < n → wi (mRs r x l) f j := fun j j0 j1 => by
  have := h j j0 j1
  refine ⟨?_, this.2⟩
  show (if j = x ∧ r.1 x < l then l else r.1 j) ≤ f j
  split
  · rename_i g; rw [g.1]; exact hl
  · exact this.1
theorem mLw_in {x l : Int} {f : Int → Int} (hl : f x ≤ l) (h : ∀ j, 0 ≤ j → j < n → wi r f j) : ∀ j, 0 ≤ j → j < n → wi (mLw r x l) f j := fun j j0 j1 => by
  have := h j j0 j1
  refine ⟨this.1, ?_⟩
  show f j ≤ (if j = x ∧ l < r.2 x then l else r.2 j)
  split
  · rename_i g; rw [g.1]; exact hl
  · exact this.2
theorem raise_m (hS : Sh w) (h : RowW w n row r) (hn : n ≤ 12) (hrow : 0 ≤ row ∧ row ≤ 144) {x : Int} (hx : 0 ≤ x ∧ x < n) (l : Int) : OkI (run X d 159 [.inr 38, .inl row, .inl x, .inl l] w) (fun v w' => v = bI (r.1 x < l) ∧ RowW w' n row (mRs r x l) ∧ FrR row w w') := by
  have k45 : kd w 45 = 1 := hS.1 45
  have l45 : ln w 45 = 156 := hS.2.1 45
  have hv := (h x hx.1 hx.2).1
  have ix : ∀ {P : Prop}, P → (kd w 45 = 1 ∧ 0 ≤ row + x ∧ row + x < ln w 45) := fun _ => ⟨k45, by omega, by rw [l45]; omega⟩
  have fr : ∀ v, FrR row w (si w 45 (row + x).toNat v) := fun v => ⟨Kp.si (by omega) (by omega), fun j hj => ⟨gi_si_ne2 (by omega), gi_si_ne (by omega)⟩⟩
  have rw1 : ∀ v, (v = if r.1 x < l then l else r.1 x) → RowW (si w 45 (row + x).toNat v) n row (mRs r x l) := fun v hv2 j j0 j1 => by
    rw [gi_si_ne (show (46 : Nat) ≠ 45 by omega)]
    refine ⟨?_, (h j j0 j1).2⟩
    show _ = if j = x ∧ r.1 x < l then l else r.1 j
    by_cases e : j = x
    · rw [e, gi_si_eq, hv2]
      by_cases g : r.1 x < l
      · rw [if_pos g, if_pos ⟨rfl, g⟩]
      · rw [if_neg g, if_neg (fun q => g q.2)]
    · rw [gi_si_ne2 (by omega), if_neg (fun q => e q.1)]
      exact (h j j0 j1).1
  refine ok_eq (b159_0 X d 38 row x l w) (ok_gd (hS.1 38) (ok_r (hS.2.2 38 13 (by decide)) ?_))
  rw [wrap_id (z := row + x) (by omega) (by omega), hv]
  refine ok_gd (ix trivial) (ok_if (fun q => ?_) (fun q => ?_))
  · refine ok_eq (b159_17 X d 38 row x l 0 w) (ok_gd (hS.1 38) (ok_r (hS.2.2 38 13 (by decide)) (ok_ift rfl (ok_gd (hS.1 38) (ok_r (hS.2.2 38 13 (by decide)) ?_)))))
    rw [wrap_id (z := row + x) (by omega) (by omega), hv]
    exact ok_gd (ix trivial) (ok_gd (ix trivial) (ok_gd (Or.inl rfl) (ok_ret ⟨0, rfl, (if_neg (by omega)).symm, rw1 _ (if_neg (by omega)).symm, fr _⟩)))
  · refine ok_eq (b159_17 X d 38 row x l 1 w) (ok_gd (hS.1 38) (ok_r (hS.2.2 38 13 (by decide)) (ok_iff (by omega) ?_)))
    rw [wrap_id (z := row + x) (by omega) (by omega)]
    exact ok_gd (ix trivial) (ok_gd (Or.inr rfl) (ok_ret ⟨1, rfl, (if_pos (by omega)).symm, rw1 _ (if_pos (by omega)).symm, fr _⟩))
theorem lower_m (hS : Sh w) (h : RowW w n row r) (hn : n ≤ 12) (hrow : 0 ≤ row ∧ row ≤ 144) {x : Int} (hx : 0 ≤ x ∧ x < n) (l : Int) : OkI (run X d 160 [.inr 38, .inl row, .inl x, .inl l] w) (fun v w' => v = bI (l < r.2 x) ∧ RowW w' n row (mLw r x l) ∧ FrR row w w') := by
  have k46 : kd w 46 = 1 := hS.1 46
  have l46 : ln w 46 = 156 := hS.2.1 46
  have hv := (h x hx.1 hx.2).2
  have ix : ∀ {P : Prop}, P → (kd w 46 = 1 ∧ 0 ≤ row + x ∧ row + x < ln w 46) := fun _ => ⟨k46, by omega, by rw [l46]; omega⟩
  have fr : ∀ v, FrR row w (si w 46 (row + x).toNat v) := fun v => ⟨Kp.si (by omega) (by omega), fun j hj => ⟨gi_si_ne (by omega), gi_si_ne2 (by omega)⟩⟩
  have rw1 : ∀ v, (v = if l < r.2 x then l else r.2 x) → RowW (si w 46 (row + x).toNat v) n row (mLw r x l) := fun v hv2 j j0 j1 => by
    rw [gi_si_ne (show (45 : Nat) ≠ 46 by omega)]
    refine ⟨(h j j0 j1).1, ?_⟩
    show _ = if j = x ∧ l < r.2 x then l else r.2 j
    by_cases e : j = x
    · rw [e, gi_si_eq, hv2]
      by_cases g : l < r.2 x
      · rw [if_pos g, if_pos ⟨rfl, g⟩]
      · rw [if_neg g, if_neg (fun q => g q.2)]
    · rw [gi_si_ne2 (by omega), if_neg (fun q => e q.1)]
      exact (h j j0 j1).2
  refine ok_eq (b160_0 X d 38 row x l w) (ok_gd (hS.1 38) (ok_r (hS.2.2 38 14 (by decide)) ?_))
  rw [wrap_id (z := row + x) (by omega) (by omega), hv]
  refine ok_gd (ix trivial) (ok_if (fun q => ?_) (fun q => ?_))
  · refine ok_eq (b160_17 X d 38 row x l 0 w) (ok_gd (hS.1 38) (ok_r (hS.2.2 38 14 (by decide)) (ok_ift rfl (ok_gd (hS.1 38) (ok_r (hS.2.2 38 14 (by decide)) ?_)))))
    rw [wrap_id (z := row + x) (by omega) (by omega), hv]
    exact ok_gd (ix trivial) (ok_gd (ix trivial) (ok_gd (Or.inl rfl) (ok_ret ⟨0, rfl, (if_neg (by omega)).symm, rw1 _ (if_neg (by omega)).symm, fr _⟩)))
  · refine ok_eq (b160_17 X d 38 row x l 1 w) (ok_gd (hS.1 38) (ok_r (hS.2.2 38 14 (by decide)) (ok_iff (by omega) ?_)))
    rw [wrap_id (z := row + x) (by omega) (by omega)]
    exact ok_gd (ix trivial) (ok_gd (Or.inr rfl) (ok_ret ⟨1, rfl, (if_pos (by omega)).symm, rw1 _ (if_pos (by omega)).symm, fr _⟩))
end NC
