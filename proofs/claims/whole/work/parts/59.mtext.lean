/-! the reference reads its text -/
def KA (w w' : MW) : Prop := Kp 38 38 w w' ∧ ∀ j, j ≠ 9 → j ≠ 12 → gi w' 38 j = gi w 38 j
def KT (w w' : MW) : Prop := Kp 38 44 w w' ∧ (∀ b, b ≠ 38 → b ≠ 44 → ∀ j, gi w' b j = gi w b j) ∧ ∀ j, j ≠ 9 → j ≠ 11 → j ≠ 12 → gi w' 38 j = gi w 38 j
def MTs (w : MW) (acc : List T3) : Prop := gi w 38 11 = acc.length ∧ acc.length ≤ 15 ∧ ∀ (i : Nat) (s : T3), acc[i]? = some s → gi w 44 (3 * i) = s.1 ∧ gi w 44 (3 * i + 1) = s.2.1 ∧ gi w 44 (3 * i + 2) = mc s.2.2
section MR
variable {X : Nat × (Nat → Int)} {d : Nat} {w w' w2 : MW} {L p : Int} {c : Int → Int} {acc : List T3}
theorem KA.rf : KA w w := ⟨Kp.rf, fun _ _ _ => rfl⟩
theorem KA.tr (h : KA w w') (h2 : KA w' w2) : KA w w2 := ⟨h.1.tr h2.1, fun j h9 h12 => (h2.2 j h9 h12).trans (h.2 j h9 h12)⟩
theorem KA.kt (h : KA w w') : KT w w' := ⟨h.1.wide (by omega) (by omega), fun b hb _ j => h.1.gi (by omega) j, fun j h9 _ h12 => h.2 j h9 h12⟩
theorem KA.s9 {v : Int} : KA w (si w 38 9 v) := ⟨Kp.si (by omega) (by omega), fun j hj _ => gi_si_ne2 hj⟩
theorem KA.s12 {v : Int} : KA w (si w 38 12 v) := ⟨Kp.si (by omega) (by omega), fun j _ hj => gi_si_ne2 hj⟩
theorem KT.rf : KT w w := KA.rf.kt
theorem KT.tr (h : KT w w') (h2 : KT w' w2) : KT w w2 := ⟨h.1.tr h2.1, fun b h1 h4 j => (h2.2.1 b h1 h4 j).trans (h.2.1 b h1 h4 j), fun j h9 h11 h12 => (h2.2.2 j h9 h11 h12).trans (h.2.2 j h9 h11 h12)⟩
theorem KT.s44 {k : Nat} {v : Int} : KT w (si w 44 k v) := ⟨Kp.si (by omega) (by omega), fun b _ hb j => gi_si_ne hb, fun j _ _ _ => gi_si_ne (by omega)⟩
theorem KT.s11 {v : Int} : KT w (si w 38 11 v) := ⟨Kp.si (by omega) (by omega), fun b hb _ j => gi_si_ne hb, fun j _ h11 _ => gi_si_ne2 h11⟩
theorem MTx.kt (h : MTx w L c) (k : KT w w') : MTx w' L c := ⟨by rw [k.2.2 8 (by omega) (by omega) (by omega)]; exact h.1, h.2.1, fun j j0 j1 => by rw [k.2.1 43 (by omega) (by omega)]; exact h.2.2 j j0 j1⟩
theorem isat_m (hS : Sh w) (h : MTx w L c) (hp : gi w 38 9 = p) (h0 : 0 ≤ p) (l u : Int) : run X (d + 1) 132 [.inr 38, .inl l, .inl u] w = some (some (.inl (bI (p < L ∧ l ≤ c p ∧ c p ≤ u))), w) := by
  have l43 : ln w 43 = 60 := hS.2.1 43
  obtain ⟨t1, t2, t3⟩ := h
  apply ok_one
  refine ok_eq (b132_0 X d 38 l u w) (ok_gd (hS.1 38) (ok_gd (hS.1 38) ?_))
  rw [hp, t1]
  refine ok_if (fun q => ok_ret ⟨?_, rfl⟩) (fun q => ok_gd (hS.1 38) (ok_r (hS.2.2 38 7 (by decide)) (ok_gd (hS.1 38) (ok_gd ⟨hS.1 43, h0, by rw [l43]; omega⟩ (ok_i (in_ok X d _ l u w) (ok_if (fun q2 => ok_ret ⟨?_, rfl⟩) (fun q2 => ok_ret ⟨?_, rfl⟩)))))))
  · rw [show bI (p < L ∧ l ≤ c p ∧ c p ≤ u) = 0 from if_neg (by omega)]
  · rw [t3 p h0 (by omega)] at q2
    have := bI_eq.mp q2
    rw [show bI (p < L ∧ l ≤ c p ∧ c p ≤ u) = 0 from if_neg (by omega)]
  · rw [t3 p h0 (by omega)] at q2
    have := bI_ne.mp q2
    rw [show bI (p < L ∧ l ≤ c p ∧ c p ≤ u) = 1 from if_pos (by omega)]
theorem sign_m (hS : Sh w) (h : MTx w L c) (hp : gi w 38 9 = p) (h0 : 0 ≤ p) (hL : p ≤ L) (s : Int) : OkI (run X (d + 2) 133 [.inr 38, .inl s] w) (fun x w' => x = bI (sk L c s p) ∧ gi w' 38 9 = p + bI (sk L c s p) ∧ KA w w') := by
  have e : bI (p < L ∧ s ≤ c p ∧ c p ≤ s) = bI (sk L c s p) := by
    unfold bI
    by_cases q : sk L c s p
    · rw [if_pos q, if_pos ⟨q.1, by rw [q.2]; omega, by rw [q.2]; omega⟩]
    · rw [if_neg q, if_neg (fun r => q ⟨r.1, by omega⟩)]
  have t2 := h.2.1
  refine ok_eq (b133_0 X (d + 1) 38 s w) (ok_gd (hS.1 38) (ok_i (isat_m (d := d) hS h hp h0 s s) (ok_gd (hS.1 38) ?_)))
  rw [e, hp]
  refine ok_if (fun q => ok_gd (hS.1 38) (ok_gd (bI01 _) (ok_ret ⟨_, rfl, rfl, ?_, KA.s9⟩))) (fun q => ok_gd (hS.1 38) (ok_gd (bI01 _) (ok_ret ⟨_, rfl, rfl, ?_, KA.s9⟩)))
  · rw [gi_si_eq, q, wrap_id (by omega) (by omega)]
  · rw [gi_si_eq, wrap_id (by omega) (by omega), show bI (sk L c s p) = 1 from if_pos (bI_ne.mp q)]
theorem numb_m (hS : Sh w) (h : MTx w L c) (hp : gi w 38 9 = p) (h0 : 0 ≤ p) (hL : p ≤ L) : OkI (run X (d + 2) 134 [.inr 38] w) (fun x w' => x = bI (nv L c p ≠ -1) ∧ gi w' 38 9 = ne L c p ∧ (nv L c p ≠ -1 → gi w' 38 12 = nv L c p) ∧ KA w w') := by
  have l43 : ln w 43 = 60 := hS.2.1 43
  have t2 := h.2.1
  have nn := nv_none (L := L) (c := c) (p := p)
  refine ok_eq (b134_0 X (d + 1) 38 w) (ok_gd (hS.1 38) (ok_i (isat_m (d := d) hS h hp h0 48 57) (ok_if (fun q => ?_) (fun q => ok_ret ⟨_, rfl, ?_, ?_, ?_, KA.rf⟩))))
  rotate_left
  · have hd : dg L c p = -1 := if_neg (fun r => q (bI_ne.mpr r))
    rw [show bI (nv L c p ≠ -1) = 0 from if_neg (fun r => r (nn.mpr hd))]
  · have hd : dg L c p = -1 := if_neg (fun r => q (bI_ne.mpr r))
    unfold ne
    rw [if_pos hd]
    exact hp
  · have hd : dg L c p = -1 := if_neg (fun r => q (bI_ne.mpr r))
    exact fun r => absurd (nn.mpr hd) r
  have q' := bI_ne.mp q
  have hd : dg L c p = c p - 48 := if_pos q'
  have hnv : nv L c p ≠ -1 := fun r => by have := nn.mp r; omega
  refine ok_gd (hS.1 38) (ok_r (hS.2.2 38 7 (by decide)) (ok_gd (hS.1 38) ?_))
  rw [hp, h.2.2 p h0 (by omega), wrap_id (z := c p - 48) (by omega) (by omega)]
  refine ok_gd ⟨hS.1 43, h0, by rw [l43]; omega⟩ (ok_gd (hS.1 38) (ok_gd (hS.1 38) (ok_gd (hS.1 38) (ok_gd (hS.1 38) ?_))))
  have e9 : gi (si w 38 12 (c p - 48)) 38 9 = p := by rw [gi_si_ne2 (by omega)]; exact hp
  rw [e9, wrap_id (z := p + 1) (by omega) (by omega)]
  generalize hz : si (si w 38 12 (c p - 48)) 38 9 (p + 1) = z
  have kz : KA w z := by rw [← hz]; exact KA.s12.tr KA.s9
  have Sz := hS.kp kz.1
  have z9 : gi z 38 9 = p + 1 := by rw [← hz]; exact gi_si_eq
  have z12 : gi z 38 12 = c p - 48 := by rw [← hz, gi_si_ne2 (by omega)]; exact gi_si_eq
  have hz43 : MTx z L c := h.kt kz.kt
  rw [z12]
  have two : (dg L c p = 1 ∧ (dg L c (p + 1) = 0 ∨ dg L c (p + 1) = 1)) ↔ c p - 48 = 1 ∧ (p + 1 < L ∧ 48 ≤ c (p + 1) ∧ c (p + 1) ≤ 49) := by
    rw [hd]
    unfold dg
    constructor
    · rintro ⟨g1, g2⟩
      split at g2 <;> omega
    · rintro ⟨g1, g2⟩
      rw [if_pos (by omega)]
      omega
  have one : ¬ (c p - 48 = 1 ∧ (p + 1 < L ∧ 48 ≤ c (p + 1) ∧ c (p + 1) ≤ 49)) → nv L c p = c p - 48 ∧ ne L c p = p + 1 := fun r => by
    unfold nv ne
    rw [if_neg (fun g => r (two.mp g)), if_neg (by omega), if_neg (fun g => r (two.mp g))]
    exact ⟨hd, rfl⟩
  have hb : bI (nv L c p ≠ -1) = 1 := if_pos hnv
  refine ok_if (fun q1 => ok_ret ⟨_, rfl, hb.symm, ?_, fun _ => ?_, kz⟩) (fun q1 => ok_gd (Sz.1 38) (ok_i (isat_m (d := d) Sz hz43 z9 (by omega) 48 49) (ok_if (fun q2 => ok_ret ⟨_, rfl, hb.symm, ?_, fun _ => ?_, kz⟩) (fun q2 => ok_gd (Sz.1 38) (ok_r (Sz.2.2 38 7 (by decide)) (ok_gd (Sz.1 38) ?_))))))
  · rw [z9, (one (fun r => q1 r.1)).2]
  · rw [z12, (one (fun r => q1 r.1)).1]
  · rw [z9, (one (fun r => bI_eq.mp q2 r.2)).2]
  · rw [z12, (one (fun r => bI_eq.mp q2 r.2)).1]
  have q2' := bI_ne.mp q2
  have q1' := Decidable.not_not.mp q1
  have m43 : ln z 43 = 60 := Sz.2.1 43
  rw [z9, hz43.2.2 (p + 1) (by omega) (by omega), wrap_id (z := 10 + c (p + 1)) (by omega) (by omega), wrap_id (z := 10 + c (p + 1) - 48) (by omega) (by omega)]
  refine ok_gd ⟨Sz.1 43, by omega, by rw [m43]; omega⟩ (ok_gd (Sz.1 38) (ok_gd (Sz.1 38) (ok_gd (Sz.1 38) ?_)))
  have f9 : gi (si z 38 12 (10 + c (p + 1) - 48)) 38 9 = p + 1 := by rw [gi_si_ne2 (by omega)]; exact z9
  rw [f9, wrap_id (z := p + 1 + 1) (by omega) (by omega)]
  have hd1 : dg L c (p + 1) = c (p + 1) - 48 := if_pos (by omega)
  refine ok_ret ⟨_, rfl, hb.symm, ?_, fun _ => ?_, kz.tr (KA.s12.tr KA.s9)⟩
  · rw [gi_si_eq]
    unfold ne
    rw [if_neg (by omega), if_pos (two.mpr ⟨q1', q2'⟩)]
    omega
  · rw [gi_si_ne2 (by omega), gi_si_eq]
    unfold nv
    rw [if_pos (two.mpr ⟨q1', q2'⟩), hd1]
    omega
end MR
