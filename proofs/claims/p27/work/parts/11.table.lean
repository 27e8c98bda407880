/-! the class's table: a cell r with the size n, and the sums t behind it (12: none) -/
def Tb (w : MW) (r : Nat) (n : Int) (t : Int → Int → Int) : Prop :=
  (kd w r = 13 ∧ kd w (r + 1) = 1 ∧ ln w (r + 1) = 144 ∧ gr w r 1 = some (r + 1)) ∧ (gi w r 0 = n ∧ 0 ≤ n ∧ n ≤ 12) ∧
  (∀ a b : Int, 0 ≤ a → a < 12 → 0 ≤ b → b < 12 → gi w (r + 1) (a * 12 + b).toNat = t a b) ∧ ∀ a b : Int, ¬ (0 ≤ a ∧ a < n ∧ 0 ≤ b ∧ b < n) → t a b = 12
section TB
variable {w w' : MW} {r : Nat} {n : Int} {t : Int → Int → Int}
theorem Tb.k (h : Tb w r n t) : kd w r = 13 := h.1.1
theorem Tb.k1 (h : Tb w r n t) : kd w (r + 1) = 1 := h.1.2.1
theorem Tb.l (h : Tb w r n t) : ln w (r + 1) = 144 := h.1.2.2.1
theorem Tb.g (h : Tb w r n t) : gr w r 1 = some (r + 1) := h.1.2.2.2
theorem Tb.sz (h : Tb w r n t) : gi w r 0 = n := h.2.1.1
theorem Tb.n0 (h : Tb w r n t) : 0 ≤ n := h.2.1.2.1
theorem Tb.n12 (h : Tb w r n t) : n ≤ 12 := h.2.1.2.2
theorem Tb.en (h : Tb w r n t) {a b : Int} (h1 : 0 ≤ a) (h2 : a < 12) (h3 : 0 ≤ b) (h4 : b < 12) : gi w (r + 1) (a * 12 + b).toNat = t a b := h.2.2.1 a b h1 h2 h3 h4
theorem Tb.out (h : Tb w r n t) {a b : Int} (h1 : ¬ (0 ≤ a ∧ a < n ∧ 0 ≤ b ∧ b < n)) : t a b = 12 := h.2.2.2 a b h1
theorem Tb.kp {lo hi : Nat} (h : Tb w r n t) (k : Kp lo hi w w') (hr : r + 1 < lo ∨ hi < r) : Tb w' r n t :=
  ⟨⟨by rw [k.kd]; exact h.k, by rw [k.kd]; exact h.k1, by rw [k.ln]; exact h.l, by rw [k.gr]; exact h.g⟩, ⟨by rw [k.gi (by omega)]; exact h.sz, h.n0, h.n12⟩, fun a b h1 h2 h3 h4 => by rw [k.gi (by omega)]; exact h.en h1 h2 h3 h4, h.2.2.2⟩
end TB
def bI (c : Prop) [Decidable c] : Int := if c then 1 else 0
section TM
variable {X : Nat × (Nat → Int)} {d : Nat} {w : MW} {r : Nat} {n : Int} {t : Int → Int → Int}
theorem has_ok (h : Tb w r n t) (a : Int) : run X d 24 [.inr r, .inl a] w = some (some (.inl (bI (0 ≤ a ∧ a < n))), w) := by
  apply ok_one
  refine ok_eq (b24_0 X d r a w) (ok_if (fun h1 => ok_ret ?_) (fun h1 => ok_gd h.k (ok_if (fun h2 => ok_ret ?_) (fun h2 => ok_ret ?_))))
  · refine ⟨?_, rfl⟩; unfold bI; rw [if_neg (by omega)]
  · rw [h.sz] at h2
    refine ⟨?_, rfl⟩; unfold bI; rw [if_neg (by omega)]
  · rw [h.sz] at h2
    refine ⟨?_, rfl⟩; unfold bI; rw [if_pos (by omega)]
theorem bI_ne {c : Prop} [Decidable c] : bI c ≠ 0 ↔ c := by
  unfold bI
  split <;> simp_all
theorem bI_eq {c : Prop} [Decidable c] : bI c = 0 ↔ ¬ c := by
  unfold bI
  split <;> simp_all
theorem ix_wrap {a b : Int} (h1 : 0 ≤ a) (h2 : a < 12) (h3 : 0 ≤ b) (h4 : b < 12) : wrap (wrap (a * 12) + b) = a * 12 + b := by
  rw [wrap_id (z := a * 12) (by omega) (by omega), wrap_id (by omega) (by omega)]
theorem at_ok (h : Tb w r n t) (a b : Int) : run X (d + 1) 25 [.inr r, .inl a, .inl b] w = some (some (.inl (t a b)), w) := by
  have hn := h.n12
  apply ok_one
  refine ok_eq (b25_0 X d r a b w) (ok_gd h.k (ok_i (has_ok h a) (ok_if (fun h1 => ok_ret ?_) (fun h1 => ok_gd h.k (ok_i (has_ok h b) (ok_if (fun h2 => ok_ret ?_) (fun h2 => ok_gd h.k (ok_r h.g ?_))))))))
  · rw [bI_eq] at h1
    rw [h.out (by omega)]
    exact ⟨rfl, rfl⟩
  · rw [bI_eq] at h2
    rw [h.out (by omega)]
    exact ⟨rfl, rfl⟩
  · have h1 := bI_ne.mp h1
    have h2 := bI_ne.mp h2
    rw [ix_wrap (by omega) (by omega) (by omega) (by omega), h.en (by omega) (by omega) (by omega) (by omega)]
    exact ok_gd ⟨h.k1, by omega, by rw [h.l]; omega⟩ (ok_ret ⟨rfl, rfl⟩)
theorem hasSum_ok (h : Tb w r n t) (a b : Int) : run X (d + 2) 26 [.inr r, .inl a, .inl b] w = some (some (.inl (bI (t a b ≠ 12))), w) := by
  apply ok_one
  refine ok_eq (b26_0 X (d + 1) r a b w) (ok_gd h.k (ok_i (at_ok h a b) (ok_if (fun h1 => ok_ret ?_) (fun h1 => ok_ret ?_))))
  · refine ⟨?_, rfl⟩; unfold bI; rw [if_neg (by omega)]
  · refine ⟨?_, rfl⟩; unfold bI; rw [if_pos h1]
/-- a sum put in, both ways -/
def tput (t : Int → Int → Int) (a b c : Int) : Int → Int → Int := fun x y => if (x = a ∧ y = b) ∨ (x = b ∧ y = a) then c else t x y
def putv (n a b c : Int) : Prop := (0 ≤ a ∧ a < n) ∧ (0 ≤ b ∧ b < n) ∧ ((0 ≤ c ∧ c < n) ∨ c = 12)
theorem put_core (h : Tb w r n t) {a b c : Int} (ha : 0 ≤ a ∧ a < n) (hb : 0 ≤ b ∧ b < n) : OkV (R X (d + 1) 27 30 [some (.inr r), some (.inl a), some (.inl b), some (.inl c)] [] w) (fun w' => Tb w' r n (tput t a b c) ∧ Kp (r + 1) (r + 1) w w') := by
  have hn := h.n12
  refine ok_eq (b27_30 X d r a b c w) (ok_gd h.k (ok_r h.g ?_))
  rw [ix_wrap (by omega) (by omega) (by omega) (by omega), ix_wrap (by omega) (by omega) (by omega) (by omega)]
  refine ok_gd ⟨h.k1, by omega, by rw [h.l]; omega⟩ (ok_gd h.k (ok_r h.g (ok_gd ⟨h.k1, by omega, by show _ < ((ln w (r + 1) : Nat) : Int); rw [h.l]; omega⟩ (ok_ret ⟨rfl, ?_, ?_⟩))))
  · refine ⟨⟨h.k, h.k1, h.l, h.g⟩, ⟨?_, h.n0, h.n12⟩, fun x y h1 h2 h3 h4 => ?_, fun x y hxy => ?_⟩
    · rw [gi_si_ne (by omega), gi_si_ne (by omega)]
      exact h.sz
    · rw [gi_si, gi_si]
      unfold tput
      rw [h.en h1 h2 h3 h4]
      by_cases e1 : x = b ∧ y = a
      · rw [if_pos ⟨rfl, by rw [e1.1, e1.2]⟩, if_pos (Or.inr e1)]
      · rw [if_neg (fun q => e1 (by have := q.2; omega))]
        by_cases e2 : x = a ∧ y = b
        · rw [if_pos ⟨rfl, by rw [e2.1, e2.2]⟩, if_pos (Or.inl e2)]
        · rw [if_neg (fun q => e2 (by have := q.2; omega)), if_neg (fun q => q.elim e2 e1)]
    · unfold tput
      rw [if_neg (by omega)]
      exact h.out hxy
  · exact (Kp.si (Nat.le_refl _) (Nat.le_refl _)).tr (Kp.si (Nat.le_refl _) (Nat.le_refl _))
theorem put_ok (h : Tb w r n t) {a b c : Int} (hv : putv n a b c) : OkV (run X (d + 1) 27 [.inr r, .inl a, .inl b, .inl c] w) (fun w' => Tb w' r n (tput t a b c) ∧ Kp (r + 1) (r + 1) w w') := by
  obtain ⟨ha, hb, hc⟩ := hv
  refine ok_eq (b27_0 X d r a b c w) (ok_gd h.k (ok_i (has_ok h a) (ok_iff (fun q => absurd ha (bI_eq.mp q)) (ok_gd h.k (ok_i (has_ok h b) (ok_iff (fun q => absurd hb (bI_eq.mp q)) (ok_gd h.k (ok_i (has_ok h c) (ok_if (fun h1 => put_core h ha hb) (fun h1 => ok_iff ?_ (put_core h ha hb)))))))))))
  intro q
  exact h1 (bI_ne.mpr (hc.resolve_right q))
end TM
