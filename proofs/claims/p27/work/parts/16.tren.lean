/-! tables renumbered -/
def Nu (w : MW) (r2 : Nat) (ν : Int → Int) : Prop := kd w r2 = 1 ∧ ln w r2 = 12 ∧ ∀ i : Int, 0 ≤ i → i < 12 → gi w r2 i.toNat = ν i
theorem Nu.kp {w w' : MW} {r2 : Nat} {ν : Int → Int} {lo hi : Nat} (h : Nu w r2 ν) (k : Kp lo hi w w') (hr : r2 < lo ∨ hi < r2) : Nu w' r2 ν := ⟨by rw [k.kd]; exact h.1, by rw [k.ln]; exact h.2.1, fun i h1 h2 => by rw [k.gi hr]; exact h.2.2 i h1 h2⟩
def tval (t : Int → Int → Int) (n : Int) : Prop := ∀ a b, t a b = 12 ∨ (0 ≤ t a b ∧ t a b < n)
section AR
variable {X : Nat × (Nat → Int)} {d : Nat} {w w' : MW} {r r1 r2 : Nat} {n m : Int} {t T : Int → Int → Int} {ν : Int → Int}
def rnk (t : Int → Int → Int) (ν : Int → Int) (n m a b : Int) : Prop := 1 ≤ a ∧ a ≤ b ∧ b < n ∧ t a b ≠ 12 ∧ ν (t a b) ≠ -1 ∧ putv m (ν a) (ν b) (ν (t a b))
theorem addren_ok (hT : tsym T) (h0 : Bld w r m T (fun x y => x = 0 ∨ y = 0)) (h1 : Tb w r1 n t) (hn : 1 ≤ n) (hν : Nu w r2 ν) (hap : (r1 + 1 < r ∨ r + 1 < r1) ∧ (r2 < r ∨ r + 1 < r2)) (htv : tval t n)
    (hput : ∀ a b, rnk t ν n m a b → ν (t a b) = T (ν a) (ν b)) (hcov : ∀ x y, T x y ≠ 12 → x = 0 ∨ y = 0 ∨ ∃ a b, rnk t ν n m a b ∧ ((x = ν a ∧ y = ν b) ∨ (x = ν b ∧ y = ν a))) :
    OkV (run X (d + 2) 31 [.inr r, .inr r1, .inr r2] w) (fun w' => Tb w' r m T ∧ Kp (r + 1) (r + 1) w w') := by
  have h12 := h1.n12
  refine ok_eq (b31_0 X (d + 1) r r1 r2 w) ?_
  refine ok_up (fun i s => R X (d + 2) 31 2 [some (.inr r), some (.inr r1), some (.inr r2), some (.inl i), none, none] [] s) (fun i s => Bld s r m T (fun x y => x = 0 ∨ y = 0 ∨ ∃ a b, a < i ∧ rnk t ν n m a b ∧ ((x = ν a ∧ y = ν b) ∨ (x = ν b ∧ y = ν a))) ∧ Kp (r + 1) (r + 1) w s) 1 n hn ?_ ?_ w ⟨h0.sub (fun x y hd => ?_), Kp.rf⟩
  · intro i s g1 g2 ⟨hB, hK⟩ ih
    have hs1 := h1.kp hK (by omega)
    refine ok_eq (b31_2 X (d + 1) r r1 r2 i s) (ok_gd hs1.k (ok_iff (by rw [hs1.sz]; omega) ?_))
    refine ok_up (fun j s => R X (d + 2) 31 13 [some (.inr r), some (.inr r1), some (.inr r2), some (.inl i), some (.inl j), none] [] s) (fun j s => Bld s r m T (fun x y => x = 0 ∨ y = 0 ∨ ∃ a b, (a < i ∨ (a = i ∧ b < j)) ∧ rnk t ν n m a b ∧ ((x = ν a ∧ y = ν b) ∨ (x = ν b ∧ y = ν a))) ∧ Kp (r + 1) (r + 1) w s) i n (by omega) ?_ ?_ s ⟨hB.sub (fun x y hd => ?_), hK⟩
    · intro j s2 g3 g4 ⟨hB2, hK2⟩ ih2
      have hs2 := h1.kp hK2 (by omega)
      have hn2 := hν.kp hK2 (by omega)
      have hkr : kd s2 r = 13 := by obtain ⟨t2, q, -⟩ := hB2; exact q.k
      have skip : ∀ s3 : MW, s3 = s2 → (¬ rnk t ν n m i j) → Bld s3 r m T (fun x y => x = 0 ∨ y = 0 ∨ ∃ a b, (a < i ∨ (a = i ∧ b < j + 1)) ∧ rnk t ν n m a b ∧ ((x = ν a ∧ y = ν b) ∨ (x = ν b ∧ y = ν a))) := by
        intro s3 e hr
        subst e
        refine hB2.sub (fun x y hd => Or.inl ?_)
        rcases hd with hd | hd | ⟨a, b, hab, hk, hx⟩
        · exact Or.inl hd
        · exact Or.inr (Or.inl hd)
        · refine Or.inr (Or.inr ⟨a, b, ?_, hk, hx⟩)
          rcases hab with hab | ⟨e1, hab⟩
          · exact Or.inl hab
          · refine Or.inr ⟨e1, ?_⟩
            rcases Int.lt_or_eq_of_le (Int.le_of_lt_add_one hab) with q | q
            · exact q
            · subst e1; subst q; exact absurd hk hr
      refine ok_eq (b31_13 X (d + 1) r r1 r2 i j s2) (ok_gd hs2.k (ok_iff (by rw [hs2.sz]; omega) (ok_gd hs2.k (ok_i (at_ok hs2 i j) ?_))))
      rw [wrap_id (z := j + 1) (by omega) (by omega)]
      refine ok_if (fun hc => ih2 s2 ⟨skip s2 rfl (fun q => q.2.2.2.1 hc), hK2⟩) (fun hc => ?_)
      have hv : 0 ≤ t i j ∧ t i j < n := (htv i j).resolve_left hc
      refine ok_gd ⟨hn2.1, hv.1, by rw [hn2.2.1]; omega⟩ ?_
      rw [hn2.2.2 _ hv.1 (by omega)]
      refine ok_if (fun hc2 => ih2 s2 ⟨skip s2 rfl (fun q => q.2.2.2.2.1 hc2), hK2⟩) (fun hc2 => ok_gd ⟨hn2.1, by omega, by rw [hn2.2.1]; omega⟩ (ok_gd ⟨hn2.1, by omega, by rw [hn2.2.1]; omega⟩ (ok_gd ⟨hn2.1, hv.1, by rw [hn2.2.1]; omega⟩ (ok_gd hkr ?_))))
      rw [hn2.2.2 i (by omega) (by omega), hn2.2.2 j (by omega) (by omega)]
      refine ok_V (bld_any (d := d) hB2 hT (Dn' := fun x y => x = 0 ∨ y = 0 ∨ ∃ a b, (a < i ∨ (a = i ∧ b < j + 1)) ∧ rnk t ν n m a b ∧ ((x = ν a ∧ y = ν b) ∨ (x = ν b ∧ y = ν a))) (fun hp => hput i j ⟨g1, g3, g4, hc, hc2, hp⟩) (fun x y hd => ?_)) (fun s3 ⟨q1, q2⟩ => ih2 s3 ⟨q1, hK2.tr q2⟩)
      rcases hd with hd | hd | ⟨a, b, hab, hk, hx⟩
      · exact Or.inl (Or.inl hd)
      · exact Or.inl (Or.inr (Or.inl hd))
      · rcases hab with hab | ⟨e1, hab⟩
        · exact Or.inl (Or.inr (Or.inr ⟨a, b, Or.inl hab, hk, hx⟩))
        · rcases Int.lt_or_eq_of_le (Int.le_of_lt_add_one hab) with q | q
          · exact Or.inl (Or.inr (Or.inr ⟨a, b, Or.inr ⟨e1, q⟩, hk, hx⟩))
          · subst e1; subst q
            exact Or.inr (Or.inr ⟨hk.2.2.2.2.2, hx⟩)
    · intro s2 ⟨hB2, hK2⟩
      have hs2 := h1.kp hK2 (by omega)
      refine ok_eq (b31_13 X (d + 1) r r1 r2 i n s2) (ok_gd hs2.k (ok_ift (by rw [hs2.sz]; omega) ?_))
      rw [wrap_id (z := i + 1) (by omega) (by omega)]
      refine ih s2 ⟨hB2.sub (fun x y hd => Or.inl ?_), hK2⟩
      rcases hd with hd | hd | ⟨a, b, hab, hk, hx⟩
      · exact Or.inl hd
      · exact Or.inr (Or.inl hd)
      · refine Or.inr (Or.inr ⟨a, b, ?_, hk, hx⟩)
        rcases Int.lt_or_eq_of_le (Int.le_of_lt_add_one hab) with q | q
        · exact Or.inl q
        · exact Or.inr ⟨q, hk.2.2.1⟩
    · rcases hd with hd | hd | ⟨a, b, hab, hk, hx⟩
      · exact Or.inl (Or.inl hd)
      · exact Or.inl (Or.inr (Or.inl hd))
      · rcases hab with hab | ⟨e1, hab⟩
        · exact Or.inl (Or.inr (Or.inr ⟨a, b, hab, hk, hx⟩))
        · exact absurd hk.2.1 (by omega)
  · intro s ⟨hB, hK⟩
    have hs1 := h1.kp hK (by omega)
    refine ok_eq (b31_2 X (d + 1) r r1 r2 n s) (ok_gd hs1.k (ok_ift (by rw [hs1.sz]; omega) (ok_ret ⟨rfl, hB.fin (fun x y => ?_), hK⟩)))
    by_cases hT2 : T x y = 12
    · exact Or.inr hT2
    · left
      rcases hcov x y hT2 with q | q | ⟨a, b, hk, hx⟩
      · exact Or.inl q
      · exact Or.inr (Or.inl q)
      · have := hk.2.1
        have := hk.2.2.1
        exact Or.inr (Or.inr ⟨a, b, by omega, hk, hx⟩)
  · rcases hd with hd | hd | ⟨a, b, hab, hk, hx⟩
    · exact Or.inl (Or.inl hd)
    · exact Or.inl (Or.inr hd)
    · exact absurd hk.1 (by omega)
end AR
