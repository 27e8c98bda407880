/-! tables built sum by sum, towards a target T -/
def Bld (w : MW) (r : Nat) (n : Int) (T : Int → Int → Int) (Dn : Int → Int → Prop) : Prop := ∃ t, Tb w r n t ∧ (∀ x y, t x y = T x y ∨ t x y = 12) ∧ ∀ x y, Dn x y → t x y = T x y
section BL
variable {X : Nat × (Nat → Int)} {d : Nat} {w w' : MW} {r : Nat} {n : Int} {T : Int → Int → Int} {Dn Dn' : Int → Int → Prop}
theorem Bld.sub (h : Bld w r n T Dn) (hs : ∀ x y, Dn' x y → Dn x y ∨ T x y = 12) : Bld w r n T Dn' := by
  obtain ⟨t, h1, h2, h3⟩ := h
  refine ⟨t, h1, h2, fun x y hd => ?_⟩
  rcases hs x y hd with h | h
  · exact h3 x y h
  · rcases h2 x y with g | g
    · exact g
    · rw [g, h]
theorem Bld.fin (h : Bld w r n T Dn) (hs : ∀ x y, Dn x y ∨ T x y = 12) : Tb w r n T := by
  obtain ⟨t, h1, h2, h3⟩ := h.sub (Dn' := fun _ _ => True) (fun x y _ => hs x y)
  have : t = T := by
    funext x y
    exact h3 x y trivial
  rw [← this]
  exact h1
theorem Bld.kp {lo hi : Nat} (h : Bld w r n T Dn) (k : Kp lo hi w w') (hr : r + 1 < lo ∨ hi < r) : Bld w' r n T Dn := by
  obtain ⟨t, h1, h2⟩ := h
  exact ⟨t, h1.kp k hr, h2⟩
theorem put_none {t : Int → Int → Int} (h : Tb w r n t) {a b c : Int} (hv : ¬ putv n a b c) : OkV (run X (d + 1) 27 [.inr r, .inl a, .inl b, .inl c] w) (fun w' => w' = w) := by
  refine ok_eq (b27_0 X d r a b c w) (ok_gd h.k (ok_i (has_ok h a) (ok_if (fun _ => ok_ret ⟨rfl, rfl⟩) (fun g1 => ok_gd h.k (ok_i (has_ok h b) (ok_if (fun _ => ok_ret ⟨rfl, rfl⟩) (fun g2 => ok_gd h.k (ok_i (has_ok h c) (ok_if (fun g3 => ?_) (fun g3 => ok_if (fun _ => ok_ret ⟨rfl, rfl⟩) (fun g4 => ?_)))))))))))
  · exact absurd ⟨bI_ne.mp g1, bI_ne.mp g2, Or.inl (bI_ne.mp g3)⟩ hv
  · exact absurd ⟨bI_ne.mp g1, bI_ne.mp g2, Or.inr (by omega)⟩ hv
theorem bld_put (h : Bld w r n T Dn) (hT : ∀ x y, T x y = T y x) {a b c : Int} (hv : putv n a b c) (hc : c = T a b) (hs : ∀ x y, Dn' x y → Dn x y ∨ T x y = 12 ∨ (x = a ∧ y = b) ∨ (x = b ∧ y = a)) : OkV (run X (d + 1) 27 [.inr r, .inl a, .inl b, .inl c] w) (fun w' => Bld w' r n T Dn' ∧ Kp (r + 1) (r + 1) w w') := by
  obtain ⟨t, h1, h2, h3⟩ := h
  refine ok_imp (put_ok h1 hv) (fun v w' ⟨e, hw, hk⟩ => ⟨e, ⟨_, hw, fun x y => ?_, fun x y hd => ?_⟩, hk⟩)
  · unfold tput
    split
    · rename_i hxy
      left
      rcases hxy with ⟨e1, e2⟩ | ⟨e1, e2⟩
      · rw [e1, e2, hc]
      · rw [e1, e2, hc, hT]
    · exact h2 x y
  · unfold tput
    split
    · rename_i hxy
      rcases hxy with ⟨e1, e2⟩ | ⟨e1, e2⟩
      · rw [e1, e2, hc]
      · rw [e1, e2, hc, hT]
    · rename_i hxy
      rcases hs x y hd with g | g | g
      · exact h3 x y g
      · rcases h2 x y with q | q
        · exact q
        · rw [q, g]
      · exact absurd g hxy
theorem bld_any (h : Bld w r n T Dn) (hT : ∀ x y, T x y = T y x) {a b c : Int} (hc : putv n a b c → c = T a b) (hs : ∀ x y, Dn' x y → Dn x y ∨ T x y = 12 ∨ (putv n a b c ∧ ((x = a ∧ y = b) ∨ (x = b ∧ y = a)))) : OkV (run X (d + 1) 27 [.inr r, .inl a, .inl b, .inl c] w) (fun w' => Bld w' r n T Dn' ∧ Kp (r + 1) (r + 1) w w') := by
  by_cases hv : putv n a b c
  · exact bld_put h hT hv (hc hv) (fun x y hd => by
      rcases hs x y hd with g | g | g
      · exact Or.inl g
      · exact Or.inr (Or.inl g)
      · exact Or.inr (Or.inr g.2))
  · obtain ⟨t, h1, h2⟩ := id h
    refine ok_imp (put_none h1 hv) (fun v w' ⟨e, hw⟩ => ⟨e, ?_, ?_⟩)
    · rw [hw]
      exact h.sub (fun x y hd => by
        rcases hs x y hd with g | g | g
        · exact Or.inl g
        · exact Or.inr g
        · exact absurd g.1 hv)
    · rw [hw]
      exact Kp.rf
end BL
/-- behind n things, a chain of the size m -/
def tchain (t : Int → Int → Int) (n m : Int) : Int → Int → Int := fun x y =>
  if n ≤ x ∧ x < n + m - 1 ∧ n ≤ y ∧ y < n + m - 1 then (if x - n + 1 + (y - n + 1) = m then 1 else if x - n + 1 + (y - n + 1) < m then x + (y - n + 1) else 12)
  else if x = 0 ∧ n ≤ y ∧ y < n + m - 1 then y else if y = 0 ∧ n ≤ x ∧ x < n + m - 1 then x else t x y
def tsym (t : Int → Int → Int) : Prop := ∀ x y, t x y = t y x
section CH
variable {X : Nat × (Nat → Int)} {d : Nat} {w w' : MW} {r : Nat} {n : Int} {t : Int → Int → Int}
theorem tchain_sym {m : Int} (h : tsym t) : tsym (tchain t n m) := by
  intro x y
  unfold tchain
  rw [h y x]
  (repeat' split) <;> first | rfl | omega
theorem chain_ok (h : Tb w r n t) (hs : tsym t) (hn : 2 ≤ n) {m : Int} (hm : 1 ≤ m) (hnm : n + m - 1 ≤ 12) : OkV (run X (d + 3) 32 [.inr r, .inl m] w) (fun w' => Tb w' r (n + m - 1) (tchain t n m) ∧ Kp r (r + 1) w w') := by
  refine ok_eq (b32_0 X (d + 2) r m w) (ok_gd h.k (ok_gd h.k ?_))
  rw [h.sz, wrap_id (z := m - 1) (by omega) (by omega), wrap_id (z := n - 1) (by omega) (by omega)]
  refine ok_V (widen_ok (d := d) h (k := m - 1) (by omega) (by omega)) (fun w1 ⟨hw1, hk1⟩ => ?_)
  rw [show n + (m - 1) = n + m - 1 by omega] at hw1
  have hB0 : Bld w1 r (n + m - 1) (tchain t n m) (fun x y => ¬ (n ≤ x ∧ x < n + m - 1 ∧ n ≤ y ∧ y < n + m - 1)) := by
    refine ⟨_, hw1, fun x y => ?_, fun x y hxy => ?_⟩
    · by_cases hx : n ≤ x ∧ x < n + m - 1 ∧ n ≤ y ∧ y < n + m - 1
      · right
        unfold twid
        rw [if_neg (by omega), if_neg (by omega)]
        exact h.out (by omega)
      · left
        unfold twid tchain
        rw [if_neg hx]
        (repeat' split) <;> first | rfl | omega
    · unfold twid tchain
      rw [if_neg hxy]
      (repeat' split) <;> first | rfl | omega
  have hTs := tchain_sym (n := n) (m := m) hs
  refine ok_up (fun i s => R X (d + 3) 32 16 [some (.inr r), some (.inl m), some (.inl (n - 1)), some (.inl i), none, none] [] s) (fun i s => Bld s r (n + m - 1) (tchain t n m) (fun x y => ¬ (n ≤ x ∧ x < n + m - 1 ∧ n ≤ y ∧ y < n + m - 1) ∨ x < n - 1 + i ∨ y < n - 1 + i) ∧ Kp r (r + 1) w s) 1 m hm ?_ ?_ w1 ⟨hB0.sub (fun x y hd => Or.inl (by omega)), hk1⟩
  · intro i s h1 h2 ⟨hB, hK⟩ ih
    refine ok_eq (b32_16 X (d + 2) r m (n - 1) i s) (ok_iff (by omega) ?_)
    refine ok_up (fun j s => R X (d + 3) 32 24 [some (.inr r), some (.inl m), some (.inl (n - 1)), some (.inl i), some (.inl j), none] [] s) (fun j s => Bld s r (n + m - 1) (tchain t n m) (fun x y => ¬ (n ≤ x ∧ x < n + m - 1 ∧ n ≤ y ∧ y < n + m - 1) ∨ x < n - 1 + i ∨ y < n - 1 + i ∨ (x = n - 1 + i ∧ y < n - 1 + j) ∨ (y = n - 1 + i ∧ x < n - 1 + j)) ∧ Kp r (r + 1) w s) i (if i ≤ m - i + 1 then m - i + 1 else i) (by split <;> omega) ?_ ?_ s ⟨hB.sub (fun x y hd => Or.inl (by omega)), hK⟩
    · intro j s2 g1 g2 ⟨hB2, hK2⟩ ih2
      have hj : i + j ≤ m := by
        revert g2
        split <;> omega
      have key : ∀ c, c = tchain t n m (n - 1 + i) (n - 1 + j) → ((0 ≤ c ∧ c < n + m - 1) ∨ c = 12) → Ok (R X (d + 3) 32 50 [some (.inr r), some (.inl m), some (.inl (n - 1)), some (.inl i), some (.inl j), none] [.inl c] s2) (fun v w' => v = none ∧ Tb w' r (n + m - 1) (tchain t n m) ∧ Kp r (r + 1) w w') := by
        intro c hc hv
        have hk2 : kd s2 r = 13 := by obtain ⟨t2, q, -⟩ := hB2; exact q.k
        refine ok_eq (b32_50 X (d + 2) r m (n - 1) i j c s2) (ok_gd hk2 ?_)
        rw [wrap_id (z := n - 1 + i) (by omega) (by omega), wrap_id (z := n - 1 + j) (by omega) (by omega), wrap_id (z := j + 1) (by omega) (by omega)]
        refine ok_V (bld_put (d := d + 1) hB2 hTs ⟨by omega, by omega, hv⟩ hc (Dn' := fun x y => ¬ (n ≤ x ∧ x < n + m - 1 ∧ n ≤ y ∧ y < n + m - 1) ∨ x < n - 1 + i ∨ y < n - 1 + i ∨ (x = n - 1 + i ∧ y < n - 1 + (j + 1)) ∨ (y = n - 1 + i ∧ x < n - 1 + (j + 1))) (fun x y hd => by omega)) (fun w3 ⟨q1, q2⟩ => ih2 w3 ⟨q1, hK2.tr (q2.wide (Nat.le_succ _) (Nat.le_refl _))⟩)
      refine ok_eq (b32_24 X (d + 2) r m (n - 1) i j s2) ?_
      rw [wrap_id (z := i + j) (by omega) (by omega), wrap_id (z := n - 1 + i) (by omega) (by omega), wrap_id (z := n - 1 + i + j) (by omega) (by omega)]
      refine ok_iff (by omega) (ok_if (fun hc => key _ ?_ (by omega)) (fun hc => key _ ?_ (by omega)))
      · unfold tchain
        rw [if_pos (by omega), if_neg (by omega), if_pos (by omega)]
        omega
      · unfold tchain
        rw [if_pos (by omega), if_pos (by omega)]
    · intro s2 ⟨hB2, hK2⟩
      refine ok_eq (b32_24 X (d + 2) r m (n - 1) i _ s2) (ok_ift ?_ ?_)
      · rw [wrap_id (by split <;> omega) (by split <;> omega)]
        split <;> omega
      · rw [wrap_id (z := i + 1) (by omega) (by omega)]
        refine ih s2 ⟨hB2.sub (fun x y hd => ?_), hK2⟩
        by_cases hT : tchain t n m x y = 12
        · exact Or.inr hT
        · left
          unfold tchain at hT
          revert hT
          split <;> (repeat' split) <;> omega
  · intro s ⟨hB, hK⟩
    exact ok_eq (b32_16 X (d + 2) r m (n - 1) m s) (ok_ift (Int.le_refl _) (ok_ret ⟨rfl, hB.fin (fun x y => by omega), hK⟩))
end CH
