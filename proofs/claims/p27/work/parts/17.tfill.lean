/-! tables multiplied, and of sets; sums that name a thing -/
def twf (t : Int → Int → Int) (n : Int) : Prop := tsym t ∧ tval t n ∧ (∀ b, 0 ≤ b → b < n → t 0 b = b) ∧ ∀ a b, ¬ (0 ≤ a ∧ a < n ∧ 0 ≤ b ∧ b < n) → t a b = 12
def pfst (n x : Int) : Int := if x = 0 then 0 else if x = 1 then 1 else if x ≤ n then x - 1 else if x = n + 1 then 0 else x - n
def psnd (n x : Int) : Int := if x = 0 then 0 else if x = 1 then 1 else if x ≤ n then 0 else 1
def penc (n a s : Int) : Int := if s = 0 then (if a = 0 then 0 else a + 1) else if a = 1 then 1 else if a = 0 then n + 1 else n + a
def tpair (t : Int → Int → Int) (n : Int) : Int → Int → Int := fun x y =>
  if 0 ≤ x ∧ x < 2 * n ∧ 0 ≤ y ∧ y < 2 * n then (if psnd n x + psnd n y = 2 then 12 else if t (pfst n x) (pfst n y) = 12 then 12 else penc n (t (pfst n x) (pfst n y)) (psnd n x + psnd n y)) else 12
theorem pf_rng {n x : Int} (hn : 2 ≤ n) (h0 : 0 ≤ x) (h1 : x < 2 * n) : 0 ≤ pfst n x ∧ pfst n x < n := by
  unfold pfst
  (repeat' split) <;> omega
theorem ps_rng {n x : Int} : psnd n x = 0 ∨ psnd n x = 1 := by
  unfold psnd
  (repeat' split) <;> omega
theorem pe_rt {n x : Int} (hn : 2 ≤ n) (h0 : 0 ≤ x) (h1 : x < 2 * n) : penc n (pfst n x) (psnd n x) = x := by
  unfold penc pfst psnd
  (repeat' split) <;> omega
theorem pe_rng {n a s : Int} (hn : 2 ≤ n) (h0 : 0 ≤ a) (h1 : a < n) : 0 ≤ penc n a s ∧ penc n a s < 2 * n := by
  unfold penc
  (repeat' split) <;> omega
theorem pf_pe {n a s : Int} (hn : 2 ≤ n) (h0 : 0 ≤ a) (h1 : a < n) : pfst n (penc n a s) = a := by
  unfold pfst penc
  (repeat' split) <;> omega
theorem ps_pe {n a s : Int} (hn : 2 ≤ n) (h0 : 0 ≤ a) (h1 : a < n) (hs : s = 0 ∨ s = 1) : psnd n (penc n a s) = s := by
  unfold psnd penc
  (repeat' split) <;> omega
theorem tpair_sym {t : Int → Int → Int} {n : Int} (h : tsym t) : tsym (tpair t n) := by
  intro x y
  unfold tpair
  rw [h (pfst n y) (pfst n x), Int.add_comm (psnd n y) (psnd n x)]
  by_cases h1 : 0 ≤ x ∧ x < 2 * n ∧ 0 ≤ y ∧ y < 2 * n
  · rw [if_pos h1, if_pos (show 0 ≤ y ∧ y < 2 * n ∧ 0 ≤ x ∧ x < 2 * n by omega)]
  · rw [if_neg h1, if_neg (show ¬ (0 ≤ y ∧ y < 2 * n ∧ 0 ≤ x ∧ x < 2 * n) by omega)]
theorem bld_new {w : MW} {r : Nat} {k : Int} {T : Int → Int → Int} (h : Tb w r k (tnew k)) (hs : tsym T) (h0 : ∀ y, T 0 y = if 0 ≤ y ∧ y < k then y else 12) : Bld w r k T (fun x y => x = 0 ∨ y = 0) := by
  have e : ∀ x y, x = 0 ∨ y = 0 → tnew k x y = T x y := by
    intro x y hxy
    unfold tnew twid
    rcases hxy with rfl | rfl
    · rw [h0]
      (repeat' split) <;> first | rfl | omega
    · rw [hs, h0]
      (repeat' split) <;> first | rfl | omega
  refine ⟨_, h, fun x y => ?_, e⟩
  by_cases hxy : x = 0 ∨ y = 0
  · exact Or.inl (e x y hxy)
  · right
    unfold tnew twid
    rw [if_neg (by omega), if_neg (by omega)]
section FP
variable {X : Nat × (Nat → Int)} {d : Nat} {w w' : MW} {r r1 : Nat} {n : Int} {t : Int → Int → Int}
theorem p0_ok (X : Nat × (Nat → Int)) (d : Nat) {n a : Int} (w : MW) (h0 : 0 ≤ a) (h1 : a < 12) : run X d 36 [.inl a] w = some (some (.inl (penc n a 0)), w) := by
  apply ok_one
  unfold penc
  rw [if_pos rfl]
  refine ok_eq (b36_0 X d a w) (ok_if (fun h => ok_ret ⟨?_, rfl⟩) (fun h => ok_ret ⟨?_, rfl⟩))
  · rw [if_neg h, wrap_id (by omega) (by omega)]
  · rw [if_pos (by omega)]
theorem p1_ok (X : Nat × (Nat → Int)) (d : Nat) {n a : Int} (w : MW) (h0 : 0 ≤ a) (h1 : a < 12) (hn : 0 ≤ n ∧ n ≤ 12) : run X d 37 [.inl a, .inl n] w = some (some (.inl (penc n a 1)), w) := by
  apply ok_one
  unfold penc
  rw [if_neg (by omega)]
  refine ok_eq (b37_0 X d a n w) (ok_if (fun h => ok_if (fun h2 => ok_ret ⟨?_, rfl⟩) (fun h2 => ok_ret ⟨?_, rfl⟩)) (fun h => ok_ret ⟨?_, rfl⟩))
  · rw [if_neg h, if_neg h2, wrap_id (by omega) (by omega)]
  · rw [if_neg h, if_pos (by omega), wrap_id (by omega) (by omega)]
  · rw [if_pos (by omega)]
theorem tpair_0 (h : twf t n) (hn : 2 ≤ n) (hn6 : n ≤ 6) (y : Int) : tpair t n 0 y = if 0 ≤ y ∧ y < 2 * n then y else 12 := by
  unfold tpair
  by_cases hy : 0 ≤ y ∧ y < 2 * n
  · have hf := pf_rng hn hy.1 hy.2
    have e0 : pfst n 0 = 0 := by unfold pfst; rw [if_pos rfl]
    have e1 : psnd n 0 = 0 := by unfold psnd; rw [if_pos rfl]
    rw [if_pos (by omega), if_pos hy, e0, e1, h.2.2.1 _ hf.1 hf.2, if_neg (by have := @ps_rng n y; omega), Int.zero_add, pe_rt hn hy.1 hy.2]
    rw [if_neg (by omega)]
  · rw [if_neg (by omega), if_neg hy]
def tpd (n i j : Int) (x y : Int) : Prop := 0 ≤ x ∧ x < 2 * n ∧ 0 ≤ y ∧ y < 2 * n ∧ psnd n x = 0 ∧ (pfst n x < i ∨ (pfst n x = i ∧ pfst n y < j))
theorem pairs_ok (hr : Ts w r) (h : Tb w r1 n t) (hw : twf t n) (hn : 2 ≤ n) (hn6 : n ≤ 6) (hap : r1 + 1 < r ∨ r + 1 < r1) : OkV (run X (d + 4) 35 [.inr r, .inr r1] w) (fun w' => Tb w' r (2 * n) (tpair t n) ∧ Kp r (r + 1) w w') := by
  have hT := tpair_sym (n := n) hw.1
  refine ok_eq (b35_0 X (d + 3) r r1 w) (ok_gd h.k (ok_gd hr.1 ?_))
  rw [h.sz, wrap_id (z := 2 * n) (by omega) (by omega)]
  refine ok_V (empty_ok (d := d) hr (k := 2 * n) (by omega) (by omega)) (fun w1 ⟨hw1, hk1⟩ => ?_)
  have hB0 := bld_new hw1 hT (tpair_0 hw hn hn6)
  refine ok_up (fun i s => R X (d + 4) 35 14 [some (.inr r), some (.inr r1), some (.inl n), some (.inl i), none, none] [] s) (fun i s => Bld s r (2 * n) (tpair t n) (fun x y => (x = 0 ∨ y = 0) ∨ tpd n i 0 x y ∨ tpd n i 0 y x) ∧ Kp r (r + 1) w s) 0 n (by omega) ?_ ?_ w1 ⟨hB0.sub (fun x y hd => ?_), hk1⟩
  · intro i s g1 g2 ⟨hB, hK⟩ ih
    refine ok_eq (b35_14 X (d + 3) r r1 n i s) (ok_iff (by omega) ?_)
    refine ok_up (fun j s => R X (d + 4) 35 22 [some (.inr r), some (.inr r1), some (.inl n), some (.inl i), some (.inl j), none] [] s) (fun j s => Bld s r (2 * n) (tpair t n) (fun x y => (x = 0 ∨ y = 0) ∨ tpd n i j x y ∨ tpd n i j y x) ∧ Kp r (r + 1) w s) 0 n (by omega) ?_ ?_ s ⟨hB, hK⟩
    · intro j s2 g3 g4 ⟨hB2, hK2⟩ ih2
      have hs2 := h.kp hK2 (by omega)
      have stepD : ∀ x y, tpd n i (j + 1) x y → tpd n i j x y ∨ (x = penc n i 0 ∧ (y = penc n j 0 ∨ y = penc n j 1)) := by
        intro x y ⟨q1, q2, q3, q4, q5, q6⟩
        by_cases hq : pfst n x = i ∧ pfst n y = j
        · right
          have e1 := pe_rt hn q1 q2
          have e2 := pe_rt hn q3 q4
          rw [hq.1, q5] at e1
          rw [hq.2] at e2
          refine ⟨e1.symm, ?_⟩
          rcases @ps_rng n y with q | q <;> rw [q] at e2
          · exact Or.inl e2.symm
          · exact Or.inr e2.symm
        · left
          exact ⟨q1, q2, q3, q4, q5, by omega⟩
      have hT12 : ∀ s, t i j = 12 → tpair t n (penc n i 0) (penc n j s) = 12 := by
        intro s e
        unfold tpair
        rw [pf_pe hn g1 g2, pf_pe hn g3 g4, e]
        simp
      refine ok_eq (b35_22 X (d + 3) r r1 n i j s2) (ok_iff (by omega) (ok_gd hs2.k (ok_i (at_ok (d := d + 2) hs2 i j) ?_)))
      rw [wrap_id (z := j + 1) (by omega) (by omega)]
      refine ok_if (fun hc => ih2 s2 ⟨hB2.sub (fun x y hd => ?_), hK2⟩) (fun hc => ?_)
      · rcases hd with hd | hd | hd
        · exact Or.inl (Or.inl hd)
        · rcases stepD x y hd with q | ⟨q1, q2⟩
          · exact Or.inl (Or.inr (Or.inl q))
          · right
            rcases q2 with q2 | q2 <;> rw [q1, q2] <;> exact hT12 _ hc
        · rcases stepD y x hd with q | ⟨q1, q2⟩
          · exact Or.inl (Or.inr (Or.inr q))
          · right
            rw [hT]
            rcases q2 with q2 | q2 <;> rw [q1, q2] <;> exact hT12 _ hc
      · have hv := (hw.2.1 i j).resolve_left hc
        have hTs : ∀ s, s = 0 ∨ s = 1 → penc n (t i j) s = tpair t n (penc n i 0) (penc n j s) := by
          intro s hs
          unfold tpair
          have a1 := @pe_rng n i 0 hn g1 g2
          have a2 := @pe_rng n j s hn g3 g4
          rw [pf_pe hn g1 g2, pf_pe hn g3 g4, ps_pe hn g1 g2 (Or.inl rfl), ps_pe hn g3 g4 hs, if_pos (by omega), if_neg (by omega), if_neg hc, Int.zero_add]
        have a0 := @pe_rng n i 0 hn g1 g2
        have kdB : ∀ {s : MW} {Dn}, Bld s r (2 * n) (tpair t n) Dn → kd s r = 13 := fun {s Dn} ⟨t2, q, _⟩ => q.k
        refine ok_i (p0_ok X _ (n := n) s2 g1 (by omega)) (ok_i (p0_ok X _ (n := n) s2 g3 (by omega)) (ok_i (p0_ok X _ (n := n) s2 hv.1 (by omega)) (ok_gd (kdB hB2) ?_)))
        refine ok_V (bld_put (d := d + 2) hB2 hT ⟨a0, @pe_rng n j 0 hn g3 g4, Or.inl (@pe_rng n _ 0 hn hv.1 hv.2)⟩ (hTs 0 (Or.inl rfl)) (Dn' := fun x y => ((x = 0 ∨ y = 0) ∨ tpd n i j x y ∨ tpd n i j y x) ∨ (x = penc n i 0 ∧ y = penc n j 0) ∨ (x = penc n j 0 ∧ y = penc n i 0)) (fun x y hd => hd.elim Or.inl (fun q => Or.inr (Or.inr q)))) (fun s3 ⟨hB3, hk3⟩ => ?_)
        refine ok_i (p0_ok X _ (n := n) s3 g1 (by omega)) (ok_i (p1_ok X _ (n := n) s3 g3 (by omega) ⟨by omega, by omega⟩) (ok_i (p1_ok X _ (n := n) s3 hv.1 (by omega) ⟨by omega, by omega⟩) (ok_gd (kdB hB3) ?_)))
        refine ok_V (bld_put (d := d + 2) hB3 hT ⟨a0, @pe_rng n j 1 hn g3 g4, Or.inl (@pe_rng n _ 1 hn hv.1 hv.2)⟩ (hTs 1 (Or.inr rfl)) (Dn' := fun x y => (x = 0 ∨ y = 0) ∨ tpd n i (j + 1) x y ∨ tpd n i (j + 1) y x) (fun x y hd => ?_)) (fun s4 ⟨hB4, hk4⟩ => ih2 s4 ⟨hB4, hK2.tr ((hk3.tr hk4).wide (Nat.le_succ _) (Nat.le_refl _))⟩)
        rcases hd with hd | hd | hd
        · exact Or.inl (Or.inl (Or.inl hd))
        · rcases stepD x y hd with q | ⟨q1, q2⟩
          · exact Or.inl (Or.inl (Or.inr (Or.inl q)))
          · rcases q2 with q2 | q2
            · exact Or.inl (Or.inr (Or.inl ⟨q1, q2⟩))
            · exact Or.inr (Or.inr (Or.inl ⟨q1, q2⟩))
        · rcases stepD y x hd with q | ⟨q1, q2⟩
          · exact Or.inl (Or.inl (Or.inr (Or.inr q)))
          · rcases q2 with q2 | q2
            · exact Or.inl (Or.inr (Or.inr ⟨q2, q1⟩))
            · exact Or.inr (Or.inr (Or.inr ⟨q2, q1⟩))
    · intro s2 ⟨hB2, hK2⟩
      refine ok_eq (b35_22 X (d + 3) r r1 n i n s2) (ok_ift (Int.le_refl _) ?_)
      rw [wrap_id (z := i + 1) (by omega) (by omega)]
      refine ih s2 ⟨hB2.sub (fun x y hd => Or.inl ?_), hK2⟩
      have st : ∀ x y, tpd n (i + 1) 0 x y → tpd n i n x y := by
        intro x y ⟨q1, q2, q3, q4, q5, q6⟩
        have := pf_rng hn q1 q2
        have := pf_rng hn q3 q4
        exact ⟨q1, q2, q3, q4, q5, by omega⟩
      rcases hd with hd | hd | hd
      · exact Or.inl hd
      · exact Or.inr (Or.inl (st x y hd))
      · exact Or.inr (Or.inr (st y x hd))
  · intro s ⟨hB, hK⟩
    refine ok_eq (b35_14 X (d + 3) r r1 n n s) (ok_ift (Int.le_refl _) (ok_ret ⟨rfl, hB.fin (fun x y => ?_), hK⟩))
    by_cases hx : 0 ≤ x ∧ x < 2 * n ∧ 0 ≤ y ∧ y < 2 * n
    · have b1 := pf_rng hn hx.1 hx.2.1
      have b2 := pf_rng hn hx.2.2.1 hx.2.2.2
      rcases @ps_rng n x with q | q
      · exact Or.inl (Or.inr (Or.inl ⟨hx.1, hx.2.1, hx.2.2.1, hx.2.2.2, q, Or.inl b1.2⟩))
      · rcases @ps_rng n y with q2 | q2
        · exact Or.inl (Or.inr (Or.inr ⟨hx.2.2.1, hx.2.2.2, hx.1, hx.2.1, q2, Or.inl b2.2⟩))
        · right
          unfold tpair
          rw [if_pos hx, if_pos (by omega)]
    · right
      unfold tpair
      rw [if_neg hx]
  · rcases hd with hd | ⟨q1, q2, q3, q4, q5, q6⟩ | ⟨q1, q2, q3, q4, q5, q6⟩
    · exact Or.inl hd
    · have := pf_rng hn q1 q2
      have := pf_rng hn q3 q4
      omega
    · have := pf_rng hn q1 q2
      have := pf_rng hn q3 q4
      omega
end FP
