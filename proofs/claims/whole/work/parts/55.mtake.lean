/-! the reference's sets, and take -/
section MK
variable {X : Nat × (Nat → Int)} {d : Nat} {w w' : MW} {n : Int} {t T : Int → Int → Int} {Dn Dn' : Int → Int → Prop} {A : AS}
theorem sot_m (X : Nat × (Nat → Int)) (d : Nat) {a all : Int} (w : MW) (ha : 0 ≤ a ∧ a < 100) : run X d 115 [.inl a, .inl all] w = some (some (.inl (sot all a)), w) := by
  apply ok_one
  refine ok_eq (b115_0 X d a all w) (ok_if (fun q => ok_if (fun q2 => ok_ret ⟨?_, rfl⟩) (fun q2 => ok_ret ⟨?_, rfl⟩)) (fun q => ok_ret ⟨?_, rfl⟩))
  · unfold sot
    rw [if_neg q, if_neg q2, wrap_id (by omega) (by omega)]
  · unfold sot
    rw [if_neg q, if_pos (Decidable.not_not.mp q2)]
  · unfold sot
    rw [if_pos (Decidable.not_not.mp q)]
theorem tos_m (X : Nat × (Nat → Int)) (d : Nat) {a all : Int} (w : MW) (ha : 0 ≤ a ∧ a < 100) : run X d 116 [.inl a, .inl all] w = some (some (.inl (tos all a)), w) := by
  apply ok_one
  refine ok_eq (b116_0 X d a all w) (ok_if (fun q => ok_if (fun q2 => ok_ret ⟨?_, rfl⟩) (fun q2 => ok_ret ⟨?_, rfl⟩)) (fun q => ok_ret ⟨?_, rfl⟩))
  · unfold tos
    rw [if_neg q, if_neg q2, wrap_id (by omega) (by omega)]
  · unfold tos
    rw [if_neg q, if_pos (Decidable.not_not.mp q2)]
  · unfold tos
    rw [if_pos (Decidable.not_not.mp q)]
theorem unite_m (hS : Sh w) {all : Int} (hal : okAl all) (h : TbM w (all + 1) (tnew (all + 1))) : OkV (run X (d + 1) 117 [.inr 38, .inl all] w) (fun w' => TbM w' (all + 1) (tsets all) ∧ Kp 39 39 w w') := by
  have hal7 : 1 ≤ all ∧ all ≤ 7 := by rcases hal with e | e | e <;> omega
  have hB0 : BldM w (all + 1) (tsets all) (fun x y => x < 1 ∨ y < 1) := by
    refine ⟨_, h, fun x y => ?_, fun x y hxy => ?_⟩
    · by_cases hx : x < 1 ∨ y < 1
      · left
        by_cases e : x = 0
        · rw [e, tsets_0 hal]
          unfold tnew twid
          (repeat' split) <;> first | rfl | omega
        · by_cases e2 : y = 0
          · rw [e2, tsets_sym, tsets_0 hal]
            unfold tnew twid
            (repeat' split) <;> first | rfl | omega
          · unfold tsets tnew twid
            rw [if_neg (by omega), if_neg (by omega), if_neg (by omega)]
      · right
        unfold tnew twid
        rw [if_neg (by omega), if_neg (by omega)]
    · by_cases e : x = 0
      · rw [e, tsets_0 hal]
        unfold tnew twid
        (repeat' split) <;> first | rfl | omega
      · by_cases e2 : y = 0
        · rw [e2, tsets_sym, tsets_0 hal]
          unfold tnew twid
          (repeat' split) <;> first | rfl | omega
        · unfold tsets tnew twid
          rw [if_neg (by omega), if_neg (by omega), if_neg (by omega)]
  refine ok_eq (b117_0 X d 38 all w) ?_
  refine ok_up (fun i s => R X (d + 1) 117 2 [some (.inr 38), some (.inl all), some (.inl i), none] [] s) (fun i s => BldM s (all + 1) (tsets all) (fun x y => (x < 1 ∨ y < 1) ∨ x < i) ∧ Kp 39 39 w s) 1 (all + 1) (by omega) ?_ ?_ w ⟨hB0.sub (fun x y hd => Or.inl (by omega)), Kp.rf⟩
  · intro i s h1 h2 ⟨hB, hK⟩ ih
    have Ss := hS.kp hK
    have hn : gi s 38 0 = all + 1 := by rw [hK.gi (by omega)]; exact h.1
    refine ok_eq (b117_2 X d 38 all i s) (ok_gd (Ss.1 38) (ok_iff (by omega) ?_))
    refine ok_up (fun j s => R X (d + 1) 117 12 [some (.inr 38), some (.inl all), some (.inl i), some (.inl j)] [] s) (fun j s => BldM s (all + 1) (tsets all) (fun x y => (x < 1 ∨ y < 1) ∨ x < i ∨ (x = i ∧ y < j)) ∧ Kp 39 39 w s) 1 (all + 1) (by omega) ?_ ?_ s ⟨hB.sub (fun x y hd => Or.inl (by omega)), hK⟩
    · intro j s2 g1 g2 ⟨hB2, hK2⟩ ih2
      have S2 := hS.kp hK2
      have hn2 : gi s2 38 0 = all + 1 := by rw [hK2.gi (by omega)]; exact h.1
      have ri := sot_rng hal (x := i) (by omega) (by omega)
      have rj := sot_rng hal (x := j) (by omega) (by omega)
      have si0 : 0 < sot all i := by
        unfold sot
        rw [if_neg (by omega)]
        split <;> omega
      have ro := (or_rng hal ri rj).2.1 si0
      have eT : tsets all i j = if andI (sot all i) (sot all j) = 0 then tos all (orI (sot all i) (sot all j)) else 12 := if_pos (by omega)
      refine ok_eq (b117_12 X d 38 all i j s2) (ok_gd (S2.1 38) (ok_iff (by omega) (ok_i (sot_m X d s2 (by omega)) (ok_i (sot_m X d s2 (by omega)) ?_))))
      rw [wrap_id (z := j + 1) (by omega) (by omega)]
      refine ok_if (fun hc => ih2 s2 ⟨hB2.sub (fun x y hd => ?_), hK2⟩) (fun hc => ok_i (sot_m X d s2 (by omega)) (ok_i (sot_m X d s2 (by omega)) (ok_i (tos_m X d s2 (by omega)) (ok_gd (S2.1 38) ?_))))
      · by_cases e : x = i ∧ y = j
        · right
          rw [e.1, e.2, eT, if_neg hc]
        · left; omega
      · have hc0 := Decidable.not_not.mp hc
        have rt := (sot_tos hal (x := orI (sot all i) (sot all j)) (by omega) (by omega)).2
        refine ok_V (bldm_put S2 hB2 (tsets_sym all) (by omega) (a := i) (b := j) (by omega) (by omega) ?_ (Dn' := fun x y => (x < 1 ∨ y < 1) ∨ x < i ∨ (x = i ∧ y < j + 1)) (fun x y hd => by omega)) (fun w3 ⟨q1, q2⟩ => ih2 w3 ⟨q1, hK2.tr q2⟩)
        rw [eT, if_pos hc0, mc_ne (by omega)]
    · intro s2 ⟨hB2, hK2⟩
      have S2 := hS.kp hK2
      have hn2 : gi s2 38 0 = all + 1 := by rw [hK2.gi (by omega)]; exact h.1
      refine ok_eq (b117_12 X d 38 all i _ s2) (ok_gd (S2.1 38) (ok_ift (by omega) ?_))
      rw [wrap_id (z := i + 1) (by omega) (by omega)]
      refine ih s2 ⟨hB2.sub (fun x y hd => ?_), hK2⟩
      by_cases hT : tsets all x y = 12
      · exact Or.inr hT
      · left
        unfold tsets at hT
        revert hT
        split <;> omega
  · intro s ⟨hB, hK⟩
    have Ss := hS.kp hK
    have hn : gi s 38 0 = all + 1 := by rw [hK.gi (by omega)]; exact h.1
    exact ok_eq (b117_2 X d 38 all _ s) (ok_gd (Ss.1 38) (ok_ift (by omega) (ok_ret ⟨rfl, hB.fin (fun x y x0 x1 y0 y1 => by omega), hK⟩)))
theorem take_m (hS : Sh w) (h : MoS w A) (a b : Int) : OkI (run X (d + 2) 118 [.inr 38, .inl a, .inl b] w) (MO w (takeF A a b)) := by
  have main : ∀ m : Int, (a = 0 ∨ a = 1) → m = (if a = 0 then 11 else 3) → Ok (R X (d + 2) 118 21 [some (.inr 38), some (.inl a), some (.inl b)] [.inl m, .inl 1, .inl b] w) (fun v w' => ∃ x, v = some (.inl x) ∧ MO w (takeF A a b) x w') := by
    intro m ha hm
    have e0 : takeF A a b = if b < 1 ∨ m < b then (-2, A) else if a = 0 then (b + 1, push A (b + 1, tchain (tnew 2) 2 b)) else (shlI 1 b, push A (shlI 1 b, tsets (shlI 1 b - 1))) := by
      unfold takeF
      rw [if_neg (fun q => q ha), hm]
    have hm2 : (a = 0 → m = 11) ∧ (a ≠ 0 → m = 3) := by
      rw [hm]
      exact ⟨fun q => if_pos q, fun q => if_neg q⟩
    refine ok_eq (b118_21 X (d + 1) 38 a b m 1 b w) (ok_i (in_ok X (d + 1) b 1 m w) (ok_if (fun h1 => ok_gd (hS.1 38) (ok_V (recS (d := d) hS h) (fun z ⟨hz, kz⟩ => ?_))) (fun h1 => ok_ret ⟨_, rfl, MO.same h (by rw [e0, if_pos (by have := bI_eq.mp (Decidable.not_not.mp h1); omega)])⟩)))
    have hb := bI_ne.mp h1
    have Sz := hS.kp kz
    rw [if_neg (by omega)] at e0
    refine ok_if (fun hc => ?_) (fun hc => ?_)
    · have hb3 := hm2.2 hc
      have hal : okAl (shlI 1 b - 1) := by
        have : b = 1 ∨ b = 2 ∨ b = 3 := by omega
        unfold okAl; rcases this with e | e | e <;> rw [e] <;> decide +kernel
      have h7 : 1 ≤ shlI 1 b - 1 ∧ shlI 1 b - 1 ≤ 7 := by rcases hal with e | e | e <;> omega
      refine ok_eq (b118_48 X (d + 1) 38 a b (shlI 1 b) 38 z) (ok_gd (Sz.1 38) (ok_V (emptyM_ok Sz (shlI 1 b)) (fun u ⟨u1, u2, u3⟩ => ok_ift hc ?_)))
      have Su := Sz.kp u2
      refine ok_gd (Su.1 38) (ok_gd (Su.1 38) ?_)
      rw [u1.1, wrap_id (by omega) (by omega)]
      refine ok_V (unite_m (d := d) Su hal (by rw [show shlI 1 b - 1 + 1 = shlI 1 b by omega]; exact u1)) (fun v ⟨v1, v2⟩ => ok_gd ((Su.kp v2).1 38) (ok_ret ⟨_, rfl, ?_⟩))
      rw [show shlI 1 b - 1 + 1 = shlI 1 b by omega] at v1
      obtain ⟨r1, r2⟩ := MoS.act (a := (shlI 1 b, tsets (shlI 1 b - 1))) hz kz ((u2.tr (v2.wide (by omega) (by omega))).wide (by omega) (by omega)) (fun j hj => by rw [v2.gi (by omega)]; exact u3 j hj) v1
      rw [v1.1, e0, if_neg hc]
      exact ⟨rfl, r1, r2⟩
    · have ha0 : a = 0 := Decidable.not_not.mp hc
      have hb3 := hm2.1 ha0
      rw [wrap_id (z := b + 1) (by omega) (by omega)]
      refine ok_eq (b118_48 X (d + 1) 38 a b (b + 1) 38 z) (ok_gd (Sz.1 38) (ok_V (emptyM_ok Sz (b + 1)) (fun u ⟨u1, u2, u3⟩ => ok_iff hc ?_)))
      have Su := Sz.kp u2
      have hB0 : BldM u (2 + b - 1) (tchain (tnew 2) 2 b) (fun x y => ¬ (2 ≤ x ∧ x < 2 + b - 1 ∧ 2 ≤ y ∧ y < 2 + b - 1)) := by
        rw [show b + 1 = 2 + b - 1 by omega] at u1
        refine ⟨_, u1, fun x y => ?_, fun x y hxy => ?_⟩
        · by_cases hx : 2 ≤ x ∧ x < 2 + b - 1 ∧ 2 ≤ y ∧ y < 2 + b - 1
          · right
            unfold tnew twid
            rw [if_neg (by omega), if_neg (by omega)]
          · left
            unfold tchain tnew twid
            rw [if_neg hx]
            (repeat' split) <;> first | rfl | omega
        · unfold tchain tnew twid
          rw [if_neg hxy]
          (repeat' split) <;> first | rfl | omega
      refine ok_gd (Su.1 38) (ok_V (chain_m (d := d) Su (by omega) (by omega) (by omega) (twf_new (k := 2) (by omega)).1 hB0) (fun v ⟨v1, v2⟩ => ok_gd ((Su.kp v2).1 38) (ok_ret ⟨_, rfl, ?_⟩)))
      rw [show 2 + b - 1 = b + 1 by omega] at v1
      obtain ⟨r1, r2⟩ := MoS.act (a := (b + 1, tchain (tnew 2) 2 b)) hz kz ((u2.tr (v2.wide (by omega) (by omega))).wide (by omega) (by omega)) (fun j hj => by rw [v2.gi (by omega)]; exact u3 j hj) v1
      rw [v1.1, e0, if_pos ha0]
      exact ⟨rfl, r1, r2⟩
  refine ok_eq (b118_0 X (d + 1) 38 a b w) (ok_i (in_ok X (d + 1) a 0 1 w) (ok_if (fun h1 => ok_ret ⟨_, rfl, MO.same h (if_pos (by have := bI_eq.mp h1; omega))⟩) (fun h1 => ?_)))
  have ha := bI_ne.mp h1
  exact ok_if (fun hc => main 3 (by omega) (if_neg hc).symm) (fun hc => main 11 (by omega) (if_pos (Decidable.not_not.mp hc)).symm)
end MK
