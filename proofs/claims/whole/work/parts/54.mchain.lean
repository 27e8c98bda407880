/-! the reference's tables built sum by sum, towards a target T -/
def BldM (w : MW) (n : Int) (T : Int → Int → Int) (Dn : Int → Int → Prop) : Prop := ∃ t, TbM w n t ∧ (∀ x y, t x y = T x y ∨ t x y = 12) ∧ ∀ x y, Dn x y → t x y = T x y
section MJ
variable {X : Nat × (Nat → Int)} {d : Nat} {w w' : MW} {n : Int} {t T : Int → Int → Int} {Dn Dn' : Int → Int → Prop} {A : AS}
theorem TbM.cg (h : TbM w n t) (e : ∀ x y, 1 ≤ x → x < n → 1 ≤ y → y < n → t x y = T x y) : TbM w n T := ⟨h.1, fun k k0 k1 => by
  rw [h.2 k k0 k1]
  unfold enc
  by_cases q : (1 ≤ k / 12 ∧ k / 12 < n) ∧ (1 ≤ k % 12 ∧ k % 12 < n)
  · rw [if_pos q, if_pos q, e _ _ q.1.1 q.1.2 q.2.1 q.2.2]
  · rw [if_neg q, if_neg q]⟩
theorem BldM.sub (h : BldM w n T Dn) (hs : ∀ x y, Dn' x y → Dn x y ∨ T x y = 12) : BldM w n T Dn' := by
  obtain ⟨t, h1, h2, h3⟩ := h
  refine ⟨t, h1, h2, fun x y hd => ?_⟩
  rcases hs x y hd with h | h
  · exact h3 x y h
  · rcases h2 x y with g | g
    · exact g
    · rw [g, h]
theorem BldM.fin (h : BldM w n T Dn) (hs : ∀ x y, 1 ≤ x → x < n → 1 ≤ y → y < n → Dn x y ∨ T x y = 12) : TbM w n T := by
  obtain ⟨t, h1, h2, h3⟩ := h
  refine h1.cg (fun x y x0 x1 y0 y1 => ?_)
  rcases hs x y x0 x1 y0 y1 with g | g
  · exact h3 x y g
  · rcases h2 x y with q | q
    · exact q
    · rw [q, g]
theorem bldm_put (hS : Sh w) (h : BldM w n T Dn) (hT : ∀ x y, T x y = T y x) (hn : n ≤ 12) {a b v : Int} (ha : 1 ≤ a ∧ a < n) (hb : 1 ≤ b ∧ b < n) (hv : v = mc (T a b)) (hs : ∀ x y, Dn' x y → Dn x y ∨ T x y = 12 ∨ (x = a ∧ y = b) ∨ (x = b ∧ y = a)) : OkV (run X d 105 [.inr 38, .inl a, .inl b, .inl v] w) (fun w' => BldM w' n T Dn' ∧ Kp 39 39 w w') := by
  obtain ⟨t, h1, h2, h3⟩ := h
  obtain ⟨t1, t2⟩ := tell_T h1 hn (a := a) (b := b) (c := T a b) (v := v) ha hb hv
  refine ⟨_, _, tell_ok hS (by omega) (by omega) v, rfl, ⟨_, t1, fun x y => ?_, fun x y hd => ?_⟩, t2⟩
  · unfold tput
    split
    · rename_i hxy
      left
      rcases hxy with ⟨e1, e2⟩ | ⟨e1, e2⟩
      · rw [e1, e2]
      · rw [e1, e2, hT]
    · exact h2 x y
  · unfold tput
    split
    · rename_i hxy
      rcases hxy with ⟨e1, e2⟩ | ⟨e1, e2⟩
      · rw [e1, e2]
      · rw [e1, e2, hT]
    · rename_i hxy
      rcases hs x y hd with g | g | g
      · exact h3 x y g
      · rcases h2 x y with q | q
        · exact q
        · rw [q, g]
      · exact absurd g hxy
theorem link_ok (X : Nat × (Nat → Int)) (d : Nat) {a m f : Int} (w : MW) (ha : 1 ≤ a ∧ a ≤ 30) (hf : 0 ≤ f ∧ f ≤ 12) : run X d 113 [.inl a, .inl m, .inl f] w = some (some (.inl (if a = m then 1 else f + a - 1)), w) := by
  apply ok_one
  refine ok_eq (b113_0 X d a m f w) (ok_ift (by omega) (ok_if (fun q => ok_ret ⟨?_, rfl⟩) (fun q => ok_ret ⟨?_, rfl⟩)))
  · rw [if_neg q, wrap_id (z := f + a) (by omega) (by omega), wrap_id (by omega) (by omega)]
  · rw [if_pos (Decidable.not_not.mp q)]
theorem chain_m (hS : Sh w) {m : Int} (hn : 2 ≤ n) (hm : 1 ≤ m) (hnm : n + m - 1 ≤ 12) (hs : tsym t) (h : BldM w (n + m - 1) (tchain t n m) (fun x y => ¬ (n ≤ x ∧ x < n + m - 1 ∧ n ≤ y ∧ y < n + m - 1))) : OkV (run X (d + 1) 114 [.inr 38, .inl m, .inl n] w) (fun w' => TbM w' (n + m - 1) (tchain t n m) ∧ Kp 39 39 w w') := by
  have hTs := tchain_sym (n := n) (m := m) hs
  refine ok_eq (b114_0 X d 38 m n w) ?_
  refine ok_up (fun i s => R X (d + 1) 114 2 [some (.inr 38), some (.inl m), some (.inl n), some (.inl i), none] [] s) (fun i s => BldM s (n + m - 1) (tchain t n m) (fun x y => ¬ (n ≤ x ∧ x < n + m - 1 ∧ n ≤ y ∧ y < n + m - 1) ∨ x < n - 1 + i) ∧ Kp 39 39 w s) 1 m hm ?_ ?_ w ⟨h.sub (fun x y hd => Or.inl (by omega)), Kp.rf⟩
  · intro i s h1 h2 ⟨hB, hK⟩ ih
    refine ok_eq (b114_2 X d 38 m n i s) (ok_iff (by omega) ?_)
    refine ok_up (fun j s => R X (d + 1) 114 10 [some (.inr 38), some (.inl m), some (.inl n), some (.inl i), some (.inl j)] [] s) (fun j s => BldM s (n + m - 1) (tchain t n m) (fun x y => ¬ (n ≤ x ∧ x < n + m - 1 ∧ n ≤ y ∧ y < n + m - 1) ∨ x < n - 1 + i ∨ (x = n - 1 + i ∧ y < n - 1 + j)) ∧ Kp 39 39 w s) 1 (m - i + 1) (by omega) ?_ ?_ s ⟨hB.sub (fun x y hd => Or.inl (by omega)), hK⟩
    · intro j s2 g1 g2 ⟨hB2, hK2⟩ ih2
      have S2 := hS.kp hK2
      refine ok_eq (b114_10 X d 38 m n i j s2) ?_
      rw [wrap_id (z := i + j) (by omega) (by omega), wrap_id (z := j + 1) (by omega) (by omega)]
      refine ok_iff (by omega) (ok_iff (by omega) (ok_i (link_ok X d s2 (by omega) (by omega)) (ok_i (link_ok X d s2 (by omega) (by omega)) (ok_i (link_ok X d s2 (by omega) (by omega)) (ok_gd (S2.1 38) ?_)))))
      rw [if_neg (show ¬ i = m by omega), if_neg (show ¬ j = m by omega)]
      refine ok_V (bldm_put S2 hB2 hTs hnm (by omega) (by omega) ?_ (Dn' := fun x y => ¬ (n ≤ x ∧ x < n + m - 1 ∧ n ≤ y ∧ y < n + m - 1) ∨ x < n - 1 + i ∨ (x = n - 1 + i ∧ y < n - 1 + (j + 1))) (fun x y hd => by omega)) (fun w3 ⟨q1, q2⟩ => ih2 w3 ⟨q1, hK2.tr q2⟩)
      unfold tchain
      by_cases e : i + j = m
      · rw [if_pos e, if_pos (by omega), if_pos (by omega), mc_ne (by omega)]
      · rw [if_neg e, if_pos (by omega), if_neg (by omega), if_pos (by omega), mc_ne (by omega)]
        omega
    · intro s2 ⟨hB2, hK2⟩
      refine ok_eq (b114_10 X d 38 m n i _ s2) (ok_ift ?_ ?_)
      · rw [wrap_id (by omega) (by omega)]
        omega
      · rw [wrap_id (z := i + 1) (by omega) (by omega)]
        refine ih s2 ⟨hB2.sub (fun x y hd => ?_), hK2⟩
        by_cases hT : tchain t n m x y = 12
        · exact Or.inr hT
        · left
          unfold tchain at hT
          revert hT
          split <;> (repeat' split) <;> omega
  · intro s ⟨hB, hK⟩
    exact ok_eq (b114_2 X d 38 m n m s) (ok_ift (Int.le_refl _) (ok_ret ⟨rfl, hB.fin (fun x y x0 x1 y0 y1 => by omega), hK⟩))
theorem twid_one {i : Int} (hi : 0 ≤ i) (hn : 0 ≤ n) : twid (twid t n i) (n + i) 1 = twid t n (i + 1) := by
  funext x y
  unfold twid
  (repeat' split) <;> first | rfl | omega
theorem glue_m (hS : Sh w) (h : MoS w A) (ho : okB A.1) (m : Int) : OkI (run X (d + 3) 125 [.inr 38, .inl m] w) (MO w (glueF A m)) := by
  obtain ⟨o1, o2, o3⟩ := ho
  refine ok_eq (b125_0 X (d + 2) 38 m w) (ok_i (in_ok X (d + 2) m 2 11 w) (ok_if (fun h1 => ok_gd (hS.1 38) ?_) (fun h1 => ok_ret ⟨_, rfl, MO.same h (if_pos (by have := bI_eq.mp (Decidable.not_not.mp h1); omega))⟩)))
  have hm := bI_ne.mp h1
  rw [h.1.1, wrap_id (z := A.1.1 + m) (by omega) (by omega), wrap_id (z := A.1.1 + m - 1) (by omega) (by omega)]
  have e0 : glueF A m = if 12 < A.1.1 + m - 1 then (-3, A) else (A.1.1 + m - 1, push A (A.1.1 + m - 1, tchain A.1.2 A.1.1 m)) := if_neg (by omega)
  refine ok_if (fun hc => ok_gd (hS.1 38) (ok_V (recS (d := d + 1) hS h) (fun z ⟨hz, kz⟩ => ?_))) (fun hc => ok_ret ⟨_, rfl, MO.same h (by rw [e0, if_pos (by omega)])⟩)
  have Sz := hS.kp kz
  refine ok_gd (Sz.1 38) ?_
  rw [hz.1.1]
  refine ok_up (fun i s => R X (d + 3) 125 40 [some (.inr 38), some (.inl m), some (.inl A.1.1), some (.inl i)] [] s) (fun i s => TbM s (A.1.1 + (i - 1)) (twid A.1.2 A.1.1 (i - 1)) ∧ Kp 38 39 z s ∧ ∀ j : Nat, j ≠ 0 → gi s 38 j = gi z 38 j) 1 m (by omega) ?_ ?_ z ⟨by rw [show (1 : Int) - 1 = 0 by omega, twid_0, Int.add_zero]; exact hz.1, Kp.rf, fun _ _ => rfl⟩
  · intro i s i0 i1 ⟨hT, hK, hF⟩ ih
    have Ss := Sz.kp hK
    refine ok_eq (b125_40 X (d + 2) 38 m A.1.1 i s) (ok_iff (by omega) (ok_gd (Ss.1 38) (ok_V (come_ok (d := d + 1) Ss hT (twf_wid o3 (by omega) (by omega)) (by omega)) (fun u ⟨u1, u2, u3⟩ => ?_))))
    rw [wrap_id (z := i + 1) (by omega) (by omega)]
    refine ih u ⟨?_, hK.tr u2, fun j hj => (u3 j hj).trans (hF j hj)⟩
    rw [twid_one (by omega) (by omega)] at u1
    rw [show A.1.1 + (i + 1 - 1) = A.1.1 + (i - 1) + 1 by omega, show i + 1 - 1 = i - 1 + 1 by omega]
    exact u1
  · intro s ⟨hT, hK, hF⟩
    have Ss := Sz.kp hK
    rw [show A.1.1 + (m - 1) = A.1.1 + m - 1 by omega] at hT
    have hB0 : BldM s (A.1.1 + m - 1) (tchain A.1.2 A.1.1 m) (fun x y => ¬ (A.1.1 ≤ x ∧ x < A.1.1 + m - 1 ∧ A.1.1 ≤ y ∧ y < A.1.1 + m - 1)) := by
      refine ⟨_, hT, fun x y => ?_, fun x y hxy => ?_⟩
      · by_cases hx : A.1.1 ≤ x ∧ x < A.1.1 + m - 1 ∧ A.1.1 ≤ y ∧ y < A.1.1 + m - 1
        · right
          unfold twid
          rw [if_neg (by omega), if_neg (by omega)]
          exact o3.2.2.2 x y (by omega)
        · left
          unfold twid tchain
          rw [if_neg hx]
          (repeat' split) <;> first | rfl | omega
      · unfold twid tchain
        rw [if_neg hxy]
        (repeat' split) <;> first | rfl | omega
    refine ok_eq (b125_40 X (d + 2) 38 m A.1.1 m s) (ok_ift (Int.le_refl _) (ok_gd (Ss.1 38) (ok_V (chain_m (d := d + 1) Ss o1 (by omega) (by omega) o3.1 hB0) (fun u ⟨u1, u2⟩ => ok_gd ((Ss.kp u2).1 38) (ok_ret ⟨_, rfl, ?_⟩)))))
    obtain ⟨r1, r2⟩ := MoS.act (a := (A.1.1 + m - 1, tchain A.1.2 A.1.1 m)) hz kz ((hK.tr (u2.wide (by omega) (by omega))).wide (by omega) (by omega)) (fun j hj => by rw [u2.gi (by omega)]; exact hF j hj) u1
    rw [u1.1, e0, if_neg (by omega)]
    exact ⟨rfl, r1, r2⟩
end MJ
