/-! the reference's swap -/
section MP
variable {X : Nat × (Nat → Int)} {d : Nat} {w w' : MW} {n m : Int} {t T : Int → Int → Int} {A : AS}
theorem turn_m (X : Nat × (Nat → Int)) (d : Nat) (x f s : Int) (w : MW) : run X d 128 [.inl x, .inl f, .inl s] w = some (some (.inl (sg f s x)), w) := by
  apply ok_one
  refine ok_eq (b128_0 X d x f s w) (ok_if (fun q => ok_if (fun q2 => ok_ret ⟨?_, rfl⟩) (fun q2 => ok_ret ⟨?_, rfl⟩)) (fun q => ok_ret ⟨?_, rfl⟩))
  · unfold sg
    rw [if_neg q, if_neg q2]
  · unfold sg
    rw [if_neg q, if_pos (Decidable.not_not.mp q2)]
  · unfold sg
    rw [if_pos (Decidable.not_not.mp q)]
/-- how many have been counted -/
def ctd (g : Int → Int → Int) (n i j : Int) : Int := sg2 g n i + Sg (g i) i (j - i).toNat
theorem ctd_s {g : Int → Int → Int} {i j : Int} : ctd g n i (j + 1) = ctd g n i j + if i ≤ j then g i j else 0 := by
  unfold ctd
  by_cases e : i ≤ j
  · rw [if_pos e, Sg_s e]
    omega
  · rw [if_neg e, show (j + 1 - i).toNat = 0 by omega, show (j - i).toNat = 0 by omega]
    omega
theorem ctd_0 {g : Int → Int → Int} {i : Int} (h : 1 ≤ i) : ctd g n i 1 = sg2 g n i := by
  unfold ctd
  rw [show (1 - i).toNat = 0 by omega]
  show sg2 g n i + 0 = _
  omega
theorem ctd_n {g : Int → Int → Int} {i : Int} (h : 1 ≤ i) : ctd g n i n = sg2 g n (i + 1) := (sg2_s h).symm
theorem ctd_bd {g : Int → Int → Int} (hg : ∀ a b, 0 ≤ g a b ∧ g a b ≤ 1) {i j : Int} (hn : n ≤ 12) (hi : i ≤ n) (hj : j ≤ n) (h1 : 1 ≤ i) : 0 ≤ ctd g n i j ∧ ctd g n i j ≤ 1000 := by
  have := sg2_bd hg hn hi
  have h2 : 0 ≤ Sg (g i) i (j - i).toNat ∧ Sg (g i) i (j - i).toNat ≤ 1 * 12 := Sg_rng (fun b => hg _ b) (by omega) (by omega)
  unfold ctd
  omega
theorem nmF_bd {f s : Int} (a b : Int) : 0 ≤ nmF t f s a b ∧ nmF t f s a b ≤ 1 := bI_rng
theorem swap_m (hS : Sh w) (h : MoS w A) (ho : okB A.1) (f s : Int) : OkI (run X (d + 2) 129 [.inr 38, .inl f, .inl s] w) (MO w (swapF A f s)) := by
  obtain ⟨o1, o2, o3⟩ := ho
  refine ok_eq (b129_0 X (d + 1) 38 f s w) (ok_gd (hS.1 38) (ok_i (ist_ok (d := d) hS h.1.1 ⟨by omega, o2⟩ f) (ok_if (fun h1 => ok_ret ⟨_, rfl, MO.same h (if_pos (fun q => bI_eq.mp h1 q.1))⟩) (fun h1 => ok_gd (hS.1 38) (ok_i (ist_ok (d := d) hS h.1.1 ⟨by omega, o2⟩ s) (ok_if (fun h2 => ?_) (fun h2 => ok_ret ⟨_, rfl, MO.same h (if_pos (fun q => h2 (bI_ne.mpr q.2)))⟩)))))))
  have hf0 := bI_ne.mp h1
  have hs0 := bI_ne.mp h2
  have e1 : swapF A f s = if f < 2 ∨ s < 2 then (-4, A) else if f = s then (-5, A) else (nmg A.1.2 A.1.1 f s, push A (A.1.1, tswp A.1.2 f s)) := if_neg (fun q => q ⟨hf0, hs0⟩)
  refine ok_if (fun h3 => ok_ret ⟨_, rfl, MO.same h (by rw [e1, if_pos (Or.inl h3)])⟩) (fun h3 => ok_if (fun h4 => ok_if (fun h5 => ok_gd (hS.1 38) (ok_V (recS (d := d) hS h) (fun z ⟨hz, kz⟩ => ?_))) (fun h5 => ok_ret ⟨_, rfl, MO.same h (by rw [e1, if_neg (by omega), if_pos (Decidable.not_not.mp h5)])⟩)) (fun h4 => ok_ret ⟨_, rfl, MO.same h (by rw [e1, if_pos (by omega)])⟩))
  have e0 : swapF A f s = (nmg A.1.2 A.1.1 f s, push A (A.1.1, tswp A.1.2 f s)) := by rw [e1, if_neg (by omega), if_neg h5]
  have hf : 2 ≤ f ∧ f < A.1.1 := by omega
  have hs : 2 ≤ s ∧ s < A.1.1 := by omega
  have sgr : ∀ x, (1 ≤ x ∧ x < A.1.1) → (1 ≤ sg f s x ∧ sg f s x < A.1.1) := fun x q => by unfold sg; (repeat' split) <;> omega
  have sgi : ∀ x, sg f s (sg f s x) = x := fun x => (sg_rng hf hs).2
  have Sz := hS.kp kz
  have hn0 : ∀ u, Kp 40 40 z u → gi u 38 0 = A.1.1 := fun u q => by rw [q.gi (by omega)]; exact hz.1.1
  generalize hg : nmF A.1.2 f s = g
  have gb : ∀ a b, 0 ≤ g a b ∧ g a b ≤ 1 := fun a b => by rw [← hg]; exact nmF_bd a b
  let I : (Int → Int → Prop) → MW → Prop := fun Dn u => Kp 40 40 z u ∧ ∀ x y, 1 ≤ x → x < A.1.1 → 1 ≤ y → y < A.1.1 → Dn (sg f s x) (sg f s y) → gi u 40 (12 * x + y).toNat = mc (tswp A.1.2 f s x y)
  have part2 : ∀ u, I (fun _ _ => True) u → Ok (R X (d + 2) 129 208 [some (.inr 38), none, none, some (.inl (sg2 g A.1.1 A.1.1)), some (.inl 1), none, none, none] [] u) (fun v w' => ∃ x, v = some (.inl x) ∧ MO w (swapF A f s) x w') := by
    intro u ⟨uK, uI⟩
    have Su := Sz.kp uK
    refine ok_up (fun i v => R X (d + 2) 129 208 [some (.inr 38), none, none, some (.inl (sg2 g A.1.1 A.1.1)), some (.inl i), none, none, none] [] v) (fun i v => Kp 39 39 u v ∧ ∀ k, 0 ≤ k → k < 144 → gi v 39 k.toNat = if k / 12 < i then enc A.1.1 (tswp A.1.2 f s) k else enc A.1.1 A.1.2 k) 1 A.1.1 (by omega) ?_ ?_ u ⟨Kp.rf, fun k k0 k1 => by
      rw [uK.gi (by omega), hz.1.2 k k0 k1]
      by_cases q : k / 12 < 1
      · rw [if_pos q]
        unfold enc
        rw [if_neg (by omega), if_neg (by omega)]
      · rw [if_neg q]⟩
    · intro i v i0 i1 ⟨vK, vI⟩ ih
      have Sv := Su.kp vK
      refine ok_eq (b129_208 X (d + 1) 38 _ i v) (ok_gd (Sv.1 38) (ok_iff (by rw [vK.gi (by omega), hn0 u uK]; omega) ?_))
      refine ok_up (fun j v => R X (d + 2) 129 220 [some (.inr 38), none, none, some (.inl (sg2 g A.1.1 A.1.1)), some (.inl i), some (.inl j), none, none] [] v) (fun j v => Kp 39 39 u v ∧ ∀ k, 0 ≤ k → k < 144 → gi v 39 k.toNat = if k / 12 < i ∨ (k / 12 = i ∧ k % 12 < j) then enc A.1.1 (tswp A.1.2 f s) k else enc A.1.1 A.1.2 k) 1 A.1.1 (by omega) ?_ ?_ v ⟨vK, fun k k0 k1 => by
        rw [vI k k0 k1]
        by_cases q : k / 12 < i
        · rw [if_pos q, if_pos (Or.inl q)]
        · rw [if_neg q]
          by_cases q2 : k / 12 = i ∧ k % 12 < 1
          · rw [if_pos (Or.inr q2)]
            unfold enc
            rw [if_neg (by omega), if_neg (by omega)]
          · rw [if_neg (by omega)]⟩
      · intro j v2 j0 j1 ⟨wK, wI⟩ ih2
        have S2 := Su.kp wK
        refine ok_eq (b129_220 X (d + 1) 38 _ i j v2) (ok_gd (S2.1 38) (ok_iff (by rw [wK.gi (by omega), hn0 u uK]; omega) (ok_gd (S2.1 38) (ok_r (S2.2.2 38 1 (by decide)) (ok_gd (S2.1 38) (ok_r (S2.2.2 38 2 (by decide)) ?_))))))
        rw [wrap_id (z := 12 * i) (by omega) (by omega), wrap_id (z := 12 * i + j) (by omega) (by omega), wrap_id (z := j + 1) (by omega) (by omega)]
        refine ok_gd ⟨S2.1 40, by omega, by rw [show ln v2 40 = 144 from S2.2.1 40]; omega⟩ (ok_gd ⟨S2.1 39, by omega, by rw [show ln v2 39 = 144 from S2.2.1 39]; omega⟩ (ih2 _ ⟨wK.tr (Kp.si (by omega) (by omega)), fun k k0 k1 => ?_⟩))
        by_cases e : k = 12 * i + j
        · rw [e, gi_si_eq, wK.gi (by omega), uI i j i0 i1 j0 j1 trivial, if_pos (by omega), enc_at (by omega) (by omega), if_pos (by omega)]
        · rw [gi_si_ne2 (by omega), wI k k0 k1]
          by_cases q : k / 12 < i ∨ (k / 12 = i ∧ k % 12 < j)
          · rw [if_pos q, if_pos (by omega)]
          · rw [if_neg q, if_neg (by omega)]
      · intro v2 ⟨wK, wI⟩
        have S2 := Su.kp wK
        refine ok_eq (b129_220 X (d + 1) 38 _ i A.1.1 v2) (ok_gd (S2.1 38) (ok_ift (by rw [wK.gi (by omega), hn0 u uK]; omega) ?_))
        rw [wrap_id (z := i + 1) (by omega) (by omega)]
        refine ih v2 ⟨wK, fun k k0 k1 => ?_⟩
        rw [wI k k0 k1]
        by_cases q : k / 12 < i ∨ (k / 12 = i ∧ k % 12 < A.1.1)
        · rw [if_pos q, if_pos (by omega)]
        · rw [if_neg q]
          by_cases q2 : k / 12 < i + 1
          · rw [if_pos q2]
            unfold enc
            rw [if_neg (by omega), if_neg (by omega)]
          · rw [if_neg q2]
    · intro v ⟨vK, vI⟩
      have Sv := Su.kp vK
      refine ok_eq (b129_208 X (d + 1) 38 _ A.1.1 v) (ok_gd (Sv.1 38) (ok_ift (by rw [vK.gi (by omega), hn0 u uK]; omega) (ok_ret ⟨_, rfl, ?_⟩)))
      have hT : TbM v A.1.1 (tswp A.1.2 f s) := ⟨by rw [vK.gi (by omega)]; exact hn0 u uK, fun k k0 k1 => by
        rw [vI k k0 k1]
        by_cases q : k / 12 < A.1.1
        · rw [if_pos q]
        · rw [if_neg q]
          unfold enc
          rw [if_neg (by omega), if_neg (by omega)]⟩
      obtain ⟨r1, r2⟩ := MoS.act (a := (A.1.1, tswp A.1.2 f s)) hz kz ((uK.wide (by omega) (by omega)).tr (vK.wide (by omega) (by omega))) (fun j hj => by rw [vK.gi (by omega), uK.gi (by omega)]) hT
      rw [e0]
      refine ⟨?_, r1, r2⟩
      rw [← hg]
      exact nmg_eq.symm
  refine ok_up (fun i u => R X (d + 2) 129 48 [some (.inr 38), some (.inl f), some (.inl s), some (.inl (sg2 g A.1.1 i)), some (.inl i), none, none, none] [] u) (fun i u => I (fun x _ => x < i) u) 1 A.1.1 (by omega) ?_ ?_ z ⟨Kp.rf, fun x y x0 x1 y0 y1 hd => absurd hd (by have := sgr x ⟨x0, x1⟩; omega)⟩
  · intro i u i0 i1 ⟨uK, uI⟩ ih
    have Su := Sz.kp uK
    refine ok_eq (b129_48 X (d + 1) 38 f s _ i u) (ok_gd (Su.1 38) (ok_iff (by rw [hn0 u uK]; omega) ?_))
    rw [← ctd_0 i0]
    refine ok_up (fun j u => R X (d + 2) 129 60 [some (.inr 38), some (.inl f), some (.inl s), some (.inl (ctd g A.1.1 i j)), some (.inl i), some (.inl j), none, none] [] u) (fun j u => I (fun x y => x < i ∨ (x = i ∧ y < j)) u) 1 A.1.1 (by omega) ?_ ?_ u ⟨uK, fun x y x0 x1 y0 y1 hd => uI x y x0 x1 y0 y1 (by have := sgr y ⟨y0, y1⟩; omega)⟩
    · intro j u2 j0 j1 ⟨vK, vI⟩ ih2
      have S2 := Sz.kp vK
      have ri := sgr i ⟨i0, i1⟩
      have rj := sgr j ⟨j0, j1⟩
      have val := o3.2.1 i j
      have bd := ctd_bd gb o2 (i := i) (j := j) (by omega) (by omega) i0
      have hv : gi u2 39 (12 * i + j).toNat = mc (A.1.2 i j) := by
        rw [vK.gi (by omega), hz.1.2 _ (by omega) (by omega), enc_at (by omega) (by omega), if_pos (by omega)]
      refine ok_eq (b129_60 X (d + 1) 38 f s _ i j u2) (ok_gd (S2.1 38) (ok_iff (by rw [hn0 u2 vK]; omega) (ok_gd (S2.1 38) (ok_r (S2.2.2 38 1 (by decide)) ?_))))
      rw [wrap_id (z := 12 * i) (by omega) (by omega), wrap_id (z := 12 * i + j) (by omega) (by omega)]
      refine ok_gd ⟨S2.1 39, by omega, by rw [show ln u2 39 = 144 from S2.2.1 39]; omega⟩ (ok_gd (S2.1 38) (ok_r (S2.2.2 38 2 (by decide)) (ok_i (turn_m X (d + 1) i f s u2) (ok_i (turn_m X (d + 1) j f s u2) ?_))))
      rw [hv, wrap_id (z := 12 * sg f s i) (by omega) (by omega), wrap_id (z := 12 * sg f s i + sg f s j) (by omega) (by omega)]
      have last : ∀ u3 (c : Int), I (fun x y => x < i ∨ (x = i ∧ y < j + 1)) u3 → (c = 0 ∨ c = 1) → (c = 0 ↔ ¬ ((i = f ∨ i = s) ∨ (j = f ∨ j = s) ∨ (A.1.2 i j = f ∨ A.1.2 i j = s))) → Ok (R X (d + 2) 129 165 [some (.inr 38), some (.inl f), some (.inl s), some (.inl (ctd g A.1.1 i j)), some (.inl i), some (.inl j), some (.inl (mc (A.1.2 i j))), none] [.inl c] u3) (fun v w' => ∃ x, v = some (.inl x) ∧ MO w (swapF A f s) x w') := by
        intro u3 c hI hc hc2
        have st := ctd_s (n := A.1.1) (g := g) (i := i) (j := j)
        have gv : g i j = bI (A.1.2 i j ≠ 12 ∧ ((i = f ∨ i = s) ∨ (j = f ∨ j = s) ∨ (A.1.2 i j = f ∨ A.1.2 i j = s))) := by rw [← hg]; rfl
        refine ok_eq (b129_165 X (d + 1) 38 f s _ i j _ c u3) ?_
        rw [wrap_id (z := ctd g A.1.1 i j + 0) (by omega) (by omega), wrap_id (z := ctd g A.1.1 i j + 1) (by omega) (by omega), wrap_id (z := j + 1) (by omega) (by omega)]
        have go := ih2 u3 hI
        have goes : ∀ q : Int, q = ctd g A.1.1 i (j + 1) → Ok (R X (d + 2) 129 60 [some (.inr 38), some (.inl f), some (.inl s), some (.inl q), some (.inl i), some (.inl (j + 1)), none, none] [] u3) (fun v w' => ∃ x, v = some (.inl x) ∧ MO w (swapF A f s) x w') := fun q hq => by rw [hq]; exact go
        refine ok_if (fun q => goes _ ?_) (fun q => ok_if (fun q2 => goes _ ?_) (fun q2 => ok_if (fun q3 => goes _ ?_) (fun q3 => goes _ ?_)))
        · have h12 : A.1.2 i j = 12 := by
            unfold mc at q
            split at q <;> omega
          rw [st, gv, show bI (A.1.2 i j ≠ 12 ∧ ((i = f ∨ i = s) ∨ (j = f ∨ j = s) ∨ (A.1.2 i j = f ∨ A.1.2 i j = s))) = 0 from if_neg (fun r => r.1 h12)]
          split <;> rfl
        · rw [st, if_neg (by omega)]
        · rw [st, gv, show bI (A.1.2 i j ≠ 12 ∧ ((i = f ∨ i = s) ∨ (j = f ∨ j = s) ∨ (A.1.2 i j = f ∨ A.1.2 i j = s))) = 0 from if_neg (fun r => hc2.mp q3 r.2)]
          split <;> rfl
        · rw [st, if_pos (by omega), gv, show bI (A.1.2 i j ≠ 12 ∧ ((i = f ∨ i = s) ∨ (j = f ∨ j = s) ∨ (A.1.2 i j = f ∨ A.1.2 i j = s))) = 1 from if_pos ⟨fun r => q (by rw [r]; rfl), Decidable.not_not.mp (fun r => q3 (hc2.mpr r))⟩]
      have mid : ∀ v, v = mc (sg f s (A.1.2 i j)) → Ok (R X (d + 2) 129 123 [some (.inr 38), some (.inl f), some (.inl s), some (.inl (ctd g A.1.1 i j)), some (.inl i), some (.inl j), some (.inl (mc (A.1.2 i j))), none] [.inl v, .inl (12 * sg f s i + sg f s j), .inr 40] u2) (fun v w' => ∃ x, v = some (.inl x) ∧ MO w (swapF A f s) x w') := by
        intro v hvv
        have I3 : I (fun x y => x < i ∨ (x = i ∧ y < j + 1)) (si u2 40 (12 * sg f s i + sg f s j).toNat v) := ⟨vK.tr (Kp.si (by omega) (by omega)), fun x y x0 x1 y0 y1 hd => by
          by_cases e : x = sg f s i ∧ y = sg f s j
          · rw [e.1, e.2, gi_si_eq, hvv]
            unfold tswp
            rw [sgi, sgi]
          · rw [gi_si_ne2 (by omega)]
            refine vI x y x0 x1 y0 y1 ?_
            have : ¬ (sg f s x = i ∧ sg f s y = j) := fun q => e ⟨by rw [← q.1, sgi], by rw [← q.2, sgi]⟩
            omega⟩
        have mcv : mc (A.1.2 i j) = A.1.2 i j ∨ (mc (A.1.2 i j) = -1 ∧ A.1.2 i j = 12) := by
          unfold mc
          split
          · right; exact ⟨rfl, by assumption⟩
          · left; rfl
        have yes : ((i = f ∨ i = s) ∨ (j = f ∨ j = s) ∨ (A.1.2 i j = f ∨ A.1.2 i j = s)) → Ok (R X (d + 2) 129 160 [some (.inr 38), some (.inl f), some (.inl s), some (.inl (ctd g A.1.1 i j)), some (.inl i), some (.inl j), some (.inl (mc (A.1.2 i j))), none] [] (si u2 40 (12 * sg f s i + sg f s j).toNat v)) (fun v w' => ∃ x, v = some (.inl x) ∧ MO w (swapF A f s) x w') := fun q => ok_eq (b129_160 X (d + 1) 38 f s _ i j _ _) (last _ 1 I3 (Or.inr rfl) ⟨fun r => by omega, fun r => absurd q r⟩)
        refine ok_eq (b129_123 X (d + 1) 38 f s _ i j _ v _ 40 u2) (ok_gd ⟨S2.1 40, by omega, by rw [show ln u2 40 = 144 from S2.2.1 40]; omega⟩ (ok_if (fun q => yes (by omega)) (fun q1 => ok_if (fun q => yes (by omega)) (fun q2 => ok_if (fun q => yes (by omega)) (fun q3 => ok_if (fun q => yes (by omega)) (fun q4 => ok_if (fun q => yes (by omega)) (fun q5 => ok_if (fun q => ?_) (fun q => yes (by omega)))))))))
        exact last _ 0 I3 (Or.inl rfl) ⟨fun r => by omega, fun r => rfl⟩
      refine ok_if (fun q => ok_i (turn_m X (d + 1) _ f s u2) (mid _ ?_)) (fun q => mid _ ?_)
      · have h12 : A.1.2 i j ≠ 12 := fun r => q (by rw [r]; rfl)
        rw [mc_ne h12, mc_ne]
        unfold sg
        (repeat' split) <;> omega
      · have h12 : A.1.2 i j = 12 := by
          have := Decidable.not_not.mp q
          unfold mc at this
          split at this <;> omega
        rw [h12, show sg f s 12 = 12 by unfold sg; rw [if_neg (by omega), if_neg (by omega)]]
        rfl
    · intro u2 ⟨vK, vI⟩
      have S2 := Sz.kp vK
      refine ok_eq (b129_60 X (d + 1) 38 f s _ i A.1.1 u2) (ok_gd (S2.1 38) (ok_ift (by rw [hn0 u2 vK]; omega) ?_))
      rw [wrap_id (z := i + 1) (by omega) (by omega), ctd_n i0]
      exact ih u2 ⟨vK, fun x y x0 x1 y0 y1 hd => vI x y x0 x1 y0 y1 (by have := sgr y ⟨y0, y1⟩; omega)⟩
  · intro u ⟨uK, uI⟩
    have Su := Sz.kp uK
    refine ok_eq (b129_48 X (d + 1) 38 f s _ A.1.1 u) (ok_gd (Su.1 38) (ok_ift (by rw [hn0 u uK]; omega) ?_))
    exact part2 u ⟨uK, fun x y x0 x1 y0 y1 hd => uI x y x0 x1 y0 y1 (by have := sgr x ⟨x0, x1⟩; omega)⟩
end MP
