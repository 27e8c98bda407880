/-! the reference's search, in the machine -/
def DfI (w : MW) (t : Int → Int → Int) (n k most : Int) (rI : AB) (m c : Int) (T : Int → Int) (ρ : Int → AB) (z : MW) : Prop :=
  Kp 45 47 w z ∧ (-1 ≤ m ∧ m < n) ∧ (c = CtT t n k rI m T ∧ c ≤ most) ∧ (∀ i, 0 ≤ i → i ≤ m → 0 ≤ T i ∧ T i ≤ 7) ∧
  (∀ i, 0 ≤ i → i ≤ m → gi z 47 i.toNat = T i ∧ RowW z n (12 * i) (ρ i) ∧ Bd n (ρ i) ∧ shr n rI (ρ i) ∧ (∀ f, SWP t n rI f → (∀ j, 0 ≤ j → j < i → f j = T j) → InR n (ρ i) f) ∧ (∀ j, 0 ≤ j → j < i → (ρ i).1 j = T j ∧ (ρ i).2 j = T j) ∧ (ρ i).1 i ≤ T i) ∧
  (most = 1 → c = 1 → ∃ f, SWP t n rI f ∧ (∀ h, SWP t n rI h → lxl n f h) ∧ ∀ x, 0 ≤ x → x < n → gi z 45 (12 * n + x).toNat = f x)
def WdP (w : MW) (t : Int → Int → Int) (n k most : Int) (rI : AB) (x : Int) (w' : MW) : Prop := Kp 45 47 w w' ∧ x = minI most (CtA t n k rI) ∧ (most = 1 → x = 1 → ∃ f, SWP t n rI f ∧ (∀ h, SWP t n rI h → lxl n f h) ∧ ∀ x, 0 ≤ x → x < n → gi w' 45 (12 * n + x).toNat = f x)
section NH
variable {X : Nat × (Nat → Int)} {d : Nat} {w w' w2 : MW} {n k most m : Int} {t : Int → Int → Int} {rI : AB} {T f : Int → Int}
theorem ge_agree (h0 : 0 ≤ m) (h : ∀ j, 0 ≤ j → j ≤ m → f j = T j) : GeT m T f ∧ ¬ GeT m (upI T m (T m + 1)) f := by
  refine ⟨⟨m, by omega, fun i i0 i1 => h i i0 (by omega), Or.inr ⟨rfl, h m h0 (by omega)⟩⟩, ?_⟩
  rintro ⟨j, hj, g1, g2⟩
  by_cases e : j = m
  · rw [e, upI_eq] at g2
    have := h m h0 (by omega)
    omega
  · rw [upI_ne e] at g2
    have := h j hj.1 (by omega)
    omega
theorem ct_leaf (hw : twf t n) (h0n : 1 ≤ n) (hT : SWP t n rI T) (hk : ∀ x, 0 ≤ x → x < n → 0 ≤ T x ∧ T x ≤ k) : CtT t n k rI (n - 1) (upI T (n - 1) (T (n - 1) + 1)) = CtT t n k rI (n - 1) T + 1 := by
  have e1 := cnt_one (k := k) (p := fun _ => True) (P := fun f => SWP t n rI f ∧ ∀ j, 0 ≤ j → j ≤ n - 1 → f j = T j) (c := T) n.toNat (fun _ => 0) (fun x x0 x1 _ => hk x x0 (by omega)) (fun f _ => ⟨fun q x x0 x1 _ => q.2 x x0 (by omega), fun q => ⟨hT.cg hw (fun x x0 x1 => (q x x0 (by omega) trivial).symm), fun j j0 j1 => q j j0 (by omega) trivial⟩⟩)
  have e2 : CtT t n k rI (n - 1) (upI T (n - 1) (T (n - 1) + 1)) = CtT t n k rI (n - 1) T + cnt k (fun _ => True) (fun f => SWP t n rI f ∧ ∀ j, 0 ≤ j → j ≤ n - 1 → f j = T j) n.toNat (fun _ => 0) := by
    refine cnt_add n.toNat _ (fun f _ => ⟨⟨fun h => ?_, fun h => ?_⟩, fun h => h.1.2 (ge_agree (by omega) h.2.2).1⟩)
    · by_cases q : ∀ j, 0 ≤ j → j ≤ n - 1 → f j = T j
      · exact Or.inr ⟨h.1, q⟩
      · exact Or.inl ⟨h.1, fun r => h.2 ((ge_next (by omega) q).mp r)⟩
    · rcases h with h | h
      · by_cases q : ∀ j, 0 ≤ j → j ≤ n - 1 → f j = T j
        · exact ⟨h.1, (ge_agree (by omega) q).2⟩
        · exact ⟨h.1, fun r => h.2 ((ge_next (by omega) q).mpr r)⟩
      · exact ⟨h.1, (ge_agree (by omega) h.2).2⟩
  rw [e2, e1]
theorem ct_first (hw : twf t n) (h0n : 1 ≤ n) (hI : ∀ j, 0 ≤ j → j < n → 0 ≤ rI.1 j ∧ rI.2 j ≤ k) (h0 : CtT t n k rI (n - 1) T = 0) : ∀ h, SWP t n rI h → lxl n T h := by
  intro h hh
  have hge : GeT (n - 1) T h := Classical.byContradiction fun hno => by
    have hz : SWP t n rI (inZ n h) := hh.cg hw (fun x x0 x1 => (inZ_eq x0 x1).symm)
    have hc : 1 ≤ CtT t n k rI (n - 1) T := cnt_ex.mpr ⟨inZ n h, inZ_rc (by omega) (fun x x0 x1 => by have := hI x x0 x1; have q := hh.2 x x0 x1; unfold wi at q; omega), hz, fun r => hno (r.cg (by omega) (fun x x0 x1 => inZ_eq x0 x1))⟩
    omega
  obtain ⟨j, hj, g1, g2⟩ := hge
  by_cases e : T j < h j
  · exact Or.inr ⟨j, hj.1, by omega, e, fun i i0 i1 => (g1 i i0 i1).symm⟩
  · obtain ⟨ej, ef⟩ := g2.resolve_left e
    refine Or.inl (fun x x0 x1 => ?_)
    by_cases ex : x = j
    · rw [ex]; exact ef
    · exact g1 x x0 (by omega)
theorem dfs_go (hS : Sh w) (hT : TbM w n t) (hw : twf t n) (h2n : 2 ≤ n) (hn : n ≤ 12) (hk6 : k ≤ 6) (hI : ∀ j, 0 ≤ j → j < n → 0 ≤ rI.1 j ∧ rI.2 j ≤ k) (hmost : 1 ≤ most ∧ most ≤ 1000) : ∀ (fu : Nat) (m c : Int) (T : Int → Int) (ρ : Int → AB) (z : MW), DfI w t n k most rI m c T ρ z → (0 ≤ m → 10 ^ 13 - mzT T (m + 1).toNat < fu) → OkI (R X (d + 3) 163 165 [some (.inr 38), none, some (.inl most), none, none, some (.inl c), some (.inl m)] [] z) (WdP w t n k most rI) := by
  intro fu
  induction fu with
  | zero =>
    intro m c T ρ z hD hfu
    obtain ⟨hK, hm, ⟨hc1, hc2⟩, hT7, hrows, hfst⟩ := hD
    by_cases g : m < 0
    · refine ok_eq (b163_165 X (d + 2) 38 most c m z) (ok_ift g (ok_ret ⟨c, rfl, hK, ?_, hfst⟩))
      rw [CtT_m1 g] at hc1
      unfold minI
      rw [← hc1]
      split <;> omega
    · have h1 := hfu (by omega)
      have h2 := mz_bd (T := T) (m + 1).toNat (by omega) (fun i hi => hT7 i (by omega) (by omega))
      have h3 : (0 : Int) < 10 ^ (13 - (m + 1).toNat) := Int.pow_pos (by omega)
      omega
  | succ fu ih =>
    intro m c T ρ z hD hfu
    obtain ⟨hK, hm, ⟨hc1, hc2⟩, hT7, hrows, hfst⟩ := id hD
    refine ok_eq (b163_165 X (d + 2) 38 most c m z) (ok_if (fun g => ok_ret ⟨c, rfl, hK, ?_, hfst⟩) (fun gm => ok_if (fun g => ok_ret ⟨c, rfl, hK, ?_, hfst⟩) (fun gc => ?_)))
    · rw [CtT_m1 g] at hc1
      unfold minI
      rw [← hc1]
      split <;> omega
    · have := (CtT_le (t := t) (k := k) (rI := rI) (m := m) (T := T) (n := n) (by omega)).2
      unfold minI
      split <;> omega
    have hm0 : 0 ≤ m := by omega
    have hfu' := hfu hm0
    have Sz := hS.kp hK
    have hTz : TbM z n t := hT.kp hK (by omega)
    have hn0 : gi z 38 0 = n := hTz.1
    have z45 : kd z 45 = 1 := Sz.1 45
    have z46 : kd z 46 = 1 := Sz.1 46
    have z47 : kd z 47 = 1 := Sz.1 47
    have l45 : ln z 45 = 156 := Sz.2.1 45
    have l46 : ln z 46 = 156 := Sz.2.1 46
    have l47 : ln z 47 = 13 := Sz.2.1 47
    obtain ⟨hTm, hRm, hBm, hsm, hsnd, hfix, hlow⟩ := hrows m hm0 (Int.le_refl _)
    have hT7m := hT7 m hm0 (Int.le_refl _)
    obtain ⟨c0, c1⟩ := CtT_le (t := t) (k := k) (rI := rI) (m := m) (T := T) (n := n) (by omega)
    have hm1 : ((m.toNat : Nat) : Int) = m := Int.toNat_of_nonneg hm0
    have em1 : (m + 1).toNat = m.toNat + 1 := by omega
    refine ok_gd (Sz.1 38) (ok_r (Sz.2.2 38 15 (by decide)) (ok_gd ⟨z47, hm0, by rw [l47]; omega⟩ (ok_gd (Sz.1 38) (ok_r (Sz.2.2 38 14 (by decide)) ?_))))
    rw [wrap_id (z := 12 * m) (by omega) (by omega), wrap_id (z := 12 * m + m) (by omega) (by omega), wrap_id (z := m + 1) (by omega) (by omega), wrap_id (z := 12 * (m + 1)) (by omega) (by omega), wrap_id (z := m + -1) (by omega) (by omega), hTm, (hRm m hm0 hm.2).2]
    have bm := hBm m hm0 hm.2
    refine ok_gd ⟨z46, by omega, by rw [l46]; omega⟩ (ok_if (fun gh => ?_) (fun gh => ?_))
    · -- a weight is tried
      refine ok_gd (Sz.1 38) (ok_r (Sz.2.2 38 15 (by decide)) (ok_gd ⟨z47, hm0, by rw [l47]; omega⟩ (ok_gd (Sz.1 38) ?_)))
      rw [hTm]
      refine ok_V (fix_m (d := d + 2) Sz hn0 hn (i := m) (v := T m) ⟨hm0, hm.2⟩ hRm) (fun z4 ⟨r4, f4⟩ => ?_)
      have S4 := Sz.kp f4.1
      have hT4 : TbM z4 n t := hTz.kp f4.1 (by omega)
      have h6 : Rng6 n (setR (ρ m) m (T m)) := fun j j0 j1 => by
        have := hBm j j0 j1
        unfold setR
        dsimp only
        by_cases e : j = m
        · rw [if_pos e, if_pos e]; omega
        · rw [if_neg e, if_neg e]; omega
      refine ok_gd (S4.1 38) (ok_I (opn_m (d := d) (row := 12 * (m + 1)) S4 hT4 hw h2n hn (by omega) h6 r4) (fun v5 z5 ⟨f5, v01, hno, hyes⟩ => ?_))
      have S5 := S4.kp f5.1
      have f45 := f4.tr f5
      have K5 : Kp 45 47 w z5 := hK.tr (f45.1.wide (by omega) (by omega))
      have y45 : kd z5 45 = 1 := S5.1 45
      have y47 : kd z5 47 = 1 := S5.1 47
      have m45 : ln z5 45 = 156 := S5.2.1 45
      have m47 : ln z5 47 = 13 := S5.2.1 47
      have t47 : ∀ j, gi z5 47 j = gi z 47 j := fun j => f45.1.gi (by omega) j
      have keepR : ∀ i, 0 ≤ i → i ≤ m → ∀ (u : MW), (∀ j, gi u 45 j = gi z5 45 j ∧ gi u 46 j = gi z5 46 j) → RowW u n (12 * i) (ρ i) := fun i i0 i1 u hu x x0 x1 => by
        have h1 := f45.2 (12 * i + x).toNat (by omega)
        have h2 := (hrows i i0 i1).2.1 x x0 x1
        have h3 := hu (12 * i + x).toNat
        exact ⟨h3.1.trans (h1.1.trans h2.1), h3.2.trans (h1.2.trans h2.2)⟩
      -- this weight is done
      have nextI : ∀ (u : MW) (c' : Int), u = si z5 47 m.toNat (T m + 1) → c' ≤ most → c' = CtT t n k rI m (upI T m (T m + 1)) → (most = 1 → c' = 1 → ∃ f, SWP t n rI f ∧ (∀ h, SWP t n rI h → lxl n f h) ∧ ∀ x, 0 ≤ x → x < n → gi u 45 (12 * n + x).toNat = f x) → OkI (R X (d + 3) 163 165 [some (.inr 38), none, some (.inl most), none, none, some (.inl c'), some (.inl m)] [] u) (WdP w t n k most rI) := by
        intro u c' hu hcm hcc hff
        have hu45 : ∀ j, gi u 45 j = gi z5 45 j ∧ gi u 46 j = gi z5 46 j := fun j => by rw [hu, gi_si_ne (by omega), gi_si_ne (by omega)]; exact ⟨rfl, rfl⟩
        refine ih m c' (upI T m (T m + 1)) ρ u ⟨by rw [hu]; exact K5.tr (Kp.si (by omega) (by omega)), hm, ⟨hcc, hcm⟩, fun i i0 i1 => ?_, fun i i0 i1 => ?_, hff⟩ (fun _ => ?_)
        · by_cases e : i = m
          · rw [e, upI_eq]; omega
          · rw [upI_ne e]; exact hT7 i i0 i1
        · obtain ⟨q1, q2, q3, q4, q5, q6, q7⟩ := hrows i i0 i1
          refine ⟨?_, keepR i i0 i1 u hu45, q3, q4, fun f g1 g2 => q5 f g1 (fun j j0 j1 => by have := g2 j j0 j1; rw [upI_ne (by omega)] at this; exact this), fun j j0 j1 => by rw [upI_ne (by omega)]; exact q6 j j0 j1, ?_⟩
          rotate_left
          · by_cases e : i = m
            · rw [e, upI_eq]; rw [e] at q7; omega
            · rw [upI_ne e]; exact q7
          rw [hu]
          by_cases e : i = m
          · rw [e, gi_si_eq, upI_eq]
          · rw [gi_si_ne2 (by omega), upI_ne e, t47, q1]
        · have := mz_next (T := T) (q := m.toNat) (by omega)
          rw [hm1, ← em1] at this
          omega
      have prefixIn : ∀ f, SWP t n rI f → (∀ j, 0 ≤ j → j ≤ m → f j = T j) → InR n (setR (ρ m) m (T m)) f := fun f g1 g2 j j0 j1 => by
        have := hsnd f g1 (fun i i0 i1 => g2 i i0 (by omega)) j j0 j1
        unfold wi at this ⊢
        unfold setR
        dsimp only
        by_cases e : j = m
        · have := g2 j j0 (by omega)
          rw [if_pos e, if_pos e, this, e]
          omega
        · rw [if_neg e, if_neg e]
          exact this
      refine ok_if (fun gv => ok_gd (S5.1 38) ?_) (fun gv => ok_gd (S5.1 38) (ok_r (S5.2.2 38 15 (by decide)) (ok_gd ⟨y47, hm0, by rw [m47]; omega⟩ (ok_gd ⟨y47, hm0, by rw [m47]; omega⟩ ?_))))
      · obtain ⟨r', rR, rB, rs, rSt, rSnd⟩ := hyes gv
        have hn5 : gi z5 38 0 = n := by rw [f45.1.gi (by omega)]; exact hn0
        have rfix : ∀ j, 0 ≤ j → j ≤ m → r'.1 j = T j ∧ r'.2 j = T j := fun j j0 j1 => by
          have q1 := rs j j0 (by omega)
          have q2 := rB j j0 (by omega)
          unfold setR at q1
          dsimp only at q1
          by_cases e : j = m
          · rw [if_pos e, if_pos e] at q1
            rw [e] at q1 q2 ⊢
            omega
          · rw [if_neg e, if_neg e] at q1
            have := hfix j j0 (by omega)
            omega
        have rsI : shr n rI r' := fun j j0 j1 => by
          have q1 := rs j j0 j1
          have q2 := hsm j j0 j1
          unfold setR at q1
          dsimp only at q1
          by_cases e : j = m
          · rw [if_pos e, if_pos e] at q1
            have q3 := hsm m hm0 hm.2
            rw [e]
            rw [e] at q1 q2
            omega
          · rw [if_neg e, if_neg e] at q1
            omega
        have lowS : ∀ {f : Int → Int}, SWP t n rI f → (∀ j, 0 ≤ j → j ≤ m → f j = T j) → InR n r' f := fun {f} g1 g2 => rSnd f g1.1 (prefixIn f g1 g2)
        rw [hn5, wrap_id (z := n - 1) (by omega) (by omega)]
        refine ok_if (fun gn => ok_gd (S5.1 38) (ok_r (S5.2.2 38 15 (by decide)) (ok_gd (S5.1 38) (ok_r (S5.2.2 38 13 (by decide)) ?_)))) (fun gn => ok_gd (S5.1 38) (ok_r (S5.2.2 38 15 (by decide)) ?_))
        · -- deeper
          have b1 := rB (m + 1) (by omega) (by omega)
          have hr1 := (rR (m + 1) (by omega) (by omega)).1
          rw [wrap_id (z := 12 * (m + 1) + (m + 1)) (by omega) (by omega), hr1]
          refine ok_gd ⟨y45, by omega, by rw [m45]; omega⟩ (ok_gd ⟨y47, by omega, by rw [m47]; omega⟩ ?_)
          generalize hu : si z5 47 (m + 1).toNat (r'.1 (m + 1)) = u
          have hu45 : ∀ j, gi u 45 j = gi z5 45 j ∧ gi u 46 j = gi z5 46 j := fun j => by rw [← hu, gi_si_ne (by omega), gi_si_ne (by omega)]; exact ⟨rfl, rfl⟩
          refine ih (m + 1) c (upI T (m + 1) (r'.1 (m + 1))) (fun i => if i = m + 1 then r' else ρ i) u ⟨by rw [← hu]; exact K5.tr (Kp.si (by omega) (by omega)), by omega, ⟨hc1.trans (CtT_cg (fun f hf => ge_push hm0 (fun q => (lowS hf q (m + 1) (by omega) (by omega)).1))), hc2⟩, fun i i0 i1 => ?_, fun i i0 i1 => ?_, fun q1 q2 => by omega⟩ (fun _ => ?_)
          · by_cases e : i = m + 1
            · rw [e, upI_eq]; omega
            · rw [upI_ne e]; exact hT7 i i0 (by omega)
          · dsimp only
            by_cases e : i = m + 1
            · rw [if_pos e, e]
              refine ⟨by rw [upI_eq, ← hu, gi_si_eq], fun x x0 x1 => ?_, rB, rsI, fun f g1 g2 => lowS g1 (fun j j0 j1 => by have := g2 j j0 (by omega); rw [upI_ne (by omega)] at this; exact this), fun j j0 j1 => by rw [upI_ne (by omega)]; exact rfix j j0 (by omega), by rw [upI_eq]; omega⟩
              rw [(hu45 _).1, (hu45 _).2]
              exact rR x x0 x1
            · obtain ⟨q1, q2, q3, q4, q5, q6, q7⟩ := hrows i i0 (by omega)
              rw [if_neg e]
              refine ⟨?_, keepR i i0 (by omega) u hu45, q3, q4, fun f g1 g2 => q5 f g1 (fun j j0 j1 => by have := g2 j j0 j1; rw [upI_ne (by omega)] at this; exact this), fun j j0 j1 => by rw [upI_ne (by omega)]; exact q6 j j0 j1, by rw [upI_ne e]; exact q7⟩
              rw [← hu, gi_si_ne2 (by omega), upI_ne e, t47, q1]
          · have := mz_push (T := T) (q := m.toNat + 1) (y := r'.1 (m + 1)) b1.1
            rw [show (((m.toNat + 1 : Nat) : Int)) = m + 1 by omega] at this
            rw [show (m + 1 + 1).toNat = m.toNat + 1 + 1 by omega]
            rw [em1] at hfu'
            omega
        · -- a weighing
          have en : m = n - 1 := Decidable.not_not.mp gn
          refine ok_gd ⟨y47, hm0, by rw [m47]; omega⟩ (ok_gd ⟨y47, hm0, by rw [m47]; omega⟩ ?_)
          rw [t47, hTm, wrap_id (z := T m + 1) (by omega) (by omega), wrap_id (z := c + 1) (by omega) (by omega)]
          have eqT : ∀ j, 0 ≤ j → j < n → r'.1 j = T j ∧ r'.2 j = T j := fun j j0 j1 => rfix j j0 (by omega)
          have wT : SWP t n rI T := by
            have stl : ∀ a b, 0 ≤ a → a < n → 0 ≤ b → b < n → a ≤ b → t a b ≠ 12 → T a + T b = T (t a b) := fun a b a0 a1 b0 b1 hab h12 => by
              have val := hw.2.1 a b
              have s1 := rSt a b hab ⟨a0, a1⟩ ⟨b0, b1⟩ h12
              have e1 := eqT a a0 a1
              have e2 := eqT b b0 b1
              have e3 := eqT (t a b) (by omega) (by omega)
              omega
            refine ⟨fun a b a0 a1 b0 b1 h12 => ?_, fun j j0 j1 => ?_⟩
            · by_cases hab : a ≤ b
              · exact stl a b a0 a1 b0 b1 hab h12
              · have := stl b a b0 b1 a0 a1 (by omega) (by rw [hw.1]; exact h12)
                rw [hw.1 b a] at this
                omega
            · have q1 := rsI j j0 j1
              have q2 := eqT j j0 j1
              unfold wi
              omega
          have lf := ct_leaf (k := k) hw (by omega) wT (fun x x0 x1 => by have q1 := hI x x0 x1; have q2 := wT.2 x x0 x1; unfold wi at q2; omega)
          rw [← en] at lf
          refine nextI _ (c + 1) rfl (by omega) (by rw [lf, ← hc1]) (fun q1 q2 => ⟨T, wT, ct_first (k := k) hw (by omega) hI (by rw [← en, ← hc1]; omega), fun x x0 x1 => ?_⟩)
          rw [gi_si_ne (by omega)]
          have := (rR x x0 x1).1
          rw [show 12 * (m + 1) + x = 12 * n + x by omega] at this
          rw [this, (eqT x x0 x1).1]
      · rw [t47, hTm, wrap_id (z := T m + 1) (by omega) (by omega)]
        have g0 : v5 = 0 := Decidable.not_not.mp gv
        refine nextI _ c rfl hc2 (hc1.trans (CtT_cg (fun f hf => ge_next hm0 (fun q => hno g0 f hf.1 (prefixIn f hf q))))) (fun q1 q2 => by omega)
    · -- no more weights here
      have small : ∀ f, SWP t n rI f → (∀ j, 0 ≤ j → j < m → f j = T j) → f m < T m := fun f g1 g2 => by
        have := hsnd f g1 g2 m hm0 hm.2
        unfold wi at this
        omega
      refine ok_if (fun g1 => ?_) (fun g1 => ok_gd (Sz.1 38) (ok_r (Sz.2.2 38 15 (by decide)) ?_))
      · have em : m = 0 := by omega
        rw [em] at hc1 small
        have hcA : c = CtA t n k rI := by
          rw [hc1, CtT_cg (m2 := -1) (T2 := T) (fun f hf => ge_pop0 (small f hf (fun j j0 j1 => by omega)) (-1) (by omega)), CtT_m1 (by omega)]
        refine ok_eq (b163_165 X (d + 2) 38 most c (m + -1) z) (ok_ift g1 (ok_ret ⟨c, rfl, hK, ?_, fun q1 q2 => by omega⟩))
        unfold minI
        rw [← hcA]
        split <;> omega
      · obtain ⟨p1, p2, p3, p4, p5, p6, p7⟩ := hrows (m - 1) (by omega) (by omega)
        rw [show m + -1 = m - 1 by omega, p1]
        have f1 := hfix (m - 1) (by omega) (by omega)
        have b1 := hBm (m - 1) (by omega) (by omega)
        have q7 := hT7 (m - 1) (by omega) (by omega)
        rw [wrap_id (z := T (m - 1) + 1) (by omega) (by omega)]
        refine ok_gd ⟨z47, by omega, by rw [l47]; omega⟩ (ok_gd ⟨z47, by omega, by rw [l47]; omega⟩ ?_)
        generalize hu : si z 47 (m - 1).toNat (T (m - 1) + 1) = u
        refine ih (m - 1) c (upI T (m - 1) (T (m - 1) + 1)) ρ u ⟨by rw [← hu]; exact hK.tr (Kp.si (by omega) (by omega)), by omega, ⟨hc1.trans (CtT_cg (fun f hf => ge_pop (by omega) (small f hf))), hc2⟩, fun i i0 i1 => ?_, fun i i0 i1 => ?_, fun q1 q2 => by omega⟩ (fun _ => ?_)
        · by_cases e : i = m - 1
          · rw [e, upI_eq]; omega
          · rw [upI_ne e]; exact hT7 i i0 (by omega)
        · obtain ⟨q1, q2, q3, q4, q5, q6, q8⟩ := hrows i i0 (by omega)
          refine ⟨?_, fun x x0 x1 => ?_, q3, q4, fun f g1 g2 => q5 f g1 (fun j j0 j1 => by have := g2 j j0 j1; rw [upI_ne (by omega)] at this; exact this), fun j j0 j1 => by rw [upI_ne (by omega)]; exact q6 j j0 j1, ?_⟩
          · rw [← hu]
            by_cases e : i = m - 1
            · rw [e, gi_si_eq, upI_eq]
            · rw [gi_si_ne2 (by omega), upI_ne e, q1]
          · rw [← hu, gi_si_ne (by omega), gi_si_ne (by omega)]
            exact q2 x x0 x1
          · by_cases e : i = m - 1
            · rw [e, upI_eq]
              rw [e] at q8
              omega
            · rw [upI_ne e]
              exact q8
        · have := mz_pop (T := T) (q := m.toNat - 1) (by omega) (by rw [show ((m.toNat - 1 + 1 : Nat) : Int) = m by omega]; exact hT7m.1) (by rw [show ((m.toNat - 1 + 1 : Nat) : Int) = m by omega]; exact hT7m.2)
          rw [show ((m.toNat - 1 : Nat) : Int) = m - 1 by omega, show m.toNat - 1 + 2 = (m + 1).toNat by omega] at this
          rw [show (m - 1 + 1).toNat = m.toNat - 1 + 1 by omega]
          omega
end NH
