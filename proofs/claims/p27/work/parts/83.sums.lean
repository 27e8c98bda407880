/-! the sums of p27's law -/
def gS (t : Int → Int → Int) (a b : Int) : Int := bI (t a b ≠ 12)
/-- how many sums there are ahead of a row's place -/
def mny (t : Int → Int → Int) (n a b : Int) : Int := sg2 (gS t) n a + (if 0 < a then Sg (gS t a) a (b - a).toNat else 0)
section SU
variable {X : Nat × (Nat → Int)} {d : Nat} {w w1 w' : MW} {A : AS} {n a b c : Int} {t : Int → Int → Int}
theorem mny_rng (hn : n ≤ 12) (ha : 0 ≤ a ∧ a ≤ n) (hb : b ≤ n) : 0 ≤ mny t n a b ∧ mny t n a b ≤ 156 := by
  have h1 := sg2_bd (g := gS t) (fun x y => bI_rng) hn ha.2
  unfold mny
  by_cases e : 0 < a
  · rw [if_pos e]
    have h2 := Sg_rng (f := gS t a) (lo := a) (c := 1) (k := (b - a).toNat) (fun y => bI_rng) (by omega) (by omega)
    omega
  · rw [if_neg e]
    omega
theorem mny_0 : mny t n a 0 = sg2 (gS t) n a := by
  unfold mny
  by_cases e : 0 < a
  · rw [if_pos e, show (0 - a).toNat = 0 by omega]
    show _ + 0 = _
    omega
  · rw [if_neg e]
    omega
theorem mny_s (h0 : 0 ≤ a) (hb : 0 ≤ b) : mny t n a (b + 1) = mny t n a b + (if 0 < a ∧ a ≤ b ∧ t a b ≠ 12 then 1 else 0) := by
  unfold mny
  by_cases e : 0 < a
  · rw [if_pos e, if_pos e]
    by_cases g : a ≤ b
    · rw [Sg_s g]
      by_cases q : t a b = 12
      · rw [if_neg (fun z => z.2.2 q), show gS t a b = 0 from if_neg (fun z => z q)]
        omega
      · rw [if_pos ⟨e, g, q⟩, show gS t a b = 1 from if_pos q]
        omega
    · rw [if_neg (fun z => g z.2.1), show (b + 1 - a).toNat = 0 by omega, show (b - a).toNat = 0 by omega]
      omega
  · rw [if_neg e, if_neg e, if_neg (fun z => e z.1)]
    omega
theorem mny_n (h0 : 0 ≤ a) : mny t n a n = mny t n (a + 1) 0 := by
  rw [mny_0]
  unfold mny
  by_cases e : 0 < a
  · rw [if_pos e, sg2_s (by omega)]
  · rw [if_neg e]
    have : a = 0 := by omega
    subst this
    have e1 : sg2 (gS t) n 0 = 0 := rfl
    have e2 : sg2 (gS t) n (0 + 1) = 0 := rfl
    omega
theorem mny_end : mny t n n 0 = pws t n := by
  rw [mny_0]
  rfl
theorem sumQ_in (ha : 0 ≤ a ∧ a < A.1.1) (hb : 0 ≤ b ∧ b < A.1.1) : sumQ A a b = orN (A.1.2 a b) := if_neg (fun q => q ⟨ha, hb⟩)
theorem orN_in (hw : twf t n) (hn : n ≤ 12) : (orN (t a b) < 0 ∧ t a b = 12) ∨ (orN (t a b) = t a b ∧ 0 ≤ t a b ∧ t a b < n ∧ t a b ≠ 12) := by
  unfold orN
  by_cases e : t a b = 12
  · rw [if_pos e]
    exact Or.inl ⟨by omega, e⟩
  · rw [if_neg e]
    have := (hw.2.1 a b).resolve_left e
    exact Or.inr ⟨rfl, this.1, this.2, e⟩
theorem diffQ_in (ho : okB A.1) (ha : 0 ≤ a ∧ a < A.1.1) (hb : 0 ≤ b ∧ b < A.1.1) (hc : 0 ≤ c ∧ c < A.1.1) (he : A.1.2 a b = c) : 0 ≤ diffQ A c a ∧ diffQ A c a ≤ b := by
  have h2 := ho.1
  have h12 := ho.2.1
  have e : diffQ A c a = orN (lsA (fun x => decide (A.1.2 a x = c)) A.1.1) := if_neg (fun q => q ⟨hc, ha⟩)
  rw [e]
  rcases lsA_cases (p := fun x => decide (A.1.2 a x = c)) (n := A.1.1) (by omega) with ⟨-, q⟩ | ⟨q1, q2, q3, q4⟩
  · have := q b hb.1 hb.2
    simp only [he, decide_true] at this
    exact absurd this (by decide)
  · have hle : lsA (fun x => decide (A.1.2 a x = c)) A.1.1 ≤ b := Classical.byContradiction fun g => by
      have := q4 b hb.1 (by omega)
      simp only [he, decide_true] at this
      exact absurd this (by decide)
    unfold orN
    rw [if_neg (by omega)]
    exact ⟨q1, hle⟩
theorem sumOf_two (ho : okB A.1) (ha : 0 ≤ a ∧ a < A.1.1) (hb : 0 ≤ b ∧ b < A.1.1) (hab : ¬ a = b) : sumOfQ A (orI (shlI 1 a) (shlI 1 b)) = orN (A.1.2 a b) := by
  obtain ⟨h2, h12, hw⟩ := id ho
  obtain ⟨h3, h4⟩ := two_bits ha.1 ha.2 hb.1 hb.2 h12
  have e : sumOfQ A (orI (shlI 1 a) (shlI 1 b)) = orN (soF A.1.2 (orI (shlI 1 a) (shlI 1 b)) A.1.1.toNat 0 0) := if_neg (fun q => q h3)
  rw [e]
  by_cases g : a < b
  · rw [soF_two hw h12 ha.1 g hb.2 h4]
  · rw [soF_two hw h12 hb.1 (show b < a by omega) ha.2 (fun j j0 j1 => (h4 j j0 j1).trans ⟨fun q => q.symm, fun q => q.symm⟩), hw.1]
theorem sums_ok (h : ClS w A) : OkI (run X (d + 6) 104 [.inr 1, .inl A.1.1] w) (QO w A (fun x => x = 1)) := by
  have ho := h.2.1.2
  obtain ⟨h2, h12, hw⟩ := id ho
  refine ok_eq (b104_0 X (d + 5) 1 A.1.1 w) (ok_iff (by omega) (ok_iff (by omega) ?_))
  refine ok_up (fun a (z : Int × MW) => R X (d + 6) 104 22 [some (.inr 1), some (.inl A.1.1), some (.inl z.1), some (.inl 1), some (.inl a), none, none] [] z.2) (fun a z => z.1 = mny A.1.2 A.1.1 a 0 ∧ ClS z.2 A ∧ Kh 1 37 w z.2) 0 A.1.1 (by omega) ?_ ?_ (0, w) ⟨rfl, h, Kh.rf⟩
  · intro a z a0 a1 ⟨em, cz, kz⟩ ih
    obtain ⟨m, z⟩ := z
    dsimp only at em cz kz ⊢
    refine ok_eq (b104_22 X (d + 5) 1 A.1.1 m 1 a z) (ok_iff (by omega) (ok_iff (by omega) (ok_gd (cz.1.1 1) (ok_I (sum_q (d := d + 3) cz a 0) (fun v w1 ⟨e1, c1, k1⟩ => ?_)))))
    have ev : v = a := by
      have e2 : A.1.2 a 0 = a := by rw [hw.1]; exact hw.2.2.1 a a0 a1
      have e3 : orN a = a := if_neg (by omega)
      rw [e1, sumQ_in ⟨a0, a1⟩ ⟨by omega, by omega⟩, e2, e3]
    refine ok_iff (fun q => q ev) ?_
    refine ok_up (fun b (y : Int × MW) => R X (d + 6) 104 53 [some (.inr 1), some (.inl A.1.1), some (.inl y.1), some (.inl 1), some (.inl a), some (.inl b), none] [] y.2) (fun b y => y.1 = mny A.1.2 A.1.1 a b ∧ ClS y.2 A ∧ Kh 1 37 w y.2) 0 A.1.1 (by omega) ?_ ?_ (m, w1) ⟨em, c1, kz.tr k1⟩
    · intro b y b0 b1 ⟨ey, cy, ky⟩ ih2
      obtain ⟨m2, y⟩ := y
      dsimp only at ey cy ky ⊢
      refine ok_eq (b104_53 X (d + 5) 1 A.1.1 m2 1 a b y) (ok_iff (by omega) (ok_iff (by omega) (ok_gd (cy.1.1 1) (ok_I (sum_q (d := d + 3) cy a b) (fun c w2 ⟨e2, c2, k2⟩ => ?_)))))
      have ec : c = orN (A.1.2 a b) := e2.trans (sumQ_in ⟨a0, a1⟩ ⟨b0, b1⟩)
      have hcase := orN_in (a := a) (b := b) hw h12
      rw [← ec] at hcase
      have hm := mny_rng (t := A.1.2) (n := A.1.1) (a := a) (b := b) h12 ⟨a0, by omega⟩ (by omega)
      have rest : ∀ u : Int, u = (if 0 < a ∧ a ≤ b ∧ A.1.2 a b ≠ 12 then 1 else 0) → Ok (R X (d + 6) 104 96 [some (.inr 1), some (.inl A.1.1), none, none, some (.inl a), some (.inl b), some (.inl c)] [.inl u, .inl m2] w2) (fun v w' => ∃ x, v = some (.inl x) ∧ QO w A (fun x => x = 1) x w') := by
        intro u hu
        have em3 : m2 + u = mny A.1.2 A.1.1 a (b + 1) := by rw [mny_s a0 b0, ← hu, ey]
        have hu01 : u = 0 ∨ u = 1 := by
          rw [hu]
          split
          · exact Or.inr rfl
          · exact Or.inl rfl
        refine ok_eq (b104_96 X (d + 5) 1 A.1.1 a b c u m2 w2) (ok_gd (c2.1.1 1) (ok_I (sum_q (d := d + 3) c2 b a) (fun c' w3 ⟨e3, c3, k3⟩ => ?_)))
        have ec' : c' = c := by rw [e3, sumQ_in ⟨b0, b1⟩ ⟨a0, a1⟩, hw.1, ec]
        rw [wrap_id (z := m2 + u) (by omega) (by omega)]
        have good : ∀ w4, ClS w4 A → Kh 1 37 w w4 → Ok (R X (d + 6) 104 146 [some (.inr 1), some (.inl A.1.1), some (.inl (m2 + u)), none, some (.inl a), some (.inl b), some (.inl c)] [] w4) (fun v w' => ∃ x, v = some (.inl x) ∧ QO w A (fun x => x = 1) x w') := by
          intro w4 c4 k4
          refine ok_eq (b104_146 X (d + 5) 1 A.1.1 (m2 + u) a b c w4) (ok_eq (b104_151 X (d + 5) 1 A.1.1 (m2 + u) a b c 1 w4) (ok_iff (by omega) ?_))
          rw [wrap_id (z := b + 1) (by omega) (by omega)]
          refine ok_if (fun hab => ih2 (m2 + u, w4) ⟨em3, c4, k4⟩) (fun hab => ok_gd (c4.1.1 1) (ok_I (sumof_q (d := d + 3) c4 (inR_op _ _ _)) (fun v5 w5 ⟨e5, c5, k5⟩ => ok_iff (fun q => q ?_) (ih2 (m2 + u, w5) ⟨em3, c5, k4.tr k5⟩))))
          rw [e5, sumOf_two ho ⟨a0, a1⟩ ⟨b0, b1⟩ hab, ec]
        have k23 := (ky.tr k2).tr k3
        refine ok_iff (fun q => q ec'.symm) (ok_iff (by omega) (ok_if (fun _ => good w3 c3 k23) (fun hc => ?_)))
        have hd := diffQ_in (A := A) (a := a) (b := b) (c := c) ho ⟨a0, a1⟩ ⟨b0, b1⟩ ⟨by omega, by omega⟩ (by omega)
        refine ok_gd (c3.1.1 1) (ok_I (diff_q (d := d + 2) c3 c a) (fun v4 w4 ⟨e4, c4, k4⟩ => ok_iff (by omega) (ok_gd (c4.1.1 1) (ok_I (diff_q (d := d + 2) c4 c a) (fun v5 w5 ⟨e5, c5, k5⟩ => ok_iff (by omega) (good w5 c5 ((k23.tr k4).tr k5)))))))
      have none0 : ¬ (0 < a ∧ a ≤ b ∧ A.1.2 a b ≠ 12) → Ok (R X (d + 6) 104 95 [some (.inr 1), some (.inl A.1.1), none, none, some (.inl a), some (.inl b), some (.inl c)] [.inl m2] w2) (fun v w' => ∃ x, v = some (.inl x) ∧ QO w A (fun x => x = 1) x w') := fun hno => ok_eq (b104_95 X (d + 5) 1 A.1.1 a b c m2 w2) (rest 0 (if_neg hno).symm)
      refine ok_if (fun g1 => none0 (by omega)) (fun g1 => ok_if (fun g2 => none0 (by omega)) (fun g2 => ok_if (fun g3 => none0 (by omega)) (fun g3 => rest 1 (if_pos ?_).symm)))
      exact ⟨by omega, by omega, by omega⟩
    · intro y ⟨ey, cy, ky⟩
      obtain ⟨m2, y⟩ := y
      dsimp only at ey cy ky ⊢
      refine ok_eq (b104_53 X (d + 5) 1 A.1.1 m2 1 a A.1.1 y) (ok_ift (Int.le_refl _) (ok_eq (b104_193 X (d + 5) 1 A.1.1 m2 1 a y) (ok_gd (cy.1.1 1) (ok_I (sum_q (d := d + 3) cy a a) (fun c w2 ⟨e2, c2, k2⟩ => ok_iff (by omega) (ok_gd (c2.1.1 1) (ok_I (th_q (d := d) c2 a 7) (fun v w3 ⟨e3, c3, k3⟩ => ?_))))))))
      have ec : c = orN (A.1.2 a a) := e2.trans (sumQ_in ⟨a0, a1⟩ ⟨a0, a1⟩)
      have hcase := orN_in (a := a) (b := a) hw h12
      rw [← ec] at hcase
      have th7 : thQ A a 7 = tmF A.1.2 a 19 1 a := by
        unfold thQ
        rw [if_neg (fun q => q ⟨a0, a1⟩), if_neg (by omega), if_neg (by omega), if_neg (by omega), if_neg (by omega), if_neg (by omega), if_neg (by omega), if_neg (by omega), if_pos rfl]
      have ht1 := tmF_1 (t := A.1.2) (s := a)
      have ht2 := tmF_rng (t := A.1.2) (s := a) 19 1 a
      rw [← th7] at ht1 ht2
      have last : ∀ u w4, ClS w4 A → Kh 1 37 w w4 → Ok (R X (d + 6) 104 234 [some (.inr 1), some (.inl A.1.1), some (.inl m2), none, some (.inl a), none, none] [.inl u, .inl u] w4) (fun v w' => ∃ x, v = some (.inl x) ∧ QO w A (fun x => x = 1) x w') := by
        intro u w4 c4 k4
        refine ok_eq (b104_234 X (d + 5) 1 A.1.1 m2 a u u w4) (ok_iff (fun q => q rfl) (ok_gd (c4.1.1 1) (ok_I (th_q (d := d) c4 a 7) (fun v5 w5 ⟨e5, c5, k5⟩ => ok_iff (by omega) ?_))))
        rw [wrap_id (z := a + 1) (by omega) (by omega)]
        exact ih (m2, w5) ⟨by rw [← mny_n a0]; exact ey, c5, k4.tr k5⟩
      have k23 := (ky.tr k2).tr k3
      refine ok_if (fun hv => ok_eq (b104_224 X (d + 5) 1 A.1.1 m2 a c 0 w3) (ok_ift (by omega) (last 0 w3 c3 k23))) (fun hv => ok_eq (b104_224 X (d + 5) 1 A.1.1 m2 a c 1 w3) (ok_iff (by omega) (last 1 w3 c3 k23)))
  · intro z ⟨em, cz, kz⟩
    obtain ⟨m, z⟩ := z
    dsimp only at em cz kz ⊢
    rw [mny_end] at em
    refine ok_eq (b104_22 X (d + 5) 1 A.1.1 m 1 A.1.1 z) (ok_ift (Int.le_refl _) (ok_eq (b104_262 X (d + 5) 1 A.1.1 m 1 z) (ok_iff (by omega) (ok_gd (cz.1.1 1) (ok_I (ct_q (d := d) cz 1) (fun v1 w1 ⟨e1, c1, k1⟩ => ?_))))))
    have ep : ctQ A 1 = pws A.1.2 A.1.1 := by
      unfold ctQ
      rw [if_neg (by omega), if_pos rfl]
    refine ok_iff (fun q => q (by rw [e1, ep, em])) (ok_gd (c1.1.1 1) (ok_I (sumof_q (d := d + 3) c1 (u := 0) ⟨by omega, by omega⟩) (fun v2 w2 ⟨e2, c2, k2⟩ => ?_)))
    have hp := pw_rng (n := A.1.1) (by omega) h12
    have e0 : sumOfQ A 0 = 0 := by
      unfold sumOfQ
      rw [if_neg (fun q => q ⟨by omega, by omega⟩), soF_0 (by omega) h12]
      rfl
    refine ok_iff (fun q => q (e2.trans e0)) (ok_gd (c2.1.1 1) (ok_I (sumof_q (d := d + 3) c2 (u := shlI 1 A.1.1) ⟨by omega, by omega⟩) (fun v3 w3 ⟨e3, c3, k3⟩ => ?_)))
    have e4 : sumOfQ A (shlI 1 A.1.1) = -1 := if_pos (by omega)
    exact ok_iff (fun q => q (e3.trans e4)) (ok_ret ⟨_, rfl, rfl, c3, ((kz.tr k1).tr k2).tr k3⟩)
end SU
