/-! the laws of the class: breaks by their keys, the triples' first -/
def unl (t : Int → Int → Int) (a b c : Int) : Bool := decide (t a (t b c) ≠ 12) && decide (t (t a b) c ≠ t a (t b c))
def rsts (t : Int → Int → Int) (n a : Int) : Int := Sg (fun b => bI (t a b = 1)) 0 n.toNat
def Bk (t : Int → Int → Int) (n k : Int) : Bool :=
  if k < 1728 then decide (k / 144 < n ∧ k / 12 % 12 < n ∧ k % 12 < n) && unl t (k / 144) (k / 12 % 12) (k % 12)
  else if k < 1740 then decide (k - 1728 < n) && decide (rsts t n (k - 1728) ≠ 1)
  else decide (k < 1752 ∧ 1 ≤ k - 1740 ∧ k - 1740 < n) && decide (t (k - 1740) 1 ≠ 12)
def nBk (t : Int → Int → Int) (n K : Int) : Int := Sg (fun k => bI (Bk t n k = true)) 0 K.toNat
def dl (k : Int) : Int := if k < 1728 then 0 else if k < 1740 then 1 else 2
def da (k : Int) : Int := if k < 1728 then k / 144 else (k - 1728) % 12
def fstB (t : Int → Int → Int) (n k : Int) : Prop := 0 ≤ k ∧ Bk t n k = true ∧ ∀ j, 0 ≤ j → j < k → Bk t n j = false
def LwS (t : Int → Int → Int) (n : Int) (w : MW) (K : Int) : Prop := gi w 21 0 = nBk t n K ∧ (gi w 21 0 ≠ 0 → ∃ k, k < K ∧ fstB t n k ∧ gi w 21 1 = dl k ∧ gi w 21 2 = da k ∧ (k < 1728 → gi w 21 3 = k / 12 % 12 ∧ gi w 21 4 = k % 12))
section LW
variable {X : Nat × (Nat → Int)} {d : Nat} {w w' : MW} {n K K' : Int} {t : Int → Int → Int}
theorem nBk_s (h : 0 ≤ K) : nBk t n (K + 1) = nBk t n K + bI (Bk t n K = true) := by
  unfold nBk
  have := Sg_s (f := fun k => bI (Bk t n k = true)) (lo := 0) (i := K) h
  rw [Int.sub_zero, Int.sub_zero] at this
  exact this
theorem nBk_gap (h0 : 0 ≤ K) : ∀ (m : Nat), (∀ j, K ≤ j → j < K + m → Bk t n j = false) → nBk t n (K + m) = nBk t n K
  | 0, _ => by simp
  | m + 1, h => by
    have e : K + ((m + 1 : Nat) : Int) = K + m + 1 := by omega
    rw [e, nBk_s (by omega), nBk_gap h0 m (fun j h1 h2 => h j h1 (by omega)), h (K + m) (by omega) (by omega)]
    simp [bI]
theorem nBk_rng : ∀ (m : Nat), 0 ≤ nBk t n m ∧ nBk t n m ≤ m := by
  intro m
  have := Sg_bd (f := fun k => bI (Bk t n k = true)) (lo := 0) (c := 1) (fun _ => bI_rng) m
  unfold nBk
  rw [Int.toNat_natCast]
  omega
theorem nBk_none (h0 : 0 ≤ K) (h : nBk t n K = 0) : ∀ j, 0 ≤ j → j < K → Bk t n j = false := by
  have key : ∀ (m : Nat), nBk t n m = 0 → ∀ j, 0 ≤ j → j < (m : Int) → Bk t n j = false := by
    intro m
    induction m with
    | zero => intro _ j h1 h2; omega
    | succ m ih =>
      intro hm j h1 h2
      have e : ((m + 1 : Nat) : Int) = (m : Int) + 1 := by omega
      rw [e, nBk_s (by omega)] at hm
      have a1 := nBk_rng (t := t) (n := n) m
      have a2 := bI_rng (c := Bk t n m = true)
      by_cases hj : j = (m : Int)
      · subst hj
        have : bI (Bk t n m = true) = 0 := by omega
        have := bI_eq.mp this
        simpa using this
      · exact ih (by omega) j h1 (by omega)
  intro j h1 h2
  have e : ((K.toNat : Nat) : Int) = K := Int.toNat_of_nonneg h0
  exact key K.toNat (by rw [e]; exact h) j h1 (by rw [e]; exact h2)
theorem LwS.gap (h : LwS t n w K) (h0 : 0 ≤ K) (hk : K ≤ K') (hb : ∀ j, K ≤ j → j < K' → Bk t n j = false) : LwS t n w K' := by
  obtain ⟨h1, h2⟩ := h
  have e : nBk t n K' = nBk t n K := by
    have := nBk_gap (t := t) (n := n) h0 (K' - K).toNat (fun j g1 g2 => hb j g1 (by omega))
    rw [show K + ((K' - K).toNat : Int) = K' by omega] at this
    exact this
  refine ⟨by rw [h1, e], fun hz => ?_⟩
  obtain ⟨k, q1, q2⟩ := h2 hz
  exact ⟨k, by omega, q2⟩
theorem note_ok (hS : Sh w) (h : LwS t n w K) (hK : 0 ≤ K ∧ K < 1752) (hB : Bk t n K = true) {a b c : Int} (ha : a = da K) (hbc : K < 1728 → b = K / 12 % 12 ∧ c = K % 12) {l : Int} (hl : l = dl K) : OkV (run X d 9 [.inr 21, .inl l, .inl a, .inl b, .inl c] w) (fun w' => LwS t n w' (K + 1) ∧ Kp 21 21 w w') := by
  have k21 : kd w 21 = 11 := hS.1 21
  obtain ⟨h1, h2⟩ := h
  have hr := nBk_rng (t := t) (n := n) K.toNat
  rw [Int.toNat_of_nonneg hK.1] at hr
  have e1 : nBk t n (K + 1) = nBk t n K + 1 := by
    rw [nBk_s hK.1]
    unfold bI
    rw [if_pos hB]
  refine ok_eq (b9_0 X d 21 l a b c w) (ok_gd k21 (ok_if (fun hz => ok_gd k21 (ok_gd k21 (ok_ret ⟨rfl, ⟨?_, fun _ => ?_⟩, Kp.si (by omega) (by omega)⟩))) (fun hz => ok_gd k21 (ok_gd k21 (ok_gd k21 (ok_gd k21 (ok_gd k21 (ok_gd k21 (ok_ret ⟨rfl, ⟨?_, fun _ => ?_⟩, ?_⟩)))))))))
  · rw [gi_si_eq, h1, wrap_id (by omega) (by omega), e1]
  · obtain ⟨k, q1, q2, q3, q4, q5⟩ := h2 hz
    refine ⟨k, by omega, q2, ?_, ?_, fun hk => ⟨?_, ?_⟩⟩
    · rw [gi_si_ne2 (by omega)]; exact q3
    · rw [gi_si_ne2 (by omega)]; exact q4
    · rw [gi_si_ne2 (by omega)]; exact (q5 hk).1
    · rw [gi_si_ne2 (by omega)]; exact (q5 hk).2
  · have hz0 : gi w 21 0 = 0 := by omega
    rw [gi_si_eq, gi_si_ne2 (by omega), gi_si_ne2 (by omega), gi_si_ne2 (by omega), gi_si_ne2 (by omega), hz0, wrap_id (by omega) (by omega), e1, ← h1, hz0]
  · have hz0 : gi w 21 0 = 0 := by omega
    refine ⟨K, by omega, ⟨hK.1, hB, nBk_none hK.1 (by rw [← h1]; exact hz0)⟩, ?_, ?_, fun hk => ⟨?_, ?_⟩⟩
    · rw [gi_si_ne2 (by omega), gi_si_ne2 (by omega), gi_si_ne2 (by omega), gi_si_ne2 (by omega), gi_si_eq, hl]
    · rw [gi_si_ne2 (by omega), gi_si_ne2 (by omega), gi_si_ne2 (by omega), gi_si_eq, ha]
    · rw [gi_si_ne2 (by omega), gi_si_ne2 (by omega), gi_si_eq]; exact (hbc hk).1
    · rw [gi_si_ne2 (by omega), gi_si_eq]; exact (hbc hk).2
  · exact ((((Kp.si (by omega) (by omega)).tr (Kp.si (by omega) (by omega))).tr (Kp.si (by omega) (by omega))).tr (Kp.si (by omega) (by omega))).tr (Kp.si (by omega) (by omega))
theorem Bk_tri {a b c : Int} (ha : 0 ≤ a ∧ a < 12) (hb : 0 ≤ b ∧ b < 12) (hc : 0 ≤ c ∧ c < 12) : Bk t n (144 * a + 12 * b + c) = (decide (a < n ∧ b < n ∧ c < n) && unl t a b c) := by
  unfold Bk
  rw [if_pos (by omega), show (144 * a + 12 * b + c) / 144 = a by omega, show (144 * a + 12 * b + c) / 12 % 12 = b by omega, show (144 * a + 12 * b + c) % 12 = c by omega]
theorem regr_ok (hS : Sh w) (hT : Tb w 2 n t) {a b : Int} (ha : 0 ≤ a ∧ a < n) (hb : 0 ≤ b ∧ b < n) (h : LwS t n w (144 * a + 12 * b)) : OkV (run X (d + 2) 7 [.inr 21, .inr 2, .inl a, .inl b] w) (fun w' => LwS t n w' (144 * a + 12 * (b + 1)) ∧ Kp 21 21 w w') := by
  have h12 := hT.n12
  refine ok_eq (b7_0 X (d + 1) 21 2 a b w) ?_
  refine ok_up (fun i s => R X (d + 2) 7 3 [some (.inr 21), some (.inr 2), some (.inl a), some (.inl b), some (.inl i), none, none] [] s) (fun i s => LwS t n s (144 * a + 12 * b + i) ∧ Kp 21 21 w s) 0 n (by omega) ?_ ?_ w ⟨by rw [Int.add_zero]; exact h, Kp.rf⟩
  · intro i s g1 g2 ⟨hL, hK⟩ ih
    have hT2 := hT.kp hK (by omega)
    have hB := Bk_tri (t := t) (n := n) (a := a) (b := b) (c := i) ⟨ha.1, by omega⟩ ⟨hb.1, by omega⟩ ⟨g1, by omega⟩
    have hd : decide (a < n ∧ b < n ∧ i < n) = true := decide_eq_true ⟨ha.2, hb.2, g2⟩
    rw [hd, Bool.true_and] at hB
    have skip : unl t a b i = false → Ok (R X (d + 2) 7 3 [some (.inr 21), some (.inr 2), some (.inl a), some (.inl b), some (.inl (i + 1)), none, none] [] s) (fun v w' => v = none ∧ LwS t n w' (144 * a + 12 * (b + 1)) ∧ Kp 21 21 w w') := by
      intro hu
      refine ih s ⟨?_, hK⟩
      rw [← Int.add_assoc]
      refine hL.gap (by omega) (by omega) (fun j q1 q2 => ?_)
      rw [show j = 144 * a + 12 * b + i by omega, hB, hu]
    refine ok_eq (b7_3 X (d + 1) 21 2 a b i s) (ok_gd hT2.k (ok_iff (by rw [hT2.sz]; omega) (ok_gd hT2.k (ok_i (at_ok hT2 b i) (ok_gd hT2.k (ok_i (at_ok hT2 a _) (ok_gd hT2.k (ok_i (at_ok hT2 a b) (ok_gd hT2.k (ok_i (at_ok hT2 _ i) ?_))))))))))
    rw [wrap_id (z := i + 1) (by omega) (by omega)]
    refine ok_if (fun hc => skip ?_) (fun hc => ok_if (fun hc2 => skip ?_) (fun hc2 => ok_gd ((hS.kp hK).1 21) ?_))
    · unfold unl
      simp [hc]
    · unfold unl
      simp [hc2]
    · have hu : unl t a b i = true := by
        unfold unl
        simp [hc, hc2]
      refine ok_V (note_ok (hS.kp hK) hL (by omega) (by rw [hB, hu]) (by unfold da; rw [if_pos (by omega)]; omega) (fun _ => by omega) (by unfold dl; rw [if_pos (by omega)])) (fun s2 ⟨q1, q2⟩ => ih s2 ⟨by rw [← Int.add_assoc]; exact q1, hK.tr q2⟩)
  · intro s ⟨hL, hK⟩
    have hT2 := hT.kp hK (by omega)
    refine ok_eq (b7_3 X (d + 1) 21 2 a b n s) (ok_gd hT2.k (ok_ift (by rw [hT2.sz]; omega) (ok_ret ⟨rfl, hL.gap (by omega) (by omega) (fun j q1 q2 => ?_), hK⟩)))
    have hB := Bk_tri (t := t) (n := n) (a := a) (b := b) (c := j - (144 * a + 12 * b)) ⟨ha.1, by omega⟩ ⟨hb.1, by omega⟩ (by omega)
    rw [show 144 * a + 12 * b + (j - (144 * a + 12 * b)) = j by omega] at hB
    rw [hB]
    have : decide (a < n ∧ b < n ∧ j - (144 * a + 12 * b) < n) = false := decide_eq_false (by omega)
    rw [this]
    rfl
theorem rsts_ok (hT : Tb w 2 n t) (a : Int) : run X (d + 2) 8 [.inr 2, .inl a] w = some (some (.inl (rsts t n a)), w) := by
  have h12 := hT.n12
  have h0 := hT.n0
  apply ok_one
  refine ok_eq (b8_0 X (d + 1) 2 a w) ?_
  have e0 : ∀ i : Int, Sg (fun b => bI (t a b = 1)) 0 (i - 0).toNat = Sg (fun b => bI (t a b = 1)) 0 i.toNat := fun i => by rw [Int.sub_zero]
  refine ok_up (fun i s => R X (d + 2) 8 4 [some (.inr 2), some (.inl a), some (.inl (Sg (fun b => bI (t a b = 1)) 0 i.toNat)), some (.inl i)] [] s) (fun _ s => s = w) 0 n h0 ?_ ?_ w rfl
  · intro i s g1 g2 e ih
    subst e
    have z := ih s rfl
    have hs := Sg_s (f := fun b => bI (t a b = 1)) (lo := 0) (i := i) g1
    rw [Int.sub_zero, Int.sub_zero] at hs
    rw [hs] at z
    have hb : 0 ≤ Sg (fun b => bI (t a b = 1)) 0 i.toNat ∧ Sg (fun b => bI (t a b = 1)) 0 i.toNat ≤ 1 * 12 := Sg_rng (fun _ => bI_rng) (by omega) (by omega)
    refine ok_eq (b8_4 X (d + 1) 2 a _ i s) (ok_gd hT.k (ok_iff (by rw [hT.sz]; omega) (ok_gd hT.k (ok_i (at_ok hT a i) ?_))))
    rw [wrap_id (z := i + 1) (by omega) (by omega)]
    refine ok_if (fun hc => ?_) (fun hc => ?_)
    · have : bI (t a i = 1) = 0 := bI_eq.mpr hc
      rw [this, Int.add_zero] at z
      exact z
    · have : bI (t a i = 1) = 1 := by unfold bI; rw [if_pos (by omega)]
      rw [this] at z
      rw [wrap_id (by omega) (by omega)]
      exact z
  · intro s e
    subst e
    exact ok_eq (b8_4 X (d + 1) 2 a _ n s) (ok_gd hT.k (ok_ift (by rw [hT.sz]; omega) (ok_ret ⟨rfl, rfl⟩)))
theorem check_ok (hS : Sh w) (hT : Tb w 2 n t) (hn : 1 ≤ n) : OkV (run X (d + 3) 6 [.inr 21, .inr 2] w) (fun w' => LwS t n w' 1752 ∧ Kp 21 21 w w') := by
  have h12 := hT.n12
  have k21 : kd w 21 = 11 := hS.1 21
  refine ok_eq (b6_0 X (d + 2) 21 2 w) (ok_gd k21 ?_)
  have hL0 : LwS t n (si w 21 0 0) 0 := ⟨by rw [gi_si_eq]; rfl, fun h => absurd gi_si_eq h⟩
  have part3 : ∀ s, LwS t n s 1740 → Kp 21 21 w s → Ok (R X (d + 3) 6 79 [some (.inr 21), some (.inr 2), some (.inl 1), none] [] s) (fun v w' => v = none ∧ LwS t n w' 1752 ∧ Kp 21 21 w w') := by
    intro s hL hK
    refine ok_up (fun i s => R X (d + 3) 6 79 [some (.inr 21), some (.inr 2), some (.inl i), none] [] s) (fun i s => LwS t n s (1740 + i) ∧ Kp 21 21 w s) 1 n hn ?_ ?_ s ⟨hL.gap (by omega) (by omega) (fun j q1 q2 => ?_), hK⟩
    · intro i s g1 g2 ⟨hL, hK⟩ ih
      have hT2 := hT.kp hK (by omega)
      have hB : Bk t n (1740 + i) = decide (t i 1 ≠ 12) := by
        unfold Bk
        rw [if_neg (by omega), if_neg (by omega), show 1740 + i - 1740 = i by omega]
        have : decide (1740 + i < 1752 ∧ 1 ≤ i ∧ i < n) = true := decide_eq_true (by omega)
        rw [this, Bool.true_and]
      refine ok_eq (b6_79 X (d + 2) 21 2 i s) (ok_gd hT2.k (ok_iff (by rw [hT2.sz]; omega) (ok_gd hT2.k (ok_i (hasSum_ok hT2 i 1) ?_))))
      rw [wrap_id (z := i + 1) (by omega) (by omega)]
      refine ok_if (fun hc => ih s ⟨?_, hK⟩) (fun hc => ok_gd ((hS.kp hK).1 21) ?_)
      · rw [← Int.add_assoc]
        refine hL.gap (by omega) (by omega) (fun j q1 q2 => ?_)
        rw [show j = 1740 + i by omega, hB]
        simpa using bI_eq.mp hc
      · refine ok_V (note_ok (hS.kp hK) hL (by omega) (by rw [hB]; simpa using bI_ne.mp hc) (by unfold da; rw [if_neg (by omega)]; omega) (fun q => by omega) (by unfold dl; rw [if_neg (by omega), if_neg (by omega)])) (fun s2 ⟨q1, q2⟩ => ih s2 ⟨by rw [← Int.add_assoc]; exact q1, hK.tr q2⟩)
    · intro s ⟨hL, hK⟩
      have hT2 := hT.kp hK (by omega)
      refine ok_eq (b6_79 X (d + 2) 21 2 n s) (ok_gd hT2.k (ok_ift (by rw [hT2.sz]; omega) (ok_ret ⟨rfl, hL.gap (by omega) (by omega) (fun j q1 q2 => ?_), hK⟩)))
      unfold Bk
      rw [if_neg (by omega), if_neg (by omega)]
      have : decide (j < 1752 ∧ 1 ≤ j - 1740 ∧ j - 1740 < n) = false := decide_eq_false (by omega)
      rw [this]
      rfl
    · unfold Bk
      rw [if_neg (by omega), if_neg (by omega)]
      have : decide (j < 1752 ∧ 1 ≤ j - 1740 ∧ j - 1740 < n) = false := decide_eq_false (by omega)
      rw [this]
      rfl
  have part2 : ∀ s, LwS t n s 1728 → Kp 21 21 w s → Ok (R X (d + 3) 6 46 [some (.inr 21), some (.inr 2), some (.inl 0), none] [] s) (fun v w' => v = none ∧ LwS t n w' 1752 ∧ Kp 21 21 w w') := by
    intro s hL hK
    refine ok_up (fun i s => R X (d + 3) 6 46 [some (.inr 21), some (.inr 2), some (.inl i), none] [] s) (fun i s => LwS t n s (1728 + i) ∧ Kp 21 21 w s) 0 n (by omega) ?_ ?_ s ⟨by rw [Int.add_zero]; exact hL, hK⟩
    · intro i s g1 g2 ⟨hL, hK⟩ ih
      have hT2 := hT.kp hK (by omega)
      have hB : Bk t n (1728 + i) = decide (rsts t n i ≠ 1) := by
        unfold Bk
        rw [if_neg (by omega), if_pos (by omega), show 1728 + i - 1728 = i by omega]
        have : decide (i < n) = true := decide_eq_true g2
        rw [this, Bool.true_and]
      refine ok_eq (b6_46 X (d + 2) 21 2 i s) (ok_gd hT2.k (ok_iff (by rw [hT2.sz]; omega) (ok_i (rsts_ok hT2 i) ?_)))
      rw [wrap_id (z := i + 1) (by omega) (by omega)]
      refine ok_if (fun hc => ih s ⟨?_, hK⟩) (fun hc => ok_gd ((hS.kp hK).1 21) ?_)
      · rw [← Int.add_assoc]
        refine hL.gap (by omega) (by omega) (fun j q1 q2 => ?_)
        rw [show j = 1728 + i by omega, hB]
        simpa using hc
      · refine ok_V (note_ok (hS.kp hK) hL (by omega) (by rw [hB]; simpa using hc) (by unfold da; rw [if_neg (by omega)]; omega) (fun q => by omega) (by unfold dl; rw [if_neg (by omega), if_pos (by omega)])) (fun s2 ⟨q1, q2⟩ => ih s2 ⟨by rw [← Int.add_assoc]; exact q1, hK.tr q2⟩)
    · intro s ⟨hL, hK⟩
      have hT2 := hT.kp hK (by omega)
      refine ok_eq (b6_46 X (d + 2) 21 2 n s) (ok_gd hT2.k (ok_ift (by rw [hT2.sz]; omega) (part3 s (hL.gap (by omega) (by omega) (fun j q1 q2 => ?_)) hK)))
      unfold Bk
      rw [if_neg (by omega), if_pos (by omega)]
      have : decide (j - 1728 < n) = false := decide_eq_false (by omega)
      rw [this]
      rfl
  refine ok_up (fun i s => R X (d + 3) 6 7 [some (.inr 21), some (.inr 2), some (.inl i), none] [] s) (fun i s => LwS t n s (144 * i) ∧ Kp 21 21 w s) 0 n (by omega) ?_ ?_ _ ⟨by rw [Int.mul_zero]; exact hL0, Kp.si (by omega) (by omega)⟩
  · intro i s g1 g2 ⟨hL, hK⟩ ih
    have hT2 := hT.kp hK (by omega)
    refine ok_eq (b6_7 X (d + 2) 21 2 i s) (ok_gd hT2.k (ok_iff (by rw [hT2.sz]; omega) ?_))
    refine ok_up (fun j s => R X (d + 3) 6 17 [some (.inr 21), some (.inr 2), some (.inl i), some (.inl j)] [] s) (fun j s => LwS t n s (144 * i + 12 * j) ∧ Kp 21 21 w s) 0 n (by omega) ?_ ?_ s ⟨by rw [Int.mul_zero, Int.add_zero]; exact hL, hK⟩
    · intro j s2 g3 g4 ⟨hL2, hK2⟩ ih2
      have hT3 := hT.kp hK2 (by omega)
      refine ok_eq (b6_17 X (d + 2) 21 2 i j s2) (ok_gd hT3.k (ok_iff (by rw [hT3.sz]; omega) (ok_gd ((hS.kp hK2).1 21) ?_)))
      rw [wrap_id (z := j + 1) (by omega) (by omega)]
      exact ok_V (regr_ok (d := d) (hS.kp hK2) hT3 ⟨g1, g2⟩ ⟨g3, g4⟩ hL2) (fun s3 ⟨q1, q2⟩ => ih2 s3 ⟨q1, hK2.tr q2⟩)
    · intro s2 ⟨hL2, hK2⟩
      have hT3 := hT.kp hK2 (by omega)
      refine ok_eq (b6_17 X (d + 2) 21 2 i n s2) (ok_gd hT3.k (ok_ift (by rw [hT3.sz]; omega) ?_))
      rw [wrap_id (z := i + 1) (by omega) (by omega)]
      refine ih s2 ⟨hL2.gap (by omega) (by omega) (fun j q1 q2 => ?_), hK2⟩
      unfold Bk
      rw [if_pos (by omega)]
      have : decide (j / 144 < n ∧ j / 12 % 12 < n ∧ j % 12 < n) = false := decide_eq_false (by omega)
      rw [this]
      rfl
  · intro s ⟨hL, hK⟩
    have hT2 := hT.kp hK (by omega)
    refine ok_eq (b6_7 X (d + 2) 21 2 n s) (ok_gd hT2.k (ok_ift (by rw [hT2.sz]; omega) (part2 s (hL.gap (by omega) (by omega) (fun j q1 q2 => ?_)) hK)))
    unfold Bk
    rw [if_pos (by omega)]
    have : decide (j / 144 < n ∧ j / 12 % 12 < n ∧ j % 12 < n) = false := decide_eq_false (by omega)
    rw [this]
    rfl
end LW
