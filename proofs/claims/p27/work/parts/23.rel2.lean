/-! what follows from the relations, in the class -/
noncomputable def smB (t : Int → Int → Int) (n s u : Int) : Bool := decide (andI (andI (andI (prt t n s) u) (xorI (shlI 1 s) (-1))) (xorI (shlI 1 0) (-1)) = 0)
noncomputable def smA (t : Int → Int → Int) (n s : Int) : Bool := decide (s ≠ 0) && smB t n s (-1)
noncomputable def shA (t : Int → Int → Int) (n s : Int) : Bool := decide (lsA (fun c => decide (t s c = 1)) n ≠ 12) && decide (andI (prt t n s) (prt t n (lsA (fun c => decide (t s c = 1)) n)) = 1)
noncomputable def smI (t : Int → Int → Int) (n u s : Int) : Bool := decide (1 ≤ s) && (tb u s.toNat && smB t n s u)
def sg3 (g : Int → Int → Int) (n i : Int) : Int := Sg (fun a => Sg (g a) (a + 1) (n - (a + 1)).toNat) 0 i.toNat
noncomputable def apt (t : Int → Int → Int) (n : Int) : Int := sg3 (fun a b => bI (tb (tgt t n a) b.toNat = false)) n n
noncomputable def isBk (t : Int → Int → Int) (n u : Int) : Bool := dB (∀ i : Nat, i < 32 → (tb u i = true ↔ ∀ s : Int, 0 ≤ s → s < n → tb u s.toNat = true → tb (tgt t n s) i = true))
noncomputable def nbk (t : Int → Int → Int) (n : Int) : Int := Sg (fun u => bI (isBk t n u = true)) 1 (shlI 1 n - 1).toNat
def nth (p : Int → Bool) : Nat → Int → Int → Int
  | 0, _, _ => 0
  | k + 1, u, r => if p u then (if r = 0 then u else nth p k (u + 1) (r - 1)) else nth p k (u + 1) r
noncomputable def bkAt (t : Int → Int → Int) (n r : Int) : Int := nth (isBk t n) (shlI 1 n - 1).toNat 1 r
section RM
variable {X : Nat × (Nat → Int)} {d : Nat} {w w' : MW} {n : Int} {t : Int → Int → Int}
theorem nop_ok (hS : Sh w) (h : RlS w t n) (hn : n ≤ 12) {s : Int} (hs : 0 ≤ s ∧ s < n) (u : Int) : run X (d + 1) 14 [.inr 22, .inl s, .inl u] w = some (some (.inl (bI (smB t n s u = true))), w) := by
  have k22 : kd w 22 = 12 := hS.1 22
  have k23 : kd w 23 = 1 := hS.1 23
  have l23 : ln w 23 = 12 := hS.2.1 23
  have g0 : gr w 22 0 = some 23 := hS.2.2 22 0 (by decide)
  apply ok_one
  refine ok_eq (b14_0 X d 22 s u w) (ok_gd k22 (ok_r g0 (ok_gd ⟨k23, hs.1, by rw [l23]; omega⟩ (ok_i (bit_ok X _ _ w) (ok_i (bit_ok X _ _ w) ?_)))))
  rw [(h.2 s hs.1 hs.2).1]
  refine ok_if (fun hc => ok_ret ⟨?_, rfl⟩) (fun hc => ok_ret ⟨?_, rfl⟩)
  · have : bI (smB t n s u = true) = 0 := bI_eq.mpr (by unfold smB; simpa using hc)
    rw [this]
  · have : bI (smB t n s u = true) = 1 := if_pos (by unfold smB; simpa using hc)
    rw [this]
theorem smA_ok (hS : Sh w) (h : RlS w t n) (hn : n ≤ 12) {s : Int} (hs : 0 ≤ s ∧ s < n) : run X (d + 2) 13 [.inr 22, .inl s] w = some (some (.inl (bI (smA t n s = true))), w) := by
  apply ok_one
  refine ok_eq (b13_0 X (d + 1) 22 s w) (ok_if (fun hc => ok_ret ⟨?_, rfl⟩) (fun hc => ok_gd (hS.1 22) (ok_i (nop_ok (d := d) hS h hn hs (-1)) (ok_if (fun h2 => ok_ret ⟨?_, rfl⟩) (fun h2 => ok_ret ⟨?_, rfl⟩)))))
  · have : bI (smA t n s = true) = 0 := bI_eq.mpr (by unfold smA; simp [hc])
    rw [this]
  · have : bI (smA t n s = true) = 0 := bI_eq.mpr (by unfold smA; have := bI_eq.mp h2; simp [this])
    rw [this]
  · have : bI (smA t n s = true) = 1 := if_pos (by unfold smA; have := bI_ne.mp h2; simp [this, hc])
    rw [this]
theorem shA_ok (hS : Sh w) (h : RlS w t n) (hn : n ≤ 12) (h0n : 0 ≤ n) {s : Int} (hs : 0 ≤ s ∧ s < n) : run X (d + 1) 15 [.inr 22, .inl s] w = some (some (.inl (bI (shA t n s = true))), w) := by
  have k22 : kd w 22 = 12 := hS.1 22
  have k23 : kd w 23 = 1 := hS.1 23
  have l23 : ln w 23 = 12 := hS.2.1 23
  have k26 : kd w 26 = 1 := hS.1 26
  have l26 : ln w 26 = 12 := hS.2.1 26
  have g0 : gr w 22 0 = some 23 := hS.2.2 22 0 (by decide)
  have g3 : gr w 22 3 = some 26 := hS.2.2 22 3 (by decide)
  have e1 : shlI 1 0 = 1 := by decide +kernel
  apply ok_one
  refine ok_eq (b15_0 X d 22 s w) (ok_gd k22 (ok_r g3 (ok_gd ⟨k26, hs.1, by rw [l26]; omega⟩ ?_)))
  rw [(h.2 s hs.1 hs.2).2.2.2]
  refine ok_if (fun hc => ok_ret ⟨?_, rfl⟩) (fun hc => ok_gd k22 (ok_r g0 (ok_gd ⟨k23, hs.1, by rw [l23]; omega⟩ (ok_gd k22 (ok_r g0 ?_)))))
  · have : bI (shA t n s = true) = 0 := bI_eq.mpr (by unfold shA; simp [hc])
    rw [this]
  · have hr := lsA_cases (p := fun c => decide (t s c = 1)) h0n
    have hr2 : 0 ≤ lsA (fun c => decide (t s c = 1)) n ∧ lsA (fun c => decide (t s c = 1)) n < n := by
      rcases hr with ⟨q, _⟩ | ⟨q1, q2, _⟩
      · exact absurd q hc
      · exact ⟨q1, q2⟩
    refine ok_gd ⟨k23, hr2.1, by rw [l23]; omega⟩ (ok_i (bit_ok X _ _ w) ?_)
    rw [(h.2 s hs.1 hs.2).1, (h.2 _ hr2.1 hr2.2).1, e1]
    refine ok_if (fun h2 => ok_ret ⟨?_, rfl⟩) (fun h2 => ok_ret ⟨?_, rfl⟩)
    · have : bI (shA t n s = true) = 0 := bI_eq.mpr (by unfold shA; simp [h2])
      rw [this]
    · have : bI (shA t n s = true) = 1 := if_pos (by unfold shA; have h3 := Decidable.not_not.mp h2; simp [h3, hc])
      rw [this]
theorem sms_ok (hS : Sh w) (h : RlS w t n) (hn : n ≤ 12) (h0n : 0 ≤ n) : run X (d + 3) 16 [.inr 22] w = some (some (.inl (bI2 (fun s => smA t n s) n)), w) := by
  have k22 : kd w 22 = 12 := hS.1 22
  apply ok_one
  refine ok_eq (b16_0 X (d + 2) 22 w) ?_
  refine ok_up (fun i s => R X (d + 3) 16 4 [some (.inr 22), some (.inl (bI2 (fun s => smA t n s) i)), some (.inl i)] [] s) (fun _ s => s = w) 0 n h0n ?_ ?_ w rfl
  · intro i s h1 h2 e ih
    subst e
    have := ih s rfl
    rw [bI2_s h1 (by omega), Int.toNat_of_nonneg h1] at this
    refine ok_eq (b16_4 X (d + 2) 22 _ i s) (ok_gd k22 (ok_iff (by rw [h.1]; omega) (ok_gd k22 (ok_i (smA_ok hS h hn ⟨h1, h2⟩) ?_))))
    rw [wrap_id (z := i + 1) (by omega) (by omega)]
    refine ok_if (fun hc => ?_) (fun hc => ok_i (bit_ok X _ i s) ?_)
    · rw [if_neg (bI_eq.mp hc)] at this; exact this
    · rw [if_pos (bI_ne.mp hc)] at this; exact this
  · intro s e
    subst e
    exact ok_eq (b16_4 X (d + 2) 22 _ n s) (ok_gd k22 (ok_ift (by rw [h.1]; omega) (ok_ret ⟨rfl, rfl⟩)))
theorem shs_ok (hS : Sh w) (h : RlS w t n) (hn : n ≤ 12) (h0n : 0 ≤ n) : run X (d + 2) 18 [.inr 22] w = some (some (.inl (bI2 (fun s => shA t n s) n)), w) := by
  have k22 : kd w 22 = 12 := hS.1 22
  apply ok_one
  refine ok_eq (b18_0 X (d + 1) 22 w) ?_
  refine ok_up (fun i s => R X (d + 2) 18 4 [some (.inr 22), some (.inl (bI2 (fun s => shA t n s) i)), some (.inl i)] [] s) (fun _ s => s = w) 0 n h0n ?_ ?_ w rfl
  · intro i s h1 h2 e ih
    subst e
    have := ih s rfl
    rw [bI2_s h1 (by omega), Int.toNat_of_nonneg h1] at this
    refine ok_eq (b18_4 X (d + 1) 22 _ i s) (ok_gd k22 (ok_iff (by rw [h.1]; omega) (ok_gd k22 (ok_i (shA_ok hS h hn h0n ⟨h1, h2⟩) ?_))))
    rw [wrap_id (z := i + 1) (by omega) (by omega)]
    refine ok_if (fun hc => ?_) (fun hc => ok_i (bit_ok X _ i s) ?_)
    · rw [if_neg (bI_eq.mp hc)] at this; exact this
    · rw [if_pos (bI_ne.mp hc)] at this; exact this
  · intro s e
    subst e
    exact ok_eq (b18_4 X (d + 1) 22 _ n s) (ok_gd k22 (ok_ift (by rw [h.1]; omega) (ok_ret ⟨rfl, rfl⟩)))
theorem smw_ok (hS : Sh w) (h : RlS w t n) (hn : n ≤ 12) (h1n : 1 ≤ n) (u : Int) : run X (d + 2) 17 [.inr 22, .inl u] w = some (some (.inl (bI2 (fun s => smI t n u s) n)), w) := by
  have k22 : kd w 22 = 12 := hS.1 22
  apply ok_one
  refine ok_eq (b17_0 X (d + 1) 22 u w) ?_
  have e0 : bI2 (fun s => smI t n u s) 1 = 0 := by
    have := bI2_s (p := fun s => smI t n u s) (i := 0) (by omega) (by omega)
    rw [show (0 : Int) + 1 = 1 by omega] at this
    rw [this, if_neg (by unfold smI; simp)]
    rfl
  refine ok_up (fun i s => R X (d + 2) 17 4 [some (.inr 22), some (.inl u), some (.inl (bI2 (fun s => smI t n u s) i)), some (.inl i)] [] s) (fun _ s => s = w) 1 n h1n ?_ ?_ w rfl |> fun z => by rw [e0] at z; exact z
  · intro i s h1 h2 e ih
    subst e
    have := ih s rfl
    rw [bI2_s (by omega) (by omega), Int.toNat_of_nonneg (by omega)] at this
    refine ok_eq (b17_4 X (d + 1) 22 u _ i s) (ok_gd k22 (ok_iff (by rw [h.1]; omega) (ok_i (bit_ok X _ i s) ?_)))
    rw [wrap_id (z := i + 1) (by omega) (by omega)]
    refine ok_if (fun hc => ?_) (fun hc => ok_gd k22 (ok_i (nop_ok hS h hn ⟨by omega, h2⟩ u) (ok_if (fun hc2 => ?_) (fun hc2 => ok_i (bit_ok X _ i s) ?_))))
    · rw [tb_andb (by omega) (by omega)] at hc
      rw [if_neg (by unfold smI; simp [hc])] at this; exact this
    · have h3 := bI_eq.mp hc2
      rw [if_neg (by unfold smI; simp [h3])] at this; exact this
    · have h3 := bI_ne.mp hc2
      rw [tb_andb (by omega) (by omega)] at hc
      rw [if_pos (by unfold smI; simp [h3, hc]; omega)] at this; exact this
  · intro s e
    subst e
    exact ok_eq (b17_4 X (d + 1) 22 u _ n s) (ok_gd k22 (ok_ift (by rw [h.1]; omega) (ok_ret ⟨rfl, rfl⟩)))
theorem sg3_bd {g : Int → Int → Int} (hg : ∀ a b, 0 ≤ g a b ∧ g a b ≤ 1) {n i : Int} (hn : n ≤ 12) (h0n : 0 ≤ n) (hi : i ≤ n) : 0 ≤ sg3 g n i ∧ sg3 g n i ≤ 144 := by
  have h3 : ∀ k : Nat, (k : Int) ≤ n → 0 ≤ Sg (fun a => Sg (g a) (a + 1) (n - (a + 1)).toNat) 0 k ∧ Sg (fun a => Sg (g a) (a + 1) (n - (a + 1)).toNat) 0 k ≤ 12 * k := by
    intro k
    induction k with
    | zero => intro _; simp [Sg]
    | succ k ihk =>
      intro hk
      have g1 := ihk (by omega)
      have g2 : 0 ≤ Sg (g (0 + (k : Int))) (0 + (k : Int) + 1) (n - (0 + (k : Int) + 1)).toNat ∧ Sg (g (0 + (k : Int))) (0 + (k : Int) + 1) (n - (0 + (k : Int) + 1)).toNat ≤ 1 * 12 := Sg_rng (fun b => hg _ b) (by omega) (by omega)
      rw [Sg]
      omega
  unfold sg3
  have := h3 i.toNat (by omega)
  omega
theorem sg3_s {g : Int → Int → Int} {n i : Int} (h : 0 ≤ i) : sg3 g n (i + 1) = sg3 g n i + Sg (g i) (i + 1) (n - (i + 1)).toNat := by
  unfold sg3
  have := Sg_s (f := fun a => Sg (g a) (a + 1) (n - (a + 1)).toNat) (lo := 0) (i := i) h
  rw [Int.sub_zero, Int.sub_zero] at this
  exact this
theorem apt_ok (hS : Sh w) (h : RlS w t n) (hn : n ≤ 12) (h0n : 0 ≤ n) : run X (d + 1) 19 [.inr 22] w = some (some (.inl (apt t n)), w) := by
  have k22 : kd w 22 = 12 := hS.1 22
  have k25 : kd w 25 = 1 := hS.1 25
  have l25 : ln w 25 = 12 := hS.2.1 25
  have g2 : gr w 22 2 = some 25 := hS.2.2 22 2 (by decide)
  have hb1 : ∀ a b : Int, 0 ≤ bI (tb (tgt t n a) b.toNat = false) ∧ bI (tb (tgt t n a) b.toNat = false) ≤ 1 := fun a b => bI_rng
  apply ok_one
  refine ok_eq (b19_0 X d 22 w) ?_
  refine ok_up (fun i s => R X (d + 1) 19 4 [some (.inr 22), some (.inl (sg3 (fun a b => bI (tb (tgt t n a) b.toNat = false)) n i)), some (.inl i), none] [] s) (fun _ s => s = w) 0 n h0n ?_ ?_ w rfl
  · intro i s h1 h2 e ih
    subst e
    have z := ih s rfl
    rw [sg3_s h1] at z
    have hA := sg3_bd hb1 hn h0n (i := i) (by omega)
    generalize sg3 (fun a b => bI (tb (tgt t n a) b.toNat = false)) n i = A at z hA ⊢
    refine ok_eq (b19_4 X d 22 A i s) (ok_gd k22 (ok_iff (by rw [h.1]; omega) ?_))
    rw [wrap_id (z := i + 1) (by omega) (by omega)]
    refine ok_up (fun j s' => R X (d + 1) 19 16 [some (.inr 22), some (.inl (A + Sg (fun b => bI (tb (tgt t n i) b.toNat = false)) (i + 1) (j - (i + 1)).toNat)), some (.inl i), some (.inl j)] [] s') (fun _ s' => s' = s) (i + 1) n (by omega) ?_ ?_ s rfl |> fun z => by rw [Int.sub_self, show (0 : Int).toNat = 0 from rfl, Sg, Int.add_zero] at z; exact z
    · intro j s' g1 g3 e' ih'
      subst e'
      have y := ih' s' rfl
      rw [Sg_s g1] at y
      have hj := Sg_rng (f := fun b => bI (tb (tgt t n i) b.toNat = false)) (lo := i + 1) (c := 1) (k := (j - (i + 1)).toNat) (fun b => bI_rng) (by omega) (by omega)
      refine ok_eq (b19_16 X d 22 _ i j s') (ok_gd k22 (ok_iff (by rw [h.1]; omega) (ok_gd k22 (ok_r g2 (ok_gd ⟨k25, h1, by rw [l25]; omega⟩ (ok_i (bit_ok X _ j s') ?_))))))
      rw [(h.2 i h1 h2).2.2.1, wrap_id (z := j + 1) (by omega) (by omega)]
      refine ok_if (fun hc => ?_) (fun hc => ?_)
      · have h3 : ¬ tb (tgt t n i) j.toNat = false := fun q => hc ((tb_andb (by omega) (by omega)).mpr q)
        rw [bI_eq.mpr h3, Int.add_zero] at y
        exact y
      · have h3 := (tb_andb (by omega) (by omega)).mp (Decidable.not_not.mp hc)
        have h4 : bI (tb (tgt t n i) j.toNat = false) = 1 := if_pos h3
        rw [h4, ← Int.add_assoc] at y
        rw [wrap_id (by omega) (by omega)]
        exact y
    · intro s' e'
      subst e'
      exact ok_eq (b19_16 X d 22 _ i n s') (ok_gd k22 (ok_ift (by rw [h.1]; omega) (by rw [wrap_id (z := i + 1) (by omega) (by omega)]; exact z)))
  · intro s e
    subst e
    exact ok_eq (b19_4 X d 22 _ n s) (ok_gd k22 (ok_ift (by rw [h.1]; omega) (ok_ret ⟨rfl, rfl⟩)))
theorem tb_shl0 : shlI 1 0 = 1 := by decide +kernel
theorem pw_rng {n : Int} (h0 : 0 ≤ n) (h12 : n ≤ 12) : 1 ≤ shlI 1 n ∧ shlI 1 n ≤ 4096 := by
  have key : ∀ k : Nat, k < 13 → 1 ≤ shlI 1 (k : Int) ∧ shlI 1 (k : Int) ≤ 4096 := by decide +kernel
  have := key n.toNat (by omega)
  rw [Int.toNat_of_nonneg h0] at this
  exact this
theorem pw_tb {n u : Int} (h0 : 0 ≤ n) (h12 : n ≤ 12) (hu0 : 0 ≤ u) (hu : u < shlI 1 n) {i : Nat} (hi : i < 32) (ht : tb u i = true) : (i : Int) < n := by
  rw [shl1 h0 (by omega)] at hu
  have e : ((u.toNat : Nat) : Int) = u := Int.toNat_of_nonneg hu0
  rw [← e, tb_nat hi] at ht
  have h1 : u.toNat < 2 ^ n.toNat := by omega
  refine Classical.byContradiction fun hc => ?_
  have h2 := Nat.testBit_lt_two_pow (i := i) (x := u.toNat) (Nat.lt_of_lt_of_le h1 (Nat.pow_le_pow_right (by omega) (by omega)))
  rw [h2] at ht
  exact absurd ht (by decide)
theorem isb_ok (hS : Sh w) (h : RlS w t n) (hn : n ≤ 12) (h0n : 0 ≤ n) {u : Int} (hu0 : 0 ≤ u) (hu : u < shlI 1 n) : run X (d + 1) 22 [.inr 22, .inl u] w = some (some (.inl (bI (isBk t n u = true))), w) := by
  have k22 : kd w 22 = 12 := hS.1 22
  have k25 : kd w 25 = 1 := hS.1 25
  have l25 : ln w 25 = 12 := hS.2.1 25
  have g2 : gr w 22 2 = some 25 := hS.2.2 22 2 (by decide)
  have hp := pw_rng h0n hn
  apply ok_one
  refine ok_eq (b22_0 X d 22 u w) ?_
  refine ok_up (fun i (z : Int × MW) => R X (d + 1) 22 4 [some (.inr 22), some (.inl u), some (.inl z.1), some (.inl i)] [] z.2) (fun m z => z.2 = w ∧ inR z.1 ∧ ∀ i : Nat, i < 32 → (tb z.1 i = true ↔ ∀ s : Int, 0 ≤ s → s < m → tb u s.toNat = true → tb (tgt t n s) i = true)) 0 n h0n ?_ ?_ (-1, w) ⟨rfl, (⟨by omega, by omega⟩ : inR (-1)), fun i hi => ⟨fun _ s q1 q2 => by omega, fun _ => tb_m1 hi⟩⟩
  · intro m z g1 g3 ⟨e, hI, hB⟩ ih
    obtain ⟨x, z2⟩ := z
    dsimp only at e hI hB ⊢
    subst e
    refine ok_eq (b22_4 X d 22 u x m z2) (ok_gd k22 (ok_iff (by rw [h.1]; omega) (ok_i (bit_ok X _ m z2) ?_)))
    rw [wrap_id (z := m + 1) (by omega) (by omega)]
    refine ok_if (fun hc => ih (x, z2) ⟨rfl, hI, fun i hi => ?_⟩) (fun hc => ok_gd k22 (ok_r g2 (ok_gd ⟨k25, g1, by rw [l25]; omega⟩ ?_)))
    · rw [tb_andb g1 (by omega)] at hc
      dsimp only
      rw [hB i hi]
      constructor
      · intro q s q1 q2 q3
        by_cases hs : s = m
        · rw [hs, hc] at q3; exact absurd q3 (by decide)
        · exact q s q1 (by omega) q3
      · intro q s q1 q2 q3
        exact q s q1 (by omega) q3
    · rw [tb_andb g1 (by omega)] at hc
      rw [(h.2 m g1 g3).2.2.1]
      refine ih (andI x (tgt t n m), z2) ⟨rfl, inR_op _ _ _, fun i hi => ?_⟩
      dsimp only
      rw [tb_and, Bool.and_eq_true, hB i hi]
      constructor
      · intro ⟨q, q'⟩ s q1 q2 q3
        by_cases hs : s = m
        · rw [hs]; exact q'
        · exact q s q1 (by omega) q3
      · intro q
        exact ⟨fun s q1 q2 q3 => q s q1 (by omega) q3, q m g1 (by omega) (by simpa using hc)⟩
  · intro z ⟨e, hI, hB⟩
    obtain ⟨x, z2⟩ := z
    dsimp only at e hI hB ⊢
    subst e
    refine ok_eq (b22_4 X d 22 u x n z2) (ok_gd k22 (ok_ift (by rw [h.1]; omega) (ok_if (fun hc => ok_ret ⟨?_, rfl⟩) (fun hc => ok_ret ⟨?_, rfl⟩))))
    · have : bI (isBk t n u = true) = 0 := by
        rw [bI_eq]
        unfold isBk
        rw [dB_iff]
        intro q
        refine hc (tb_ext hI ⟨by omega, by omega⟩ (fun i hi => ?_))
        apply Bool.eq_iff_iff.mpr
        rw [hB i hi, q i hi]
      rw [this]
    · have : bI (isBk t n u = true) = 1 := by
        refine if_pos ?_
        unfold isBk
        rw [dB_iff]
        intro i hi
        rw [← hB i hi, Decidable.not_not.mp hc]
      rw [this]
theorem nbk_ok (hS : Sh w) (h : RlS w t n) (hn : n ≤ 12) (h0n : 0 ≤ n) : run X (d + 2) 20 [.inr 22] w = some (some (.inl (nbk t n)), w) := by
  have k22 : kd w 22 = 12 := hS.1 22
  have hp := pw_rng h0n hn
  apply ok_one
  refine ok_eq (b20_0 X (d + 1) 22 w) ?_
  refine ok_up (fun i s => R X (d + 2) 20 4 [some (.inr 22), some (.inl (Sg (fun u => bI (isBk t n u = true)) 1 (i - 1).toNat)), some (.inl i)] [] s) (fun _ s => s = w) 1 (shlI 1 n) hp.1 ?_ ?_ w rfl
  · intro i s h1 h2 e ih
    subst e
    have z := ih s rfl
    rw [Sg_s h1] at z
    have hb := Sg_bd (f := fun u => bI (isBk t n u = true)) (lo := 1) (c := 1) (fun _ => bI_rng) (i - 1).toNat
    refine ok_eq (b20_4 X (d + 1) 22 _ i s) (ok_gd k22 (ok_i (bit_ok X _ _ s) (ok_iff (by rw [h.1]; omega) (ok_gd k22 (ok_i (isb_ok (d := d) hS h hn h0n (by omega) h2) ?_)))))
    rw [wrap_id (z := i + 1) (by omega) (by omega)]
    refine ok_if (fun hc => ?_) (fun hc => ?_)
    · rw [hc, Int.add_zero] at z; exact z
    · have h4 : bI (isBk t n i = true) = 1 := if_pos (bI_ne.mp hc)
      rw [h4] at z
      rw [wrap_id (by omega) (by omega)]
      exact z
  · intro s e
    subst e
    exact ok_eq (b20_4 X (d + 1) 22 _ _ s) (ok_gd k22 (ok_i (bit_ok X _ _ s) (ok_ift (by rw [h.1]; omega) (ok_ret ⟨rfl, rfl⟩))))
theorem nth_s {p : Int → Bool} {a b u : Int} (h : u < b) : nth p (b - u).toNat u a = if p u then (if a = 0 then u else nth p (b - (u + 1)).toNat (u + 1) (a - 1)) else nth p (b - (u + 1)).toNat (u + 1) a := by
  have e : (b - u).toNat = (b - (u + 1)).toNat + 1 := by omega
  rw [e, nth]
theorem bka_ok (hS : Sh w) (h : RlS w t n) (hn : n ≤ 12) (h0n : 0 ≤ n) {r : Int} (hr0 : 0 ≤ r) (hr : r < 2147483648) : run X (d + 2) 21 [.inr 22, .inl r] w = some (some (.inl (bkAt t n r)), w) := by
  have k22 : kd w 22 = 12 := hS.1 22
  have hp := pw_rng h0n hn
  apply ok_one
  refine ok_eq (b21_0 X (d + 1) 22 r w) ?_
  refine ok_up (fun i (z : Int × MW) => R X (d + 2) 21 4 [some (.inr 22), some (.inl r), some (.inl z.1), some (.inl i)] [] z.2) (fun i z => z.2 = w ∧ 0 ≤ z.1 ∧ z.1 ≤ r ∧ z.1 < i ∧ bkAt t n r = nth (isBk t n) (shlI 1 n - i).toNat i (r - z.1)) 1 (shlI 1 n) hp.1 ?_ ?_ (0, w) ⟨rfl, Int.le_refl _, hr0, Int.zero_lt_one, by rw [Int.sub_zero]; rfl⟩
  · intro i z h1 h2 ⟨e, z0, z1, z3, hE⟩ ih
    obtain ⟨x, s⟩ := z
    dsimp only at e z0 z1 z3 hE ⊢
    subst e
    rw [nth_s h2] at hE
    refine ok_eq (b21_4 X (d + 1) 22 r x i s) (ok_gd k22 (ok_i (bit_ok X _ _ s) (ok_iff (by rw [h.1]; omega) (ok_gd k22 (ok_i (isb_ok (d := d) hS h hn h0n (by omega) h2) ?_)))))
    rw [wrap_id (z := i + 1) (by omega) (by omega)]
    refine ok_if (fun hc => ?_) (fun hc => ok_if (fun hc2 => ?_) (fun hc2 => ok_ret ⟨?_, rfl⟩))
    · rw [if_neg (bI_eq.mp hc)] at hE
      exact ih (x, s) ⟨rfl, z0, z1, by dsimp only; omega, hE⟩
    · rw [if_pos (bI_ne.mp hc), if_neg (by omega)] at hE
      rw [wrap_id (z := x + 1) (by omega) (by omega)]
      refine ih (x + 1, s) ⟨rfl, by dsimp only; omega, by dsimp only; omega, by dsimp only; omega, ?_⟩
      dsimp only
      rw [hE, show r - (x + 1) = r - x - 1 by omega]
    · rw [if_pos (bI_ne.mp hc), if_pos (by omega)] at hE
      rw [hE]
  · intro z ⟨e, z0, z1, z3, hE⟩
    obtain ⟨x, s⟩ := z
    dsimp only at e z0 z1 z3 hE ⊢
    subst e
    rw [Int.sub_self] at hE
    exact ok_eq (b21_4 X (d + 1) 22 r x _ s) (ok_gd k22 (ok_i (bit_ok X _ _ s) (ok_ift (by rw [h.1]; omega) (ok_ret ⟨by rw [hE]; rfl, rfl⟩))))
end RM
