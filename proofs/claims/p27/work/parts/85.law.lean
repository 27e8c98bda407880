/-! p27's law, its loop -/
theorem Sg_z {a : Int → Int} {lo : Int} : ∀ m : Nat, (∀ x, lo ≤ x → x < lo + m → a x = 0) → Sg a lo m = 0
  | 0, _ => rfl
  | m + 1, h => by
    rw [Sg, Sg_z m (fun x x0 x1 => h x x0 (by omega)), h (lo + m) (by omega) (by omega)]
    rfl
theorem nBk_0 {t : Int → Int → Int} {n : Int} : nBk t n 1752 = 0 ↔ fbN t n := by
  unfold nBk
  constructor
  · intro h k k0 k1
    have := Sg_ge (a := fun k => bI (Bk t n k = true)) (lo := 0) (y := k) (Int.toNat 1752) (fun x _ _ => bI_rng.1) k0 (by omega)
    cases e : Bk t n k with
    | false => rfl
    | true =>
      have e1 : bI (Bk t n k = true) = 1 := if_pos e
      omega
  · intro h
    refine Sg_z _ (fun x x0 x1 => ?_)
    have := h x x0 (by omega)
    exact if_neg (by rw [this]; decide)
theorem br_5 {A : AS} {v : Int} (h : brQ A 0 v) : v = -5 ↔ nBk A.1.2 A.1.1 1752 = 0 := by
  unfold brQ at h
  rw [if_neg (by omega)] at h
  rw [nBk_0]
  rcases h with ⟨h1, h2⟩ | ⟨k, k1, ⟨k2, k3, -⟩, h2⟩
  · exact ⟨fun _ => h1, fun _ => h2⟩
  · constructor
    · intro e
      exfalso
      unfold brV at h2
      rw [if_neg (by omega), if_pos rfl] at h2
      unfold dl at h2
      (repeat' split at h2) <;> omega
    · intro e
      have := e k k2 k1
      rw [k3] at this
      exact absurd this (by decide)
def LJ (S : Nat) (w : MW) (A : AS) : Prop := ClS w A ∧ nx w = 38 ∧ sl w = S
def LwP (S : Nat) (v : Option MV) (w' : MW) : Prop := v = some (.inl 1) ∧ nx w' = 38 ∧ sl w' = S
section LW
variable {X : Nat × (Nat → Int)} {S : Nat} {w w1 : MW} {A B : AS}
theorem LJ.kh (h : LJ S w A) (c : ClS w1 B) (k : Kh 1 37 w w1) : LJ S w1 B := ⟨c, by unfold nx; rw [k.1]; exact h.2.1, by unfold sl; rw [k.1]; exact h.2.2⟩
theorem ct0 : ctQ A 0 = A.1.1 := if_pos rfl
theorem ct2 : ctQ A 2 = bI (nBk A.1.2 A.1.1 1752 = 0) := by
  unfold ctQ
  rw [if_neg (by omega), if_neg (by omega), if_pos rfl]
theorem ct7 : ctQ A 7 = nBk A.1.2 A.1.1 1752 := by
  unfold ctQ
  rw [if_neg (by omega), if_neg (by omega), if_neg (by omega), if_neg (by omega), if_neg (by omega), if_neg (by omega), if_neg (by omega), if_pos rfl]
theorem ct8 : ctQ A 8 = (A.2.2.1.length : Int) := by
  unfold ctQ
  rw [if_neg (by omega), if_neg (by omega), if_neg (by omega), if_neg (by omega), if_neg (by omega), if_neg (by omega), if_neg (by omega), if_neg (by omega), if_pos rfl]
theorem law208 (hX : X.1 < 2147483648) (h : LJ S w A) {T j : Int} (hj : 0 ≤ j ∧ j ≤ 13) (hT : 0 ≤ T ∧ T ≤ 14) (nxt : ∀ (y : MW) (B : AS), LJ S y B → Ok (R X 31 0 32 [some (.inr 0), some (.inr 1), some (.inl 1), some (.inl T), some (.inl (j + 1)), none, none, none, none] [] y) (LwP S)) : Ok (R X 31 0 208 [some (.inr 0), some (.inr 1), none, some (.inl T), some (.inl j), none, none, none, some (.inl A.1.1)] [.inl 1] w) (LwP S) := by
  refine ok_eq (b0_208 X 30 0 1 T j A.1.1 1 w) ?_
  rw [wrap_id (z := j + 1) (by omega) (by omega), wrap_id (z := 5 * j) (by omega) (by omega), wrap_id (z := 5 * j + 4) (by omega) (by omega)]
  refine ok_if (fun _ => nxt w A h) (fun _ => ok_iff (by omega) (ok_I (blocks_ok (d := 24) h.1) (fun v1 w1 ⟨e1, c1, k1⟩ => ?_)))
  have ev1 : v1 = 1 := e1
  have h1 := h.kh c1 k1
  obtain ⟨v2, q2⟩ := cell_ex (d := 30) (w := w1) hX (k := 5 * j + 4) (by omega)
  have hl := lowF_rng (v := v2) (n := 6) (by omega) (by omega)
  refine ok_iff (by omega) (ok_i q2 (ok_i (low_e (by omega)) ?_))
  rw [wrap_id (z := 1 + lowF v2 6) (by omega) (by omega)]
  refine ok_I (weights_ok (d := 4) c1 (k := 1 + lowF v2 6) ⟨by omega, by omega⟩) (fun v3 w3 ⟨e3, c3, k3⟩ => ?_)
  have ev3 : v3 = 1 := e3
  exact ok_iff (by omega) (nxt w3 A (h1.kh c3 k3))
theorem law121 (hX : X.1 < 2147483648) (h : LJ S w A) {T j : Int} (hj : 0 ≤ j ∧ j ≤ 13) (hT : 0 ≤ T ∧ T ≤ 14) (nxt : ∀ (y : MW) (B : AS), LJ S y B → Ok (R X 31 0 32 [some (.inr 0), some (.inr 1), some (.inl 1), some (.inl T), some (.inl (j + 1)), none, none, none, none] [] y) (LwP S)) : Ok (R X 31 0 121 [some (.inr 0), some (.inr 1), none, some (.inl T), some (.inl j), none, none, none, some (.inl A.1.1)] [] w) (LwP S) := by
  refine ok_eq (b0_121 X 30 0 1 T j A.1.1 w) (ok_I (sums_ok (d := 24) h.1) (fun v1 w1 ⟨e1, c1, k1⟩ => ?_))
  have ev1 : v1 = 1 := e1
  have h1 := h.kh c1 k1
  have t200 : ∀ (u : Int) (y : MW), LJ S y A → Ok (R X 31 0 200 [some (.inr 0), some (.inr 1), none, some (.inl T), some (.inl j), none, none, none, some (.inl A.1.1)] [.inl u, .inl u] y) (LwP S) := fun u y hy => ok_eq (b0_200 X 30 0 1 T j A.1.1 u u y) (ok_iff (fun q => q rfl) (law208 hX hy hj hT nxt))
  have t185 : ∀ (u : Int) (y : MW), (u = 0 ∨ u = 1) → (u = 1 ↔ nBk A.1.2 A.1.1 1752 = 0) → LJ S y A → Ok (R X 31 0 185 [some (.inr 0), some (.inr 1), none, some (.inl T), some (.inl j), none, none, none, some (.inl A.1.1)] [.inl u] y) (LwP S) := by
    intro u y hu hu2 hy
    refine ok_eq (b0_185 X 30 0 1 T j A.1.1 u y) (ok_gd (hy.1.1.1 1) (ok_I (br_q (d := 26) hy.1 0) (fun v2 w2 ⟨e2, c2, k2⟩ => ?_)))
    have hb := br_5 e2
    refine ok_if (fun g => ?_) (fun g => ?_)
    · have : u = 0 := by omega
      rw [this]
      exact t200 0 w2 (hy.kh c2 k2)
    · have : u = 1 := by omega
      rw [this]
      exact t200 1 w2 (hy.kh c2 k2)
  have two : ∀ {v : Int}, v = bI (nBk A.1.2 A.1.1 1752 = 0) → ((v ≠ 1 → ((0 : Int) = 1 ↔ nBk A.1.2 A.1.1 1752 = 0)) ∧ (¬ v ≠ 1 → ((1 : Int) = 1 ↔ nBk A.1.2 A.1.1 1752 = 0))) := by
    intro v hv
    by_cases g : nBk A.1.2 A.1.1 1752 = 0
    · have e : bI (nBk A.1.2 A.1.1 1752 = 0) = 1 := if_pos g
      exact ⟨fun q => absurd (hv.trans e) q, fun _ => ⟨fun _ => g, fun _ => rfl⟩⟩
    · have e : bI (nBk A.1.2 A.1.1 1752 = 0) = 0 := if_neg g
      exact ⟨fun _ => ⟨fun q => absurd q (by decide), fun q => absurd q g⟩, fun q => absurd (show v ≠ 1 by omega) q⟩
  have t168 : ∀ (u : Int) (y : MW), LJ S y A → Ok (R X 31 0 168 [some (.inr 0), some (.inr 1), none, some (.inl T), some (.inl j), none, none, none, some (.inl A.1.1)] [.inl u, .inl u] y) (LwP S) := by
    intro u y hy
    refine ok_eq (b0_168 X 30 0 1 T j A.1.1 u u y) (ok_iff (fun q => q rfl) (ok_gd (hy.1.1.1 1) (ok_I (ct_q (d := 25) hy.1 2) (fun v2 w2 ⟨e2, c2, k2⟩ => ?_))))
    have hv := two (e2.trans ct2)
    exact ok_if (fun g => t185 0 w2 (Or.inl rfl) (hv.1 g) (hy.kh c2 k2)) (fun g => t185 1 w2 (Or.inr rfl) (hv.2 g) (hy.kh c2 k2))
  have t154 : ∀ (u : Int) (y : MW), (u = 0 ∨ u = 1) → (u = 1 ↔ nBk A.1.2 A.1.1 1752 = 0) → LJ S y A → Ok (R X 31 0 154 [some (.inr 0), some (.inr 1), none, some (.inl T), some (.inl j), none, none, none, some (.inl A.1.1)] [.inl u] y) (LwP S) := by
    intro u y hu hu2 hy
    refine ok_eq (b0_154 X 30 0 1 T j A.1.1 u y) (ok_gd (hy.1.1.1 1) (ok_I (ct_q (d := 25) hy.1 7) (fun v2 w2 ⟨e2, c2, k2⟩ => ?_)))
    have ev : v2 = nBk A.1.2 A.1.1 1752 := e2.trans ct7
    refine ok_if (fun g => ?_) (fun g => ?_)
    · have : u = 0 := by omega
      rw [this]
      exact t168 0 w2 (hy.kh c2 k2)
    · have : u = 1 := by omega
      rw [this]
      exact t168 1 w2 (hy.kh c2 k2)
  refine ok_iff (by omega) (ok_eq (b0_135 X 30 0 1 T j A.1.1 1 w1) (ok_iff (by omega) (ok_gd (c1.1.1 1) (ok_I (ct_q (d := 25) c1 2) (fun v2 w2 ⟨e2, c2, k2⟩ => ?_)))))
  have hv := two (e2.trans ct2)
  exact ok_if (fun g => t154 0 w2 (Or.inl rfl) (hv.1 g) (h1.kh c2 k2)) (fun g => t154 1 w2 (Or.inr rfl) (hv.2 g) (h1.kh c2 k2))
theorem law78 (hX : X.1 < 2147483648) (h : LJ S w A) {T j : Int} (hj : 0 ≤ j ∧ j ≤ 13) (hT : 0 ≤ T ∧ T ≤ 14) (nxt : ∀ (y : MW) (B : AS), LJ S y B → Ok (R X 31 0 32 [some (.inr 0), some (.inr 1), some (.inl 1), some (.inl T), some (.inl (j + 1)), none, none, none, none] [] y) (LwP S)) : Ok (R X 31 0 78 [some (.inr 0), some (.inr 1), some (.inl 1), some (.inl T), some (.inl j), some (.inl A.1.1), some (.inl (A.2.2.1.length : Int)), none, none] [] w) (LwP S) := by
  refine ok_eq (b0_78 X 30 0 1 1 T j _ _ w) (ok_I (act_ok (d := 23) hX h.1 hj) (fun v1 w1 ⟨B, c1, k1, hB⟩ => ok_gd (c1.1.1 1) (ok_I (ct_q (d := 25) c1 0) (fun v2 w2 ⟨e2, c2, k2⟩ => ?_))))
  have ev2 : v2 = B.1.1 := e2.trans ct0
  have h2 := (h.kh c1 k1).kh c2 k2
  rw [ev2]
  refine ok_iff (by omega) (ok_if (fun _ => law121 hX h2 hj hT nxt) (fun g => ?_))
  have hBA : B = A := hB.resolve_left g
  rw [hBA] at c2 h2 ⊢
  refine ok_iff (fun q => q rfl) (ok_gd (c2.1.1 1) (ok_I (ct_q (d := 25) c2 8) (fun v3 w3 ⟨e3, c3, k3⟩ => ok_iff (fun q => q (e3.trans ct8)) (law121 hX (h2.kh c3 k3) hj hT nxt))))
theorem law_runs : LawRuns := by
  intro L f hLn hf
  have c0 : CBd 1 w00 1 0 [] w00 := ⟨⟨rfl, rfl⟩, fun a => by
    by_cases e : a < 1
    · rw [if_pos e, show a = 0 by omega]; rfl
    · rw [if_neg e]; rfl, fun a => by
    by_cases e : a < 1
    · rw [if_pos e, show a = 0 by omega]; rfl
    · rw [if_neg e]; rfl, fun a k => by rw [if_neg (by simp)]; rfl, fun p hp => by simp at hp, fun _ _ _ => rfl, Nat.le_refl _, fun _ _ _ => rfl⟩
  have c1 := c0.al (kind := 16) (len := 0) (slots := 9) rfl rfl
  have hX : ((L, f) : Nat × (Nat → Int)).1 < 2147483648 := by
    show L < 2147483648
    omega
  have go : Ok (run (L, f) 31 0 [.inr 0] w00) (LwP (0 + 9 + 1611)) := by
    refine ok_eq (b0_0 (L, f) 30 0 w00) (ok_gd ((c1.kdv (a := 1) (by omega)).trans rfl) (ok_V (cls_c (X := (L, f)) (d := 24) c1) (fun w1 ⟨b, S', c2, hb, hS'⟩ => ?_)))
    rw [hS'] at c2
    have h0 : LJ (0 + 9 + 1611) w1 A00 := init_ok hb c2
    have loop : ∀ T : Int, 0 ≤ T → T ≤ 14 → Ok (R (L, f) 31 0 32 [some (.inr 0), some (.inr 1), some (.inl 1), some (.inl T), some (.inl 0), none, none, none, none] [] w1) (LwP (0 + 9 + 1611)) := by
      intro T T0 T1
      refine ok_up (fun j (z : AS × MW) => R (L, f) 31 0 32 [some (.inr 0), some (.inr 1), some (.inl 1), some (.inl T), some (.inl j), none, none, none, none] [] z.2) (fun j z => LJ (0 + 9 + 1611) z.2 z.1) 0 T T0 ?_ ?_ (A00, w1) h0
      · intro j z j0 j1 hz ih
        obtain ⟨A, z⟩ := z
        dsimp only at hz ⊢
        refine ok_eq (b0_32 (L, f) 30 0 1 1 T j z) (ok_iff (by omega) (ok_iff (by omega) (ok_gd (hz.1.1.1 1) (ok_I (ct_q (d := 25) hz.1 0) (fun v1 w2 ⟨e1, c3, k1⟩ => ok_gd (c3.1.1 1) (ok_I (ct_q (d := 25) c3 8) (fun v2 w3 ⟨e2, c4, k2⟩ => ?_)))))))
        have ev1 : v1 = A.1.1 := e1.trans ct0
        have ev2 : v2 = (A.2.2.1.length : Int) := e2.trans ct8
        rw [ev1, ev2]
        have h4 := (hz.kh c3 k1).kh c4 k2
        have nxt : ∀ (y : MW) (B : AS), LJ (0 + 9 + 1611) y B → Ok (R (L, f) 31 0 32 [some (.inr 0), some (.inr 1), some (.inl 1), some (.inl T), some (.inl (j + 1)), none, none, none, none] [] y) (LwP (0 + 9 + 1611)) := fun y B hB => ih (B, y) hB
        refine ok_if (fun _ => law78 hX h4 ⟨j0, by omega⟩ ⟨T0, T1⟩ nxt) (fun _ => ok_gd (c4.1.1 1) (ok_I (keep_ok (d := 29) c4) (fun v3 w4 h3 => ?_)))
        exact ok_iff (fun q => q h3.1) (ok_eq (b0_77 (L, f) 30 0 1 T j _ _ 1 w4) (law78 (A := (keepF A).2) hX (h4.kh h3.2.1 h3.2.2) ⟨j0, by omega⟩ ⟨T0, T1⟩ nxt))
      · intro z hz
        exact ok_eq (b0_32 (L, f) 30 0 1 1 T T z.2) (ok_ift (Int.le_refl _) (ok_gd (Or.inr rfl) (ok_ret ⟨rfl, hz.2.1, hz.2.2⟩)))
    have hd : divI (L : Int) 5 = (L : Int) / 5 := divI_p (by omega) (by omega) (by omega) (by omega)
    exact ok_gd ⟨rfl, hX⟩ (ok_if (fun h => ok_gd ⟨rfl, hX⟩ (loop _ (by show 0 ≤ divI (L : Int) 5; omega) h)) (fun _ => loop 14 (by omega) (by omega)))
  obtain ⟨v, w', e, h1, h2, h3⟩ := go
  rw [h1] at e
  exact ⟨31, w', by omega, e, by omega, by omega⟩
end LW
