/-! the reference: what goes together; multiples; sums of sets -/
section MZ
variable {X : Nat × (Nat → Int)} {d : Nat} {w w' : MW} {n : Int} {t : Int → Int → Int} {A : AS}
def Wth (w : MW) (t : Int → Int → Int) (n : Int) : Prop := ∀ a, 0 ≤ a → a < n → gi w 48 a.toNat = tgt t n a
theorem meets_m (hS : Sh w) (h : TbM w n t) (hw : twf t n) (h2n : 2 ≤ n) (hn : n ≤ 12) : OkV (run X (d + 2) 151 [.inr 38] w) (fun w' => Kp 48 48 w w' ∧ Wth w' t n) := by
  have hn0 : ∀ z, Kp 48 48 w z → gi z 38 0 = n := fun z q => by rw [q.gi (by omega)]; exact h.1
  refine ok_eq (b151_0 X (d + 1) 38 w) ?_
  refine ok_up (fun a z => R X (d + 2) 151 2 [some (.inr 38), some (.inl a), none, none, none, none, none] [] z) (fun a z => Kp 48 48 w z ∧ ∀ x, 0 ≤ x → x < a → gi z 48 x.toNat = tgt t n x) 0 n (by omega) ?_ ?_ w ⟨Kp.rf, fun x x0 x1 => by omega⟩
  · intro a z a0 a1 ⟨hK, hI⟩ iha
    have Sz := hS.kp hK
    have l48 : ln z 48 = 12 := Sz.2.1 48
    generalize hp : (fun i : Nat => dB (isTg t n a i)) = p at *
    have et : tgt t n a = bI2 p n := by rw [← hp]; rfl
    refine ok_eq (b151_2 X (d + 1) 38 a z) (ok_gd (Sz.1 38) (ok_iff (by rw [hn0 z hK]; omega) (ok_gd (Sz.1 38) (ok_r (Sz.2.2 38 16 (by decide)) (ok_gd ⟨Sz.1 48, a0, by rw [l48]; omega⟩ ?_)))))
    refine ok_up (fun b z => R X (d + 2) 151 19 [some (.inr 38), some (.inl a), some (.inl b), none, none, none, none] [] z) (fun b z => Kp 48 48 w z ∧ (∀ x, 0 ≤ x → x < a → gi z 48 x.toNat = tgt t n x) ∧ gi z 48 a.toNat = bI2 p b) 0 n (by omega) ?_ ?_ _ ⟨hK.tr (Kp.si (by omega) (by omega)), fun x x0 x1 => by rw [gi_si_ne2 (by omega)]; exact hI x x0 x1, gi_si_eq⟩
    · intro b y b0 b1 ⟨hK2, hI2, hB⟩ ihb
      have Sy := hS.kp hK2
      have m48 : ln y 48 = 12 := Sy.2.1 48
      have hTy : TbM y n t := h.kp hK2 (by omega)
      refine ok_eq (b151_19 X (d + 1) 38 a b y) (ok_gd (Sy.1 38) (ok_iff (by rw [hn0 y hK2]; omega) ?_))
      have fin1 : ∀ l : Int, (l ≠ 0 ↔ isTg t n a b) → Ok (R X (d + 2) 151 113 [some (.inr 38), some (.inl a), some (.inl b), some (.inl l), none, none, none] [] y) (fun v w' => v = none ∧ Kp 48 48 w w' ∧ Wth w' t n) := by
        intro l hl
        have hpb : p b.toNat = true ↔ isTg t n a b := by rw [← hp, dB_iff, Int.toNat_of_nonneg b0]
        have st := bI2_s (p := p) b0 (by omega)
        refine ok_eq (b151_113 X (d + 1) 38 a b l y) (ok_gd (Sy.1 38) (ok_r (Sy.2.2 38 16 (by decide)) (ok_gd ⟨Sy.1 48, a0, by rw [m48]; omega⟩ ?_)))
        rw [wrap_id (z := b + 1) (by omega) (by omega), hB, or0 (bI2_rng (by omega))]
        refine ok_if (fun q => ok_gd ⟨Sy.1 48, a0, by rw [m48]; omega⟩ (ihb _ ⟨hK2.tr (Kp.si (by omega) (by omega)), fun x x0 x1 => by rw [gi_si_ne2 (by omega)]; exact hI2 x x0 x1, ?_⟩)) (fun q => ok_gd ⟨Sy.1 48, a0, by rw [m48]; omega⟩ (ihb _ ⟨hK2.tr (Kp.si (by omega) (by omega)), fun x x0 x1 => by rw [gi_si_ne2 (by omega)]; exact hI2 x x0 x1, ?_⟩))
        · rw [gi_si_eq, st, if_neg (fun r => (hl.mpr (hpb.mp r)) q)]
        · rw [gi_si_eq, st, if_pos (hpb.mpr (hl.mp q))]
      let Mt : Int → Int → Prop := fun c e => (0 ≤ c ∧ c < n) ∧ (0 ≤ e ∧ e < n) ∧ t c e = a ∧ ∃ f, (0 ≤ f ∧ f < n) ∧ t e f = b ∧ t a f ≠ 12 ∧ t c b ≠ 12
      have mtg : isTg t n a b ↔ ∃ c e, Mt c e := ⟨fun ⟨c, e, f, q1, q2, q3, q4, q5, q6, q7⟩ => ⟨c, e, q1, q2, q4, f, q3, q5, q6, q7⟩, fun ⟨c, e, q1, q2, q4, f, q3, q5, q6, q7⟩ => ⟨c, e, f, q1, q2, q3, q4, q5, q6, q7⟩⟩
      refine ok_up (fun k (l : Int) => R X (d + 2) 151 32 [some (.inr 38), some (.inl a), some (.inl b), some (.inl l), some (.inl k), none, none] [] y) (fun k l => (l = 0 ∨ l = 1) ∧ (l ≠ 0 ↔ ∃ c e, 12 * c + e < k ∧ Mt c e)) 0 144 (by omega) ?_ ?_ 0 ⟨Or.inl rfl, ⟨fun q => absurd rfl q, fun ⟨c, e, q, g1, g2, _⟩ => by omega⟩⟩
      · intro k l k0 k1 ⟨hl, hM⟩ ih
        refine ok_eq (b151_32 X (d + 1) 38 a b l k y) (ok_iff (by omega) (ok_if (fun q => fin1 l ?_) (fun q => ok_gd (Sy.1 38) ?_)))
        · rw [mtg]
          exact ⟨fun g => by obtain ⟨c, e, _, g2⟩ := hM.mp g; exact ⟨c, e, g2⟩, fun _ => q⟩
        rw [divI_p k0 (by omega) (by omega) (by omega), remI_p k0 (by omega) (by omega) (by omega), hn0 y hK2, wrap_id (z := k + 1) (by omega) (by omega)]
        have hno : ¬ ∃ c e, 12 * c + e < k ∧ Mt c e := fun g => (hM.mpr g) (Decidable.not_not.mp q)
        have no : ¬ Mt (k / 12) (k % 12) → Ok (R X (d + 2) 151 32 [some (.inr 38), some (.inl a), some (.inl b), some (.inl 0), some (.inl (k + 1)), none, none] [] y) (fun v w' => v = none ∧ Kp 48 48 w w' ∧ Wth w' t n) := fun g => ih 0 ⟨Or.inl rfl, ⟨fun r => absurd rfl r, fun ⟨c, e, g1, g2⟩ => by
          by_cases eq : 12 * c + e = k
          · have g3 := g2.1
            have g4 := g2.2.1
            rw [show k / 12 = c by omega, show k % 12 = e by omega] at g
            exact absurd g2 g
          · exact absurd ⟨c, e, by omega, g2⟩ hno⟩⟩
        refine ok_if (fun g => no (fun r => by have := r.1; omega)) (fun g1 => ok_gd (Sy.1 38) (ok_if (fun g => no (fun r => by have := r.2.1; omega)) (fun g2 => ok_gd (Sy.1 38) ?_)))
        refine ok_i (plus_ok Sy hTy hw hn (by omega) (by omega)) (ok_if (fun g => no (fun r => g ((mc_eq (tv12 hw hn _ _) (by omega)).mpr r.2.2.1))) (fun g3 => ok_gd (Sy.1 38) (ok_I (ismet_m (d := d) Sy hTy hw h2n hn (by omega) (by omega) (by omega) (by omega)) (fun x y' ⟨ey, hx, hx2⟩ => ?_))))
        rw [ey]
        have g3' := (mc_eq (tv12 hw hn _ _) (by omega)).mp (Decidable.not_not.mp g3)
        refine ok_if (fun g => no (fun r => (hx2.mpr r.2.2.2) g)) (fun g => ih 1 ⟨Or.inr rfl, ⟨fun _ => ⟨k / 12, k % 12, by omega, by omega, by omega, g3', hx2.mp g⟩, fun _ => by omega⟩⟩)
      · intro l ⟨hl, hM⟩
        refine ok_eq (b151_32 X (d + 1) 38 a b l 144 y) (ok_ift (by omega) (fin1 l ?_))
        rw [mtg, hM]
        exact ⟨fun ⟨c, e, _, g⟩ => ⟨c, e, g⟩, fun ⟨c, e, g⟩ => ⟨c, e, by have := g.1; have := g.2.1; omega, g⟩⟩
    · intro y ⟨hK2, hI2, hB⟩
      have Sy := hS.kp hK2
      refine ok_eq (b151_19 X (d + 1) 38 a n y) (ok_gd (Sy.1 38) (ok_ift (by rw [hn0 y hK2]; omega) ?_))
      rw [wrap_id (z := a + 1) (by omega) (by omega)]
      refine iha y ⟨hK2, fun x x0 x1 => ?_⟩
      by_cases e : x = a
      · rw [e, hB, et]
      · exact hI2 x x0 (by omega)
  · intro z ⟨hK, hI⟩
    have Sz := hS.kp hK
    exact ok_eq (b151_2 X (d + 1) 38 n z) (ok_gd (Sz.1 38) (ok_ift (by rw [hn0 z hK]; omega) (ok_ret ⟨rfl, hK, hI⟩)))
theorem mult_m (hS : Sh w) (h : TbM w n t) (hw : twf t n) (hn : n ≤ 12) {s : Int} (hs : 0 ≤ s ∧ s < n) : run X (d + 1) 152 [.inr 38, .inl s] w = some (some (.inl (tmF t s 19 1 s)), w) := by
  obtain ⟨R0, hR0⟩ : ∃ R0, R0 = tmF t s 19 1 s := ⟨_, rfl⟩
  rw [← hR0]
  apply ok_one
  refine ok_eq (b152_0 X d 38 s w) ?_
  refine ok_up (fun i (v : Int) => R X (d + 1) 152 4 [some (.inr 38), some (.inl s), some (.inl v), some (.inl i)] [] w) (fun i v => (0 ≤ v ∧ v < n) ∧ R0 = tmF t s (20 - i).toNat i v) 1 20 (by omega) ?_ ?_ s ⟨hs, hR0⟩
  · intro i v i0 i1 ⟨hv, hE⟩ ih
    rw [show (20 - i).toNat = (20 - (i + 1)).toNat + 1 by omega, tmF] at hE
    have p := plus_ok (X := X) (d := d) hS h hw hn hv hs
    refine ok_eq (b152_4 X d 38 s v i w) (ok_iff (by omega) (ok_gd (hS.1 38) (ok_i p (ok_if (fun q => ok_ret ⟨?_, rfl⟩) (fun q => ok_gd (hS.1 38) (ok_i p ?_))))))
    · rw [hE, if_pos ((mc_m1 (tv12 hw hn v s)).mp q)]
    · have hne : t v s ≠ 12 := fun r => q ((mc_m1 (tv12 hw hn v s)).mpr r)
      rw [wrap_id (z := i + 1) (by omega) (by omega), mc_ne hne]
      have rng := hw.2.1 v s
      refine ih (t v s) ⟨by omega, ?_⟩
      rw [hE, if_neg hne]
  · intro v ⟨hv, hE⟩
    rw [show ((20 : Int) - 20).toNat = 0 from rfl, tmF] at hE
    exact ok_eq (b152_4 X d 38 s v 20 w) (ok_ift (by omega) (ok_ret ⟨by rw [hE], rfl⟩))
theorem msumof_q (hS : Sh w) (h : MoS w A) (ho : okB A.1) (u : Int) : OkI (run X (d + 1) 154 [.inr 38, .inl u] w) (QM w A (fun x => x = sumOfQ A u)) := by
  obtain ⟨o1, o2, o3⟩ := ho
  have bad : ¬ (0 ≤ u ∧ u < shlI 1 A.1.1) → sumOfQ A u = -1 := fun q => if_pos q
  refine ok_eq (b154_0 X d 38 u w) (ok_if (fun q => ok_ret ⟨_, rfl, QM.same h (bad (by omega)).symm⟩) (fun q => ok_gd (hS.1 38) ?_))
  rw [h.1.1]
  refine ok_if (fun q2 => ?_) (fun q2 => ok_ret ⟨_, rfl, QM.same h (bad (by omega)).symm⟩)
  have e0 : sumOfQ A u = orN (soF A.1.2 u A.1.1.toNat 0 0) := if_neg (fun r => r (by omega))
  have last : ∀ v, (v = 12 ∨ (0 ≤ v ∧ v < 12)) → v = soF A.1.2 u A.1.1.toNat 0 0 → Ok (R X (d + 1) 154 59 [none, none, some (.inl (mc v)), none] [] w) (fun v w' => ∃ x, v = some (.inl x) ∧ QM w A (fun x => x = sumOfQ A u) x w') := fun v hv he => ok_eq (b154_59 X d (mc v) w) (ok_if (fun g => ok_ret ⟨_, rfl, QM.same h (by rw [e0, ← he, ← mc_or hv, if_pos g])⟩) (fun g => ok_ret ⟨_, rfl, QM.same h (by rw [e0, ← he, ← mc_or hv, if_neg g])⟩))
  refine ok_up (fun i (v : Int) => R X (d + 1) 154 20 [some (.inr 38), some (.inl u), some (.inl (mc v)), some (.inl i)] [] w) (fun i v => (v = 12 ∨ (0 ≤ v ∧ v < A.1.1)) ∧ soF A.1.2 u A.1.1.toNat 0 0 = soF A.1.2 u (A.1.1 - i).toNat i v) 0 A.1.1 (by omega) ?_ ?_ 0 ⟨Or.inr (by omega), by rw [Int.sub_zero]⟩
  · intro i v i0 i1 ⟨hv, hE⟩ ih
    rw [show (A.1.1 - i).toNat = (A.1.1 - (i + 1)).toNat + 1 by omega, soF] at hE
    refine ok_eq (b154_20 X d 38 u (mc v) i w) (ok_gd (hS.1 38) (ok_iff (by rw [h.1.1]; omega) (ok_if (fun g => last v (by omega) ?_) (fun g => ?_))))
    · have := (mc_m1 (by omega)).mp g
      rw [hE, if_pos this, this]
    have hne : v ≠ 12 := fun r => g ((mc_m1 (by omega)).mpr r)
    rw [if_neg hne] at hE
    rw [wrap_id (z := i + 1) (by omega) (by omega)]
    refine ok_if (fun g2 => ih v ⟨hv, ?_⟩) (fun g2 => ok_gd (hS.1 38) ?_)
    · rw [hE, if_neg (fun r => g2 ((shr_and i0 (by omega)).mpr r))]
    · have e1 : mc v = v := mc_ne hne
      rw [e1]
      have rng := o3.2.1 v i
      refine ok_i (plus_ok hS h.1 o3 o2 (by omega) (by omega)) (ih (A.1.2 v i) ⟨by omega, ?_⟩)
      rw [hE, if_pos ((shr_and i0 (by omega)).mp (Decidable.not_not.mp g2))]
  · intro v ⟨hv, hE⟩
    rw [Int.sub_self, show (0 : Int).toNat = 0 from rfl, soF] at hE
    exact ok_eq (b154_20 X d 38 u (mc v) A.1.1 w) (ok_gd (hS.1 38) (ok_ift (by rw [h.1.1]; omega) (last v (by omega) hE.symm)))
theorem mth_q (hS : Sh w) (h : MoS w A) (ho : okB A.1) (s c : Int) : OkI (run X (d + 4) 153 [.inr 38, .inl s, .inl c] w) (QM w A (fun x => x = thQ A s c)) := by
  obtain ⟨o1, o2, o3⟩ := ho
  have hT := h.1
  refine ok_eq (b153_0 X (d + 3) 38 s c w) (ok_gd (hS.1 38) (ok_i (ist_ok (d := d + 2) hS h.1.1 ⟨by omega, o2⟩ s) (ok_if (fun q => ok_i (in_ok X (d + 3) c 0 7 w) (ok_if (fun q2 => ?_) (fun q2 => ok_ret ⟨_, rfl, QM.same h ?_⟩))) (fun q => ok_ret ⟨_, rfl, QM.same h ?_⟩))))
  rotate_left
  · have g := bI_eq.mp (Decidable.not_not.mp q2)
    unfold thQ
    rw [if_neg (fun r => r (bI_ne.mp q)), if_neg (by omega), if_neg (by omega), if_neg (by omega), if_neg (by omega), if_neg (by omega), if_neg (by omega), if_neg (by omega), if_neg (by omega)]
  · unfold thQ
    rw [if_pos (fun r => q (bI_ne.mpr r))]
  have hs := bI_ne.mp q
  have hc := bI_ne.mp q2
  have e0 : thQ A s c = if c = 0 then orN (lsA (fun y => decide (A.1.2 s y = 1)) A.1.1) else if c = 1 then prt A.1.2 A.1.1 s else if c = 2 then whl A.1.2 A.1.1 s else if c = 3 then bI (smA A.1.2 A.1.1 s = true) else if c = 4 then bI (shA A.1.2 A.1.1 s = true) else if c = 5 then tgt A.1.2 A.1.1 s else if c = 6 then bI2 (fun j => decide (A.1.2 s j ≠ 12)) A.1.1 else if c = 7 then tmF A.1.2 s 19 1 s else -2 := if_neg (fun r => r hs)
  refine ok_if (fun c0 => ok_if (fun c5 => ?_) (fun c5 => ok_gd (hS.1 38) (ok_V (meets_m (d := d + 1) hS hT o3 o1 o2) (fun z ⟨kz, wz⟩ => ?_)))) (fun c0 => ok_gd (hS.1 38) (ok_i (lack_ok (d := d + 2) hS hT o3 (by omega) o2 (by omega) hs) ?_))
  · -- the sets above, and of sums
    generalize hp : (fun i : Nat => dB (∃ b, 0 ≤ b ∧ b < A.1.1 ∧ A.1.2 s b = i)) = p
    generalize hr : (fun j : Nat => decide (A.1.2 s j ≠ 12)) = r
    have eW : whl A.1.2 A.1.1 s = bI2 p A.1.1 := by rw [← hp]; rfl
    refine ok_up (fun i z => R X (d + 4) 153 70 [some (.inr 38), some (.inl s), some (.inl c), some (.inl (bI2 p i)), some (.inl (bI2 r i)), some (.inl i)] [] z) (fun _ z => z = w) 0 A.1.1 (by omega) ?_ ?_ w rfl
    · intro i z i0 i1 e ih
      rw [e]
      have go := ih w rfl
      rw [bI2_s i0 (by omega), bI2_s i0 (by omega)] at go
      have hpi : p i.toNat = true ↔ mc (lsA (fun y => decide (A.1.2 s y = i)) A.1.1) ≠ -1 := by
        rw [← hp, lsx (by omega) o2, dB_iff, Int.toNat_of_nonneg i0]
        exact ⟨fun ⟨b, b0, b1, b2⟩ => ⟨b, ⟨b0, b1⟩, decide_eq_true b2⟩, fun ⟨b, b0, b1⟩ => ⟨b, b0.1, b0.2, of_decide_eq_true b1⟩⟩
      have hri : r i.toNat = true ↔ mc (A.1.2 s i) ≠ -1 := by
        rw [← hr, decide_eq_true_iff, Int.toNat_of_nonneg i0]
        exact not_congr (mc_m1 (tv12 o3 o2 s i)).symm
      have step : ∀ v, v = (if p i.toNat then shlI 1 i else 0) → Ok (R X (d + 4) 153 99 [some (.inr 38), some (.inl s), some (.inl c), none, some (.inl (bI2 r i)), some (.inl i)] [.inl v, .inl (bI2 p i)] w) (fun v w' => ∃ x, v = some (.inl x) ∧ QM w A (fun x => x = thQ A s c) x w') := by
        intro v hv
        have ep : orI (bI2 p i) v = if p i.toNat then orI (bI2 p i) (shlI 1 i) else bI2 p i := by
          rw [hv]
          split
          · rfl
          · rw [or0 (bI2_rng (by omega))]
        refine ok_eq (b153_99 X (d + 3) 38 s c _ i v _ w) (ok_gd (hS.1 38) (ok_i (plus_ok hS hT o3 o2 hs (by omega)) ?_))
        rw [wrap_id (z := i + 1) (by omega) (by omega), ep, or0 (bI2_rng (by omega))]
        refine ok_if (fun g => ?_) (fun g => ?_)
        · rw [if_pos (hri.mpr g)] at go; exact go
        · rw [if_neg (c := r i.toNat = true) (fun r' => g (hri.mp r'))] at go; exact go
      refine ok_eq (b153_70 X (d + 3) 38 s c _ _ i w) (ok_gd (hS.1 38) (ok_iff (by rw [hT.1]; omega) (ok_gd (hS.1 38) (ok_i (lack_ok (d := d + 2) hS hT o3 (by omega) o2 (by omega) hs) (ok_if (fun g => step _ ?_) (fun g => step _ ?_))))))
      · rw [if_pos (hpi.mpr g)]
      · rw [if_neg (fun r' => g (hpi.mp r'))]
    · intro z e
      rw [e]
      have last : (c = 2 ∨ c = 6) → Ok (R X (d + 4) 153 142 [none, none, some (.inl c), some (.inl (bI2 p A.1.1)), some (.inl (bI2 r A.1.1)), none] [] w) (fun v w' => ∃ x, v = some (.inl x) ∧ QM w A (fun x => x = thQ A s c) x w') := fun hc2 => ok_eq (b153_142 X (d + 3) c _ _ w) (ok_if (fun g => ok_ret ⟨_, rfl, QM.same h (by rw [e0, if_neg c0, if_neg (by omega), if_neg g, if_neg (by omega), if_neg (by omega), if_neg c5, if_pos (by omega), hr])⟩) (fun g => ok_ret ⟨_, rfl, QM.same h (by rw [e0, if_neg c0, if_neg (by omega), if_pos (Decidable.not_not.mp g), eW])⟩))
      refine ok_eq (b153_70 X (d + 3) 38 s c _ _ A.1.1 w) (ok_gd (hS.1 38) (ok_ift (by rw [hT.1]; omega) (ok_if (fun g => last (Or.inl g)) (fun g2 => ok_if (fun g6 => ok_if (fun g1 => ok_if (fun g3 => ok_if (fun g4 => ok_gd (hS.1 38) (ok_i (mult_m (d := d + 2) hS hT o3 o2 hs) (ok_ret ⟨_, rfl, QM.same h ?_⟩))) (fun g4 => ok_gd (hS.1 38) (ok_i (sharp_m (d := d) hS hT o3 o1 o2 hs) (ok_if (fun g => ok_ret ⟨_, rfl, QM.same h ?_⟩) (fun g => ok_ret ⟨_, rfl, QM.same h ?_⟩))))) (fun g3 => ok_gd (hS.1 38) (ok_i (small_m (d := d) hS hT o3 o1 o2 hs) (ok_if (fun g => ok_ret ⟨_, rfl, QM.same h ?_⟩) (fun g => ok_ret ⟨_, rfl, QM.same h ?_⟩))))) (fun g1 => ok_gd (hS.1 38) (ok_i (parts_m (d := d + 1) hS hT o3 o1 o2 hs) (ok_ret ⟨_, rfl, QM.same h ?_⟩)))) (fun g => last (Or.inr (Decidable.not_not.mp g)))))))
      · rw [e0, if_neg c0, if_neg g1, if_neg g2, if_neg g3, if_neg g4, if_neg c5, if_neg g6, if_pos (by omega)]
      · rw [e0, if_neg c0, if_neg (by omega), if_neg (by omega), if_neg (by omega), if_pos (Decidable.not_not.mp g4), g]
      · rw [e0, if_neg c0, if_neg (by omega), if_neg (by omega), if_neg (by omega), if_pos (Decidable.not_not.mp g4), show bI (shA A.1.2 A.1.1 s = true) = 1 from if_pos (bI_ne.mp g)]
      · rw [e0, if_neg c0, if_neg (by omega), if_neg (by omega), if_pos (Decidable.not_not.mp g3), g]
      · rw [e0, if_neg c0, if_neg (by omega), if_neg (by omega), if_pos (Decidable.not_not.mp g3), show bI (smA A.1.2 A.1.1 s = true) = 1 from if_pos (bI_ne.mp g)]
      · rw [e0, if_neg c0, if_pos (Decidable.not_not.mp g1)]
  · have Sz := hS.kp kz
    obtain ⟨m1, m2⟩ := h.qry (kz.wide (by omega) (by omega))
    refine ok_gd (Sz.1 38) (ok_r (Sz.2.2 38 16 (by decide)) (ok_gd ⟨Sz.1 48, hs.1, by rw [show ln z 48 = 12 from Sz.2.1 48]; omega⟩ (ok_ret ⟨_, rfl, ?_, m1, m2⟩)))
    rw [wz s hs.1 hs.2, e0, if_neg c0, if_neg (by omega), if_neg (by omega), if_neg (by omega), if_neg (by omega), if_pos (Decidable.not_not.mp c5)]
  · have v := lsv12 (p := fun y => decide (A.1.2 s y = 1)) (n := A.1.1) (by omega) o2
    refine ok_if (fun g => ok_ret ⟨_, rfl, QM.same h ?_⟩) (fun g => ok_ret ⟨_, rfl, QM.same h ?_⟩)
    · rw [e0, if_pos (Decidable.not_not.mp c0), ← mc_or v, if_pos g]
    · rw [e0, if_pos (Decidable.not_not.mp c0), ← mc_or v, if_neg g]
end MZ
