/-! the reference's blocks -/
section NA
variable {X : Nat × (Nat → Int)} {d : Nat} {w w' : MW} {n : Int} {t : Int → Int → Int} {A : AS}
theorem tgt_tb {s : Int} {i : Nat} (hi : i < 32) : tb (tgt t n s) i = true ↔ (i : Int) < n ∧ isTg t n s i := by
  unfold tgt
  rw [tb_bI2 hi, Bool.and_eq_true, decide_eq_true_iff, dB_iff]
theorem tgt_self (hw : twf t n) (h2n : 2 ≤ n) (hn : n ≤ 12) {s : Int} (hs : 0 ≤ s ∧ s < n) : tb (tgt t n s) s.toNat = true := by
  rw [tgt_tb (by omega), Int.toNat_of_nonneg hs.1]
  have e1 : t 0 s = s := hw.2.2.1 s hs.1 hs.2
  have e2 : t s 0 = s := by rw [hw.1]; exact e1
  exact ⟨hs.2, 0, s, 0, ⟨by omega, by omega⟩, hs, ⟨by omega, by omega⟩, e1, e2, by rw [e2]; omega, by rw [e1]; omega⟩
theorem isb_m (hS : Sh w) (hn0 : gi w 38 0 = n) (hW : Wth w t n) (hw : twf t n) (h2n : 2 ≤ n) (hn : n ≤ 12) {u : Int} (hu0 : 0 ≤ u) (hu : u < shlI 1 n) : run X d 155 [.inr 38, .inl u] w = some (some (.inl (bI (isBk t n u = true))), w) := by
  have hp := pw_rng (n := n) (by omega) hn
  have l48 : ln w 48 = 12 := hS.2.1 48
  have hu31 : inR u := ⟨by omega, by omega⟩
  apply ok_one
  refine ok_eq (b155_0 X d 38 u w) (ok_gd (hS.1 38) ?_)
  rw [hn0, wrap_id (by omega) (by omega)]
  refine ok_up (fun m (z : Int × Int) => R X d 155 14 [some (.inr 38), some (.inl u), some (.inl z.1), some (.inl z.2), some (.inl m)] [] w) (fun m z => inR z.1 ∧ (∀ i : Nat, i < 32 → (tb z.1 i = true ↔ (i : Int) < n ∧ ∀ s : Int, 0 ≤ s → s < m → tb u s.toNat = true → tb (tgt t n s) i = true ∨ (i : Int) = s)) ∧ (z.2 = 0 ∨ z.2 = 1) ∧ (z.2 ≠ 0 ↔ ∀ s : Int, 0 ≤ s → s < m → tb u s.toNat = true → ∀ i : Nat, i < 32 → tb u i = true → tb (tgt t n s) i = true ∨ (i : Int) = s)) 0 n (by omega) ?_ ?_ (shlI 1 n - 1, 1) ⟨(⟨by omega, by omega⟩ : inR (shlI 1 n - 1)), fun i hi => ?_, Or.inr rfl, ⟨fun _ s q1 q2 => by omega, fun _ => by dsimp only; omega⟩⟩
  rotate_left
  · intro z ⟨hI, hA, hz, hB⟩
    obtain ⟨x, l⟩ := z
    dsimp only at hI hA hz hB ⊢
    have iff1 : (l ≠ 0 ∧ u ≠ 0 ∧ andI x (xorI u (-1)) = 0) ↔ isBk t n u = true := by
      unfold isBk
      rw [dB_iff, and_eq0]
      constructor
      · rintro ⟨g1, g2, g3⟩ i hi
        constructor
        · intro h1 s s0 s1 hs
          rcases hB.mp g1 s s0 s1 hs i hi h1 with q | q
          · exact q
          · have := tgt_self (t := t) hw h2n hn ⟨s0, s1⟩
            rw [show i = s.toNat by omega]
            exact this
        · intro h1
          have ex : ∃ s : Nat, s < 32 ∧ tb u s = true := Classical.byContradiction fun hno => g2 ((eq0 hu31).mpr (fun j hj => by
            cases hj2 : tb u j with
            | false => rfl
            | true => exact absurd ⟨j, hj, hj2⟩ hno))
          obtain ⟨s, hs, hs2⟩ := ex
          have hsn := pw_tb (by omega) hn hu0 hu hs hs2
          have hti := h1 s (by omega) hsn (by rw [Int.toNat_natCast]; exact hs2)
          have hin := ((tgt_tb hi).mp hti).1
          have hx : tb x i = true := (hA i hi).mpr ⟨hin, fun s s0 s1 q => Or.inl (h1 s s0 s1 q)⟩
          have := g3 i hi
          rw [tb_and, tb_not hi, hx] at this
          simpa using this
      · intro g
        have notz : u ≠ 0 := fun e => by
          have := (g 31 (by omega)).mpr (fun s s0 s1 q => by rw [e, tb_0 (by omega)] at q; cases q)
          rw [e, tb_0 (by omega)] at this
          cases this
        refine ⟨hB.mpr (fun s s0 s1 q i hi h1 => Or.inl ((g i hi).mp h1 s s0 s1 q)), notz, fun i hi => ?_⟩
        rw [tb_and, tb_not hi]
        cases hx : tb x i with
        | false => rfl
        | true =>
          have h2 := ((hA i hi).mp hx).2
          have : tb u i = true := (g i hi).mpr (fun s s0 s1 q => by
            rcases h2 s s0 s1 q with r | r
            · exact r
            · have := tgt_self (t := t) hw h2n hn ⟨s0, s1⟩
              rw [show i = s.toNat by omega]
              exact this)
          rw [this]
          rfl
    refine ok_eq (b155_14 X d 38 u x l n w) (ok_gd (hS.1 38) (ok_ift (by rw [hn0]; omega) (ok_if (fun q => ok_ret ⟨?_, rfl⟩) (fun q1 => ok_if (fun q => ok_ret ⟨?_, rfl⟩) (fun q2 => ok_if (fun q => ok_ret ⟨?_, rfl⟩) (fun q3 => ok_ret ⟨?_, rfl⟩))))))
    · rw [show bI (isBk t n u = true) = 0 from if_neg (fun r => (iff1.mpr r).1 q)]
    · rw [show bI (isBk t n u = true) = 0 from if_neg (fun r => (iff1.mpr r).2.1 q)]
    · rw [show bI (isBk t n u = true) = 0 from if_neg (fun r => q (iff1.mpr r).2.2)]
    · rw [show bI (isBk t n u = true) = 1 from if_pos (iff1.mp ⟨q1, q2, Decidable.not_not.mp q3⟩)]
  · dsimp only
    constructor
    · intro q
      have := pw_tb (u := shlI 1 n - 1) (n := n) (by omega) hn (by omega) (by omega) hi q
      exact ⟨this, fun s s0 s1 => by omega⟩
    · intro ⟨q, _⟩
      rw [shl1 (by omega) (by omega), show ((2 ^ n.toNat : Nat) : Int) - 1 = ((2 ^ n.toNat - 1 : Nat) : Int) by have := Nat.two_pow_pos n.toNat; omega, tb_nat hi, Nat.testBit_two_pow_sub_one]
      exact decide_eq_true (by omega)
  · intro m z m0 m1 ⟨hI, hA, hz, hB⟩ ih
    obtain ⟨x, l⟩ := z
    dsimp only at hI hA hz hB ⊢
    refine ok_eq (b155_14 X d 38 u x l m w) (ok_gd (hS.1 38) (ok_iff (by rw [hn0]; omega) ?_))
    rw [wrap_id (z := m + 1) (by omega) (by omega)]
    refine ok_if (fun q => ?_) (fun q => ?_)
    · have hm : tb u m.toNat ≠ true := fun r => q ((shr_and m0 (by omega)).mpr r)
      refine ih (x, l) ⟨hI, fun i hi => ?_, hz, ?_⟩
      · dsimp only
        rw [hA i hi]
        constructor
        · intro ⟨g1, g2⟩
          refine ⟨g1, fun s s0 s1 hs => ?_⟩
          by_cases e : s = m
          · rw [e] at hs; exact absurd hs hm
          · exact g2 s s0 (by omega) hs
        · intro ⟨g1, g2⟩
          exact ⟨g1, fun s s0 s1 hs => g2 s s0 (by omega) hs⟩
      · dsimp only
        rw [hB]
        constructor
        · intro g s s0 s1 hs
          by_cases e : s = m
          · rw [e] at hs; exact absurd hs hm
          · exact g s s0 (by omega) hs
        · intro g s s0 s1 hs
          exact g s s0 (by omega) hs
    · have hm : tb u m.toNat = true := (shr_and m0 (by omega)).mp (Decidable.not_not.mp q)
      have last : ∀ r : Int, (r = 0 ∨ r = 1) → (r ≠ 0 ↔ l ≠ 0 ∧ ∀ i : Nat, i < 32 → tb u i = true → tb (tgt t n m) i = true ∨ (i : Int) = m) → Ok (R X d 155 63 [some (.inr 38), some (.inl u), some (.inl x), none, some (.inl m)] [.inl r] w) (fun v w' => v = some (.inl (bI (isBk t n u = true))) ∧ w' = w) := by
        intro r hr hr2
        refine ok_eq (b155_63 X d 38 u x m r w) (ok_gd (hS.1 38) (ok_r (hS.2.2 38 16 (by decide)) (ok_gd ⟨hS.1 48, m0, by rw [l48]; omega⟩ ?_)))
        rw [wrap_id (z := m + 1) (by omega) (by omega), hW m m0 m1]
        refine ih (andI x (orI (tgt t n m) (shlI 1 m)), r) ⟨inR_op _ _ _, fun i hi => ?_, hr, ?_⟩
        · dsimp only
          rw [tb_and, Bool.and_eq_true, hA i hi, tb_orb m0 (by omega) hi]
          constructor
          · intro ⟨⟨g1, g2⟩, g3⟩
            refine ⟨g1, fun s s0 s1 hs => ?_⟩
            by_cases e : s = m
            · rw [e]; exact g3
            · exact g2 s s0 (by omega) hs
          · intro ⟨g1, g2⟩
            exact ⟨⟨g1, fun s s0 s1 hs => g2 s s0 (by omega) hs⟩, g2 m m0 (by omega) hm⟩
        · dsimp only
          rw [hr2, hB]
          constructor
          · intro ⟨g1, g2⟩ s s0 s1 hs
            by_cases e : s = m
            · rw [e]; exact g2
            · exact g1 s s0 (by omega) hs
          · intro g
            exact ⟨fun s s0 s1 hs => g s s0 (by omega) hs, g m m0 (by omega) hm⟩
      have zero : ¬ (l ≠ 0 ∧ ∀ i : Nat, i < 32 → tb u i = true → tb (tgt t n m) i = true ∨ (i : Int) = m) → Ok (R X d 155 62 [some (.inr 38), some (.inl u), some (.inl x), none, some (.inl m)] [] w) (fun v w' => v = some (.inl (bI (isBk t n u = true))) ∧ w' = w) := fun g => ok_eq (b155_62 X d 38 u x m w) (last 0 (Or.inl rfl) ⟨fun r => absurd rfl r, fun r => absurd r g⟩)
      have cond : andI (andI u (xorI (tgt t n m) (-1))) (xorI (shlI 1 m) (-1)) = 0 ↔ ∀ i : Nat, i < 32 → tb u i = true → tb (tgt t n m) i = true ∨ (i : Int) = m := by
        rw [and_eq0]
        constructor
        · intro g i hi h1
          have := g i hi
          rw [tb_and, tb_and, tb_not hi, tb_not hi, tb_shl m0 (by omega) hi, h1] at this
          cases h2 : tb (tgt t n m) i with
          | true => exact Or.inl rfl
          | false =>
            rw [h2] at this
            simp at this
            right; omega
        · intro g i hi
          rw [tb_and, tb_and, tb_not hi, tb_not hi, tb_shl m0 (by omega) hi]
          cases h1 : tb u i with
          | false => rfl
          | true =>
            rcases g i hi h1 with q | q
            · rw [q]; simp
            · simp [show i = m.toNat by omega]
      refine ok_if (fun g => zero (fun r => r.1 g)) (fun g => ok_gd (hS.1 38) (ok_r (hS.2.2 38 16 (by decide)) (ok_gd ⟨hS.1 48, m0, by rw [l48]; omega⟩ ?_)))
      rw [hW m m0 m1]
      exact ok_if (fun g2 => zero (fun r => g2 (cond.mpr r.2))) (fun g2 => last 1 (Or.inr rfl) ⟨fun _ => ⟨g, cond.mp (Decidable.not_not.mp g2)⟩, fun _ => by omega⟩)
theorem blocks_m (hS : Sh w) (h : TbM w n t) (hw : twf t n) (h2n : 2 ≤ n) (hn : n ≤ 12) : OkI (run X (d + 3) 156 [.inr 38] w) (fun x w' => x = nbk t n ∧ Kp 48 48 w w') := by
  have hp := pw_rng (n := n) (by omega) hn
  refine ok_eq (b156_0 X (d + 2) 38 w) (ok_gd (hS.1 38) (ok_V (meets_m (d := d) hS h hw h2n hn) (fun z ⟨kz, wz⟩ => ?_)))
  have Sz := hS.kp kz
  have hn0 : gi z 38 0 = n := by rw [kz.gi (by omega)]; exact h.1
  refine ok_up (fun i (s : MW) => R X (d + 3) 156 8 [some (.inr 38), some (.inl (Sg (fun u => bI (isBk t n u = true)) 1 (i - 1).toNat)), some (.inl i)] [] s) (fun _ s => s = z) 1 (shlI 1 n) hp.1 ?_ ?_ z rfl
  · intro i s h1 h2 e ih
    rw [e]
    have go := ih z rfl
    rw [Sg_s h1] at go
    have hb := Sg_bd (f := fun u => bI (isBk t n u = true)) (lo := 1) (c := 1) (fun _ => bI_rng) (i - 1).toNat
    refine ok_eq (b156_8 X (d + 2) 38 _ i z) (ok_gd (Sz.1 38) (ok_iff (by rw [hn0]; omega) (ok_gd (Sz.1 38) (ok_i (isb_m Sz hn0 wz hw h2n hn (by omega) h2) ?_))))
    rw [wrap_id (z := i + 1) (by omega) (by omega)]
    refine ok_if (fun hc => ?_) (fun hc => ?_)
    · rw [hc, Int.add_zero] at go
      rw [wrap_id (by omega) (by omega), Int.add_zero]
      exact go
    · rw [show bI (isBk t n i = true) = 1 from if_pos (bI_ne.mp hc)] at go
      rw [wrap_id (by omega) (by omega)]
      exact go
  · intro s e
    rw [e]
    exact ok_eq (b156_8 X (d + 2) 38 _ _ z) (ok_gd (Sz.1 38) (ok_ift (by rw [hn0]; omega) (ok_ret ⟨_, rfl, rfl, kz⟩)))
theorem mblock_q (hS : Sh w) (h : MoS w A) (ho : okB A.1) {r : Int} (hr : r < 2147483648) (c : Int) : OkI (run X (d + 3) 157 [.inr 38, .inl r, .inl c] w) (QM w A (fun x => x = blockQ A r c)) := by
  obtain ⟨o1, o2, o3⟩ := ho
  have hp := pw_rng (n := A.1.1) (by omega) o2
  refine ok_eq (b157_0 X (d + 2) 38 r c w) (ok_if (fun h1 => ok_ret ⟨_, rfl, QM.same h (if_pos (Or.inl h1)).symm⟩) (fun h1 => ok_i (in_ok X (d + 2) c 0 1 w) (ok_if (fun h2 => ok_gd (hS.1 38) (ok_V (meets_m (d := d) hS h.1 o3 o1 o2) (fun z ⟨kz, wz⟩ => ?_))) (fun h2 => ok_ret ⟨_, rfl, QM.same h (if_pos (by have := bI_eq.mp (Decidable.not_not.mp h2); omega)).symm⟩))))
  have hc := bI_ne.mp h2
  have Sz := hS.kp kz
  obtain ⟨m1, m2⟩ := h.qry (kz.wide (by omega) (by omega))
  have hn0 := m1.1.1
  have e0 : blockQ A r c = if bkAt A.1.2 A.1.1 r = 0 then -5 else if c = 0 then bkAt A.1.2 A.1.1 r else bI2 (fun s => smI A.1.2 A.1.1 (bkAt A.1.2 A.1.1 r) s) A.1.1 := if_neg (by omega)
  generalize hB : bkAt A.1.2 A.1.1 r = B at *
  have fin1 : ∀ v, v = blockQ A r c → Ok (some (some (.inl v), z)) (fun v w' => ∃ x, v = some (.inl x) ∧ QM w A (fun x => x = blockQ A r c) x w') := fun v hv => ok_ret ⟨v, rfl, hv, m1, m2⟩
  have found : B ≠ 0 → 0 ≤ B → Ok (R X (d + 3) 157 75 [some (.inr 38), none, some (.inl c), none, some (.inl B), none, none, none] [] z) (fun v w' => ∃ x, v = some (.inl x) ∧ QM w A (fun x => x = blockQ A r c) x w') := by
    intro hB0 hB1
    rw [if_neg hB0] at e0
    generalize hq : (fun s : Nat => smI A.1.2 A.1.1 B s) = p at *
    have z0 : bI2 p 1 = 0 := by
      have := bI2_s (p := p) (i := 0) (by omega) (by omega)
      rw [show (0 : Int) + 1 = 1 by omega] at this
      rw [this, if_neg (by rw [← hq]; unfold smI; simp)]
      rfl
    refine ok_eq (b157_75 X (d + 2) 38 c B z) (ok_ift (by omega) ?_)
    rw [← z0]
    refine ok_up (fun i (s : MW) => R X (d + 3) 157 90 [some (.inr 38), none, some (.inl c), none, some (.inl B), some (.inl (bI2 p i)), some (.inl i), none] [] s) (fun _ s => s = z) 1 A.1.1 (by omega) ?_ ?_ z rfl
    · intro i s i0 i1 e ih
      rw [e]
      have go := ih z rfl
      rw [bI2_s (by omega) (by omega)] at go
      have hpi : p i.toNat = true ↔ tb B i.toNat = true ∧ smB A.1.2 A.1.1 i B = true := by
        rw [← hq]
        dsimp only
        unfold smI
        rw [Int.toNat_of_nonneg (by omega), decide_eq_true i0, Bool.true_and, Bool.and_eq_true]
      have nx : ∀ v : Int, (v ≠ 0 ↔ p i.toNat = true) → Ok (R X (d + 3) 157 136 [some (.inr 38), none, some (.inl c), none, some (.inl B), some (.inl (bI2 p i)), some (.inl i), none] [.inl v] z) (fun v w' => ∃ x, v = some (.inl x) ∧ QM w A (fun x => x = blockQ A r c) x w') := by
        intro v hv
        refine ok_eq (b157_136 X (d + 2) 38 c B _ i v z) ?_
        rw [wrap_id (z := i + 1) (by omega) (by omega), or0 (bI2_rng (by omega))]
        refine ok_if (fun g => ?_) (fun g => ?_)
        · rw [if_neg (fun r' => (hv.mpr r') g)] at go; exact go
        · rw [if_pos (hv.mp g)] at go; exact go
      have no : ¬ p i.toNat = true → Ok (R X (d + 3) 157 135 [some (.inr 38), none, some (.inl c), none, some (.inl B), some (.inl (bI2 p i)), some (.inl i), none] [] z) (fun v w' => ∃ x, v = some (.inl x) ∧ QM w A (fun x => x = blockQ A r c) x w') := fun g => ok_eq (b157_135 X (d + 2) 38 c B _ i z) (nx 0 ⟨fun r' => absurd rfl r', fun r' => absurd r' g⟩)
      have cond : andI (andI (prt A.1.2 A.1.1 i) B) (xorI (orI 1 (shlI 1 i)) (-1)) = 0 ↔ smB A.1.2 A.1.1 i B = true := by
        rw [out2 (by omega), smB_iff (by omega)]
        constructor
        · intro g j hj g1 g2
          exact g j hj (by rw [tb_and, g1, g2]; rfl)
        · intro g j hj g1
          rw [tb_and, Bool.and_eq_true] at g1
          exact g j hj g1.1 g1.2
      refine ok_eq (b157_90 X (d + 2) 38 c B _ i z) (ok_gd (Sz.1 38) (ok_iff (by rw [hn0]; omega) (ok_if (fun g => no (fun r' => g ((shr_and (by omega) (by omega)).mpr (hpi.mp r').1))) (fun g => ok_gd (Sz.1 38) (ok_i (parts_m (d := d) Sz m1.1 o3 o1 o2 (by omega)) (ok_if (fun g2 => no (fun r' => g2 (cond.mpr (hpi.mp r').2))) (fun g2 => nx 1 ⟨fun _ => hpi.mpr ⟨(shr_and (by omega) (by omega)).mp (Decidable.not_not.mp g), cond.mp (Decidable.not_not.mp g2)⟩, fun _ => by omega⟩)))))))
    · intro s e
      rw [e]
      refine ok_eq (b157_90 X (d + 2) 38 c B _ A.1.1 z) (ok_gd (Sz.1 38) (ok_ift (by rw [hn0]; omega) (ok_if (fun g => fin1 _ ?_) (fun g => fin1 _ ?_))))
      · rw [e0, if_neg g]
      · rw [e0, if_pos (Decidable.not_not.mp g)]
  refine ok_up (fun i (l : Int) => R X (d + 3) 157 28 [some (.inr 38), none, some (.inl c), some (.inl l), some (.inl (-1)), some (.inl i), none, none] [] z) (fun i l => 0 ≤ l ∧ l ≤ r ∧ B = nth (isBk A.1.2 A.1.1) (shlI 1 A.1.1 - i).toNat i l) 1 (shlI 1 A.1.1) hp.1 ?_ ?_ r ⟨by omega, Int.le_refl _, hB.symm⟩
  · intro i l i0 i1 ⟨l0, l1, hE⟩ ih
    rw [nth_s i1] at hE
    refine ok_eq (b157_28 X (d + 2) 38 c l (-1) i z) (ok_gd (Sz.1 38) (ok_iff (by rw [hn0]; omega) (ok_iff (fun g => g rfl) (ok_gd (Sz.1 38) (ok_i (isb_m Sz hn0 wz o3 o1 o2 (by omega) i1) ?_)))))
    rw [wrap_id (z := i + 1) (by omega) (by omega), wrap_id (z := l + -1) (by omega) (by omega)]
    refine ok_if (fun g => ih l ⟨l0, l1, ?_⟩) (fun g => ok_if (fun g2 => ih (l + -1) ⟨by omega, by omega, ?_⟩) (fun g2 => ?_))
    · rw [hE, if_neg (bI_eq.mp g)]
    · rw [hE, if_pos (bI_ne.mp g), if_neg g2]
      rfl
    · have hBi : B = i := by rw [hE, if_pos (bI_ne.mp g), if_pos (Decidable.not_not.mp g2)]
      have := found (by omega) (by omega)
      rw [hBi] at this
      exact ok_eq (b157_28 X (d + 2) 38 c _ i (i + 1) z) (ok_gd (Sz.1 38) (ok_if (fun _ => this) (fun _ => ok_ift (by omega) this)))
  · intro l ⟨l0, l1, hE⟩
    rw [Int.sub_self, show (0 : Int).toNat = 0 from rfl, nth] at hE
    refine ok_eq (b157_28 X (d + 2) 38 c l (-1) _ z) (ok_gd (Sz.1 38) (ok_ift (by rw [hn0]; omega) (ok_eq (b157_75 X (d + 2) 38 c (-1) z) (ok_iff (fun g => g rfl) (fin1 _ ?_)))))
    rw [e0, if_pos hE]
end NA
