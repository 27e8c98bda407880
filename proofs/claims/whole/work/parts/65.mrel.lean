/-! the reference's relations -/
theorem or0 {x : Int} (h : inR x) : orI x 0 = x := tb_ext (inR_op _ _ _) h (fun i hi => by rw [tb_or, tb_0 hi, Bool.or_false])
theorem eq0 {x : Int} (h : inR x) : x = 0 ↔ ∀ i : Nat, i < 32 → tb x i = false := ⟨fun e i hi => by rw [e]; exact tb_0 hi, fun g => tb_ext h inR_0 (fun i hi => by rw [g i hi, tb_0 hi])⟩
theorem and_eq0 {x y : Int} : andI x y = 0 ↔ ∀ i : Nat, i < 32 → tb (andI x y) i = false := eq0 (inR_op _ _ _)
theorem tb_one {i : Nat} (hi : i < 32) : tb 1 i = decide (i = 0) := by
  have := tb_shl (a := 0) (by omega) (by omega) hi
  rw [tb_shl0] at this
  exact this
theorem and1 {x : Int} : andI x 1 = 1 ↔ tb x 0 = true := by
  constructor
  · intro h
    have := tb_and x 1 0
    rw [h, tb_one (by omega)] at this
    simpa using this.symm
  · intro h
    refine tb_ext (inR_op _ _ _) ⟨by omega, by omega⟩ (fun i hi => ?_)
    rw [tb_and, tb_one hi]
    by_cases e : i = 0
    · rw [e, h]; rfl
    · simp [e]
theorem shr_tb {x i : Int} (h0 : 0 ≤ i) (h1 : i < 12) : tb (shrI x i) 0 = tb x i.toNat := by
  have key : ∀ k : Nat, k < 12 → ((Int32.ofInt (k : Int) &&& 31).toBitVec.smod 32).toNat = k := by decide +kernel
  have e := key i.toNat (by omega)
  rw [Int.toNat_of_nonneg h0] at e
  unfold shrI
  rw [tb_op]
  show (BitVec.sshiftRight (Int32.ofInt x).toBitVec ((Int32.ofInt i &&& 31).toBitVec.smod 32).toNat).getLsbD 0 = _
  rw [e, BitVec.getLsbD_sshiftRight, if_pos (by omega)]
  simp [tb]
theorem shr_and {x i : Int} (h0 : 0 ≤ i) (h1 : i < 12) : andI (shrI x i) 1 = 1 ↔ tb x i.toNat = true := by rw [and1, shr_tb h0 h1]
section MY
variable {X : Nat × (Nat → Int)} {d : Nat} {w w' : MW} {n : Int} {t : Int → Int → Int} {A : AS}
theorem lsx {p : Int → Bool} (h0 : 0 ≤ n) (hn : n ≤ 12) : mc (lsA p n) ≠ -1 ↔ ∃ c, (0 ≤ c ∧ c < n) ∧ p c = true := by
  rcases lsA_cases (p := p) h0 with ⟨e, h⟩ | ⟨r0, r1, hp, h⟩
  · rw [e]
    constructor
    · intro q; exact absurd rfl q
    · rintro ⟨c, c1, c2⟩
      rw [h c c1.1 c1.2] at c2
      cases c2
  · rw [mc_ne (by omega)]
    exact ⟨fun _ => ⟨_, ⟨r0, r1⟩, hp⟩, fun _ => by omega⟩
theorem parts_m (hS : Sh w) (h : TbM w n t) (hw : twf t n) (h2n : 2 ≤ n) (hn : n ≤ 12) {s : Int} (hs : 0 ≤ s ∧ s < n) : run X (d + 2) 147 [.inr 38, .inl s] w = some (some (.inl (prt t n s)), w) := by
  apply ok_one
  unfold prt
  generalize hp : (fun i : Nat => dB (∃ b, 0 ≤ b ∧ b < n ∧ t i b = s)) = p
  refine ok_eq (b147_0 X (d + 1) 38 s w) ?_
  refine ok_up (fun i z => R X (d + 2) 147 4 [some (.inr 38), some (.inl s), some (.inl (bI2 p i)), some (.inl i)] [] z) (fun _ z => z = w) 0 n (by omega) ?_ ?_ w rfl
  · intro i z i0 i1 e ih
    rw [e]
    have go := ih w rfl
    rw [bI2_s i0 (by omega)] at go
    have hpi : p i.toNat = true ↔ mc (lsA (fun c => decide (t i c = s)) n) ≠ -1 := by
      rw [← hp, lsx (by omega) hn, dB_iff, Int.toNat_of_nonneg i0]
      exact ⟨fun ⟨b, b0, b1, b2⟩ => ⟨b, ⟨b0, b1⟩, decide_eq_true b2⟩, fun ⟨b, b0, b1⟩ => ⟨b, b0.1, b0.2, of_decide_eq_true b1⟩⟩
    refine ok_eq (b147_4 X (d + 1) 38 s _ i w) (ok_gd (hS.1 38) (ok_iff (by rw [h.1]; omega) (ok_gd (hS.1 38) (ok_i (lack_ok (d := d) hS h hw (by omega) hn hs (by omega)) ?_))))
    rw [wrap_id (z := i + 1) (by omega) (by omega), or0 (bI2_rng (by omega))]
    refine ok_if (fun q => ?_) (fun q => ?_)
    · rw [if_pos (hpi.mpr q)] at go; exact go
    · rw [if_neg (fun r => q (hpi.mp r))] at go; exact go
  · intro z e
    rw [e]
    exact ok_eq (b147_4 X (d + 1) 38 s _ n w) (ok_gd (hS.1 38) (ok_ift (by rw [h.1]; omega) (ok_ret ⟨rfl, rfl⟩)))
theorem smB_iff {s u : Int} (hs : 0 ≤ s ∧ s < 12) : smB t n s u = true ↔ ∀ i : Nat, i < 32 → tb (prt t n s) i = true → tb u i = true → (i : Int) = s ∨ i = 0 := by
  unfold smB
  rw [decide_eq_true_iff, and_eq0]
  constructor
  · intro g i hi h1 h2
    have := g i hi
    rw [tb_and, tb_and, tb_and, tb_not hi, tb_not hi, tb_shl hs.1 (by omega) hi, tb_shl (by omega) (by omega) hi, h1, h2] at this
    simp at this
    omega
  · intro g i hi
    rw [tb_and, tb_and, tb_and, tb_not hi, tb_not hi, tb_shl hs.1 (by omega) hi, tb_shl (by omega) (by omega) hi]
    cases h1 : tb (prt t n s) i with
    | false => rfl
    | true =>
      cases h2 : tb u i with
      | false => rfl
      | true =>
        rcases g i hi h1 h2 with q | q
        · simp [show i = s.toNat by omega]
        · simp [q]
theorem out2 {s x : Int} (hs : 0 ≤ s ∧ s < 12) : andI x (xorI (orI 1 (shlI 1 s)) (-1)) = 0 ↔ ∀ i : Nat, i < 32 → tb x i = true → (i : Int) = s ∨ i = 0 := by
  rw [and_eq0]
  constructor
  · intro g i hi h1
    have := g i hi
    rw [tb_and, tb_not hi, tb_or, tb_one hi, tb_shl hs.1 (by omega) hi, h1] at this
    simp at this
    omega
  · intro g i hi
    rw [tb_and, tb_not hi, tb_or, tb_one hi, tb_shl hs.1 (by omega) hi]
    cases h1 : tb x i with
    | false => rfl
    | true =>
      rcases g i hi h1 with q | q
      · simp [show i = s.toNat by omega]
      · simp [q]
theorem small_m (hS : Sh w) (h : TbM w n t) (hw : twf t n) (h2n : 2 ≤ n) (hn : n ≤ 12) {s : Int} (hs : 0 ≤ s ∧ s < n) : run X (d + 3) 148 [.inr 38, .inl s] w = some (some (.inl (bI (smA t n s = true))), w) := by
  have e : s ≠ 0 → (smA t n s = true ↔ andI (prt t n s) (xorI (orI 1 (shlI 1 s)) (-1)) = 0) := fun q => by
    unfold smA
    rw [decide_eq_true q, Bool.true_and, smB_iff (by omega), out2 (by omega)]
    exact ⟨fun g i hi h1 => g i hi h1 (tb_m1 hi), fun g i hi h1 _ => g i hi h1⟩
  apply ok_one
  refine ok_eq (b148_0 X (d + 2) 38 s w) (ok_if (fun q => ok_ret ⟨?_, rfl⟩) (fun q => ok_gd (hS.1 38) (ok_i (parts_m (d := d) hS h hw h2n hn hs) (ok_if (fun q2 => ok_ret ⟨?_, rfl⟩) (fun q2 => ok_ret ⟨?_, rfl⟩)))))
  · rw [show bI (smA t n s = true) = 0 from if_neg (by unfold smA; rw [decide_eq_false (fun r => r q)]; simp)]
  · rw [show bI (smA t n s = true) = 0 from if_neg (fun r => q2 ((e q).mp r))]
  · rw [show bI (smA t n s = true) = 1 from if_pos ((e q).mpr (Decidable.not_not.mp q2))]
theorem sharp_m (hS : Sh w) (h : TbM w n t) (hw : twf t n) (h2n : 2 ≤ n) (hn : n ≤ 12) {s : Int} (hs : 0 ≤ s ∧ s < n) : run X (d + 3) 149 [.inr 38, .inl s] w = some (some (.inl (bI (shA t n s = true))), w) := by
  have v := lsv12 (p := fun c => decide (t s c = 1)) (n := n) (by omega) hn
  apply ok_one
  refine ok_eq (b149_0 X (d + 2) 38 s w) (ok_gd (hS.1 38) (ok_i (lack_ok (d := d + 1) hS h hw (by omega) hn (by omega) hs) (ok_if (fun q => ok_ret ⟨?_, rfl⟩) (fun q => ok_gd (hS.1 38) (ok_i (parts_m (d := d) hS h hw h2n hn hs) (ok_gd (hS.1 38) ?_))))))
  · rw [show bI (shA t n s = true) = 0 from if_neg (by unfold shA; rw [decide_eq_false (fun r => r ((mc_m1 v).mp q))]; simp)]
  · have hne : lsA (fun c => decide (t s c = 1)) n ≠ 12 := fun r => q ((mc_m1 v).mpr r)
    have hr : 0 ≤ lsA (fun c => decide (t s c = 1)) n ∧ lsA (fun c => decide (t s c = 1)) n < n := by
      rcases lsA_cases (p := fun c => decide (t s c = 1)) (n := n) (by omega) with ⟨e, _⟩ | ⟨r0, r1, _⟩
      · exact absurd e hne
      · exact ⟨r0, r1⟩
    rw [mc_ne hne]
    refine ok_i (parts_m (d := d) hS h hw h2n hn hr) (ok_if (fun q2 => ok_ret ⟨?_, rfl⟩) (fun q2 => ok_ret ⟨?_, rfl⟩))
    · rw [show bI (shA t n s = true) = 0 from if_neg (by unfold shA; rw [decide_eq_false q2]; simp)]
    · rw [show bI (shA t n s = true) = 1 from if_pos (by unfold shA; rw [decide_eq_true hne, decide_eq_true (Decidable.not_not.mp q2)]; rfl)]
theorem ismet_m (hS : Sh w) (h : TbM w n t) (hw : twf t n) (h2n : 2 ≤ n) (hn : n ≤ 12) {a b c e : Int} (ha : 0 ≤ a ∧ a < n) (hb : 0 ≤ b ∧ b < n) (hc : 0 ≤ c ∧ c < n) (he : 0 ≤ e ∧ e < n) : OkI (run X (d + 1) 150 [.inr 38, .inl a, .inl b, .inl c, .inl e] w) (fun x w' => w' = w ∧ (x = 0 ∨ x = 1) ∧ (x ≠ 0 ↔ ∃ f, (0 ≤ f ∧ f < n) ∧ t e f = b ∧ t a f ≠ 12 ∧ t c b ≠ 12)) := by
  refine ok_eq (b150_0 X d 38 a b c e w) ?_
  refine ok_up (fun i (l : Int) => R X (d + 1) 150 6 [some (.inr 38), some (.inl a), some (.inl b), some (.inl c), some (.inl e), some (.inl l), some (.inl i)] [] w) (fun i l => (l = 0 ∨ l = 1) ∧ (l ≠ 0 ↔ ∃ f, (0 ≤ f ∧ f < i) ∧ t e f = b ∧ t a f ≠ 12 ∧ t c b ≠ 12)) 0 n (by omega) ?_ ?_ 0 ⟨Or.inl rfl, ⟨fun q => absurd rfl q, fun ⟨f, q, _⟩ => by omega⟩⟩
  · intro i l i0 i1 ⟨hl, hI⟩ ih
    refine ok_eq (b150_6 X d 38 a b c e l i w) (ok_gd (hS.1 38) (ok_iff (by rw [h.1]; omega) (ok_if (fun q => ok_gd hl (ok_ret ⟨l, rfl, rfl, hl, ⟨fun g => ?_, fun _ => q⟩⟩)) (fun q => ok_gd (hS.1 38) (ok_i (plus_ok hS h hw hn he (by omega)) ?_)))))
    · obtain ⟨f, f1, f2⟩ := hI.mp g
      exact ⟨f, by omega, f2⟩
    rw [wrap_id (z := i + 1) (by omega) (by omega)]
    have hno : ¬ ∃ f, (0 ≤ f ∧ f < i) ∧ t e f = b ∧ t a f ≠ 12 ∧ t c b ≠ 12 := fun g => (hI.mpr g) (Decidable.not_not.mp q)
    have no : ¬ (t e i = b ∧ t a i ≠ 12 ∧ t c b ≠ 12) → Ok (R X (d + 1) 150 6 [some (.inr 38), some (.inl a), some (.inl b), some (.inl c), some (.inl e), some (.inl 0), some (.inl (i + 1))] [] w) (fun v w' => ∃ x, v = some (.inl x) ∧ w' = w ∧ (x = 0 ∨ x = 1) ∧ (x ≠ 0 ↔ ∃ f, (0 ≤ f ∧ f < n) ∧ t e f = b ∧ t a f ≠ 12 ∧ t c b ≠ 12)) := fun g => ih 0 ⟨Or.inl rfl, ⟨fun r => absurd rfl r, fun ⟨f, f1, f2⟩ => by
      by_cases ef : f = i
      · rw [ef] at f2; exact absurd f2 g
      · exact absurd ⟨f, by omega, f2⟩ hno⟩⟩
    refine ok_if (fun g => no (fun r => g ((mc_eq (tv12 hw hn e i) (by omega)).mpr r.1))) (fun g1 => ok_gd (hS.1 38) (ok_i (plus_ok hS h hw hn ha (by omega)) (ok_if (fun g => no (fun r => r.2.1 ((mc_m1 (tv12 hw hn a i)).mp g))) (fun g2 => ok_gd (hS.1 38) (ok_i (plus_ok hS h hw hn hc hb) (ok_if (fun g => no (fun r => r.2.2 ((mc_m1 (tv12 hw hn c b)).mp g))) (fun g3 => ih 1 ⟨Or.inr rfl, ⟨fun _ => ⟨i, by omega, ?_, ?_, ?_⟩, fun _ => by omega⟩⟩)))))))
    · exact (mc_eq (tv12 hw hn e i) (by omega)).mp (Decidable.not_not.mp g1)
    · exact fun r => g2 ((mc_m1 (tv12 hw hn a i)).mpr r)
    · exact fun r => g3 ((mc_m1 (tv12 hw hn c b)).mpr r)
  · intro l ⟨hl, hI⟩
    exact ok_eq (b150_6 X d 38 a b c e l n w) (ok_gd (hS.1 38) (ok_ift (by rw [h.1]; omega) (ok_gd hl (ok_ret ⟨l, rfl, rfl, hl, hI⟩))))
end MY
