/-! what the reference tells: sums, differences, laws -/
theorem divI_p {x y : Int} (h0 : 0 ≤ x) (h1 : x < 2147483648) (hy : 0 < y) (hy1 : y < 2147483648) : divI x y = x / y := by
  unfold divI opI
  have hb := Int.ediv_le_self y h0
  have hc := Int.ediv_nonneg h0 (Int.le_of_lt hy)
  rw [Int32.toInt_div, Int32.toInt_ofInt_of_le (by omega) (by omega), Int32.toInt_ofInt_of_le (by omega) (by omega), Int.tdiv_eq_ediv_of_nonneg h0]
  exact bm_id (by omega) (by omega)
theorem remI_p {x y : Int} (h0 : 0 ≤ x) (h1 : x < 2147483648) (hy : 0 < y) (hy1 : y < 2147483648) : remI x y = x % y := by
  have hd := divI_p h0 h1 hy hy1
  unfold divI opI at hd
  unfold remI opI
  have hb := Int.ediv_le_self y h0
  have hc := Int.ediv_nonneg h0 (Int.le_of_lt hy)
  have hm := Int.emod_nonneg x (Int.ne_of_gt hy)
  have hl := Int.emod_lt_of_pos x hy
  have he : x / y * y = x - x % y := by have := Int.mul_ediv_add_emod x y; rw [Int.mul_comm] at this; omega
  have hle : x % y ≤ x := by
    have : 0 ≤ x / y * y := Int.mul_nonneg hc (Int.le_of_lt hy)
    omega
  rw [Int32.toInt_sub, Int32.toInt_mul, hd, Int32.toInt_ofInt_of_le (by omega) (by omega), Int32.toInt_ofInt_of_le (by omega) (by omega), he, show (x - x % y).bmod (2 ^ 32) = x - x % y from bm_id (by omega) (by omega), show x - (x - x % y) = x % y by omega]
  exact bm_id (by omega) (by omega)
def QM (w : MW) (A : AS) (P : Int → Prop) (x : Int) (w' : MW) : Prop := P x ∧ MoS w' A ∧ Kp 38 48 w w'
section MV1
variable {X : Nat × (Nat → Int)} {d : Nat} {w w' : MW} {n : Int} {t : Int → Int → Int} {A : AS}
theorem QM.same (h : MoS w A) {P : Int → Prop} {v : Int} (e : P v) : QM w A P v w := ⟨e, h, Kp.rf⟩
theorem MoS.qry (h : MoS w A) (k : Kp 45 48 w w') : MoS w' A ∧ Kp 38 48 w w' := ⟨⟨h.1.kp k (by omega), h.2.1.kp k (by omega) (k.gi (by omega) 4), h.2.2.1.kp k (by omega) (k.gi (by omega) 6), h.2.2.2.kp k (by omega) (k.gi (by omega) 8)⟩, k.wide (by omega) (by omega)⟩
theorem mc_m1 {v : Int} (h : v = 12 ∨ (0 ≤ v ∧ v < 12)) : mc v = -1 ↔ v = 12 := by
  unfold mc
  split <;> omega
theorem mc_eq {v x : Int} (h : v = 12 ∨ (0 ≤ v ∧ v < 12)) (hx : 0 ≤ x ∧ x < 12) : mc v = x ↔ v = x := by
  unfold mc
  split <;> omega
theorem mc_or {v : Int} (h : v = 12 ∨ (0 ≤ v ∧ v < 12)) : (if mc v ≠ -1 then mc v else -5) = orN v := by
  unfold mc orN
  (repeat' split) <;> omega
theorem tv12 (hw : twf t n) (hn : n ≤ 12) (a b : Int) : t a b = 12 ∨ (0 ≤ t a b ∧ t a b < 12) := by have := hw.2.1 a b; omega
theorem lsv12 {p : Int → Bool} (h0 : 0 ≤ n) (hn : n ≤ 12) : lsA p n = 12 ∨ (0 ≤ lsA p n ∧ lsA p n < 12) := by
  rcases lsA_cases (p := p) h0 with h | h
  · exact Or.inl h.1
  · right; omega
theorem msum_q (hS : Sh w) (h : MoS w A) (ho : okB A.1) (a b : Int) : OkI (run X (d + 2) 138 [.inr 38, .inl a, .inl b] w) (QM w A (fun x => x = sumQ A a b)) := by
  obtain ⟨o1, o2, o3⟩ := ho
  have hi := fun v => ist_ok (X := X) (d := d) hS h.1.1 ⟨by omega, o2⟩ v
  have fin1 : ¬ ((0 ≤ a ∧ a < A.1.1) ∧ (0 ≤ b ∧ b < A.1.1)) → sumQ A a b = -1 := fun q => if_pos q
  refine ok_eq (b138_0 X (d + 1) 38 a b w) (ok_gd (hS.1 38) (ok_i (hi a) (ok_if (fun h1 => ok_ret ⟨_, rfl, QM.same h (fin1 (fun q => bI_eq.mp h1 q.1)).symm⟩) (fun h1 => ok_gd (hS.1 38) (ok_i (hi b) (ok_if (fun h2 => ok_gd (hS.1 38) (ok_i (plus_ok hS h.1 o3 o2 (bI_ne.mp h1) (bI_ne.mp h2)) ?_)) (fun h2 => ok_ret ⟨_, rfl, QM.same h (fin1 (fun q => h2 (bI_ne.mpr q.2))).symm⟩)))))))
  have e : sumQ A a b = orN (A.1.2 a b) := if_neg (fun q => q ⟨bI_ne.mp h1, bI_ne.mp h2⟩)
  have v := tv12 o3 o2 a b
  refine ok_if (fun q => ok_ret ⟨_, rfl, QM.same h ?_⟩) (fun q => ok_ret ⟨_, rfl, QM.same h ?_⟩)
  · rw [e, ← mc_or v, if_pos q]
  · rw [e, ← mc_or v, if_neg q]
theorem lack_ok (hS : Sh w) (h : TbM w n t) (hw : twf t n) (h0n : 0 ≤ n) (hn : n ≤ 12) {s p : Int} (hs : 0 ≤ s ∧ s < n) (hp : 0 ≤ p ∧ p < n) : run X (d + 1) 139 [.inr 38, .inl s, .inl p] w = some (some (.inl (mc (lsA (fun c => decide (t p c = s)) n))), w) := by
  apply ok_one
  refine ok_eq (b139_0 X d 38 s p w) (ok_gd (hS.1 38) ?_)
  rw [h.1, wrap_id (by omega) (by omega)]
  refine ok_up (fun i z => R X (d + 1) 139 10 [some (.inr 38), some (.inl s), some (.inl p), some (.inl (mc (lsF (fun c => decide (t p c = s)) (n - (n - i)).toNat (n - i)))), some (.inl (n - 1 - i))] [] z) (fun i z => z = w) 0 n h0n ?_ ?_ w rfl |> ok_eq ?_
  · rw [show n - (n - 0) = 0 by omega, show n - 1 - 0 = n - 1 by omega]
    rfl
  · intro i z i0 i1 e ih
    rw [e]
    have go := ih w rfl
    rw [show n - (i + 1) = n - 1 - i by omega, show n - 1 - (i + 1) = n - 1 - i - 1 by omega] at go
    refine ok_eq (b139_10 X d 38 s p _ (n - 1 - i) w) (ok_iff (by omega) (ok_gd (hS.1 38) (ok_i (plus_ok hS h hw hn hp (by omega)) ?_)))
    rw [wrap_id (z := n - 1 - i + -1) (by omega) (by omega), show n - 1 - i + -1 = n - 1 - i - 1 by omega]
    have v := mc_eq (x := s) (tv12 hw hn p (n - 1 - i)) (by omega)
    refine ok_if (fun q => ?_) (fun q => ?_)
    · have hno := lsF_no (p := fun c => decide (t p c = s)) (n := n) (i := n - 1 - i) (by omega) (by simpa using fun r => q (v.mpr r))
      rw [hno, show n - 1 - i + 1 = n - i by omega] at go
      exact go
    · have hyes := lsF_yes (p := fun c => decide (t p c = s)) (n := n) (i := n - 1 - i) (by omega) (by simpa using v.mp (Decidable.not_not.mp q))
      rw [hyes, mc_ne (by omega)] at go
      exact go
  · intro z e
    rw [e]
    refine ok_eq (b139_10 X d 38 s p _ (n - 1 - n) w) (ok_ift (by omega) (ok_ret ⟨?_, rfl⟩))
    rw [show n - n = 0 by omega, Int.sub_zero]
    rfl
theorem mdiff_q (hS : Sh w) (h : MoS w A) (ho : okB A.1) (a b : Int) : OkI (run X (d + 2) 140 [.inr 38, .inl a, .inl b] w) (QM w A (fun x => x = diffQ A a b)) := by
  obtain ⟨o1, o2, o3⟩ := ho
  have hi := fun v => ist_ok (X := X) (d := d) hS h.1.1 ⟨by omega, o2⟩ v
  have fin1 : ¬ ((0 ≤ a ∧ a < A.1.1) ∧ (0 ≤ b ∧ b < A.1.1)) → diffQ A a b = -1 := fun q => if_pos q
  refine ok_eq (b140_0 X (d + 1) 38 a b w) (ok_gd (hS.1 38) (ok_i (hi a) (ok_if (fun h1 => ok_ret ⟨_, rfl, QM.same h (fin1 (fun q => bI_eq.mp h1 q.1)).symm⟩) (fun h1 => ok_gd (hS.1 38) (ok_i (hi b) (ok_if (fun h2 => ok_gd (hS.1 38) (ok_i (lack_ok (d := d) hS h.1 o3 (by omega) o2 (bI_ne.mp h1) (bI_ne.mp h2)) ?_)) (fun h2 => ok_ret ⟨_, rfl, QM.same h (fin1 (fun q => h2 (bI_ne.mpr q.2))).symm⟩)))))))
  have e : diffQ A a b = orN (lsA (fun c => decide (A.1.2 b c = a)) A.1.1) := if_neg (fun q => q ⟨bI_ne.mp h1, bI_ne.mp h2⟩)
  have v := lsv12 (p := fun c => decide (A.1.2 b c = a)) (n := A.1.1) (by omega) o2
  refine ok_if (fun q => ok_ret ⟨_, rfl, QM.same h ?_⟩) (fun q => ok_ret ⟨_, rfl, QM.same h ?_⟩)
  · rw [e, ← mc_or v, if_pos q]
  · rw [e, ← mc_or v, if_neg q]
theorem unl_ok (hS : Sh w) (h : TbM w n t) (hw : twf t n) (hn : n ≤ 12) {a b c : Int} (ha : 0 ≤ a ∧ a < n) (hb : 0 ≤ b ∧ b < n) (hc : 0 ≤ c ∧ c < n) : run X (d + 1) 141 [.inr 38, .inl a, .inl b, .inl c] w = some (some (.inl (bI (unl t a b c = true))), w) := by
  have out : ∀ y, t 12 y = 12 ∧ t y 12 = 12 := fun y => ⟨hw.2.2.2 _ _ (by omega), hw.2.2.2 _ _ (by omega)⟩
  have key : ∀ v, v = mc (t a (t b c)) → Ok (R X (d + 1) 141 25 [some (.inr 38), some (.inl a), some (.inl b), some (.inl c), none, none, none] [.inl v] w) (fun v w' => v = some (.inl (bI (unl t a b c = true))) ∧ w' = w) := by
    intro v hv
    have v1 := tv12 hw hn a (t b c)
    refine ok_eq (b141_25 X d 38 a b c v w) (ok_if (fun q => ?_) (fun q => ok_ret ⟨?_, rfl⟩))
    · have hne : t a (t b c) ≠ 12 := fun r => q (by rw [hv, r]; rfl)
      have eU : unl t a b c = true ↔ t (t a b) c ≠ t a (t b c) := by
        unfold unl
        rw [decide_eq_true hne]
        simp
      refine ok_gd (hS.1 38) (ok_i (plus_ok hS h hw hn ha hb) (ok_if (fun q2 => ok_ret ⟨?_, rfl⟩) (fun q2 => ?_)))
      · have := (mc_m1 (tv12 hw hn a b)).mp q2
        rw [show bI (unl t a b c = true) = 1 from if_pos (eU.mpr (by rw [this, (out c).1]; omega))]
      · have hab : t a b ≠ 12 := fun r => q2 (by rw [r]; rfl)
        have rng := hw.2.1 a b
        rw [mc_ne hab]
        refine ok_gd (hS.1 38) (ok_i (plus_ok hS h hw hn (by omega) hc) ?_)
        rw [hv, mc_ne hne]
        have v2 := mc_eq (x := t a (t b c)) (tv12 hw hn (t a b) c) (by omega)
        refine ok_if (fun q3 => ok_ret ⟨?_, rfl⟩) (fun q3 => ok_ret ⟨?_, rfl⟩)
        · rw [show bI (unl t a b c = true) = 0 from if_neg (fun r => eU.mp r (v2.mp q3))]
        · rw [show bI (unl t a b c = true) = 1 from if_pos (eU.mpr (fun r => q3 (v2.mpr r)))]
    · have := (mc_m1 v1).mp (hv.symm.trans (Decidable.not_not.mp q))
      rw [show bI (unl t a b c = true) = 0 from if_neg (by unfold unl; rw [decide_eq_false (fun r => r this)]; simp)]
  apply ok_one
  refine ok_eq (b141_0 X d 38 a b c w) (ok_gd (hS.1 38) (ok_i (plus_ok hS h hw hn hb hc) (ok_if (fun q => ?_) (fun q => key _ ?_))))
  · have hbc : t b c ≠ 12 := fun r => q (by rw [r]; rfl)
    have rng := hw.2.1 b c
    rw [mc_ne hbc]
    exact ok_gd (hS.1 38) (ok_i (plus_ok hS h hw hn ha (by omega)) (key _ rfl))
  · have := (mc_m1 (tv12 hw hn b c)).mp (Decidable.not_not.mp q)
    rw [this, (out a).2]
    rfl
theorem unm_ok (hS : Sh w) (h : TbM w n t) (hw : twf t n) (h2n : 2 ≤ n) (hn : n ≤ 12) {a : Int} (ha : 0 ≤ a ∧ a < n) : run X (d + 1) 142 [.inr 38, .inl a] w = some (some (.inl (bI (rsts t n a ≠ 1))), w) := by
  apply ok_one
  refine ok_eq (b142_0 X d 38 a w) ?_
  refine ok_up (fun i s => R X (d + 1) 142 4 [some (.inr 38), some (.inl a), some (.inl (Sg (fun b => bI (t a b = 1)) 0 i.toNat)), some (.inl i)] [] s) (fun _ s => s = w) 0 n (by omega) ?_ ?_ w rfl
  · intro i s g1 g2 e ih
    rw [e]
    have z := ih w rfl
    have hs := Sg_s (f := fun b => bI (t a b = 1)) (lo := 0) (i := i) g1
    rw [Int.sub_zero, Int.sub_zero] at hs
    rw [hs] at z
    have hb : 0 ≤ Sg (fun b => bI (t a b = 1)) 0 i.toNat ∧ Sg (fun b => bI (t a b = 1)) 0 i.toNat ≤ 1 * 12 := Sg_rng (fun _ => bI_rng) (by omega) (by omega)
    refine ok_eq (b142_4 X d 38 a _ i w) (ok_gd (hS.1 38) (ok_iff (by rw [h.1]; omega) (ok_gd (hS.1 38) (ok_i (plus_ok hS h hw hn ha (by omega)) ?_))))
    have v := mc_eq (x := 1) (tv12 hw hn a i) (by omega)
    rw [wrap_id (z := i + 1) (by omega) (by omega), wrap_id (z := Sg (fun b => bI (t a b = 1)) 0 i.toNat + 0) (by omega) (by omega), wrap_id (z := Sg (fun b => bI (t a b = 1)) 0 i.toNat + 1) (by omega) (by omega)]
    refine ok_if (fun hc => ?_) (fun hc => ?_)
    · rw [show bI (t a i = 1) = 0 from if_neg (fun r => hc (v.mpr r))] at z
      exact z
    · rw [show bI (t a i = 1) = 1 from if_pos (v.mp (Decidable.not_not.mp hc))] at z
      exact z
  · intro s e
    rw [e]
    refine ok_eq (b142_4 X d 38 a _ n w) (ok_gd (hS.1 38) (ok_ift (by rw [h.1]; omega) (ok_if (fun q => ok_ret ⟨?_, rfl⟩) (fun q => ok_ret ⟨?_, rfl⟩))))
    · rw [show bI (rsts t n a ≠ 1) = 0 from if_neg (fun r => r q)]
    · rw [show bI (rsts t n a ≠ 1) = 1 from if_pos q]
theorem abo_ok (hS : Sh w) (h : TbM w n t) (hw : twf t n) (h2n : 2 ≤ n) (hn : n ≤ 12) {a : Int} (ha : 0 ≤ a ∧ a < n) : run X (d + 1) 143 [.inr 38, .inl a] w = some (some (.inl (bI (a ≠ 0 ∧ t a 1 ≠ 12))), w) := by
  have v := mc_m1 (tv12 hw hn a 1)
  apply ok_one
  refine ok_eq (b143_0 X d 38 a w) (ok_if (fun q => ok_ret ⟨?_, rfl⟩) (fun q => ok_gd (hS.1 38) (ok_i (plus_ok hS h hw hn ha (by omega)) (ok_if (fun q2 => ok_ret ⟨?_, rfl⟩) (fun q2 => ok_ret ⟨?_, rfl⟩)))))
  · rw [show bI (a ≠ 0 ∧ t a 1 ≠ 12) = 0 from if_neg (fun r => r.1 q)]
  · rw [show bI (a ≠ 0 ∧ t a 1 ≠ 12) = 0 from if_neg (fun r => r.2 (v.mp q2))]
  · rw [show bI (a ≠ 0 ∧ t a 1 ≠ 12) = 1 from if_pos ⟨q, fun r => q2 (v.mpr r)⟩]
end MV1
