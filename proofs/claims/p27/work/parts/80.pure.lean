/-! what p27's law rests on, as pure facts: remainders, counting, blocks -/
theorem divI_p {x y : Int} (h0 : 0 ≤ x) (h1 : x < 2147483648) (hy : 0 < y) (hy1 : y < 2147483648) : divI x y = x / y := by
  unfold divI opI
  have hb := Int.ediv_le_self y h0
  have hc := Int.ediv_nonneg h0 (Int.le_of_lt hy)
  rw [Int32.toInt_div, Int32.toInt_ofInt_of_le (by omega) (by omega), Int32.toInt_ofInt_of_le (by omega) (by omega), Int.tdiv_eq_ediv_of_nonneg h0]
  exact bm_id (by omega) (by omega)
theorem remI_p {x y : Int} (h0 : 0 ≤ x) (h1 : x < 2147483648) (hy : 0 < y) (hy1 : y < 2147483648) : remI x y = x % y := by
  have hd := divI_p h0 h1 hy hy1
  unfold divI opI at hd
  unfold remI opI
  have hb := Int.ediv_le_self y h0
  have hc := Int.ediv_nonneg h0 (Int.le_of_lt hy)
  have hm := Int.emod_nonneg x (Int.ne_of_gt hy)
  have hl := Int.emod_lt_of_pos x hy
  have he : x / y * y = x - x % y := by have := Int.mul_ediv_add_emod x y; rw [Int.mul_comm] at this; omega
  have hle : x % y ≤ x := by
    have : 0 ≤ x / y * y := Int.mul_nonneg hc (Int.le_of_lt hy)
    omega
  rw [Int32.toInt_sub, Int32.toInt_mul, hd, Int32.toInt_ofInt_of_le (by omega) (by omega), Int32.toInt_ofInt_of_le (by omega) (by omega), he, show (x - x % y).bmod (2 ^ 32) = x - x % y from bm_id (by omega) (by omega), show x - (x - x % y) = x % y by omega]
  exact bm_id (by omega) (by omega)
theorem and_max (v : Int) : 0 ≤ andI v 2147483647 ∧ andI v 2147483647 < 2147483648 := by
  have h : andI v 2147483647 = ((Int32.ofInt v).toBitVec &&& (Int32.ofInt 2147483647).toBitVec).toInt := rfl
  have h2 : (Int32.ofInt 2147483647).toBitVec.toNat = 2147483647 := by decide +kernel
  rw [h, BitVec.toInt_eq_toNat_cond, BitVec.toNat_and, h2]
  have h3 : (Int32.ofInt v).toBitVec.toNat &&& 2147483647 ≤ 2147483647 := Nat.and_le_right
  rw [if_pos (by omega)]
  omega
def lowF (v n : Int) : Int := remI (andI v 2147483647) n
theorem lowF_rng {v n : Int} (h0 : 0 < n) (h1 : n < 2147483648) : 0 ≤ lowF v n ∧ lowF v n < n := by
  have h := and_max v
  unfold lowF
  rw [remI_p h.1 h.2 h0 h1]
  exact ⟨Int.emod_nonneg _ (Int.ne_of_gt h0), Int.emod_lt_of_pos _ h0⟩
theorem eq0 {x : Int} (h : inR x) : x = 0 ↔ ∀ i : Nat, i < 32 → tb x i = false := ⟨fun e i hi => by rw [e]; exact tb_0 hi, fun g => tb_ext h ⟨by omega, by omega⟩ (fun i hi => by rw [g i hi, tb_0 hi])⟩
theorem and_eq0 {x y : Int} : andI x y = 0 ↔ ∀ i : Nat, i < 32 → tb (andI x y) i = false := eq0 (inR_op _ _ _)
/-- a greatest one of a range -/
theorem max_ex {P : Int → Prop} : ∀ (k : Nat) (lo hi : Int), hi - lo = k → (∃ u, lo ≤ u ∧ u < hi ∧ P u) → ∃ u, lo ≤ u ∧ u < hi ∧ P u ∧ ∀ v, u < v → v < hi → ¬ P v
  | 0, lo, hi, h, ⟨u, h1, h2, _⟩ => by omega
  | k + 1, lo, hi, h, ⟨u, h1, h2, h3⟩ => by
    by_cases e : P (hi - 1)
    · exact ⟨hi - 1, by omega, by omega, e, fun v g1 g2 => by omega⟩
    · have hne : u ≠ hi - 1 := fun q => e (q ▸ h3)
      obtain ⟨w, w1, w2, w3, w4⟩ := max_ex k lo (hi - 1) (by omega) ⟨u, h1, by omega, h3⟩
      refine ⟨w, w1, by omega, w3, fun v g1 g2 => ?_⟩
      by_cases q : v = hi - 1
      · rw [q]; exact e
      · exact w4 v g1 (by omega)
section BK
variable {n : Int} {t : Int → Int → Int} {u v : Int}
theorem tgt_tb {s : Int} {i : Nat} (hi : i < 32) : tb (tgt t n s) i = true ↔ (i : Int) < n ∧ isTg t n s i := by
  unfold tgt
  rw [tb_bI2 hi, Bool.and_eq_true, decide_eq_true_iff, dB_iff]
theorem tg_self (hw : twf t n) (h2n : 2 ≤ n) (hn : n ≤ 12) {s : Int} (hs : 0 ≤ s ∧ s < n) : isTg t n s s := by
  have e1 : t 0 s = s := hw.2.2.1 s hs.1 hs.2
  have e2 : t s 0 = s := by rw [hw.1]; exact e1
  exact ⟨0, s, 0, ⟨by omega, by omega⟩, hs, ⟨by omega, by omega⟩, e1, e2, by rw [e2]; omega, by rw [e1]; omega⟩
theorem tg_sym (hw : twf t n) {s f : Int} (h : isTg t n s f) : isTg t n f s := by
  obtain ⟨c, d, e, h1, h2, h3, h4, h5, h6, h7⟩ := h
  exact ⟨e, d, c, h3, h2, h1, by rw [hw.1]; exact h5, by rw [hw.1]; exact h4, by rw [hw.1]; exact h7, by rw [hw.1]; exact h6⟩
/-- all that are in it go together -/
def clq (t : Int → Int → Int) (n u : Int) : Prop := ∀ s f : Int, 0 ≤ s → s < n → 0 ≤ f → f < n → tb u s.toNat = true → tb u f.toNat = true → isTg t n s f
theorem isBk_iff : isBk t n u = true ↔ ∀ i : Nat, i < 32 → (tb u i = true ↔ ∀ s : Int, 0 ≤ s → s < n → tb u s.toNat = true → tb (tgt t n s) i = true) := by
  unfold isBk
  exact dB_iff
theorem bk_ex (hw : twf t n) (h2n : 2 ≤ n) (hn : n ≤ 12) : ∃ u, 1 ≤ u ∧ u < shlI 1 n ∧ isBk t n u = true := by
  have hp := pw_rng (n := n) (by omega) hn
  have h4 : (4 : Int) ≤ shlI 1 n := by
    rw [shl1 (by omega) (by omega)]
    have : 2 ^ 2 ≤ 2 ^ n.toNat := Nat.pow_le_pow_right (by omega) (by omega)
    omega
  have c1 : clq t n 1 := by
    intro s f s0 s1 f0 f1 hs hf
    have e : ∀ i : Nat, i < 32 → tb 1 i = true → i = 0 := by decide +kernel
    have es := e s.toNat (by omega) hs
    have ef := e f.toNat (by omega) hf
    have : s = f := by omega
    subst this
    exact tg_self hw h2n hn ⟨s0, s1⟩
  obtain ⟨u, u1, u2, u3, u4⟩ := max_ex (P := clq t n) (shlI 1 n - 1).toNat 1 (shlI 1 n) (by omega) ⟨1, by omega, by omega, c1⟩
  refine ⟨u, u1, u2, isBk_iff.mpr (fun i hi => ⟨fun h s s0 s1 hs => ?_, fun h => ?_⟩)⟩
  · have hin := pw_tb (n := n) (by omega) hn (by omega) u2 hi h
    rw [tgt_tb hi]
    exact ⟨hin, u3 s i s0 s1 (by omega) hin hs (by rw [Int.toNat_natCast]; exact h)⟩
  · have hun : ∃ j : Nat, j < 32 ∧ tb u j = true := Classical.byContradiction fun hno => by
      have : u = 0 := (eq0 ⟨by omega, by omega⟩).mpr (fun j hj => by
        cases hj2 : tb u j with
        | false => rfl
        | true => exact absurd ⟨j, hj, hj2⟩ hno)
      omega
    obtain ⟨j, hj, hj2⟩ := hun
    have hjn := pw_tb (n := n) (by omega) hn (by omega) u2 hj hj2
    have hin : (i : Int) < n := ((tgt_tb hi).mp (h j (by omega) hjn (by rw [Int.toNat_natCast]; exact hj2))).1
    refine Classical.byContradiction fun hno => ?_
    have hu : ((u.toNat : Nat) : Int) = u := Int.toNat_of_nonneg (by omega)
    have hN : shlI 1 n = ((2 ^ n.toNat : Nat) : Int) := shl1 (by omega) (by omega)
    have hlt : u.toNat < 2 ^ n.toNat := by omega
    have hti : ∀ m : Nat, m < 32 → tb u m = u.toNat.testBit m := fun m hm => by
      have := tb_nat (m := u.toNat) hm
      rw [hu] at this
      exact this
    have hlt2 : u.toNat ||| 2 ^ i < 2 ^ n.toNat := Nat.or_lt_two_pow hlt (Nat.pow_lt_pow_right (by omega) (by omega))
    have hle : u.toNat ≤ u.toNat ||| 2 ^ i := Nat.left_le_or
    have hne : u.toNat ≠ u.toNat ||| 2 ^ i := fun q => by
      have h1 := hti i hi
      rw [q, Nat.testBit_or, Nat.testBit_two_pow_self, Bool.or_true] at h1
      exact hno h1
    have htv : ∀ m : Nat, m < 32 → (tb ((u.toNat ||| 2 ^ i : Nat) : Int) m = true ↔ tb u m = true ∨ m = i) := fun m hm => by
      rw [tb_nat hm, Nat.testBit_or, hti m hm, Nat.testBit_two_pow, Bool.or_eq_true, decide_eq_true_iff]
      constructor
      · rintro (q | q)
        · exact Or.inl q
        · exact Or.inr q.symm
      · rintro (q | q)
        · exact Or.inl q
        · exact Or.inr q.symm
    refine u4 ((u.toNat ||| 2 ^ i : Nat) : Int) (by omega) (by omega) ?_
    intro s f s0 s1 f0 f1 hs hf
    rw [htv _ (by omega)] at hs hf
    have toI : ∀ x : Int, 0 ≤ x → x < n → tb u x.toNat = true → isTg t n x i := fun x x0 x1 hx => ((tgt_tb hi).mp (h x x0 x1 hx)).2
    rcases hs with hs | hs
    · rcases hf with hf | hf
      · exact u3 s f s0 s1 f0 f1 hs hf
      · have e : f = i := by omega
        rw [e]
        exact toI s s0 s1 hs
    · have e : s = i := by omega
      rw [e]
      rcases hf with hf | hf
      · exact tg_sym hw (toI f f0 f1 hf)
      · have e2 : f = i := by omega
        rw [e2]
        exact tg_self hw h2n hn ⟨by omega, hin⟩
theorem bk_in (h0n : 0 ≤ n) (hn : n ≤ 12) (hu : isBk t n u = true) (hv : isBk t n v = true) (hu0 : 0 ≤ u) (hu1 : u < shlI 1 n) (hv0 : 0 ≤ v) (hv1 : v < shlI 1 n) (h : andI u (xorI v (-1)) = 0) : u = v := by
  have hp := pw_rng h0n hn
  have hin : ∀ i : Nat, i < 32 → tb u i = true → tb v i = true := by
    intro i hi hb
    have := and_eq0.mp h i hi
    rw [tb_and, tb_not hi, hb] at this
    simpa using this
  refine tb_ext ⟨by omega, by omega⟩ ⟨by omega, by omega⟩ (fun i hi => ?_)
  cases hb : tb v i with
  | true =>
    have h1 := (isBk_iff.mp hv i hi).mp hb
    exact (isBk_iff.mp hu i hi).mpr (fun s s0 s1 hs => h1 s s0 s1 (hin s.toNat (by omega) hs))
  | false =>
    cases ha : tb u i with
    | false => rfl
    | true =>
      have := hin i hi ha
      rw [hb] at this
      exact absurd this (by decide)
end BK
