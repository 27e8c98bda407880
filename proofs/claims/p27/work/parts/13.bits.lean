/-! sets as bits -/
def tb (x : Int) (i : Nat) : Bool := (Int32.ofInt x).toBitVec.getLsbD i
def inR (x : Int) : Prop := -2147483648 ≤ x ∧ x < 2147483648
theorem inR_op (f : Int32 → Int32 → Int32) (x y : Int) : inR (opI f x y) := i32_rng _
theorem tb_op {f : Int32 → Int32 → Int32} {x y : Int} {i : Nat} : tb (opI f x y) i = (f (Int32.ofInt x) (Int32.ofInt y)).toBitVec.getLsbD i := by
  unfold tb opI
  rw [Int32.ofInt_toInt]
theorem tb_and (x y : Int) (i : Nat) : tb (andI x y) i = (tb x i && tb y i) := by
  unfold andI
  rw [tb_op]
  simp [tb]
theorem tb_or (x y : Int) (i : Nat) : tb (orI x y) i = (tb x i || tb y i) := by
  unfold orI
  rw [tb_op]
  simp [tb]
theorem tb_m1 {i : Nat} (hi : i < 32) : tb (-1) i = true := by
  have key : ∀ i, i < 32 → tb (-1) i = true := by decide +kernel
  exact key i hi
theorem tb_not {x : Int} {i : Nat} (hi : i < 32) : tb (xorI x (-1)) i = !tb x i := by
  unfold xorI
  rw [tb_op]
  have h := tb_m1 hi
  unfold tb at h ⊢
  simp [h, hi]
theorem tb_ext {x y : Int} (hx : inR x) (hy : inR y) (h : ∀ i, i < 32 → tb x i = tb y i) : x = y := by
  have e : Int32.ofInt x = Int32.ofInt y := by
    apply Int32.toBitVec_inj.1
    apply BitVec.eq_of_getLsbD_eq
    intro i hi
    exact h i hi
  rw [← i32_of hx.1 hx.2, ← i32_of hy.1 hy.2, e]
theorem ofInt_nat (m : Nat) : Int32.ofInt (m : Int) = nI m := by
  apply Int32.toInt_inj.mp
  rw [Int32.toInt_ofInt]
  show _ = (Int32.ofNat m).toInt
  rw [Int32.toInt_ofNat']
theorem tb_nat {m i : Nat} (hi : i < 32) : tb (m : Int) i = m.testBit i := by
  unfold tb
  rw [ofInt_nat]
  show (BitVec.ofNat 32 m).getLsbD i = _
  rw [BitVec.getLsbD_ofNat]
  simp [hi]
theorem shl1 {a : Int} (h0 : 0 ≤ a) (h1 : a < 31) : shlI 1 a = ((2 ^ a.toNat : Nat) : Int) := by
  have key : ∀ k : Nat, k < 31 → shlI 1 (k : Int) = ((2 ^ k : Nat) : Int) := by decide +kernel
  have := key a.toNat (by omega)
  rw [Int.toNat_of_nonneg h0] at this
  exact this
theorem tb_shl {a : Int} {i : Nat} (h0 : 0 ≤ a) (h1 : a < 31) (hi : i < 32) : tb (shlI 1 a) i = decide (i = a.toNat) := by
  rw [shl1 h0 h1, tb_nat hi, Nat.testBit_two_pow]
  congr 1
  exact propext eq_comm
theorem inR_nat {m : Nat} (h : m < 2147483648) : inR (m : Int) := ⟨by omega, by omega⟩
/-- the set of those below n that p holds of -/
def bs (p : Nat → Bool) : Nat → Nat
  | 0 => 0
  | n + 1 => bs p n ||| (if p n then 2 ^ n else 0)
theorem bs_tb (p : Nat → Bool) : ∀ (n i : Nat), (bs p n).testBit i = (decide (i < n) && p i)
  | 0, i => by simp [bs]
  | n + 1, i => by
    rw [bs, Nat.testBit_or, bs_tb p n i]
    by_cases h : i = n
    · subst h
      by_cases hp : p i <;> simp [hp]
    · have e : decide (i < n + 1) = decide (i < n) := by
        congr 1
        exact propext ⟨fun q => by omega, fun q => by omega⟩
      rw [e]
      by_cases hp : p n
      · rw [if_pos hp, Nat.testBit_two_pow_of_ne (fun q => h q.symm), Bool.or_false]
      · rw [if_neg hp, Nat.zero_testBit, Bool.or_false]
theorem bs_lt (p : Nat → Bool) : ∀ n, bs p n < 2 ^ n
  | 0 => by simp [bs]
  | n + 1 => by
    rw [bs]
    have h := bs_lt p n
    refine Nat.or_lt_two_pow (Nat.lt_of_lt_of_le h (Nat.pow_le_pow_right (by omega) (by omega))) ?_
    split
    · exact Nat.pow_lt_pow_right (by omega) (by omega)
    · exact Nat.two_pow_pos _
def bI2 (p : Nat → Bool) (n : Int) : Int := ((bs p n.toNat : Nat) : Int)
theorem bI2_rng {p : Nat → Bool} {n : Int} (hn : n ≤ 30) : inR (bI2 p n) := by
  unfold bI2
  apply inR_nat
  exact Nat.lt_of_lt_of_le (bs_lt p _) (Nat.le_trans (Nat.pow_le_pow_right (by omega) (show n.toNat ≤ 30 by omega)) (by decide))
theorem tb_bI2 {p : Nat → Bool} {n : Int} {i : Nat} (hi : i < 32) : tb (bI2 p n) i = (decide ((i : Int) < n) && p i) := by
  unfold bI2
  rw [tb_nat hi, bs_tb]
  congr 1
  apply decide_eq_decide.mpr
  omega
theorem bI2_0 {p : Nat → Bool} : bI2 p 0 = 0 := rfl
theorem bI2_s {p : Nat → Bool} {i : Int} (h0 : 0 ≤ i) (h1 : i < 30) : bI2 p (i + 1) = if p i.toNat then orI (bI2 p i) (shlI 1 i) else bI2 p i := by
  apply tb_ext (bI2_rng (by omega))
  · split
    · exact inR_op _ _ _
    · exact bI2_rng (by omega)
  · intro j hj
    rw [tb_bI2 hj]
    by_cases hp : p i.toNat
    · rw [if_pos hp, tb_or, tb_bI2 hj, tb_shl h0 (by omega) hj]
      by_cases hji : j = i.toNat
      · subst hji
        have e : decide (((i.toNat : Nat) : Int) < i + 1) = true := decide_eq_true (by omega)
        rw [e, hp]
        simp
      · have e : decide ((j : Int) < i + 1) = decide ((j : Int) < i) := by
          apply decide_eq_decide.mpr
          omega
        rw [e]
        simp [hji]
    · rw [if_neg hp, tb_bI2 hj]
      by_cases hji : j = i.toNat
      · subst hji
        simp [hp]
      · have e : decide ((j : Int) < i + 1) = decide ((j : Int) < i) := by
          apply decide_eq_decide.mpr
          omega
        rw [e]
/-- sums over a range -/
def Sg (f : Int → Int) (lo : Int) : Nat → Int
  | 0 => 0
  | k + 1 => Sg f lo k + f (lo + k)
theorem Sg_s {f : Int → Int} {lo i : Int} (h : lo ≤ i) : Sg f lo (i + 1 - lo).toNat = Sg f lo (i - lo).toNat + f i := by
  have e : (i + 1 - lo).toNat = (i - lo).toNat + 1 := by omega
  rw [e, Sg]
  congr 2
  omega
theorem Sg_bd {f : Int → Int} {lo c : Int} (hf : ∀ i, 0 ≤ f i ∧ f i ≤ c) : ∀ k : Nat, 0 ≤ Sg f lo k ∧ Sg f lo k ≤ c * k
  | 0 => by simp [Sg]
  | k + 1 => by
    have h := Sg_bd (lo := lo) hf k
    have h2 := hf (lo + k)
    rw [Sg]
    have e : c * ((k + 1 : Nat) : Int) = c * k + c := by rw [Int.natCast_add, Int.mul_add]; simp
    rw [e]
    omega
/-- the least one of a range, or 12 -/
def lsF (p : Int → Bool) : Nat → Int → Int
  | 0, _ => 12
  | k + 1, c => if p c then c else lsF p k (c + 1)
def lsA (p : Int → Bool) (n : Int) : Int := lsF p n.toNat 0
theorem lsF_yes {p : Int → Bool} {n i : Int} (h : i < n) (hp : p i = true) : lsF p (n - i).toNat i = i := by
  have e : (n - i).toNat = (n - (i + 1)).toNat + 1 := by omega
  rw [e, lsF, if_pos hp]
theorem lsF_no {p : Int → Bool} {n i : Int} (h : i < n) (hp : ¬ p i = true) : lsF p (n - i).toNat i = lsF p (n - (i + 1)).toNat (i + 1) := by
  have e : (n - i).toNat = (n - (i + 1)).toNat + 1 := by omega
  rw [e, lsF, if_neg hp]
theorem lsF_cases {p : Int → Bool} {n : Int} : ∀ (k : Nat) (i : Int), i + k = n → (lsF p k i = 12 ∧ ∀ c, i ≤ c → c < n → p c = false) ∨ (i ≤ lsF p k i ∧ lsF p k i < n ∧ p (lsF p k i) = true ∧ ∀ c, i ≤ c → c < lsF p k i → p c = false)
  | 0, i, h => Or.inl ⟨rfl, fun c h1 h2 => by omega⟩
  | k + 1, i, h => by
    rw [lsF]
    by_cases hp : p i = true
    · rw [if_pos hp]
      exact Or.inr ⟨Int.le_refl _, by omega, hp, fun c h1 h2 => by omega⟩
    · rw [if_neg hp]
      have hp' : p i = false := by simpa using hp
      rcases lsF_cases (p := p) (n := n) k (i + 1) (by omega) with ⟨h1, h2⟩ | ⟨h1, h2, h3, h4⟩
      · refine Or.inl ⟨h1, fun c g1 g2 => ?_⟩
        by_cases e : c = i
        · rw [e]; exact hp'
        · exact h2 c (by omega) g2
      · refine Or.inr ⟨by omega, h2, h3, fun c g1 g2 => ?_⟩
        by_cases e : c = i
        · rw [e]; exact hp'
        · exact h4 c (by omega) g2
theorem lsA_cases {p : Int → Bool} {n : Int} (hn : 0 ≤ n) : (lsA p n = 12 ∧ ∀ c, 0 ≤ c → c < n → p c = false) ∨ (0 ≤ lsA p n ∧ lsA p n < n ∧ p (lsA p n) = true ∧ ∀ c, 0 ≤ c → c < lsA p n → p c = false) := lsF_cases n.toNat 0 (by omega)
