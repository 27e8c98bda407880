/-! the reference's breaks -/
section MW1
variable {X : Nat × (Nat → Int)} {d : Nat} {w w' : MW} {n : Int} {t : Int → Int → Int} {A : AS}
theorem Sg_zero {f : Int → Int} {lo : Int} : ∀ (m : Nat), (∀ x, lo ≤ x → x < lo + m → f x = 0) → Sg f lo m = 0
  | 0, _ => rfl
  | m + 1, h => by
    rw [Sg, Sg_zero m (fun x q1 q2 => h x q1 (by omega)), h (lo + m) (by omega) (by omega)]
    rfl
theorem Sg_shift {f : Int → Int} {lo : Int} : ∀ (m : Nat), Sg f lo m = Sg (fun x => f (lo + x)) 0 m
  | 0 => rfl
  | m + 1 => by
    rw [Sg, Sg, Sg_shift m, Int.zero_add]
theorem Sg_cut {f : Int → Int} (h0 : 0 ≤ n) (hn : n ≤ 12) (h : ∀ x, n ≤ x → x < 12 → f x = 0) : Sg f 0 12 = Sg f 0 n.toNat := by
  have e : (12 : Nat) = n.toNat + (12 - n.toNat) := by omega
  rw [e, Sg_split, Sg_zero (lo := 0 + (n.toNat : Int)) _ (fun x q1 q2 => h x (by omega) (by omega))]
  omega
theorem Sg_blocks {f : Int → Int} (q : Nat) : ∀ (m : Nat), Sg f 0 (q * m) = Sg (fun a => Sg (fun x => f ((q : Int) * a + x)) 0 q) 0 m
  | 0 => rfl
  | m + 1 => by
    rw [Nat.mul_succ, Sg_split, Sg_blocks q m, Sg, Sg_shift (lo := 0 + ((q * m : Nat) : Int))]
    congr 1
    refine Sg_cg q (fun x _ _ => ?_)
    rw [Int.zero_add, Int.zero_add, Int.natCast_mul]
def bk3 (t : Int → Int → Int) (a b c : Int) : Int := bI (unl t a b c = true)
def bk2 (t : Int → Int → Int) (n a b : Int) : Int := Sg (bk3 t a b) 0 n.toNat
def bk1 (t : Int → Int → Int) (n a : Int) : Int := Sg (bk2 t n a) 0 n.toNat
def bk0 (t : Int → Int → Int) (n a : Int) : Int := bk1 t n a + (bI (rsts t n a ≠ 1) + bI (a ≠ 0 ∧ t a 1 ≠ 12))
theorem bI_cg {p q : Prop} [Decidable p] [Decidable q] (h : p ↔ q) : bI p = bI q := by
  unfold bI
  by_cases g : p
  · rw [if_pos g, if_pos (h.mp g)]
  · rw [if_neg g, if_neg (fun r => g (h.mpr r))]
theorem nBk_sum (h0 : 0 ≤ n) (hn : n ≤ 12) : nBk t n 1752 = Sg (bk0 t n) 0 n.toNat := by
  generalize hB : (fun k => bI (Bk t n k = true)) = B
  have e1 : nBk t n 1752 = Sg B 0 (1728 + (12 + 12)) := by rw [← hB]; rfl
  have p1 : Sg B 0 1728 = Sg (bk1 t n) 0 n.toNat := by
    rw [show (1728 : Nat) = 144 * 12 from rfl, Sg_blocks 144 12, Sg_cut h0 hn]
    · refine Sg_cg _ (fun a a0 a1 => ?_)
      rw [show (144 : Nat) = 12 * 12 from rfl, Sg_blocks 12 12, Sg_cut h0 hn]
      · unfold bk1
        refine Sg_cg _ (fun b b0 b1 => ?_)
        rw [Sg_cut h0 hn]
        · unfold bk2
          refine Sg_cg _ (fun c c0 c1 => ?_)
          rw [← hB]
          dsimp only
          rw [show ((12 * 12 : Nat) : Int) * a + (((12 : Nat) : Int) * b + c) = 144 * a + 12 * b + c by omega, Bk_tri (by omega) (by omega) (by omega)]
          refine bI_cg ?_
          rw [decide_eq_true (show a < n ∧ b < n ∧ c < n by omega)]
          simp
        · intro c c0 c1
          rw [← hB]
          dsimp only
          rw [show ((12 * 12 : Nat) : Int) * a + (((12 : Nat) : Int) * b + c) = 144 * a + 12 * b + c by omega, Bk_tri (by omega) (by omega) (by omega), decide_eq_false (by omega)]
          rfl
      · intro b b0 b1
        refine Sg_zero _ (fun c c0 c1 => ?_)
        rw [← hB]
        dsimp only
        rw [show ((12 * 12 : Nat) : Int) * a + (((12 : Nat) : Int) * b + c) = 144 * a + 12 * b + c by omega, Bk_tri (by omega) (by omega) (by omega), decide_eq_false (by omega)]
        rfl
    · intro a a0 a1
      refine Sg_zero _ (fun x x0 x1 => ?_)
      rw [← hB]
      dsimp only
      rw [show ((144 : Nat) : Int) * a + x = 144 * a + 12 * (x / 12) + x % 12 by omega, Bk_tri (by omega) (by omega) (by omega), decide_eq_false (by omega)]
      rfl
  have p2 : Sg B 1728 12 = Sg (fun a => bI (rsts t n a ≠ 1)) 0 n.toNat := by
    rw [Sg_shift, Sg_cut h0 hn]
    · refine Sg_cg _ (fun a a0 a1 => ?_)
      rw [← hB]
      dsimp only
      unfold Bk
      rw [if_neg (by omega), if_pos (by omega), show 1728 + a - 1728 = a by omega, decide_eq_true (show a < n by omega)]
      exact bI_cg (by simp)
    · intro a a0 a1
      rw [← hB]
      dsimp only
      unfold Bk
      rw [if_neg (by omega), if_pos (by omega), decide_eq_false (by omega)]
      rfl
  have p3 : Sg B 1740 12 = Sg (fun a => bI (a ≠ 0 ∧ t a 1 ≠ 12)) 0 n.toNat := by
    rw [Sg_shift, Sg_cut h0 hn]
    · refine Sg_cg _ (fun a a0 a1 => ?_)
      rw [← hB]
      dsimp only
      unfold Bk
      rw [if_neg (by omega), if_neg (by omega), show 1740 + a - 1740 = a by omega]
      refine bI_cg ?_
      by_cases g : a = 0
      · rw [decide_eq_false (by omega)]
        simp [g]
      · rw [decide_eq_true (by omega)]
        simp [g]
    · intro a a0 a1
      rw [← hB]
      dsimp only
      unfold Bk
      rw [if_neg (by omega), if_neg (by omega), decide_eq_false (by omega)]
      rfl
  rw [e1, Sg_split, Sg_split]
  rw [show (0 : Int) + ((1728 : Nat) : Int) = 1728 from rfl, show (1728 : Int) + ((12 : Nat) : Int) = 1740 from rfl, p1, p2, p3, ← Sg_add, ← Sg_add]
  rfl
theorem bk_bd (hn : n ≤ 12) (a b c : Int) : (0 ≤ bk3 t a b c ∧ bk3 t a b c ≤ 1) ∧ (0 ≤ bk2 t n a b ∧ bk2 t n a b ≤ 12) ∧ (0 ≤ bk1 t n a ∧ bk1 t n a ≤ 144) ∧ (0 ≤ bk0 t n a ∧ bk0 t n a ≤ 146) := by
  have h3 : ∀ a b c, 0 ≤ bk3 t a b c ∧ bk3 t a b c ≤ 1 := fun a b c => bI_rng
  have h2 : ∀ a b, 0 ≤ bk2 t n a b ∧ bk2 t n a b ≤ 12 := fun a b => Sg_rng (h3 a b) (by omega) (by omega)
  have h1 : ∀ a, 0 ≤ bk1 t n a ∧ bk1 t n a ≤ 144 := fun a => Sg_rng (h2 a) (by omega) (by omega)
  have g1 : 0 ≤ bI (rsts t n a ≠ 1) ∧ bI (rsts t n a ≠ 1) ≤ 1 := bI_rng
  have g2 : 0 ≤ bI (a ≠ 0 ∧ t a 1 ≠ 12) ∧ bI (a ≠ 0 ∧ t a 1 ≠ 12) ≤ 1 := bI_rng
  have := h1 a
  refine ⟨h3 a b c, h2 a b, h1 a, ?_⟩
  unfold bk0
  omega
theorem Sg_s0 {f : Int → Int} {i : Int} (h : 0 ≤ i) : Sg f 0 (i + 1).toNat = Sg f 0 i.toNat + f i := by
  have := Sg_s (f := f) (lo := 0) (i := i) h
  rw [Int.sub_zero, Int.sub_zero] at this
  exact this
theorem breaks_m (hS : Sh w) (h : TbM w n t) (hw : twf t n) (h2n : 2 ≤ n) (hn : n ≤ 12) : run X (d + 2) 145 [.inr 38] w = some (some (.inl (nBk t n 1752)), w) := by
  rw [nBk_sum (by omega) hn]
  apply ok_one
  have b0 : ∀ i : Int, i ≤ n → 0 ≤ Sg (bk0 t n) 0 i.toNat ∧ Sg (bk0 t n) 0 i.toNat ≤ 146 * 12 := fun i hi => Sg_rng (fun a => (bk_bd hn a 0 0).2.2.2) (by omega) (by omega)
  have b1 : ∀ a i : Int, i ≤ n → 0 ≤ Sg (bk2 t n a) 0 i.toNat ∧ Sg (bk2 t n a) 0 i.toNat ≤ 12 * 12 := fun a i hi => Sg_rng (fun b => (bk_bd hn a b 0).2.1) (by omega) (by omega)
  have b2 : ∀ a b i : Int, i ≤ n → 0 ≤ Sg (bk3 t a b) 0 i.toNat ∧ Sg (bk3 t a b) 0 i.toNat ≤ 1 * 12 := fun a b i hi => Sg_rng (fun c => (bk_bd hn a b c).1) (by omega) (by omega)
  refine ok_eq (b145_0 X (d + 1) 38 w) ?_
  refine ok_up (fun i s => R X (d + 2) 145 4 [some (.inr 38), some (.inl (Sg (bk0 t n) 0 i.toNat)), some (.inl i), none, none] [] s) (fun _ s => s = w) 0 n (by omega) ?_ ?_ w rfl
  · intro a s a0 a1 e iha
    rw [e]
    have goa := iha w rfl
    rw [Sg_s0 a0] at goa
    refine ok_eq (b145_4 X (d + 1) 38 _ a w) (ok_gd (hS.1 38) (ok_iff (by rw [h.1]; omega) ?_))
    rw [show Sg (bk0 t n) 0 a.toNat = Sg (bk0 t n) 0 a.toNat + Sg (bk2 t n a) 0 (0 : Int).toNat by show _ = _ + 0; omega]
    refine ok_up (fun i s => R X (d + 2) 145 14 [some (.inr 38), some (.inl (Sg (bk0 t n) 0 a.toNat + Sg (bk2 t n a) 0 i.toNat)), some (.inl a), some (.inl i), none] [] s) (fun _ s => s = w) 0 n (by omega) ?_ ?_ w rfl
    · intro b s b0' b1' e2 ihb
      rw [e2]
      have gob := ihb w rfl
      rw [Sg_s0 b0'] at gob
      refine ok_eq (b145_14 X (d + 1) 38 _ a b w) (ok_gd (hS.1 38) (ok_iff (by rw [h.1]; omega) ?_))
      rw [show Sg (bk0 t n) 0 a.toNat + Sg (bk2 t n a) 0 b.toNat = Sg (bk0 t n) 0 a.toNat + Sg (bk2 t n a) 0 b.toNat + Sg (bk3 t a b) 0 (0 : Int).toNat by show _ = _ + 0; omega]
      refine ok_up (fun i s => R X (d + 2) 145 25 [some (.inr 38), some (.inl (Sg (bk0 t n) 0 a.toNat + Sg (bk2 t n a) 0 b.toNat + Sg (bk3 t a b) 0 i.toNat)), some (.inl a), some (.inl b), some (.inl i)] [] s) (fun _ s => s = w) 0 n (by omega) ?_ ?_ w rfl
      · intro c s c0 c1 e3 ihc
        rw [e3]
        have goc := ihc w rfl
        rw [Sg_s0 c0] at goc
        have q0 := b0 a (by omega)
        have q1 := b1 a b (by omega)
        have q2 := b2 a b c (by omega)
        refine ok_eq (b145_25 X (d + 1) 38 _ a b c w) (ok_gd (hS.1 38) (ok_iff (by rw [h.1]; omega) (ok_gd (hS.1 38) (ok_i (unl_ok (d := d) hS h hw hn (by omega) (by omega) (by omega)) ?_))))
        rw [wrap_id (z := c + 1) (by omega) (by omega), wrap_id (z := Sg (bk0 t n) 0 a.toNat + Sg (bk2 t n a) 0 b.toNat + Sg (bk3 t a b) 0 c.toNat + 0) (by omega) (by omega), wrap_id (z := Sg (bk0 t n) 0 a.toNat + Sg (bk2 t n a) 0 b.toNat + Sg (bk3 t a b) 0 c.toNat + 1) (by omega) (by omega)]
        refine ok_if (fun q => ?_) (fun q => ?_)
        · rw [show bk3 t a b c = 0 from q, ← Int.add_assoc] at goc
          exact goc
        · rw [show bk3 t a b c = 1 from if_pos (bI_ne.mp q), ← Int.add_assoc] at goc
          exact goc
      · intro s e3
        rw [e3]
        refine ok_eq (b145_25 X (d + 1) 38 _ a b n w) (ok_gd (hS.1 38) (ok_ift (by rw [h.1]; omega) ?_))
        rw [wrap_id (z := b + 1) (by omega) (by omega)]
        rw [← Int.add_assoc] at gob
        exact gob
    · intro s e2
      rw [e2]
      have q0 := b0 a (by omega)
      have q1 := b1 a n (by omega)
      have rb : ∀ r : Int, r = bI (rsts t n a ≠ 1) → Ok (R X (d + 2) 145 79 [some (.inr 38), none, some (.inl a), none, none] [.inl r, .inl (Sg (bk0 t n) 0 a.toNat + Sg (bk2 t n a) 0 n.toNat)] w) (fun v w' => v = some (.inl (Sg (bk0 t n) 0 n.toNat)) ∧ w' = w) := by
        intro r hr
        have hr1 : 0 ≤ r ∧ r ≤ 1 := by rw [hr]; exact bI_rng
        refine ok_eq (b145_79 X (d + 1) 38 a r _ w) (ok_gd (hS.1 38) (ok_i (abo_ok (d := d) hS h hw h2n hn (by omega)) ?_))
        rw [wrap_id (z := r + 0) (by omega) (by omega), wrap_id (z := r + 1) (by omega) (by omega), wrap_id (z := a + 1) (by omega) (by omega), wrap_id (z := Sg (bk0 t n) 0 a.toNat + Sg (bk2 t n a) 0 n.toNat + (r + 0)) (by omega) (by omega), wrap_id (z := Sg (bk0 t n) 0 a.toNat + Sg (bk2 t n a) 0 n.toNat + (r + 1)) (by omega) (by omega)]
        unfold bk0 bk1 at goa
        rw [← hr] at goa
        refine ok_if (fun q => ?_) (fun q => ?_)
        · rw [q, ← Int.add_assoc] at goa
          exact goa
        · rw [show bI (a ≠ 0 ∧ t a 1 ≠ 12) = 1 from if_pos (bI_ne.mp q), ← Int.add_assoc] at goa
          exact goa
      refine ok_eq (b145_14 X (d + 1) 38 _ a n w) (ok_gd (hS.1 38) (ok_ift (by rw [h.1]; omega) (ok_gd (hS.1 38) (ok_i (unm_ok (d := d) hS h hw h2n hn (by omega)) (ok_if (fun q => rb 0 q.symm) (fun q => rb 1 (if_pos (bI_ne.mp q)).symm))))))
  · intro s e
    rw [e]
    exact ok_eq (b145_4 X (d + 1) 38 _ n w) (ok_gd (hS.1 38) (ok_ift (by rw [h.1]; omega) (ok_ret ⟨rfl, rfl⟩)))
end MW1
