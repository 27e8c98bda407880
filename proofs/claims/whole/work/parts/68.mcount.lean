/-! the reference's counts -/
section NB
variable {X : Nat × (Nat → Int)} {d : Nat} {w w' : MW} {n : Int} {t : Int → Int → Int} {A : AS}
theorem kinds_m (hS : Sh w) (h : TbM w n t) (hw : twf t n) (h2n : 2 ≤ n) (hn : n ≤ 12) (c : Int) : run X (d + 4) 168 [.inr 38, .inl c] w = some (some (.inl (bI2 (fun s => if c = 0 then smA t n s else shA t n s) n)), w) := by
  generalize hp : (fun s : Nat => if c = 0 then smA t n s else shA t n s) = p
  apply ok_one
  refine ok_eq (b168_0 X (d + 3) 38 c w) ?_
  refine ok_up (fun i z => R X (d + 4) 168 4 [some (.inr 38), some (.inl c), some (.inl (bI2 p i)), some (.inl i)] [] z) (fun _ z => z = w) 0 n (by omega) ?_ ?_ w rfl
  · intro i z i0 i1 e ih
    rw [e]
    have go := ih w rfl
    rw [bI2_s i0 (by omega)] at go
    have hpi : p i.toNat = if c = 0 then smA t n i else shA t n i := by rw [← hp]; dsimp only; rw [Int.toNat_of_nonneg i0]
    have yes : p i.toNat = true → Ok (R X (d + 4) 168 36 [some (.inr 38), some (.inl c), none, some (.inl i)] [.inl (bI2 p i)] w) (fun v w' => v = some (.inl (bI2 p n)) ∧ w' = w) := fun g => by
      refine ok_eq (b168_36 X (d + 3) 38 c i _ w) ?_
      rw [wrap_id (z := i + 1) (by omega) (by omega)]
      rw [if_pos g] at go
      exact go
    refine ok_eq (b168_4 X (d + 3) 38 c _ i w) (ok_gd (hS.1 38) (ok_iff (by rw [h.1]; omega) ?_))
    rw [wrap_id (z := i + 1) (by omega) (by omega), or0 (bI2_rng (by omega))]
    refine ok_if (fun g => ok_gd (hS.1 38) (ok_i (small_m (d := d) hS h hw h2n hn (by omega)) (ok_if (fun g2 => ?_) (fun g2 => yes ?_)))) (fun g => ok_gd (hS.1 38) (ok_i (sharp_m (d := d) hS h hw h2n hn (by omega)) (ok_if (fun g2 => ?_) (fun g2 => yes ?_))))
    · rw [if_neg (by rw [hpi, if_pos g]; exact bI_eq.mp g2)] at go
      exact go
    · rw [hpi, if_pos g]
      exact bI_ne.mp g2
    · rw [if_neg (by rw [hpi, if_neg g]; exact bI_eq.mp g2)] at go
      exact go
    · rw [hpi, if_neg g]
      exact bI_ne.mp g2
  · intro z e
    rw [e]
    exact ok_eq (b168_4 X (d + 3) 38 c _ n w) (ok_gd (hS.1 38) (ok_ift (by rw [h.1]; omega) (ok_ret ⟨rfl, rfl⟩)))
theorem isTg_sym (hw : twf t n) {s f : Int} (h : isTg t n s f) : isTg t n f s := by
  obtain ⟨c, e, g, q1, q2, q3, q4, q5, q6, q7⟩ := h
  exact ⟨g, e, c, q3, q2, q1, by rw [hw.1]; exact q5, by rw [hw.1]; exact q4, by rw [hw.1]; exact q7, by rw [hw.1]; exact q6⟩
theorem tri_flip {g : Int → Int → Int} (hg : ∀ a b, 0 ≤ a → 0 ≤ b → g a b = g b a) : ∀ (m : Nat), Sg (fun a => Sg (g a) 0 a.toNat) 0 m = Sg (fun a => Sg (g a) (a + 1) ((m : Int) - (a + 1)).toNat) 0 m
  | 0 => rfl
  | m + 1 => by
    have e1 : Sg (fun a => Sg (g a) (a + 1) (((m + 1 : Nat) : Int) - (a + 1)).toNat) 0 m = Sg (fun a => Sg (g a) (a + 1) ((m : Int) - (a + 1)).toNat) 0 m + Sg (fun a => g a m) 0 m := by
      rw [← Sg_add]
      refine Sg_cg m (fun a q1 q2 => ?_)
      rw [show (((m + 1 : Nat) : Int) - (a + 1)).toNat = ((m : Int) - (a + 1)).toNat + 1 by omega, Sg, show a + 1 + (((m : Int) - (a + 1)).toNat : Int) = (m : Int) by omega]
    have e2 : Sg (g (0 + (m : Int))) 0 (0 + (m : Int)).toNat = Sg (fun a => g a m) 0 m := by
      rw [Int.zero_add, Int.toNat_natCast]
      exact Sg_cg m (fun a q1 q2 => hg _ _ (by omega) q1)
    have e3 : Sg (g (0 + (m : Int))) (0 + (m : Int) + 1) (((m + 1 : Nat) : Int) - (0 + (m : Int) + 1)).toNat = 0 := by
      rw [show (((m + 1 : Nat) : Int) - (0 + (m : Int) + 1)).toNat = 0 by omega]
      rfl
    rw [Sg, Sg, e1, e3, tri_flip hg m, e2]
    omega
theorem unmet_m (hS : Sh w) (h : TbM w n t) (hw : twf t n) (h2n : 2 ≤ n) (hn : n ≤ 12) : OkI (run X (d + 3) 169 [.inr 38] w) (fun x w' => x = apt t n ∧ Kp 48 48 w w') := by
  refine ok_eq (b169_0 X (d + 2) 38 w) (ok_gd (hS.1 38) (ok_V (meets_m (d := d) hS h hw h2n hn) (fun z ⟨kz, wz⟩ => ?_)))
  have Sz := hS.kp kz
  have l48 : ln z 48 = 12 := Sz.2.1 48
  have hn0 : gi z 38 0 = n := by rw [kz.gi (by omega)]; exact h.1
  generalize hg : (fun a b => if (0 ≤ a ∧ a < n) ∧ (0 ≤ b ∧ b < n) then bI (tb (tgt t n a) b.toNat = false) else 0) = g
  have gv : ∀ a b, (0 ≤ a ∧ a < n) → (0 ≤ b ∧ b < n) → g a b = bI (tb (tgt t n a) b.toNat = false) := fun a b ha hb => by rw [← hg]; exact if_pos ⟨ha, hb⟩
  have gb : ∀ a b, 0 ≤ g a b ∧ g a b ≤ 1 := fun a b => by
    rw [← hg]
    dsimp only
    split
    · exact bI_rng
    · omega
  have gs : ∀ a b, g a b = g b a := fun a b => by
    by_cases q : (0 ≤ a ∧ a < n) ∧ (0 ≤ b ∧ b < n)
    · rw [gv a b q.1 q.2, gv b a q.2 q.1]
      refine bI_cg ?_
      have : tb (tgt t n a) b.toNat = true ↔ tb (tgt t n b) a.toNat = true := by
        rw [tgt_tb (by omega), tgt_tb (by omega), Int.toNat_of_nonneg q.2.1, Int.toNat_of_nonneg q.1.1]
        exact ⟨fun r => ⟨q.1.2, isTg_sym hw r.2⟩, fun r => ⟨q.2.2, isTg_sym hw r.2⟩⟩
      rw [← Bool.not_eq_true, ← Bool.not_eq_true, this]
    · rw [← hg]
      dsimp only
      rw [if_neg q, if_neg (fun r => q ⟨r.2, r.1⟩)]
  have ea : apt t n = Sg (fun a => Sg (g a) 0 a.toNat) 0 n.toNat := by
    rw [tri_flip (fun a b _ _ => gs a b)]
    unfold apt sg3
    refine Sg_cg _ (fun a a0 a1 => ?_)
    rw [Int.toNat_of_nonneg (show 0 ≤ n by omega)]
    exact Sg_cg _ (fun b b0 b1 => (gv a b (by omega) (by omega)).symm)
  rw [ea]
  have bo : ∀ i : Int, i ≤ n → 0 ≤ Sg (fun a => Sg (g a) 0 (minI a 12).toNat) 0 i.toNat ∧ Sg (fun a => Sg (g a) 0 (minI a 12).toNat) 0 i.toNat ≤ 12 * 12 := fun i hi => Sg_rng (fun a => Sg_rng (gb a) (by unfold minI; split <;> omega) (by omega)) (by omega) (by omega)
  have bo2 : ∀ i : Int, i ≤ n → 0 ≤ Sg (fun a => Sg (g a) 0 a.toNat) 0 i.toNat ∧ Sg (fun a => Sg (g a) 0 a.toNat) 0 i.toNat ≤ 12 * 12 := fun i hi => by
    have := bo i hi
    rw [Sg_cg (b := fun a => Sg (g a) 0 a.toNat) i.toNat (fun a a0 a1 => by rw [show minI a 12 = a from if_neg (by omega)])] at this
    exact this
  refine ok_up (fun i (s : MW) => R X (d + 3) 169 8 [some (.inr 38), some (.inl (Sg (fun a => Sg (g a) 0 a.toNat) 0 i.toNat)), some (.inl i), none] [] s) (fun _ s => s = z) 0 n (by omega) ?_ ?_ z rfl
  · intro a s a0 a1 e iha
    rw [e]
    have goa := iha z rfl
    rw [Sg_s0 a0] at goa
    refine ok_eq (b169_8 X (d + 2) 38 _ a z) (ok_gd (Sz.1 38) (ok_iff (by rw [hn0]; omega) ?_))
    rw [show Sg (fun a => Sg (g a) 0 a.toNat) 0 a.toNat = Sg (fun a => Sg (g a) 0 a.toNat) 0 a.toNat + Sg (g a) 0 (0 : Int).toNat by show _ = _ + 0; omega]
    refine ok_up (fun i (s : MW) => R X (d + 3) 169 18 [some (.inr 38), some (.inl (Sg (fun a => Sg (g a) 0 a.toNat) 0 a.toNat + Sg (g a) 0 i.toNat)), some (.inl a), some (.inl i)] [] s) (fun _ s => s = z) 0 a a0 ?_ ?_ z rfl
    · intro b s b0 b1 e2 ihb
      rw [e2]
      have gob := ihb z rfl
      rw [Sg_s0 b0, gv a b (by omega) (by omega)] at gob
      have q1 := bo2 a (by omega)
      have q2 : 0 ≤ Sg (g a) 0 b.toNat ∧ Sg (g a) 0 b.toNat ≤ 1 * 12 := Sg_rng (gb a) (by omega) (by omega)
      refine ok_eq (b169_18 X (d + 2) 38 _ a b z) (ok_iff (by omega) (ok_gd (Sz.1 38) (ok_r (Sz.2.2 38 16 (by decide)) (ok_gd ⟨Sz.1 48, a0, by rw [l48]; omega⟩ ?_))))
      rw [wz a a0 a1, wrap_id (z := b + 1) (by omega) (by omega), wrap_id (z := Sg (fun a => Sg (g a) 0 a.toNat) 0 a.toNat + Sg (g a) 0 b.toNat + 1) (by omega) (by omega), wrap_id (z := Sg (fun a => Sg (g a) 0 a.toNat) 0 a.toNat + Sg (g a) 0 b.toNat + 0) (by omega) (by omega)]
      refine ok_if (fun q => ?_) (fun q => ?_)
      · have : tb (tgt t n a) b.toNat = false := Bool.eq_false_iff.mpr (fun r => q ((shr_and b0 (by omega)).mpr r))
        rw [show bI (tb (tgt t n a) b.toNat = false) = 1 from if_pos this, ← Int.add_assoc] at gob
        exact gob
      · have : tb (tgt t n a) b.toNat = true := (shr_and b0 (by omega)).mp (Decidable.not_not.mp q)
        rw [show bI (tb (tgt t n a) b.toNat = false) = 0 from if_neg (by rw [this]; decide), ← Int.add_assoc] at gob
        exact gob
    · intro s e2
      rw [e2]
      refine ok_eq (b169_18 X (d + 2) 38 _ a a z) (ok_ift (Int.le_refl _) ?_)
      rw [wrap_id (z := a + 1) (by omega) (by omega)]
      exact goa
  · intro s e
    rw [e]
    exact ok_eq (b169_8 X (d + 2) 38 _ n z) (ok_gd (Sz.1 38) (ok_ift (by rw [hn0]; omega) (ok_ret ⟨_, rfl, rfl, kz⟩)))
theorem mct_q (hS : Sh w) (h : MoS w A) (ho : okB A.1) (c : Int) : OkI (run X (d + 5) 170 [.inr 38, .inl c] w) (QM w A (fun x => x = ctQ A c)) := by
  obtain ⟨o1, o2, o3⟩ := ho
  have hT := h.1
  have ret : ∀ v, v = ctQ A c → Ok (some (some (.inl v), w)) (fun v w' => ∃ x, v = some (.inl x) ∧ QM w A (fun x => x = ctQ A c) x w') := fun v hv => ok_ret ⟨v, rfl, QM.same h hv⟩
  have retz : ∀ v z, v = ctQ A c → Kp 48 48 w z → Ok (some (some (.inl v), z)) (fun v w' => ∃ x, v = some (.inl x) ∧ QM w A (fun x => x = ctQ A c) x w') := fun v z hv kz => by
    obtain ⟨m1, m2⟩ := h.qry (kz.wide (by omega) (by omega))
    exact ok_ret ⟨v, rfl, hv, m1, m2⟩
  have kin : ∀ k : Int, (k = 0 ∧ c = 4 ∨ k = 1 ∧ c = 5) → Ok (R X (d + 5) 170 84 [none, none] [.inl k, .inr 38] w) (fun v w' => ∃ x, v = some (.inl x) ∧ QM w A (fun x => x = ctQ A c) x w') := fun k hk => by
    refine ok_eq (b170_84 X (d + 4) k 38 w) (ok_gd (hS.1 38) (ok_i (kinds_m (d := d) hS hT o3 o1 o2 k) (ret _ ?_)))
    unfold ctQ
    rcases hk with ⟨e1, e2⟩ | ⟨e1, e2⟩
    · rw [if_neg (by omega), if_neg (by omega), if_neg (by omega), if_neg (by omega), if_pos e2]
      congr 1
      funext s
      rw [if_pos e1]
    · rw [if_neg (by omega), if_neg (by omega), if_neg (by omega), if_neg (by omega), if_neg (by omega), if_pos e2]
      congr 1
      funext s
      rw [if_neg (by omega)]
  refine ok_eq (b170_0 X (d + 4) 38 c w) (ok_i (in_ok X (d + 4) c 0 9 w) (ok_if (fun h1 => ?_) (fun h1 => ret _ ?_)))
  rotate_left
  · have g := bI_eq.mp (Decidable.not_not.mp h1)
    unfold ctQ
    rw [if_neg (by omega), if_neg (by omega), if_neg (by omega), if_neg (by omega), if_neg (by omega), if_neg (by omega), if_neg (by omega), if_neg (by omega), if_neg (by omega), if_neg (by omega)]
  have hc := bI_ne.mp h1
  refine ok_if (fun c3 => ok_if (fun c6 => ok_if (fun c6' => ok_if (fun c7 => ok_if (fun c8 => ok_gd (hS.1 38) (ret _ ?_)) (fun c8 => ok_gd (hS.1 38) (ret _ ?_))) (fun c7 => ok_gd (hS.1 38) (ok_i (breaks_m (d := d + 2) hS hT o3 o1 o2) (ret _ ?_)))) (fun c6' => ok_gd (hS.1 38) (ok_I (unmet_m (d := d + 1) hS hT o3 o1 o2) (fun x z ⟨hx, kz⟩ => retz _ z ?_ kz)))) (fun c6 => ok_if (fun c3' => ok_if (fun c5 => kin 0 (Or.inl ⟨rfl, by omega⟩)) (fun c5 => kin 1 (Or.inr ⟨rfl, by omega⟩))) (fun c3' => ok_gd (hS.1 38) (ok_I (blocks_m (d := d + 1) hS hT o3 o1 o2) (fun x z ⟨hx, kz⟩ => retz _ z ?_ kz))))) (fun c3 => ok_if (fun c0 => ok_if (fun c1 => ok_gd (hS.1 38) (ok_I (first_m (d := d + 2) hS hT o3 o1 o2) (fun k z ⟨ez, hk⟩ => ?_))) (fun c1 => ok_gd (hS.1 38) (ok_i (sums_m (d := d + 3) hS hT o3 (by omega) o2) (ret _ ?_)))) (fun c0 => ok_gd (hS.1 38) (ret _ ?_)))
  · unfold ctQ
    rw [if_neg (by omega), if_neg (by omega), if_neg (by omega), if_neg (by omega), if_neg (by omega), if_neg (by omega), if_neg (by omega), if_neg (by omega), if_neg (by omega), if_pos (by omega)]
    exact h.2.2.2.1
  · unfold ctQ
    rw [if_neg (by omega), if_neg (by omega), if_neg (by omega), if_neg (by omega), if_neg (by omega), if_neg (by omega), if_neg (by omega), if_neg (by omega), if_pos (by omega)]
    exact h.2.1.1
  · unfold ctQ
    rw [if_neg (by omega), if_neg (by omega), if_neg (by omega), if_neg (by omega), if_neg (by omega), if_neg (by omega), if_neg (by omega), if_pos (by omega)]
  · unfold ctQ
    rw [if_neg (by omega), if_neg (by omega), if_neg (by omega), if_neg (by omega), if_neg (by omega), if_neg (by omega), if_pos (by omega)]
    exact hx
  · unfold ctQ
    rw [if_neg (by omega), if_neg (by omega), if_neg (by omega), if_pos (by omega)]
    exact hx
  · rw [ez]
    have e0 : ctQ A c = bI (nBk A.1.2 A.1.1 1752 = 0) := by
      unfold ctQ
      rw [if_neg (by omega), if_neg (by omega), if_pos (by omega)]
    have z0 : fbN A.1.2 A.1.1 → nBk A.1.2 A.1.1 1752 = 0 := fun hf => by
      have := nBk_gap (t := A.1.2) (n := A.1.1) (K := 0) (by omega) 1752 (fun j j0 j1 => hf j j0 (by omega))
      rw [show (0 : Int) + ((1752 : Nat) : Int) = 1752 from rfl] at this
      rw [this]
      rfl
    refine ok_if (fun g => ret _ ?_) (fun g => ret _ ?_)
    · rcases hk with ⟨k1, hf⟩ | ⟨k1, k0, kb, _⟩
      · exact absurd k1 g
      · rw [e0, show bI (nBk A.1.2 A.1.1 1752 = 0) = 0 from if_neg (fun r => by
          have := nBk_none (by omega) r k k0 k1
          rw [kb] at this
          cases this)]
    · rcases hk with ⟨k1, hf⟩ | ⟨k1, k0, kb, _⟩
      · rw [e0, show bI (nBk A.1.2 A.1.1 1752 = 0) = 1 from if_pos (z0 hf)]
      · omega
  · unfold ctQ
    rw [if_neg (by omega), if_pos (by omega)]
  · unfold ctQ
    rw [if_pos (by omega)]
    exact hT.1
end NB
