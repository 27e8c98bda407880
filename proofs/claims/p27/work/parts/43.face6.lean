/-! what the class tells -/
def QO (w : MW) (A : AS) (P : Int → Prop) (x : Int) (w' : MW) : Prop := P x ∧ ClS w' A ∧ Kh 1 37 w w'
def orN (v : Int) : Int := if v = 12 then -5 else v
def sumQ (A : AS) (a b : Int) : Int := if ¬ ((0 ≤ a ∧ a < A.1.1) ∧ (0 ≤ b ∧ b < A.1.1)) then -1 else orN (A.1.2 a b)
def diffQ (A : AS) (a b : Int) : Int := if ¬ ((0 ≤ a ∧ a < A.1.1) ∧ (0 ≤ b ∧ b < A.1.1)) then -1 else orN (lsA (fun c => decide (A.1.2 b c = a)) A.1.1)
def soF (t : Int → Int → Int) (u : Int) : Nat → Int → Int → Int
  | 0, _, v => v
  | k + 1, i, v => if v = 12 then 12 else soF t u k (i + 1) (if tb u i.toNat = true then t v i else v)
def sumOfQ (A : AS) (u : Int) : Int := if ¬ (0 ≤ u ∧ u < shlI 1 A.1.1) then -1 else orN (soF A.1.2 u A.1.1.toNat 0 0)
noncomputable def blockQ (A : AS) (r c : Int) : Int := if r < 0 ∨ c < 0 ∨ 1 < c then -2 else if bkAt A.1.2 A.1.1 r = 0 then -5 else if c = 0 then bkAt A.1.2 A.1.1 r else bI2 (fun s => smI A.1.2 A.1.1 (bkAt A.1.2 A.1.1 r) s) A.1.1
noncomputable def wsQ (A : AS) (k : Int) : Int := if k < 1 ∨ 6 < k then -2 else minI 1000 (wcount A.1.2 A.1.1 k)
def wtQ (A : AS) (k s : Int) (V : Int → Prop) (x : Int) : Prop := if k < 1 ∨ 6 < k then x = -2 else if ¬ (0 ≤ s ∧ s < A.1.1) then x = -1 else if wcount A.1.2 A.1.1 k < 1 then x = -5 else V x
section FH
variable {X : Nat × (Nat → Int)} {d : Nat} {w w1 w2 w3 : MW} {A : AS}
theorem QO.same (h : ClS w A) {P : Int → Prop} {v : Int} (e : P v) : QO w A P v w := ⟨e, h, Kh.rf⟩
theorem orN_ok (X : Nat × (Nat → Int)) (d : Nat) (a : Int) (w : MW) : run X d 97 [.inl a] w = some (some (.inl (orN a)), w) := by
  apply ok_one
  refine ok_eq (b97_0 X d a w) (ok_if (fun h => ok_ret ⟨?_, rfl⟩) (fun h => ok_ret ⟨?_, rfl⟩))
  · rw [show orN a = a from if_neg h]
  · rw [show orN a = -5 from if_pos (Decidable.not_not.mp h)]
theorem sum_q (h : ClS w A) (a b : Int) : OkI (run X (d + 2) 85 [.inr 1, .inl a, .inl b] w) (QO w A (fun x => x = sumQ A a b)) := by
  have hcs := h
  obtain ⟨hS, ⟨hb, hok⟩, hsn, ⟨hh, hho⟩, htx⟩ := h
  obtain ⟨k1, g0, g1, g3, g4, g5, g6, g7, g8, k2, -⟩ := shF hS
  refine ok_eq (b85_0 X (d + 1) 1 a b w) (ok_gd k1 (ok_r g0 (ok_gd k2 (ok_i (has_ok hb a) (ok_if (fun h1 => ok_ret ⟨_, rfl, QO.same hcs (if_pos (fun q => bI_eq.mp h1 q.1)).symm⟩) (fun h1 => ok_gd k1 (ok_r g0 (ok_gd k2 (ok_i (has_ok hb b) (ok_if (fun h2 => ?_) (fun h2 => ok_ret ⟨_, rfl, QO.same hcs (if_pos (fun q => bI_eq.mp (Decidable.not_not.mp h2) q.2)).symm⟩)))))))))))
  exact ok_gd k1 (ok_r g0 (ok_gd k2 (ok_i (at_ok hb a b) (ok_i (orN_ok X _ _ w) (ok_ret ⟨_, rfl, QO.same hcs (if_neg (fun q => q ⟨bI_ne.mp h1, bI_ne.mp h2⟩)).symm⟩)))))
theorem diff_q (h : ClS w A) (a b : Int) : OkI (run X (d + 3) 86 [.inr 1, .inl a, .inl b] w) (QO w A (fun x => x = diffQ A a b)) := by
  have hcs := h
  obtain ⟨hS, ⟨hb, hok⟩, hsn, ⟨hh, hho⟩, htx⟩ := h
  obtain ⟨k1, g0, g1, g3, g4, g5, g6, g7, g8, k2, -⟩ := shF hS
  refine ok_eq (b86_0 X (d + 2) 1 a b w) (ok_gd k1 (ok_r g0 (ok_gd k2 (ok_i (has_ok hb a) (ok_if (fun h1 => ok_ret ⟨_, rfl, QO.same hcs (if_pos (fun q => bI_eq.mp h1 q.1)).symm⟩) (fun h1 => ok_gd k1 (ok_r g0 (ok_gd k2 (ok_i (has_ok hb b) (ok_if (fun h2 => ?_) (fun h2 => ok_ret ⟨_, rfl, QO.same hcs (if_pos (fun q => bI_eq.mp (Decidable.not_not.mp h2) q.2)).symm⟩)))))))))))
  exact ok_gd k1 (ok_r g0 (ok_gd k2 (ok_i (lea_ok (d := d) hb b a) (ok_i (orN_ok X _ _ w) (ok_ret ⟨_, rfl, QO.same hcs (if_neg (fun q => q ⟨bI_ne.mp h1, bI_ne.mp h2⟩)).symm⟩)))))
theorem ushr_0 {u n : Int} (hu : -2147483648 ≤ u ∧ u < 2147483648) (h0 : 0 ≤ n) (h12 : n ≤ 12) : ushrI u n = 0 ↔ 0 ≤ u ∧ u < shlI 1 n := by
  have e1 : shlI 1 n = ((2 ^ n.toNat : Nat) : Int) := shl1 h0 (by omega)
  have hm : ∀ k : Nat, k < 13 → (((Int32.ofInt (k : Int)).toUInt32 &&& Int32.toUInt32 31)).toNat % 32 = k := by decide +kernel
  have hm2 := hm n.toNat (by omega)
  rw [Int.toNat_of_nonneg h0] at hm2
  have hU : ((Int32.ofInt u).toUInt32).toNat = (u % 4294967296).toNat := by
    show (BitVec.ofInt 32 u).toNat = _
    rw [BitVec.toNat_ofInt]
    rfl
  have e2 : ushrI u n = 0 ↔ ((Int32.ofInt u).toUInt32 >>> ((Int32.ofInt n).toUInt32 &&& Int32.toUInt32 31)).toNat = 0 := by
    show ((Int32.ofInt u).toUInt32 >>> ((Int32.ofInt n).toUInt32 &&& Int32.toUInt32 31)).toInt32.toInt = 0 ↔ _
    generalize (Int32.ofInt u).toUInt32 >>> ((Int32.ofInt n).toUInt32 &&& Int32.toUInt32 31) = v
    constructor
    · intro h
      have : v.toInt32 = 0 := Int32.toInt_inj.mp h
      have h2 : v.toInt32.toUInt32 = (0 : Int32).toUInt32 := by rw [this]
      have h3 : v = 0 := h2
      rw [h3]
      rfl
    · intro h
      have h3 : v = 0 := UInt32.toNat_inj.mp h
      rw [h3]
      rfl
  rw [e2, UInt32.toNat_shiftRight, hm2, hU, e1, Nat.shiftRight_eq_div_pow, Nat.div_eq_zero_iff]
  have hp : 0 < 2 ^ n.toNat := Nat.two_pow_pos _
  have hp2 : 2 ^ n.toNat ≤ 2 ^ 12 := Nat.pow_le_pow_right (by omega) (by omega)
  have hp3 : (2 : Nat) ^ 12 = 4096 := by decide
  rw [hp3] at hp2
  generalize 2 ^ n.toNat = P at hp hp2 ⊢
  omega
theorem sumof_q (h : ClS w A) {u : Int} (hu : -2147483648 ≤ u ∧ u < 2147483648) : OkI (run X (d + 2) 89 [.inr 1, .inl u] w) (QO w A (fun x => x = sumOfQ A u)) := by
  have hcs := h
  obtain ⟨hS, ⟨hb, hok⟩, hsn, ⟨hh, hho⟩, htx⟩ := h
  obtain ⟨k1, g0, g1, g3, g4, g5, g6, g7, g8, k2, -⟩ := shF hS
  obtain ⟨o1, o2, o3⟩ := hok
  refine ok_eq (b89_0 X (d + 1) 1 u w) (ok_gd k1 (ok_r g0 (ok_gd k2 ?_)))
  rw [hb.sz]
  refine ok_if (fun h1 => ?_) (fun h1 => ok_ret ⟨_, rfl, QO.same hcs (if_pos (fun q => h1 ((ushr_0 hu (by omega) o2).mpr q))).symm⟩)
  have e0 : sumOfQ A u = orN (soF A.1.2 u A.1.1.toNat 0 0) := if_neg (fun q => q ((ushr_0 hu (by omega) o2).mp h1))
  refine ok_up (fun i (z : Int × MW) => R X (d + 2) 89 18 [some (.inr 1), some (.inl u), some (.inl z.1), some (.inl i)] [] z.2) (fun i z => z.2 = w ∧ soF A.1.2 u A.1.1.toNat 0 0 = soF A.1.2 u (A.1.1 - i).toNat i z.1) 0 A.1.1 (by omega) ?_ ?_ (0, w) ⟨rfl, by rw [Int.sub_zero]⟩
  · intro i z h2 h3 ⟨e, hE⟩ ih
    obtain ⟨v, s⟩ := z
    dsimp only at e hE ⊢
    subst e
    rw [show (A.1.1 - i).toNat = (A.1.1 - (i + 1)).toNat + 1 by omega, soF] at hE
    refine ok_eq (b89_18 X (d + 1) 1 u v i s) (ok_gd k1 (ok_r g0 (ok_gd k2 ?_)))
    rw [hb.sz, wrap_id (z := i + 1) (by omega) (by omega)]
    refine ok_iff (by omega) (ok_if (fun hc => ok_i (orN_ok X _ v s) (ok_ret ⟨_, rfl, QO.same hcs ?_⟩)) (fun hc => ok_i (bit_ok X _ i s) (ok_if (fun hc2 => ih (v, s) ⟨rfl, ?_⟩) (fun hc2 => ok_gd k1 (ok_r g0 (ok_gd k2 (ok_i (at_ok hb v i) (ih (A.1.2 v i, s) ⟨rfl, ?_⟩))))))))
    · rw [e0, hE, if_pos hc, hc]
    · rw [tb_andb h2 (by omega)] at hc2
      rw [hE, if_neg hc, if_neg (by rw [hc2]; decide)]
    · rw [tb_andb h2 (by omega)] at hc2
      rw [hE, if_neg hc, if_pos (by simpa using hc2)]
  · intro z ⟨e, hE⟩
    obtain ⟨v, s⟩ := z
    dsimp only at e hE ⊢
    subst e
    rw [Int.sub_self, show (0 : Int).toNat = 0 from rfl, soF] at hE
    refine ok_eq (b89_18 X (d + 1) 1 u v A.1.1 s) (ok_gd k1 (ok_r g0 (ok_gd k2 (ok_ift (by rw [hb.sz]; omega) (ok_i (orN_ok X _ v s) (ok_ret ⟨_, rfl, QO.same hcs ?_⟩))))))
    rw [e0, hE]
theorem block_q (h : ClS w A) {r c : Int} (hr : r < 2147483648) : OkI (run X (d + 5) 90 [.inr 1, .inl r, .inl c] w) (QO w A (fun x => x = blockQ A r c)) := by
  have hcs := h
  obtain ⟨hS, ⟨hb, hok⟩, hsn, ⟨hh, hho⟩, htx⟩ := h
  obtain ⟨k1, g0, g1, g3, g4, g5, g6, g7, g8, k2, k4, k6, k16, k21, k22, -⟩ := shF hS
  obtain ⟨o1, o2, o3⟩ := hok
  refine ok_eq (b90_0 X (d + 4) 1 r c w) (ok_if (fun h1 => ok_ret ⟨_, rfl, QO.same hcs (if_pos (Or.inl h1)).symm⟩) (fun h1 => ok_if (fun h2 => ok_ret ⟨_, rfl, QO.same hcs (if_pos (Or.inr (Or.inl h2))).symm⟩) (fun h2 => ok_if (fun h3 => ok_gd k1 (ok_r g6 (ok_gd k1 (ok_r g0 (ok_gd k22 (ok_V (find_ok (d := d) hS hb o3) (fun z ⟨hR, hK⟩ => ?_))))))) (fun h3 => ok_ret ⟨_, rfl, QO.same hcs (if_pos (Or.inr (Or.inr (by omega)))).symm⟩))))
  obtain ⟨hcz, hkz⟩ := hcs.qry (hK.wide (by omega) (by omega))
  have hSz := hS.kp hK
  have e0 : blockQ A r c = if bkAt A.1.2 A.1.1 r = 0 then -5 else if c = 0 then bkAt A.1.2 A.1.1 r else bI2 (fun s => smI A.1.2 A.1.1 (bkAt A.1.2 A.1.1 r) s) A.1.1 := if_neg (by omega)
  refine ok_gd (hSz.1 1) (ok_r (hSz.2.2 1 6 (by decide)) (ok_gd (hSz.1 22) (ok_i (bka_ok (d := d + 2) hSz hR o2 (by omega) (by omega) hr) (ok_if (fun h4 => ok_if (fun h5 => ok_gd (hSz.1 1) (ok_r (hSz.2.2 1 6 (by decide)) (ok_gd (hSz.1 22) (ok_i (smw_ok (d := d + 2) hSz hR o2 (by omega) _) (ok_ret ⟨_, rfl, ?_, hcz, hkz⟩))))) (fun h5 => ok_ret ⟨_, rfl, ?_, hcz, hkz⟩)) (fun h4 => ok_ret ⟨_, rfl, ?_, hcz, hkz⟩)))))
  · rw [e0, if_neg h4, if_neg h5]
  · rw [e0, if_neg h4, if_pos (Decidable.not_not.mp h5)]
  · rw [e0, if_pos (Decidable.not_not.mp h4)]
theorem isw_ok (X : Nat × (Nat → Int)) (d : Nat) (k : Int) (w : MW) : run X d 98 [.inl k] w = some (some (.inl (bI (1 ≤ k ∧ k ≤ 6))), w) := by
  apply ok_one
  refine ok_eq (b98_0 X d k w) (ok_if (fun h => ok_ret ⟨?_, rfl⟩) (fun h => ok_if (fun h2 => ok_ret ⟨?_, rfl⟩) (fun h2 => ok_ret ⟨?_, rfl⟩)))
  · rw [show bI (1 ≤ k ∧ k ≤ 6) = 0 from if_neg (by omega)]
  · rw [show bI (1 ≤ k ∧ k ≤ 6) = 0 from if_neg (by omega)]
  · rw [show bI (1 ≤ k ∧ k ≤ 6) = 1 from if_pos (by omega)]
theorem ws_q (h : ClS w A) (k : Int) : OkI (run X (d + 24) 91 [.inr 1, .inl k] w) (QO w A (fun x => x = wsQ A k)) := by
  have hcs := h
  obtain ⟨hS, ⟨hb, hok⟩, hsn, ⟨hh, hho⟩, htx⟩ := h
  obtain ⟨k1, g0, g1, g3, g4, g5, g6, g7, g8, k2, k4, k6, k16, k21, k22, k27, -⟩ := shF hS
  obtain ⟨o1, o2, o3⟩ := hok
  refine ok_eq (b91_0 X (d + 23) 1 k w) (ok_i (isw_ok X _ k w) (ok_if (fun h1 => ok_gd k1 (ok_r g7 (ok_gd k1 (ok_r g0 (ok_gd k27 (ok_V (wfind_ok (d := d) hS hb o3 o1 (bI_ne.mp h1)) (fun z ⟨hW, hK⟩ => ?_))))))) (fun h1 => ok_ret ⟨_, rfl, QO.same hcs (if_pos ?_).symm⟩)))
  · obtain ⟨hcz, hkz⟩ := hcs.qry (hK.wide (by omega) (by omega))
    have hSz := hS.kp hK
    have hkk := bI_ne.mp h1
    refine ok_gd (hSz.1 1) (ok_r (hSz.2.2 1 7 (by decide)) (ok_gd (hSz.1 27) (ok_ret ⟨_, rfl, ?_, hcz, hkz⟩)))
    rw [(wf_spec hW o3 o1 o2 hkk).1, show wsQ A k = minI 1000 (wcount A.1.2 A.1.1 k) from if_neg (by omega)]
  · have := bI_eq.mp (Decidable.not_not.mp h1)
    omega
end FH
