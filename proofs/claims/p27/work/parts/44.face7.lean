/-! weights, laws, counts and things, told -/
def fbN (t : Int → Int → Int) (n : Int) : Prop := ∀ k, 0 ≤ k → k < 1752 → Bk t n k = false
def brV (k c : Int) : Int := if 1728 ≤ k ∧ 2 ≤ c then -5 else if c = 0 then dl k else if c = 1 then da k else if c = 2 then k / 12 % 12 else k % 12
def brQ (A : AS) (c x : Int) : Prop := if c < 0 ∨ 3 < c then x = -2 else (fbN A.1.2 A.1.1 ∧ x = -5) ∨ ∃ k, k < 1752 ∧ fstB A.1.2 A.1.1 k ∧ x = brV k c
def tmF (t : Int → Int → Int) (s : Int) : Nat → Int → Int → Int
  | 0, m, _ => m
  | k + 1, m, v => if t v s = 12 then m else tmF t s k (m + 1) (t v s)
noncomputable def thQ (A : AS) (s c : Int) : Int := if ¬ (0 ≤ s ∧ s < A.1.1) then -1 else if c = 0 then orN (lsA (fun y => decide (A.1.2 s y = 1)) A.1.1) else if c = 1 then prt A.1.2 A.1.1 s else if c = 2 then whl A.1.2 A.1.1 s else if c = 3 then bI (smA A.1.2 A.1.1 s = true) else if c = 4 then bI (shA A.1.2 A.1.1 s = true) else if c = 5 then tgt A.1.2 A.1.1 s else if c = 6 then bI2 (fun j => decide (A.1.2 s j ≠ 12)) A.1.1 else if c = 7 then tmF A.1.2 s 19 1 s else -2
noncomputable def ctQ (A : AS) (c : Int) : Int := if c = 0 then A.1.1 else if c = 1 then pws A.1.2 A.1.1 else if c = 2 then bI (nBk A.1.2 A.1.1 1752 = 0) else if c = 3 then nbk A.1.2 A.1.1 else if c = 4 then bI2 (fun s => smA A.1.2 A.1.1 s) A.1.1 else if c = 5 then bI2 (fun s => shA A.1.2 A.1.1 s) A.1.1 else if c = 6 then apt A.1.2 A.1.1 else if c = 7 then nBk A.1.2 A.1.1 1752 else if c = 8 then (A.2.2.1.length : Int) else if c = 9 then A.2.2.2.1 else -2
section FI
variable {X : Nat × (Nat → Int)} {d : Nat} {w w1 w2 w3 : MW} {A : AS}
theorem wer_ok (h : ClS w A) (k s : Int) : OkI (run X (d + 24) 99 [.inr 1, .inl k, .inl s] w) (fun x w' => (ClS w' A ∧ Kh 1 37 w w') ∧ ((x < 0 ∧ ∀ V, wtQ A k s V x) ∨ (x = 0 ∧ (0 ≤ s ∧ s < A.1.1) ∧ (isFst A.1.2 A.1.1 k s (gi w' 28 s.toNat) ∧ isLst A.1.2 A.1.1 k s (gi w' 29 s.toNat) ∧ isMst A.1.2 A.1.1 k s (gi w' 30 s.toNat)) ∧ ∀ (V : Int → Prop) (y : Int), V y → wtQ A k s V y))) := by
  have hcs := h
  obtain ⟨hS, ⟨hb, hok⟩, hsn, ⟨hh, hho⟩, htx⟩ := h
  obtain ⟨k1, g0, g1, g3, g4, g5, g6, g7, g8, k2, k4, k6, k16, k21, k22, k27, -⟩ := shF hS
  obtain ⟨o1, o2, o3⟩ := hok
  refine ok_eq (b99_0 X (d + 23) 1 k s w) (ok_i (isw_ok X _ k w) (ok_if (fun h1 => ok_gd k1 (ok_r g0 (ok_gd k2 (ok_i (has_ok hb s) (ok_if (fun h2 => ok_gd k1 (ok_r g7 (ok_gd k1 (ok_r g0 (ok_gd k27 (ok_V (wfind_ok (d := d) hS hb o3 o1 (bI_ne.mp h1)) (fun z ⟨hW, hK⟩ => ?_))))))) (fun h2 => ok_ret ⟨_, rfl, ⟨hcs, Kh.rf⟩, Or.inl ⟨by omega, fun V => ?_⟩⟩)))))) (fun h1 => ok_ret ⟨_, rfl, ⟨hcs, Kh.rf⟩, Or.inl ⟨by omega, fun V => ?_⟩⟩)))
  rotate_left
  · have e1 := bI_ne.mp h1
    have e2 := bI_eq.mp (Decidable.not_not.mp h2)
    unfold wtQ
    rw [if_neg (by omega), if_pos e2]
  · have e1 := bI_eq.mp (Decidable.not_not.mp h1)
    unfold wtQ
    rw [if_pos (by omega)]
  obtain ⟨hcz, hkz⟩ := hcs.qry (hK.wide (by omega) (by omega))
  have hSz := hS.kp hK
  have e1 := bI_ne.mp h1
  have e2 := bI_ne.mp h2
  have hsp := wf_spec hW o3 o1 o2 e1
  have hnn : 0 ≤ wcount A.1.2 A.1.1 k := cnt_nn _ _
  refine ok_gd (hSz.1 1) (ok_r (hSz.2.2 1 7 (by decide)) (ok_gd (hSz.1 27) ?_))
  rw [hsp.1]
  refine ok_if (fun h3 => ok_ret ⟨_, rfl, ⟨hcz, hkz⟩, Or.inr ⟨rfl, e2, ?_, fun V y hV => ?_⟩⟩) (fun h3 => ok_ret ⟨_, rfl, ⟨hcz, hkz⟩, Or.inl ⟨by omega, fun V => ?_⟩⟩)
  · exact hsp.2 (by unfold minI at h3; split at h3 <;> omega) s e2.1 e2.2
  · have : ¬ wcount A.1.2 A.1.1 k < 1 := by unfold minI at h3; split at h3 <;> omega
    unfold wtQ
    rw [if_neg (by omega), if_neg (fun q => q e2), if_neg this]
    exact hV
  · have : wcount A.1.2 A.1.1 k < 1 := by unfold minI at h3; split at h3 <;> omega
    unfold wtQ
    rw [if_neg (by omega), if_neg (fun q => q e2), if_pos this]
theorem wt_q (h : ClS w A) (k s : Int) : OkI (run X (d + 25) 92 [.inr 1, .inl k, .inl s] w) (QO w A (fun x => wtQ A k s (isFst A.1.2 A.1.1 k s) x)) := by
  have hn12 := h.2.1.2.2.1
  refine ok_eq (b92_0 X (d + 24) 1 k s w) (ok_gd (h.1.1 1) (ok_I (wer_ok (d := d) h k s) (fun x z ⟨⟨hcz, hkz⟩, hx⟩ => ?_)))
  have hSz := hcz.1
  rcases hx with ⟨hx1, hx2⟩ | ⟨rfl, hs, hx2, hx3⟩
  · exact ok_iff (by omega) (ok_ret ⟨_, rfl, hx2 _, hcz, hkz⟩)
  · have z28 : kd z 28 = 1 := hSz.1 28
    have l28 : ln z 28 = 12 := hSz.2.1 28
    exact ok_ift (by omega) (ok_gd (hSz.1 1) (ok_r (hSz.2.2 1 7 (by decide)) (ok_gd (hSz.1 27) (ok_r (hSz.2.2 27 1 (by decide)) (ok_gd ⟨z28, hs.1, by rw [l28]; omega⟩ (ok_ret ⟨_, rfl, hx3 _ _ hx2.1, hcz, hkz⟩))))))
theorem rg_q (h : ClS w A) (k s m : Int) : OkI (run X (d + 25) 93 [.inr 1, .inl k, .inl s, .inl m] w) (QO w A (fun x => wtQ A k s (if m = 0 then isLst A.1.2 A.1.1 k s else isMst A.1.2 A.1.1 k s) x)) := by
  have hn12 := h.2.1.2.2.1
  refine ok_eq (b93_0 X (d + 24) 1 k s m w) (ok_gd (h.1.1 1) (ok_I (wer_ok (d := d) h k s) (fun x z ⟨⟨hcz, hkz⟩, hx⟩ => ?_)))
  have hSz := hcz.1
  rcases hx with ⟨hx1, hx2⟩ | ⟨rfl, hs, hx2, hx3⟩
  · exact ok_iff (by omega) (ok_ret ⟨_, rfl, hx2 _, hcz, hkz⟩)
  · have z29 : kd z 29 = 1 := hSz.1 29
    have l29 : ln z 29 = 12 := hSz.2.1 29
    have z30 : kd z 30 = 1 := hSz.1 30
    have l30 : ln z 30 = 12 := hSz.2.1 30
    refine ok_ift (by omega) (ok_if (fun hm => ok_gd (hSz.1 1) (ok_r (hSz.2.2 1 7 (by decide)) (ok_gd (hSz.1 27) (ok_r (hSz.2.2 27 2 (by decide)) (ok_gd ⟨z29, hs.1, by rw [l29]; omega⟩ (ok_ret ⟨_, rfl, hx3 _ _ ?_, hcz, hkz⟩)))))) (fun hm => ok_gd (hSz.1 1) (ok_r (hSz.2.2 1 7 (by decide)) (ok_gd (hSz.1 27) (ok_r (hSz.2.2 27 3 (by decide)) (ok_gd ⟨z30, hs.1, by rw [l30]; omega⟩ (ok_ret ⟨_, rfl, hx3 _ _ ?_, hcz, hkz⟩)))))))
    · rw [if_pos hm]; exact hx2.2.1
    · rw [if_neg hm]; exact hx2.2.2
theorem br_q (h : ClS w A) (c : Int) : OkI (run X (d + 4) 87 [.inr 1, .inl c] w) (QO w A (fun x => brQ A c x)) := by
  have hcs := h
  obtain ⟨hS, ⟨hb, hok⟩, hsn, ⟨hh, hho⟩, htx⟩ := h
  obtain ⟨k1, g0, g1, g3, g4, g5, g6, g7, g8, k2, k4, k6, k16, k21, k22, k27, -⟩ := shF hS
  obtain ⟨o1, o2, o3⟩ := hok
  refine ok_eq (b87_0 X (d + 3) 1 c w) (ok_if (fun h1 => ok_ret ⟨_, rfl, QO.same hcs ?_⟩) (fun h1 => ok_if (fun h2 => ok_gd k1 (ok_r g5 (ok_gd k1 (ok_r g0 (ok_gd k21 (ok_V (check_ok (d := d) hS hb (by omega)) (fun z ⟨hL, hK⟩ => ?_))))))) (fun h2 => ok_ret ⟨_, rfl, QO.same hcs ?_⟩)))
  · unfold brQ; rw [if_pos (Or.inl h1)]
  rotate_left
  · unfold brQ; rw [if_pos (Or.inr (by omega))]
  obtain ⟨hcz, hkz⟩ := hcs.qry (hK.wide (by omega) (by omega))
  have hSz := hS.kp hK
  have z1 : kd z 1 = 16 := hSz.1 1
  have z21 : kd z 21 = 11 := hSz.1 21
  have y5 : gr z 1 5 = some 21 := hSz.2.2 1 5 (by decide)
  obtain ⟨hL1, hL2⟩ := hL
  have hgo : ∀ x, ((fbN A.1.2 A.1.1 ∧ x = -5) ∨ ∃ k, k < 1752 ∧ fstB A.1.2 A.1.1 k ∧ x = brV k c) → QO w A (fun x => brQ A c x) x z := fun x hx => ⟨show brQ A c x by unfold brQ; rw [if_neg (by omega)]; exact hx, hcz, hkz⟩
  have last : gi z 21 0 ≠ 0 → (2 ≤ c → gi z 21 1 = 0) → Ok (R X (d + 4) 87 61 [some (.inr 1), some (.inl c), none] [] z) (fun v w' => ∃ x, v = some (.inl x) ∧ QO w A (fun x => brQ A c x) x w') := by
    intro hne hc2
    obtain ⟨k, hk, hf, a1, a2, a3⟩ := hL2 hne
    have hk0 := hf.1
    have h28 : 2 ≤ c → k < 1728 := fun q => by
      have := hc2 q
      rw [a1] at this
      unfold dl at this
      split at this
      · assumption
      · split at this <;> omega
    have key : ∀ j v, c = j → (j = 0 ∧ v = gi z 21 1 ∨ j = 1 ∧ v = gi z 21 2 ∨ j = 2 ∧ v = gi z 21 3 ∨ j = 3 ∧ v = gi z 21 4) → v = brV k c := by
      intro j v hj hv
      unfold brV
      rw [if_neg (by omega)]
      rcases hv with ⟨q, q2⟩ | ⟨q, q2⟩ | ⟨q, q2⟩ | ⟨q, q2⟩
      · rw [if_pos (by omega), q2, a1]
      · rw [if_neg (by omega), if_pos (by omega), q2, a2]
      · rw [if_neg (by omega), if_neg (by omega), if_pos (by omega), q2, (a3 (h28 (by omega))).1]
      · rw [if_neg (by omega), if_neg (by omega), if_neg (by omega), q2, (a3 (h28 (by omega))).2]
    refine ok_eq (b87_61 X (d + 3) 1 c z) ?_
    unfold swt
    refine ok_if (fun e0 => ok_gd z1 (ok_r y5 (ok_gd z21 (ok_ret ⟨_, rfl, hgo _ (Or.inr ⟨k, hk, hf, key 0 _ e0 (Or.inl ⟨rfl, rfl⟩)⟩)⟩)))) (fun e0 => ?_)
    unfold swt
    refine ok_if (fun e1 => ok_gd z1 (ok_r y5 (ok_gd z21 (ok_ret ⟨_, rfl, hgo _ (Or.inr ⟨k, hk, hf, key 1 _ e1 (Or.inr (Or.inl ⟨rfl, rfl⟩))⟩)⟩)))) (fun e1 => ?_)
    unfold swt
    refine ok_if (fun e2 => ok_gd z1 (ok_r y5 (ok_gd z21 (ok_ret ⟨_, rfl, hgo _ (Or.inr ⟨k, hk, hf, key 2 _ e2 (Or.inr (Or.inr (Or.inl ⟨rfl, rfl⟩)))⟩)⟩)))) (fun e2 => ?_)
    unfold swt
    exact ok_gd z1 (ok_r y5 (ok_gd z21 (ok_ret ⟨_, rfl, hgo _ (Or.inr ⟨k, hk, hf, key 3 _ (by omega) (Or.inr (Or.inr (Or.inr ⟨rfl, rfl⟩)))⟩)⟩)))
  have mid : ∀ m : Int, (m ≠ 0 ↔ gi z 21 1 = 0) → Ok (R X (d + 4) 87 38 [some (.inr 1), some (.inl c), none] [.inl m] z) (fun v w' => ∃ x, v = some (.inl x) ∧ QO w A (fun x => brQ A c x) x w') := by
    intro m hm
    refine ok_eq (b87_38 X (d + 3) 1 c m z) (ok_gd z1 (ok_r y5 (ok_gd z21 (ok_if (fun e0 => ok_ret ⟨_, rfl, hgo _ (Or.inl ⟨?_, rfl⟩)⟩) (fun e0 => ok_if (fun e1 => last e0 (fun q => by omega)) (fun e1 => ok_if (fun e2 => last e0 (fun _ => hm.mp e2)) (fun e2 => ok_ret ⟨_, rfl, hgo _ (Or.inr ?_)⟩)))))))
    · exact nBk_none (by omega) (by rw [← hL1]; exact e0)
    · obtain ⟨k, hk, hf, a1, a2, a3⟩ := hL2 e0
      refine ⟨k, hk, hf, ?_⟩
      have hne : gi z 21 1 ≠ 0 := fun q => e2 (hm.mpr q)
      have : 1728 ≤ k := by
        rw [a1] at hne
        unfold dl at hne
        split at hne
        · exact absurd rfl hne
        · omega
      unfold brV
      rw [if_pos (by omega)]
  exact ok_gd z1 (ok_r y5 (ok_gd z21 (ok_if (fun e => mid 0 ⟨fun q => absurd rfl q, fun q => absurd q e⟩) (fun e => mid 1 ⟨fun _ => Decidable.not_not.mp e, fun _ => by omega⟩))))
end FI
