/-! the reference's weighings, told -/
section NI
variable {X : Nat × (Nat → Int)} {d : Nat} {w w' w2 : MW} {n k most m s v : Int} {t : Int → Int → Int} {rI : AB} {T f : Int → Int} {A : AS}
theorem CtA_ex (hw : twf t n) (h0n : 0 ≤ n) (hI : ∀ j, 0 ≤ j → j < n → 0 ≤ rI.1 j ∧ rI.2 j ≤ k) : 1 ≤ CtA t n k rI ↔ ∃ f, SWP t n rI f := by
  refine cnt_ex.trans ⟨fun ⟨f, _, h⟩ => ⟨f, h⟩, fun ⟨f, h⟩ => ⟨inZ n f, inZ_rc h0n (fun x x0 x1 => by have := hI x x0 x1; have q := h.2 x x0 x1; unfold wi at q; omega), h.cg hw (fun x x0 x1 => (inZ_eq x0 x1).symm)⟩⟩
theorem rw0_rng (hk : 1 ≤ k) (hv : v = -1 ∨ (0 ≤ v ∧ v ≤ k)) : ∀ j, 0 ≤ j → j < n → 0 ≤ (rw0 k s v).1 j ∧ (rw0 k s v).2 j ≤ k := fun j j0 j1 => by
  unfold rw0
  dsimp only
  (repeat' split) <;> omega
theorem swp_iff (h2n : 2 ≤ n) (hk : 1 ≤ k) (hv : v = -1 ∨ (0 ≤ v ∧ v ≤ k)) (hs : 0 ≤ s ∧ s < n) : SWP t n (rw0 k s v) f ↔ WgP t n k f ∧ (v ≠ -1 → f s = v) := by
  have r := rw0_rng (n := n) (s := s) hk hv
  constructor
  · rintro ⟨h1, h2⟩
    have h0 := h2 0 (by omega) (by omega)
    have hh1 := h2 1 (by omega) (by omega)
    have hhs := h2 s hs.1 hs.2
    unfold wi rw0 at h0 hh1 hhs
    dsimp only at h0 hh1 hhs
    rw [if_pos rfl, if_pos rfl] at h0
    rw [if_neg (by omega), if_pos rfl, if_neg (by omega), if_pos rfl] at hh1
    have f0 : f 0 = 0 := by
      revert h0
      split <;> omega
    have f1 : f 1 = k := by
      revert hh1
      split <;> omega
    refine ⟨⟨fun x x0 x1 => ?_, f0, f1, fun a b a0 a1 b0 b1 h12 => h1 a b a0 a1 b0 b1 h12⟩, fun hv1 => ?_⟩
    · have q := h2 x x0 x1
      have q2 := r x x0 x1
      unfold wi at q
      omega
    · by_cases s0 : s = 0
      · rw [s0] at hhs ⊢
        rw [if_pos rfl, if_pos rfl] at hhs
        revert hhs
        split <;> omega
      · by_cases s1 : s = 1
        · rw [s1] at hhs ⊢
          rw [if_neg (by omega), if_pos rfl, if_neg (by omega), if_pos rfl] at hhs
          revert hhs
          split <;> omega
        · rw [if_neg s0, if_neg s1, if_pos ⟨rfl, hv1⟩, if_neg s0, if_neg s1, if_pos ⟨rfl, hv1⟩] at hhs
          omega
  · rintro ⟨⟨h1, h2, h3, h4⟩, h5⟩
    refine ⟨fun a b a0 a1 b0 b1 h12 => h4 a b a0 a1 b0 b1 h12, fun j j0 j1 => ?_⟩
    have q := h1 j j0 j1
    unfold wi rw0
    dsimp only
    by_cases e0 : j = 0
    · rw [e0, if_pos rfl, if_pos rfl, h2]
      refine ⟨?_, Int.le_refl _⟩
      split
      · rename_i g
        have := h5 (by omega)
        rw [g.1, h2] at this
        omega
      · omega
    · by_cases e1 : j = 1
      · rw [e1, if_neg (by omega), if_pos rfl, if_neg (by omega), if_pos rfl, h3]
        refine ⟨Int.le_refl _, ?_⟩
        split
        · rename_i g
          have := h5 g.2.1
          rw [g.1, h3] at this
          omega
        · omega
      · rw [if_neg e0, if_neg e1, if_neg e0, if_neg e1]
        by_cases es : j = s ∧ v ≠ -1
        · rw [if_pos es, if_pos es, es.1, h5 es.2]
          omega
        · rw [if_neg es, if_neg es]
          exact q
theorem ctA_w (h2n : 2 ≤ n) (hk : 1 ≤ k) (hs : 0 ≤ s ∧ s < n) : CtA t n k (rw0 k s (-1)) = wcount t n k := cnt_cg n.toNat _ (fun f _ => (swp_iff h2n hk (Or.inl rfl) hs).trans ⟨fun h => h.1, fun h => ⟨h, fun q => absurd rfl q⟩⟩)
theorem weighed_m (hS : Sh w) (hT : TbM w n t) (hw : twf t n) (h2n : 2 ≤ n) (hn : n ≤ 12) (hk : 1 ≤ k ∧ k ≤ 6) (hmost : 1 ≤ most ∧ most ≤ 1000) (hv : v = -1 ∨ (0 ≤ v ∧ v ≤ k)) : OkI (run X (d + 3) 163 [.inr 38, .inl k, .inl most, .inl s, .inl v] w) (WdP w t n k most (rw0 k s v)) := by
  have hI := rw0_rng (n := n) (s := s) hk.1 hv
  refine init_m (d := d + 2) hS hT.1 h2n hn (fun z x hK hR => ?_)
  have Sz := hS.kp hK
  generalize hu : si z 46 1 x = u at hR
  have K1 : Kp 45 46 w u := by rw [← hu]; exact hK.tr (Kp.si (by omega) (by omega))
  have Su := hS.kp K1
  have hTu : TbM u n t := hT.kp K1 (by omega)
  refine ok_eq (b163_136 X (d + 2) 38 most x 1 46 z) (ok_gd ⟨Sz.1 46, by omega, by rw [show ln z 46 = 156 from Sz.2.1 46]; omega⟩ ?_)
  rw [show (1 : Int).toNat = 1 from rfl, hu]
  refine ok_gd (Su.1 38) (ok_I (opn_m (d := d) (row := 0) Su hTu hw h2n hn (by omega) (fun j j0 j1 => by have := hI j j0 j1; omega) hR) (fun v1 y ⟨fy, v01, hno, hyes⟩ => ?_))
  have Sy := Su.kp fy.1
  have K2 : Kp 45 47 w y := (K1.wide (by omega) (by omega)).tr (fy.1.wide (by omega) (by omega))
  refine ok_if (fun g => ok_gd (Sy.1 38) (ok_r (Sy.2.2 38 15 (by decide)) (ok_gd (Sy.1 38) (ok_r (Sy.2.2 38 13 (by decide)) ?_)))) (fun g => ok_ret ⟨0, rfl, K2, ?_, fun _ q => by omega⟩)
  · obtain ⟨r', rR, rB, rs, rSt, rSnd⟩ := hyes g
    have e0 := (rR 0 (by omega) (by omega)).1
    rw [Int.zero_add] at e0
    have b0 := rB 0 (by omega) (by omega)
    refine ok_gd ⟨Sy.1 45, by omega, by rw [show ln y 45 = 156 from Sy.2.1 45]; omega⟩ (ok_gd ⟨Sy.1 47, by omega, by rw [show ln y 47 = 13 from Sy.2.1 47]; omega⟩ ?_)
    rw [e0]
    refine dfs_go (d := d) hS hT hw h2n hn hk.2 hI hmost ((10 ^ 13 - mzT (fun _ => r'.1 0) 1).toNat + 1) 0 0 (fun _ => r'.1 0) (fun _ => r') _ ⟨K2.tr (Kp.si (by omega) (by omega)), by omega, ⟨?_, by omega⟩, fun i i0 i1 => by dsimp only; omega, fun i i0 i1 => ?_, fun _ q => by omega⟩ (fun _ => ?_)
    · refine (cnt_none n.toNat _ (fun f _ h => h.2 ?_)).symm
      have := (rSnd f h.1.1 h.1.2 0 (by omega) (by omega)).1
      exact ⟨0, by omega, fun i i0 i1 => by omega, by dsimp only; omega⟩
    · have ei : i = 0 := by omega
      rw [ei]
      refine ⟨gi_si_eq, fun x x0 x1 => ?_, rB, rs, fun f g1 g2 => rSnd f g1.1 g1.2, fun j j0 j1 => by omega, Int.le_refl _⟩
      rw [gi_si_ne (by omega), gi_si_ne (by omega)]
      exact rR x x0 x1
    · rw [show (0 + 1 : Int).toNat = 1 from rfl]
      omega
  · have g0 : v1 = 0 := Decidable.not_not.mp g
    have : CtA t n k (rw0 k s v) = 0 := cnt_none n.toNat _ (fun f _ h => hno g0 f h.1 h.2)
    rw [this]
    unfold minI
    split <;> omega
theorem isW_m (X : Nat × (Nat → Int)) (d : Nat) (k : Int) (w : MW) : run X (d + 1) 164 [.inl k] w = some (some (.inl (bI (1 ≤ k ∧ k ≤ 6))), w) := by
  apply ok_one
  exact ok_eq (b164_0 X d k w) (ok_i (in_ok X d k 1 6 w) (ok_gd (bI01 _) (ok_ret ⟨rfl, rfl⟩)))
theorem mws_q (hS : Sh w) (h : MoS w A) (ho : okB A.1) (k : Int) : OkI (run X (d + 4) 165 [.inr 38, .inl k] w) (QM w A (fun x => x = wsQ A k)) := by
  obtain ⟨o1, o2, o3⟩ := ho
  refine ok_eq (b165_0 X (d + 3) 38 k w) (ok_i (isW_m X (d + 2) k w) (ok_if (fun q => ok_ret ⟨_, rfl, QM.same h ?_⟩) (fun q => ok_gd (hS.1 38) (ok_I (weighed_m (d := d) (s := 0) (v := -1) hS h.1 o3 o1 o2 (bI_ne.mp q) (by omega) (Or.inl rfl)) (fun x z ⟨kz, hx, _⟩ => ?_)))))
  · have := bI_eq.mp q
    exact (if_pos (by omega)).symm
  · have hk := bI_ne.mp q
    obtain ⟨m1, m2⟩ := h.qry (kz.wide (by omega) (by omega))
    refine ok_ret ⟨_, rfl, ?_, m1, m2⟩
    rw [hx, ctA_w o1 hk.1 (by omega)]
    exact (if_neg (by omega)).symm
theorem mwt_q (hS : Sh w) (h : MoS w A) (ho : okB A.1) (k s : Int) : OkI (run X (d + 4) 166 [.inr 38, .inl k, .inl s] w) (QM w A (fun x => wtQ A k s (isFst A.1.2 A.1.1 k s) x)) := by
  obtain ⟨o1, o2, o3⟩ := ho
  have u1 : ∀ V x, (k < 1 ∨ 6 < k) → x = -2 → wtQ A k s V x := fun V x g hx => by unfold wtQ; rw [if_pos g]; exact hx
  refine ok_eq (b166_0 X (d + 3) 38 k s w) (ok_i (isW_m X (d + 2) k w) (ok_if (fun q => ok_gd (hS.1 38) (ok_i (ist_ok (d := d + 2) hS h.1.1 ⟨by omega, o2⟩ s) (ok_if (fun q2 => ok_gd (hS.1 38) (ok_I (weighed_m (d := d) (s := 0) (v := -1) hS h.1 o3 o1 o2 (bI_ne.mp q) (by omega) (Or.inl rfl)) (fun x z ⟨kz, hx, hf⟩ => ?_))) (fun q2 => ok_ret ⟨_, rfl, QM.same h ?_⟩)))) (fun q => ok_ret ⟨_, rfl, QM.same h (u1 _ _ ?_ rfl)⟩)))
  · have hk := bI_ne.mp q
    have hs := bI_ne.mp q2
    have Sz := hS.kp kz
    obtain ⟨m1, m2⟩ := h.qry (kz.wide (by omega) (by omega))
    rw [ctA_w o1 hk.1 (by omega)] at hx
    have e0 : ∀ V x, wtQ A k s V x = if wcount A.1.2 A.1.1 k < 1 then x = -5 else V x := fun V x => by
      unfold wtQ
      rw [if_neg (by omega), if_neg (fun r => r hs)]
    have nn : 0 ≤ wcount A.1.2 A.1.1 k := cnt_nn _ _
    refine ok_if (fun g => ?_) (fun g => ok_ret ⟨_, rfl, ?_, m1, m2⟩)
    · have hx1 : x = 1 := by
        unfold minI at hx
        split at hx <;> omega
      obtain ⟨f, f1, f2, f3⟩ := hf rfl hx1
      refine ok_gd (Sz.1 38) (ok_r (Sz.2.2 38 13 (by decide)) (ok_gd (Sz.1 38) ?_))
      rw [m1.1.1, wrap_id (z := 12 * A.1.1) (by omega) (by omega), wrap_id (z := 12 * A.1.1 + s) (by omega) (by omega)]
      refine ok_gd ⟨Sz.1 45, by omega, by rw [show ln z 45 = 156 from Sz.2.1 45]; omega⟩ (ok_ret ⟨_, rfl, ?_, m1, m2⟩)
      dsimp only
      rw [e0, if_neg (by unfold minI at hx; split at hx <;> omega), f3 s hs.1 hs.2]
      have wiff := fun g => swp_iff (t := A.1.2) (f := g) o1 hk.1 (Or.inl rfl : (-1 : Int) = -1 ∨ _) (s := 0) ⟨Int.le_refl _, by omega⟩
      exact ⟨f, ⟨((wiff f).mp f1).1, fun h hh => f2 h ((wiff h).mpr ⟨hh, fun r => absurd rfl r⟩)⟩, rfl⟩
    · dsimp only
      rw [e0, if_pos (by have := Decidable.not_not.mp g; unfold minI at hx; split at hx <;> omega)]
  · unfold wtQ
    have hk := bI_ne.mp q
    rw [if_neg (by omega), if_pos (fun r => q2 (bI_ne.mpr r))]
  · have := bI_eq.mp (Decidable.not_not.mp q)
    omega
theorem mrg_q (hS : Sh w) (h : MoS w A) (ho : okB A.1) (k s mm : Int) : OkI (run X (d + 4) 167 [.inr 38, .inl k, .inl s, .inl mm] w) (QM w A (fun x => wtQ A k s (if mm = 0 then isLst A.1.2 A.1.1 k s else isMst A.1.2 A.1.1 k s) x)) := by
  obtain ⟨o1, o2, o3⟩ := ho
  refine ok_eq (b167_0 X (d + 3) 38 k s mm w) (ok_i (isW_m X (d + 2) k w) (ok_if (fun q => ok_gd (hS.1 38) (ok_i (ist_ok (d := d + 2) hS h.1.1 ⟨by omega, o2⟩ s) (ok_if (fun q2 => ?_) (fun q2 => ok_ret ⟨_, rfl, QM.same h ?_⟩)))) (fun q => ok_ret ⟨_, rfl, QM.same h ?_⟩)))
  rotate_left
  · show wtQ A k s _ (-1)
    unfold wtQ
    have hk := bI_ne.mp q
    rw [if_neg (by omega), if_pos (fun r => q2 (bI_ne.mpr r))]
  · show wtQ A k s _ (-2)
    unfold wtQ
    have := bI_eq.mp (Decidable.not_not.mp q)
    rw [if_pos (by omega)]
  have hk := bI_ne.mp q
  have hs := bI_ne.mp q2
  have e0 : ∀ V x, wtQ A k s V x = if wcount A.1.2 A.1.1 k < 1 then x = -5 else V x := fun V x => by
    unfold wtQ
    rw [if_neg (by omega), if_neg (fun r => r hs)]
  have wiff := fun g => swp_iff (t := A.1.2) (f := g) o1 hk.1 (Or.inl rfl : (-1 : Int) = -1 ∨ _) (s := 0) ⟨Int.le_refl _, by omega⟩
  have wex : 1 ≤ wcount A.1.2 A.1.1 k ↔ ∃ f, WgP A.1.2 A.1.1 k f := by
    rw [← ctA_w o1 hk.1 (s := 0) (by omega), CtA_ex o3 (by omega) (rw0_rng hk.1 (Or.inl rfl))]
    exact ⟨fun ⟨f, g⟩ => ⟨f, ((wiff f).mp g).1⟩, fun ⟨f, g⟩ => ⟨f, (wiff f).mpr ⟨g, fun r => absurd rfl r⟩⟩⟩
  let V : Int → Int := fun i => if mm = 0 then i else k - i
  refine ok_up (fun i z => R X (d + 4) 167 23 [some (.inr 38), some (.inl k), some (.inl s), some (.inl mm), some (.inl i), none] [] z) (fun i z => Kp 45 47 w z ∧ ∀ j, 0 ≤ j → j < i → ∀ f, WgP A.1.2 A.1.1 k f → f s ≠ V j) 0 (k + 1) (by omega) ?_ ?_ w ⟨Kp.rf, fun j j0 j1 => by omega⟩
  · intro i z i0 i1 ⟨hK, hI⟩ ih
    have Sz := hS.kp hK
    obtain ⟨m1, m2⟩ := h.qry (hK.wide (by omega) (by omega))
    have go : ∀ v, v = V i → 0 ≤ v ∧ v ≤ k → Ok (R X (d + 4) 167 42 [some (.inr 38), some (.inl k), some (.inl s), some (.inl mm), some (.inl i), none] [.inl v] z) (fun v w' => ∃ x, v = some (.inl x) ∧ QM w A (fun x => wtQ A k s (if mm = 0 then isLst A.1.2 A.1.1 k s else isMst A.1.2 A.1.1 k s) x) x w') := by
      intro v hv hvr
      refine ok_eq (b167_42 X (d + 3) 38 k s mm i v z) (ok_gd (Sz.1 38) (ok_I (weighed_m (d := d) (s := s) (v := v) Sz m1.1 o3 o1 o2 hk (by omega) (Or.inr hvr)) (fun x y ⟨ky, hx, _⟩ => ?_)))
      rw [wrap_id (z := i + 1) (by omega) (by omega)]
      have viff := fun g => swp_iff (t := A.1.2) (f := g) o1 hk.1 (Or.inr hvr) hs
      have cex := CtA_ex (t := A.1.2) (n := A.1.1) (k := k) o3 (by omega) (rw0_rng (n := A.1.1) (s := s) hk.1 (Or.inr hvr))
      have cnn : 0 ≤ CtA A.1.2 A.1.1 k (rw0 k s v) := cnt_nn _ _
      have hKy := hK.tr ky
      obtain ⟨n1, n2⟩ := h.qry (hKy.wide (by omega) (by omega))
      refine ok_if (fun g => ih y ⟨hKy, fun j j0 j1 f hf => ?_⟩) (fun g => ok_ret ⟨_, rfl, ?_, n1, n2⟩)
      · by_cases e : j = i
        · rw [e, ← hv]
          intro hfs
          have : 1 ≤ CtA A.1.2 A.1.1 k (rw0 k s v) := cex.mpr ⟨f, (viff f).mpr ⟨hf, fun _ => hfs⟩⟩
          unfold minI at hx
          split at hx <;> omega
        · exact hI j j0 (by omega) f hf
      · have hx1 := Decidable.not_not.mp g
        obtain ⟨f, hf⟩ := cex.mp (by unfold minI at hx; split at hx <;> omega)
        have hf2 := (viff f).mp hf
        have hfs := hf2.2 (by omega)
        dsimp only
        rw [e0, if_neg (by have := wex.mpr ⟨f, hf2.1⟩; omega)]
        by_cases hm : mm = 0
        · have hV : ∀ j, V j = j := fun j => if_pos hm
          rw [if_pos hm]
          refine ⟨⟨f, hf2.1, hfs⟩, fun h' hh => ?_⟩
          have hr := hh.1 s hs.1 hs.2
          rw [hv, hV]
          refine Classical.byContradiction fun hlt => ?_
          exact hI (h' s) hr.1 (by omega) h' hh (hV _).symm
        · have hV : ∀ j, V j = k - j := fun j => if_neg hm
          rw [if_neg hm]
          refine ⟨⟨f, hf2.1, hfs⟩, fun h' hh => ?_⟩
          have hr := hh.1 s hs.1 hs.2
          rw [hv, hV]
          refine Classical.byContradiction fun hlt => ?_
          exact hI (k - h' s) (by omega) (by omega) h' hh (by rw [hV]; omega)
    refine ok_eq (b167_23 X (d + 3) 38 k s mm i z) (ok_iff (by omega) ?_)
    rw [wrap_id (z := k - i) (by omega) (by omega)]
    exact ok_if (fun g => go i (if_pos g).symm (by omega)) (fun g => go (k - i) (if_neg g).symm (by omega))
  · intro z ⟨hK, hI⟩
    obtain ⟨m1, m2⟩ := h.qry (hK.wide (by omega) (by omega))
    refine ok_eq (b167_23 X (d + 3) 38 k s mm (k + 1) z) (ok_ift (by omega) (ok_ret ⟨_, rfl, ?_, m1, m2⟩))
    dsimp only
    rw [e0, if_pos]
    refine Classical.byContradiction fun hlt => ?_
    obtain ⟨f, hf⟩ := wex.mp (by omega)
    have hr := hf.1 s hs.1 hs.2
    by_cases hm : mm = 0
    · exact hI (f s) hr.1 (by omega) f hf (show f s = if mm = 0 then f s else k - f s by rw [if_pos hm])
    · exact hI (k - f s) (by omega) (by omega) f hf (show f s = if mm = 0 then k - f s else k - (k - f s) by rw [if_neg hm]; omega)
end NI
