/-! the blocks and the weighings of p27's law -/
section WT
variable {X : Nat × (Nat → Int)} {d : Nat} {w w1 w' : MW} {A : AS}
theorem blockQ_in (ho : okB A.1) {r : Int} (h0 : 0 ≤ r) (h1 : r < nbk A.1.2 A.1.1) : blockQ A r 0 = bkAt A.1.2 A.1.1 r := by
  have h2 := ho.1
  have h3 := bka_lt (t := A.1.2) (n := A.1.1) (by omega) ho.2.1 h0 h1
  unfold blockQ
  rw [if_neg (by omega), if_neg (by omega), if_pos rfl]
theorem blocks_ok (h : ClS w A) : OkI (run X (d + 6) 105 [.inr 1] w) (QO w A (fun x => x = 1)) := by
  have ho := h.2.1.2
  obtain ⟨h2, h12, hw⟩ := id ho
  have hn := nbk_rng hw h2 h12
  refine ok_eq (b105_0 X (d + 5) 1 w) (ok_gd (h.1.1 1) (ok_I (ct_q (d := d) h 3) (fun m w0 ⟨e0, c0, k0⟩ => ?_)))
  have em : m = nbk A.1.2 A.1.1 := by
    rw [e0]
    unfold ctQ
    rw [if_neg (by omega), if_neg (by omega), if_neg (by omega), if_pos rfl]
  rw [em]
  refine ok_iff (by omega) ?_
  refine ok_up (fun r (z : Int × MW) => R X (d + 6) 105 21 [some (.inr 1), some (.inl (nbk A.1.2 A.1.1)), some (.inl z.1), some (.inl 1), some (.inl r), none] [] z.2) (fun r z => ((r = 0 ∧ z.1 = 0) ∨ (0 < r ∧ z.1 = bkAt A.1.2 A.1.1 (r - 1))) ∧ ClS z.2 A ∧ Kh 1 37 w z.2) 0 (nbk A.1.2 A.1.1) (by omega) ?_ ?_ (0, w0) ⟨Or.inl ⟨rfl, rfl⟩, c0, k0⟩
  · intro r z r0 r1 ⟨ez, cz, kz⟩ ih
    obtain ⟨bf, z⟩ := z
    dsimp only at ez cz kz ⊢
    have hr := bka_lt (t := A.1.2) (n := A.1.1) (by omega) h12 r0 r1
    refine ok_eq (b105_21 X (d + 5) 1 _ bf 1 r z) (ok_iff (by omega) (ok_iff (by omega) (ok_gd (cz.1.1 1) (ok_I (block_q (d := d) cz (r := r) (c := 0) (by omega)) (fun v w1 ⟨e1, c1, k1⟩ => ?_)))))
    have ev : v = bkAt A.1.2 A.1.1 r := e1.trans (blockQ_in ho r0 r1)
    rw [wrap_id (z := r + 1) (by omega) (by omega)]
    have hlt : ¬ v ≤ bf := by
      rcases ez with ⟨q1, q2⟩ | ⟨q1, q2⟩
      · omega
      · have := bka_mono (t := A.1.2) (n := A.1.1) (r := r - 1) (r' := r) (by omega) (by omega) r1
        omega
    have nxt : ∀ w2, ClS w2 A → Kh 1 37 w w2 → Ok (R X (d + 6) 105 21 [some (.inr 1), some (.inl (nbk A.1.2 A.1.1)), some (.inl v), some (.inl 1), some (.inl (r + 1)), none] [] w2) (fun v w' => ∃ x, v = some (.inl x) ∧ QO w A (fun x => x = 1) x w') := fun w2 c2 k2 => ih (v, w2) ⟨Or.inr ⟨by omega, by rw [show r + 1 - 1 = r by omega]; exact ev⟩, c2, k2⟩
    refine ok_iff hlt (ok_if (fun _ => nxt w1 c1 (kz.tr k1)) (fun hr0 => ok_gd (c1.1.1 1) (ok_I (block_q (d := d) c1 (r := 0) (c := 0) (by omega)) (fun v2 w2 ⟨e2, c2, k2⟩ => ok_iff ?_ (nxt w2 c2 ((kz.tr k1).tr k2))))))
    rw [e2, blockQ_in ho (Int.le_refl 0) (by omega), ev]
    exact bka_apart hw h2 h12 (by omega) r1
  · intro z ⟨ez, cz, kz⟩
    obtain ⟨bf, z⟩ := z
    dsimp only at ez cz kz ⊢
    refine ok_eq (b105_21 X (d + 5) 1 _ bf 1 _ z) (ok_ift (Int.le_refl _) (ok_eq (b105_80 X (d + 5) 1 _ 1 z) (ok_iff (by omega) (ok_gd (cz.1.1 1) (ok_I (block_q (d := d) cz (r := nbk A.1.2 A.1.1) (c := 1) (by omega)) (fun v w1 ⟨e1, c1, k1⟩ => ok_iff (fun q => q ?_) (ok_ret ⟨_, rfl, rfl, c1, kz.tr k1⟩)))))))
    rw [e1]
    unfold blockQ
    rw [if_neg (by omega), if_pos bka_end]
theorem wtQ_in {k s : Int} {V : Int → Prop} {x : Int} (hk : 1 ≤ k ∧ k ≤ 6) (hs : 0 ≤ s ∧ s < A.1.1) (h : wtQ A k s V x) : (wcount A.1.2 A.1.1 k < 1 ∧ x = -5) ∨ (¬ wcount A.1.2 A.1.1 k < 1 ∧ V x) := by
  unfold wtQ at h
  rw [if_neg (by omega), if_neg (fun q => q hs)] at h
  by_cases e : wcount A.1.2 A.1.1 k < 1
  · rw [if_pos e] at h
    exact Or.inl ⟨e, h⟩
  · rw [if_neg e] at h
    exact Or.inr ⟨e, h⟩
theorem weights_ok (h : ClS w A) {k : Int} (hk : 1 ≤ k ∧ k ≤ 6) : OkI (run X (d + 26) 106 [.inr 1, .inl A.1.1, .inl k] w) (QO w A (fun x => x = 1)) := by
  have ho := h.2.1.2
  obtain ⟨h2, h12, hw⟩ := id ho
  have hW0 : 0 ≤ wcount A.1.2 A.1.1 k := cnt_nn _ _
  have hex := wc_ex (k := k) hw h2
  have hone := wc_one (k := k) hw h2
  refine ok_eq (b106_0 X (d + 25) 1 A.1.1 k w) (ok_gd (h.1.1 1) (ok_I (ws_q (d := d + 1) h k) (fun m w1 ⟨e1, c1, k1⟩ => ?_)))
  have em : m = minI 1000 (wcount A.1.2 A.1.1 k) := e1.trans (if_neg (by omega))
  have hm : (0 ≤ m ∧ m ≤ 1000) ∧ (m = 0 ↔ wcount A.1.2 A.1.1 k < 1) ∧ (m = 1 ↔ wcount A.1.2 A.1.1 k = 1) := by
    rw [em]
    unfold minI
    split <;> omega
  obtain ⟨hm1, hm2, hm3⟩ := hm
  refine ok_iff (by omega) (ok_iff (by omega) (ok_gd (c1.1.1 1) (ok_I (wt_q (d := d) c1 k A.1.1) (fun v2 w2 ⟨e2, c2, k2⟩ => ?_))))
  have ev2 : v2 = -1 := by
    unfold wtQ at e2
    dsimp only at e2
    rw [if_neg (by omega), if_pos (by omega)] at e2
    exact e2
  refine ok_iff (fun q => q ev2) (ok_gd (c2.1.1 1) (ok_I (ws_q (d := d + 1) c2 0) (fun v3 w3 ⟨e3, c3, k3⟩ => ?_)))
  have ev3 : v3 = -2 := e3.trans (if_pos (by omega))
  refine ok_iff (fun q => q ev3) ?_
  refine ok_up (fun a (z : Int × MW) => R X (d + 26) 106 50 [some (.inr 1), some (.inl A.1.1), some (.inl k), some (.inl m), some (.inl 1), some (.inl z.1), some (.inl a), none, none] [] z.2) (fun a z => (z.1 = 0 ∨ z.1 = 1) ∧ (z.1 = 1 ↔ agr A.1.2 A.1.1 k a) ∧ ClS z.2 A ∧ Kh 1 37 w z.2) 0 A.1.1 (by omega) ?_ ?_ (1, w3) ⟨Or.inr rfl, ⟨fun _ x x0 x1 => by omega, fun _ => rfl⟩, c3, (k1.tr k2).tr k3⟩
  · intro a z a0 a1 ⟨z01, hz, cz, kz⟩ ih
    obtain ⟨fx, z⟩ := z
    dsimp only at z01 hz cz kz ⊢
    refine ok_eq (b106_50 X (d + 25) 1 A.1.1 k m 1 fx a z) (ok_iff (by omega) (ok_iff (by omega) (ok_gd (cz.1.1 1) (ok_I (rg_q (d := d) cz k a 0) (fun v4 w4 ⟨e4, c4, k4⟩ => ok_gd (c4.1.1 1) (ok_I (rg_q (d := d) c4 k a 1) (fun v5 w5 ⟨e5, c5, k5⟩ => ?_)))))))
    rw [if_pos rfl] at e4
    rw [if_neg (by omega)] at e5
    have kf := (kz.tr k4).tr k5
    have fin : (v4 = v5 ↔ ∀ f h, WgP A.1.2 A.1.1 k f → WgP A.1.2 A.1.1 k h → f a = h a) → Ok (R X (d + 26) 106 130 [some (.inr 1), some (.inl A.1.1), some (.inl k), some (.inl m), none, some (.inl fx), some (.inl a), some (.inl v4), some (.inl v5)] [.inl 1] w5) (fun v w' => ∃ x, v = some (.inl x) ∧ QO w A (fun x => x = 1) x w') := by
      intro hv
      have hs := agr_s (t := A.1.2) (n := A.1.1) (k := k) (m := a) a0
      refine ok_eq (b106_130 X (d + 25) 1 A.1.1 k m fx a v4 v5 1 w5) ?_
      rw [wrap_id (z := a + 1) (by omega) (by omega)]
      refine ok_if (fun q => ih (0, w5) ⟨Or.inl rfl, ⟨fun g => absurd (show (0 : Int) = 1 from g) (by decide), fun g => ?_⟩, c5, kf⟩) (fun q => ok_if (fun q2 => ih (0, w5) ⟨Or.inl rfl, ⟨fun g => absurd (show (0 : Int) = 1 from g) (by decide), fun g => absurd (hv.mpr (hs.mp g).2) q2⟩, c5, kf⟩) (fun q2 => ih (1, w5) ⟨Or.inr rfl, ⟨fun _ => hs.mpr ⟨hz.mp (by omega), hv.mp (Decidable.not_not.mp q2)⟩, fun _ => rfl⟩, c5, kf⟩))
      have := hz.mpr (hs.mp g).1
      omega
    rcases wtQ_in hk ⟨a0, a1⟩ e4 with ⟨q1, q2⟩ | ⟨q1, q2⟩
    · rcases wtQ_in hk ⟨a0, a1⟩ e5 with ⟨q3, q4⟩ | ⟨q3, q4⟩
      · refine ok_iff (fun g => g (hm2.mpr q1)) (ok_iff (fun g => g q2) (ok_iff (fun g => g q4) (fin ⟨fun _ f h hf _ => ?_, fun _ => by omega⟩)))
        have := hex.mpr ⟨f, hf⟩
        omega
      · exact absurd q1 q3
    · rcases wtQ_in hk ⟨a0, a1⟩ e5 with ⟨q3, q4⟩ | ⟨q3, q4⟩
      · exact absurd q3 q1
      · obtain ⟨l1, l2, l3, l4⟩ := lst_mst ⟨a0, a1⟩ q2 q4
        exact ok_ift (fun g => q1 (hm2.mp g)) (ok_iff (by omega) (ok_iff (by omega) (ok_iff (by omega) (fin l4))))
  · intro z ⟨z01, hz, cz, kz⟩
    obtain ⟨fx, z⟩ := z
    dsimp only at z01 hz cz kz ⊢
    have eq : ∀ u : Int, Ok (R X (d + 26) 106 186 [none, none, none, none, none, none, none, none, none] [.inl u, .inl u] z) (fun v w' => ∃ x, v = some (.inl x) ∧ QO w A (fun x => x = 1) x w') := fun u => ok_eq (b106_186 X (d + 25) u u z) (ok_iff (fun q => q rfl) (ok_ret ⟨_, rfl, rfl, cz, kz⟩))
    refine ok_eq (b106_50 X (d + 25) 1 A.1.1 k m 1 fx A.1.1 z) (ok_ift (Int.le_refl _) (ok_eq (b106_157 X (d + 25) m 1 fx z) (ok_iff (by omega) ?_)))
    by_cases e : m = 1
    · have hf : fx = 1 := hz.mpr (hone.mp (hm3.mp e)).2
      exact ok_iff (fun q => q e) (ok_eq (b106_172 X (d + 25) m fx 1 z) (ok_iff (by omega) (ok_iff (by omega) (eq 1))))
    · refine ok_ift e (ok_eq (b106_172 X (d + 25) m fx 0 z) (ok_if (fun _ => ok_eq (b106_185 X (d + 25) 0 z) (eq 0)) (fun g => ok_if (fun _ => ok_eq (b106_185 X (d + 25) 0 z) (eq 0)) (fun g2 => ?_))))
      exact absurd (hm3.mpr (hone.mpr ⟨by omega, hz.mp (by omega)⟩)) e
end WT
