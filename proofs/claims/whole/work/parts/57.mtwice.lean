/-! the reference's twice -/
section MN
variable {X : Nat × (Nat → Int)} {d : Nat} {w w' : MW} {n m : Int} {t T : Int → Int → Int} {A : AS}
theorem penc_m (X : Nat × (Nat → Int)) (d : Nat) {a s n : Int} (w : MW) (ha : 0 ≤ a ∧ a < 12) (hn : 0 ≤ n ∧ n ≤ 12) : run X d 126 [.inl a, .inl s, .inl n] w = some (some (.inl (penc n a s)), w) := by
  apply ok_one
  refine ok_eq (b126_0 X d a s n w) (ok_if (fun q => ok_if (fun q2 => ok_if (fun q3 => ok_ret ⟨?_, rfl⟩) (fun q3 => ok_ret ⟨?_, rfl⟩)) (fun q2 => ok_ret ⟨?_, rfl⟩)) (fun q => ok_if (fun q2 => ok_ret ⟨?_, rfl⟩) (fun q2 => ok_ret ⟨?_, rfl⟩)))
  · unfold penc
    rw [if_neg q, if_neg q2, if_neg q3, wrap_id (by omega) (by omega)]
  · unfold penc
    rw [if_neg q, if_neg q2, if_pos (Decidable.not_not.mp q3), wrap_id (by omega) (by omega)]
  · unfold penc
    rw [if_neg q, if_pos (Decidable.not_not.mp q2)]
  · unfold penc
    rw [if_pos (Decidable.not_not.mp q), if_neg q2, wrap_id (by omega) (by omega)]
  · unfold penc
    rw [if_pos (Decidable.not_not.mp q), if_pos (Decidable.not_not.mp q2)]
theorem sgn3 {i : Int} (h0 : 0 ≤ i) (h3 : i < 3) : ∃ s r : Int, andI i 1 = s ∧ shrI i 1 = r ∧ i = s + 2 * r ∧ (s = 0 ∨ s = 1) ∧ (r = 0 ∨ r = 1) ∧ s + r ≤ 1 := by
  have : i = 0 ∨ i = 1 ∨ i = 2 := by omega
  rcases this with e | e | e
  · exact ⟨0, 0, by rw [e]; decide +kernel, by rw [e]; decide +kernel, by omega, by omega, by omega, by omega⟩
  · exact ⟨1, 0, by rw [e]; decide +kernel, by rw [e]; decide +kernel, by omega, by omega, by omega, by omega⟩
  · exact ⟨0, 1, by rw [e]; decide +kernel, by rw [e]; decide +kernel, by omega, by omega, by omega, by omega⟩
theorem twice_m (hS : Sh w) (h : MoS w A) (ho : okB A.1) : OkI (run X (d + 2) 127 [.inr 38] w) (MO w (twiceF A)) := by
  obtain ⟨o1, o2, o3⟩ := ho
  refine ok_eq (b127_0 X (d + 1) 38 w) (ok_gd (hS.1 38) ?_)
  rw [h.1.1, wrap_id (by omega) (by omega)]
  refine ok_if (fun h1 => ok_gd (hS.1 38) (ok_V (recS (d := d) hS h) (fun z ⟨hz, kz⟩ => ?_))) (fun h1 => ok_ret ⟨_, rfl, MO.same h (if_pos (by omega))⟩)
  have e0 : twiceF A = (2 * A.1.1, push A (2 * A.1.1, tpair A.1.2 A.1.1)) := if_neg (by omega)
  have Sz := hS.kp kz
  generalize hE : (fun x y => enc (2 * A.1.1) (tpair A.1.2 A.1.1) (12 * x + y)) = E
  have eE : ∀ x y, 0 ≤ x → x < 12 → 0 ≤ y → y < 12 → E x y = if (1 ≤ x ∧ x < 2 * A.1.1) ∧ (1 ≤ y ∧ y < 2 * A.1.1) then mc (tpair A.1.2 A.1.1 x y) else -1 := fun x y x0 x1 y0 y1 => by
    rw [← hE]
    exact enc_at ⟨x0, x1⟩ ⟨y0, y1⟩
  have hn0 : ∀ s, Kp 40 40 z s → gi s 38 0 = A.1.1 := fun s q => by rw [q.gi (by omega)]; exact hz.1.1
  have hTs : ∀ s, Kp 40 40 z s → TbM s A.1.1 A.1.2 := fun s q => hz.1.kp q (by omega)
  refine ok_up (fun i s => R X (d + 2) 127 20 [some (.inr 38), some (.inl i), none, none, none, none] [] s) (fun i s => (∀ k : Int, 0 ≤ k → k < i → gi s 40 k.toNat = -1) ∧ Kp 40 40 z s) 0 144 (by omega) ?_ ?_ z ⟨fun k q1 q2 => by omega, Kp.rf⟩
  · intro i s i0 i1 ⟨hI, hK⟩ ih
    have Ss := Sz.kp hK
    refine ok_eq (b127_20 X (d + 1) 38 i s) (ok_iff (by omega) (ok_gd (Ss.1 38) (ok_r (Ss.2.2 38 2 (by decide)) (ok_gd ⟨Ss.1 40, i0, by rw [show ln s 40 = 144 from Ss.2.1 40]; omega⟩ ?_))))
    rw [wrap_id (z := i + 1) (by omega) (by omega)]
    refine ih _ ⟨fun k q1 q2 => ?_, hK.tr (Kp.si (by omega) (by omega))⟩
    by_cases e : k = i
    · rw [e, gi_si_eq]
    · rw [gi_si_ne2 (by omega)]
      exact hI k q1 (by omega)
  intro s ⟨hI, hK⟩
  refine ok_eq (b127_20 X (d + 1) 38 144 s) (ok_ift (by omega) ?_)
  refine ok_up (fun i s => R X (d + 2) 127 42 [some (.inr 38), some (.inl i), none, none, none, none] [] s) (fun i s => MdD s E (fun x y => x < 2 * A.1.1 ∧ y < 2 * A.1.1 ∧ pfst A.1.1 x < i) ∧ Kp 40 40 z s) 0 A.1.1 (by omega) ?_ ?_ s ⟨fun x y x0 x1 y0 y1 => ⟨Or.inr (hI _ (by omega) (by omega)), fun hd => absurd hd.2.2 (by have := pf_rng o1 x0 hd.1; omega)⟩, hK⟩
  · intro i s i0 i1 ⟨hM, hK⟩ ih
    have Ss := Sz.kp hK
    refine ok_eq (b127_42 X (d + 1) 38 i s) (ok_gd (Ss.1 38) (ok_iff (by rw [hn0 s hK]; omega) ?_))
    refine ok_up (fun j s => R X (d + 2) 127 52 [some (.inr 38), some (.inl i), some (.inl j), none, none, none] [] s) (fun j s => MdD s E (fun x y => x < 2 * A.1.1 ∧ y < 2 * A.1.1 ∧ (pfst A.1.1 x < i ∨ (pfst A.1.1 x = i ∧ pfst A.1.1 y < j))) ∧ Kp 40 40 z s) 0 A.1.1 (by omega) ?_ ?_ s ⟨hM.sub (fun x y x0 x1 y0 y1 hd => Or.inl (by have := pf_rng o1 y0 hd.2.1; omega)), hK⟩
    · intro j s2 j0 j1 ⟨hM2, hK2⟩ ih2
      have S2 := Sz.kp hK2
      refine ok_eq (b127_52 X (d + 1) 38 i j s2) (ok_gd (S2.1 38) (ok_iff (by rw [hn0 s2 hK2]; omega) ?_))
      have nxt : ∀ s3, Kp 40 40 z s3 → MdD s3 E (fun x y => x < 2 * A.1.1 ∧ y < 2 * A.1.1 ∧ (pfst A.1.1 x < i ∨ (pfst A.1.1 x = i ∧ pfst A.1.1 y < j + 1))) → Ok (R X (d + 2) 127 52 [some (.inr 38), some (.inl i), some (.inl (j + 1)), none, none, none] [] s3) (fun v w' => ∃ x, v = some (.inl x) ∧ MO w (twiceF A) x w') := fun s3 q1 q2 => ih2 s3 ⟨q2, q1⟩
      refine ok_up (fun r s => R X (d + 2) 127 62 [some (.inr 38), some (.inl i), some (.inl j), some (.inl r), none, none] [] s) (fun r s => MdD s E (fun x y => x < 2 * A.1.1 ∧ y < 2 * A.1.1 ∧ (pfst A.1.1 x < i ∨ (pfst A.1.1 x = i ∧ (pfst A.1.1 y < j ∨ (pfst A.1.1 y = j ∧ psnd A.1.1 x + 2 * psnd A.1.1 y < r))))) ∧ Kp 40 40 z s) 0 3 (by omega) ?_ ?_ s2 ⟨hM2.sub (fun x y x0 x1 y0 y1 hd => Or.inl (by have := ps_rng (n := A.1.1) (x := x); have := ps_rng (n := A.1.1) (x := y); omega)), hK2⟩
      · intro r s3 r0 r1 ⟨hM3, hK3⟩ ih3
        have S3 := Sz.kp hK3
        have hT3 := hTs s3 hK3
        refine ok_eq (b127_62 X (d + 1) 38 i j r s3) (ok_iff (by omega) (ok_gd (S3.1 38) (ok_i (plus_ok S3 hT3 o3 o2 (by omega) (by omega)) ?_)))
        rw [wrap_id (z := j + 1) (by omega) (by omega), wrap_id (z := r + 1) (by omega) (by omega), hn0 s3 hK3]
        have val := o3.2.1 i j
        refine ok_if (fun hc => ?_) (fun hc => ?_)
        · refine nxt s3 hK3 (hM3.sub (fun x y x0 x1 y0 y1 hd => ?_))
          by_cases e : pfst A.1.1 x = i ∧ pfst A.1.1 y = j
          · right
            rw [eE x y x0 x1 y0 y1]
            split
            · unfold tpair
              rw [if_pos (by omega), e.1, e.2]
              have h12 : A.1.2 i j = 12 := by
                unfold mc at hc
                split at hc <;> omega
              rw [if_pos h12]
              split <;> rfl
            · rfl
          · left; omega
        have h12 : A.1.2 i j ≠ 12 := fun q => hc (by rw [q]; rfl)
        obtain ⟨s1, r1', es, er, ei, hs1, hr1, hsr⟩ := sgn3 r0 r1
        rw [es, er]
        have px := pe_rng (n := A.1.1) (a := i) (s := s1) o1 (by omega) (by omega)
        have py := pe_rng (n := A.1.1) (a := j) (s := r1') o1 (by omega) (by omega)
        have done : ∀ x y, x < 2 * A.1.1 → y < 2 * A.1.1 → 0 ≤ x → 0 ≤ y → pfst A.1.1 x = i → pfst A.1.1 y = j → psnd A.1.1 x + 2 * psnd A.1.1 y = r → x = penc A.1.1 i s1 ∧ y = penc A.1.1 j r1' := fun x y x1 y1 x0 y0 q1 q2 q3 => by
          have p1 := ps_rng (n := A.1.1) (x := x)
          have p2 := ps_rng (n := A.1.1) (x := y)
          have e1 : psnd A.1.1 x = s1 := by omega
          have e2 : psnd A.1.1 y = r1' := by omega
          have t1 := pe_rt o1 x0 x1
          have t2 := pe_rt o1 y0 y1
          rw [q1, e1] at t1
          rw [q2, e2] at t2
          exact ⟨t1.symm, t2.symm⟩
        have skip : (penc A.1.1 i s1 = 0 ∨ penc A.1.1 j r1' = 0) → Ok (R X (d + 2) 127 62 [some (.inr 38), some (.inl i), some (.inl j), some (.inl (r + 1)), none, none] [] s3) (fun v w' => ∃ x, v = some (.inl x) ∧ MO w (twiceF A) x w') := fun q => ih3 s3 ⟨hM3.sub (fun x y x0 x1 y0 y1 hd => by
          by_cases e : pfst A.1.1 x = i ∧ pfst A.1.1 y = j ∧ psnd A.1.1 x + 2 * psnd A.1.1 y = r
          · right
            have g := done x y hd.1 hd.2.1 x0 y0 e.1 e.2.1 e.2.2
            rw [eE x y x0 x1 y0 y1, if_neg (by omega)]
          · left; omega), hK3⟩
        refine ok_gd (S3.1 38) (ok_i (penc_m X (d + 1) s3 (by omega) (by omega)) (ok_gd (S3.1 38) ?_))
        rw [hn0 s3 hK3]
        refine ok_i (penc_m X (d + 1) s3 (by omega) (by omega)) (ok_if (fun q => skip (Or.inl q)) (fun hx => ok_if (fun q => skip (Or.inr q)) (fun hy => ok_gd (S3.1 38) (ok_r (S3.2.2 38 2 (by decide)) (ok_gd (S3.1 38) (ok_i (plus_ok S3 hT3 o3 o2 (by omega) (by omega)) ?_))))))
        rw [hn0 s3 hK3, wrap_id (z := 12 * penc A.1.1 i s1) (by omega) (by omega), wrap_id (z := 12 * penc A.1.1 i s1 + penc A.1.1 j r1') (by omega) (by omega), mc_ne h12]
        have l40 : ln s3 40 = 144 := S3.2.1 40
        have fin1 : ∀ v, v = penc A.1.1 (A.1.2 i j) (s1 + r1') → Ok (R X (d + 2) 127 62 [some (.inr 38), some (.inl i), some (.inl j), some (.inl (r + 1)), none, none] [] (si s3 40 (12 * penc A.1.1 i s1 + penc A.1.1 j r1').toNat v)) (fun v w' => ∃ x, v = some (.inl x) ∧ MO w (twiceF A) x w') := fun v hv => ih3 _ ⟨hM3.put (by omega) (by omega) (by
            have rp := pe_rng (n := A.1.1) (a := A.1.2 i j) (s := s1 + r1') o1 (by omega) (by omega)
            rw [hv, eE _ _ (by omega) (by omega) (by omega) (by omega), if_pos (by omega)]
            unfold tpair
            rw [if_pos (by omega), ps_pe o1 (by omega) (by omega) hs1, ps_pe o1 (by omega) (by omega) hr1, pf_pe o1 (by omega) (by omega), pf_pe o1 (by omega) (by omega), if_neg (by omega), if_neg h12]
            by_cases q : penc A.1.1 (A.1.2 i j) (s1 + r1') = 12
            · omega
            · rw [mc_ne q]) (fun x y x0 x1 y0 y1 hd => by
            by_cases e : pfst A.1.1 x = i ∧ pfst A.1.1 y = j ∧ psnd A.1.1 x + 2 * psnd A.1.1 y = r
            · right; right
              exact done x y hd.1 hd.2.1 x0 y0 e.1 e.2.1 e.2.2
            · left; omega), hK3.tr (Kp.si (by omega) (by omega))⟩
        refine ok_if (fun q => ok_gd (S3.1 38) (ok_i (penc_m X (d + 1) s3 (by omega) (by omega)) (ok_gd ⟨S3.1 40, by omega, by rw [l40]; omega⟩ (fin1 _ (by rw [show s1 + r1' = 1 by omega]))))) (fun q => ok_gd (S3.1 38) (ok_i (penc_m X (d + 1) s3 (by omega) (by omega)) (ok_gd ⟨S3.1 40, by omega, by rw [l40]; omega⟩ (fin1 _ (by rw [show s1 + r1' = 0 by omega])))))
      · intro s3 ⟨hM3, hK3⟩
        have S3 := Sz.kp hK3
        refine ok_eq (b127_62 X (d + 1) 38 i j 3 s3) (ok_ift (by omega) ?_)
        rw [wrap_id (z := j + 1) (by omega) (by omega)]
        refine nxt s3 hK3 (hM3.sub (fun x y x0 x1 y0 y1 hd => ?_))
        have p1 := ps_rng (n := A.1.1) (x := x)
        have p2 := ps_rng (n := A.1.1) (x := y)
        by_cases e : psnd A.1.1 x + psnd A.1.1 y = 2
        · right
          rw [eE x y x0 x1 y0 y1]
          split
          · unfold tpair
            rw [if_pos (by omega), if_pos e]
            rfl
          · rfl
        · left; omega
    · intro s2 ⟨hM2, hK2⟩
      have S2 := Sz.kp hK2
      refine ok_eq (b127_52 X (d + 1) 38 i A.1.1 s2) (ok_gd (S2.1 38) (ok_ift (by rw [hn0 s2 hK2]; omega) ?_))
      rw [wrap_id (z := i + 1) (by omega) (by omega)]
      exact ih s2 ⟨hM2.sub (fun x y x0 x1 y0 y1 hd => Or.inl (by have := pf_rng o1 y0 hd.2.1; omega)), hK2⟩
  · intro s ⟨hM, hK⟩
    have Ss := Sz.kp hK
    refine ok_eq (b127_42 X (d + 1) 38 A.1.1 s) (ok_gd (Ss.1 38) (ok_ift (by rw [hn0 s hK]; omega) (ok_gd (Ss.1 38) (ok_V (move_ok (d := d + 1) Ss) (fun u ⟨u1, u2⟩ => ?_)))))
    have Su := Ss.kp u2
    have hnu : gi u 38 0 = A.1.1 := by rw [u2.gi (by omega)]; exact hn0 s hK
    refine ok_gd (Su.1 38) (ok_gd (Su.1 38) (ok_gd (Su.1 38) ?_))
    rw [hnu, wrap_id (by omega) (by omega), gi_si_eq]
    have hM' := hM.sub (Dn' := fun _ _ => True) (fun x y x0 x1 y0 y1 _ => by
      by_cases e : x < 2 * A.1.1 ∧ y < 2 * A.1.1
      · left
        have := pf_rng o1 x0 e.1
        omega
      · right
        rw [eE x y x0 x1 y0 y1, if_neg (by omega)])
    rw [← hE] at hM'
    have hT := moved hM' u1
    obtain ⟨r1, r2⟩ := MoS.act (a := (2 * A.1.1, tpair A.1.2 A.1.1)) hz kz (((hK.wide (by omega) (by omega)).tr (u2.wide (by omega) (by omega))).tr (Kp.si (w := u) (lo := 38) (hi := 40) (a := 38) (k := 0) (v := 2 * A.1.1) (by omega) (by omega))) (fun j hj => by rw [gi_si_ne2 hj, u2.gi (by omega), hK.gi (by omega)]) hT
    refine ok_ret ⟨_, rfl, ?_⟩
    rw [e0]
    exact ⟨rfl, r1, r2⟩
end MN
