/-! weights: first ranges and groups in the machine -/
section WG
variable {X : Nat × (Nat → Int)} {d : Nat} {w w' w2 : MW} {n k : Int} {t : Int → Int → Int} {ps : List T3} {g : Int → Int} {G : Int} {r : AB}
theorem setf_ok (hS : Sh w) (hP : PsS w ps) (hps : ∀ s, s ∈ ps → psIn n s) (h4 : gi w 27 4 = n) (hn2 : 2 ≤ n) (hn : n ≤ 12) : OkV (run X d 56 [.inr 27, .inl k] w) (fun w' => Rl w' n 0 (r0 ps k) ∧ Kl 0 w w') := by
  have gds : ∀ z, Kl 0 w z → kd z 27 = 15 ∧ kd z 34 = 1 ∧ kd z 35 = 1 ∧ ln z 34 = 144 ∧ ln z 35 = 144 ∧ gr z 27 9 = some 34 ∧ gr z 27 10 = some 35 ∧ gi z 27 4 = n := fun z hK => by
    have Sz := hS.kp hK.1
    exact ⟨Sz.1 27, Sz.1 34, Sz.1 35, Sz.2.1 34, Sz.2.1 35, Sz.2.2 27 9 (by decide), Sz.2.2 27 10 (by decide), by rw [hK.1.gi (by omega)]; exact h4⟩
  have setA : ∀ {z : MW} {j : Nat} {v : Int}, Kl 0 w z → j < 12 → Kl 0 w (si z 34 j v) := fun {z j v} hK hj => hK.tr ⟨Kp.si (by omega) (by omega), fun i hi => ⟨gi_si_ne2 (by omega), gi_si_ne (by omega)⟩⟩
  have setB : ∀ {z : MW} {j : Nat} {v : Int}, Kl 0 w z → j < 12 → Kl 0 w (si z 35 j v) := fun {z j v} hK hj => hK.tr ⟨Kp.si (by omega) (by omega), fun i hi => ⟨gi_si_ne (by omega), gi_si_ne2 (by omega)⟩⟩
  have pair : ∀ z, Kl 0 w z → (∀ x : Int, 0 ≤ x → x < n → gi z 34 x.toNat = if x = 1 then k else 0) → (∀ x : Int, 0 ≤ x → x < n → gi z 35 x.toNat = hi0 ps k 0 x) → Ok (R X d 56 46 [some (.inr 27), none, some (.inl 0)] [] z) (fun v w' => v = none ∧ Rl w' n 0 (r0 ps k) ∧ Kl 0 w w') := by
    intro z hKz hA hB
    refine ok_up (fun i z => R X d 56 46 [some (.inr 27), none, some (.inl i)] [] z) (fun i z => Kl 0 w z ∧ (∀ x : Int, 0 ≤ x → x < n → gi z 34 x.toNat = if x = 1 then k else 0) ∧ ∀ x : Int, 0 ≤ x → x < n → gi z 35 x.toNat = hi0 ps k i x) 0 ps.length (by omega) ?_ ?_ z ⟨hKz, hA, hB⟩
    · intro i z h1 h2 ⟨hK, hA, hB⟩ ih
      have Sz := hS.kp hK.1
      obtain ⟨z27, z34, z35, m34, m35, g9, g10, e4⟩ := gds z hK
      have z31 : kd z 31 = 1 := Sz.1 31
      have z32 : kd z 32 = 1 := Sz.1 32
      have z33 : kd z 33 = 1 := Sz.1 33
      have l31 : ln z 31 = 66 := Sz.2.1 31
      have l32 : ln z 32 = 66 := Sz.2.1 32
      have l33 : ln z 33 = 66 := Sz.2.1 33
      have g6 : gr z 27 6 = some 31 := Sz.2.2 27 6 (by decide)
      have g7 : gr z 27 7 = some 32 := Sz.2.2 27 7 (by decide)
      have g8 : gr z 27 8 = some 33 := Sz.2.2 27 8 (by decide)
      have hPz := hP.kp hK.1 (by omega)
      have hlen := hPz.2.1
      obtain ⟨s, hs⟩ : ∃ s, ps[i.toNat]? = some s := ⟨ps[i.toNat]'(by omega), List.getElem?_eq_getElem (by omega)⟩
      obtain ⟨a1, a2, a3⟩ := hPz.2.2 _ _ hs
      obtain ⟨i1, i2, i3⟩ := hps s (List.mem_of_getElem? hs)
      have hstep : ∀ x : Int, dB (x = 0 ∨ anyT (zerP x) ps (i + 1)) = true ↔ (x = 0 ∨ anyT (zerP x) ps i) ∨ zerP x s := fun x => by rw [dB_iff, anyT_s h1 hs, or_assoc]
      have second : ∀ y, Kl 0 z y → (∀ x : Int, 0 ≤ x → x < n → gi y 34 x.toNat = gi z 34 x.toNat) → (∀ x : Int, 0 ≤ x → x < n → (s.2.2 = s.1 ∧ x = s.2.1 → gi y 35 x.toNat = 0) ∧ (¬ (s.2.2 = s.1 ∧ x = s.2.1) → gi y 35 x.toNat = gi z 35 x.toNat)) → Ok (R X d 56 81 [some (.inr 27), none, some (.inl i)] [] y) (fun v w' => v = none ∧ Rl w' n 0 (r0 ps k) ∧ Kl 0 w w') := by
        intro y hKy y34 y35
        have Sy := Sz.kp hKy.1
        have q27 : kd y 27 = 15 := Sy.1 27
        have q31 : kd y 31 = 1 := Sy.1 31
        have q32 : kd y 32 = 1 := Sy.1 32
        have q33 : kd y 33 = 1 := Sy.1 33
        have q35 : kd y 35 = 1 := Sy.1 35
        have m31 : ln y 31 = 66 := Sy.2.1 31
        have m32 : ln y 32 = 66 := Sy.2.1 32
        have m33 : ln y 33 = 66 := Sy.2.1 33
        have m35' : ln y 35 = 144 := Sy.2.1 35
        have u6 : gr y 27 6 = some 31 := Sy.2.2 27 6 (by decide)
        have u7 : gr y 27 7 = some 32 := Sy.2.2 27 7 (by decide)
        have u8 : gr y 27 8 = some 33 := Sy.2.2 27 8 (by decide)
        have u10 : gr y 27 10 = some 35 := Sy.2.2 27 10 (by decide)
        have hKwy := hK.tr hKy
        refine ok_eq (b56_81 X d 27 i y) (ok_gd q27 (ok_r u8 (ok_gd ⟨q33, h1, by rw [m33]; omega⟩ (ok_gd q27 (ok_r u7 (ok_gd ⟨q32, h1, by rw [m32]; omega⟩ ?_))))))
        rw [hKy.1.gi (by omega), hKy.1.gi (by omega), a3, a2, wrap_id (z := i + 1) (by omega) (by omega)]
        refine ok_if (fun hc => ih y ⟨hKwy, fun x x0 x1 => by rw [y34 x x0 x1]; exact hA x x0 x1, fun x x0 x1 => ?_⟩) (fun hc => ok_gd q27 (ok_r u10 (ok_gd q27 (ok_r u6 (ok_gd ⟨q31, h1, by rw [m31]; omega⟩ ?_)))))
        · by_cases e : s.2.2 = s.1 ∧ x = s.2.1
          · rw [(y35 x x0 x1).1 e]
            exact (if_pos ((hstep x).mpr (Or.inr (Or.inl e)))).symm
          · rw [(y35 x x0 x1).2 e, hB x x0 x1]
            have : (dB (x = 0 ∨ anyT (zerP x) ps i) = true) ↔ dB (x = 0 ∨ anyT (zerP x) ps (i + 1)) = true := by
              rw [hstep x, dB_iff]
              exact ⟨fun q => Or.inl q, fun q => q.elim id (fun q => q.elim (fun q => absurd q e) (fun q => absurd q.1 hc))⟩
            unfold hi0
            by_cases h : dB (x = 0 ∨ anyT (zerP x) ps i) = true
            · rw [if_pos h, if_pos (this.mp h)]
            · rw [if_neg h, if_neg (fun q => h (this.mpr q))]
        · have hc' := Decidable.not_not.mp hc
          rw [hKy.1.gi (by omega), a1]
          refine ok_gd ⟨q35, i1.1, by rw [m35']; omega⟩ (ih _ ⟨setB hKwy (by omega), fun x x0 x1 => ?_, fun x x0 x1 => ?_⟩)
          · rw [gi_si_ne (by omega), y34 x x0 x1]; exact hA x x0 x1
          · by_cases ex : x = s.1
            · rw [show x.toNat = s.1.toNat by rw [ex], gi_si_eq]
              exact (if_pos ((hstep x).mpr (Or.inr (Or.inr ⟨hc', ex⟩)))).symm
            · rw [gi_si_ne2 (by omega)]
              by_cases e : s.2.2 = s.1 ∧ x = s.2.1
              · rw [(y35 x x0 x1).1 e]
                exact (if_pos ((hstep x).mpr (Or.inr (Or.inl e)))).symm
              · rw [(y35 x x0 x1).2 e, hB x x0 x1]
                have : (dB (x = 0 ∨ anyT (zerP x) ps i) = true) ↔ dB (x = 0 ∨ anyT (zerP x) ps (i + 1)) = true := by
                  rw [hstep x, dB_iff]
                  exact ⟨fun q => Or.inl q, fun q => q.elim id (fun q => q.elim (fun q => absurd q e) (fun q => absurd q.2 ex))⟩
                unfold hi0
                by_cases h : dB (x = 0 ∨ anyT (zerP x) ps i) = true
                · rw [if_pos h, if_pos (this.mp h)]
                · rw [if_neg h, if_neg (fun q => h (this.mpr q))]
      refine ok_eq (b56_46 X d 27 i z) (ok_gd z27 (ok_iff (by rw [hPz.1]; omega) (ok_gd z27 (ok_r g8 (ok_gd ⟨z33, h1, by rw [l33]; omega⟩ (ok_gd z27 (ok_r g6 (ok_gd ⟨z31, h1, by rw [l31]; omega⟩ ?_))))))))
      rw [a3, a1]
      refine ok_if (fun hc => second z Kl.rf (fun _ _ _ => rfl) (fun x x0 x1 => ⟨fun q => absurd q.1 hc, fun _ => rfl⟩)) (fun hc => ok_gd z27 (ok_r g10 (ok_gd z27 (ok_r g7 (ok_gd ⟨z32, h1, by rw [l32]; omega⟩ ?_)))))
      rw [a2]
      refine ok_gd ⟨z35, i2.1, by rw [m35]; omega⟩ (second _ ⟨Kp.si (by omega) (by omega), fun j hj => ⟨gi_si_ne (by omega), gi_si_ne2 (by omega)⟩⟩ (fun x x0 x1 => gi_si_ne (by omega)) (fun x x0 x1 => ⟨fun q => ?_, fun q => ?_⟩))
      · rw [q.2, gi_si_eq]
      · exact gi_si_ne2 (fun e => q ⟨Decidable.not_not.mp hc, by omega⟩)
    · intro z ⟨hK, hA, hB⟩
      refine ok_eq (b56_46 X d 27 ps.length z) (ok_gd ((hS.kp hK.1).1 27) (ok_ift (by rw [(hP.kp hK.1 (by omega)).1]; omega) (ok_ret ⟨rfl, fun x x0 x1 => ?_, hK⟩)))
      rw [show 0 * 12 + x = x by omega]
      exact ⟨hA x x0 x1, hB x x0 x1⟩
  refine ok_eq (b56_0 X d 27 k w) ?_
  refine ok_up (fun i z => R X d 56 2 [some (.inr 27), some (.inl k), some (.inl i)] [] z) (fun i z => Kl 0 w z ∧ ∀ x : Int, 0 ≤ x → x < i → gi z 34 x.toNat = 0 ∧ gi z 35 x.toNat = k) 0 n (by omega) ?_ ?_ w ⟨Kl.rf, fun x q1 q2 => by omega⟩
  · intro i z h1 h2 ⟨hK, hI⟩ ih
    obtain ⟨z27, z34, z35, m34, m35, g9, g10, e4⟩ := gds z hK
    refine ok_eq (b56_2 X d 27 k i z) (ok_gd z27 (ok_iff (by rw [e4]; omega) (ok_gd z27 (ok_r g9 (ok_gd ⟨z34, h1, by rw [m34]; omega⟩ (ok_gd z27 (ok_r g10 (ok_gd ⟨z35, h1, by show _ < ((ln z 35 : Nat) : Int); rw [m35]; omega⟩ ?_))))))))
    rw [wrap_id (z := i + 1) (by omega) (by omega)]
    refine ih _ ⟨setB (setA hK (by omega)) (by omega), fun x x0 x1 => ?_⟩
    by_cases e : x = i
    · rw [e, gi_si_ne (by omega), gi_si_eq, gi_si_eq]
      exact ⟨rfl, rfl⟩
    · rw [gi_si_ne (by omega), gi_si_ne2 (by omega), gi_si_ne2 (by omega), gi_si_ne (by omega)]
      exact hI x x0 (by omega)
  · intro z ⟨hK, hI⟩
    obtain ⟨z27, z34, z35, m34, m35, g9, g10, e4⟩ := gds z hK
    refine ok_eq (b56_2 X d 27 k n z) (ok_gd z27 (ok_ift (by rw [e4]; omega) (ok_gd z27 (ok_r g10 (ok_gd ⟨z35, by omega, by rw [m35]; omega⟩ (ok_gd z27 (ok_r g9 (ok_gd ⟨z34, by omega, by show _ < ((ln z 34 : Nat) : Int); rw [m34]; omega⟩ (pair _ (setA (setB hK (by decide)) (by decide)) (fun x x0 x1 => ?_) (fun x x0 x1 => ?_))))))))))
    · by_cases e : x = 1
      · rw [if_pos e, e, gi_si_eq]
      · rw [if_neg e, gi_si_ne2 (fun q => e (by have : ((1 : Int).toNat) = 1 := rfl; omega)), gi_si_ne (by omega)]
        exact (hI x x0 x1).1
    · rw [gi_si_ne (by omega)]
      by_cases e : x = 0
      · rw [e, gi_si_eq]
        exact (if_pos (dB_iff.mpr (Or.inl rfl))).symm
      · rw [gi_si_ne2 (fun q => e (by have : ((0 : Int).toNat) = 0 := rfl; omega))]
        rw [(hI x x0 x1).2]
        exact (if_neg (fun q => (dB_iff.mp q).elim e (fun q => anyT_0 q))).symm
theorem jg_ok (hS : Sh w) (hG : GrS w n g) (h4 : gi w 27 4 = n) (hn : n ≤ 12) (h0n : 0 ≤ n) (a b : Int) : OkV (run X d 63 [.inr 27, .inl a, .inl b] w) (fun w' => GrS w' n (jg g a b) ∧ Kp 36 36 w w') := by
  refine ok_eq (b63_0 X d 27 a b w) (ok_if (fun hc => ok_ret ⟨rfl, ?_, Kp.rf⟩) (fun hc => ok_if (fun hc2 => ?_) (fun hc2 => ok_ret ⟨rfl, ?_, Kp.rf⟩)))
  · unfold jg
    rw [if_pos (Or.inl hc)]
    exact hG
  rotate_left
  · unfold jg
    rw [if_pos (Or.inr (Decidable.not_not.mp hc2))]
    exact hG
  have hj : jg g a b = fun x => if g x = a ∨ g x = b then minI a b else g x := if_neg (fun q => q.elim hc hc2)
  rw [hj]
  refine ok_up (fun i z => R X d 63 13 [some (.inr 27), some (.inl a), some (.inl b), some (.inl i)] [] z) (fun i z => Kp 36 36 w z ∧ ∀ x, 0 ≤ x → x < n → gi z 36 x.toNat = if x < i then (if g x = a ∨ g x = b then minI a b else g x) else g x) 0 n h0n ?_ ?_ w ⟨Kp.rf, fun x x0 x1 => by rw [if_neg (by omega)]; exact hG x x0 x1⟩
  · intro i z h1 h2 ⟨hK, hI⟩ ih
    have Sz := hS.kp hK
    have z27 : kd z 27 = 15 := Sz.1 27
    have z36 : kd z 36 = 1 := Sz.1 36
    have l36 : ln z 36 = 12 := Sz.2.1 36
    have g11 : gr z 27 11 = some 36 := Sz.2.2 27 11 (by decide)
    have ei := hI i h1 h2
    rw [if_neg (by omega)] at ei
    have hit : (g i = a ∨ g i = b) → Ok (R X d 63 41 [some (.inr 27), some (.inl a), some (.inl b), some (.inl i)] [] z) (fun v w' => v = none ∧ GrS w' n (fun x => if g x = a ∨ g x = b then minI a b else g x) ∧ Kp 36 36 w w') := by
      intro hh
      refine ok_eq (b63_41 X d 27 a b i z) (ok_gd z27 (ok_r g11 (ok_gd ⟨z36, h1, by rw [l36]; omega⟩ ?_)))
      rw [wrap_id (z := i + 1) (by omega) (by omega)]
      refine ih _ ⟨hK.tr (Kp.si (by omega) (by omega)), fun x x0 x1 => ?_⟩
      by_cases e : x = i
      · rw [e, gi_si_eq, if_pos (by omega), if_pos hh]
      · rw [gi_si_ne2 (by omega), hI x x0 x1]
        by_cases e2 : x < i
        · rw [if_pos e2, if_pos (show x < i + 1 by omega)]
        · rw [if_neg e2, if_neg (show ¬ x < i + 1 by omega)]
    refine ok_eq (b63_13 X d 27 a b i z) (ok_gd z27 (ok_iff (by rw [hK.gi (by omega), h4]; omega) (ok_gd z27 (ok_r g11 (ok_gd ⟨z36, h1, by rw [l36]; omega⟩ ?_)))))
    rw [ei, wrap_id (z := i + 1) (by omega) (by omega)]
    refine ok_if (fun h => hit (Or.inl h)) (fun h => ok_gd z27 (ok_r g11 (ok_gd ⟨z36, h1, by rw [l36]; omega⟩ ?_)))
    rw [ei]
    refine ok_if (fun h3 => ih z ⟨hK, fun x x0 x1 => ?_⟩) (fun h3 => hit (Or.inr (Decidable.not_not.mp h3)))
    rw [hI x x0 x1]
    by_cases e : x = i
    · rw [if_neg (by omega), if_pos (by omega), e, if_neg (fun q => q.elim h h3)]
    · by_cases e2 : x < i
      · rw [if_pos e2, if_pos (show x < i + 1 by omega)]
      · rw [if_neg e2, if_neg (show ¬ x < i + 1 by omega)]
  · intro z ⟨hK, hI⟩
    refine ok_eq (b63_13 X d 27 a b n z) (ok_gd ((hS.kp hK).1 27) (ok_ift (by rw [hK.gi (by omega), h4]; omega) (ok_ret ⟨rfl, fun x x0 x1 => ?_, hK⟩)))
    rw [hI x x0 x1, if_pos x1]
theorem form_ok (hS : Sh w) (hR : Rl w n 0 r) (hP : PsS w ps) (hps : ∀ s, s ∈ ps → psIn n s) (h4 : gi w 27 4 = n) (h0n : 0 ≤ n) (hn : n ≤ 12) : OkV (run X (d + 1) 62 [.inr 27] w) (fun w' => GrS w' n (grps ps r) ∧ Kp 36 36 w w') := by
  have gds : ∀ z, Kp 36 36 w z → kd z 27 = 15 ∧ kd z 36 = 1 ∧ ln z 36 = 12 ∧ gr z 27 11 = some 36 ∧ gi z 27 4 = n := fun z hK => by
    have Sz := hS.kp hK
    exact ⟨Sz.1 27, Sz.1 36, Sz.2.1 36, Sz.2.2 27 11 (by decide), by rw [hK.gi (by omega)]; exact h4⟩
  refine ok_eq (b62_0 X d 27 w) ?_
  refine ok_up (fun i z => R X (d + 1) 62 2 [some (.inr 27), some (.inl i)] [] z) (fun i z => Kp 36 36 w z ∧ ∀ x, 0 ≤ x → x < i → gi z 36 x.toNat = grp0 r x) 0 n h0n ?_ ?_ w ⟨Kp.rf, fun x q1 q2 => by omega⟩
  · intro i z h1 h2 ⟨hK, hI⟩ ih
    obtain ⟨z27, z36, l36, g11, e4⟩ := gds z hK
    have hRz : Rl z n 0 r := fun x x0 x1 => by rw [hK.gi (by omega), hK.gi (by omega)]; exact hR x x0 x1
    have ho := opn_ok (X := X) (d := d) (hS.kp hK) hRz hn ⟨Int.le_refl 0, by omega⟩ ⟨h1, h2⟩
    rw [show 0 * 12 + i = i by omega] at ho
    have nxt : ∀ v, v = grp0 r i → Kp 36 36 w (si z 36 i.toNat v) ∧ ∀ x, 0 ≤ x → x < i + 1 → gi (si z 36 i.toNat v) 36 x.toNat = grp0 r x := fun v hv => ⟨hK.tr (Kp.si (by omega) (by omega)), fun x x0 x1 => by
      by_cases e : x = i
      · rw [e, gi_si_eq, hv]
      · rw [gi_si_ne2 (by omega)]
        exact hI x x0 (by omega)⟩
    refine ok_eq (b62_2 X d 27 i z) (ok_gd z27 (ok_iff (by rw [e4]; omega) (ok_gd z27 (ok_r g11 (ok_gd z27 (ok_i ho ?_))))))
    rw [wrap_id (z := i + 1) (by omega) (by omega)]
    refine ok_if (fun hc => ok_gd ⟨z36, h1, by rw [l36]; omega⟩ (ih _ (nxt (-1) ?_))) (fun hc => ok_gd ⟨z36, h1, by rw [l36]; omega⟩ (ih _ (nxt i ?_)))
    · exact (if_neg (bI_eq.mp hc)).symm
    · exact (if_pos (bI_ne.mp hc)).symm
  · intro z ⟨hK, hI⟩
    obtain ⟨z27, z36, l36, g11, e4⟩ := gds z hK
    refine ok_eq (b62_2 X d 27 n z) (ok_gd z27 (ok_ift (by rw [e4]; omega) ?_))
    refine ok_up (fun i z => R X (d + 1) 62 37 [some (.inr 27), some (.inl i)] [] z) (fun i z => Kp 36 36 w z ∧ GrS z n ((ps.take i.toNat).foldl jg3 (grp0 r))) 0 ps.length (by omega) ?_ ?_ z ⟨hK, fun x x0 x1 => hI x x0 x1⟩
    · intro i z h1 h2 ⟨hK, hGz⟩ ih
      obtain ⟨z27, z36, l36, g11, e4⟩ := gds z hK
      have Sz := hS.kp hK
      have hPz := hP.kp hK (by omega)
      have hlen := hPz.2.1
      obtain ⟨s, hs⟩ : ∃ s, ps[i.toNat]? = some s := ⟨ps[i.toNat]'(by omega), List.getElem?_eq_getElem (by omega)⟩
      obtain ⟨a1, a2, a3⟩ := hPz.2.2 _ _ hs
      obtain ⟨i1, i2, i3⟩ := hps s (List.mem_of_getElem? hs)
      have hfold : (ps.take (i + 1).toNat).foldl jg3 (grp0 r) = jg3 ((ps.take i.toNat).foldl jg3 (grp0 r)) s := by
        rw [show (i + 1).toNat = i.toNat + 1 by omega, List.take_succ, hs, List.foldl_append]
        rfl
      have z31 : kd z 31 = 1 := Sz.1 31
      have z32 : kd z 32 = 1 := Sz.1 32
      have z33 : kd z 33 = 1 := Sz.1 33
      have l31 : ln z 31 = 66 := Sz.2.1 31
      have l32 : ln z 32 = 66 := Sz.2.1 32
      have l33 : ln z 33 = 66 := Sz.2.1 33
      have g6 : gr z 27 6 = some 31 := Sz.2.2 27 6 (by decide)
      have g7 : gr z 27 7 = some 32 := Sz.2.2 27 7 (by decide)
      have g8 : gr z 27 8 = some 33 := Sz.2.2 27 8 (by decide)
      generalize (ps.take i.toNat).foldl jg3 (grp0 r) = γ at hGz hfold
      refine ok_eq (b62_37 X d 27 i z) (ok_gd z27 (ok_iff (by rw [hPz.1]; omega) (ok_gd z27 (ok_r g11 (ok_gd z27 (ok_r g6 (ok_gd ⟨z31, h1, by rw [l31]; omega⟩ ?_)))))))
      rw [a1]
      refine ok_gd ⟨z36, i1.1, by rw [l36]; omega⟩ (ok_gd z27 (ok_r g11 (ok_gd z27 (ok_r g7 (ok_gd ⟨z32, h1, by rw [l32]; omega⟩ ?_)))))
      rw [a2]
      refine ok_gd ⟨z36, i2.1, by rw [l36]; omega⟩ (ok_gd z27 ?_)
      rw [hGz _ i1.1 i1.2, hGz _ i2.1 i2.2]
      refine ok_V (jg_ok Sz hGz e4 hn h0n _ _) (fun z1 ⟨hG1, hK1'⟩ => ?_)
      have hK1 := hK.tr hK1'
      obtain ⟨y27, y36, o36, h11, f4⟩ := gds z1 hK1
      have S1 := hS.kp hK1
      have y31 : kd z1 31 = 1 := S1.1 31
      have y33 : kd z1 33 = 1 := S1.1 33
      have o31 : ln z1 31 = 66 := S1.2.1 31
      have o33 : ln z1 33 = 66 := S1.2.1 33
      have h6 : gr z1 27 6 = some 31 := S1.2.2 27 6 (by decide)
      have h8 : gr z1 27 8 = some 33 := S1.2.2 27 8 (by decide)
      refine ok_gd y27 (ok_r h11 (ok_gd y27 (ok_r h6 (ok_gd ⟨y31, h1, by rw [o31]; omega⟩ ?_))))
      rw [hK1'.gi (b := 31) (by omega), a1]
      refine ok_gd ⟨y36, i1.1, by rw [o36]; omega⟩ (ok_gd y27 (ok_r h11 (ok_gd y27 (ok_r h8 (ok_gd ⟨y33, h1, by rw [o33]; omega⟩ ?_)))))
      rw [hK1'.gi (b := 33) (by omega), a3]
      refine ok_gd ⟨y36, i3.1, by rw [o36]; omega⟩ (ok_gd y27 ?_)
      rw [hG1 _ i1.1 i1.2, hG1 _ i3.1 i3.2]
      refine ok_V (jg_ok S1 hG1 f4 hn h0n _ _) (fun z2 ⟨hG2, hK2'⟩ => ?_)
      have hK2 := hK1.tr hK2'
      obtain ⟨x27, x36, p36, k11, f5⟩ := gds z2 hK2
      have S2 := hS.kp hK2
      have x32 : kd z2 32 = 1 := S2.1 32
      have x33 : kd z2 33 = 1 := S2.1 33
      have p32 : ln z2 32 = 66 := S2.2.1 32
      have p33 : ln z2 33 = 66 := S2.2.1 33
      have k7 : gr z2 27 7 = some 32 := S2.2.2 27 7 (by decide)
      have k8 : gr z2 27 8 = some 33 := S2.2.2 27 8 (by decide)
      refine ok_gd x27 (ok_r k11 (ok_gd x27 (ok_r k7 (ok_gd ⟨x32, h1, by rw [p32]; omega⟩ ?_))))
      rw [hK2'.gi (b := 32) (by omega), hK1'.gi (b := 32) (by omega), a2]
      refine ok_gd ⟨x36, i2.1, by rw [p36]; omega⟩ (ok_gd x27 (ok_r k11 (ok_gd x27 (ok_r k8 (ok_gd ⟨x33, h1, by rw [p33]; omega⟩ ?_)))))
      rw [hK2'.gi (b := 33) (by omega), hK1'.gi (b := 33) (by omega), a3]
      refine ok_gd ⟨x36, i3.1, by rw [p36]; omega⟩ (ok_gd x27 ?_)
      rw [hG2 _ i2.1 i2.2, hG2 _ i3.1 i3.2, wrap_id (z := i + 1) (by omega) (by omega)]
      refine ok_V (jg_ok S2 hG2 f5 hn h0n _ _) (fun z3 ⟨hG3, hK3'⟩ => ih z3 ⟨hK2.tr hK3', ?_⟩)
      rw [hfold]
      exact hG3
    · intro z ⟨hK, hGz⟩
      obtain ⟨z27, z36, l36, g11, e4⟩ := gds z hK
      rw [Int.toNat_natCast, List.take_length] at hGz
      exact ok_eq (b62_37 X d 27 ps.length z) (ok_gd z27 (ok_ift (by rw [(hP.kp hK (by omega)).1]; omega) (ok_ret ⟨rfl, hGz, hK⟩)))
end WG
