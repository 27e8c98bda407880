/-! weights: find in the machine -/
def PrsP (t : Int → Int → Int) (n : Int) (s : T3) : Prop := 1 ≤ s.1 ∧ s.1 ≤ s.2.1 ∧ s.2.1 < n ∧ t s.1 s.2.1 = s.2.2 ∧ s.2.2 ≠ 12
def tri : Nat → Nat
  | 0 => 0
  | k + 1 => tri k + (k + 1)
theorem tri_le : ∀ k, k ≤ 11 → tri k ≤ 66 := by decide
def zerP (x : Int) (s : T3) : Prop := (s.2.2 = s.1 ∧ x = s.2.1) ∨ (s.2.2 = s.2.1 ∧ x = s.1)
noncomputable def hi0 (ps : List T3) (k i x : Int) : Int := if dB (x = 0 ∨ anyT (zerP x) ps i) = true then 0 else k
noncomputable def r0 (ps : List T3) (k : Int) : AB := (fun x => if x = 1 then k else 0, hi0 ps k ps.length)
def nt0 (g : Int → Int) (r : AB) (k : Int) : (Int → Int) × (Int → Int) × (Int → Int) := (r.1, fun x => if g x = -1 then r.1 x else k, fun x => if g x = -1 then r.1 x else 0)
def gloop (n : Int) (ps : List T3) (g : Int → Int) (r : AB) : Nat → Int → Int → Nt → Int × Nt
  | 0, _, wy, nt => (wy, nt)
  | k + 1, G, wy, nt => if wy ≤ 0 then (wy, nt) else if g G ≠ G then gloop n ps g r k (G + 1) wy nt else gloop n ps g r k (G + 1) (minI 1000 (wy * minI 1000 (wghF n ps g G 10 r (nt.1, 0)).2)) (wghF n ps g G 10 r (nt.1, 0))
section WF
variable {X : Nat × (Nat → Int)} {d : Nat} {w w' w2 : MW} {n k : Int} {t : Int → Int → Int} {ps : List T3} {g : Int → Int} {G : Int} {r : AB}
theorem gath_add (hS : Sh w) (hP : PsS w ps) (hl : ps.length < 66) (a b c : Int) : PsS (si (si (si (si w 31 ps.length a) 32 ps.length b) 33 ps.length c) 27 5 (ps.length + 1)) (ps ++ [(a, b, c)]) := by
  refine ⟨?_, ?_, fun i s hi => ?_⟩
  · rw [gi_si_eq, List.length_append]
    rfl
  · rw [List.length_append]
    show ps.length + 1 ≤ 66
    omega
  · rw [gi_si_ne (by omega), gi_si_ne (by omega), gi_si_ne (by omega)]
    have n32 : gi (si (si (si (si w 31 ps.length a) 32 ps.length b) 33 ps.length c) 27 5 (ps.length + 1)) 32 i = gi (si w 32 ps.length b) 32 i := by
      rw [gi_si_ne (by omega), gi_si_ne (by omega)]
      by_cases hi3 : i = ps.length
      · rw [hi3, gi_si_eq, gi_si_eq]
      · rw [gi_si_ne2 hi3, gi_si_ne2 hi3, gi_si_ne2 hi3]
    have n33 : gi (si (si (si (si w 31 ps.length a) 32 ps.length b) 33 ps.length c) 27 5 (ps.length + 1)) 33 i = gi (si w 33 ps.length c) 33 i := by
      rw [gi_si_ne (by omega)]
      by_cases hi3 : i = ps.length
      · rw [hi3, gi_si_eq, gi_si_eq]
      · rw [gi_si_ne2 hi3, gi_si_ne2 hi3, gi_si_ne2 hi3, gi_si_ne2 hi3]
    rw [n32, n33]
    rcases get_app hi with hi2 | ⟨hi2, rfl⟩
    · have hlt : i < ps.length := (List.getElem?_eq_some_iff.mp hi2).1
      rw [gi_si_ne2 (by omega), gi_si_ne2 (by omega), gi_si_ne2 (by omega)]
      exact hP.2.2 i s hi2
    · rw [hi2, gi_si_eq, gi_si_eq, gi_si_eq]
      exact ⟨rfl, rfl, rfl⟩
def Kg (w w' : MW) : Prop := Kp 27 33 w w' ∧ ∀ j, j ≠ 5 → gi w' 27 j = gi w 27 j
theorem Kg.tr (h : Kg w w') (h2 : Kg w' w2) : Kg w w2 := ⟨h.1.tr h2.1, fun j hj => (h2.2 j hj).trans (h.2 j hj)⟩
theorem gath_ok (hS : Sh w) (hT : Tb w 2 n t) (h4 : gi w 27 4 = n) (hn1 : 1 ≤ n) : OkV (run X (d + 2) 55 [.inr 27, .inr 2] w) (fun w' => Kg w w' ∧ ∃ ps, PsS w' ps ∧ ∀ s, s ∈ ps ↔ PrsP t n s) := by
  have hn := hT.n12
  refine ok_eq (b55_0 X (d + 1) 27 2 w) (ok_gd (hS.1 27) ?_)
  refine ok_up (fun i z => R X (d + 2) 55 7 [some (.inr 27), some (.inr 2), some (.inl i), none, none] [] z) (fun i z => Kg w z ∧ ∃ ps, PsS z ps ∧ (∀ s, s ∈ ps ↔ PrsP t n s ∧ s.1 < i) ∧ ps.length + tri (n - i).toNat ≤ 66) 1 n hn1 ?_ ?_ (si w 27 5 0) ⟨⟨Kp.si (by omega) (by omega), fun j hj => gi_si_ne2 hj⟩, [], ⟨gi_si_eq, by simp, fun i s hi => by simp at hi⟩, fun s => ⟨fun q => by simp at q, fun q => by have := q.1.1; omega⟩, by simpa using tri_le (n - 1).toNat (by omega)⟩
  · intro i z h1 h2 ⟨hK, ps, hP, hm, hlen⟩ ih
    refine ok_eq (b55_7 X (d + 1) 27 2 i z) (ok_gd ((hS.kp hK.1).1 27) (ok_iff (by rw [hK.2 4 (by omega), h4]; omega) ?_))
    refine ok_up (fun j z => R X (d + 2) 55 17 [some (.inr 27), some (.inr 2), some (.inl i), some (.inl j), none] [] z) (fun j z => Kg w z ∧ ∃ ps, PsS z ps ∧ (∀ s, s ∈ ps ↔ PrsP t n s ∧ (s.1 < i ∨ (s.1 = i ∧ s.2.1 < j))) ∧ ps.length + tri (n - (i + 1)).toNat + (n - j).toNat ≤ 66) i n (by omega) ?_ ?_ z ⟨hK, ps, hP, fun s => ?_, ?_⟩
    · intro j z j1 j2 ⟨hK, ps, hP, hm, hlen⟩ ih2
      have Sz := hS.kp hK.1
      have hTz := hT.kp hK.1 (by omega)
      have z27 : kd z 27 = 15 := Sz.1 27
      have z31 : kd z 31 = 1 := Sz.1 31
      have z32 : kd z 32 = 1 := Sz.1 32
      have z33 : kd z 33 = 1 := Sz.1 33
      have l31 : ln z 31 = 66 := Sz.2.1 31
      have l32 : ln z 32 = 66 := Sz.2.1 32
      have l33 : ln z 33 = 66 := Sz.2.1 33
      have g6 : gr z 27 6 = some 31 := Sz.2.2 27 6 (by decide)
      have g7 : gr z 27 7 = some 32 := Sz.2.2 27 7 (by decide)
      have g8 : gr z 27 8 = some 33 := Sz.2.2 27 8 (by decide)
      refine ok_eq (b55_17 X (d + 1) 27 2 i j z) (ok_gd z27 (ok_iff (by rw [hK.2 4 (by omega), h4]; omega) (ok_gd hTz.k (ok_i (at_ok hTz i j) ?_))))
      rw [wrap_id (z := j + 1) (by omega) (by omega)]
      refine ok_if (fun hc => ih2 z ⟨hK, ps, hP, fun s => ?_, by omega⟩) (fun hc => ok_gd z27 ?_)
      · rw [hm s]
        constructor
        · intro ⟨q1, q2⟩
          exact ⟨q1, by omega⟩
        · intro ⟨q1, q2⟩
          refine ⟨q1, ?_⟩
          by_cases e : s.1 = i ∧ s.2.1 = j
          · have q3 := q1.2.2.2
            rw [e.1, e.2, hc] at q3
            exact absurd q3.1.symm q3.2
          · omega
      · have e0 := hP.1
        have e1 : ∀ v1, gi (si z 31 ps.length v1) 27 5 = ps.length := fun v1 => by rw [gi_si_ne (by omega)]; exact e0
        have e2 : ∀ v1 v2, gi (si (si z 31 ps.length v1) 32 ps.length v2) 27 5 = ps.length := fun v1 v2 => by rw [gi_si_ne (by omega), gi_si_ne (by omega)]; exact e0
        have e3 : ∀ v1 v2 v3, gi (si (si (si z 31 ps.length v1) 32 ps.length v2) 33 ps.length v3) 27 5 = ps.length := fun v1 v2 v3 => by rw [gi_si_ne (by omega), gi_si_ne (by omega), gi_si_ne (by omega)]; exact e0
        rw [e0, Int.toNat_natCast]
        refine ok_iff (by omega) (ok_gd z27 (ok_r g6 (ok_gd z27 (ok_gd ⟨z31, by omega, by rw [l31]; omega⟩ (ok_gd z27 (ok_r g7 (ok_gd z27 ?_)))))))
        rw [e1, Int.toNat_natCast]
        refine ok_gd ⟨z32, by omega, by show _ < ((ln z 32 : Nat) : Int); rw [l32]; omega⟩ (ok_gd z27 (ok_r g8 (ok_gd z27 ?_)))
        rw [e2, Int.toNat_natCast]
        refine ok_gd ⟨z33, by omega, by show _ < ((ln z 33 : Nat) : Int); rw [l33]; omega⟩ (ok_gd z27 (ok_gd z27 ?_))
        rw [e3, wrap_id (by omega) (by omega)]
        refine ih2 _ ⟨hK.tr ⟨(((Kp.si (by omega) (by omega)).tr (Kp.si (by omega) (by omega))).tr (Kp.si (by omega) (by omega))).tr (Kp.si (by omega) (by omega)), fun x hx => ?_⟩, ps ++ [(i, j, t i j)], gath_add Sz hP (by omega) i j (t i j), fun s => ?_, ?_⟩
        · rw [gi_si_ne2 hx, gi_si_ne (by omega), gi_si_ne (by omega), gi_si_ne (by omega)]
        · rw [List.mem_append, List.mem_singleton, hm s]
          constructor
          · rintro (⟨q1, q2⟩ | rfl)
            · exact ⟨q1, by omega⟩
            · exact ⟨⟨h1, j1, j2, rfl, hc⟩, Or.inr ⟨rfl, by show j < j + 1; omega⟩⟩
          · intro ⟨q1, q2⟩
            by_cases e : s.1 = i ∧ s.2.1 = j
            · right
              obtain ⟨sa, sb, sc⟩ := s
              have q3 := q1.2.2.2.1
              dsimp only at e q3
              obtain ⟨ea, eb⟩ := e
              subst ea eb q3
              rfl
            · left
              exact ⟨q1, by omega⟩
        · rw [List.length_append]
          show ps.length + 1 + _ + _ ≤ _
          omega
    · intro z ⟨hK, ps, hP, hm, hlen⟩
      refine ok_eq (b55_17 X (d + 1) 27 2 i n z) (ok_gd ((hS.kp hK.1).1 27) (ok_ift (by rw [hK.2 4 (by omega), h4]; omega) ?_))
      rw [wrap_id (z := i + 1) (by omega) (by omega)]
      refine ih z ⟨hK, ps, hP, fun s => ?_, by omega⟩
      rw [hm s]
      constructor
      · intro ⟨q1, q2⟩
        exact ⟨q1, by omega⟩
      · intro ⟨q1, q2⟩
        have := q1.2.2.1
        exact ⟨q1, by omega⟩
    · rw [hm s]
      constructor
      · intro ⟨q1, q2⟩
        exact ⟨q1, by omega⟩
      · intro ⟨q1, q2⟩
        have := q1.2.1
        exact ⟨q1, by omega⟩
    · rw [show (n - i).toNat = (n - (i + 1)).toNat + 1 by omega, tri] at hlen
      omega
  · intro z ⟨hK, ps, hP, hm, hlen⟩
    refine ok_eq (b55_7 X (d + 1) 27 2 n z) (ok_gd ((hS.kp hK.1).1 27) (ok_ift (by rw [hK.2 4 (by omega), h4]; omega) (ok_ret ⟨rfl, hK, ps, hP, fun s => ?_⟩)))
    rw [hm s]
    exact ⟨fun q => q.1, fun q => ⟨q, by have := q.2.1; have := q.2.2.1; omega⟩⟩
end WF
