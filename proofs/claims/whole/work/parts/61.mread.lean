/-! the reference's readSums -/
section MU
variable {X : Nat × (Nat → Int)} {d : Nat} {w w' w2 : MW} {n : Int} {t : Int → Int → Int} {A : AS} {acc : List T3}
theorem MoS.kt (h : MoS w A) (k : KT w w') : MoS w' A := by
  obtain ⟨hT, hH, hN, hX⟩ := h
  refine ⟨⟨by rw [k.2.2 0 (by omega) (by omega) (by omega)]; exact hT.1, fun j j0 j1 => by rw [k.2.1 39 (by omega) (by omega)]; exact hT.2 j j0 j1⟩, ⟨by rw [k.2.2 4 (by omega) (by omega) (by omega)]; exact hH.1, hH.2.1, fun i a hi => ⟨by rw [k.2.1 41 (by omega) (by omega)]; exact (hH.2.2 i a hi).1, fun j j0 j1 => by rw [k.2.1 41 (by omega) (by omega)]; exact (hH.2.2 i a hi).2 j j0 j1⟩⟩, ?_, hX.kt k⟩
  rcases hN with ⟨q1, q2⟩ | ⟨a, q1, q2, q3⟩
  · exact Or.inl ⟨q1, by rw [k.2.2 6 (by omega) (by omega) (by omega)]; exact q2⟩
  · exact Or.inr ⟨a, q1, by rw [k.2.2 6 (by omega) (by omega) (by omega)]; exact q2, by rw [k.2.1 42 (by omega) (by omega)]; exact q3.1, fun j j0 j1 => by rw [k.2.1 42 (by omega) (by omega)]; exact q3.2 j j0 j1⟩
theorem sums_m (hS : Sh w) (h : TbM w n t) (hw : twf t n) (h1n : 1 ≤ n) (hn : n ≤ 12) : run X (d + 1) 137 [.inr 38] w = some (some (.inl (pws t n)), w) := by
  generalize hg : (fun a b => bI (t a b ≠ 12)) = g
  have gb : ∀ a b, 0 ≤ g a b ∧ g a b ≤ 1 := fun a b => by rw [← hg]; exact bI_rng
  have ep : pws t n = sg2 g n n := by rw [← hg]; rfl
  apply ok_one
  rw [ep]
  refine ok_eq (b137_0 X d 38 w) ?_
  refine ok_up (fun i s => R X (d + 1) 137 4 [some (.inr 38), some (.inl (sg2 g n i)), some (.inl i), none] [] s) (fun i s => s = w) 1 n h1n ?_ ?_ w rfl
  · intro i s i0 i1 hs ih
    rw [hs]
    refine ok_eq (b137_4 X d 38 _ i w) (ok_gd (hS.1 38) (ok_iff (by rw [h.1]; omega) ?_))
    have e0 : sg2 g n i = ctd g n i i := by
      unfold ctd
      rw [show (i - i).toNat = 0 by omega]
      show _ = sg2 g n i + 0
      omega
    rw [e0]
    refine ok_up (fun j s => R X (d + 1) 137 14 [some (.inr 38), some (.inl (ctd g n i j)), some (.inl i), some (.inl j)] [] s) (fun j s => s = w) i n (by omega) ?_ ?_ w rfl
    · intro j s2 j0 j1 hs2 ih2
      rw [hs2]
      have bd := ctd_bd gb hn (i := i) (j := j) (by omega) (by omega) i0
      have st := ctd_s (n := n) (g := g) (i := i) (j := j)
      rw [if_pos j0] at st
      have gv : g i j = bI (t i j ≠ 12) := by rw [← hg]
      refine ok_eq (b137_14 X d 38 _ i j w) (ok_gd (hS.1 38) (ok_iff (by rw [h.1]; omega) (ok_gd (hS.1 38) (ok_i (plus_ok hS h hw hn (by omega) (by omega)) ?_))))
      rw [wrap_id (z := ctd g n i j + 0) (by omega) (by omega), wrap_id (z := ctd g n i j + 1) (by omega) (by omega), wrap_id (z := j + 1) (by omega) (by omega)]
      have val := hw.2.1 i j
      have go := ih2 w rfl
      rw [st, gv] at go
      refine ok_if (fun q => ?_) (fun q => ?_)
      · rw [show bI (t i j ≠ 12) = 1 from if_pos (fun r => q (by rw [r]; rfl))] at go
        exact go
      · have h12 : t i j = 12 := by
          have := Decidable.not_not.mp q
          unfold mc at this
          split at this <;> omega
        rw [show bI (t i j ≠ 12) = 0 from if_neg (fun r => r h12)] at go
        exact go
    · intro s2 hs2
      rw [hs2]
      refine ok_eq (b137_14 X d 38 _ i n w) (ok_gd (hS.1 38) (ok_ift (by rw [h.1]; omega) ?_))
      rw [wrap_id (z := i + 1) (by omega) (by omega), ctd_n i0]
      exact ih w rfl
  · intro s hs
    rw [hs]
    exact ok_eq (b137_4 X d 38 _ n w) (ok_gd (hS.1 38) (ok_ift (by rw [h.1]; omega) (ok_ret ⟨rfl, rfl⟩)))
theorem recS2 (hS : Sh w) (h : MoS w A) : OkV (run X (d + 1) 108 [.inr 38] w) (fun w' => (TbM w' A.1.1 A.1.2 ∧ HM w' (pushH A.2.2.1 A.1) ∧ MSn w' A.2.1 ∧ MTx w' A.2.2.2.1 A.2.2.2.2) ∧ Kp 38 41 w w' ∧ ∀ j, j ≠ 4 → gi w' 38 j = gi w 38 j) := by
  obtain ⟨hT, hH, hN, hX⟩ := h
  refine ok_imp (rec_m (X := X) (d := d) hS hT hH) (fun v w2 ⟨q0, q1, q2, q3, q4, q5⟩ => ⟨q0, ⟨q2, q1, hN.kp q3 (by omega) (q4 6 (by omega)), hX.kp q3 (by omega) (q4 8 (by omega))⟩, q3, q4⟩)
theorem rowq0 {L : Int} {c : Int → Int} : ∀ (k : Nat) (p : Int) (acc : List T3), 0 ≤ p → p ≤ L → 0 ≤ (rowP L c k p acc).2.2
  | 0, p, acc, h0, hL => h0
  | k + 1, p, acc, h0, hL => by
    have sr := sumP_rng (L := L) (c := c) (p := p) hL
    rw [rowP]
    rcases hsp : sumP L c p with ⟨_ | s, q⟩
    · rw [hsp] at sr
      dsimp only at sr ⊢
      omega
    · rw [hsp] at sr
      dsimp only at sr ⊢
      by_cases g : q = L
      · rw [if_pos g]
        dsimp only
        omega
      · rw [if_neg g]
        by_cases g2 : sk L c 44 q
        · rw [if_pos g2]
          exact rowq0 k (q + 1) _ (by omega) (by omega)
        · rw [if_neg g2]
          dsimp only
          omega
theorem read_m (hS : Sh w) (h : MoS w A) (ho : okB A.1) : OkI (run X (d + 4) 136 [.inr 38] w) (MO w (readF A)) := by
  obtain ⟨o1, o2, o3⟩ := ho
  have rr := rowP_rng (L := A.2.2.2.1) (c := A.2.2.2.2) 15 0 [] (by have := h.2.2.2.2.1; omega) (fun s hs => by cases hs)
  refine ok_eq (b136_0 X (d + 3) 38 w) (ok_gd (hS.1 38) (ok_I (row_m (d := d) hS h.2.2.2) (fun v1 z ⟨kz, p9, x1, ht⟩ => ?_)))
  have Sz := hS.kp kz.1
  have hz := h.kt kz
  have kz48 : Kp 38 48 w z := kz.1.wide (by omega) (by omega)
  rcases hrow : rowR A.2.2.2.1 A.2.2.2.2 with ⟨b, acc, q⟩
  have rr2 : (∀ s, s ∈ acc → rngT s) ∧ q ≤ A.2.2.2.1 := by
    have : rowP A.2.2.2.1 A.2.2.2.2 15 0 [] = (b, acc, q) := hrow
    rw [this] at rr
    exact rr
  rw [hrow] at p9 x1 ht
  dsimp only at p9 x1 ht
  have t2 := h.2.2.2.2.1
  cases b with
  | false =>
    have e0 : readF A = (-100 - q, A) := by
      unfold readF
      rw [hrow]
    rw [x1]
    refine ok_iff (fun r => r rfl) (ok_gd (Sz.1 38) (ok_ret ⟨_, rfl, ?_⟩))
    rw [e0, p9]
    refine ⟨?_, hz, kz48⟩
    have := rowq0 (L := A.2.2.2.1) (c := A.2.2.2.2) 15 0 [] (by omega) (by omega)
    rw [show rowP A.2.2.2.1 A.2.2.2.2 15 0 [] = (false, acc, q) from hrow] at this
    dsimp only at this ⊢
    rw [wrap_id (by omega) (by omega)]
  | true =>
    have hTs := ht rfl
    have e0 : readF A = if dB (anyT (bigS A.1.1) acc acc.length) = true then (-1, A) else if dB (anyT zerS acc acc.length) = true then (-4, A) else (pws (putF A.1.2 acc) A.1.1, push A (A.1.1, putF A.1.2 acc)) := by
      unfold readF
      rw [hrow]
    rw [x1]
    refine ok_ift (fun r => absurd r (by unfold bI; rw [if_pos rfl]; omega)) ?_
    have l44 : ln z 44 = 66 := Sz.2.1 44
    refine ok_up (fun i (l : Int) => R X (d + 4) 136 19 [some (.inr 38), some (.inl l), some (.inl i)] [] z) (fun i l => (l = 0 ∨ l = 1) ∧ (l ≠ 0 ↔ anyT zerS acc i) ∧ ¬ anyT (bigS A.1.1) acc i) 0 acc.length (by omega) ?_ ?_ 0 ⟨Or.inl rfl, ⟨fun r => absurd rfl r, fun r => absurd r anyT_0⟩, anyT_0⟩
    · intro i l i0 i1 ⟨hl, hz0, hb⟩ ih
      obtain ⟨s, hs⟩ : ∃ s, acc[i.toNat]? = some s := ⟨acc[i.toNat]'(by omega), List.getElem?_eq_getElem _⟩
      have hr := rr2.1 s (List.mem_of_getElem? hs)
      obtain ⟨r1, r2, r3⟩ := id hr
      have hlen := hTs.2.1
      obtain ⟨m0, m1, m2⟩ := hTs.2.2 i.toNat s hs
      have any1 := anyT_s (P := zerS) i0 hs
      have any2 := anyT_s (P := bigS A.1.1) i0 hs
      have all2 : ∀ {j}, anyT (bigS A.1.1) acc j → j ≤ acc.length → anyT (bigS A.1.1) acc acc.length := fun ⟨k, s', g1, g2, g3⟩ hj => ⟨k, s', by omega, g2, g3⟩
      have big : bigS A.1.1 s → Ok (some (some (.inl (-1)), z)) (fun v w' => ∃ x, v = some (.inl x) ∧ MO w (readF A) x w') := fun g => ok_ret ⟨_, rfl, by
        rw [e0, if_pos (dB_iff.mpr (all2 (any2.mpr (Or.inr g)) (by omega)))]
        exact ⟨rfl, hz, kz48⟩⟩
      refine ok_eq (b136_19 X (d + 3) 38 l i z) (ok_gd (Sz.1 38) (ok_iff (by rw [hTs.1]; omega) (ok_gd (Sz.1 38) (ok_r (Sz.2.2 38 10 (by decide)) ?_))))
      rw [wrap_id (z := 3 * i) (by omega) (by omega), wrap_id (z := 3 * i + 1) (by omega) (by omega), wrap_id (z := 3 * i + 2) (by omega) (by omega), wrap_id (z := i + 1) (by omega) (by omega), show (3 * i).toNat = 3 * i.toNat by omega, show (3 * i + 1).toNat = 3 * i.toNat + 1 by omega, show (3 * i + 2).toNat = 3 * i.toNat + 2 by omega, m0, hz.1.1]
      have c44 : ∀ q : Int, 0 ≤ q → q < 66 → kd z 44 = 1 ∧ 0 ≤ q ∧ q < ln z 44 := fun q g1 g2 => ⟨Sz.1 44, g1, by rw [l44]; omega⟩
      refine ok_gd (c44 _ (by omega) (by omega)) (ok_gd (Sz.1 38) (ok_if (fun g => big (Or.inl g)) (fun g1 => ok_gd (Sz.1 38) (ok_r (Sz.2.2 38 10 (by decide)) (ok_gd (c44 _ (by omega) (by omega)) (ok_gd (Sz.1 38) (ok_if (fun g => big (Or.inr (Or.inl (by rw [m1] at g; exact g)))) (fun g2 => ok_gd (Sz.1 38) (ok_r (Sz.2.2 38 10 (by decide)) (ok_gd (c44 _ (by omega) (by omega)) (ok_gd (Sz.1 38) (ok_if (fun g3 => ?_) (fun g3 => big (Or.inr (Or.inr ?_)))))))))))))))
      rotate_left
      · rw [m2] at g3
        unfold mc at g3
        split at g3 <;> omega
      rw [m1] at g2
      rw [m2] at g3
      have nb : ¬ bigS A.1.1 s := fun r => by
        rcases r with r | r | ⟨r, r'⟩
        · exact g1 r
        · exact g2 r
        · rw [mc_ne r] at g3; omega
      have nb2 : ¬ anyT (bigS A.1.1) acc (i + 1) := fun r => (any2.mp r).elim hb nb
      have yes : (anyT zerS acc i ∨ zerS s) → Ok (R X (d + 4) 136 19 [some (.inr 38), some (.inl 1), some (.inl (i + 1))] [] z) (fun v w' => ∃ x, v = some (.inl x) ∧ MO w (readF A) x w') := fun r => ih 1 ⟨Or.inr rfl, ⟨fun _ => any1.mpr r, fun _ => by omega⟩, nb2⟩
      refine ok_if (fun g4 => yes (Or.inl (hz0.mp g4))) (fun g4 => ok_gd (Sz.1 38) (ok_r (Sz.2.2 38 10 (by decide)) (ok_gd (c44 _ (by omega) (by omega)) (ok_if (fun g5 => yes (Or.inr (Or.inl (by rw [m0] at g5; exact g5)))) (fun g5 => ok_gd (Sz.1 38) (ok_r (Sz.2.2 38 10 (by decide)) (ok_gd (c44 _ (by omega) (by omega)) (ok_if (fun g6 => ih 0 ⟨Or.inl rfl, ⟨fun r => absurd rfl r, fun r => ?_⟩, nb2⟩) (fun g6 => yes (Or.inr (Or.inr (by have g := Decidable.not_not.mp g6; rw [m1] at g; exact g))))))))))))
      rcases any1.mp r with r | r | r
      · exact absurd (hz0.mpr r) g4
      · rw [m0] at g5
        exact absurd r g5
      · rw [m1] at g6
        exact absurd r g6
    · intro l ⟨hl, hz0, hb⟩
      rw [if_neg (fun r => hb (dB_iff.mp r))] at e0
      refine ok_eq (b136_19 X (d + 3) 38 l acc.length z) (ok_gd (Sz.1 38) (ok_ift (by rw [hTs.1]; omega) (ok_if (fun g => ok_gd (Sz.1 38) (ok_V (recS2 (d := d + 2) Sz hz) (fun y ⟨hy, ky, fy⟩ => ?_))) (fun g => ok_ret ⟨_, rfl, by rw [e0, if_pos (dB_iff.mpr (hz0.mp g))]; exact ⟨rfl, hz, kz48⟩⟩))))
      have nz : ¬ anyT zerS acc acc.length := fun r => (hz0.mpr r) g
      rw [if_neg (fun r => nz (dB_iff.mp r))] at e0
      have Sy := Sz.kp ky
      have l44y : ln y 44 = 66 := Sy.2.1 44
      have hv : ∀ (i : Nat) (s : T3), acc[i]? = some s → (1 ≤ s.1 ∧ s.1 < A.1.1) ∧ (1 ≤ s.2.1 ∧ s.2.1 < A.1.1) ∧ ((0 ≤ s.2.2 ∧ s.2.2 < A.1.1) ∨ s.2.2 = 12) := fun i s hi => by
        have hlt : i < acc.length := (List.getElem?_eq_some_iff.mp hi).1
        obtain ⟨r1, r2, r3⟩ := rr2.1 s (List.mem_of_getElem? hi)
        have b1 : ¬ bigS A.1.1 s := fun r => hb ⟨i, s, by omega, hi, r⟩
        have b2 : ¬ zerS s := fun r => nz ⟨i, s, by omega, hi, r⟩
        unfold bigS at b1
        unfold zerS at b2
        omega
      have hlen := hTs.2.1
      refine ok_up (fun i u => R X (d + 4) 136 131 [some (.inr 38), none, some (.inl i)] [] u) (fun i u => TbM u A.1.1 (putF A.1.2 (acc.take i.toNat)) ∧ Kp 39 39 y u) 0 acc.length (by omega) ?_ ?_ y ⟨by simpa [putF] using hy.1, Kp.rf⟩
      · intro i u i0 i1 ⟨hT, hK⟩ ih
        have Su := Sy.kp hK
        obtain ⟨s, hs⟩ : ∃ s, acc[i.toNat]? = some s := ⟨acc[i.toNat]'(by omega), List.getElem?_eq_getElem _⟩
        obtain ⟨m0, m1, m2⟩ := hTs.2.2 i.toNat s hs
        obtain ⟨v0, v1, v2⟩ := hv i.toNat s hs
        have g44 : ∀ k, gi u 44 k = gi z 44 k := fun k => by rw [hK.gi (by omega), ky.gi (by omega)]
        have l44u : ln u 44 = 66 := Su.2.1 44
        have c44 : ∀ q : Int, 0 ≤ q → q < 66 → kd u 44 = 1 ∧ 0 ≤ q ∧ q < ln u 44 := fun q g1 g2 => ⟨Su.1 44, g1, by rw [l44u]; omega⟩
        refine ok_eq (b136_131 X (d + 3) 38 i u) (ok_gd (Su.1 38) (ok_iff (by rw [hK.gi (by omega), fy 11 (by omega), hTs.1]; omega) (ok_gd (Su.1 38) (ok_r (Su.2.2 38 10 (by decide)) ?_))))
        rw [wrap_id (z := 3 * i) (by omega) (by omega), wrap_id (z := 3 * i + 1) (by omega) (by omega), wrap_id (z := 3 * i + 2) (by omega) (by omega), wrap_id (z := i + 1) (by omega) (by omega), show (3 * i).toNat = 3 * i.toNat by omega, show (3 * i + 1).toNat = 3 * i.toNat + 1 by omega, show (3 * i + 2).toNat = 3 * i.toNat + 2 by omega]
        refine ok_gd (c44 _ (by omega) (by omega)) (ok_gd (Su.1 38) (ok_r (Su.2.2 38 10 (by decide)) (ok_gd (c44 _ (by omega) (by omega)) (ok_gd (Su.1 38) (ok_r (Su.2.2 38 10 (by decide)) (ok_gd (c44 _ (by omega) (by omega)) (ok_gd (Su.1 38) ?_)))))))
        rw [g44, g44, g44, m0, m1, m2]
        obtain ⟨q1, q2⟩ := tell_T hT o2 (a := s.1) (b := s.2.1) (c := s.2.2) v0 v1 rfl
        refine ok_V (Q := fun r => r = si (si u 39 (12 * s.1 + s.2.1).toNat (mc s.2.2)) 39 (12 * s.2.1 + s.1).toNat (mc s.2.2)) ⟨_, _, tell_ok Su (by omega) (by omega) _, rfl, rfl⟩ (fun r hr => ?_)
        rw [hr]
        refine ih _ ⟨?_, hK.tr q2⟩
        rw [putF_s hs i0]
        exact q1
      · intro u ⟨hT, hK⟩
        have Su := Sy.kp hK
        rw [show acc.take ((acc.length : Int)).toNat = acc by rw [Int.toNat_natCast, List.take_length]] at hT
        have hw := twf_putF acc A.1.2 o3 (fun s hs => by
          obtain ⟨i, hi⟩ := List.getElem?_of_mem hs
          exact hv i s hi)
        obtain ⟨r1, r2⟩ := MoS.act (a := (A.1.1, putF A.1.2 acc)) hy ky (hK.wide (by omega) (by omega)) (fun j hj => hK.gi (by omega) j) hT
        refine ok_eq (b136_131 X (d + 3) 38 acc.length u) (ok_gd (Su.1 38) (ok_ift (by rw [hK.gi (by omega), fy 11 (by omega), hTs.1]; omega) (ok_gd (Su.1 38) (ok_i (sums_m (d := d + 2) Su hT hw (by omega) o2) (ok_ret ⟨_, rfl, ?_⟩)))))
        rw [e0]
        exact ⟨rfl, r1, kz48.tr r2⟩
end MU
