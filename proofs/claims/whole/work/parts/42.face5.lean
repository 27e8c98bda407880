/-! swapping and reading, in the machine -/
section FG
variable {X : Nat × (Nat → Int)} {d : Nat} {w w1 w2 w3 : MW} {A : AS}
theorem swap_f (h : ClS w A) (f s : Int) : OkI (run X (d + 5) 79 [.inr 1, .inl f, .inl s] w) (FO w (swapF A f s)) := by
  have hcs := h
  obtain ⟨hS, ⟨hb, hok⟩, hsn, ⟨hh, hho⟩, htx⟩ := h
  obtain ⟨k1, g0, g1, g3, g4, g5, g6, g7, g8, k2, k4, k6, k16, k21, k22, k27, k37, l37⟩ := shF hS
  obtain ⟨o1, o2, o3⟩ := hok
  refine ok_eq (b79_0 X (d + 4) 1 f s w) (ok_gd k1 (ok_r g0 (ok_gd k2 (ok_i (has_ok hb f) (ok_if (fun h1 => ok_ret ⟨_, rfl, FO.same hcs (if_pos (fun q => bI_eq.mp h1 q.1))⟩) (fun h1 => ok_gd k1 (ok_r g0 (ok_gd k2 (ok_i (has_ok hb s) (ok_if (fun h2 => ?_) (fun h2 => ok_ret ⟨_, rfl, FO.same hcs (if_pos (fun q => bI_eq.mp (Decidable.not_not.mp h2) q.2))⟩)))))))))))
  have hf := bI_ne.mp h1
  have hs := bI_ne.mp h2
  have e0 : swapF A f s = if f < 2 ∨ s < 2 then (-4, A) else if f = s then (-5, A) else (nmg A.1.2 A.1.1 f s, push A (A.1.1, tswp A.1.2 f s)) := if_neg (fun q => q ⟨hf, hs⟩)
  refine ok_i (inw_ok X _ f w) (ok_if (fun h3 => ok_ret ⟨_, rfl, FO.same hcs (by have := bI_ne.mp h3; rw [e0, if_pos (by omega)])⟩) (fun h3 => ok_i (inw_ok X _ s w) (ok_if (fun h4 => ok_if (fun h5 => ?_) (fun h5 => ok_ret ⟨_, rfl, FO.same hcs ?_⟩)) (fun h4 => ok_ret ⟨_, rfl, FO.same hcs (by have := bI_ne.mp h4; rw [e0, if_pos (by omega)])⟩))))
  rotate_left
  · have q3 := bI_eq.mp (Decidable.not_not.mp h3)
    have q4 := bI_eq.mp h4
    rw [e0, if_neg (by omega), if_pos (Decidable.not_not.mp h5)]
  have p3 := bI_eq.mp (Decidable.not_not.mp h3)
  have p4 := bI_eq.mp h4
  have hf2 : 2 ≤ f ∧ f < A.1.1 := by omega
  have hs2 : 2 ≤ s ∧ s < A.1.1 := by omega
  rw [e0, if_neg (by omega), if_neg h5]
  refine ok_gd k1 (ok_r g3 (ok_gd k1 (ok_r g0 (ok_gd k6 (ok_R (rem_ok (d := d + 3) hS hh hb) (fun b z ⟨q1, q2, q3, q4⟩ => ?_))))))
  have hSz := hS.kh q4
  have hap := hc_ap q1.1
  have hb37 : b + 1 < 37 := by have := q1.1; unfold hcell at this; omega
  refine ok_up (fun i z => R X (d + 5) 79 64 [some (.inr 1), some (.inl f), some (.inl s), some (.inr b), some (.inl i)] [] z) (fun i y => Kp 37 37 z y ∧ ∀ j : Int, 0 ≤ j → j < i → gi y 37 j.toNat = j) 0 12 (by omega) ?_ ?_ z ⟨Kp.rf, fun j j0 j1 => by omega⟩
  · intro i y i0 i1 ⟨hK, hI⟩ ih
    have hSy := hSz.kp hK
    have y1 : kd y 1 = 16 := hSy.1 1
    have y37 : kd y 37 = 1 := hSy.1 37
    have m37 : ln y 37 = 12 := hSy.2.1 37
    refine ok_eq (b79_64 X (d + 4) 1 f s b i y) (ok_iff (by omega) (ok_gd y1 (ok_r (hSy.2.2 1 8 (by decide)) (ok_gd ⟨y37, i0, by rw [m37]; omega⟩ ?_))))
    rw [wrap_id (z := i + 1) (by omega) (by omega)]
    refine ih _ ⟨hK.tr (Kp.si (by omega) (by omega)), fun j j0 j1 => ?_⟩
    by_cases e : j = i
    · rw [e, gi_si_eq]
    · rw [gi_si_ne2 (by omega)]
      exact hI j j0 (by omega)
  · intro y ⟨hK, hI⟩
    have hSy := hSz.kp hK
    have y1 : kd y 1 = 16 := hSy.1 1
    have y37 : kd y 37 = 1 := hSy.1 37
    have m37 : ln y 37 = 12 := hSy.2.1 37
    have hK2 : Kp 37 37 z (si (si y 37 f.toNat s) 37 s.toNat f) := hK.tr ((Kp.si (by omega) (by omega)).tr (Kp.si (by omega) (by omega)))
    have hSs := hSz.kp hK2
    have hNu : Nu (si (si y 37 f.toNat s) 37 s.toNat f) 37 (sg f s) := ⟨y37, m37, fun i i0 i1 => by
      unfold sg
      by_cases e : i = f
      · rw [if_pos e, e, gi_si_ne2 (by omega), gi_si_eq]
      · by_cases e2 : i = s
        · rw [if_neg e, if_pos e2, e2, gi_si_eq]
        · rw [if_neg e, if_neg e2, gi_si_ne2 (by omega), gi_si_ne2 (by omega)]
          exact hI i i0 i1⟩
    refine ok_eq (b79_64 X (d + 4) 1 f s b 12 y) (ok_ift (by omega) (ok_gd y1 (ok_r (hSy.2.2 1 8 (by decide)) (ok_gd ⟨y37, hf.1, by rw [m37]; omega⟩ (ok_gd y1 (ok_r (hSy.2.2 1 8 (by decide)) (ok_gd ⟨y37, hs.1, by show _ < ((ln y 37 : Nat) : Int); rw [m37]; omega⟩ (ok_gd y1 (ok_r (hSy.2.2 1 0 (by decide)) ?_)))))))))
    generalize hss : si (si y 37 f.toNat s) 37 s.toNat f = u0 at hK2 hSs hNu
    have hTb := q1.2.kp hK2 (by omega)
    have hT2 := q3.kp hK2 (by omega)
    refine ok_gd hTb.k (ok_gd (hSs.1 2) ?_)
    rw [hTb.sz]
    refine ok_V (empty_ok (d := d + 1) hT2.ts (k := A.1.1) (by omega) (by omega)) (fun u ⟨u1, u2⟩ => ?_)
    have hSu := hSs.kp u2
    have hTw := twf_swp o3 o2 hf2 hs2
    have hB := bld_new u1 hTw.1 (row0 hTw (by omega))
    refine ok_gd (hSu.1 1) (ok_r (hSu.2.2 1 0 (by decide)) (ok_gd (hSu.1 1) (ok_r (hSu.2.2 1 8 (by decide)) (ok_gd (hSu.1 2) ?_))))
    have e12 : ∀ v, sg f s v = 12 ↔ v = 12 := fun v => by
      unfold sg
      (repeat' split) <;> omega
    refine ok_V (addren_ok (d := d + 2) hTw.1 hB (hTb.kp u2 (by omega)) (by omega) (hNu.kp u2 (by omega)) ⟨by omega, by omega⟩ o3.2.1 (fun a b' hr => ?_) (fun x y' hxy => ?_)) (fun v ⟨v1, v2⟩ => ?_)
    · unfold tswp
      rw [(sg_rng (x := a) hf2 hs2).2, (sg_rng (x := b') hf2 hs2).2]
    · by_cases x0 : x = 0
      · exact Or.inl x0
      · by_cases y0 : y' = 0
        · exact Or.inr (Or.inl y0)
        · refine Or.inr (Or.inr ?_)
          have hne : A.1.2 (sg f s x) (sg f s y') ≠ 12 := fun q => hxy ((e12 _).mpr q)
          have hv := (o3.2.1 (sg f s x) (sg f s y')).resolve_left hne
          have hrg : 0 ≤ sg f s x ∧ sg f s x < A.1.1 ∧ 0 ≤ sg f s y' ∧ sg f s y' < A.1.1 := by
            refine Classical.byContradiction fun hno => hne (o3.2.2.2 _ _ hno)
          have hx := (sg_rng (x := x) hf2 hs2)
          have hy := (sg_rng (x := y') hf2 hs2)
          have hx' := hx.1.mpr ⟨hrg.1, hrg.2.1⟩
          have hy' := hy.1.mpr ⟨hrg.2.2.1, hrg.2.2.2⟩
          have nx : 1 ≤ sg f s x := by
            unfold sg
            (repeat' split) <;> omega
          have ny : 1 ≤ sg f s y' := by
            unfold sg
            (repeat' split) <;> omega
          have hnu := (sg_rng (x := A.1.2 (sg f s x) (sg f s y')) hf2 hs2).1.mp hv
          by_cases hle : sg f s x ≤ sg f s y'
          · exact ⟨sg f s x, sg f s y', ⟨nx, hle, hrg.2.2.2, hne, by omega, ⟨by rw [hx.2]; exact hx', by rw [hy.2]; exact hy', Or.inl hnu⟩⟩, Or.inl ⟨hx.2.symm, hy.2.symm⟩⟩
          · rw [o3.1 (sg f s x) (sg f s y')] at hne hnu
            exact ⟨sg f s y', sg f s x, ⟨ny, by omega, hrg.2.1, hne, by omega, ⟨by rw [hy.2]; exact hy', by rw [hx.2]; exact hx', Or.inl hnu⟩⟩, Or.inr ⟨hx.2.symm, hy.2.symm⟩⟩
    · have hSv := hSu.kp v2
      obtain ⟨r1, r2⟩ := hcs.act q4 q2 hK2 (u2.tr (v2.wide (by omega) (by omega))) (a := (A.1.1, tswp A.1.2 f s)) v1 ⟨o1, o2, hTw⟩
      refine ok_gd (hSv.1 1) (ok_r (hSv.2.2 1 0 (by decide)) (ok_gd (hSv.1 2) (ok_i (nmg_ok (d := d + 2) v1 hTw.2.1 (by omega) ⟨by omega, by omega⟩ ⟨by omega, by omega⟩) (ok_ret ⟨_, rfl, ?_, r1, r2⟩))))
      exact nmg_swp o3 o2 hf2 hs2 h5
/-- what only looks keeps the state -/
theorem ClS.qry (h : ClS w A) (k : Kp 18 37 w w1) : ClS w1 A ∧ Kh 1 37 w w1 := by
  obtain ⟨hS, ⟨hb, hok⟩, hsn, ⟨hh, hho⟩, htx⟩ := h
  refine ⟨⟨hS.kp k, ⟨hb.kp k (by omega), hok⟩, ?_, ⟨hh.kh k (by omega), hho⟩, htx.kh k.kh (by omega)⟩, k.kh.wide (by omega) (by omega)⟩
  rcases hsn with ⟨q1, q2⟩ | ⟨b, q1, q2, q3, q4⟩
  · exact Or.inl ⟨q1, by rw [k.gi (by omega)]; exact q2⟩
  · exact Or.inr ⟨b, q1, by rw [k.gi (by omega)]; exact q2, q3.kp k (by omega), q4⟩
theorem ClS.txt2 (h : ClS w A) (k : Kp 16 20 w w1) (hT : Tx w1 A.2.2.2.1 A.2.2.2.2) : ClS w1 A ∧ Kh 1 37 w w1 := by
  obtain ⟨hS, ⟨hb, hok⟩, hsn, ⟨hh, hho⟩, htx⟩ := h
  refine ⟨⟨hS.kp k, ⟨hb.kp k (by omega), hok⟩, ?_, ⟨hh.kh k (by omega), hho⟩, hT⟩, k.kh.wide (by omega) (by omega)⟩
  rcases hsn with ⟨q1, q2⟩ | ⟨b, q1, q2, q3, q4⟩
  · exact Or.inl ⟨q1, by rw [k.gi (by omega)]; exact q2⟩
  · exact Or.inr ⟨b, q1, by rw [k.gi (by omega)]; exact q2, q3.kp k (by omega), q4⟩
def rngT (s : T3) : Prop := (0 ≤ s.1 ∧ s.1 ≤ 11) ∧ (0 ≤ s.2.1 ∧ s.2.1 ≤ 11) ∧ (s.2.2 = 12 ∨ (0 ≤ s.2.2 ∧ s.2.2 ≤ 11))
theorem rowP_rng {L : Int} {c : Int → Int} : ∀ (k : Nat) (p : Int) (acc : List T3), p ≤ L → (∀ s, s ∈ acc → rngT s) → (∀ s, s ∈ (rowP L c k p acc).2.1 → rngT s) ∧ (rowP L c k p acc).2.2 ≤ L
  | 0, p, acc, hp, h => ⟨h, hp⟩
  | k + 1, p, acc, hp, h => by
    have hr := sumP_rng (c := c) hp
    rw [rowP]
    cases e : (sumP L c p).1 with
    | none =>
      rw [show sumP L c p = (none, (sumP L c p).2) from by rw [← e]]
      exact ⟨h, hr.2.1⟩
    | some s =>
      have hs := hr.2.2 s e
      have hacc : ∀ z, z ∈ acc ++ [s] → rngT z := fun z hz => by
        rcases List.mem_append.mp hz with q | q
        · exact h z q
        · rw [List.mem_singleton.mp q]; exact hs.2
      rw [show sumP L c p = (some s, (sumP L c p).2) from by rw [← e]]
      dsimp only
      split
      · exact ⟨hacc, hr.2.1⟩
      · split
        · next hsk => exact rowP_rng k _ _ (by have := hsk.1; omega) hacc
        · exact ⟨hacc, hr.2.1⟩
theorem reads_ok (h : ClS w A) : OkI (run X (d + 4) 76 [.inr 1] w) (FO w (readF A)) := by
  have hcs := h
  obtain ⟨hS, ⟨hb, hok⟩, hsn, ⟨hh, hho⟩, htx⟩ := h
  obtain ⟨k1, g0, g1, g3, g4, g5, g6, g7, g8, k2, k4, k6, k16, k21, k22, k27, k37, l37⟩ := shF hS
  obtain ⟨o1, o2, o3⟩ := hok
  refine ok_eq (b76_0 X (d + 3) 1 w) (ok_gd k1 (ok_r g4 (ok_gd k16 (ok_I (read_ok (d := d) hS htx) (fun x z ⟨z1, z2, z3⟩ => ?_)))))
  obtain ⟨hcz, hkz⟩ := hcs.txt2 z2 z1
  have hSz := hS.kp z2
  have hrng := rowP_rng (L := A.2.2.2.1) (c := A.2.2.2.2) 15 0 [] htx.2.1.1 (fun s hs => by simp at hs)
  rcases z3 with ⟨acc, q, e, rfl, hTS⟩ | ⟨acc, e, hx⟩
  · have hacc : ∀ s, s ∈ acc → rngT s := by
      have := hrng.1
      rw [show rowP A.2.2.2.1 A.2.2.2.2 15 0 [] = (true, acc, q) from e] at this
      exact this
    have e0 : readF A = if dB (anyT (bigS A.1.1) acc acc.length) = true then (-1, A) else if dB (anyT zerS acc acc.length) = true then (-4, A) else (pws (putF A.1.2 acc) A.1.1, push A (A.1.1, putF A.1.2 acc)) := by
      unfold readF
      rw [e]
    have hbz := hcz.2.1.1
    refine ok_ift rfl (ok_gd (hSz.1 1) (ok_r (hSz.2.2 1 4 (by decide)) (ok_gd (hSz.1 16) (ok_I (grt_ok hSz hTS) (fun g z' ⟨ez, hg⟩ => ?_)))))
    rw [ez]
    refine ok_gd (hSz.1 1) (ok_r (hSz.2.2 1 0 (by decide)) (ok_gd (hSz.1 2) ?_))
    rw [hbz.sz]
    have hbig : g < A.1.1 ↔ ¬ anyT (bigS A.1.1) acc acc.length := by
      have := hg A.1.1
      constructor
      · intro h1 h2
        have := this.mpr (Or.inr h2)
        omega
      · intro h1
        refine Classical.byContradiction fun h2 => ?_
        rcases this.mp (by omega) with h3 | h3
        · omega
        · exact h1 h3
    refine ok_if (fun h1 => ok_gd (hSz.1 1) (ok_r (hSz.2.2 1 4 (by decide)) (ok_gd (hSz.1 16) (ok_I (adz_ok hSz hTS) (fun y z'' ⟨ez2, hy⟩ => ?_))))) (fun h1 => ok_ret ⟨_, rfl, by rw [e0, if_pos (dB_iff.mpr (Classical.byContradiction fun q => h1 (hbig.mpr q)))]; exact ⟨rfl, hcz, hkz⟩⟩)
    rw [ez2]
    have hnb := hbig.mp h1
    have hmem : ∀ s, s ∈ acc → ¬ bigS A.1.1 s := fun s hs hb2 => by
      obtain ⟨i, hi⟩ := List.getElem?_of_mem hs
      have := (List.getElem?_eq_some_iff.mp hi).1
      exact hnb ⟨i, s, by omega, hi, hb2⟩
    refine ok_if (fun h2 => ?_) (fun h2 => ok_ret ⟨_, rfl, by rw [e0, if_neg (fun q => hnb (dB_iff.mp q)), if_pos (dB_iff.mpr (hy.mp h2))]; exact ⟨rfl, hcz, hkz⟩⟩)
    have hnz : ¬ anyT zerS acc acc.length := fun q => hy.mpr q h2
    have hmz : ∀ s, s ∈ acc → ¬ zerS s := fun s hs hb2 => by
      obtain ⟨i, hi⟩ := List.getElem?_of_mem hs
      have := (List.getElem?_eq_some_iff.mp hi).1
      exact hnz ⟨i, s, by omega, hi, hb2⟩
    have hok3 : ∀ s, s ∈ acc → (1 ≤ s.1 ∧ s.1 < A.1.1) ∧ (1 ≤ s.2.1 ∧ s.2.1 < A.1.1) ∧ ((0 ≤ s.2.2 ∧ s.2.2 < A.1.1) ∨ s.2.2 = 12) := fun s hs => by
      have a := hmem s hs
      have b := hmz s hs
      have c := hacc s hs
      unfold bigS at a
      unfold zerS at b
      unfold rngT at c
      omega
    rw [e0, if_neg (fun q => hnb (dB_iff.mp q)), if_neg (fun q => hnz (dB_iff.mp q))]
    refine ok_gd (hSz.1 1) (ok_r (hSz.2.2 1 3 (by decide)) (ok_gd (hSz.1 1) (ok_r (hSz.2.2 1 0 (by decide)) (ok_gd (hSz.1 6) (ok_R (rem_ok (d := d + 2) hSz hcz.2.2.2.1.1 hbz) (fun b v ⟨q1, q2, q3, q4⟩ => ?_))))))
    have hSv := hSz.kh q4
    have hTSv : TSl v acc := ⟨by rw [q4.gi (by omega)]; exact hTS.1, hTS.2.1, fun i s hi => by rw [q4.gi (by omega), q4.gi (by omega), q4.gi (by omega)]; exact hTS.2.2 i s hi⟩
    refine ok_gd (hSv.1 1) (ok_r (hSv.2.2 1 4 (by decide)) (ok_gd (hSv.1 1) (ok_r (hSv.2.2 1 0 (by decide)) (ok_gd (hSv.1 16) (ok_V (puts_ok (d := d + 1) hSv hTSv q3 (fun i s hi => ?_)) (fun u ⟨u1, u2⟩ => ?_))))))
    · have := hok3 s (List.mem_of_getElem? hi)
      exact ⟨by omega, by omega, this.2.2⟩
    · have hSu := hSv.kp u2
      have hTw := twf_putF acc A.1.2 o3 hok3
      obtain ⟨r1, r2⟩ := hcz.act q4 q2 Kp.rf (u2.wide (by omega) (by omega)) (a := (A.1.1, putF A.1.2 acc)) u1 ⟨o1, o2, hTw⟩
      exact ok_gd (hSu.1 1) (ok_r (hSu.2.2 1 0 (by decide)) (ok_gd (hSu.1 2) (ok_i (pws_ok (d := d) u1 (by omega)) (ok_ret ⟨_, rfl, rfl, r1, hkz.tr r2⟩))))
  · have hx2 : x ≤ A.2.2.2.1 := by
      have := hrng.2
      rw [show rowP A.2.2.2.1 A.2.2.2.2 15 0 [] = (false, acc, x) from e] at this
      exact this
    have := htx.2.1
    refine ok_iff (by omega) (ok_ret ⟨_, rfl, ?_⟩)
    rw [wrap_id (by omega) (by omega)]
    unfold readF
    rw [e]
    exact ⟨rfl, hcz, hkz⟩
end FG
