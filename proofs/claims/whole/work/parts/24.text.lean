/-! the text of the class, read -/
abbrev T3 : Type := Int × Int × Int
section TXD
variable (L : Int) (c : Int → Int)
def dg (p : Int) : Int := if p < L ∧ 48 ≤ c p ∧ c p ≤ 57 then c p - 48 else -1
def nv (p : Int) : Int := if dg L c p = 1 ∧ (dg L c (p + 1) = 0 ∨ dg L c (p + 1) = 1) then 10 + dg L c (p + 1) else dg L c p
def ne (p : Int) : Int := if dg L c p = -1 then p else if dg L c p = 1 ∧ (dg L c (p + 1) = 0 ∨ dg L c (p + 1) = 1) then p + 2 else p + 1
abbrev sk (h p : Int) : Prop := p < L ∧ c p = h
def sumP (p : Int) : Option T3 × Int :=
  if nv L c p = -1 then (none, ne L c p) else if ¬ sk L c 43 (ne L c p) then (none, ne L c p) else
  if nv L c (ne L c p + 1) = -1 then (none, ne L c (ne L c p + 1)) else
  if sk L c 61 (ne L c (ne L c p + 1)) then (if nv L c (ne L c (ne L c p + 1) + 1) = -1 then (none, ne L c (ne L c (ne L c p + 1) + 1)) else (some (nv L c p, nv L c (ne L c p + 1), nv L c (ne L c (ne L c p + 1) + 1)), ne L c (ne L c (ne L c p + 1) + 1)))
  else (some (nv L c p, nv L c (ne L c p + 1), 12), ne L c (ne L c p + 1))
def rowP : Nat → Int → List T3 → Bool × List T3 × Int
  | 0, p, acc => (false, acc, p)
  | k + 1, p, acc => match sumP L c p with
    | (none, q) => (false, acc, q)
    | (some s, q) => if q = L then (true, acc ++ [s], q) else if sk L c 44 q then rowP k (q + 1) (acc ++ [s]) else (false, acc ++ [s], q)
def rowR : Bool × List T3 × Int := rowP L c 15 0 []
end TXD
section TXP
variable {L : Int} {c : Int → Int}
theorem dg_rng {p : Int} : dg L c p = -1 ∨ (0 ≤ dg L c p ∧ dg L c p ≤ 9 ∧ p < L) := by
  unfold dg
  split <;> omega
theorem nv_rng {p : Int} : nv L c p = -1 ∨ (0 ≤ nv L c p ∧ nv L c p ≤ 11) := by
  unfold nv
  have := dg_rng (L := L) (c := c) (p := p)
  split <;> omega
theorem nv_none {p : Int} : nv L c p = -1 ↔ dg L c p = -1 := by
  unfold nv
  split <;> omega
theorem ne_rng {p : Int} (hp : p ≤ L) : p ≤ ne L c p ∧ ne L c p ≤ L ∧ (dg L c p ≠ -1 → p < ne L c p) := by
  unfold ne
  have h1 := dg_rng (L := L) (c := c) (p := p)
  have h2 := dg_rng (L := L) (c := c) (p := p + 1)
  (repeat' split) <;> omega
theorem sumP_rng {p : Int} (hp : p ≤ L) : p ≤ (sumP L c p).2 ∧ (sumP L c p).2 ≤ L ∧ ∀ s, (sumP L c p).1 = some s → p + 3 ≤ (sumP L c p).2 ∧ (0 ≤ s.1 ∧ s.1 ≤ 11) ∧ (0 ≤ s.2.1 ∧ s.2.1 ≤ 11) ∧ (s.2.2 = 12 ∨ (0 ≤ s.2.2 ∧ s.2.2 ≤ 11)) := by
  have h1 := ne_rng (L := L) (c := c) (p := p) hp
  have v1 := nv_rng (L := L) (c := c) (p := p)
  have n1 := nv_none (L := L) (c := c) (p := p)
  unfold sumP
  by_cases q1 : nv L c p = -1
  · rw [if_pos q1]; exact ⟨h1.1, h1.2.1, fun s q => by cases q⟩
  · rw [if_neg q1]
    by_cases q2 : sk L c 43 (ne L c p)
    · rw [if_neg (fun q => q q2)]
      have h2 := ne_rng (L := L) (c := c) (p := ne L c p + 1) (by have := q2.1; omega)
      have v2 := nv_rng (L := L) (c := c) (p := ne L c p + 1)
      have n2 := nv_none (L := L) (c := c) (p := ne L c p + 1)
      by_cases q3 : nv L c (ne L c p + 1) = -1
      · rw [if_pos q3]; exact ⟨by dsimp only; omega, by dsimp only; omega, fun s q => by cases q⟩
      · rw [if_neg q3]
        by_cases q4 : sk L c 61 (ne L c (ne L c p + 1))
        · rw [if_pos q4]
          have h3 := ne_rng (L := L) (c := c) (p := ne L c (ne L c p + 1) + 1) (by have := q4.1; omega)
          have v3 := nv_rng (L := L) (c := c) (p := ne L c (ne L c p + 1) + 1)
          by_cases q5 : nv L c (ne L c (ne L c p + 1) + 1) = -1
          · rw [if_pos q5]; exact ⟨by dsimp only; omega, by dsimp only; omega, fun s q => by cases q⟩
          · rw [if_neg q5]
            refine ⟨by dsimp only; omega, by dsimp only; omega, fun s q => ?_⟩
            cases q
            refine ⟨?_, ?_, ?_, ?_⟩ <;> dsimp only <;> omega
        · rw [if_neg q4]
          refine ⟨by dsimp only; omega, by dsimp only; omega, fun s q => ?_⟩
          cases q
          refine ⟨?_, ?_, ?_, ?_⟩ <;> dsimp only <;> omega
    · rw [if_pos q2]; exact ⟨h1.1, h1.2.1, fun s q => by cases q⟩
end TXP
def Tx (w : MW) (L : Int) (c : Int → Int) : Prop := gi w 16 0 = L ∧ (0 ≤ L ∧ L ≤ 60) ∧ ∀ j : Int, 0 ≤ j → j < L → gi w 17 j.toNat = c j
def Kq (w w' : MW) : Prop := Kp 16 16 w w' ∧ ∀ j, j ≠ 2 → gi w' 16 j = gi w 16 j
def TSl (w : MW) (acc : List T3) : Prop := gi w 16 3 = acc.length ∧ acc.length ≤ 15 ∧ ∀ (i : Nat) (s : T3), acc[i]? = some s → gi w 18 i = s.1 ∧ gi w 19 i = s.2.1 ∧ gi w 20 i = s.2.2
section TX
variable {X : Nat × (Nat → Int)} {d : Nat} {w w' w2 : MW} {L p : Int} {c : Int → Int} {acc : List T3}
theorem Kq.rf : Kq w w := ⟨Kp.rf, fun _ _ => rfl⟩
theorem Kq.tr (h : Kq w w') (h2 : Kq w' w2) : Kq w w2 := ⟨h.1.tr h2.1, fun j hj => (h2.2 j hj).trans (h.2 j hj)⟩
theorem Kq.si {v : Int} : Kq w (si w 16 2 v) := ⟨Kp.si (by omega) (by omega), fun j hj => gi_si_ne2 hj⟩
theorem Tx.kq (h : Tx w L c) (k : Kq w w') : Tx w' L c := ⟨by rw [k.2 0 (by omega)]; exact h.1, h.2.1, fun j h1 h2 => by rw [k.1.gi (by omega)]; exact h.2.2 j h1 h2⟩
theorem TSl.kq (h : TSl w acc) (k : Kq w w') : TSl w' acc := ⟨by rw [k.2 3 (by omega)]; exact h.1, h.2.1, fun i s hi => by rw [k.1.gi (by omega), k.1.gi (by omega), k.1.gi (by omega)]; exact h.2.2 i s hi⟩
theorem dig_ok (hS : Sh w) (h : Tx w L c) (hp : gi w 16 2 = p) (h0 : 0 ≤ p) : run X d 48 [.inr 16] w = some (some (.inl (dg L c p)), w) := by
  have k16 : kd w 16 = 14 := hS.1 16
  have k17 : kd w 17 = 2 := hS.1 17
  have l17 : ln w 17 = 60 := hS.2.1 17
  have g1 : gr w 16 1 = some 17 := hS.2.2 16 1 (by decide)
  obtain ⟨e0, eL, ec⟩ := h
  apply ok_one
  refine ok_eq (b48_0 X d 16 w) (ok_gd k16 (ok_gd k16 ?_))
  rw [hp, e0]
  refine ok_if (fun h1 => ok_gd k16 (ok_r g1 (ok_gd k16 (ok_gd ⟨k17, h0, by rw [l17]; omega⟩ ?_)))) (fun h1 => ok_ret ⟨?_, rfl⟩)
  · rw [ec p h0 h1]
    refine ok_if (fun h2 => ok_ret ⟨?_, rfl⟩) (fun h2 => ok_if (fun h3 => ok_ret ⟨?_, rfl⟩) (fun h3 => ok_ret ⟨?_, rfl⟩))
    · rw [show dg L c p = -1 from if_neg (by omega)]
    · rw [show dg L c p = -1 from if_neg (by omega)]
    · rw [show dg L c p = c p - 48 from if_pos (by omega), wrap_id (by omega) (by omega)]
  · rw [show dg L c p = -1 from if_neg (by omega)]
theorem num_ok (hS : Sh w) (h : Tx w L c) (hp : gi w 16 2 = p) (h0 : 0 ≤ p) (hL : p ≤ L) : OkI (run X (d + 1) 47 [.inr 16] w) (fun x w' => x = nv L c p ∧ gi w' 16 2 = ne L c p ∧ Kq w w') := by
  have k16 : kd w 16 = 14 := hS.1 16
  have hL60 := h.2.1.2
  have v1 := dg_rng (L := L) (c := c) (p := p)
  have v2 := dg_rng (L := L) (c := c) (p := p + 1)
  refine ok_eq (b47_0 X d 16 w) (ok_gd k16 (ok_i (dig_ok hS h hp h0) (ok_if (fun h1 => ok_gd k16 (ok_gd k16 (ok_gd k16 ?_))) (fun h1 => ok_ret ⟨_, rfl, ?_, ?_, Kq.rf⟩))))
  · rw [hp, wrap_id (z := p + 1) (by omega) (by omega)]
    have hq : gi (si w 16 2 (p + 1)) 16 2 = p + 1 := gi_si_eq
    refine ok_i (dig_ok (p := p + 1) (hS.kp Kq.si.1) (h.kq Kq.si) hq (by omega)) (ok_if (fun h2 => ok_ret ⟨_, rfl, ?_, ?_, Kq.si⟩) (fun h2 => ?_))
    · exact (if_neg (fun q => h2 q.1)).symm
    · rw [gi_si_eq]
      unfold ne
      rw [if_neg h1, if_neg (fun q => h2 q.1)]
    · have h2' := Decidable.not_not.mp h2
      have two : ∀ v : Int, dg L c (p + 1) = v → (v = 0 ∨ v = 1) → Ok (R X (d + 1) 47 43 [some (.inr 16), none, some (.inl (dg L c (p + 1)))] [] (si w 16 2 (p + 1))) (fun v' w' => ∃ x, v' = some (.inl x) ∧ x = nv L c p ∧ gi w' 16 2 = ne L c p ∧ Kq w w') := by
        intro v hv hv2
        refine ok_eq (b47_43 X d 16 _ (si w 16 2 (p + 1))) (ok_gd k16 (ok_gd k16 (ok_ret ⟨_, rfl, ?_, ?_, Kq.si.tr Kq.si⟩)))
        · unfold nv
          rw [if_pos ⟨h2', by omega⟩, wrap_id (by omega) (by omega)]
        · rw [gi_si_eq, hq, wrap_id (by omega) (by omega)]
          unfold ne
          rw [if_neg h1, if_pos ⟨h2', by omega⟩]
          omega
      refine ok_if (fun h3 => two 0 h3 (Or.inl rfl)) (fun h3 => ok_if (fun h4 => two 1 h4 (Or.inr rfl)) (fun h4 => ok_ret ⟨_, rfl, ?_, ?_, Kq.si⟩))
      · exact (if_neg (fun q => by omega)).symm
      · rw [gi_si_eq]
        unfold ne
        rw [if_neg h1, if_neg (by omega)]
  · have h1' := Decidable.not_not.mp h1
    exact (nv_none.mpr h1').symm
  · have h1' := Decidable.not_not.mp h1
    rw [hp]
    exact (if_pos h1').symm
theorem skp_ok (hS : Sh w) (h : Tx w L c) (hp : gi w 16 2 = p) (h0 : 0 ≤ p) (ch : Int) : OkI (run X d 49 [.inr 16, .inl ch] w) (fun x w' => x = bI (sk L c ch p) ∧ gi w' 16 2 = p + bI (sk L c ch p) ∧ Kq w w') := by
  have k16 : kd w 16 = 14 := hS.1 16
  have k17 : kd w 17 = 2 := hS.1 17
  have l17 : ln w 17 = 60 := hS.2.1 17
  have g1 : gr w 16 1 = some 17 := hS.2.2 16 1 (by decide)
  obtain ⟨e0, eL, ec⟩ := h
  refine ok_eq (b49_0 X d 16 ch w) (ok_gd k16 (ok_gd k16 ?_))
  rw [hp, e0]
  refine ok_if (fun h1 => ok_ret ⟨_, rfl, ?_, ?_, Kq.rf⟩) (fun h1 => ok_gd k16 (ok_r g1 (ok_gd k16 (ok_gd ⟨k17, h0, by rw [l17]; omega⟩ ?_))))
  · exact (bI_eq.mpr (fun q => by have := q.1; omega)).symm
  · rw [show bI (sk L c ch p) = 0 from bI_eq.mpr (fun q => by have := q.1; omega), hp, Int.add_zero]
  · rw [ec p h0 (by omega)]
    refine ok_if (fun h2 => ok_gd k16 (ok_gd k16 (ok_ret ⟨_, rfl, ?_, ?_, Kq.si⟩))) (fun h2 => ok_ret ⟨_, rfl, ?_, ?_, Kq.rf⟩)
    · exact (if_pos ⟨by omega, h2⟩).symm
    · rw [gi_si_eq, wrap_id (by omega) (by omega), show bI (sk L c ch p) = 1 from if_pos ⟨by omega, h2⟩]
    · exact (bI_eq.mpr (fun q => h2 q.2)).symm
    · rw [show bI (sk L c ch p) = 0 from bI_eq.mpr (fun q => h2 q.2), hp, Int.add_zero]
theorem get_app {α : Type} {l : List α} {s r : α} {i : Nat} (h : (l ++ [s])[i]? = some r) : l[i]? = some r ∨ (i = l.length ∧ r = s) := by
  rw [List.getElem?_append] at h
  split at h
  · exact Or.inl h
  · next hl =>
    by_cases e : i - l.length = 0
    · rw [e] at h
      simp at h
      exact Or.inr ⟨by omega, h.symm⟩
    · rw [show i - l.length = (i - l.length - 1) + 1 by omega] at h
      simp at h
theorem rsum_fin (hS : Sh w) (h : Tx w L c) (hT : TSl w acc) (hl : acc.length < 15) {z : MW} {a b e q : Int} (hK : Kq w z) (hq : gi z 16 2 = q) (hE : sumP L c p = (some (a, b, e), q)) (he : e ≠ -1) : Ok (R X (d + 2) 46 50 [some (.inr 16), some (.inl a), some (.inl b), some (.inl e)] [] z) (fun v w' => ∃ x, v = some (.inl x) ∧ gi w' 16 2 = (sumP L c p).2 ∧ Tx w' L c ∧ Kp 16 20 w w' ∧ ((x = 0 ∧ (sumP L c p).1 = none) ∨ ∃ s, x = 1 ∧ (sumP L c p).1 = some s ∧ TSl w' (acc ++ [s]))) := by
  have hSz := hS.kp hK.1
  have z16 : kd z 16 = 14 := hSz.1 16
  have z18 : kd z 18 = 1 := hSz.1 18
  have z19 : kd z 19 = 1 := hSz.1 19
  have z20 : kd z 20 = 1 := hSz.1 20
  have l18 : ln z 18 = 15 := hSz.2.1 18
  have l19 : ln z 19 = 15 := hSz.2.1 19
  have l20 : ln z 20 = 15 := hSz.2.1 20
  have g4 : gr z 16 4 = some 18 := hSz.2.2 16 4 (by decide)
  have g5 : gr z 16 5 = some 19 := hSz.2.2 16 5 (by decide)
  have g6 : gr z 16 6 = some 20 := hSz.2.2 16 6 (by decide)
  obtain ⟨t1, t2, t3⟩ := hT.kq hK
  have e3 : ∀ v1 v2 v3, gi (si (si (si z 18 acc.length v1) 19 acc.length v2) 20 acc.length v3) 16 3 = acc.length := fun v1 v2 v3 => by rw [gi_si_ne (by omega), gi_si_ne (by omega), gi_si_ne (by omega)]; exact t1
  have e2 : ∀ v1 v2, gi (si (si z 18 acc.length v1) 19 acc.length v2) 16 3 = acc.length := fun v1 v2 => by rw [gi_si_ne (by omega), gi_si_ne (by omega)]; exact t1
  have e1 : ∀ v1, gi (si z 18 acc.length v1) 16 3 = acc.length := fun v1 => by rw [gi_si_ne (by omega)]; exact t1
  refine ok_eq (b46_50 X (d + 1) 16 a b e z) (ok_iff he (ok_gd z16 ?_))
  rw [t1, Int.toNat_natCast]
  refine ok_ift (by omega) (ok_gd z16 (ok_r g4 (ok_gd z16 (ok_gd ⟨z18, by omega, by rw [l18]; omega⟩ (ok_gd z16 (ok_r g5 (ok_gd z16 ?_)))))))
  rw [e1, Int.toNat_natCast]
  refine ok_gd ⟨z19, by omega, by show _ < ((ln z 19 : Nat) : Int); rw [l19]; omega⟩ (ok_gd z16 (ok_r g6 (ok_gd z16 ?_)))
  rw [e2, Int.toNat_natCast]
  refine ok_gd ⟨z20, by omega, by show _ < ((ln z 20 : Nat) : Int); rw [l20]; omega⟩ (ok_gd z16 (ok_gd z16 ?_))
  rw [e3]
  refine ok_ret ⟨_, rfl, ?_, ?_, ?_, Or.inr ⟨(a, b, e), rfl, by rw [hE], ?_, ?_, fun i s hi => ?_⟩⟩
  · rw [gi_si_ne2 (by omega), gi_si_ne (by omega), gi_si_ne (by omega), gi_si_ne (by omega), hE]; exact hq
  · have hx := h.kq hK
    exact ⟨by rw [gi_si_ne2 (by omega), gi_si_ne (by omega), gi_si_ne (by omega), gi_si_ne (by omega)]; exact hx.1, hx.2.1, fun j j0 j1 => by rw [gi_si_ne (by omega), gi_si_ne (by omega), gi_si_ne (by omega), gi_si_ne (by omega)]; exact hx.2.2 j j0 j1⟩
  · exact ((((hK.1.wide (by omega) (by omega)).tr (Kp.si (by omega) (by omega))).tr (Kp.si (by omega) (by omega))).tr (Kp.si (by omega) (by omega))).tr (Kp.si (by omega) (by omega))
  · rw [gi_si_eq, wrap_id (by omega) (by omega), List.length_append]
    simp
  · rw [List.length_append]
    simp
    omega
  · rw [gi_si_ne (by omega), gi_si_ne (by omega), gi_si_ne (by omega)]
    have n18 : gi (si (si (si (si z 18 acc.length a) 19 acc.length b) 20 acc.length e) 16 3 (wrap (acc.length + 1))) 19 i = gi (si z 19 acc.length b) 19 i := by
      rw [gi_si_ne (by omega), gi_si_ne (by omega)]
      by_cases hi3 : i = acc.length
      · rw [hi3, gi_si_eq, gi_si_eq]
      · rw [gi_si_ne2 hi3, gi_si_ne2 hi3, gi_si_ne2 hi3]
    have n20 : gi (si (si (si (si z 18 acc.length a) 19 acc.length b) 20 acc.length e) 16 3 (wrap (acc.length + 1))) 20 i = gi (si z 20 acc.length e) 20 i := by
      rw [gi_si_ne (by omega)]
      by_cases hi3 : i = acc.length
      · rw [hi3, gi_si_eq, gi_si_eq]
      · rw [gi_si_ne2 hi3, gi_si_ne2 hi3, gi_si_ne2 hi3, gi_si_ne2 hi3]
    rw [n18, n20]
    rcases get_app hi with hi2 | ⟨hi2, rfl⟩
    · have hlt : i < acc.length := (List.getElem?_eq_some_iff.mp hi2).1
      rw [gi_si_ne2 (by omega), gi_si_ne2 (by omega), gi_si_ne2 (by omega)]
      exact t3 i s hi2
    · rw [hi2, gi_si_eq, gi_si_eq, gi_si_eq]
      exact ⟨rfl, rfl, rfl⟩
theorem rsum_ok (hS : Sh w) (h : Tx w L c) (hp : gi w 16 2 = p) (h0 : 0 ≤ p) (hL : p ≤ L) (hT : TSl w acc) (hl : acc.length < 15) : OkI (run X (d + 2) 46 [.inr 16] w) (fun x w' => gi w' 16 2 = (sumP L c p).2 ∧ Tx w' L c ∧ Kp 16 20 w w' ∧ ((x = 0 ∧ (sumP L c p).1 = none) ∨ ∃ s, x = 1 ∧ (sumP L c p).1 = some s ∧ TSl w' (acc ++ [s]))) := by
  have k16 : kd w 16 = 14 := hS.1 16
  have r1 := ne_rng (L := L) (c := c) (p := p) hL
  refine ok_eq (b46_0 X (d + 1) 16 w) (ok_gd k16 (ok_I (num_ok (d := d) hS h hp h0 hL) (fun x1 w1 ⟨hx1, hp1, K1⟩ => ?_)))
  have S1 := hS.kp K1.1
  have v1 := nv_rng (L := L) (c := c) (p := p)
  refine ok_if (fun q1 => ok_ret ⟨_, rfl, ?_, h.kq K1, K1.1.wide (by omega) (by omega), Or.inl ⟨rfl, ?_⟩⟩) (fun q1 => ok_gd (S1.1 16) (ok_I (skp_ok S1 (h.kq K1) hp1 (by omega) 43) (fun x2 w2 ⟨hx2, hp2, K2⟩ => ?_)))
  · rw [hp1]; unfold sumP; rw [if_pos (by omega)]
  · unfold sumP; rw [if_pos (by omega)]
  have K12 := K1.tr K2
  have S2 := hS.kp K12.1
  refine ok_if (fun q2 => ?_) (fun q2 => ok_ret ⟨_, rfl, ?_, h.kq K12, K12.1.wide (by omega) (by omega), Or.inl ⟨rfl, ?_⟩⟩)
  rotate_left
  · have q2' : ¬ sk L c 43 (ne L c p) := bI_eq.mp (by rw [← hx2]; omega)
    rw [hp2, bI_eq.mpr q2', Int.add_zero]; unfold sumP; rw [if_neg (by omega), if_pos q2']
  · have q2' : ¬ sk L c 43 (ne L c p) := bI_eq.mp (by rw [← hx2]; omega)
    unfold sumP; rw [if_neg (by omega), if_pos q2']
  have q2' : sk L c 43 (ne L c p) := bI_ne.mp (by rw [← hx2]; exact q2)
  rw [show bI (sk L c 43 (ne L c p)) = 1 from if_pos q2'] at hp2
  have hq2 := q2'.1
  have r2 := ne_rng (L := L) (c := c) (p := ne L c p + 1) (by omega)
  have v2 := nv_rng (L := L) (c := c) (p := ne L c p + 1)
  refine ok_gd (S2.1 16) (ok_I (num_ok (d := d) S2 (h.kq K12) hp2 (by omega) (by omega)) (fun x3 w3 ⟨hx3, hp3, K3⟩ => ?_))
  have K13 := K12.tr K3
  have S3 := hS.kp K13.1
  refine ok_if (fun q3 => ?_) (fun q3 => ok_ret ⟨_, rfl, ?_, h.kq K13, K13.1.wide (by omega) (by omega), Or.inl ⟨rfl, ?_⟩⟩)
  rotate_left
  · rw [hp3]; unfold sumP; rw [if_neg (by omega), if_neg (fun q => q q2'), if_pos (by omega)]
  · unfold sumP; rw [if_neg (by omega), if_neg (fun q => q q2'), if_pos (by omega)]
  refine ok_gd (S3.1 16) (ok_I (skp_ok S3 (h.kq K13) hp3 (by omega) 61) (fun x4 w4 ⟨hx4, hp4, K4⟩ => ?_))
  have K14 := K13.tr K4
  have S4 := hS.kp K14.1
  refine ok_if (fun q4 => ?_) (fun q4 => ?_)
  · have q4' : ¬ sk L c 61 (ne L c (ne L c p + 1)) := bI_eq.mp (by rw [← hx4]; exact q4)
    refine rsum_fin (d := d) hS h hT hl K14 (by rw [hp4, bI_eq.mpr q4', Int.add_zero]) ?_ (by omega)
    unfold sumP
    rw [if_neg (by omega), if_neg (fun q => q q2'), if_neg (by omega), if_neg q4', hx1, hx3]
  · have q4' : sk L c 61 (ne L c (ne L c p + 1)) := bI_ne.mp (by rw [← hx4]; exact q4)
    rw [show bI (sk L c 61 (ne L c (ne L c p + 1))) = 1 from if_pos q4'] at hp4
    have hq4 := q4'.1
    have r3 := ne_rng (L := L) (c := c) (p := ne L c (ne L c p + 1) + 1) (by omega)
    refine ok_gd (S4.1 16) (ok_I (num_ok (d := d) S4 (h.kq K14) hp4 (by omega) (by omega)) (fun x5 w5 ⟨hx5, hp5, K5⟩ => ?_))
    have K15 := K14.tr K5
    by_cases q5 : x5 = -1
    · refine ok_eq (b46_50 X (d + 1) 16 x1 x3 x5 w5) (ok_ift q5 (ok_ret ⟨_, rfl, ?_, h.kq K15, K15.1.wide (by omega) (by omega), Or.inl ⟨rfl, ?_⟩⟩))
      · rw [hp5]; unfold sumP; rw [if_neg (by omega), if_neg (fun q => q q2'), if_neg (by omega), if_pos q4', if_pos (by omega)]
      · unfold sumP; rw [if_neg (by omega), if_neg (fun q => q q2'), if_neg (by omega), if_pos q4', if_pos (by omega)]
    · refine rsum_fin (d := d) hS h hT hl K15 hp5 ?_ q5
      unfold sumP
      rw [if_neg (by omega), if_neg (fun q => q q2'), if_neg (by omega), if_pos q4', if_neg (by omega), hx1, hx3, hx5]
theorem read_ok (hS : Sh w) (h : Tx w L c) : OkI (run X (d + 3) 45 [.inr 16] w) (fun x w' => Tx w' L c ∧ Kp 16 20 w w' ∧ ((∃ acc q, rowR L c = (true, acc, q) ∧ x = -1 ∧ TSl w' acc) ∨ ∃ acc, rowR L c = (false, acc, x) ∧ 0 ≤ x)) := by
  have k16 : kd w 16 = 14 := hS.1 16
  refine ok_eq (b45_0 X (d + 2) 16 w) (ok_gd k16 (ok_gd k16 ?_))
  have h0 : Tx (si (si w 16 2 0) 16 3 0) L c := ⟨by rw [gi_si_ne2 (by omega), gi_si_ne2 (by omega)]; exact h.1, h.2.1, fun j h1 h2 => by rw [gi_si_ne (by omega), gi_si_ne (by omega)]; exact h.2.2 j h1 h2⟩
  have hK0 : Kp 16 20 w (si (si w 16 2 0) 16 3 0) := (Kp.si (by omega) (by omega)).tr (Kp.si (by omega) (by omega))
  refine ok_up (fun i z => R X (d + 3) 45 12 [some (.inr 16), some (.inl i)] [] z) (fun i z => Tx z L c ∧ Kp 16 20 w z ∧ ∃ acc p, gi z 16 2 = p ∧ 0 ≤ p ∧ p ≤ L ∧ TSl z acc ∧ (acc.length : Int) = i ∧ rowR L c = rowP L c (15 - i).toNat p acc) 0 15 (by omega) ?_ ?_ _ ⟨h0, hK0, [], 0, by rw [gi_si_ne2 (by omega), gi_si_eq], by omega, h.2.1.1, ⟨by rw [gi_si_eq]; rfl, by simp, fun i s hi => by simp at hi⟩, rfl, rfl⟩
  · intro i z g1 g2 ⟨hT, hK, acc, p, hp, hp0, hpL, hTS, hai, hR⟩ ih
    have S1 := hS.kp hK
    have hr := sumP_rng (c := c) hpL
    rw [show (15 - i).toNat = (15 - (i + 1)).toNat + 1 by omega, rowP] at hR
    refine ok_eq (b45_12 X (d + 2) 16 i z) (ok_iff (by omega) (ok_gd (S1.1 16) (ok_I (rsum_ok (d := d) S1 hT hp hp0 hpL hTS (by omega)) (fun x w1 ⟨e1, e2, e3, e4⟩ => ?_))))
    have K1 := hK.tr e3
    have S2 := hS.kp K1
    rcases e4 with ⟨rfl, e5⟩ | ⟨s, rfl, e5, e6⟩
    · refine ok_iff (fun q => q rfl) (ok_gd (S2.1 16) (ok_ret ⟨_, rfl, e2, K1, Or.inr ⟨acc, ?_, by omega⟩⟩))
      rw [hR, show sumP L c p = (none, (sumP L c p).2) from by rw [← e5], e1]
    · have hs := hr.2.2 s e5
      rw [show sumP L c p = (some s, (sumP L c p).2) from by rw [← e5]] at hR
      dsimp only at hR
      refine ok_ift (by omega) (ok_gd (S2.1 16) (ok_gd (S2.1 16) ?_))
      rw [e1, e2.1]
      refine ok_if (fun q1 => ?_) (fun q1 => ok_ret ⟨_, rfl, e2, K1, Or.inl ⟨acc ++ [s], L, ?_, rfl, e6⟩⟩)
      rotate_left
      · have q1' := Decidable.not_not.mp q1
        rw [hR, if_pos q1', q1']
      rw [if_neg q1] at hR
      refine ok_gd (S2.1 16) (ok_I (skp_ok S2 e2 e1 (by omega) 44) (fun x2 w2 ⟨f1, f2, f3⟩ => ?_))
      have K2 := K1.tr (f3.1.wide (by omega) (by omega))
      rw [wrap_id (z := i + 1) (by omega) (by omega)]
      refine ok_if (fun q2 => ?_) (fun q2 => ok_gd ((hS.kp K2).1 16) (ok_ret ⟨_, rfl, e2.kq f3, K2, Or.inr ⟨acc ++ [s], ?_, ?_⟩⟩))
      · have q2' : sk L c 44 (sumP L c p).2 := bI_ne.mp (by rw [← f1]; exact q2)
        rw [show bI (sk L c 44 (sumP L c p).2) = 1 from if_pos q2'] at f2
        rw [if_pos q2'] at hR
        have := q2'.1
        refine ih w2 ⟨e2.kq f3, K2, acc ++ [s], (sumP L c p).2 + 1, f2, by omega, by omega, e6.kq f3, ?_, hR⟩
        rw [List.length_append]
        simp
        omega
      · have q2' : ¬ sk L c 44 (sumP L c p).2 := bI_eq.mp (by rw [← f1]; omega)
        rw [hR, if_neg q2', f2, bI_eq.mpr q2', Int.add_zero]
      · have q2' : ¬ sk L c 44 (sumP L c p).2 := bI_eq.mp (by rw [← f1]; omega)
        rw [f2, bI_eq.mpr q2']
        omega
  · intro z ⟨hT, hK, acc, p, hp, hp0, hpL, hTS, hai, hR⟩
    refine ok_eq (b45_12 X (d + 2) 16 15 z) (ok_ift (by omega) (ok_gd ((hS.kp hK).1 16) (ok_ret ⟨_, rfl, hT, hK, Or.inr ⟨acc, ?_, by omega⟩⟩)))
    rw [hR, hp]
    rfl
/-- what holds of one of the sums that were read, before one of them -/
def anyT (P : T3 → Prop) (acc : List T3) (i : Int) : Prop := ∃ (k : Nat) (s : T3), (k : Int) < i ∧ acc[k]? = some s ∧ P s
theorem anyT_s {P : T3 → Prop} {i : Int} {s : T3} (h0 : 0 ≤ i) (hs : acc[i.toNat]? = some s) : anyT P acc (i + 1) ↔ anyT P acc i ∨ P s := by
  constructor
  · rintro ⟨k, r, h1, h2, h3⟩
    by_cases e : k = i.toNat
    · rw [e, hs] at h2
      cases h2
      exact Or.inr h3
    · exact Or.inl ⟨k, r, by omega, h2, h3⟩
  · rintro (⟨k, r, h1, h2, h3⟩ | h)
    · exact ⟨k, r, by omega, h2, h3⟩
    · exact ⟨i.toNat, s, by omega, hs, h⟩
theorem anyT_0 {P : T3 → Prop} : ¬ anyT P acc 0 := fun ⟨k, s, h1, _⟩ => by omega
def bigS (m : Int) (s : T3) : Prop := m ≤ s.1 ∨ m ≤ s.2.1 ∨ (s.2.2 ≠ 12 ∧ m ≤ s.2.2)
def zerS (s : T3) : Prop := s.1 = 0 ∨ s.2.1 = 0
theorem max_le {x y m : Int} : m ≤ maxI x y ↔ m ≤ x ∨ m ≤ y := by
  unfold maxI
  split <;> omega
theorem grt_ok (hS : Sh w) (hT : TSl w acc) : OkI (run X d 50 [.inr 16] w) (fun x w' => w' = w ∧ ∀ m, m ≤ x ↔ m ≤ 0 ∨ anyT (bigS m) acc acc.length) := by
  have k16 : kd w 16 = 14 := hS.1 16
  have z18 : kd w 18 = 1 := hS.1 18
  have z19 : kd w 19 = 1 := hS.1 19
  have z20 : kd w 20 = 1 := hS.1 20
  have l18 : ln w 18 = 15 := hS.2.1 18
  have l19 : ln w 19 = 15 := hS.2.1 19
  have l20 : ln w 20 = 15 := hS.2.1 20
  have g4 : gr w 16 4 = some 18 := hS.2.2 16 4 (by decide)
  have g5 : gr w 16 5 = some 19 := hS.2.2 16 5 (by decide)
  have g6 : gr w 16 6 = some 20 := hS.2.2 16 6 (by decide)
  obtain ⟨t1, t2, t3⟩ := hT
  refine ok_eq (b50_0 X d 16 w) ?_
  refine ok_up (fun i (z : Int × MW) => R X d 50 4 [some (.inr 16), some (.inl z.1), some (.inl i)] [] z.2) (fun i z => z.2 = w ∧ ∀ m, m ≤ z.1 ↔ m ≤ 0 ∨ anyT (bigS m) acc i) 0 acc.length (by omega) ?_ ?_ (0, w) ⟨rfl, fun m => ⟨fun q => Or.inl q, fun q => q.elim id (fun q => absurd q anyT_0)⟩⟩
  · intro i z h1 h2 ⟨e, hm⟩ ih
    obtain ⟨x, s⟩ := z
    dsimp only at e hm ⊢
    subst e
    obtain ⟨r, hr⟩ : ∃ r, acc[i.toNat]? = some r := ⟨acc[i.toNat]'(by omega), List.getElem?_eq_getElem (by omega)⟩
    obtain ⟨a1, a2, a3⟩ := t3 _ _ hr
    refine ok_eq (b50_4 X d 16 x i s) (ok_gd k16 (ok_iff (by rw [t1]; omega) (ok_gd k16 (ok_r g4 (ok_gd ⟨z18, h1, by rw [l18]; omega⟩ (ok_gd k16 (ok_r g5 (ok_gd ⟨z19, h1, by rw [l19]; omega⟩ (ok_gd k16 (ok_r g6 (ok_gd ⟨z20, h1, by rw [l20]; omega⟩ ?_)))))))))))
    rw [a1, a2, a3, wrap_id (z := i + 1) (by omega) (by omega)]
    refine ok_if (fun hc => ih (maxI x (maxI r.1 r.2.1), s) ⟨rfl, fun m => ?_⟩) (fun hc => ok_gd k16 (ok_r g6 (ok_gd ⟨z20, h1, by rw [l20]; omega⟩ ?_)))
    · dsimp only
      rw [max_le, max_le, hm m, anyT_s h1 hr, or_assoc]
      unfold bigS
      exact or_congr Iff.rfl (or_congr Iff.rfl ⟨fun q => q.elim Or.inl (fun q => Or.inr (Or.inl q)), fun q => q.elim Or.inl (fun q => q.elim Or.inr (fun q => absurd hc q.1))⟩)
    · rw [a3]
      refine ih (maxI (maxI x (maxI r.1 r.2.1)) r.2.2, s) ⟨rfl, fun m => ?_⟩
      dsimp only
      rw [max_le, max_le, max_le, hm m, anyT_s h1 hr, or_assoc, or_assoc]
      unfold bigS
      exact or_congr Iff.rfl (or_congr Iff.rfl ⟨fun q => q.elim (fun q => q.elim Or.inl (fun q => Or.inr (Or.inl q))) (fun q => Or.inr (Or.inr ⟨hc, q⟩)), fun q => q.elim (fun q => Or.inl (Or.inl q)) (fun q => q.elim (fun q => Or.inl (Or.inr q)) (fun q => Or.inr q.2))⟩)
  · intro z ⟨e, hm⟩
    obtain ⟨x, s⟩ := z
    dsimp only at e hm ⊢
    subst e
    exact ok_eq (b50_4 X d 16 x _ s) (ok_gd k16 (ok_ift (by rw [t1]; omega) (ok_ret ⟨_, rfl, rfl, hm⟩)))
theorem adz_ok (hS : Sh w) (hT : TSl w acc) : OkI (run X d 51 [.inr 16] w) (fun x w' => w' = w ∧ (x ≠ 0 ↔ anyT zerS acc acc.length)) := by
  have k16 : kd w 16 = 14 := hS.1 16
  have z18 : kd w 18 = 1 := hS.1 18
  have z19 : kd w 19 = 1 := hS.1 19
  have l18 : ln w 18 = 15 := hS.2.1 18
  have l19 : ln w 19 = 15 := hS.2.1 19
  have g4 : gr w 16 4 = some 18 := hS.2.2 16 4 (by decide)
  have g5 : gr w 16 5 = some 19 := hS.2.2 16 5 (by decide)
  obtain ⟨t1, t2, t3⟩ := hT
  refine ok_eq (b51_0 X d 16 w) ?_
  refine ok_up (fun i z => R X d 51 2 [some (.inr 16), some (.inl i)] [] z) (fun i z => z = w ∧ ¬ anyT zerS acc i) 0 acc.length (by omega) ?_ ?_ w ⟨rfl, anyT_0⟩
  · intro i s h1 h2 ⟨e, hm⟩ ih
    subst e
    obtain ⟨r, hr⟩ : ∃ r, acc[i.toNat]? = some r := ⟨acc[i.toNat]'(by omega), List.getElem?_eq_getElem (by omega)⟩
    obtain ⟨a1, a2, a3⟩ := t3 _ _ hr
    refine ok_eq (b51_2 X d 16 i s) (ok_gd k16 (ok_iff (by rw [t1]; omega) (ok_gd k16 (ok_r g4 (ok_gd ⟨z18, h1, by rw [l18]; omega⟩ ?_)))))
    rw [a1, wrap_id (z := i + 1) (by omega) (by omega)]
    refine ok_if (fun hc => ok_ret ⟨_, rfl, rfl, fun _ => ⟨i.toNat, r, by omega, hr, Or.inl hc⟩, fun _ => by decide⟩) (fun hc => ok_gd k16 (ok_r g5 (ok_gd ⟨z19, h1, by rw [l19]; omega⟩ ?_)))
    rw [a2]
    refine ok_if (fun hc2 => ih s ⟨rfl, fun q => ?_⟩) (fun hc2 => ok_ret ⟨_, rfl, rfl, fun _ => ⟨i.toNat, r, by omega, hr, Or.inr (Decidable.not_not.mp hc2)⟩, fun _ => by decide⟩)
    rcases (anyT_s h1 hr).mp q with q | q | q
    · exact hm q
    · exact hc q
    · exact hc2 q
  · intro s ⟨e, hm⟩
    subst e
    exact ok_eq (b51_2 X d 16 _ s) (ok_gd k16 (ok_ift (by rw [t1]; omega) (ok_ret ⟨_, rfl, rfl, fun q => absurd rfl q, fun q => absurd q hm⟩)))
def putF (t : Int → Int → Int) (acc : List T3) : Int → Int → Int := acc.foldl (fun t s => tput t s.1 s.2.1 s.2.2) t
theorem putF_s {t : Int → Int → Int} {i : Int} {s : T3} (hs : acc[i.toNat]? = some s) (h0 : 0 ≤ i) : putF t (acc.take (i + 1).toNat) = tput (putF t (acc.take i.toNat)) s.1 s.2.1 s.2.2 := by
  rw [show (i + 1).toNat = i.toNat + 1 by omega, List.take_succ, hs]
  unfold putF
  rw [List.foldl_append]
  rfl
theorem puts_ok (hS : Sh w) (hT : TSl w acc) {n : Int} {t : Int → Int → Int} (hb : Tb w 2 n t) (hv : ∀ (i : Nat) (s : T3), acc[i]? = some s → putv n s.1 s.2.1 s.2.2) : OkV (run X (d + 2) 52 [.inr 16, .inr 2] w) (fun w' => Tb w' 2 n (putF t acc) ∧ Kp 3 3 w w') := by
  have t1 := hT.1
  have t2 := hT.2.1
  have t3 := hT.2.2
  refine ok_eq (b52_0 X (d + 1) 16 2 w) ?_
  refine ok_up (fun i z => R X (d + 2) 52 2 [some (.inr 16), some (.inr 2), some (.inl i)] [] z) (fun i z => Kp 3 3 w z ∧ Tb z 2 n (putF t (acc.take i.toNat))) 0 acc.length (by omega) ?_ ?_ w ⟨Kp.rf, hb⟩
  · intro i z h1 h2 ⟨hK, hTb⟩ ih
    have hSz := hS.kp hK
    have k16 : kd z 16 = 14 := hSz.1 16
    have z18 : kd z 18 = 1 := hSz.1 18
    have z19 : kd z 19 = 1 := hSz.1 19
    have z20 : kd z 20 = 1 := hSz.1 20
    have l18 : ln z 18 = 15 := hSz.2.1 18
    have l19 : ln z 19 = 15 := hSz.2.1 19
    have l20 : ln z 20 = 15 := hSz.2.1 20
    have g4 : gr z 16 4 = some 18 := hSz.2.2 16 4 (by decide)
    have g5 : gr z 16 5 = some 19 := hSz.2.2 16 5 (by decide)
    have g6 : gr z 16 6 = some 20 := hSz.2.2 16 6 (by decide)
    obtain ⟨r, hr⟩ : ∃ r, acc[i.toNat]? = some r := ⟨acc[i.toNat]'(by omega), List.getElem?_eq_getElem (by omega)⟩
    obtain ⟨a1, a2, a3⟩ := t3 _ _ hr
    refine ok_eq (b52_2 X (d + 1) 16 2 i z) (ok_gd k16 (ok_iff (by rw [hK.gi (by omega), t1]; omega) (ok_gd k16 (ok_r g4 (ok_gd ⟨z18, h1, by rw [l18]; omega⟩ (ok_gd k16 (ok_r g5 (ok_gd ⟨z19, h1, by rw [l19]; omega⟩ (ok_gd k16 (ok_r g6 (ok_gd ⟨z20, h1, by rw [l20]; omega⟩ (ok_gd hTb.k ?_))))))))))))
    rw [hK.gi (by omega), hK.gi (by omega), hK.gi (by omega), a1, a2, a3, wrap_id (z := i + 1) (by omega) (by omega)]
    refine ok_V (put_ok (d := d) hTb (hv _ _ hr)) (fun z2 ⟨q1, q2⟩ => ih z2 ⟨hK.tr q2, ?_⟩)
    rw [putF_s hr h1]
    exact q1
  · intro z ⟨hK, hTb⟩
    have k16 : kd z 16 = 14 := (hS.kp hK).1 16
    refine ok_eq (b52_2 X (d + 1) 16 2 _ z) (ok_gd k16 (ok_ift (by rw [hK.gi (by omega), t1]; omega) (ok_ret ⟨rfl, ?_, hK⟩)))
    rw [Int.toNat_natCast, List.take_length] at hTb
    exact hTb
end TX
