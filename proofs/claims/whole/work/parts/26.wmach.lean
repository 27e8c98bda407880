/-! weights: the narrowing in the machine -/
def Rl (w : MW) (n l : Int) (r : AB) : Prop := ∀ x, 0 ≤ x → x < n → gi w 34 (l * 12 + x).toNat = r.1 x ∧ gi w 35 (l * 12 + x).toNat = r.2 x
def Kl (l : Int) (w w' : MW) : Prop := Kp 34 35 w w' ∧ ∀ j : Nat, ((j : Int) < l * 12 ∨ l * 12 + 12 ≤ (j : Int)) → gi w' 34 j = gi w 34 j ∧ gi w' 35 j = gi w 35 j
def PsS (w : MW) (ps : List T3) : Prop := gi w 27 5 = ps.length ∧ ps.length ≤ 66 ∧ ∀ (i : Nat) (s : T3), ps[i]? = some s → gi w 31 i = s.1 ∧ gi w 32 i = s.2.1 ∧ gi w 33 i = s.2.2
theorem Kl.rf {l : Int} {w : MW} : Kl l w w := ⟨Kp.rf, fun _ _ => ⟨rfl, rfl⟩⟩
theorem Kl.tr {l : Int} {w w1 w2 : MW} (h : Kl l w w1) (h2 : Kl l w1 w2) : Kl l w w2 := ⟨h.1.tr h2.1, fun j hj => ⟨(h2.2 j hj).1.trans (h.2 j hj).1, (h2.2 j hj).2.trans (h.2 j hj).2⟩⟩
theorem PsS.kp {w w' : MW} {ps : List T3} {lo hi : Nat} (h : PsS w ps) (k : Kp lo hi w w') (h1 : 33 < lo ∨ hi < 27) : PsS w' ps := ⟨by rw [k.gi (by omega)]; exact h.1, h.2.1, fun i s hi => by rw [k.gi (by omega), k.gi (by omega), k.gi (by omega)]; exact h.2.2 i s hi⟩
theorem or01 : orI 0 0 = 0 ∧ orI 0 1 = 1 ∧ orI 1 0 = 1 ∧ orI 1 1 = 1 := by decide +kernel
theorem orB (a b : Bool) : orI (bI (a = true)) (bI (b = true)) = bI ((a || b) = true) := by
  obtain ⟨h1, h2, h3, h4⟩ := or01
  cases a <;> cases b <;> simp [bI, h1, h2, h3, h4]
theorem bI01 (c : Prop) [Decidable c] : bI c = 0 ∨ bI c = 1 := by
  unfold bI
  split
  · exact Or.inr rfl
  · exact Or.inl rfl
section WM
variable {X : Nat × (Nat → Int)} {d : Nat} {w w' : MW} {n l : Int} {r : AB} {s : T3} {ps : List T3}
theorem lim_ok (hS : Sh w) (hR : Rl w n l r) (hn : n ≤ 12) (hl : 0 ≤ l ∧ l ≤ 11) {x : Int} (hx : 0 ≤ x ∧ x < n) (a b : Int) : OkI (run X d 59 [.inr 27, .inl (l * 12 + x), .inl a, .inl b] w) (fun c w' => c = bI (lmc r x a b = true) ∧ Rl w' n l (lm r x a b) ∧ Kl l w w') := by
  have k27 : kd w 27 = 15 := hS.1 27
  have k34 : kd w 34 = 1 := hS.1 34
  have k35 : kd w 35 = 1 := hS.1 35
  have l34 : ln w 34 = 144 := hS.2.1 34
  have l35 : ln w 35 = 144 := hS.2.1 35
  have g9 : gr w 27 9 = some 34 := hS.2.2 27 9 (by decide)
  have g10 : gr w 27 10 = some 35 := hS.2.2 27 10 (by decide)
  obtain ⟨e1, e2⟩ := hR x hx.1 hx.2
  have set1 : ∀ v, v = a → r.1 x < a → ∀ z, 0 ≤ z → z < n → gi (si w 34 (l * 12 + x).toNat v) 34 (l * 12 + z).toNat = (lm r x a b).1 z := by
    intro v hv hc z z0 z1
    unfold lm
    dsimp only
    by_cases hz : z = x
    · rw [hz, gi_si_eq, if_pos ⟨rfl, hc⟩, hv]
    · rw [gi_si_ne2 (by omega), if_neg (fun q => hz q.1)]
      exact (hR z z0 z1).1
  have no1 : ¬ r.1 x < a → ∀ z, 0 ≤ z → z < n → gi w 34 (l * 12 + z).toNat = (lm r x a b).1 z := by
    intro hc z z0 z1
    unfold lm
    dsimp only
    rw [if_neg (fun q => hc q.2)]
    exact (hR z z0 z1).1
  have second : ∀ (z : MW) (c : Int), Kl l w z → (c = 0 ∨ c = 1) → (c = 1 ↔ r.1 x < a) → (∀ y, 0 ≤ y → y < n → gi z 34 (l * 12 + y).toNat = (lm r x a b).1 y) → (∀ y, 0 ≤ y → y < n → gi z 35 (l * 12 + y).toNat = r.2 y) → Ok (R X d 59 23 [some (.inr 27), some (.inl (l * 12 + x)), none, some (.inl b), some (.inl c)] [] z) (fun v w' => ∃ c, v = some (.inl c) ∧ c = bI (lmc r x a b = true) ∧ Rl w' n l (lm r x a b) ∧ Kl l w w') := by
    intro z c hK hc hca hz1 hz2
    have Sz := hS.kp hK.1
    have q27 : kd z 27 = 15 := Sz.1 27
    have q35 : kd z 35 = 1 := Sz.1 35
    have m35 : ln z 35 = 144 := Sz.2.1 35
    have h10 : gr z 27 10 = some 35 := Sz.2.2 27 10 (by decide)
    refine ok_eq (b59_23 X d 27 _ b c z) (ok_gd q27 (ok_r h10 (ok_gd ⟨q35, by omega, by rw [m35]; omega⟩ ?_)))
    rw [hz2 x hx.1 hx.2]
    refine ok_if (fun h1 => ok_gd hc (ok_ret ⟨_, rfl, ?_, fun y y0 y1 => ⟨hz1 y y0 y1, ?_⟩, hK⟩)) (fun h1 => ok_gd q27 (ok_r h10 (ok_gd ⟨q35, by omega, by rw [m35]; omega⟩ (ok_ret ⟨_, rfl, ?_, fun y y0 y1 => ⟨?_, ?_⟩, hK.tr ⟨Kp.si (by omega) (by omega), fun j hj => ⟨gi_si_ne (by omega), gi_si_ne2 (by omega)⟩⟩⟩))))
    · unfold lmc
      rcases hc with rfl | rfl
      · exact (bI_eq.mpr (by simp; omega)).symm
      · exact (if_pos (by simp; omega)).symm
    · unfold lm
      dsimp only
      rw [if_neg (fun q => by omega)]
      exact hz2 y y0 y1
    · unfold lmc
      exact (if_pos (by simp; omega)).symm
    · rw [gi_si_ne (by omega)]
      exact hz1 y y0 y1
    · unfold lm
      dsimp only
      by_cases hy : y = x
      · rw [hy, gi_si_eq, if_pos ⟨rfl, by omega⟩]
      · rw [gi_si_ne2 (by omega), if_neg (fun q => hy q.1)]
        exact hz2 y y0 y1
  refine ok_eq (b59_0 X d 27 _ a b w) (ok_gd k27 (ok_r g9 (ok_gd ⟨k34, by omega, by rw [l34]; omega⟩ ?_)))
  rw [e1]
  refine ok_if (fun h1 => second w 0 Kl.rf (Or.inl rfl) ⟨fun q => by omega, fun q => by omega⟩ (no1 (by omega)) (fun y y0 y1 => (hR y y0 y1).2)) (fun h1 => ok_gd k27 (ok_r g9 (ok_gd ⟨k34, by omega, by rw [l34]; omega⟩ (second _ 1 ⟨Kp.si (by omega) (by omega), fun j hj => ⟨gi_si_ne2 (by omega), gi_si_ne (by omega)⟩⟩ (Or.inr rfl) ⟨fun _ => by omega, fun _ => rfl⟩ (set1 a rfl (by omega)) (fun y y0 y1 => ?_)))))
  rw [gi_si_ne (by omega)]
  exact (hR y y0 y1).2
theorem emp_ok (hS : Sh w) (hR : Rl w n l r) (hn : n ≤ 12) (hl : 0 ≤ l ∧ l ≤ 11) {x : Int} (hx : 0 ≤ x ∧ x < n) : run X d 60 [.inr 27, .inl (l * 12 + x)] w = some (some (.inl (bI (emp r x = true))), w) := by
  have k27 : kd w 27 = 15 := hS.1 27
  have k34 : kd w 34 = 1 := hS.1 34
  have k35 : kd w 35 = 1 := hS.1 35
  have l34 : ln w 34 = 144 := hS.2.1 34
  have l35 : ln w 35 = 144 := hS.2.1 35
  have g9 : gr w 27 9 = some 34 := hS.2.2 27 9 (by decide)
  have g10 : gr w 27 10 = some 35 := hS.2.2 27 10 (by decide)
  obtain ⟨e1, e2⟩ := hR x hx.1 hx.2
  apply ok_one
  refine ok_eq (b60_0 X d 27 _ w) (ok_gd k27 (ok_r g9 (ok_gd ⟨k34, by omega, by rw [l34]; omega⟩ (ok_gd k27 (ok_r g10 (ok_gd ⟨k35, by omega, by rw [l35]; omega⟩ ?_))))))
  rw [e1, e2]
  unfold emp
  refine ok_if (fun h1 => ok_ret ⟨?_, rfl⟩) (fun h1 => ok_ret ⟨?_, rfl⟩)
  · rw [show bI (decide (r.2 x < r.1 x) = true) = 0 from bI_eq.mpr (by simp; omega)]
  · rw [show bI (decide (r.2 x < r.1 x) = true) = 1 from if_pos (by simp; omega)]
theorem opn_ok (hS : Sh w) (hR : Rl w n l r) (hn : n ≤ 12) (hl : 0 ≤ l ∧ l ≤ 11) {x : Int} (hx : 0 ≤ x ∧ x < n) : run X d 61 [.inr 27, .inl (l * 12 + x)] w = some (some (.inl (bI (r.1 x < r.2 x))), w) := by
  have k27 : kd w 27 = 15 := hS.1 27
  have k34 : kd w 34 = 1 := hS.1 34
  have k35 : kd w 35 = 1 := hS.1 35
  have l34 : ln w 34 = 144 := hS.2.1 34
  have l35 : ln w 35 = 144 := hS.2.1 35
  have g9 : gr w 27 9 = some 34 := hS.2.2 27 9 (by decide)
  have g10 : gr w 27 10 = some 35 := hS.2.2 27 10 (by decide)
  obtain ⟨e1, e2⟩ := hR x hx.1 hx.2
  apply ok_one
  refine ok_eq (b61_0 X d 27 _ w) (ok_gd k27 (ok_r g9 (ok_gd ⟨k34, by omega, by rw [l34]; omega⟩ (ok_gd k27 (ok_r g10 (ok_gd ⟨k35, by omega, by rw [l35]; omega⟩ ?_))))))
  rw [e1, e2]
  refine ok_if (fun h1 => ok_ret ⟨?_, rfl⟩) (fun h1 => ok_ret ⟨?_, rfl⟩)
  · rw [show bI (r.1 x < r.2 x) = 0 from bI_eq.mpr (by omega)]
  · rw [show bI (r.1 x < r.2 x) = 1 from if_pos (by omega)]
theorem nsum_ok (hS : Sh w) (hR : Rl w n l r) (hn : n ≤ 12) (hl : 0 ≤ l ∧ l ≤ 11) (hs : psIn n s) (hb : Bx n 6 r) : OkI (run X (d + 1) 58 [.inr 27, .inl (l * 12 + s.1), .inl (l * 12 + s.2.1), .inl (l * 12 + s.2.2)] w) (fun c w' => c = bI (nsc r s = true) ∧ Rl w' n l (ns r s) ∧ Kl l w w') := by
  obtain ⟨a, b, c⟩ := s
  obtain ⟨ha, hb', hc⟩ := id hs
  dsimp only at ha hb' hc ⊢
  have gds : ∀ z, Kl l w z → kd z 27 = 15 ∧ kd z 34 = 1 ∧ kd z 35 = 1 ∧ ln z 34 = 144 ∧ ln z 35 = 144 ∧ gr z 27 9 = some 34 ∧ gr z 27 10 = some 35 := fun z hK => by
    have Sz := hS.kp hK.1
    exact ⟨Sz.1 27, Sz.1 34, Sz.1 35, Sz.2.1 34, Sz.2.1 35, Sz.2.2 27 9 (by decide), Sz.2.2 27 10 (by decide)⟩
  have rdA : ∀ {z : MW} {q : AB} {x : Int} {f : Nat → RS} {P : Option MV → MW → Prop}, Kl l w z → (0 ≤ x ∧ x < n) → Ok (f 34) P → Ok (gd (kd z 27 = 15) (rO (gr z 27 9) fun b => gd (kd z b = 1 ∧ 0 ≤ l * 12 + x ∧ l * 12 + x < ln z b) (f b))) P := by
    intro z q x f P hK hx h
    obtain ⟨q1, q2, q3, q4, q5, q6, q7⟩ := gds z hK
    exact ok_gd q1 (ok_r q6 (ok_gd ⟨q2, by omega, by rw [q4]; omega⟩ h))
  have rdB : ∀ {z : MW} {q : AB} {x : Int} {f : Nat → RS} {P : Option MV → MW → Prop}, Kl l w z → (0 ≤ x ∧ x < n) → Ok (f 35) P → Ok (gd (kd z 27 = 15) (rO (gr z 27 10) fun b => gd (kd z b = 1 ∧ 0 ≤ l * 12 + x ∧ l * 12 + x < ln z b) (f b))) P := by
    intro z q x f P hK hx h
    obtain ⟨q1, q2, q3, q4, q5, q6, q7⟩ := gds z hK
    exact ok_gd q1 (ok_r q7 (ok_gd ⟨q3, by omega, by rw [q5]; omega⟩ h))
  have x1 := n1_bx hb hs
  have x2 := n2_bx x1 hs
  have x3 := n3_bx x2 hs
  have ra := hb a ha.1 ha.2
  have rb := hb b hb'.1 hb'.2
  refine ok_eq (b58_0 X d 27 _ _ _ w) (rdA (q := r) Kl.rf ha (rdA (q := r) Kl.rf hb' (rdB (q := r) Kl.rf ha (rdB (q := r) Kl.rf hb' (ok_gd (gds w Kl.rf).1 ?_)))))
  rw [(hR a ha.1 ha.2).1, (hR a ha.1 ha.2).2, (hR b hb'.1 hb'.2).1, (hR b hb'.1 hb'.2).2, wrap_id (by omega) (by omega), wrap_id (by omega) (by omega)]
  refine ok_I (lim_ok hS hR hn hl hc _ _) (fun v1 z1 ⟨hv1, hR1, hK1⟩ => ?_)
  change Rl z1 n l (n1 r (a, b, c)) at hR1
  have y1b := x1 b hb'.1 hb'.2
  have y1c := x1 c hc.1 hc.2
  refine rdA (q := r) hK1 hc (rdB (q := r) hK1 hb' (rdB (q := r) hK1 hc (rdA (q := r) hK1 hb' (ok_gd (gds z1 hK1).1 ?_))))
  rw [(hR1 c hc.1 hc.2).1, (hR1 c hc.1 hc.2).2, (hR1 b hb'.1 hb'.2).1, (hR1 b hb'.1 hb'.2).2, wrap_id (by omega) (by omega), wrap_id (by omega) (by omega)]
  refine ok_I (lim_ok (hS.kp hK1.1) hR1 hn hl ha _ _) (fun v2 z2 ⟨hv2, hR2, hK2'⟩ => ?_)
  have hK2 := hK1.tr hK2'
  change Rl z2 n l (n2 (n1 r (a, b, c)) (a, b, c)) at hR2
  have y2a := x2 a ha.1 ha.2
  have y2c := x2 c hc.1 hc.2
  refine rdA (q := r) hK2 hc (rdB (q := r) hK2 ha (rdB (q := r) hK2 hc (rdA (q := r) hK2 ha (ok_gd (gds z2 hK2).1 ?_))))
  rw [(hR2 c hc.1 hc.2).1, (hR2 c hc.1 hc.2).2, (hR2 a ha.1 ha.2).1, (hR2 a ha.1 ha.2).2, wrap_id (by omega) (by omega), wrap_id (by omega) (by omega)]
  refine ok_I (lim_ok (hS.kp hK2.1) hR2 hn hl hb' _ _) (fun v3 z3 ⟨hv3, hR3, hK3'⟩ => ?_)
  have hK3 := hK2.tr hK3'
  change Rl z3 n l (n3 (n2 (n1 r (a, b, c)) (a, b, c)) (a, b, c)) at hR3
  have e123 : orI (orI v1 v2) v3 = bI ((c1 r (a, b, c) || c2 (n1 r (a, b, c)) (a, b, c) || c3 (n2 (n1 r (a, b, c)) (a, b, c)) (a, b, c)) = true) := by
    rw [hv1, hv2, hv3, orB, orB]
    rfl
  rw [e123]
  refine ok_if (fun hab => ok_gd (bI01 _) (ok_ret ⟨_, rfl, ?_, ?_, hK3⟩)) (fun hab => ?_)
  · have hne : ¬ a = b := fun q => hab (by rw [q])
    unfold nsc
    rw [show c4 (n3 (n2 (n1 r (a, b, c)) (a, b, c)) (a, b, c)) (a, b, c) = false from if_neg hne, Bool.or_false]
  · have hne : ¬ a = b := fun q => hab (by rw [q])
    unfold ns
    rw [show n4 (n3 (n2 (n1 r (a, b, c)) (a, b, c)) (a, b, c)) (a, b, c) = n3 (n2 (n1 r (a, b, c)) (a, b, c)) (a, b, c) from if_neg hne]
    exact hR3
  · have heq : a = b := by have := Decidable.not_not.mp hab; omega
    have y3c := x3 c hc.1 hc.2
    refine rdA (q := r) hK3 hc (rdB (q := r) hK3 hc (ok_gd (gds z3 hK3).1 ?_))
    rw [(hR3 c hc.1 hc.2).1, (hR3 c hc.1 hc.2).2, wrap_id (by omega) (by omega)]
    refine ok_I (lim_ok (hS.kp hK3.1) hR3 hn hl ha _ _) (fun v4 z4 ⟨hv4, hR4, hK4'⟩ => ?_)
    have e4 : orI (bI ((c1 r (a, b, c) || c2 (n1 r (a, b, c)) (a, b, c) || c3 (n2 (n1 r (a, b, c)) (a, b, c)) (a, b, c)) = true)) v4 = bI (nsc r (a, b, c) = true) := by
      rw [hv4, orB]
      unfold nsc
      rw [show c4 (n3 (n2 (n1 r (a, b, c)) (a, b, c)) (a, b, c)) (a, b, c) = _ from if_pos heq]
    rw [e4]
    refine ok_gd (bI01 _) (ok_ret ⟨_, rfl, rfl, ?_, hK3.tr hK4'⟩)
    unfold ns
    rw [show n4 (n3 (n2 (n1 r (a, b, c)) (a, b, c)) (a, b, c)) (a, b, c) = _ from if_pos heq]
    exact hR4
end WM
