/-! weights: the narrowing in the machine -/
def Rl (w : MW) (n l : Int) (r : AB) : Prop := ∀ x, 0 ≤ x → x < n → gi w 34 (l * 12 + x).toNat = r.1 x ∧ gi w 35 (l * 12 + x).toNat = r.2 x
def Kl (l : Int) (w w' : MW) : Prop := Kp 34 35 w w' ∧ ∀ j : Nat, ((j : Int) < l * 12 ∨ l * 12 + 12 ≤ (j : Int)) → gi w' 34 j = gi w 34 j ∧ gi w' 35 j = gi w 35 j
def PsS (w : MW) (ps : List T3) : Prop := gi w 27 5 = ps.length ∧ ps.length ≤ 66 ∧ ∀ (i : Nat) (s : T3), ps[i]? = some s → gi w 31 i = s.1 ∧ gi w 32 i = s.2.1 ∧ gi w 33 i = s.2.2
theorem Kl.rf {l : Int} {w : MW} : Kl l w w := ⟨Kp.rf, fun _ _ => ⟨rfl, rfl⟩⟩
theorem Kl.tr {l : Int} {w w1 w2 : MW} (h : Kl l w w1) (h2 : Kl l w1 w2) : Kl l w w2 := ⟨h.1.tr h2.1, fun j hj => ⟨(h2.2 j hj).1.trans (h.2 j hj).1, (h2.2 j hj).2.trans (h.2 j hj).2⟩⟩
theorem PsS.kp {w w' : MW} {ps : List T3} {lo hi : Nat} (h : PsS w ps) (k : Kp lo hi w w') (h1 : 33 < lo ∨ hi < 27) : PsS w' ps := ⟨by rw [k.gi (by omega)]; exact h.1, h.2.1, fun i s hi => by rw [k.gi (by omega), k.gi (by omega), k.gi (by omega)]; exact h.2.2 i s hi⟩
theorem or01 : orI 0 0 = 0 ∧ orI 0 1 = 1 ∧ orI 1 0 = 1 ∧ orI 1 1 = 1 := by decide +kernel
theorem orB (a b : Bool) : orI (bI (a = true)) (bI (b = true)) = bI ((a || b) = true) := by
  obtain ⟨h1, h2, h3, h4⟩ := or01
  cases a <;> cases b <;> simp [bI, h1, h2, h3, h4]
theorem ok_or {a b : Bool} {A B : RS} {P : Option MV → MW → Prop} (f : Int → RS) (h1 : A = f (bI (a = true))) (h2 : B = f 1) (h : Ok (f (bI ((a || b) = true))) P) : Ok (if bI (b = true) = 0 then A else B) P := by
  subst h1
  subst h2
  cases b with
  | false => rw [Bool.or_false] at h; exact ok_ift rfl h
  | true => rw [Bool.or_true] at h; exact ok_iff (by decide) h
theorem bI01 (c : Prop) [Decidable c] : bI c = 0 ∨ bI c = 1 := by
  unfold bI
  split
  · exact Or.inr rfl
  · exact Or.inl rfl
section WM
variable {X : Nat × (Nat → Int)} {d : Nat} {w w' : MW} {n l : Int} {r : AB} {s : T3} {ps : List T3}
theorem lim_ok (hS : Sh w) (hR : Rl w n l r) (hn : n ≤ 12) (hl : 0 ≤ l ∧ l ≤ 11) {x : Int} (hx : 0 ≤ x ∧ x < n) (a b : Int) : OkI (run X d 59 [.inr 27, .inl (l * 12 + x), .inl a, .inl b] w) (fun c w' => c = bI (lmc r x a b = true) ∧ Rl w' n l (lm r x a b) ∧ Kl l w w') := by
  have k27 : kd w 27 = 15 := hS.1 27
  have k34 : kd w 34 = 1 := hS.1 34
  have k35 : kd w 35 = 1 := hS.1 35
  have l34 : ln w 34 = 144 := hS.2.1 34
  have l35 : ln w 35 = 144 := hS.2.1 35
  have g9 : gr w 27 9 = some 34 := hS.2.2 27 9 (by decide)
  have g10 : gr w 27 10 = some 35 := hS.2.2 27 10 (by decide)
  obtain ⟨e1, e2⟩ := hR x hx.1 hx.2
  have set1 : ∀ v, v = a → r.1 x < a → ∀ z, 0 ≤ z → z < n → gi (si w 34 (l * 12 + x).toNat v) 34 (l * 12 + z).toNat = (lm r x a b).1 z := by
    intro v hv hc z z0 z1
    unfold lm
    dsimp only
    by_cases hz : z = x
    · rw [hz, gi_si_eq, if_pos ⟨rfl, hc⟩, hv]
    · rw [gi_si_ne2 (by omega), if_neg (fun q => hz q.1)]
      exact (hR z z0 z1).1
  have no1 : ¬ r.1 x < a → ∀ z, 0 ≤ z → z < n → gi w 34 (l * 12 + z).toNat = (lm r x a b).1 z := by
    intro hc z z0 z1
    unfold lm
    dsimp only
    rw [if_neg (fun q => hc q.2)]
    exact (hR z z0 z1).1
  have second : ∀ (z : MW) (c : Int), Kl l w z → (c = 0 ∨ c = 1) → (c = 1 ↔ r.1 x < a) → (∀ y, 0 ≤ y → y < n → gi z 34 (l * 12 + y).toNat = (lm r x a b).1 y) → (∀ y, 0 ≤ y → y < n → gi z 35 (l * 12 + y).toNat = r.2 y) → Ok (R X d 59 23 [some (.inr 27), some (.inl (l * 12 + x)), none, some (.inl b), some (.inl c)] [] z) (fun v w' => ∃ c, v = some (.inl c) ∧ c = bI (lmc r x a b = true) ∧ Rl w' n l (lm r x a b) ∧ Kl l w w') := by
    intro z c hK hc hca hz1 hz2
    have Sz := hS.kp hK.1
    have q27 : kd z 27 = 15 := Sz.1 27
    have q35 : kd z 35 = 1 := Sz.1 35
    have m35 : ln z 35 = 144 := Sz.2.1 35
    have h10 : gr z 27 10 = some 35 := Sz.2.2 27 10 (by decide)
    refine ok_eq (b59_23 X d 27 _ b c z) (ok_gd q27 (ok_r h10 (ok_gd ⟨q35, by omega, by rw [m35]; omega⟩ ?_)))
    rw [hz2 x hx.1 hx.2]
    refine ok_if (fun h1 => ok_gd hc (ok_ret ⟨_, rfl, ?_, fun y y0 y1 => ⟨hz1 y y0 y1, ?_⟩, hK⟩)) (fun h1 => ok_gd q27 (ok_r h10 (ok_gd ⟨q35, by omega, by rw [m35]; omega⟩ (ok_ret ⟨_, rfl, ?_, fun y y0 y1 => ⟨?_, ?_⟩, hK.tr ⟨Kp.si (by omega) (by omega), fun j hj => ⟨gi_si_ne (by omega), gi_si_ne2 (by omega)⟩⟩⟩))))
    · unfold lmc
      rcases hc with rfl | rfl
      · exact (bI_eq.mpr (by simp; omega)).symm
      · exact (if_pos (by simp; omega)).symm
    · unfold lm
      dsimp only
      rw [if_neg (fun q => by omega)]
      exact hz2 y y0 y1
    · unfold lmc
      exact (if_pos (by simp; omega)).symm
    · rw [gi_si_ne (by omega)]
      exact hz1 y y0 y1
    · unfold lm
      dsimp only
      by_cases hy : y = x
      · rw [hy, gi_si_eq, if_pos ⟨rfl, by omega⟩]
      · rw [gi_si_ne2 (by omega), if_neg (fun q => hy q.1)]
        exact hz2 y y0 y1
  refine ok_eq (b59_0 X d 27 _ a b w) (ok_gd k27 (ok_r g9 (ok_gd ⟨k34, by omega, by rw [l34]; omega⟩ ?_)))
  rw [e1]
  refine ok_if (fun h1 => second w 0 Kl.rf (Or.inl rfl) ⟨fun q => by omega, fun q => by omega⟩ (no1 (by omega)) (fun y y0 y1 => (hR y y0 y1).2)) (fun h1 => ok_gd k27 (ok_r g9 (ok_gd ⟨k34, by omega, by rw [l34]; omega⟩ (second _ 1 ⟨Kp.si (by omega) (by omega), fun j hj => ⟨gi_si_ne2 (by omega), gi_si_ne (by omega)⟩⟩ (Or.inr rfl) ⟨fun _ => by omega, fun _ => rfl⟩ (set1 a rfl (by omega)) (fun y y0 y1 => ?_)))))
  rw [gi_si_ne (by omega)]
  exact (hR y y0 y1).2
theorem emp_ok (hS : Sh w) (hR : Rl w n l r) (hn : n ≤ 12) (hl : 0 ≤ l ∧ l ≤ 11) {x : Int} (hx : 0 ≤ x ∧ x < n) : run X d 60 [.inr 27, .inl (l * 12 + x)] w = some (some (.inl (bI (emp r x = true))), w) := by
  have k27 : kd w 27 = 15 := hS.1 27
  have k34 : kd w 34 = 1 := hS.1 34
  have k35 : kd w 35 = 1 := hS.1 35
  have l34 : ln w 34 = 144 := hS.2.1 34
  have l35 : ln w 35 = 144 := hS.2.1 35
  have g9 : gr w 27 9 = some 34 := hS.2.2 27 9 (by decide)
  have g10 : gr w 27 10 = some 35 := hS.2.2 27 10 (by decide)
  obtain ⟨e1, e2⟩ := hR x hx.1 hx.2
  apply ok_one
  refine ok_eq (b60_0 X d 27 _ w) (ok_gd k27 (ok_r g9 (ok_gd ⟨k34, by omega, by rw [l34]; omega⟩ (ok_gd k27 (ok_r g10 (ok_gd ⟨k35, by omega, by rw [l35]; omega⟩ ?_))))))
  rw [e1, e2]
  unfold emp
  refine ok_if (fun h1 => ok_ret ⟨?_, rfl⟩) (fun h1 => ok_ret ⟨?_, rfl⟩)
  · rw [show bI (decide (r.2 x < r.1 x) = true) = 0 from bI_eq.mpr (by simp; omega)]
  · rw [show bI (decide (r.2 x < r.1 x) = true) = 1 from if_pos (by simp; omega)]
theorem opn_ok (hS : Sh w) (hR : Rl w n l r) (hn : n ≤ 12) (hl : 0 ≤ l ∧ l ≤ 11) {x : Int} (hx : 0 ≤ x ∧ x < n) : run X d 61 [.inr 27, .inl (l * 12 + x)] w = some (some (.inl (bI (r.1 x < r.2 x))), w) := by
  have k27 : kd w 27 = 15 := hS.1 27
  have k34 : kd w 34 = 1 := hS.1 34
  have k35 : kd w 35 = 1 := hS.1 35
  have l34 : ln w 34 = 144 := hS.2.1 34
  have l35 : ln w 35 = 144 := hS.2.1 35
  have g9 : gr w 27 9 = some 34 := hS.2.2 27 9 (by decide)
  have g10 : gr w 27 10 = some 35 := hS.2.2 27 10 (by decide)
  obtain ⟨e1, e2⟩ := hR x hx.1 hx.2
  apply ok_one
  refine ok_eq (b61_0 X d 27 _ w) (ok_gd k27 (ok_r g9 (ok_gd ⟨k34, by omega, by rw [l34]; omega⟩ (ok_gd k27 (ok_r g10 (ok_gd ⟨k35, by omega, by rw [l35]; omega⟩ ?_))))))
  rw [e1, e2]
  refine ok_if (fun h1 => ok_ret ⟨?_, rfl⟩) (fun h1 => ok_ret ⟨?_, rfl⟩)
  · rw [show bI (r.1 x < r.2 x) = 0 from bI_eq.mpr (by omega)]
  · rw [show bI (r.1 x < r.2 x) = 1 from if_pos (by omega)]
theorem nsum_ok (hS : Sh w) (hR : Rl w n l r) (hn : n ≤ 12) (hl : 0 ≤ l ∧ l ≤ 11) (hs : psIn n s) (hb : Bx n 6 r) : OkI (run X (d + 1) 58 [.inr 27, .inl (l * 12 + s.1), .inl (l * 12 + s.2.1), .inl (l * 12 + s.2.2)] w) (fun c w' => c = bI (nsc r s = true) ∧ Rl w' n l (ns r s) ∧ Kl l w w') := by
  obtain ⟨a, b, c⟩ := s
  obtain ⟨ha, hb', hc⟩ := id hs
  dsimp only at ha hb' hc ⊢
  have gds : ∀ z, Kl l w z → kd z 27 = 15 ∧ kd z 34 = 1 ∧ kd z 35 = 1 ∧ ln z 34 = 144 ∧ ln z 35 = 144 ∧ gr z 27 9 = some 34 ∧ gr z 27 10 = some 35 := fun z hK => by
    have Sz := hS.kp hK.1
    exact ⟨Sz.1 27, Sz.1 34, Sz.1 35, Sz.2.1 34, Sz.2.1 35, Sz.2.2 27 9 (by decide), Sz.2.2 27 10 (by decide)⟩
  have rdA : ∀ {z : MW} {q : AB} {x : Int} {f : Nat → RS} {P : Option MV → MW → Prop}, Kl l w z → (0 ≤ x ∧ x < n) → Ok (f 34) P → Ok (gd (kd z 27 = 15) (rO (gr z 27 9) fun b => gd (kd z b = 1 ∧ 0 ≤ l * 12 + x ∧ l * 12 + x < ln z b) (f b))) P := by
    intro z q x f P hK hx h
    obtain ⟨q1, q2, q3, q4, q5, q6, q7⟩ := gds z hK
    exact ok_gd q1 (ok_r q6 (ok_gd ⟨q2, by omega, by rw [q4]; omega⟩ h))
  have rdB : ∀ {z : MW} {q : AB} {x : Int} {f : Nat → RS} {P : Option MV → MW → Prop}, Kl l w z → (0 ≤ x ∧ x < n) → Ok (f 35) P → Ok (gd (kd z 27 = 15) (rO (gr z 27 10) fun b => gd (kd z b = 1 ∧ 0 ≤ l * 12 + x ∧ l * 12 + x < ln z b) (f b))) P := by
    intro z q x f P hK hx h
    obtain ⟨q1, q2, q3, q4, q5, q6, q7⟩ := gds z hK
    exact ok_gd q1 (ok_r q7 (ok_gd ⟨q3, by omega, by rw [q5]; omega⟩ h))
  have x1 := n1_bx hb hs
  have x2 := n2_bx x1 hs
  have x3 := n3_bx x2 hs
  have ra := hb a ha.1 ha.2
  have rb := hb b hb'.1 hb'.2
  refine ok_eq (b58_0 X d 27 _ _ _ w) (rdA (q := r) Kl.rf ha (rdA (q := r) Kl.rf hb' (rdB (q := r) Kl.rf ha (rdB (q := r) Kl.rf hb' (ok_gd (gds w Kl.rf).1 ?_)))))
  rw [(hR a ha.1 ha.2).1, (hR a ha.1 ha.2).2, (hR b hb'.1 hb'.2).1, (hR b hb'.1 hb'.2).2, wrap_id (by omega) (by omega), wrap_id (by omega) (by omega)]
  refine ok_I (lim_ok hS hR hn hl hc _ _) (fun v1 z1 ⟨hv1, hR1, hK1⟩ => ?_)
  change Rl z1 n l (n1 r (a, b, c)) at hR1
  have y1b := x1 b hb'.1 hb'.2
  have y1c := x1 c hc.1 hc.2
  refine rdA (q := r) hK1 hc (rdB (q := r) hK1 hb' (rdB (q := r) hK1 hc (rdA (q := r) hK1 hb' (ok_gd (gds z1 hK1).1 ?_))))
  rw [(hR1 c hc.1 hc.2).1, (hR1 c hc.1 hc.2).2, (hR1 b hb'.1 hb'.2).1, (hR1 b hb'.1 hb'.2).2, wrap_id (by omega) (by omega), wrap_id (by omega) (by omega)]
  refine ok_I (lim_ok (hS.kp hK1.1) hR1 hn hl ha _ _) (fun v2 z2 ⟨hv2, hR2, hK2'⟩ => ?_)
  have hK2 := hK1.tr hK2'
  change Rl z2 n l (n2 (n1 r (a, b, c)) (a, b, c)) at hR2
  rw [hv1, hv2]
  refine ok_or (a := c1 r (a, b, c)) (b := c2 (n1 r (a, b, c)) (a, b, c)) (fun e => R X (d + 1) 58 70 [some (.inr 27), some (.inl (l * 12 + a)), some (.inl (l * 12 + b)), some (.inl (l * 12 + c)), some (.inl e)] [] z2) rfl rfl ?_
  refine ok_eq (b58_70 X d 27 _ _ _ _ z2) ?_
  have y2a := x2 a ha.1 ha.2
  have y2c := x2 c hc.1 hc.2
  refine rdA (q := r) hK2 hc (rdB (q := r) hK2 ha (rdB (q := r) hK2 hc (rdA (q := r) hK2 ha (ok_gd (gds z2 hK2).1 ?_))))
  rw [(hR2 c hc.1 hc.2).1, (hR2 c hc.1 hc.2).2, (hR2 a ha.1 ha.2).1, (hR2 a ha.1 ha.2).2, wrap_id (by omega) (by omega), wrap_id (by omega) (by omega)]
  refine ok_I (lim_ok (hS.kp hK2.1) hR2 hn hl hb' _ _) (fun v3 z3 ⟨hv3, hR3, hK3'⟩ => ?_)
  have hK3 := hK2.tr hK3'
  change Rl z3 n l (n3 (n2 (n1 r (a, b, c)) (a, b, c)) (a, b, c)) at hR3
  rw [hv3]
  refine ok_or (a := c1 r (a, b, c) || c2 (n1 r (a, b, c)) (a, b, c)) (b := c3 (n2 (n1 r (a, b, c)) (a, b, c)) (a, b, c)) (fun e => R X (d + 1) 58 107 [some (.inr 27), some (.inl (l * 12 + a)), some (.inl (l * 12 + b)), some (.inl (l * 12 + c)), some (.inl e)] [] z3) rfl rfl ?_
  refine ok_eq (b58_107 X d 27 _ _ _ _ z3) ?_
  refine ok_if (fun hab => ok_gd (bI01 _) (ok_ret ⟨_, rfl, ?_, ?_, hK3⟩)) (fun hab => ?_)
  · have hne : ¬ a = b := fun q => hab (by rw [q])
    unfold nsc
    rw [show c4 (n3 (n2 (n1 r (a, b, c)) (a, b, c)) (a, b, c)) (a, b, c) = false from if_neg hne, Bool.or_false]
  · have hne : ¬ a = b := fun q => hab (by rw [q])
    unfold ns
    rw [show n4 (n3 (n2 (n1 r (a, b, c)) (a, b, c)) (a, b, c)) (a, b, c) = n3 (n2 (n1 r (a, b, c)) (a, b, c)) (a, b, c) from if_neg hne]
    exact hR3
  · have heq : a = b := by have := Decidable.not_not.mp hab; omega
    have y3c := x3 c hc.1 hc.2
    refine rdA (q := r) hK3 hc (rdB (q := r) hK3 hc (ok_gd (gds z3 hK3).1 ?_))
    rw [(hR3 c hc.1 hc.2).1, (hR3 c hc.1 hc.2).2, wrap_id (by omega) (by omega)]
    refine ok_I (lim_ok (hS.kp hK3.1) hR3 hn hl ha _ _) (fun v4 z4 ⟨hv4, hR4, hK4'⟩ => ?_)
    have e4 : nsc r (a, b, c) = ((c1 r (a, b, c) || c2 (n1 r (a, b, c)) (a, b, c) || c3 (n2 (n1 r (a, b, c)) (a, b, c)) (a, b, c)) || lmc (n3 (n2 (n1 r (a, b, c)) (a, b, c)) (a, b, c)) a (divI ((n3 (n2 (n1 r (a, b, c)) (a, b, c)) (a, b, c)).1 c + 1) 2) (divI ((n3 (n2 (n1 r (a, b, c)) (a, b, c)) (a, b, c)).2 c) 2)) := by
      unfold nsc
      rw [show c4 (n3 (n2 (n1 r (a, b, c)) (a, b, c)) (a, b, c)) (a, b, c) = _ from if_pos heq]
    rw [hv4]
    refine ok_or (a := c1 r (a, b, c) || c2 (n1 r (a, b, c)) (a, b, c) || c3 (n2 (n1 r (a, b, c)) (a, b, c)) (a, b, c)) (fun e => gd (e = 0 ∨ e = 1) (some (some (.inl e), z4))) rfl (by unfold gd; rw [if_pos (Or.inr rfl)]) ?_
    rw [← e4]
    refine ok_gd (bI01 _) (ok_ret ⟨_, rfl, rfl, ?_, hK3.tr hK4'⟩)
    unfold ns
    rw [show n4 (n3 (n2 (n1 r (a, b, c)) (a, b, c)) (a, b, c)) (a, b, c) = _ from if_pos heq]
    exact hR4
theorem nrw_ok (hS : Sh w) (hR : Rl w n l r) (hP : PsS w ps) (hps : ∀ s, s ∈ ps → psIn n s) (h4 : gi w 27 4 = n) (hn : n ≤ 12) (h0n : 0 ≤ n) (hl : 0 ≤ l ∧ l ≤ 11) (hb : ∀ x, 0 ≤ x → x < n → 0 ≤ r.1 x ∧ r.2 x ≤ 6) : OkI (run X (d + 2) 57 [.inr 27, .inl l] w) (fun c w' => Kl l w w' ∧ ((c = 0 ∧ nrw n ps r = none) ∨ (∃ r', c = 1 ∧ nrw n ps r = some r' ∧ Rl w' n l r'))) := by
  have rounds : ∀ z, Kl l w z → Rl z n l r → Bd n r → nrw n ps r = nrR ps 100 r → Ok (R X (d + 2) 57 38 [some (.inr 27), none, some (.inl (l * 12)), some (.inl 1), some (.inl 0), none, none, none, none] [] z) (fun v w' => ∃ c, v = some (.inl c) ∧ Kl l w w' ∧ ((c = 0 ∧ nrw n ps r = none) ∨ (∃ r', c = 1 ∧ nrw n ps r = some r' ∧ Rl w' n l r'))) := by
    intro z hKz hRz hBz hnz
    refine ok_up (fun i (z : MW) => R X (d + 2) 57 38 [some (.inr 27), none, some (.inl (l * 12)), some (.inl 1), some (.inl i), none, none, none, none] [] z) (fun i z => ∃ q, Kl l w z ∧ Rl z n l q ∧ Bd n q ∧ nrw n ps r = nrR ps (100 - i).toNat q) 0 100 (by omega) ?_ ?_ z ⟨r, hKz, hRz, hBz, hnz⟩
    · intro i z g1 g2 ⟨q, hK, hRq, hBq, hnq⟩ ih
      rw [show (100 - i).toNat = (100 - (i + 1)).toNat + 1 by omega, nrR] at hnq
      refine ok_eq (b57_38 X (d + 1) 27 (l * 12) 1 i z) (ok_iff (by omega) (ok_iff (by omega) ?_))
      have f0 : bI (false = true) = 0 := by decide
      refine ok_up (fun j (y : Bool × MW) => R X (d + 2) 57 54 [some (.inr 27), none, some (.inl (l * 12)), some (.inl (bI (y.1 = true))), some (.inl i), some (.inl j), none, none, none] [] y.2) (fun j y => ∃ q2, Kl l w y.2 ∧ Rl y.2 n l q2 ∧ Bd n q2 ∧ nrA ps q false = nrA (ps.drop j.toNat) q2 y.1) 0 ps.length (by omega) ?_ ?_ (false, z) ⟨q, hK, hRq, hBq, rfl⟩
      · intro j y j1 j2 ⟨q2, hK2, hR2, hB2, hn2⟩ ih2
        obtain ⟨c, z2⟩ := y
        dsimp only at hK2 hR2 hn2 ⊢
        have Sz := hS.kp hK2.1
        have k27 : kd z2 27 = 15 := Sz.1 27
        have k31 : kd z2 31 = 1 := Sz.1 31
        have k32 : kd z2 32 = 1 := Sz.1 32
        have k33 : kd z2 33 = 1 := Sz.1 33
        have l31 : ln z2 31 = 66 := Sz.2.1 31
        have l32 : ln z2 32 = 66 := Sz.2.1 32
        have l33 : ln z2 33 = 66 := Sz.2.1 33
        have g6 : gr z2 27 6 = some 31 := Sz.2.2 27 6 (by decide)
        have g7 : gr z2 27 7 = some 32 := Sz.2.2 27 7 (by decide)
        have g8 : gr z2 27 8 = some 33 := Sz.2.2 27 8 (by decide)
        have hP2 := hP.kp hK2.1 (by omega)
        have hlen := hP2.2.1
        obtain ⟨s, hs⟩ : ∃ s, ps[j.toNat]? = some s := ⟨ps[j.toNat]'(by omega), List.getElem?_eq_getElem (by omega)⟩
        obtain ⟨a1, a2, a3⟩ := hP2.2.2 _ _ hs
        have hmem : s ∈ ps := List.mem_of_getElem? hs
        have hin := hps s hmem
        have hdrop : ps.drop j.toNat = s :: ps.drop (j + 1).toNat := by
          have hlt : j.toNat < ps.length := by omega
          rw [List.drop_eq_getElem_cons hlt, show (j + 1).toNat = j.toNat + 1 by omega]
          congr 1
          have := List.getElem?_eq_getElem hlt
          rw [hs] at this
          cases this
          rfl
        rw [hdrop, nrA] at hn2
        refine ok_eq (b57_54 X (d + 1) 27 (l * 12) _ i j z2) (ok_gd k27 (ok_iff (by rw [hP2.1]; omega) (ok_gd k27 (ok_r g6 (ok_gd ⟨k31, j1, by rw [l31]; omega⟩ (ok_gd k27 (ok_r g7 (ok_gd ⟨k32, j1, by rw [l32]; omega⟩ (ok_gd k27 (ok_r g8 (ok_gd ⟨k33, j1, by rw [l33]; omega⟩ (ok_gd k27 ?_))))))))))))
        obtain ⟨i1, i2, i3⟩ := id hin
        rw [a1, a2, a3, wrap_id (z := l * 12 + s.1) (by omega) (by omega), wrap_id (z := l * 12 + s.2.1) (by omega) (by omega), wrap_id (z := l * 12 + s.2.2) (by omega) (by omega)]
        refine ok_I (nsum_ok Sz hR2 hn hl hin hB2.bx) (fun v z3 ⟨hv, hR3, hK3'⟩ => ?_)
        have hK3 := hK2.tr hK3'
        have S3 := hS.kp hK3.1
        have bad : (emp (ns q2 s) s.1 || emp (ns q2 s) s.2.1 || emp (ns q2 s) s.2.2) = true → nrw n ps r = none := by
          intro he
          rw [if_pos he] at hn2
          rw [hnq, hn2]
        rw [hv]
        refine ok_or (a := c) (b := nsc q2 s) (fun e => R X (d + 2) 57 111 [some (.inr 27), none, some (.inl (l * 12)), some (.inl e), some (.inl i), some (.inl j), some (.inl (l * 12 + s.1)), some (.inl (l * 12 + s.2.1)), some (.inl (l * 12 + s.2.2))] [] z3) rfl rfl ?_
        refine ok_eq (b57_111 X (d + 1) 27 (l * 12) _ i j _ _ _ z3) ?_
        rw [wrap_id (z := j + 1) (by omega) (by omega)]
        refine ok_gd (S3.1 27) (ok_i (emp_ok S3 hR3 hn hl i1) (ok_if (fun e1 => ok_ret ⟨_, rfl, hK3, Or.inl ⟨rfl, bad ?_⟩⟩) (fun e1 => ok_gd (S3.1 27) (ok_i (emp_ok S3 hR3 hn hl i2) (ok_if (fun e2 => ok_ret ⟨_, rfl, hK3, Or.inl ⟨rfl, bad ?_⟩⟩) (fun e2 => ok_gd (S3.1 27) (ok_i (emp_ok S3 hR3 hn hl i3) (ok_if (fun e3 => ?_) (fun e3 => ok_ret ⟨_, rfl, hK3, Or.inl ⟨rfl, bad ?_⟩⟩)))))))))
        · rw [bI_ne.mp e1]; rfl
        · rw [bI_ne.mp e2]; simp
        · have e1' := bI_eq.mp (Decidable.not_not.mp e1)
          have e2' := bI_eq.mp (Decidable.not_not.mp e2)
          have e3' := bI_eq.mp e3
          have hnb : ¬ (emp (ns q2 s) s.1 || emp (ns q2 s) s.2.1 || emp (ns q2 s) s.2.2) = true := by simp [e1', e2', e3']
          rw [if_neg hnb] at hn2
          exact ih2 (c || nsc q2 s, z3) ⟨ns q2 s, hK3, hR3, ns_bd hB2 hnb, hn2⟩
        · rw [bI_ne.mp e3]; simp
      · intro y ⟨q2, hK2, hR2, hB2, hn2⟩
        obtain ⟨c, z2⟩ := y
        dsimp only at hK2 hR2 hn2 ⊢
        have Sz := hS.kp hK2.1
        have hP2 := hP.kp hK2.1 (by omega)
        rw [Int.toNat_natCast, List.drop_length, nrA] at hn2
        refine ok_eq (b57_54 X (d + 1) 27 (l * 12) _ i ps.length z2) (ok_gd (Sz.1 27) (ok_ift (by rw [hP2.1]; omega) ?_))
        rw [wrap_id (z := i + 1) (by omega) (by omega)]
        rw [hn2] at hnq
        dsimp only at hnq
        cases c with
        | false =>
          rw [if_neg (by decide)] at hnq
          rw [f0]
          refine ok_eq (b57_38 X (d + 1) 27 (l * 12) 0 (i + 1) z2) (ok_if (fun _ => ok_ret ⟨_, rfl, hK2, Or.inr ⟨q2, rfl, hnq, hR2⟩⟩) (fun _ => ok_ift rfl (ok_ret ⟨_, rfl, hK2, Or.inr ⟨q2, rfl, hnq, hR2⟩⟩)))
        | true =>
          rw [if_pos rfl] at hnq
          exact ih z2 ⟨q2, hK2, hR2, hB2, hnq⟩
    · intro z ⟨q, hK, hRq, hBq, hnq⟩
      exact ok_eq (b57_38 X (d + 1) 27 (l * 12) 1 100 z) (ok_ift (by omega) (ok_ret ⟨_, rfl, hK, Or.inr ⟨q, rfl, hnq, hRq⟩⟩))
  refine ok_eq (b57_0 X (d + 1) 27 l w) ?_
  rw [wrap_id (z := l * 12) (by omega) (by omega)]
  have hc0 := lsA_cases (p := fun x => emp r x) h0n
  refine ok_up (fun i z => R X (d + 2) 57 7 [some (.inr 27), none, some (.inl (l * 12)), some (.inl i), none, none, none, none, none] [] z) (fun i z => z = w ∧ ∀ x, 0 ≤ x → x < i → emp r x = false) 0 n h0n ?_ ?_ w ⟨rfl, fun x q1 q2 => by omega⟩
  · intro i z g1 g2 ⟨e, hE⟩ ih
    subst e
    refine ok_eq (b57_7 X (d + 1) 27 (l * 12) i z) (ok_gd (hS.1 27) (ok_iff (by rw [h4]; omega) (ok_gd (hS.1 27) ?_)))
    rw [wrap_id (z := l * 12 + i) (by omega) (by omega), wrap_id (z := i + 1) (by omega) (by omega)]
    refine ok_i (emp_ok hS hR hn hl ⟨g1, g2⟩) (ok_if (fun e1 => ih z ⟨rfl, fun x q1 q2 => ?_⟩) (fun e1 => ok_ret ⟨_, rfl, Kl.rf, Or.inl ⟨rfl, ?_⟩⟩))
    · by_cases hx : x = i
      · rw [hx]
        have := bI_eq.mp e1
        simpa using this
      · exact hE x q1 (by omega)
    · unfold nrw
      refine if_neg (fun q => ?_)
      rcases hc0 with ⟨_, hh⟩ | ⟨h1, h2, _⟩
      · have := hh i g1 g2
        have e2 := bI_ne.mp e1
        rw [this] at e2
        exact absurd e2 (by decide)
      · omega
  · intro z ⟨e, hE⟩
    subst e
    refine ok_eq (b57_7 X (d + 1) 27 (l * 12) n z) (ok_gd (hS.1 27) (ok_ift (by rw [h4]; omega) (rounds z Kl.rf hR (fun x q1 q2 => ?_) ?_)))
    · have := hE x q1 q2
      unfold emp at this
      have := of_decide_eq_false this
      have := hb x q1 q2
      omega
    · unfold nrw
      refine if_pos ?_
      rcases hc0 with ⟨hh, _⟩ | ⟨h1, h2, h3, _⟩
      · exact hh
      · have := hE _ h1 h2
        rw [this] at h3
        exact absurd h3 (by decide)
end WM
