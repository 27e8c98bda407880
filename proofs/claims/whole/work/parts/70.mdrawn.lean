/-! the reference: a sum draws bounds in -/
section ND
variable {X : Nat × (Nat → Int)} {d : Nat} {w w' w2 : MW} {n row : Int} {t : Int → Int → Int} {r r' r2 : AB}
theorem in06 {f : Int → Int} (hB : Bd n r) (hs : shr n r r') (h : ∀ j, 0 ≤ j → j < n → wi r' f j) {j : Int} (j0 : 0 ≤ j) (j1 : j < n) : (0 ≤ r'.1 j ∧ r'.1 j ≤ f j) ∧ (f j ≤ r'.2 j ∧ r'.2 j ≤ 6) := by
  have a := hB j j0 j1
  have b := hs j j0 j1
  have c := h j j0 j1
  unfold wi at c
  omega
theorem drawn_m (hS : Sh w) (h : RowW w n row r) (hn : n ≤ 12) (hrow : 0 ≤ row ∧ row ≤ 144) {a b c : Int} (ha : 0 ≤ a ∧ a < n) (hb : 0 ≤ b ∧ b < n) (hc : 0 ≤ c ∧ c < n) : OkI (run X (d + 1) 158 [.inr 38, .inl row, .inl a, .inl b, .inl c] w) (fun x w' => ∃ r', RowW w' n row r' ∧ FrR row w w' ∧ Opx n r r' x ∧ (Bd n r → ∀ f : Int → Int, f a + f b = f c → (∀ j, 0 ≤ j → j < n → wi r f j) → ∀ j, 0 ≤ j → j < n → wi r' f j) ∧ (Bd n r → x = 0 → r.1 a + r.1 b ≤ r.1 c ∧ r.2 c ≤ r.2 a + r.2 b)) := by
  have i45 : ∀ {z : MW} {q : Int}, Sh z → (0 ≤ q ∧ q < n) → (kd z 45 = 1 ∧ 0 ≤ row + q ∧ row + q < ln z 45) := fun {z q} Sz hq => ⟨Sz.1 45, by omega, by rw [show ln z 45 = 156 from Sz.2.1 45]; omega⟩
  have i46 : ∀ {z : MW} {q : Int}, Sh z → (0 ≤ q ∧ q < n) → (kd z 46 = 1 ∧ 0 ≤ row + q ∧ row + q < ln z 46) := fun {z q} Sz hq => ⟨Sz.1 46, by omega, by rw [show ln z 46 = 156 from Sz.2.1 46]; omega⟩
  have g13 : ∀ {z : MW}, Sh z → gr z 38 13 = some 45 := fun Sz => Sz.2.2 38 13 (by decide)
  have g14 : ∀ {z : MW}, Sh z → gr z 38 14 = some 46 := fun Sz => Sz.2.2 38 14 (by decide)
  refine ok_eq (b158_0 X d 38 row a b c w) (ok_gd (hS.1 38) (ok_r (g13 hS) ?_))
  rw [wrap_id (z := row + a) (by omega) (by omega), wrap_id (z := row + b) (by omega) (by omega), wrap_id (z := row + c) (by omega) (by omega)]
  refine ok_gd (i45 hS ha) (ok_gd (hS.1 38) (ok_r (g13 hS) (ok_gd (i45 hS hb) (ok_gd (hS.1 38) (ok_r (g14 hS) (ok_gd (i46 hS ha) (ok_gd (hS.1 38) (ok_r (g14 hS) (ok_gd (i46 hS hb) (ok_gd (hS.1 38) ?_))))))))))
  rw [(h a ha.1 ha.2).1, (h b hb.1 hb.2).1, (h a ha.1 ha.2).2, (h b hb.1 hb.2).2]
  let Sd : AB → Prop := fun ρ => Bd n r → ∀ f : Int → Int, f a + f b = f c → (∀ j, 0 ≤ j → j < n → wi r f j) → ∀ j, 0 ≤ j → j < n → wi ρ f j
  have sdR : ∀ {ρ : AB} {x l : Int}, Sd ρ → shr n r ρ → (∀ f : Int → Int, f a + f b = f c → ((0 ≤ ρ.1 a ∧ ρ.1 a ≤ f a) ∧ (f a ≤ ρ.2 a ∧ ρ.2 a ≤ 6)) → ((0 ≤ ρ.1 b ∧ ρ.1 b ≤ f b) ∧ (f b ≤ ρ.2 b ∧ ρ.2 b ≤ 6)) → ((0 ≤ ρ.1 c ∧ ρ.1 c ≤ f c) ∧ (f c ≤ ρ.2 c ∧ ρ.2 c ≤ 6)) → l ≤ f x) → Sd (mRs ρ x l) := fun {ρ x l} hs hsh hl hB f hf hw => by
    have q := hs hB f hf hw
    exact mRs_in (hl f hf (in06 hB hsh q ha.1 ha.2) (in06 hB hsh q hb.1 hb.2) (in06 hB hsh q hc.1 hc.2)) q
  have sdL : ∀ {ρ : AB} {x l : Int}, Sd ρ → shr n r ρ → (∀ f : Int → Int, f a + f b = f c → ((0 ≤ ρ.1 a ∧ ρ.1 a ≤ f a) ∧ (f a ≤ ρ.2 a ∧ ρ.2 a ≤ 6)) → ((0 ≤ ρ.1 b ∧ ρ.1 b ≤ f b) ∧ (f b ≤ ρ.2 b ∧ ρ.2 b ≤ 6)) → ((0 ≤ ρ.1 c ∧ ρ.1 c ≤ f c) ∧ (f c ≤ ρ.2 c ∧ ρ.2 c ≤ 6)) → f x ≤ l) → Sd (mLw ρ x l) := fun {ρ x l} hs hsh hl hB f hf hw => by
    have q := hs hB f hf hw
    exact mLw_in (hl f hf (in06 hB hsh q ha.1 ha.2) (in06 hB hsh q hb.1 hb.2) (in06 hB hsh q hc.1 hc.2)) q
  have sd0 : Sd r := fun _ f _ hw => hw
  -- the sum's own bounds
  have sd1 : Sd (mRs r c (wrap (r.1 a + r.1 b))) := sdR sd0 shr.rf (fun f hf qa qb qc => by rw [wrap_id (by omega) (by omega)]; omega)
  have e2a : (mRs r c (wrap (r.1 a + r.1 b))).2 = r.2 := rfl
  have p1 := mRs_op (n := n) (r := r) (l := wrap (r.1 a + r.1 b)) hc
  have sd2 : Sd (mLw (mRs r c (wrap (r.1 a + r.1 b))) c (wrap (r.2 a + r.2 b))) := sdL sd1 p1.1 (fun f hf qa qb qc => by rw [e2a] at qa qb; rw [wrap_id (by omega) (by omega)]; omega)
  refine ok_I (raise_m (d := d) hS h hn hrow hc _) (fun v5 z1 ⟨e5, h1, f1⟩ => ?_)
  have S1 := hS.kp f1.1
  refine ok_gd (S1.1 38) (ok_I (lower_m (d := d) S1 h1 hn hrow hc _) (fun v6 z2 ⟨e6, h2, f2⟩ => ?_))
  have S2 := S1.kp f2.1
  rw [← e5] at p1
  have p2 := mLw_op (n := n) (r := mRs r c (wrap (r.1 a + r.1 b))) (h := wrap (r.2 a + r.2 b)) hc
  rw [← e6] at p2
  have bv5 := p1.2.1
  have bv6 := p2.2.1
  have P2 := p1.tr p2
  have F2 := f1.tr f2
  have stable : Bd n r → v5 = 0 → v6 = 0 → r.1 a + r.1 b ≤ r.1 c ∧ r.2 c ≤ r.2 a + r.2 b := fun hB g5 g6 => by
    have qa := hB a ha.1 ha.2
    have qb := hB b hb.1 hb.2
    rw [e5] at g5
    rw [e6, e2a] at g6
    have g5' := bI_eq.mp g5
    have g6' := bI_eq.mp g6
    rw [wrap_id (by omega) (by omega)] at g5' g6'
    omega
  generalize mLw (mRs r c (wrap (r.1 a + r.1 b))) c (wrap (r.2 a + r.2 b)) = r2 at *
  clear p1 p2 e2a sd1 sd0 e5 e6 h1
  refine ok_gd (S2.1 38) (ok_r (g13 S2) (ok_gd (i45 S2 hc) (ok_gd (S2.1 38) (ok_r (g14 S2) (ok_gd (i46 S2 hb) (ok_gd (S2.1 38) ?_))))))
  rw [(h2 c hc.1 hc.2).1, (h2 b hb.1 hb.2).2]
  have sd3 : Sd (mRs r2 a (wrap (r2.1 c - r2.2 b))) := sdR sd2 P2.1 (fun f hf qa qb qc => by rw [wrap_id (by omega) (by omega)]; omega)
  refine ok_I (raise_m (d := d) S2 h2 hn hrow ha _) (fun v9 z3 ⟨e9, h3, f3⟩ => ?_)
  have S3 := S2.kp f3.1
  have p3 := mRs_op (n := n) (r := r2) (l := wrap (r2.1 c - r2.2 b)) ha
  rw [← e9] at p3
  generalize mRs r2 a (wrap (r2.1 c - r2.2 b)) = r3 at *
  refine ok_gd (S3.1 38) (ok_r (g14 S3) (ok_gd (i46 S3 hc) (ok_gd (S3.1 38) (ok_r (g13 S3) (ok_gd (i45 S3 hb) (ok_gd (S3.1 38) ?_))))))
  rw [(h3 c hc.1 hc.2).2, (h3 b hb.1 hb.2).1]
  have sd4 : Sd (mLw r3 a (wrap (r3.2 c - r3.1 b))) := sdL sd3 (P2.1.tr p3.1) (fun f hf qa qb qc => by rw [wrap_id (by omega) (by omega)]; omega)
  refine ok_I (lower_m (d := d) S3 h3 hn hrow ha _) (fun v12 z4 ⟨e12, h4, f4⟩ => ?_)
  have S4 := S3.kp f4.1
  have p4 := mLw_op (n := n) (r := r3) (h := wrap (r3.2 c - r3.1 b)) ha
  rw [← e12] at p4
  generalize mLw r3 a (wrap (r3.2 c - r3.1 b)) = r4 at *
  have P4 := P2.tr (p3.tr p4)
  have F4 := F2.tr (f3.tr f4)
  refine ok_gd (S4.1 38) (ok_r (g13 S4) (ok_gd (i45 S4 hc) (ok_gd (S4.1 38) (ok_r (g14 S4) (ok_gd (i46 S4 ha) (ok_gd (S4.1 38) ?_))))))
  rw [(h4 c hc.1 hc.2).1, (h4 a ha.1 ha.2).2]
  have sd5 : Sd (mRs r4 b (wrap (r4.1 c - r4.2 a))) := sdR sd4 P4.1 (fun f hf qa qb qc => by rw [wrap_id (by omega) (by omega)]; omega)
  refine ok_I (raise_m (d := d) S4 h4 hn hrow hb _) (fun v15 z5 ⟨e15, h5, f5⟩ => ?_)
  have S5 := S4.kp f5.1
  have p5 := mRs_op (n := n) (r := r4) (l := wrap (r4.1 c - r4.2 a)) hb
  rw [← e15] at p5
  generalize mRs r4 b (wrap (r4.1 c - r4.2 a)) = r5 at *
  have P5 := P4.tr p5
  refine ok_gd (S5.1 38) (ok_r (g14 S5) (ok_gd (i46 S5 hc) (ok_gd (S5.1 38) (ok_r (g13 S5) (ok_gd (i45 S5 ha) (ok_gd (S5.1 38) ?_))))))
  rw [(h5 c hc.1 hc.2).2, (h5 a ha.1 ha.2).1]
  have sd6 : Sd (mLw r5 b (wrap (r5.2 c - r5.1 a))) := sdL sd5 P5.1 (fun f hf qa qb qc => by rw [wrap_id (by omega) (by omega)]; omega)
  refine ok_I (lower_m (d := d) S5 h5 hn hrow hb _) (fun v18 z6 ⟨e18, h6, f6⟩ => ?_)
  have p6 := mLw_op (n := n) (r := r5) (h := wrap (r5.2 c - r5.1 a)) hb
  rw [← e18] at p6
  have P6 := P5.tr p6
  refine ok_gd P6.2.1 (ok_ret ⟨_, rfl, _, h6, (F4.tr f5).tr f6, P6, sd6, fun hB hx => ?_⟩)
  have q1 := ((orBB P5.2.1 p6.2.1).2.mp hx).1
  have q2 := ((orBB P4.2.1 p5.2.1).2.mp q1).1
  have q3 := ((orBB P2.2.1 (p3.tr p4).2.1).2.mp q2).1
  have q4 : v5 = 0 ∧ v6 = 0 := by
    have b5 : v5 = 0 ∨ v5 = 1 := bv5
    have b6 : v6 = 0 ∨ v6 = 1 := bv6
    exact (orBB b5 b6).2.mp q3
  exact stable hB q4.1 q4.2
end ND
