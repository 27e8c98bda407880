/-! the reference: all bounds of a row drawn in -/
def SolS (t : Int → Int → Int) (n : Int) (f : Int → Int) : Prop := ∀ a b, 0 ≤ a → a < n → 0 ≤ b → b < n → t a b ≠ 12 → f a + f b = f (t a b)
def InR (n : Int) (r : AB) (f : Int → Int) : Prop := ∀ j, 0 ≤ j → j < n → wi r f j
def Ded (n : Int) (r : AB) : Prop := ∃ j, (0 ≤ j ∧ j < n) ∧ r.2 j < r.1 j
def Vdd (n : Int) (t : Int → Int → Int) (rI p : AB) : Prop := (Bd n p ∧ ∀ f, SolS t n f → InR n rI f → InR n p f) ∨ (Ded n p ∧ ∀ f, SolS t n f → ¬ InR n rI f)
def Stl (n : Int) (t : Int → Int → Int) (D : Int → Int → Prop) (q : AB) : Prop := ∀ x y, D x y → (0 ≤ x ∧ x < n) → (0 ≤ y ∧ y < n) → t x y ≠ 12 → q.1 x + q.1 y ≤ q.1 (t x y) ∧ q.2 (t x y) ≤ q.2 x + q.2 y
def Rng6 (n : Int) (r : AB) : Prop := ∀ j, 0 ≤ j → j < n → 0 ≤ r.1 j ∧ r.2 j ≤ 6
section NE
variable {X : Nat × (Nat → Int)} {d : Nat} {w w' w2 : MW} {n row : Int} {t : Int → Int → Int} {r r' q p p2 rI : AB}
theorem alive_or (n : Int) (r : AB) : (∀ j, 0 ≤ j → j < n → r.1 j ≤ r.2 j) ∨ Ded n r := by
  refine Classical.byCases Or.inr (fun h => Or.inl (fun j j0 j1 => Classical.byContradiction fun g => h ⟨j, ⟨j0, j1⟩, by omega⟩))
theorem Ded.mono (h : Ded n r) (hs : shr n r r') : Ded n r' := by
  obtain ⟨j, hj, h1⟩ := h
  exact ⟨j, hj, by have := hs j hj.1 hj.2; omega⟩
theorem Bd.ded (h : Bd n r) : ¬ Ded n r := fun ⟨j, hj, h1⟩ => by have := h j hj.1 hj.2; omega
theorem Vdd.start (h6 : Rng6 n rI) : Vdd n t rI rI := by
  rcases alive_or n rI with h | h
  · exact Or.inl ⟨fun j j0 j1 => by have := h6 j j0 j1; have := h j j0 j1; omega, fun f _ g => g⟩
  · refine Or.inr ⟨h, fun f _ g => ?_⟩
    obtain ⟨j, hj, h1⟩ := h
    have := g j hj.1 hj.2
    unfold wi at this
    omega
theorem Vdd.step (h6 : Rng6 n rI) (hv : Vdd n t rI p) (hs : shr n rI p) (hs2 : shr n p p2) (hsd : Bd n p → ∀ f, SolS t n f → InR n p f → InR n p2 f) : Vdd n t rI p2 := by
  rcases hv with ⟨hB, hf⟩ | ⟨hD, hf⟩
  · rcases alive_or n p2 with h | h
    · exact Or.inl ⟨fun j j0 j1 => by have := h6 j j0 j1; have := h j j0 j1; have := hs j j0 j1; have := hs2 j j0 j1; omega, fun f g1 g2 => hsd hB f g1 (hf f g1 g2)⟩
    · refine Or.inr ⟨h, fun f g1 g2 => ?_⟩
      have g3 := hsd hB f g1 (hf f g1 g2)
      obtain ⟨j, hj, h1⟩ := h
      have := g3 j hj.1 hj.2
      unfold wi at this
      omega
  · exact Or.inr ⟨hD.mono hs2, hf⟩
/-- within a pass -/
def PsI (w : MW) (n row : Int) (t : Int → Int → Int) (rI q : AB) (D : Int → Int → Prop) (z : AB × Int × MW) : Prop :=
  (RowW z.2.2 n row z.1 ∧ FrR row w z.2.2) ∧ Vdd n t rI z.1 ∧ shr n rI z.1 ∧ shr n q z.1 ∧ (z.2.1 = 0 ∨ z.2.1 = 1) ∧ (z.2.1 ≠ 0 → ∃ j, (0 ≤ j ∧ j < n) ∧ (q.1 j < z.1.1 j ∨ z.1.2 j < q.2 j)) ∧ (z.2.1 = 0 → z.1 = q ∧ (Bd n q → Stl n t D q))
theorem pass_m (hS : Sh w) (hT : TbM w n t) (hw : twf t n) (h2n : 2 ≤ n) (hn : n ≤ 12) (hrow : 0 ≤ row ∧ row ≤ 144) (h6 : Rng6 n rI) {z0 : MW} (h0 : PsI w n row t rI q (fun _ _ => False) (q, 0, z0)) {P : Option MV → MW → Prop}
    (k : ∀ z : AB × Int × MW, PsI w n row t rI q (fun x y => x ≤ y) z → Ok (R X (d + 2) 161 86 [some (.inr 38), some (.inl row), some (.inl 1), some (.inl z.2.1), some (.inl 0), none] [] z.2.2) P) :
    Ok (R X (d + 2) 161 17 [some (.inr 38), some (.inl row), some (.inl 1), some (.inl 0), some (.inl 0), none] [] z0) P := by
  have hn0 : ∀ z, FrR row w z → gi z 38 0 = n := fun z q => by rw [q.1.gi (by omega)]; exact hT.1
  have sub : ∀ {D D' : Int → Int → Prop} {z : AB × Int × MW}, PsI w n row t rI q D z → (∀ x y, (0 ≤ x ∧ x < n) → (0 ≤ y ∧ y < n) → D' x y → t x y ≠ 12 → D x y) → PsI w n row t rI q D' z := fun {D D' z} h hd => ⟨h.1, h.2.1, h.2.2.1, h.2.2.2.1, h.2.2.2.2.1, h.2.2.2.2.2.1, fun g => ⟨(h.2.2.2.2.2.2 g).1, fun hB x y hD hx hy h12 => (h.2.2.2.2.2.2 g).2 hB x y (hd x y hx hy hD h12) hx hy h12⟩⟩
  refine ok_up (fun a (z : AB × Int × MW) => R X (d + 2) 161 17 [some (.inr 38), some (.inl row), some (.inl 1), some (.inl z.2.1), some (.inl a), none] [] z.2.2) (fun a z => PsI w n row t rI q (fun x y => x < a ∧ x ≤ y) z) 0 n (by omega) ?_ ?_ (q, 0, z0) (sub h0 (fun x y hx hy hd _ => by omega))
  · intro a z a0 a1 hz iha
    have Sz := hS.kp hz.1.2.1
    refine ok_eq (b161_17 X (d + 1) 38 row 1 z.2.1 a z.2.2) (ok_gd (Sz.1 38) (ok_iff (by rw [hn0 _ hz.1.2]; omega) ?_))
    refine ok_up (fun b (z : AB × Int × MW) => R X (d + 2) 161 30 [some (.inr 38), some (.inl row), some (.inl 1), some (.inl z.2.1), some (.inl a), some (.inl b)] [] z.2.2) (fun b z => PsI w n row t rI q (fun x y => x ≤ y ∧ (x < a ∨ (x = a ∧ y < b))) z) a n (by omega) ?_ ?_ z (sub hz (fun x y hx hy hd _ => by omega))
    · intro b u b0 b1 hu ihb
      obtain ⟨p, m, y⟩ := u
      obtain ⟨⟨hR, hF⟩, hV, hsI, hsq, hm, hm1, hm0⟩ := id hu
      dsimp only at hR hF hV hsI hsq hm hm1 hm0 ⊢
      have Sy := hS.kp hF.1
      have hTy : TbM y n t := hT.kp hF.1 (by omega)
      have val := hw.2.1 a b
      refine ok_eq (b161_30 X (d + 1) 38 row 1 m a b y) (ok_gd (Sy.1 38) (ok_iff (by rw [hn0 _ hF]; omega) (ok_gd (Sy.1 38) (ok_i (plus_ok Sy hTy hw hn (by omega) (by omega)) ?_))))
      rw [wrap_id (z := b + 1) (by omega) (by omega)]
      refine ok_if (fun g => ?_) (fun g => ?_)
      · have h12 := (mc_m1 (tv12 hw hn a b)).mp g
        refine ihb (p, m, y) (sub hu (fun x y' hx hy hd h12' => ?_))
        by_cases e : x = a ∧ y' = b
        · rw [e.1, e.2] at h12'; exact absurd h12 h12'
        · omega
      · have h12 : t a b ≠ 12 := fun r => g ((mc_m1 (tv12 hw hn a b)).mpr r)
        refine ok_gd (Sy.1 38) (ok_i (plus_ok Sy hTy hw hn (by omega) (by omega)) (ok_gd (Sy.1 38) ?_))
        rw [mc_ne h12]
        refine ok_I (drawn_m (d := d) Sy hR hn hrow (a := a) (b := b) (c := t a b) (by omega) (by omega) (by omega)) (fun x y2 ⟨p2, r1, r2, r3, r4, r5⟩ => ?_)
        have hor := orBB hm r3.2.1
        refine ihb (p2, orI m x, y2) ⟨⟨r1, hF.tr r2⟩, hV.step h6 hsI r3.1 (fun hB f g1 g2 => r4 hB f (g1 a b (by omega) (by omega) (by omega) (by omega) h12) g2), hsI.tr r3.1, hsq.tr r3.1, hor.1, fun g1 => ?_, fun g1 => ?_⟩
        · dsimp only at g1 ⊢
          by_cases q1 : m = 0
          · have q2 : x ≠ 0 := fun q2 => g1 (hor.2.mpr ⟨q1, q2⟩)
            obtain ⟨j, j1, j2⟩ := r3.2.2.2 q2
            exact ⟨j, j1, by have := hsq j j1.1 j1.2; omega⟩
          · obtain ⟨j, j1, j2⟩ := hm1 q1
            exact ⟨j, j1, by have := r3.1 j j1.1 j1.2; omega⟩
        · dsimp only at g1 ⊢
          obtain ⟨q1, q2⟩ := hor.2.mp g1
          obtain ⟨e1, e2⟩ := hm0 q1
          refine ⟨by rw [r3.2.2.1 q2, e1], fun hB x' y' hD hx hy h12' => ?_⟩
          by_cases e : x' = a ∧ y' = b
          · rw [e.1, e.2]
            have := r5 (by rw [e1]; exact hB) q2
            rw [e1] at this
            exact this
          · exact e2 hB x' y' (by omega) hx hy h12'
    · intro u hu
      have Su := hS.kp hu.1.2.1
      refine ok_eq (b161_30 X (d + 1) 38 row 1 u.2.1 a n u.2.2) (ok_gd (Su.1 38) (ok_ift (by rw [hn0 _ hu.1.2]; omega) ?_))
      rw [wrap_id (z := a + 1) (by omega) (by omega)]
      exact iha u (sub hu (fun x y hx hy hd _ => by omega))
  · intro z hz
    have Sz := hS.kp hz.1.2.1
    exact ok_eq (b161_17 X (d + 1) 38 row 1 z.2.1 n z.2.2) (ok_gd (Sz.1 38) (ok_ift (by rw [hn0 _ hz.1.2]; omega) (k z (sub hz (fun x y hx hy hd _ => by omega)))))
def OpnP (w : MW) (n row : Int) (t : Int → Int → Int) (rI : AB) (x : Int) (w' : MW) : Prop := FrR row w w' ∧ (x = 0 ∨ x = 1) ∧ (x = 0 → ∀ f, SolS t n f → ¬ InR n rI f) ∧ (x ≠ 0 → ∃ r', RowW w' n row r' ∧ Bd n r' ∧ shr n rI r' ∧ Stl n t (fun x y => x ≤ y) r' ∧ ∀ f, SolS t n f → InR n rI f → InR n r' f)
theorem opn_go (hS : Sh w) (hT : TbM w n t) (hw : twf t n) (h2n : 2 ≤ n) (hn : n ≤ 12) (hrow : 0 ≤ row ∧ row ≤ 144) (h6 : Rng6 n rI) : ∀ (k : Nat) (q : AB) (z : MW), RowW z n row q → FrR row w z → Vdd n t rI q → shr n rI q → (Bd n q → Wd n q < k) → OkI (R X (d + 2) 161 4 [some (.inr 38), some (.inl row), some (.inl 1), some (.inl 1), none, none] [] z) (OpnP w n row t rI) := by
  have hn0 : ∀ z, FrR row w z → gi z 38 0 = n := fun z q => by rw [q.1.gi (by omega)]; exact hT.1
  intro k
  induction k using Nat.strongRecOn with
  | _ k ih =>
    intro q z hR hF hV hsI hk
    refine ok_eq (b161_4 X (d + 1) 38 row 1 1 z) (ok_iff (by omega) (ok_iff (by omega) ?_))
    refine pass_m (d := d) (q := q) hS hT hw h2n hn hrow h6 ⟨⟨hR, hF⟩, hV, hsI, shr.rf, Or.inl rfl, fun g => absurd rfl g, fun _ => ⟨rfl, fun _ x y hd => hd.elim⟩⟩ (fun u hu => ?_)
    obtain ⟨p, m, y⟩ := u
    obtain ⟨⟨hR2, hF2⟩, hV2, hsI2, hsq, hm, hm1, hm0⟩ := hu
    dsimp only at hR2 hF2 hV2 hsI2 hsq hm hm1 hm0 ⊢
    have Sy := hS.kp hF2.1
    refine ok_up (fun i (l : Int) => R X (d + 2) 161 86 [some (.inr 38), some (.inl row), some (.inl l), some (.inl m), some (.inl i), none] [] y) (fun i l => (l = 0 ∨ l = 1) ∧ (l ≠ 0 ↔ ∀ j, 0 ≤ j → j < i → p.1 j ≤ p.2 j)) 0 n (by omega) ?_ ?_ 1 ⟨Or.inr rfl, ⟨fun _ j j0 j1 => by omega, fun _ => by omega⟩⟩
    · intro i l i0 i1 ⟨hl, hI⟩ ihi
      refine ok_eq (b161_86 X (d + 1) 38 row l m i y) (ok_gd (Sy.1 38) (ok_iff (by rw [hn0 _ hF2]; omega) ?_))
      rw [wrap_id (z := i + 1) (by omega) (by omega), wrap_id (z := row + i) (by omega) (by omega)]
      refine ok_if (fun g => ihi 0 ⟨Or.inl rfl, ⟨fun r => absurd rfl r, fun r => ?_⟩⟩) (fun g => ok_gd (Sy.1 38) (ok_r (Sy.2.2 38 13 (by decide)) (ok_gd ⟨Sy.1 45, by omega, by rw [show ln y 45 = 156 from Sy.2.1 45]; omega⟩ (ok_gd (Sy.1 38) (ok_r (Sy.2.2 38 14 (by decide)) (ok_gd ⟨Sy.1 46, by omega, by rw [show ln y 46 = 156 from Sy.2.1 46]; omega⟩ ?_))))))
      · exact absurd g (hI.mpr (fun j j0 j1 => r j j0 (by omega)))
      · rw [(hR2 i i0 i1).1, (hR2 i i0 i1).2]
        have hI' := hI.mp g
        refine ok_if (fun g2 => ihi 0 ⟨Or.inl rfl, ⟨fun r => absurd rfl r, fun r => ?_⟩⟩) (fun g2 => ihi 1 ⟨Or.inr rfl, ⟨fun _ j j0 j1 => ?_, fun _ => by omega⟩⟩)
        · have := r i i0 (by omega)
          omega
        · by_cases e : j = i
          · rw [e]; omega
          · exact hI' j j0 (by omega)
    · intro l ⟨hl, hI⟩
      refine ok_eq (b161_86 X (d + 1) 38 row l m n y) (ok_gd (Sy.1 38) (ok_ift (by rw [hn0 _ hF2]; omega) ?_))
      have zero : l = 0 → OpnP w n row t rI l y := fun g => by
        refine ⟨hF2, hl, fun _ => ?_, fun r => absurd g r⟩
        rcases hV2 with ⟨hB, _⟩ | ⟨_, hf⟩
        · exact absurd g (hI.mpr (fun j j0 j1 => (hB j j0 j1).2.1))
        · exact hf
      by_cases g : l = 0
      · exact ok_eq (b161_4 X (d + 1) 38 row l m y) (ok_if (fun _ => ok_gd hl (ok_ret ⟨l, rfl, zero g⟩)) (fun _ => ok_ift g (ok_gd hl (ok_ret ⟨l, rfl, zero g⟩))))
      · have hal := hI.mp g
        have l1 : l = 1 := hl.resolve_left g
        have hlive : Bd n p ∧ ∀ f, SolS t n f → InR n rI f → InR n p f := by
          rcases hV2 with h | ⟨h, _⟩
          · exact h
          · obtain ⟨j, hj, h1⟩ := h
            have := hal j hj.1 hj.2
            omega
        have hBq : Bd n q := by
          rcases hV with h | ⟨h, _⟩
          · exact h.1
          · exact absurd (h.mono hsq) (Bd.ded hlive.1)
        rcases hm with g0 | g1
        · obtain ⟨e1, e2⟩ := hm0 g0
          refine ok_eq (b161_4 X (d + 1) 38 row l m y) (ok_ift g0 (ok_gd hl (ok_ret ⟨l, rfl, hF2, hl, fun r => absurd r g, fun _ => ⟨p, hR2, hlive.1, hsI2, ?_, hlive.2⟩⟩)))
          rw [e1]
          exact e2 hBq
        · rw [l1, g1]
          obtain ⟨j, hj, h1⟩ := hm1 (by omega)
          have sj := hsq j hj.1 hj.2
          have hlt := Wd_lt hsq hj (by omega)
          have hnn := Wd_nn hlive.1
          have hkq := hk hBq
          exact ih (Wd n q).toNat (by omega) p y hR2 hF2 (Or.inl hlive) hsI2 (fun _ => by omega)
theorem opn_m (hS : Sh w) (hT : TbM w n t) (hw : twf t n) (h2n : 2 ≤ n) (hn : n ≤ 12) (hrow : 0 ≤ row ∧ row ≤ 144) (h6 : Rng6 n rI) (hR : RowW w n row rI) : OkI (run X (d + 2) 161 [.inr 38, .inl row] w) (OpnP w n row t rI) := by
  refine ok_eq (b161_0 X (d + 1) 38 row w) ?_
  exact opn_go (d := d) hS hT hw h2n hn hrow h6 ((Wd n rI).toNat + 1) rI w hR FrR.rf (Vdd.start h6) shr.rf (fun _ => by omega)
end NE
