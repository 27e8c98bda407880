/-! weights: the groups and the search in the machine -/
def GrS (w : MW) (n : Int) (g : Int → Int) : Prop := ∀ x, 0 ≤ x → x < n → gi w 36 x.toNat = g x
def jg (g : Int → Int) (a b : Int) : Int → Int := if a = -1 ∨ b = -1 then g else fun x => if g x = a ∨ g x = b then minI a b else g x
def j1 (g : Int → Int) (s : T3) : Int → Int := jg g (g s.1) (g s.2.1)
def j2 (g : Int → Int) (s : T3) : Int → Int := jg g (g s.1) (g s.2.2)
def j3 (g : Int → Int) (s : T3) : Int → Int := jg g (g s.2.1) (g s.2.2)
def jg3 (g : Int → Int) (s : T3) : Int → Int := j3 (j2 (j1 g s) s) s
def grp0 (r : AB) : Int → Int := fun x => if r.1 x < r.2 x then x else -1
def grps (ps : List T3) (r : AB) : Int → Int := ps.foldl jg3 (grp0 r)
abbrev Nt : Type := ((Int → Int) × (Int → Int) × (Int → Int)) × Int
def NtS (w : MW) (n : Int) (nt : Nt) : Prop := (∀ x, 0 ≤ x → x < n → gi w 28 x.toNat = nt.1.1 x ∧ gi w 29 x.toNat = nt.1.2.1 x ∧ gi w 30 x.toNat = nt.1.2.2 x) ∧ gi w 27 12 = nt.2
def noteN (g : Int → Int) (G : Int) (r : AB) (nt : Nt) : Nt := ((fun x => if g x = G ∧ nt.2 = 0 then r.1 x else nt.1.1 x, fun x => if g x = G then minI (nt.1.2.1 x) (r.1 x) else nt.1.2.1 x, fun x => if g x = G then maxI (nt.1.2.2 x) (r.1 x) else nt.1.2.2 x), nt.2 + 1)
def fopn (n : Int) (g : Int → Int) (G : Int) (r : AB) : Int := lsA (fun x => decide (g x = G) && decide (r.1 x < r.2 x)) n
def setR (r : AB) (y v : Int) : AB := (fun x => if x = y then v else r.1 x, fun x => if x = y then v else r.2 x)
def wloop (body : Int → Nt → Nt) : Nat → Int → Nt → Nt
  | 0, _, nt => nt
  | k + 1, v, nt => wloop body k (v + 1) (body v nt)
def wbody (n : Int) (ps : List T3) (F : AB → Nt → Nt) (r : AB) (y v : Int) (nt : Nt) : Nt := match nrw n ps (setR r y v) with
  | none => nt
  | some r' => F r' nt
def wghF (n : Int) (ps : List T3) (g : Int → Int) (G : Int) : Nat → AB → Nt → Nt
  | 0, r, nt => noteN g G r nt
  | f + 1, r, nt => if fopn n g G r = 12 then noteN g G r nt else wloop (wbody n ps (wghF n ps g G f) r (fopn n g G r)) (r.2 (fopn n g G r) - r.1 (fopn n g G r) + 1).toNat (r.1 (fopn n g G r)) nt
/-- what the search leaves as it was -/
def Kw (l : Int) (w w' : MW) : Prop := Kp 27 35 w w' ∧ (∀ j, j ≠ 12 → gi w' 27 j = gi w 27 j) ∧ (∀ b, 31 ≤ b → b ≤ 33 → ∀ j, gi w' b j = gi w b j) ∧ ∀ j : Nat, (j : Int) < l * 12 + 12 → gi w' 34 j = gi w 34 j ∧ gi w' 35 j = gi w 35 j
section WS
variable {X : Nat × (Nat → Int)} {d : Nat} {w w' w2 : MW} {n l : Int} {r : AB} {s : T3} {ps : List T3} {g : Int → Int} {G : Int} {nt : Nt}
theorem Kw.rf : Kw l w w := ⟨Kp.rf, fun _ _ => rfl, fun _ _ _ _ => rfl, fun _ _ => ⟨rfl, rfl⟩⟩
theorem Kw.tr (h : Kw l w w') (h2 : Kw l w' w2) : Kw l w w2 := ⟨h.1.tr h2.1, fun j hj => (h2.2.1 j hj).trans (h.2.1 j hj), fun b q1 q2 j => (h2.2.2.1 b q1 q2 j).trans (h.2.2.1 b q1 q2 j), fun j hj => ⟨(h2.2.2.2 j hj).1.trans (h.2.2.2 j hj).1, (h2.2.2.2 j hj).2.trans (h.2.2.2 j hj).2⟩⟩
theorem Kw.up {l' : Int} (h : Kw l' w w') (hl : l ≤ l') : Kw l w w' := ⟨h.1, h.2.1, h.2.2.1, fun j hj => h.2.2.2 j (by omega)⟩
theorem Kl.kw {l' : Int} (h : Kl l' w w') (hl : l < l') : Kw l w w' := ⟨h.1.wide (by omega) (by omega), fun j _ => h.1.gi (by omega) j, fun b q1 q2 j => h.1.gi (by omega) j, fun j hj => h.2 j (by omega)⟩
theorem PsS.kw (h : PsS w ps) (k : Kw l w w') : PsS w' ps := ⟨by rw [k.2.1 5 (by omega)]; exact h.1, h.2.1, fun i s hi => by rw [k.2.2.1 31 (by omega) (by omega), k.2.2.1 32 (by omega) (by omega), k.2.2.1 33 (by omega) (by omega)]; exact h.2.2 i s hi⟩
theorem Rl.kw (h : Rl w n l r) (k : Kw l w w') (hn : n ≤ 12) (hl : 0 ≤ l) : Rl w' n l r := fun x h0 h1 => by
  have := k.2.2.2 (l * 12 + x).toNat (by omega)
  rw [this.1, this.2]
  exact h x h0 h1
theorem GrS.kw (h : GrS w n g) (k : Kw l w w') : GrS w' n g := fun x h0 h1 => by rw [k.1.gi (by omega)]; exact h x h0 h1
theorem fop_ok (hS : Sh w) (hR : Rl w n l r) (hG : GrS w n g) (h4 : gi w 27 4 = n) (hn : n ≤ 12) (h0n : 0 ≤ n) (hl : 0 ≤ l ∧ l ≤ 11) : run X (d + 1) 67 [.inr 27, .inl G, .inl l] w = some (some (.inl (if fopn n g G r = 12 then -1 else fopn n g G r)), w) := by
  have k27 : kd w 27 = 15 := hS.1 27
  have k36 : kd w 36 = 1 := hS.1 36
  have l36 : ln w 36 = 12 := hS.2.1 36
  have g11 : gr w 27 11 = some 36 := hS.2.2 27 11 (by decide)
  have hc := lsA_cases (p := fun x => decide (g x = G) && decide (r.1 x < r.2 x)) h0n
  have hdef : fopn n g G r = lsA (fun x => decide (g x = G) && decide (r.1 x < r.2 x)) n := rfl
  apply ok_one
  refine ok_eq (b67_0 X d 27 G l w) ?_
  refine ok_up (fun i s => R X (d + 1) 67 2 [some (.inr 27), some (.inl G), some (.inl l), some (.inl i)] [] s) (fun i s => s = w ∧ ∀ x, 0 ≤ x → x < i → (decide (g x = G) && decide (r.1 x < r.2 x)) = false) 0 n h0n ?_ ?_ w ⟨rfl, fun x q1 q2 => by omega⟩
  · intro i s h1 h2 ⟨e, hE⟩ ih
    subst e
    have nxt : (decide (g i = G) && decide (r.1 i < r.2 i)) = false → ∀ x, 0 ≤ x → x < i + 1 → (decide (g x = G) && decide (r.1 x < r.2 x)) = false := fun hh x q1 q2 => by
      by_cases hx : x = i
      · rw [hx]; exact hh
      · exact hE x q1 (by omega)
    refine ok_eq (b67_2 X d 27 G l i s) (ok_gd k27 (ok_iff (by rw [h4]; omega) (ok_gd k27 (ok_r g11 (ok_gd ⟨k36, h1, by rw [l36]; omega⟩ ?_)))))
    rw [hG i h1 h2, wrap_id (z := l * 12) (by omega) (by omega), wrap_id (z := l * 12 + i) (by omega) (by omega), wrap_id (z := i + 1) (by omega) (by omega)]
    refine ok_if (fun hc1 => ih s ⟨rfl, nxt (by simp [hc1])⟩) (fun hc1 => ok_gd k27 (ok_i (opn_ok hS hR hn hl ⟨h1, h2⟩) (ok_if (fun hc2 => ih s ⟨rfl, nxt ?_⟩) (fun hc2 => ok_ret ⟨?_, rfl⟩))))
    · have := bI_eq.mp hc2
      simp [this]
    · have h3 := bI_ne.mp hc2
      have h5 := Decidable.not_not.mp hc1
      have : fopn n g G r = i := by
        rw [hdef]
        rcases hc with ⟨_, hh⟩ | ⟨q1, q2, q3, q4⟩
        · have := hh i h1 h2
          simp [h3, h5] at this
        · by_cases ha : lsA (fun x => decide (g x = G) && decide (r.1 x < r.2 x)) n < i
          · have := hE _ q1 ha
            rw [this] at q3
            exact absurd q3 (by decide)
          · by_cases hb : i < lsA (fun x => decide (g x = G) && decide (r.1 x < r.2 x)) n
            · have := q4 i h1 hb
              simp [h3, h5] at this
            · omega
      rw [this, if_neg (by omega)]
  · intro s ⟨e, hE⟩
    subst e
    refine ok_eq (b67_2 X d 27 G l n s) (ok_gd k27 (ok_ift (by rw [h4]; omega) (ok_ret ⟨?_, rfl⟩)))
    rcases hc with ⟨q1, _⟩ | ⟨q1, q2, q3, q4⟩
    · rw [hdef, q1, if_pos rfl]
    · have := hE _ q1 q2
      rw [this] at q3
      exact absurd q3 (by decide)
theorem note_w (hS : Sh w) (hR : Rl w n l r) (hG : GrS w n g) (hN : NtS w n nt) (h4 : gi w 27 4 = n) (hn : n ≤ 12) (h0n : 0 ≤ n) (hl : 0 ≤ l ∧ l ≤ 11) (hw : 0 ≤ nt.2 ∧ nt.2 + 1 < 2147483648) : OkV (run X d 69 [.inr 27, .inl G, .inl l] w) (fun w' => NtS w' n (noteN g G r nt) ∧ Kp 27 30 w w' ∧ ∀ j, j ≠ 12 → gi w' 27 j = gi w 27 j) := by
  refine ok_eq (b69_0 X d 27 G l w) ?_
  have hm : ∀ x i : Int, i ≤ x → x < i + 1 → x = i := fun x i q1 q2 => by omega
  refine ok_up (fun i z => R X d 69 2 [some (.inr 27), some (.inl G), some (.inl l), some (.inl i), none] [] z) (fun i z => Kp 28 30 w z ∧ ∀ x, 0 ≤ x → x < n → (x < i → gi z 28 x.toNat = (noteN g G r nt).1.1 x ∧ gi z 29 x.toNat = (noteN g G r nt).1.2.1 x ∧ gi z 30 x.toNat = (noteN g G r nt).1.2.2 x) ∧ (i ≤ x → gi z 28 x.toNat = nt.1.1 x ∧ gi z 29 x.toNat = nt.1.2.1 x ∧ gi z 30 x.toNat = nt.1.2.2 x)) 0 n h0n ?_ ?_ w ⟨Kp.rf, fun x q1 q2 => ⟨fun q => by omega, fun _ => hN.1 x q1 q2⟩⟩
  · intro i z h1 h2 ⟨hK, hI⟩ ih
    have Sz := hS.kp hK
    have k27 : kd z 27 = 15 := Sz.1 27
    have k28 : kd z 28 = 1 := Sz.1 28
    have k29 : kd z 29 = 1 := Sz.1 29
    have k30 : kd z 30 = 1 := Sz.1 30
    have k34 : kd z 34 = 1 := Sz.1 34
    have k36 : kd z 36 = 1 := Sz.1 36
    have l28 : ln z 28 = 12 := Sz.2.1 28
    have l29 : ln z 29 = 12 := Sz.2.1 29
    have l30 : ln z 30 = 12 := Sz.2.1 30
    have l34 : ln z 34 = 144 := Sz.2.1 34
    have l36 : ln z 36 = 12 := Sz.2.1 36
    have g1 : gr z 27 1 = some 28 := Sz.2.2 27 1 (by decide)
    have g2 : gr z 27 2 = some 29 := Sz.2.2 27 2 (by decide)
    have g3 : gr z 27 3 = some 30 := Sz.2.2 27 3 (by decide)
    have g9 : gr z 27 9 = some 34 := Sz.2.2 27 9 (by decide)
    have g11 : gr z 27 11 = some 36 := Sz.2.2 27 11 (by decide)
    obtain ⟨o1, o2, o3⟩ := (hI i h1 h2).2 (Int.le_refl _)
    have e12 : gi z 27 12 = nt.2 := by rw [hK.gi (by omega)]; exact hN.2
    have eg : gi z 36 i.toNat = g i := by rw [hK.gi (by omega)]; exact hG i h1 h2
    have er : gi z 34 (l * 12 + i).toNat = r.1 i := by rw [hK.gi (by omega)]; exact (hR i h1 h2).1
    refine ok_eq (b69_2 X d 27 G l i z) (ok_gd k27 (ok_iff (by rw [hK.gi (by omega), h4]; omega) (ok_gd k27 (ok_r g11 (ok_gd ⟨k36, h1, by rw [l36]; omega⟩ ?_)))))
    rw [eg, wrap_id (z := l * 12) (by omega) (by omega), wrap_id (z := l * 12 + i) (by omega) (by omega), wrap_id (z := i + 1) (by omega) (by omega)]
    have last : ∀ y, Kp 28 30 z y → (∀ j : Nat, gi y 28 j = if (j : Int) = i then (noteN g G r nt).1.1 i else gi z 28 j) → (∀ j, gi y 29 j = gi z 29 j) → (∀ j, gi y 30 j = gi z 30 j) → g i = G → Ok (R X d 69 48 [some (.inr 27), some (.inl G), some (.inl l), some (.inl i), some (.inl (r.1 i))] [] y) (fun v w' => v = none ∧ NtS w' n (noteN g G r nt) ∧ Kp 27 30 w w' ∧ ∀ j, j ≠ 12 → gi w' 27 j = gi w 27 j) := by
      intro y hKy y28 y29 y30 hgi
      have q27 : kd y 27 = 15 := by rw [hKy.kd]; exact k27
      have q29 : kd y 29 = 1 := by rw [hKy.kd]; exact k29
      have q30 : kd y 30 = 1 := by rw [hKy.kd]; exact k30
      have m29 : ln y 29 = 12 := by rw [hKy.ln]; exact l29
      have m30 : ln y 30 = 12 := by rw [hKy.ln]; exact l30
      have u2 : gr y 27 2 = some 29 := by rw [hKy.gr]; exact g2
      have u3 : gr y 27 3 = some 30 := by rw [hKy.gr]; exact g3
      refine ok_eq (b69_48 X d 27 G l i (r.1 i) y) (ok_gd q27 (ok_r u2 (ok_gd q27 (ok_r u2 (ok_gd ⟨q29, h1, by rw [m29]; omega⟩ (ok_gd ⟨q29, h1, by rw [m29]; omega⟩ (ok_gd q27 (ok_r u3 (ok_gd q27 (ok_r u3 (ok_gd ⟨q30, h1, by show _ < ((ln y 30 : Nat) : Int); rw [m30]; omega⟩ (ok_gd ⟨q30, h1, by show _ < ((ln y 30 : Nat) : Int); rw [m30]; omega⟩ ?_))))))))))))
      rw [wrap_id (z := i + 1) (by omega) (by omega), gi_si_ne (by omega), y29, y30, o2, o3]
      have b2 : (noteN g G r nt).1.2.1 i = minI (nt.1.2.1 i) (r.1 i) := if_pos hgi
      have b3 : (noteN g G r nt).1.2.2 i = maxI (nt.1.2.2 i) (r.1 i) := if_pos hgi
      refine ih _ ⟨(hK.tr hKy).tr ((Kp.si (by omega) (by omega)).tr (Kp.si (by omega) (by omega))), fun x x0 x1 => ⟨fun hx => ?_, fun hx => ?_⟩⟩
      · by_cases e : x = i
        · subst e
          refine ⟨?_, ?_, ?_⟩
          · rw [gi_si_ne (by omega), gi_si_ne (by omega), y28, if_pos (by omega)]
          · rw [gi_si_ne (by omega), gi_si_eq, b2]
          · rw [gi_si_eq, b3]
        · obtain ⟨v1, v2, v3⟩ := (hI x x0 x1).1 (by omega)
          refine ⟨?_, ?_, ?_⟩
          · rw [gi_si_ne (by omega), gi_si_ne (by omega), y28, if_neg (by omega)]; exact v1
          · rw [gi_si_ne (by omega), gi_si_ne2 (by omega), y29]; exact v2
          · rw [gi_si_ne2 (by omega), gi_si_ne (by omega), y30]; exact v3
      · obtain ⟨v1, v2, v3⟩ := (hI x x0 x1).2 (by omega)
        refine ⟨?_, ?_, ?_⟩
        · rw [gi_si_ne (by omega), gi_si_ne (by omega), y28, if_neg (by omega)]; exact v1
        · rw [gi_si_ne (by omega), gi_si_ne2 (by omega), y29]; exact v2
        · rw [gi_si_ne2 (by omega), gi_si_ne (by omega), y30]; exact v3
    refine ok_if (fun hc1 => ih z ⟨hK, fun x x0 x1 => ⟨fun hx => ?_, fun hx => (hI x x0 x1).2 (by omega)⟩⟩) (fun hc1 => ok_gd k27 (ok_r g9 (ok_gd ⟨k34, by omega, by rw [l34]; omega⟩ (ok_gd k27 ?_))))
    · by_cases e : x = i
      · subst e
        refine ⟨o1.trans ?_, o2.trans ?_, o3.trans ?_⟩
        · exact (if_neg (fun q => hc1 q.1)).symm
        · exact (if_neg (fun q => hc1 q)).symm
        · exact (if_neg (fun q => hc1 q)).symm
      · exact (hI x x0 x1).1 (by omega)
    · have hgi := Decidable.not_not.mp hc1
      rw [e12, er]
      refine ok_if (fun hc2 => last z Kp.rf (fun j => ?_) (fun _ => rfl) (fun _ => rfl) hgi) (fun hc2 => ok_gd k27 (ok_r g1 (ok_gd ⟨k28, h1, by rw [l28]; omega⟩ (last _ (Kp.si (by omega) (by omega)) (fun j => ?_) (fun j => gi_si_ne (by omega)) (fun j => gi_si_ne (by omega)) hgi))))
      · split
        · next e => rw [show j = i.toNat by omega, o1]; exact (if_neg (fun q => hc2 q.2)).symm
        · rfl
      · by_cases e : (j : Int) = i
        · rw [if_pos e, show j = i.toNat by omega, gi_si_eq]
          exact (if_pos ⟨hgi, Decidable.not_not.mp hc2⟩).symm
        · rw [if_neg e, gi_si_ne2 (by omega)]
  · intro z ⟨hK, hI⟩
    have Sz := hS.kp hK
    have e12 : gi z 27 12 = nt.2 := by rw [hK.gi (by omega)]; exact hN.2
    refine ok_eq (b69_2 X d 27 G l n z) (ok_gd (Sz.1 27) (ok_ift (by rw [hK.gi (by omega), h4]; omega) (ok_gd (Sz.1 27) (ok_gd (Sz.1 27) (ok_ret ⟨rfl, ⟨fun x x0 x1 => ?_, ?_⟩, (hK.wide (by omega) (by omega)).tr (Kp.si (by omega) (by omega)), fun j hj => ?_⟩)))))
    · rw [gi_si_ne (by omega), gi_si_ne (by omega), gi_si_ne (by omega)]
      exact (hI x x0 x1).1 x1
    · rw [gi_si_eq, e12, wrap_id (by omega) (by omega)]
      rfl
    · rw [gi_si_ne2 hj, hK.gi (by omega)]
theorem copy_ok (hS : Sh w) (hR : Rl w n l r) (hn : n ≤ 12) (hl : 0 ≤ l ∧ l ≤ 10) : OkV (run X d 68 [.inr 27, .inl l] w) (fun w' => Rl w' n (l + 1) r ∧ Kl (l + 1) w w') := by
  have k27 : kd w 27 = 15 := hS.1 27
  have k34 : kd w 34 = 1 := hS.1 34
  have k35 : kd w 35 = 1 := hS.1 35
  have l34 : ln w 34 = 144 := hS.2.1 34
  have l35 : ln w 35 = 144 := hS.2.1 35
  have g9 : gr w 27 9 = some 34 := hS.2.2 27 9 (by decide)
  have g10 : gr w 27 10 = some 35 := hS.2.2 27 10 (by decide)
  refine ok_eq (b68_0 X d 27 l w) (ok_gd k27 (ok_r g9 (ok_gd k27 (ok_r g9 ?_))))
  rw [wrap_id (z := l * 12) (by omega) (by omega), wrap_id (z := l * 12 + 12) (by omega) (by omega)]
  refine ok_gd ⟨k34, k34, by omega, by omega, by omega, by rw [l34]; omega, by rw [l34]; omega⟩ (ok_gd k27 (ok_r g10 (ok_gd k27 (ok_r g10 (ok_gd ⟨k35, k35, by omega, by omega, by omega, by show _ ≤ ((ln w 35 : Nat) : Int); rw [l35]; omega, by show _ ≤ ((ln w 35 : Nat) : Int); rw [l35]; omega⟩ (ok_ret ⟨rfl, fun x x0 x1 => ⟨?_, ?_⟩, ⟨rfl, fun _ _ => rfl, fun b hb j => ?_⟩, fun j hj => ⟨?_, ?_⟩⟩))))))
  · rw [gi_cpw, if_neg (by omega), gi_cpw, if_pos (by omega), show (l * 12).toNat + (((l + 1) * 12 + x).toNat - (l * 12 + 12).toNat) = (l * 12 + x).toNat by omega]
    exact (hR x x0 x1).1
  · rw [gi_cpw, if_pos (by omega), gi_cpw, if_neg (by omega), show (l * 12).toNat + (((l + 1) * 12 + x).toNat - (l * 12 + 12).toNat) = (l * 12 + x).toNat by omega]
    exact (hR x x0 x1).2
  · rw [gi_cpw, if_neg (by omega), gi_cpw, if_neg (by omega)]
  · rw [gi_cpw, if_neg (by omega), gi_cpw, if_neg (by omega)]
  · rw [gi_cpw, if_neg (by omega), gi_cpw, if_neg (by omega)]
end WS
