/-! relations of the class -/
noncomputable def dB (p : Prop) : Bool := @decide p (Classical.propDecidable p)
theorem dB_iff {p : Prop} : dB p = true ↔ p := by unfold dB; exact @decide_eq_true_iff p (Classical.propDecidable p)
noncomputable def prt (t : Int → Int → Int) (n s : Int) : Int := bI2 (fun i => dB (∃ b, 0 ≤ b ∧ b < n ∧ t i b = s)) n
noncomputable def whl (t : Int → Int → Int) (n s : Int) : Int := bI2 (fun i => dB (∃ b, 0 ≤ b ∧ b < n ∧ t s b = i)) n
def isTg (t : Int → Int → Int) (n s f : Int) : Prop := ∃ c d e, (0 ≤ c ∧ c < n) ∧ (0 ≤ d ∧ d < n) ∧ (0 ≤ e ∧ e < n) ∧ t c d = s ∧ t d e = f ∧ t s e ≠ 12 ∧ t c f ≠ 12
noncomputable def tgt (t : Int → Int → Int) (n s : Int) : Int := bI2 (fun i => dB (isTg t n s i)) n
theorem tb_0 {i : Nat} (hi : i < 32) : tb 0 i = false := by
  have key : ∀ i, i < 32 → tb 0 i = false := by decide +kernel
  exact key i hi
theorem inR_0 : inR 0 := ⟨by omega, by omega⟩
theorem tb_orb {x a : Int} {i : Nat} (h0 : 0 ≤ a) (h1 : a < 31) (hi : i < 32) : tb (orI x (shlI 1 a)) i = true ↔ tb x i = true ∨ (i : Int) = a := by
  rw [tb_or, tb_shl h0 h1 hi, Bool.or_eq_true, decide_eq_true_iff]
  exact or_congr Iff.rfl ⟨fun h => by omega, fun h => by omega⟩
theorem tb_andb {x a : Int} (h0 : 0 ≤ a) (h1 : a < 31) : andI x (shlI 1 a) = 0 ↔ tb x a.toNat = false := by
  constructor
  · intro h
    have e : tb (andI x (shlI 1 a)) a.toNat = false := by rw [h]; exact tb_0 (by omega)
    rw [tb_and, tb_shl h0 h1 (by omega)] at e
    simpa using e
  · intro h
    apply tb_ext (x := andI x (shlI 1 a)) (inR_op _ _ _) inR_0
    intro i hi
    refine Eq.trans ?_ (tb_0 hi).symm
    rw [tb_and, tb_shl h0 h1 hi]
    by_cases e : i = a.toNat
    · rw [e, h]; rfl
    · simp [e]
theorem bI2_eq {x : Int} {p : Nat → Bool} {n : Int} (hx : inR x) (hn : n ≤ 30) (h : ∀ i : Nat, i < 32 → (tb x i = true ↔ (i : Int) < n ∧ p i = true)) : x = bI2 p n := by
  apply tb_ext hx (bI2_rng hn)
  intro i hi
  rw [tb_bI2 hi]
  apply Bool.eq_iff_iff.mpr
  rw [h i hi, Bool.and_eq_true, decide_eq_true_iff]
section RL
variable {X : Nat × (Nat → Int)} {d : Nat} {w w' : MW} {n : Int} {t : Int → Int → Int}
theorem ftog_ok (hS : Sh w) (hT : Tb w 2 n t) (hw : twf t n) {s c b : Int} (hs : 0 ≤ s ∧ s < n) (h4 : gi w 22 4 = n) (hR : inR (gi w 25 s.toNat)) : OkV (run X (d + 3) 12 [.inr 22, .inr 2, .inl s, .inl c, .inl b] w) (fun w' => Kp 25 25 w w' ∧ (∀ a, a ≠ s.toNat → gi w' 25 a = gi w 25 a) ∧ inR (gi w' 25 s.toNat) ∧ ∀ i : Nat, i < 32 → (tb (gi w' 25 s.toNat) i = true ↔ tb (gi w 25 s.toNat) i = true ∨ ∃ e, 0 ≤ e ∧ e < n ∧ t b e = i ∧ t b e ≠ 12 ∧ t s e ≠ 12 ∧ t c i ≠ 12)) := by
  have h12 := hT.n12
  have h0 := hT.n0
  refine ok_eq (b12_0 X (d + 2) 22 2 s c b w) ?_
  refine ok_up (fun e z => R X (d + 3) 12 3 [some (.inr 22), some (.inr 2), some (.inl s), some (.inl c), some (.inl b), some (.inl e), none] [] z) (fun m z => Kp 25 25 w z ∧ (∀ a, a ≠ s.toNat → gi z 25 a = gi w 25 a) ∧ inR (gi z 25 s.toNat) ∧ ∀ i : Nat, i < 32 → (tb (gi z 25 s.toNat) i = true ↔ tb (gi w 25 s.toNat) i = true ∨ ∃ e, 0 ≤ e ∧ e < m ∧ t b e = i ∧ t b e ≠ 12 ∧ t s e ≠ 12 ∧ t c i ≠ 12)) 0 n h0 ?_ ?_ w ⟨Kp.rf, fun _ _ => rfl, hR, fun i hi => ⟨fun h => Or.inl h, fun h => h.elim id (fun ⟨e, h1, h2, _⟩ => by omega)⟩⟩
  · intro m z g1 g2 ⟨hK, hO, hI, hB⟩ ih
    have hT2 := hT.kp hK (by omega)
    have hSz := hS.kp hK
    have k22 : kd z 22 = 12 := hSz.1 22
    have k25 : kd z 25 = 1 := hSz.1 25
    have l25 : ln z 25 = 12 := hSz.2.1 25
    have g22 : gr z 22 2 = some 25 := hSz.2.2 22 2 (by decide)
    have z4 : gi z 22 4 = n := by rw [hK.gi (by omega)]; exact h4
    have skip : ¬ (t b m ≠ 12 ∧ t s m ≠ 12 ∧ t c (t b m) ≠ 12) → Ok (R X (d + 3) 12 3 [some (.inr 22), some (.inr 2), some (.inl s), some (.inl c), some (.inl b), some (.inl (m + 1)), none] [] z) (fun v w' => v = none ∧ Kp 25 25 w w' ∧ (∀ a, a ≠ s.toNat → gi w' 25 a = gi w 25 a) ∧ inR (gi w' 25 s.toNat) ∧ ∀ i : Nat, i < 32 → (tb (gi w' 25 s.toNat) i = true ↔ tb (gi w 25 s.toNat) i = true ∨ ∃ e, 0 ≤ e ∧ e < n ∧ t b e = i ∧ t b e ≠ 12 ∧ t s e ≠ 12 ∧ t c i ≠ 12)) := by
      intro hno
      refine ih z ⟨hK, hO, hI, fun i hi => ?_⟩
      rw [hB i hi]
      refine or_congr Iff.rfl ⟨fun ⟨e, q1, q2, q3⟩ => ⟨e, q1, by omega, q3⟩, fun ⟨e, q1, q2, q3, q4, q5, q6⟩ => ?_⟩
      by_cases he : e = m
      · subst he
        exact absurd ⟨q4, q5, by rw [q3]; exact q6⟩ hno
      · exact ⟨e, q1, by omega, q3, q4, q5, q6⟩
    refine ok_eq (b12_3 X (d + 2) 22 2 s c b m z) (ok_gd k22 (ok_iff (by rw [z4]; omega) (ok_gd hT2.k (ok_i (at_ok hT2 b m) ?_))))
    rw [wrap_id (z := m + 1) (by omega) (by omega)]
    refine ok_if (fun hc => skip (fun q => q.1 hc)) (fun hc => ok_gd hT2.k (ok_i (hasSum_ok hT2 s m) (ok_if (fun hc2 => skip (fun q => bI_eq.mp hc2 q.2.1)) (fun hc2 => ok_gd hT2.k (ok_i (hasSum_ok hT2 c _) (ok_if (fun hc3 => skip (fun q => bI_eq.mp hc3 q.2.2)) (fun hc3 => ok_gd k22 (ok_r g22 (ok_gd ⟨k25, hs.1, by rw [l25]; omega⟩ (ok_i (bit_ok X _ _ z) (ok_gd ⟨k25, hs.1, by rw [l25]; omega⟩ (ih _ ?_))))))))))))
    have hf : 0 ≤ t b m ∧ t b m < n := (hw.2.1 b m).resolve_left hc
    refine ⟨hK.tr (Kp.si (by omega) (by omega)), fun a ha => ?_, ?_, fun i hi => ?_⟩
    · rw [gi_si_ne2 ha]; exact hO a ha
    · rw [gi_si_eq]; exact inR_op _ _ _
    · rw [gi_si_eq, tb_orb hf.1 (by omega) hi, hB i hi]
      constructor
      · rintro ((q | ⟨e, q1, q2, q3⟩) | q)
        · exact Or.inl q
        · exact Or.inr ⟨e, q1, by omega, q3⟩
        · exact Or.inr ⟨m, g1, by omega, q.symm, hc, bI_ne.mp hc2, by rw [q]; exact bI_ne.mp hc3⟩
      · rintro (q | ⟨e, q1, q2, q3, q4⟩)
        · exact Or.inl (Or.inl q)
        · by_cases he : e = m
          · subst he
            exact Or.inr q3.symm
          · exact Or.inl (Or.inr ⟨e, q1, by omega, q3, q4⟩)
  · intro z ⟨hK, hO, hI, hB⟩
    have hT2 := hT.kp hK (by omega)
    have z4 : gi z 22 4 = n := by rw [hK.gi (by omega)]; exact h4
    exact ok_eq (b12_3 X (d + 2) 22 2 s c b n z) (ok_gd ((hS.kp hK).1 22) (ok_ift (by rw [z4]; omega) (ok_ret ⟨rfl, hK, hO, hI, hB⟩)))
/-- what find has found of the sums D -/
def RlD (w : MW) (t : Int → Int → Int) (n : Int) (D : Int → Int → Prop) : Prop :=
  gi w 22 4 = n ∧ ∀ s : Nat, (s : Int) < n → (inR (gi w 23 s) ∧ inR (gi w 24 s) ∧ inR (gi w 25 s) ∧ gi w 26 s = lsA (fun c => decide (t s c = 1)) n) ∧ ∀ i : Nat, i < 32 →
    (tb (gi w 23 s) i = true ↔ ∃ b, D i b ∧ t i b = s) ∧ (tb (gi w 24 s) i = true ↔ (i : Int) ≠ 12 ∧ ∃ b, D s b ∧ t s b = i) ∧
    (tb (gi w 25 s) i = true ↔ ∃ c b, D c b ∧ t c b = s ∧ ∃ e, 0 ≤ e ∧ e < n ∧ t b e = i ∧ t b e ≠ 12 ∧ t s e ≠ 12 ∧ t c i ≠ 12)
def RlS (w : MW) (t : Int → Int → Int) (n : Int) : Prop :=
  gi w 22 4 = n ∧ ∀ s : Int, 0 ≤ s → s < n → gi w 23 s.toNat = prt t n s ∧ gi w 24 s.toNat = whl t n s ∧ gi w 25 s.toNat = tgt t n s ∧ gi w 26 s.toNat = lsA (fun c => decide (t s c = 1)) n
theorem RlD.cg {D D' : Int → Int → Prop} (h : RlD w t n D) (e : ∀ a b, D a b ↔ D' a b) : RlD w t n D' := by
  have : D = D' := by
    funext a b
    exact propext (e a b)
  exact this ▸ h
/-- the step for one sum -/
theorem fstep_ok (hS : Sh w) (hT : Tb w 2 n t) (hw : twf t n) {D D' : Int → Int → Prop} (hD : RlD w t n D) {a b : Int} (ha : 0 ≤ a ∧ a < n) (hb : 0 ≤ b ∧ b < n) (hDD : ∀ x y, D' x y ↔ D x y ∨ (x = a ∧ y = b)) (hlb : ∀ x y, D' x y → 0 ≤ x ∧ 0 ≤ y) {P : Option MV → MW → Prop} (k : ∀ z, Kp 22 26 w z → RlD z t n D' → Ok (R X (d + 4) 11 68 [some (.inr 22), some (.inr 2), some (.inl a), some (.inl (b + 1)), none] [] z) P) : Ok (R X (d + 4) 11 68 [some (.inr 22), some (.inr 2), some (.inl a), some (.inl b), none] [] w) P := by
  have h12 := hT.n12
  have k22 : kd w 22 = 12 := hS.1 22
  have k23 : kd w 23 = 1 := hS.1 23
  have l23 : ln w 23 = 12 := hS.2.1 23
  have k24 : kd w 24 = 1 := hS.1 24
  have l24 : ln w 24 = 12 := hS.2.1 24
  have g0 : gr w 22 0 = some 23 := hS.2.2 22 0 (by decide)
  have g1 : gr w 22 1 = some 24 := hS.2.2 22 1 (by decide)
  obtain ⟨h4, hA⟩ := hD
  refine ok_eq (b11_68 X (d + 3) 22 2 a b w) (ok_gd k22 (ok_iff (by rw [h4]; omega) (ok_gd hT.k (ok_i (at_ok hT a b) ?_))))
  rw [wrap_id (z := b + 1) (by omega) (by omega)]
  refine ok_if (fun hc => k w Kp.rf ⟨h4, fun s hs => ⟨(hA s hs).1, fun i hi => ?_⟩⟩) (fun hc => ?_)
  · obtain ⟨q1, q2, q3⟩ := (hA s hs).2 i hi
    refine ⟨q1.trans ⟨fun ⟨y, u1, u2⟩ => ⟨y, (hDD _ _).mpr (Or.inl u1), u2⟩, fun ⟨y, u1, u2⟩ => ?_⟩, q2.trans ⟨fun ⟨u0, y, u1, u2⟩ => ⟨u0, y, (hDD _ _).mpr (Or.inl u1), u2⟩, fun ⟨u0, y, u1, u2⟩ => ?_⟩, q3.trans ⟨fun ⟨x, y, u1, u2⟩ => ⟨x, y, (hDD _ _).mpr (Or.inl u1), u2⟩, fun ⟨x, y, u1, u2, u3⟩ => ?_⟩⟩
    · rcases (hDD _ _).mp u1 with v | ⟨v1, v2⟩
      · exact ⟨y, v, u2⟩
      · rw [v1, v2, hc] at u2; omega
    · rcases (hDD _ _).mp u1 with v | ⟨v1, v2⟩
      · exact ⟨u0, y, v, u2⟩
      · rw [v1, v2, hc] at u2; omega
    · rcases (hDD _ _).mp u1 with v | ⟨v1, v2⟩
      · exact ⟨x, y, v, u2, u3⟩
      · rw [v1, v2, hc] at u2; omega
  · have hs : 0 ≤ t a b ∧ t a b < n := (hw.2.1 a b).resolve_left hc
    refine ok_gd k22 (ok_r g0 (ok_gd ⟨k23, hs.1, by rw [l23]; omega⟩ (ok_i (bit_ok X _ _ w) (ok_gd ⟨k23, hs.1, by rw [l23]; omega⟩ (ok_gd k22 (ok_r g1 (ok_gd ⟨k24, ha.1, by show _ < ((ln w 24 : Nat) : Int); rw [l24]; omega⟩ (ok_i (bit_ok X _ _ _) (ok_gd ⟨k24, ha.1, by show _ < ((ln w 24 : Nat) : Int); rw [l24]; omega⟩ (ok_gd k22 ?_))))))))))
    rw [gi_si_ne (by omega)]
    have hK1 : Kp 22 26 w (si (si w 23 (t a b).toNat (orI (gi w 23 (t a b).toNat) (shlI 1 a))) 24 a.toNat (orI (gi w 24 a.toNat) (shlI 1 (t a b)))) := (Kp.si (by omega) (by omega)).tr (Kp.si (by omega) (by omega))
    generalize hz : si (si w 23 (t a b).toNat (orI (gi w 23 (t a b).toNat) (shlI 1 a))) 24 a.toNat (orI (gi w 24 a.toNat) (shlI 1 (t a b))) = z at hK1
    have e25 : ∀ j, gi z 25 j = gi w 25 j := fun j => by rw [← hz, gi_si_ne (by omega), gi_si_ne (by omega)]
    have e26 : ∀ j, gi z 26 j = gi w 26 j := fun j => by rw [← hz, gi_si_ne (by omega), gi_si_ne (by omega)]
    have e22 : gi z 22 4 = n := by rw [← hz, gi_si_ne (by omega), gi_si_ne (by omega)]; exact h4
    have e23 : ∀ j, gi z 23 j = if j = (t a b).toNat then orI (gi w 23 j) (shlI 1 a) else gi w 23 j := fun j => by
      rw [← hz, gi_si_ne (by omega)]
      by_cases hj : j = (t a b).toNat
      · rw [hj, gi_si_eq, if_pos rfl]
      · rw [gi_si_ne2 hj, if_neg hj]
    have e24 : ∀ j, gi z 24 j = if j = a.toNat then orI (gi w 24 j) (shlI 1 (t a b)) else gi w 24 j := fun j => by
      rw [← hz]
      by_cases hj : j = a.toNat
      · rw [hj, gi_si_eq, if_pos rfl]
      · rw [gi_si_ne2 hj, gi_si_ne (by omega), if_neg hj]
    have hsn : ((t a b).toNat : Int) < n := by omega
    have es' : ∀ s : Nat, s = (t a b).toNat → t a b = (s : Int) := fun s h => by omega
    have en' : ∀ s : Nat, t a b = (s : Int) → s = (t a b).toNat := fun s h => by omega
    refine ok_V (ftog_ok (d := d) (c := a) (b := b) (hS.kp hK1) (hT.kp hK1 (by omega)) hw hs e22 (by rw [e25]; exact (hA _ hsn).1.2.2.1)) (fun z2 ⟨hK2, hO2, hI2, hB2⟩ => ?_)
    have hK3 : Kp 22 26 w z2 := hK1.tr (hK2.wide (by omega) (by omega))
    refine k z2 hK3 ⟨by rw [hK2.gi (by omega)]; exact e22, fun s hsl => ?_⟩
    obtain ⟨⟨r1, r2, r3, r4⟩, hbits⟩ := hA s hsl
    refine ⟨⟨?_, ?_, ?_, ?_⟩, fun i hi => ?_⟩
    · rw [hK2.gi (by omega), e23]
      split
      · exact inR_op _ _ _
      · exact r1
    · rw [hK2.gi (by omega), e24]
      split
      · exact inR_op _ _ _
      · exact r2
    · by_cases hj : s = (t a b).toNat
      · rw [hj]; exact hI2
      · rw [hO2 s hj, e25]; exact r3
    · rw [hK2.gi (by omega), e26]; exact r4
    · obtain ⟨q1, q2, q3⟩ := hbits i hi
      refine ⟨?_, ?_, ?_⟩
      · rw [hK2.gi (by omega), e23]
        by_cases hj : s = (t a b).toNat
        · rw [if_pos hj, tb_orb ha.1 (by omega) hi, q1]
          constructor
          · rintro (⟨y, u1, u2⟩ | u)
            · exact ⟨y, (hDD _ _).mpr (Or.inl u1), u2⟩
            · exact ⟨b, (hDD _ _).mpr (Or.inr ⟨u, rfl⟩), by rw [u]; exact es' s hj⟩
          · rintro ⟨y, u1, u2⟩
            rcases (hDD _ _).mp u1 with v | ⟨v1, v2⟩
            · exact Or.inl ⟨y, v, u2⟩
            · exact Or.inr v1
        · rw [if_neg hj, q1]
          constructor
          · rintro ⟨y, u1, u2⟩
            exact ⟨y, (hDD _ _).mpr (Or.inl u1), u2⟩
          · rintro ⟨y, u1, u2⟩
            rcases (hDD _ _).mp u1 with v | ⟨v1, v2⟩
            · exact ⟨y, v, u2⟩
            · rw [v1, v2] at u2; exact absurd (en' s u2) hj
      · rw [hK2.gi (by omega), e24]
        by_cases hj : s = a.toNat
        · rw [if_pos hj, tb_orb hs.1 (by omega) hi, q2]
          constructor
          · rintro (⟨u0, y, u1, u2⟩ | u)
            · exact ⟨u0, y, (hDD _ _).mpr (Or.inl u1), u2⟩
            · exact ⟨by omega, b, (hDD _ _).mpr (Or.inr ⟨by omega, rfl⟩), by rw [show (s : Int) = a by omega]; exact u.symm⟩
          · rintro ⟨u0, y, u1, u2⟩
            rcases (hDD _ _).mp u1 with v | ⟨v1, v2⟩
            · exact Or.inl ⟨u0, y, v, u2⟩
            · rw [v1, v2] at u2; exact Or.inr u2.symm
        · rw [if_neg hj, q2]
          constructor
          · rintro ⟨u0, y, u1, u2⟩
            exact ⟨u0, y, (hDD _ _).mpr (Or.inl u1), u2⟩
          · rintro ⟨u0, y, u1, u2⟩
            rcases (hDD _ _).mp u1 with v | ⟨v1, v2⟩
            · exact ⟨u0, y, v, u2⟩
            · omega
      · by_cases hj : s = (t a b).toNat
        · rw [hj, hB2 i hi, e25, ← hj, q3]
          have es : t a b = (s : Int) := es' s hj
          constructor
          · rintro (⟨x, y, u1, u2⟩ | u)
            · exact ⟨x, y, (hDD _ _).mpr (Or.inl u1), u2⟩
            · rw [es] at u
              exact ⟨a, b, (hDD _ _).mpr (Or.inr ⟨rfl, rfl⟩), es, u⟩
          · rintro ⟨x, y, u1, u2, u3⟩
            rcases (hDD _ _).mp u1 with v | ⟨v1, v2⟩
            · exact Or.inl ⟨x, y, v, u2, u3⟩
            · rw [v1, v2] at u3
              rw [es]
              exact Or.inr u3
        · rw [hO2 s hj, e25, q3]
          constructor
          · rintro ⟨x, y, u1, u2⟩
            exact ⟨x, y, (hDD _ _).mpr (Or.inl u1), u2⟩
          · rintro ⟨x, y, u1, u2, u3⟩
            rcases (hDD _ _).mp u1 with v | ⟨v1, v2⟩
            · exact ⟨x, y, v, u2, u3⟩
            · rw [v1, v2] at u2; exact absurd (en' s u2) hj
def relD (n one other x y : Int) : Prop := 0 ≤ x ∧ x < n ∧ 0 ≤ y ∧ y < n ∧ (x < one ∨ (x = one ∧ y < other))
theorem RlD.fin (hw : twf t n) (hn : n ≤ 12) (h : RlD w t n (relD n n 0)) : RlS w t n := by
  obtain ⟨h4, hA⟩ := h
  refine ⟨h4, fun s hs0 hsn => ?_⟩
  have e : ((s.toNat : Nat) : Int) = s := Int.toNat_of_nonneg hs0
  obtain ⟨⟨r1, r2, r3, r4⟩, hb⟩ := hA s.toNat (by omega)
  rw [e] at r4 hb
  have hv : ∀ a b i : Int, 0 ≤ i → t a b = i → i ≠ 12 → i < n := fun a b i h0 h1 h2 => by
    have h3 := hw.2.1 a b
    rw [h1] at h3
    omega
  refine ⟨?_, ?_, ?_, r4⟩
  · refine bI2_eq r1 (by omega) (fun i hi => ?_)
    rw [(hb i hi).1, dB_iff]
    constructor
    · rintro ⟨b, ⟨u1, u2, u3, u4, _⟩, u6⟩
      exact ⟨u2, b, u3, u4, u6⟩
    · rintro ⟨u1, b, u2, u3, u4⟩
      exact ⟨b, ⟨by omega, u1, u2, u3, Or.inl u1⟩, u4⟩
  · refine bI2_eq r2 (by omega) (fun i hi => ?_)
    rw [(hb i hi).2.1, dB_iff]
    constructor
    · rintro ⟨u0, b, ⟨u1, u2, u3, u4, _⟩, u6⟩
      exact ⟨hv _ _ i (by omega) u6 u0, b, u3, u4, u6⟩
    · rintro ⟨u1, b, u2, u3, u4⟩
      exact ⟨by omega, b, ⟨hs0, hsn, u2, u3, Or.inl hsn⟩, u4⟩
  · refine bI2_eq r3 (by omega) (fun i hi => ?_)
    rw [(hb i hi).2.2, dB_iff]
    constructor
    · rintro ⟨c, b, ⟨u1, u2, u3, u4, _⟩, u6, x, u7, u8, u9, u10, u11, u12⟩
      exact ⟨hv _ _ i (by omega) u9 (fun q => u10 (u9.trans q)), c, b, x, ⟨u1, u2⟩, ⟨u3, u4⟩, ⟨u7, u8⟩, u6, u9, u11, u12⟩
    · rintro ⟨u0, c, b, x, ⟨u1, u2⟩, ⟨u3, u4⟩, ⟨u7, u8⟩, u6, u9, u11, u12⟩
      have h10 : t b x ≠ 12 := fun q => by rw [u9] at q; clear u9 u6 u11 u12; omega
      exact ⟨c, b, ⟨u1, u2, u3, u4, Or.inl u2⟩, u6, x, u7, u8, u9, h10, u11, u12⟩
theorem find_ok (hS : Sh w) (hT : Tb w 2 n t) (hw : twf t n) : OkV (run X (d + 4) 11 [.inr 22, .inr 2] w) (fun w' => RlS w' t n ∧ Kp 22 26 w w') := by
  have h12 := hT.n12
  have h0 := hT.n0
  have k22 : kd w 22 = 12 := hS.1 22
  have hrest : ∀ z, Kp 22 26 w z → RlD z t n (relD n 0 0) → Ok (R X (d + 4) 11 58 [some (.inr 22), some (.inr 2), some (.inl 0), none, none] [] z) (fun v w' => v = none ∧ RlS w' t n ∧ Kp 22 26 w w') := by
    intro z hKz hDz
    refine ok_up (fun i z => R X (d + 4) 11 58 [some (.inr 22), some (.inr 2), some (.inl i), none, none] [] z) (fun i z => Kp 22 26 w z ∧ RlD z t n (relD n i 0)) 0 n h0 ?_ ?_ z ⟨hKz, hDz⟩
    · intro i z g1 g2 ⟨hK, hD⟩ ih
      refine ok_eq (b11_58 X (d + 3) 22 2 i z) (ok_gd ((hS.kp hK).1 22) (ok_iff (by rw [hD.1]; omega) ?_))
      refine ok_up (fun j z => R X (d + 4) 11 68 [some (.inr 22), some (.inr 2), some (.inl i), some (.inl j), none] [] z) (fun j z => Kp 22 26 w z ∧ RlD z t n (relD n i j)) 0 n h0 ?_ ?_ z ⟨hK, hD⟩
      · intro j z g3 g4 ⟨hK, hD⟩ ih2
        refine fstep_ok (d := d) (D' := relD n i (j + 1)) (hS.kp hK) (hT.kp hK (by omega)) hw hD ⟨g1, g2⟩ ⟨g3, g4⟩ (fun x y => ?_) (fun x y q => ⟨q.1, q.2.2.1⟩) (fun z2 q1 q2 => ih2 z2 ⟨hK.tr q1, q2⟩)
        unfold relD
        omega
      · intro z ⟨hK, hD⟩
        refine ok_eq (b11_68 X (d + 3) 22 2 i n z) (ok_gd ((hS.kp hK).1 22) (ok_ift (by rw [hD.1]; omega) ?_))
        rw [wrap_id (z := i + 1) (by omega) (by omega)]
        refine ih z ⟨hK, hD.cg (fun x y => ?_)⟩
        unfold relD
        omega
    · intro z ⟨hK, hD⟩
      exact ok_eq (b11_58 X (d + 3) 22 2 n z) (ok_gd ((hS.kp hK).1 22) (ok_ift (by rw [hD.1]; omega) (ok_ret ⟨rfl, hD.fin hw h12, hK⟩)))
  refine ok_eq (b11_0 X (d + 3) 22 2 w) (ok_gd hT.k (ok_gd k22 ?_))
  rw [hT.sz]
  refine ok_up (fun i z => R X (d + 4) 11 10 [some (.inr 22), some (.inr 2), some (.inl i), none, none] [] z) (fun i z => Kp 22 26 w z ∧ gi z 22 4 = n ∧ ∀ s : Nat, (s : Int) < i → gi z 23 s = 0 ∧ gi z 24 s = 0 ∧ gi z 25 s = 0 ∧ gi z 26 s = lsA (fun c => decide (t s c = 1)) n) 0 n h0 ?_ ?_ _ ⟨Kp.si (by omega) (by omega), gi_si_eq, fun s hs => by omega⟩
  · intro i z g1 g2 ⟨hK, h4, hA⟩ ih
    have hSz := hS.kp hK
    have hTz := hT.kp hK (by omega)
    have z22 : kd z 22 = 12 := hSz.1 22
    have z23 : kd z 23 = 1 := hSz.1 23
    have z24 : kd z 24 = 1 := hSz.1 24
    have z25 : kd z 25 = 1 := hSz.1 25
    have z26 : kd z 26 = 1 := hSz.1 26
    have l23 : ln z 23 = 12 := hSz.2.1 23
    have l24 : ln z 24 = 12 := hSz.2.1 24
    have l25 : ln z 25 = 12 := hSz.2.1 25
    have l26 : ln z 26 = 12 := hSz.2.1 26
    have q0 : gr z 22 0 = some 23 := hSz.2.2 22 0 (by decide)
    have q1 : gr z 22 1 = some 24 := hSz.2.2 22 1 (by decide)
    have q2 : gr z 22 2 = some 25 := hSz.2.2 22 2 (by decide)
    have q3 : gr z 22 3 = some 26 := hSz.2.2 22 3 (by decide)
    have hK3 : Kp 23 25 z (si (si (si z 23 i.toNat 0) 24 i.toNat 0) 25 i.toNat 0) := ((Kp.si (by omega) (by omega)).tr (Kp.si (by omega) (by omega))).tr (Kp.si (by omega) (by omega))
    refine ok_eq (b11_10 X (d + 3) 22 2 i z) (ok_gd z22 (ok_iff (by rw [h4]; omega) (ok_gd z22 (ok_r q0 (ok_gd ⟨z23, g1, by rw [l23]; omega⟩ (ok_gd z22 (ok_r q1 (ok_gd ⟨z24, g1, by show _ < ((ln z 24 : Nat) : Int); rw [l24]; omega⟩ (ok_gd z22 (ok_r q2 (ok_gd ⟨z25, g1, by show _ < ((ln z 25 : Nat) : Int); rw [l25]; omega⟩ (ok_gd z22 (ok_r q3 (ok_gd hTz.k (ok_i (rest_ok (hTz.kp hK3 (by omega)) i) (ok_gd ⟨z26, g1, by show _ < ((ln z 26 : Nat) : Int); rw [l26]; omega⟩ ?_))))))))))))))))
    rw [wrap_id (z := i + 1) (by omega) (by omega)]
    refine ih _ ⟨(hK.tr (hK3.wide (by omega) (by omega))).tr (Kp.si (by omega) (by omega)), ?_, fun s hs => ?_⟩
    · rw [gi_si_ne (by omega), gi_si_ne (by omega), gi_si_ne (by omega), gi_si_ne (by omega)]; exact h4
    · by_cases he : s = i.toNat
      · subst he
        refine ⟨?_, ?_, ?_, ?_⟩
        · rw [gi_si_ne (by omega), gi_si_ne (by omega), gi_si_ne (by omega), gi_si_eq]
        · rw [gi_si_ne (by omega), gi_si_ne (by omega), gi_si_eq]
        · rw [gi_si_ne (by omega), gi_si_eq]
        · rw [gi_si_eq, Int.toNat_of_nonneg g1]
      · obtain ⟨v1, v2, v3, v4⟩ := hA s (by omega)
        refine ⟨?_, ?_, ?_, ?_⟩
        · rw [gi_si_ne (by omega), gi_si_ne (by omega), gi_si_ne (by omega), gi_si_ne2 he]; exact v1
        · rw [gi_si_ne (by omega), gi_si_ne (by omega), gi_si_ne2 he, gi_si_ne (by omega)]; exact v2
        · rw [gi_si_ne (by omega), gi_si_ne2 he, gi_si_ne (by omega), gi_si_ne (by omega)]; exact v3
        · rw [gi_si_ne2 he, gi_si_ne (by omega), gi_si_ne (by omega), gi_si_ne (by omega)]; exact v4
  · intro z ⟨hK, h4, hA⟩
    refine ok_eq (b11_10 X (d + 3) 22 2 n z) (ok_gd ((hS.kp hK).1 22) (ok_ift (by rw [h4]; omega) (hrest z hK ⟨h4, fun s hs => ?_⟩)))
    obtain ⟨v1, v2, v3, v4⟩ := hA s hs
    refine ⟨⟨by rw [v1]; exact inR_0, by rw [v2]; exact inR_0, by rw [v3]; exact inR_0, v4⟩, fun i hi => ?_⟩
    rw [v1, v2, v3, tb_0 hi]
    have hno : ∀ x y, ¬ relD n 0 0 x y := fun x y q => by
      unfold relD at q
      omega
    exact ⟨⟨fun q => absurd q (by decide), fun ⟨b, q, _⟩ => absurd q (hno _ _)⟩, ⟨fun q => absurd q (by decide), fun ⟨_, b, q, _⟩ => absurd q (hno _ _)⟩, ⟨fun q => absurd q (by decide), fun ⟨c, b, q, _⟩ => absurd q (hno _ _)⟩⟩
end RL
