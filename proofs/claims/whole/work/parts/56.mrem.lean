/-! the reference's second table, and removeThing -/
def MdD (w : MW) (E : Int → Int → Int) (Dn : Int → Int → Prop) : Prop := ∀ x y, 0 ≤ x → x < 12 → 0 ≤ y → y < 12 → (gi w 40 (12 * x + y).toNat = E x y ∨ gi w 40 (12 * x + y).toNat = -1) ∧ (Dn x y → gi w 40 (12 * x + y).toNat = E x y)
section ML
variable {X : Nat × (Nat → Int)} {d : Nat} {w w' : MW} {n m : Int} {t T : Int → Int → Int} {Dn Dn' : Int → Int → Prop} {A : AS} {E : Int → Int → Int}
theorem MdD.sub (h : MdD w E Dn) (hs : ∀ x y, 0 ≤ x → x < 12 → 0 ≤ y → y < 12 → Dn' x y → Dn x y ∨ E x y = -1) : MdD w E Dn' := fun x y x0 x1 y0 y1 => ⟨(h x y x0 x1 y0 y1).1, fun hd => by
  rcases hs x y x0 x1 y0 y1 hd with q | q
  · exact (h x y x0 x1 y0 y1).2 q
  · rcases (h x y x0 x1 y0 y1).1 with g | g
    · exact g
    · rw [g, q]⟩
theorem MdD.put (h : MdD w E Dn) {a b v : Int} (ha : 0 ≤ a ∧ a < 12) (hb : 0 ≤ b ∧ b < 12) (hv : v = E a b) (hs : ∀ x y, 0 ≤ x → x < 12 → 0 ≤ y → y < 12 → Dn' x y → Dn x y ∨ E x y = -1 ∨ (x = a ∧ y = b)) : MdD (si w 40 (12 * a + b).toNat v) E Dn' := fun x y x0 x1 y0 y1 => by
  by_cases e : x = a ∧ y = b
  · rw [e.1, e.2, gi_si_eq, hv]
    exact ⟨Or.inl rfl, fun _ => rfl⟩
  · rw [gi_si_ne2 (by omega)]
    refine ⟨(h x y x0 x1 y0 y1).1, fun hd => ?_⟩
    rcases hs x y x0 x1 y0 y1 hd with q | q | q
    · exact (h x y x0 x1 y0 y1).2 q
    · rcases (h x y x0 x1 y0 y1).1 with g | g
      · exact g
      · rw [g, q]
    · exact absurd q e
theorem move_ok (hS : Sh w) : OkV (run X d 122 [.inr 38] w) (fun w' => (∀ k : Int, 0 ≤ k → k < 144 → gi w' 39 k.toNat = gi w 40 k.toNat) ∧ Kp 39 39 w w') := by
  refine ok_eq (b122_0 X d 38 w) ?_
  refine ok_up (fun i s => R X d 122 2 [some (.inr 38), some (.inl i)] [] s) (fun i s => (∀ k : Int, 0 ≤ k → k < i → gi s 39 k.toNat = gi w 40 k.toNat) ∧ Kp 39 39 w s) 0 144 (by omega) ?_ ?_ w ⟨fun k q1 q2 => by omega, Kp.rf⟩
  · intro i s i0 i1 ⟨hI, hK⟩ ih
    have Ss := hS.kp hK
    refine ok_eq (b122_2 X d 38 i s) (ok_iff (by omega) (ok_gd (Ss.1 38) (ok_r (Ss.2.2 38 1 (by decide)) (ok_gd (Ss.1 38) (ok_r (Ss.2.2 38 2 (by decide)) (ok_gd ⟨Ss.1 40, i0, by rw [show ln s 40 = 144 from Ss.2.1 40]; omega⟩ (ok_gd ⟨Ss.1 39, i0, by rw [show ln s 39 = 144 from Ss.2.1 39]; omega⟩ ?_)))))))
    rw [wrap_id (z := i + 1) (by omega) (by omega)]
    refine ih _ ⟨fun k q1 q2 => ?_, hK.tr (Kp.si (by omega) (by omega))⟩
    by_cases e : k = i
    · rw [e, gi_si_eq, hK.gi (by omega)]
    · rw [gi_si_ne2 (by omega)]
      exact hI k q1 (by omega)
  · intro s ⟨hI, hK⟩
    exact ok_eq (b122_2 X d 38 144 s) (ok_ift (by omega) (ok_ret ⟨rfl, hI, hK⟩))
/-- the second table, moved, under a new size -/
theorem moved (hM : MdD w (fun x y => enc m T (12 * x + y)) (fun _ _ => True)) (h : ∀ k : Int, 0 ≤ k → k < 144 → gi w' 39 k.toNat = gi w 40 k.toNat) : TbM (si w' 38 0 m) m T := by
  refine ⟨gi_si_eq, fun k k0 k1 => ?_⟩
  have := (hM (k / 12) (k % 12) (by omega) (by omega) (by omega) (by omega)).2 trivial
  rw [show 12 * (k / 12) + k % 12 = k by omega] at this
  rw [gi_si_ne (by omega), h k k0 k1, this]
  show enc m T (12 * (k / 12) + k % 12) = enc m T k
  rw [show 12 * (k / 12) + k % 12 = k by omega]
theorem enc_at {a b : Int} (ha : 0 ≤ a ∧ a < 12) (hb : 0 ≤ b ∧ b < 12) : enc n t (12 * a + b) = if (1 ≤ a ∧ a < n) ∧ (1 ≤ b ∧ b < n) then mc (t a b) else -1 := by
  unfold enc
  rw [show (12 * a + b) / 12 = a by omega, show (12 * a + b) % 12 = b by omega]
def dn1 (c a : Int) : Int := if a ≤ c then a else a - 1
theorem up_dn {c a : Int} (h : a ≠ c) : up1 c (dn1 c a) = a := by
  unfold up1 dn1
  (repeat' split) <;> omega
theorem dn_up {c a : Int} : dn1 c (up1 c a) = a ∧ up1 c a ≠ c := by
  unfold up1 dn1
  (repeat' split) <;> omega
theorem rem_m (hS : Sh w) (h : MoS w A) (ho : okB A.1) (c : Int) : OkI (run X (d + 2) 121 [.inr 38, .inl c] w) (MO w (remF A c)) := by
  obtain ⟨o1, o2, o3⟩ := ho
  refine ok_eq (b121_0 X (d + 1) 38 c w) (ok_gd (hS.1 38) (ok_i (ist_ok (d := d) hS h.1.1 ⟨by omega, o2⟩ c) (ok_if (fun h1 => ok_if (fun h2 => ok_gd (hS.1 38) (ok_V (recS (d := d) hS h) (fun z ⟨hz, kz⟩ => ?_))) (fun h2 => ok_ret ⟨_, rfl, MO.same h ?_⟩)) (fun h1 => ok_ret ⟨_, rfl, MO.same h (if_pos (fun q => h1 (bI_ne.mpr q)))⟩))))
  rotate_left
  · unfold remF
    rw [if_neg (fun q => q (bI_ne.mp h1)), if_pos (by omega)]
  have hc := bI_ne.mp h1
  have e0 : remF A c = (A.1.1 - 1, push A (A.1.1 - 1, trem A.1.2 A.1.1 c)) := by
    unfold remF
    rw [if_neg (fun q => q hc), if_neg (by omega)]
  have Sz := hS.kp kz
  generalize hE : (fun x y => enc (A.1.1 - 1) (trem A.1.2 A.1.1 c) (12 * x + y)) = E
  have hn0 : ∀ s, Kp 40 40 z s → gi s 38 0 = A.1.1 := fun s q => by rw [q.gi (by omega)]; exact hz.1.1
  refine ok_up (fun i s => R X (d + 2) 121 24 [some (.inr 38), some (.inl c), some (.inl i), none, none, none, none] [] s) (fun i s => (∀ k : Int, 0 ≤ k → k < i → gi s 40 k.toNat = -1) ∧ Kp 40 40 z s) 0 144 (by omega) ?_ ?_ z ⟨fun k q1 q2 => by omega, Kp.rf⟩
  · intro i s i0 i1 ⟨hI, hK⟩ ih
    have Ss := Sz.kp hK
    refine ok_eq (b121_24 X (d + 1) 38 c i s) (ok_iff (by omega) (ok_gd (Ss.1 38) (ok_r (Ss.2.2 38 2 (by decide)) (ok_gd ⟨Ss.1 40, i0, by rw [show ln s 40 = 144 from Ss.2.1 40]; omega⟩ ?_))))
    rw [wrap_id (z := i + 1) (by omega) (by omega)]
    refine ih _ ⟨fun k q1 q2 => ?_, hK.tr (Kp.si (by omega) (by omega))⟩
    by_cases e : k = i
    · rw [e, gi_si_eq]
    · rw [gi_si_ne2 (by omega)]
      exact hI k q1 (by omega)
  intro s ⟨hI, hK⟩
  refine ok_eq (b121_24 X (d + 1) 38 c 144 s) (ok_ift (by omega) ?_)
  refine ok_up (fun i s => R X (d + 2) 121 46 [some (.inr 38), some (.inl c), some (.inl i), none, none, none, none] [] s) (fun i s => MdD s E (fun x _ => up1 c x < i) ∧ Kp 40 40 z s) 0 A.1.1 (by omega) ?_ ?_ s ⟨fun x y x0 x1 y0 y1 => ⟨Or.inr (hI _ (by omega) (by omega)), fun hd => absurd hd (by dsimp only; unfold up1; split <;> omega)⟩, hK⟩
  · intro i s i0 i1 ⟨hM, hK⟩ ih
    have Ss := Sz.kp hK
    refine ok_eq (b121_46 X (d + 1) 38 c i s) (ok_gd (Ss.1 38) (ok_iff (by rw [hn0 s hK]; omega) ?_))
    refine ok_up (fun j s => R X (d + 2) 121 56 [some (.inr 38), some (.inl c), some (.inl i), some (.inl j), none, none, none] [] s) (fun j s => MdD s E (fun x y => up1 c x < i ∨ (up1 c x = i ∧ up1 c y < j)) ∧ Kp 40 40 z s) 0 A.1.1 (by omega) ?_ ?_ s ⟨hM.sub (fun x y x0 x1 y0 y1 hd => Or.inl (by unfold up1 at *; split at hd <;> split at hd <;> split <;> omega)), hK⟩
    · intro j s2 j0 j1 ⟨hM2, hK2⟩ ih2
      have S2 := Sz.kp hK2
      have hv : gi s2 39 (12 * i + j).toNat = enc A.1.1 A.1.2 (12 * i + j) := by rw [hK2.gi (by omega)]; exact hz.1.2 _ (by omega) (by omega)
      refine ok_eq (b121_56 X (d + 1) 38 c i j s2) (ok_gd (S2.1 38) (ok_iff (by rw [hn0 s2 hK2]; omega) (ok_gd (S2.1 38) (ok_r (S2.2.2 38 1 (by decide)) ?_))))
      rw [wrap_id (z := 12 * i) (by omega) (by omega), wrap_id (z := 12 * i + j) (by omega) (by omega), wrap_id (z := j + 1) (by omega) (by omega), hv, enc_at (by omega) (by omega)]
      have val := o3.2.1 i j
      have skip : (i = c ∨ j = c ∨ i = 0 ∨ j = 0 ∨ A.1.2 i j = 12 ∨ A.1.2 i j = c) → Ok (R X (d + 2) 121 56 [some (.inr 38), some (.inl c), some (.inl i), some (.inl (j + 1)), none, none, none] [] s2) (fun v w' => ∃ x, v = some (.inl x) ∧ MO w (remF A c) x w') := fun q => ih2 s2 ⟨hM2.sub (fun x y x0 x1 y0 y1 hd => by
        by_cases e : up1 c x = i ∧ up1 c y = j
        · have dx := dn_up (c := c) (a := x)
          have dy := dn_up (c := c) (a := y)
          right
          rw [← hE]
          dsimp only
          rw [enc_at ⟨x0, x1⟩ ⟨y0, y1⟩]
          by_cases g : (1 ≤ x ∧ x < A.1.1 - 1) ∧ (1 ≤ y ∧ y < A.1.1 - 1)
          · rw [if_pos g]
            unfold trem
            rw [if_pos (by omega), e.1, e.2]
            have : 1 ≤ i ∧ 1 ≤ j := by
              rw [← e.1, ← e.2]
              unfold up1
              split <;> split <;> omega
            rw [if_pos (by omega)]
            rfl
          · rw [if_neg g]
        · left; omega), hK2⟩
      refine ok_gd ⟨S2.1 39, by omega, by rw [show ln s2 39 = 144 from S2.2.1 39]; omega⟩ (ok_if (fun q => skip (Or.inl q)) (fun hic => ok_if (fun q => skip (Or.inr (Or.inl q))) (fun hjc => ?_)))
      by_cases hij : (1 ≤ i ∧ i < A.1.1) ∧ (1 ≤ j ∧ j < A.1.1)
      · rw [if_pos hij]
        refine ok_if (fun q => skip ?_) (fun h12 => ok_if (fun q => skip ?_) (fun hcc => ?_))
        · unfold mc at q
          split at q <;> omega
        · unfold mc at q
          split at q <;> omega
        have h12' : A.1.2 i j ≠ 12 := fun q => h12 (by rw [q]; rfl)
        rw [mc_ne h12'] at hcc ⊢
        have hr : ∀ q : Int, (0 ≤ q ∧ q < A.1.1) → 0 ≤ dn1 c q ∧ dn1 c q < 12 := fun q g => by unfold dn1; split <;> omega
        have key : Ok (R X (d + 2) 121 125 [some (.inr 38), some (.inl c), some (.inl i), some (.inl j), some (.inl (A.1.2 i j)), some (.inl (dn1 c i)), none] [.inl (dn1 c j)] s2) (fun v w' => ∃ x, v = some (.inl x) ∧ MO w (remF A c) x w') := by
          have ri := hr i (by omega)
          have rj := hr j (by omega)
          have l40 : ln s2 40 = 144 := S2.2.1 40
          have val2 : A.1.2 (up1 c (dn1 c i)) (up1 c (dn1 c j)) = A.1.2 i j := by rw [up_dn hic, up_dn hjc]
          have big : (1 ≤ dn1 c i ∧ dn1 c i < A.1.1 - 1) ∧ (1 ≤ dn1 c j ∧ dn1 c j < A.1.1 - 1) := by
            unfold dn1
            split <;> split <;> omega
          have fin1 : ∀ v, v = dn1 c (A.1.2 i j) → Ok (R X (d + 2) 121 56 [some (.inr 38), some (.inl c), some (.inl i), some (.inl (j + 1)), none, none, none] [] (si s2 40 (12 * dn1 c i + dn1 c j).toNat v)) (fun v w' => ∃ x, v = some (.inl x) ∧ MO w (remF A c) x w') := fun v hv => ih2 _ ⟨hM2.put ri rj (by
            rw [hv, ← hE]
            dsimp only
            rw [enc_at ri rj, if_pos big]
            unfold trem
            rw [if_pos (by omega), val2, if_neg (by omega)]
            unfold dn1
            by_cases q : A.1.2 i j ≤ c
            · rw [if_pos q, if_neg (by omega), mc_ne h12']
            · rw [if_neg q, if_pos (by omega), mc_ne (by omega)]) (fun x y x0 x1 y0 y1 hd => by
            by_cases e : up1 c x = i ∧ up1 c y = j
            · have dx := dn_up (c := c) (a := x)
              have dy := dn_up (c := c) (a := y)
              rw [e.1] at dx
              rw [e.2] at dy
              right; right
              exact ⟨dx.1.symm, dy.1.symm⟩
            · left; omega), hK2.tr (Kp.si (by omega) (by omega))⟩
          refine ok_eq (b121_125 X (d + 1) 38 c i j (A.1.2 i j) (dn1 c i) (dn1 c j) s2) (ok_gd (S2.1 38) (ok_r (S2.2.2 38 2 (by decide)) ?_))
          rw [wrap_id (z := 12 * dn1 c i) (by omega) (by omega), wrap_id (z := 12 * dn1 c i + dn1 c j) (by omega) (by omega), wrap_id (z := j + 1) (by omega) (by omega), wrap_id (z := A.1.2 i j - 1) (by omega) (by omega)]
          refine ok_if (fun q => ok_gd ⟨S2.1 40, by omega, by rw [l40]; omega⟩ (fin1 _ (by unfold dn1; rw [if_pos q]))) (fun q => ok_gd ⟨S2.1 40, by omega, by rw [l40]; omega⟩ (fin1 _ (by unfold dn1; rw [if_neg q])))
        have key2 : Ok (R X (d + 2) 121 111 [some (.inr 38), some (.inl c), some (.inl i), some (.inl j), some (.inl (A.1.2 i j)), none, none] [.inl (dn1 c i)] s2) (fun v w' => ∃ x, v = some (.inl x) ∧ MO w (remF A c) x w') := by
          refine ok_eq (b121_111 X (d + 1) 38 c i j (A.1.2 i j) (dn1 c i) s2) ?_
          rw [wrap_id (z := j - 1) (by omega) (by omega)]
          refine ok_if (fun q => ?_) (fun q => ?_)
          · rw [show dn1 c j = j from if_pos q] at key
            exact key
          · rw [show dn1 c j = j - 1 from if_neg q] at key
            exact key
        rw [wrap_id (z := i - 1) (by omega) (by omega)]
        refine ok_if (fun q => ?_) (fun q => ?_)
        · rw [show dn1 c i = i from if_pos q] at key2
          exact key2
        · rw [show dn1 c i = i - 1 from if_neg q] at key2
          exact key2
      · rw [if_neg hij]
        exact ok_ift rfl (skip (by omega))
    · intro s2 ⟨hM2, hK2⟩
      have S2 := Sz.kp hK2
      refine ok_eq (b121_56 X (d + 1) 38 c i A.1.1 s2) (ok_gd (S2.1 38) (ok_ift (by rw [hn0 s2 hK2]; omega) ?_))
      rw [wrap_id (z := i + 1) (by omega) (by omega)]
      refine ih s2 ⟨hM2.sub (fun x y x0 x1 y0 y1 hd => ?_), hK2⟩
      by_cases e : up1 c y < A.1.1
      · left; omega
      · right
        rw [← hE]
        dsimp only
        rw [enc_at ⟨x0, x1⟩ ⟨y0, y1⟩, if_neg]
        intro q
        apply e
        unfold up1
        split <;> omega
  · intro s ⟨hM, hK⟩
    have Ss := Sz.kp hK
    refine ok_eq (b121_46 X (d + 1) 38 c A.1.1 s) (ok_gd (Ss.1 38) (ok_ift (by rw [hn0 s hK]; omega) (ok_gd (Ss.1 38) (ok_V (move_ok (d := d + 1) Ss) (fun u ⟨u1, u2⟩ => ?_)))))
    have Su := Ss.kp u2
    have hnu : gi u 38 0 = A.1.1 := by rw [u2.gi (by omega)]; exact hn0 s hK
    refine ok_gd (Su.1 38) (ok_gd (Su.1 38) (ok_gd (Su.1 38) ?_))
    rw [hnu, wrap_id (by omega) (by omega), gi_si_eq]
    rw [← hE] at hM
    have hT := moved (m := A.1.1 - 1) (hM.sub (Dn' := fun _ _ => True) (fun x y x0 x1 y0 y1 _ => by
      by_cases e : up1 c x < A.1.1
      · exact Or.inl e
      · right
        rw [enc_at ⟨x0, x1⟩ ⟨y0, y1⟩, if_neg]
        intro q
        apply e
        unfold up1
        split <;> omega)) u1
    obtain ⟨r1, r2⟩ := MoS.act (a := (A.1.1 - 1, trem A.1.2 A.1.1 c)) hz kz (((hK.wide (by omega) (by omega)).tr (u2.wide (by omega) (by omega))).tr (Kp.si (w := u) (lo := 38) (hi := 40) (a := 38) (k := 0) (v := A.1.1 - 1) (by omega) (by omega))) (fun j hj => by rw [gi_si_ne2 hj, u2.gi (by omega), hK.gi (by omega)]) hT
    refine ok_ret ⟨_, rfl, ?_⟩
    rw [e0]
    exact ⟨rfl, r1, r2⟩
end ML
