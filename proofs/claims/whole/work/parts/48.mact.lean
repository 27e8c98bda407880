/-! the reference's acts over the same state -/
def MTx (w : MW) (L : Int) (c : Int → Int) : Prop := gi w 38 8 = L ∧ (0 ≤ L ∧ L ≤ 60) ∧ ∀ j : Int, 0 ≤ j → j < L → gi w 43 j.toNat = c j
def MSn (w : MW) (s : Option AT) : Prop := (s = none ∧ gi w 38 6 = 0) ∨ ∃ a, s = some a ∧ gi w 38 6 = 1 ∧ RowS w 42 0 a
def MoS (w : MW) (A : AS) : Prop := TbM w A.1.1 A.1.2 ∧ HM w A.2.2.1 ∧ MSn w A.2.1 ∧ MTx w A.2.2.2.1 A.2.2.2.2
def MO (w : MW) (r : Int × AS) (x : Int) (w' : MW) : Prop := x = r.1 ∧ MoS w' r.2 ∧ Kp 38 48 w w'
section MA
variable {X : Nat × (Nat → Int)} {d : Nat} {w w1 : MW} {A : AS}
theorem MO.same (h : MoS w A) {r : Int × AS} {v : Int} (e : r = (v, A)) : MO w r v w := by
  rw [e]
  exact ⟨rfl, h, Kp.rf⟩
theorem MTx.kp {lo hi : Nat} {L : Int} {c : Int → Int} (h : MTx w L c) (k : Kp lo hi w w1) (h1 : 43 < lo ∨ hi < 43) (h8 : gi w1 38 8 = gi w 38 8) : MTx w1 L c := ⟨by rw [h8]; exact h.1, h.2.1, fun j j0 j1 => by rw [k.gi (by omega)]; exact h.2.2 j j0 j1⟩
theorem MSn.kp {lo hi : Nat} {s : Option AT} (h : MSn w s) (k : Kp lo hi w w1) (h1 : 42 < lo ∨ hi < 42) (h6 : gi w1 38 6 = gi w 38 6) : MSn w1 s := by
  rcases h with ⟨q1, q2⟩ | ⟨a, q1, q2, q3⟩
  · exact Or.inl ⟨q1, by rw [h6]; exact q2⟩
  · exact Or.inr ⟨a, q1, by rw [h6]; exact q2, by rw [k.gi (by omega)]; exact q3.1, fun j j0 j1 => by rw [k.gi (by omega)]; exact q3.2 j j0 j1⟩
theorem HM.kp {lo hi : Nat} {L : List AT} (h : HM w L) (k : Kp lo hi w w1) (h1 : 41 < lo ∨ hi < 41) (h4 : gi w1 38 4 = gi w 38 4) : HM w1 L := ⟨by rw [h4]; exact h.1, h.2.1, fun i a hi => ⟨by rw [k.gi (by omega)]; exact (h.2.2 i a hi).1, fun j j0 j1 => by rw [k.gi (by omega)]; exact (h.2.2 i a hi).2 j j0 j1⟩⟩
theorem undo_m (hS : Sh w) (h : MoS w A) : OkI (run X (d + 1) 109 [.inr 38] w) (MO w (undoF A)) := by
  obtain ⟨k38, k39, l39, g1, k41, l41, g3, -⟩ := shM hS
  obtain ⟨hT, hH, hN, hX⟩ := id h
  obtain ⟨h1, h2, h3⟩ := id hH
  refine ok_eq (b109_0 X d 38 w) (ok_gd k38 ?_)
  rw [h1]
  rcases List.eq_nil_or_concat A.2.2.1 with e | ⟨L2, a, e⟩
  · refine ok_iff (by rw [e]; simp) (ok_ret ⟨_, rfl, MO.same h ?_⟩)
    unfold undoF
    rw [e]
    rfl
  · rw [List.concat_eq_append] at e
    have e2 : undoF A = ((L2.length : Int), (a, A.2.1, L2, A.2.2.2)) := by
      unfold undoF
      rw [e, List.getLast?_concat, List.dropLast_concat]
    have hlen : A.2.2.1.length = L2.length + 1 := by rw [e]; simp
    rw [e2, hlen]
    rw [hlen] at h2
    refine ok_ift (by omega) (ok_gd k38 (ok_gd k38 ?_))
    rw [wrap_id (by omega) (by omega), show ((L2.length + 1 : Nat) : Int) - 1 = L2.length by omega, gi_si_eq, wrap_id (by omega) (by omega)]
    have K1 : Kp 38 38 w (si w 38 4 L2.length) := Kp.si (by omega) (by omega)
    have hrow : RowS (si w 38 4 L2.length) 41 (145 * L2.length) a := by
      have := h3 L2.length a (by rw [e]; simp)
      exact ⟨by rw [gi_si_ne (by omega)]; exact this.1, fun k k0 k1 => by rw [gi_si_ne (by omega)]; exact this.2 k k0 k1⟩
    refine ok_gd k38 (ok_r g3 (ok_gd k38 (ok_gd k38 (ok_V (gets_ok (hS.kp K1) (Or.inl rfl) (by rw [ln_si, l41]; omega) (by rw [ln_si, l41]; omega) hrow) (fun z ⟨z1, z2, z3⟩ => ok_gd (((hS.kp K1).kp z2).1 38) (ok_ret ⟨_, rfl, ?_, ⟨z1, ⟨?_, (show L2.length ≤ 4 by omega), fun i b hb => ?_⟩, ?_, ?_⟩, ?_⟩))))))
    · rw [z3 4 (by omega), gi_si_eq]
    · rw [z3 4 (by omega), gi_si_eq]
    · have hlt : i < L2.length := (List.getElem?_eq_some_iff.mp hb).1
      have := h3 i b (by rw [e, List.getElem?_append_left hlt]; exact hb)
      exact ⟨by rw [z2.gi (by omega), gi_si_ne (by omega)]; exact this.1, fun k k0 k1 => by rw [z2.gi (by omega), gi_si_ne (by omega)]; exact this.2 k k0 k1⟩
    · exact (hN.kp K1 (by omega) (gi_si_ne2 (by omega))).kp z2 (by omega) (z3 6 (by omega))
    · exact (hX.kp K1 (by omega) (gi_si_ne2 (by omega))).kp z2 (by omega) (z3 8 (by omega))
    · exact (K1.wide (by omega) (by omega)).tr (z2.wide (by omega) (by omega))
theorem keep_m (hS : Sh w) (h : MoS w A) : OkI (run X (d + 1) 110 [.inr 38] w) (MO w (keepF A)) := by
  obtain ⟨k38, k39, l39, g1, k41, l41, g3, k42, l42, g5⟩ := shM hS
  obtain ⟨hT, hH, hN, hX⟩ := id h
  refine ok_eq (b110_0 X d 38 w) (ok_gd k38 (ok_r g5 (ok_gd k38 (ok_V (lays_ok hS hT (Or.inr rfl) (o := 0) (by rw [l42]; omega) (by rw [l42]; omega)) (fun z ⟨z1, z2, z3⟩ => ?_)))))
  have Sz := hS.kp z2
  have K1 : Kp 38 38 z (si z 38 6 1) := Kp.si (by omega) (by omega)
  have hT1 := hT.kp z2 (by omega)
  refine ok_gd ⟨Sz.1 38, Or.inr rfl⟩ (ok_gd (Sz.1 38) (ok_ret ⟨_, rfl, ?_, ⟨⟨?_, fun k k0 k1 => ?_⟩, ?_, Or.inr ⟨A.1, rfl, gi_si_eq, ?_, fun k k0 k1 => ?_⟩, ?_⟩, ?_⟩))
  · rw [gi_si_ne2 (by omega)]; exact hT1.1
  · rw [gi_si_ne2 (by omega)]; exact hT1.1
  · rw [gi_si_ne (by omega)]; exact hT1.2 k k0 k1
  · exact (hH.kp z2 (by omega) (z2.gi (by omega) 4)).kp K1 (by omega) (gi_si_ne2 (by omega))
  · rw [gi_si_ne (by omega)]; exact z1.1
  · rw [gi_si_ne (by omega)]; exact z1.2 k k0 k1
  · exact (hX.kp z2 (by omega) (z2.gi (by omega) 8)).kp K1 (by omega) (gi_si_ne2 (by omega))
  · exact (z2.wide (by omega) (by omega)).tr (K1.wide (by omega) (by omega))
end MA
