/-! the class's object and the reference's, made -/
section CU
variable {X : Nat × (Nat → Int)} {d M N S : Nat} {l : List (Nat × Nat)} {b w w' : MW}
theorem getD_out {α : Type} {l : List α} {a : Nat} {v : α} (h : l.length ≤ a) : l.getD a v = v := by
  rw [List.getD_eq_getElem?_getD, List.getElem?_eq_none h]
  rfl
def lCls : List (Nat × Nat) := [(1, 8), (1, 7), (27, 11), (27, 10), (27, 9), (27, 8), (27, 7), (27, 6), (27, 3), (27, 2), (27, 1), (1, 6), (22, 3), (22, 2), (22, 1), (22, 0), (1, 5), (1, 4), (16, 6), (16, 5), (16, 4), (16, 1), (1, 3), (7, 3), (14, 1), (7, 2), (12, 1), (7, 1), (10, 1), (7, 0), (8, 1), (6, 1), (1, 1), (4, 1), (1, 0), (2, 1)]
theorem cls_c (h : CBd M b 2 S [] w) : OkV (run X (d + 6) 70 [.inr 1] w) (fun w' => ∃ b S', CBd 4 b 38 S' lCls w' ∧ Tb b 2 2 (tnew 2) ∧ S' = S + 1611) := by
  have c0 := (h.base (M2 := 0) (by omega)).al (kind := 13) (len := 0) (slots := 2) rfl rfl
  refine ok_eq (b70_0 X (d + 5) 1 w) ?_
  rw [h.nxv]
  refine ok_gd ((c0.kdv (by omega)).trans rfl) (ok_V (table_c (d := d + 1) c0 rfl rfl rfl rfl ⟨Or.inl (by omega), Or.inl (by omega)⟩ (by omega)) (fun w1 ⟨c1, t1⟩ => ?_))
  have e1 := (c1.base (M2 := 4) (by omega)).sr (a := 1) (k := 0) (v := 2) (by omega) rfl
  have f1 := e1.al (kind := 13) (len := 0) (slots := 2) rfl rfl
  rw [show nx (sr w1 1 0 (some 2)) = 4 from c1.nxv]
  refine ok_gd ((c1.kdv (by omega)).trans rfl) (ok_gd ((f1.kdv (by omega)).trans rfl) (ok_V (table_c (d := d + 1) f1 rfl rfl rfl rfl ⟨Or.inl (by omega), Or.inl (by omega)⟩ (by omega)) (fun w2 ⟨c2, _⟩ => ?_)))
  have e2 := (c2.sr (a := 1) (k := 1) (v := 4) (by omega) rfl).si0 (a := 1) (k := 2) (fun q => by rcases q with q | q | q | q <;> omega)
  have f2 := e2.al (kind := 10) (len := 0) (slots := 2) rfl rfl
  rw [show nx (si (sr w2 1 1 (some 4)) 1 2 0) = 6 from c2.nxv]
  refine ok_gd ((c2.kdv (by omega)).trans rfl) (ok_gd ⟨(c2.kdv (a := 1) (by omega)).trans rfl, Or.inl rfl⟩ (ok_gd ((f2.kdv (by omega)).trans rfl) (ok_V (hist_c (d := d) f2 (by omega)) (fun w3 ⟨S3, l3, hS3, hl3, c3⟩ => ?_))))
  rw [hS3, hl3] at c3
  have e3 := c3.sr (a := 1) (k := 3) (v := 6) (by omega) rfl
  have f3 := e3.al (kind := 14) (len := 0) (slots := 7) rfl rfl
  rw [show nx (sr w3 1 3 (some 6)) = 16 from c3.nxv]
  refine ok_gd ((c3.kdv (by omega)).trans rfl) (ok_gd ((f3.kdv (by omega)).trans rfl) (ok_V (text_c (d := d + 5) f3) (fun w4 c4 => ?_)))
  have e4 := c4.sr (a := 1) (k := 4) (v := 16) (by omega) rfl
  have f4 := e4.al (kind := 11) (len := 0) (slots := 5) rfl rfl
  rw [show nx (sr w4 1 4 (some 16)) = 21 from c4.nxv]
  refine ok_gd ((c4.kdv (by omega)).trans rfl) (ok_gd ((f4.kdv (by omega)).trans rfl) (ok_V (Q := fun w5 => w5 = al (sr w4 1 4 (some 16)) 11 0 5) ⟨_, _, b5_0 X (d + 5) 21 _, rfl, rfl⟩ (fun w5 h5 => ?_)))
  rw [← h5] at f4
  have e5 := f4.sr (a := 1) (k := 5) (v := 21) (by omega) rfl
  have f5 := e5.al (kind := 12) (len := 0) (slots := 5) rfl rfl
  rw [show nx (sr w5 1 5 (some 21)) = 22 from f4.nxv]
  refine ok_gd ((f4.kdv (by omega)).trans rfl) (ok_gd ((f5.kdv (by omega)).trans rfl) (ok_V (rel_c (d := d + 5) f5) (fun w6 c6 => ?_)))
  have e6 := c6.sr (a := 1) (k := 6) (v := 22) (by omega) rfl
  have f6 := e6.al (kind := 15) (len := 0) (slots := 13) rfl rfl
  rw [show nx (sr w6 1 6 (some 22)) = 27 from c6.nxv]
  refine ok_gd ((c6.kdv (by omega)).trans rfl) (ok_gd ((f6.kdv (by omega)).trans rfl) (ok_V (wts_c (d := d + 5) f6) (fun w7 c7 => ?_)))
  have e7 := c7.sr (a := 1) (k := 7) (v := 27) (by omega) rfl
  have f7 := e7.al (kind := 1) (len := 12) (slots := 12) rfl rfl
  have g7 := f7.sr (a := 1) (k := 8) (v := 37) (by omega) rfl
  rw [show nx (sr w7 1 7 (some 27)) = 37 from c7.nxv]
  exact ok_gd ((c7.kdv (by omega)).trans rfl) (ok_gd ((f7.kdv (by omega)).trans rfl) (ok_ret ⟨rfl, w1, _, g7, t1, by omega⟩))
theorem CBd.siT (h : CBd M b N S l w) {a k : Nat} {v : Int} (ht : tcl a) (ha : a < N) (hM : M ≤ a) : CBd M b N S l (si w a k v) := by
  obtain ⟨n, hk, hl, hgr, hp, hz, hM2, hb⟩ := h
  exact ⟨n, hk, hl, hgr, hp, fun c hc j => by rw [gi_si_ne (fun e => by rw [e] at hc; rcases hc with q | q; omega; exact q ht)]; exact hz c hc j, hM2, fun c hc j => by rw [gi_si_ne (by omega)]; exact hb c hc j⟩
theorem sh_of (h : CBd M b 38 S lCls w) : Sh w := by
  refine ⟨fun a => ?_, fun a => ?_, fun a k ha => ?_⟩
  · rw [h.2.1 a]
    by_cases e : a < 38
    · rw [if_pos e]
    · rw [if_neg e, getD_out (by show KDl.length ≤ a; have : KDl.length = 38 := rfl; omega)]
  · rw [h.2.2.1 a]
    by_cases e : a < 38
    · rw [if_pos e]
    · rw [if_neg e, getD_out (by show LNl.length ≤ a; have : LNl.length = 38 := rfl; omega)]
  · rw [h.2.2.2.1 a k]
    have hG : GRf a k = (GRl.getD a []).getD k none := if_neg ha
    by_cases e : (a, k) ∈ lCls
    · rw [if_pos e, hG]
    · rw [if_neg e]
      by_cases ea : a < 38
      · have hlen : ∀ a, a < 38 → (GRl.getD a []).length ≤ 18 := by decide +kernel
        by_cases ek : k < 18
        · have key : ∀ a, a < 38 → ∀ k, k < 18 → (a, k) ∈ lCls ∨ a = 7 ∨ (GRl.getD a []).getD k none = none := by decide +kernel
          rcases key a ea k ek with q | q | q
          · exact absurd q e
          · exact absurd q ha
          · exact q.symm
        · rw [getD_out (by have := hlen a ea; omega)]
      · have : GRl.getD a [] = [] := getD_out (Nat.le_trans (show GRl.length ≤ 38 by decide +kernel) (by omega))
        rw [this]
        rfl
def A00 : AS := ((2, tnew 2), none, [], (0, fun _ => 0))
theorem init_ok (hb : Tb b 2 2 (tnew 2)) (h : CBd 4 b 38 S lCls w') : ClS w' A00 ∧ nx w' = 38 ∧ sl w' = S := by
  have hS := sh_of h
  have i1 : ∀ a, a < 4 → ∀ j, gi w' a j = gi b a j := fun a ha j => h.2.2.2.2.2.2.2 a ha j
  have z0 : ∀ a, ¬ tcl a → ∀ k, gi w' a k = 0 := fun a ha k => h.2.2.2.2.2.1 a (Or.inr ha) k
  have nt : ∀ a, (a = 1 ∨ a = 6 ∨ a = 16) → ¬ tcl a := fun a ha q => by rcases q with q | q | q | q <;> omega
  refine ⟨⟨hS, ⟨⟨⟨hS.1 2, hS.1 3, hS.2.1 3, hS.2.2 2 1 (by decide)⟩, ⟨by rw [i1 2 (by omega)]; exact hb.sz, by show (0 : Int) ≤ 2; omega, by show (2 : Int) ≤ 12; omega⟩, fun a c a0 a1 c0 c1 => by rw [i1 3 (by omega)]; exact hb.en a0 a1 c0 c1, fun a c q => hb.out q⟩, by show (2 : Int) ≤ 2; omega, by show (2 : Int) ≤ 12; omega, twf_new (by show (1 : Int) ≤ 2; omega)⟩, Or.inl ⟨rfl, z0 1 (nt 1 (by omega)) 2⟩, ⟨⟨fun i => 8 + 2 * i, fun i hi => ?_, fun i hi => ?_, fun i j hi hj e => by dsimp only at e; omega, by show (0 : Nat) ≤ 4; omega, by rw [z0 6 (nt 6 (by omega))]; rfl, fun i a hi => by simp [A00] at hi⟩, fun a ha => by simp [A00] at ha⟩, ⟨z0 16 (nt 16 (by omega)) 0, ⟨by show (0 : Int) ≤ 0; omega, by show (0 : Int) ≤ 60; omega⟩, fun j j0 j1 => absurd j1 (by show ¬ j < 0; omega)⟩⟩, h.1.1, h.1.2⟩
  · have key : ∀ i, i < 4 → (7, i) ∈ lCls ∧ GRf 7 i = some (8 + 2 * i) := by decide +kernel
    rw [h.grv (key i hi).1, (key i hi).2]
  · have : i = 0 ∨ i = 1 ∨ i = 2 ∨ i = 3 := by omega
    unfold hcell
    dsimp only
    omega
end CU
