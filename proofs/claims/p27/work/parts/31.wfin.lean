/-! weights: find, whole, in the machine -/
section WI
variable {X : Nat × (Nat → Int)} {d : Nat} {w w' w2 : MW} {n k : Int} {t : Int → Int → Int} {ps : List T3} {g : Int → Int} {G : Int} {r : AB}
theorem start_ok (hS : Sh w) (hR : Rl w n 0 r) (hG : GrS w n g) (hn : n ≤ 12) {x : Int} (hx : 0 ≤ x ∧ x < n) : OkV (run X d 64 [.inr 27, .inl x, .inl k] w) (fun w' => Kp 28 30 w w' ∧ ∀ y : Int, 0 ≤ y → (y = x → gi w' 28 y.toNat = (nt0 g r k).1 y ∧ gi w' 29 y.toNat = (nt0 g r k).2.1 y ∧ gi w' 30 y.toNat = (nt0 g r k).2.2 y) ∧ (y ≠ x → gi w' 28 y.toNat = gi w 28 y.toNat ∧ gi w' 29 y.toNat = gi w 29 y.toNat ∧ gi w' 30 y.toNat = gi w 30 y.toNat)) := by
  have k27 : kd w 27 = 15 := hS.1 27
  have k28 : kd w 28 = 1 := hS.1 28
  have k29 : kd w 29 = 1 := hS.1 29
  have k30 : kd w 30 = 1 := hS.1 30
  have k34 : kd w 34 = 1 := hS.1 34
  have k36 : kd w 36 = 1 := hS.1 36
  have l28 : ln w 28 = 12 := hS.2.1 28
  have l29 : ln w 29 = 12 := hS.2.1 29
  have l30 : ln w 30 = 12 := hS.2.1 30
  have l34 : ln w 34 = 144 := hS.2.1 34
  have l36 : ln w 36 = 12 := hS.2.1 36
  have g1 : gr w 27 1 = some 28 := hS.2.2 27 1 (by decide)
  have g2 : gr w 27 2 = some 29 := hS.2.2 27 2 (by decide)
  have g3 : gr w 27 3 = some 30 := hS.2.2 27 3 (by decide)
  have g9 : gr w 27 9 = some 34 := hS.2.2 27 9 (by decide)
  have g11 : gr w 27 11 = some 36 := hS.2.2 27 11 (by decide)
  have er : gi w 34 x.toNat = r.1 x := by
    have := (hR x hx.1 hx.2).1
    rw [show 0 * 12 + x = x by omega] at this
    exact this
  have fin : ∀ a b, a = (nt0 g r k).2.1 x → b = (nt0 g r k).2.2 x → Kp 28 30 w (si (si (si w 28 x.toNat (r.1 x)) 29 x.toNat a) 30 x.toNat b) ∧ ∀ y : Int, 0 ≤ y → (y = x → gi (si (si (si w 28 x.toNat (r.1 x)) 29 x.toNat a) 30 x.toNat b) 28 y.toNat = (nt0 g r k).1 y ∧ gi (si (si (si w 28 x.toNat (r.1 x)) 29 x.toNat a) 30 x.toNat b) 29 y.toNat = (nt0 g r k).2.1 y ∧ gi (si (si (si w 28 x.toNat (r.1 x)) 29 x.toNat a) 30 x.toNat b) 30 y.toNat = (nt0 g r k).2.2 y) ∧ (y ≠ x → gi (si (si (si w 28 x.toNat (r.1 x)) 29 x.toNat a) 30 x.toNat b) 28 y.toNat = gi w 28 y.toNat ∧ gi (si (si (si w 28 x.toNat (r.1 x)) 29 x.toNat a) 30 x.toNat b) 29 y.toNat = gi w 29 y.toNat ∧ gi (si (si (si w 28 x.toNat (r.1 x)) 29 x.toNat a) 30 x.toNat b) 30 y.toNat = gi w 30 y.toNat) := by
    intro a b ha hb
    refine ⟨((Kp.si (by omega) (by omega)).tr (Kp.si (by omega) (by omega))).tr (Kp.si (by omega) (by omega)), fun y y0 => ⟨fun e => ?_, fun e => ⟨?_, ?_, ?_⟩⟩⟩
    · rw [e]
      refine ⟨?_, ?_, ?_⟩
      · rw [gi_si_ne (by omega), gi_si_ne (by omega), gi_si_eq]
        rfl
      · rw [gi_si_ne (by omega), gi_si_eq, ha]
      · rw [gi_si_eq, hb]
    · rw [gi_si_ne (by omega), gi_si_ne (by omega), gi_si_ne2 (by omega)]
    · rw [gi_si_ne (by omega), gi_si_ne2 (by omega), gi_si_ne (by omega)]
    · rw [gi_si_ne2 (by omega), gi_si_ne (by omega), gi_si_ne (by omega)]
  refine ok_eq (b64_0 X d 27 x k w) (ok_gd k27 (ok_r g11 (ok_gd ⟨k36, hx.1, by rw [l36]; omega⟩ ?_)))
  rw [hG x hx.1 hx.2]
  have e1 : gi (si w 28 x.toNat (r.1 x)) 34 x.toNat = r.1 x := by rw [gi_si_ne (by omega)]; exact er
  have e2 : ∀ a, gi (si (si w 28 x.toNat (r.1 x)) 29 x.toNat a) 34 x.toNat = r.1 x := fun a => by rw [gi_si_ne (by omega)]; exact e1
  refine ok_if (fun hc => ?_) (fun hc => ?_)
  · refine ok_eq (b64_15 X d 27 x k 0 w) (ok_gd k27 (ok_r g1 (ok_gd k27 (ok_r g9 (ok_gd ⟨k34, hx.1, by rw [l34]; omega⟩ (ok_gd ⟨k28, hx.1, by rw [l28]; omega⟩ (ok_gd k27 (ok_r g2 (ok_ift rfl ?_)))))))))
    rw [er]
    refine ok_eq (b64_47 X d 27 x 0 k x 29 (si w 28 x.toNat (r.1 x))) (ok_gd ⟨k29, hx.1, by show _ < ((ln w 29 : Nat) : Int); rw [l29]; omega⟩ (ok_gd k27 (ok_r g3 (ok_ift rfl (ok_gd ⟨k30, hx.1, by show _ < ((ln w 30 : Nat) : Int); rw [l30]; omega⟩ (ok_ret ⟨rfl, fin k 0 (if_neg hc).symm (if_neg hc).symm⟩))))))
  · have hc' := Decidable.not_not.mp hc
    refine ok_eq (b64_15 X d 27 x k 1 w) (ok_gd k27 (ok_r g1 (ok_gd k27 (ok_r g9 (ok_gd ⟨k34, hx.1, by rw [l34]; omega⟩ (ok_gd ⟨k28, hx.1, by rw [l28]; omega⟩ (ok_gd k27 (ok_r g2 (ok_iff (by omega) (ok_gd k27 (ok_r g9 (ok_gd ⟨k34, hx.1, by show _ < ((ln w 34 : Nat) : Int); rw [l34]; omega⟩ ?_))))))))))))
    rw [er, e1]
    refine ok_eq (b64_47 X d 27 x 1 (r.1 x) x 29 (si w 28 x.toNat (r.1 x))) (ok_gd ⟨k29, hx.1, by show _ < ((ln w 29 : Nat) : Int); rw [l29]; omega⟩ (ok_gd k27 (ok_r g3 (ok_iff (by omega) (ok_gd k27 (ok_r g9 (ok_gd ⟨k34, hx.1, by show _ < ((ln w 34 : Nat) : Int); rw [l34]; omega⟩ (ok_gd ⟨k30, hx.1, by show _ < ((ln w 30 : Nat) : Int); rw [l30]; omega⟩ (ok_ret ⟨rfl, ?_⟩)))))))))
    rw [e2]
    exact fin (r.1 x) (r.1 x) (if_pos hc').symm (if_pos hc').symm
theorem nrw_bd2 {r' : AB} (hr : ∀ x, 0 ≤ x → x < n → 0 ≤ r.1 x ∧ r.2 x ≤ 6) (h0n : 0 ≤ n) (hn : n ≤ 12) (h : nrw n ps r = some r') : Bd n r ∧ Bd n r' ∧ shr n r r' := by
  have hb : Bd n r := by
    intro x x0 x1
    have h1 := hr x x0 x1
    unfold nrw at h
    split at h
    · next hl =>
      rcases lsA_cases (p := fun x => emp r x) h0n with ⟨_, hh⟩ | ⟨q1, q2, _⟩
      · have := hh x x0 x1
        unfold emp at this
        have := of_decide_eq_false this
        omega
      · omega
    · cases h
  exact ⟨hb, nrw_bd hb h⟩
theorem Sg_n2 {f : Int → Int} (hf : ∀ x, f x ≤ 1) (h0 : f 0 ≤ 0) (h1 : f 1 ≤ 0) : ∀ k : Nat, Sg f 0 (k + 2) ≤ k
  | 0 => by
    rw [Sg, Sg, Sg]
    simp
    omega
  | k + 1 => by
    have := Sg_n2 hf h0 h1 k
    have h2 := hf (0 + ((k + 2 : Nat) : Int))
    rw [Sg]
    omega
/-- what find leaves: the ways, and if there are some, the first weighing and the ranges -/
def WfS (w : MW) (t : Int → Int → Int) (n k : Int) : Prop := ∃ ps, (∀ s, s ∈ ps ↔ PrsP t n s) ∧ ((nrw n ps (r0 ps k) = none ∧ gi w 27 0 = 0) ∨ ∃ r, nrw n ps (r0 ps k) = some r ∧ gi w 27 0 = (gloop n ps (grps ps r) r n.toNat 0 1 (nt0 (grps ps r) r k, 0)).1 ∧
  ∀ x, 0 ≤ x → x < n → gi w 28 x.toNat = (gloop n ps (grps ps r) r n.toNat 0 1 (nt0 (grps ps r) r k, 0)).2.1.1 x ∧ gi w 29 x.toNat = (gloop n ps (grps ps r) r n.toNat 0 1 (nt0 (grps ps r) r k, 0)).2.1.2.1 x ∧ gi w 30 x.toNat = (gloop n ps (grps ps r) r n.toNat 0 1 (nt0 (grps ps r) r k, 0)).2.1.2.2 x)
theorem wfind_ok (hS : Sh w) (hT : Tb w 2 n t) (hw : twf t n) (hn2 : 2 ≤ n) (hk : 1 ≤ k ∧ k ≤ 6) : OkV (run X (d + 23) 54 [.inr 27, .inr 2, .inl k] w) (fun w' => WfS w' t n k ∧ Kp 27 36 w w') := by
  have hn := hT.n12
  refine ok_eq (b54_0 X (d + 22) 27 2 k w) (ok_gd hT.k (ok_gd (hS.1 27) (ok_gd (hS.1 27) ?_)))
  rw [hT.sz]
  have K0 : Kp 27 36 w (si w 27 4 n) := Kp.si (by omega) (by omega)
  refine ok_V (gath_ok (d := d + 20) (hS.kp K0) (hT.kp K0 (by omega)) gi_si_eq (by omega)) (fun w1 ⟨hKg, ps, hP, hm⟩ => ?_)
  have K1 : Kp 27 36 w w1 := K0.tr (hKg.1.wide (by omega) (by omega))
  have S1 := hS.kp K1
  have f1 : gi w1 27 4 = n := by rw [hKg.2 4 (by omega)]; exact gi_si_eq
  have hps : ∀ s, s ∈ ps → psIn n s := fun s hs => by
    have q := (hm s).mp hs
    have h3 := (hw.2.1 s.1 s.2.1).resolve_left (by rw [q.2.2.2.1]; exact q.2.2.2.2)
    rw [q.2.2.2.1] at h3
    unfold PrsP at q
    exact ⟨by omega, by omega, h3⟩
  refine ok_gd (S1.1 27) (ok_V (setf_ok (k := k) S1 hP hps f1 hn2 hn) (fun w2 ⟨hR2, hK2⟩ => ?_))
  have K2 := K1.tr (hK2.1.wide (by omega) (by omega))
  have S2 := hS.kp K2
  have hP2 := hP.kp hK2.1 (by omega)
  have f2 : gi w2 27 4 = n := by rw [hK2.1.gi (by omega)]; exact f1
  have hr0 : ∀ x, 0 ≤ x → x < n → 0 ≤ (r0 ps k).1 x ∧ (r0 ps k).2 x ≤ 6 := fun x _ _ => by
    unfold r0 hi0
    dsimp only
    (repeat' split) <;> omega
  refine ok_gd (S2.1 27) (ok_I (nrw_ok (d := d + 20) S2 hR2 hP2 hps f2 hn (by omega) ⟨by omega, by omega⟩ hr0) (fun c w3 ⟨hK3, hc⟩ => ?_))
  have K3 := K2.tr (hK3.1.wide (by omega) (by omega))
  have S3 := hS.kp K3
  rcases hc with ⟨rfl, hnone⟩ | ⟨r, rfl, hsome, hR3⟩
  · refine ok_ift rfl (ok_eq (b54_32 X (d + 22) 27 k 0 27 w3) (ok_gd (S3.1 27) (ok_gd (S3.1 27) ?_)))
    rw [gi_si_eq]
    exact ok_iff (fun q => q rfl) (ok_ret ⟨rfl, ⟨ps, hm, Or.inl ⟨hnone, gi_si_eq⟩⟩, K3.tr (Kp.si (by omega) (by omega))⟩)
  have hPn : ∃ w4, w4 = si w3 27 0 1 := ⟨_, rfl⟩
  obtain ⟨w4, hw4⟩ := hPn
  refine ok_iff (by omega) (ok_eq (b54_32 X (d + 22) 27 k 1 27 w3) (ok_gd (S3.1 27) (ok_gd (S3.1 27) ?_)))
  rw [gi_si_eq, ← hw4]
  have Ks : Kp 27 27 w3 w4 := by rw [hw4]; exact Kp.si (by omega) (by omega)
  have Ks0 : ∀ j, j ≠ 0 → gi w4 27 j = gi w3 27 j := fun j hj => by rw [hw4]; exact gi_si_ne2 hj
  have w40 : gi w4 27 0 = 1 := by rw [hw4]; exact gi_si_eq
  have K4 := K3.tr (Ks.wide (by omega) (by omega))
  have S4 := hS.kp K4
  have hP4 : PsS w4 ps := ⟨by rw [Ks0 5 (by omega), hK3.1.gi (by omega)]; exact hP2.1, hP2.2.1, fun i s hi => by rw [Ks.gi (by omega), Ks.gi (by omega), Ks.gi (by omega), hK3.1.gi (by omega), hK3.1.gi (by omega), hK3.1.gi (by omega)]; exact hP2.2.2 i s hi⟩
  have f4 : gi w4 27 4 = n := by rw [Ks0 4 (by omega), hK3.1.gi (by omega)]; exact f2
  have hR4 : Rl w4 n 0 r := fun x x0 x1 => by rw [Ks.gi (by omega), Ks.gi (by omega)]; exact hR3 x x0 x1
  have hbd := nrw_bd2 hr0 (by omega) hn hsome
  have hop : ∀ G, opnC n (grps ps r) G r ≤ 10 := fun G => by
    unfold opnC
    have := Sg_n2 (f := fun x => bI (grps ps r x = G ∧ r.1 x < r.2 x)) (fun x => bI_rng.2) ?_ ?_ (n.toNat - 2)
    · rw [show n.toNat - 2 + 2 = n.toNat by omega] at this
      omega
    · have h1 := hbd.2.2 0 (by omega) (by omega)
      have h2 := hbd.2.1 0 (by omega) (by omega)
      have h3 : (r0 ps k).2 0 = 0 := if_pos (dB_iff.mpr (Or.inl rfl))
      rw [show bI (grps ps r 0 = G ∧ r.1 0 < r.2 0) = 0 from if_neg (fun q => by have := q.2; omega)]
      exact Int.le_refl _
    · have h1 := hbd.2.2 1 (by omega) (by omega)
      have h2 := hbd.2.1 1 (by omega) (by omega)
      have h3 : (r0 ps k).1 1 = k := by show (if (1 : Int) = 1 then k else 0) = k; rw [if_pos rfl]
      have h4 : (r0 ps k).2 1 ≤ k := by
        unfold r0 hi0
        dsimp only
        split <;> omega
      rw [show bI (grps ps r 1 = G ∧ r.1 1 < r.2 1) = 0 from if_neg (fun q => by have := q.2; omega)]
      exact Int.le_refl _
  refine ok_ift (by omega) (ok_gd (S4.1 27) (ok_V (form_ok (d := d + 21) S4 hR4 hP4 hps f4 (by omega) hn) (fun w5 ⟨hG5, hK5⟩ => ?_)))
  have K5 := K4.tr (hK5.wide (by omega) (by omega))
  have S5 := hS.kp K5
  have hP5 := hP4.kp hK5 (by omega)
  have f5 : gi w5 27 4 = n := by rw [hK5.gi (by omega)]; exact f4
  have w50 : gi w5 27 0 = 1 := by rw [hK5.gi (by omega)]; exact w40
  have hR5 : Rl w5 n 0 r := fun x x0 x1 => by rw [hK5.gi (by omega), hK5.gi (by omega)]; exact hR4 x x0 x1
  generalize hgdef : grps ps r = γ at hG5 hop
  have groups : ∀ w6, Kp 28 30 w5 w6 → (∀ x, 0 ≤ x → x < n → gi w6 28 x.toNat = (nt0 γ r k).1 x ∧ gi w6 29 x.toNat = (nt0 γ r k).2.1 x ∧ gi w6 30 x.toNat = (nt0 γ r k).2.2 x) → Ok (R X (d + 23) 54 71 [some (.inr 27), none, none, some (.inl 0)] [] w6) (fun v w' => v = none ∧ WfS w' t n k ∧ Kp 27 36 w w') := by
    intro w6 hK6 hN6
    have K6 := K5.tr (hK6.wide (by omega) (by omega))
    refine ok_up (fun i z => R X (d + 23) 54 71 [some (.inr 27), none, none, some (.inl i)] [] z) (fun i z => ∃ wy nt, Kp 27 36 w z ∧ PsS z ps ∧ Rl z n 0 r ∧ GrS z n γ ∧ gi z 27 4 = n ∧ gi z 27 0 = wy ∧ (0 ≤ wy ∧ wy ≤ 1000) ∧ (∀ x, 0 ≤ x → x < n → gi z 28 x.toNat = nt.1.1 x ∧ gi z 29 x.toNat = nt.1.2.1 x ∧ gi z 30 x.toNat = nt.1.2.2 x) ∧ gloop n ps γ r n.toNat 0 1 (nt0 γ r k, 0) = gloop n ps γ r (n - i).toNat i wy nt) 0 n (by omega) ?_ ?_ w6 ⟨1, (nt0 γ r k, 0), K6, ⟨by rw [hK6.gi (by omega)]; exact hP5.1, hP5.2.1, fun i s hi => by rw [hK6.gi (by omega), hK6.gi (by omega), hK6.gi (by omega)]; exact hP5.2.2 i s hi⟩, fun x x0 x1 => by rw [hK6.gi (by omega), hK6.gi (by omega)]; exact hR5 x x0 x1, fun x x0 x1 => by rw [hK6.gi (by omega)]; exact hG5 x x0 x1, by rw [hK6.gi (by omega)]; exact f5, by rw [hK6.gi (by omega)]; exact w50, by omega, hN6, by rw [Int.sub_zero]⟩
    · intro i z h1 h2 ⟨wy, nt, hK, hPz, hRz, hGz, e4, e0, hwy, hN, hE⟩ ih
      have Sz := hS.kp hK
      have z27 : kd z 27 = 15 := Sz.1 27
      have z36 : kd z 36 = 1 := Sz.1 36
      have l36 : ln z 36 = 12 := Sz.2.1 36
      have g11 : gr z 27 11 = some 36 := Sz.2.2 27 11 (by decide)
      rw [show (n - i).toNat = (n - (i + 1)).toNat + 1 by omega, gloop] at hE
      refine ok_eq (b54_71 X (d + 22) 27 i z) (ok_gd z27 (ok_iff (by rw [e4]; omega) (ok_gd z27 ?_)))
      rw [e0]
      refine ok_if (fun hw0 => ok_ret ⟨rfl, ⟨ps, hm, Or.inr ⟨r, hsome, ?_⟩⟩, hK⟩) (fun hw0 => ok_gd z27 (ok_r g11 (ok_gd ⟨z36, h1, by rw [l36]; omega⟩ ?_)))
      · rw [if_pos hw0] at hE
        rw [hgdef, hE]
        exact ⟨e0, hN⟩
      · rw [if_neg hw0] at hE
        rw [hGz i h1 h2, wrap_id (z := i + 1) (by omega) (by omega)]
        refine ok_if (fun hne => ih z ⟨wy, nt, hK, hPz, hRz, hGz, e4, e0, hwy, hN, ?_⟩) (fun hne => ok_gd z27 (ok_gd z27 ?_))
        · rw [if_pos hne] at hE
          exact hE
        · rw [if_neg hne] at hE
          have Kz1 : Kw 0 z (si z 27 12 0) := ⟨Kp.si (by omega) (by omega), fun j hj => gi_si_ne2 hj, fun b b1 b2 j => gi_si_ne (by omega), fun j hj => ⟨gi_si_ne (by omega), gi_si_ne (by omega)⟩⟩
          have hNz : NtS (si z 27 12 0) n (nt.1, 0) := ⟨fun x x0 x1 => by rw [gi_si_ne (by omega), gi_si_ne (by omega), gi_si_ne (by omega)]; exact hN x x0 x1, gi_si_eq⟩
          have hbw := wghF_bd (ps := ps) (g := γ) (G := i) 10 r (nt.1, 0) (by omega) hbd.2.1
          have hp10 : pw7 10 = 282475249 := by decide
          refine ok_V (weigh_ok (X := X) (G := i) hps hn (by omega) 10 d 0 r (nt.1, 0) (si z 27 12 0) (Sz.kp Kz1.1) (hRz.kw Kz1 hn (by omega)) (hGz.kw Kz1) hNz (hPz.kw Kz1) (by rw [Kz1.2.1 4 (by omega)]; exact e4) hbd.2.1 (hop i) (by omega) (by omega) (by show (0 : Int) ≤ 0; omega) (by show 0 + pw7 10 < 2147483648; omega)) (fun z2 ⟨hN2, hKw2⟩ => ?_)
          have Kz2 := Kz1.tr hKw2
          have hK2' := hK.tr (Kz2.1.wide (by omega) (by omega))
          have S2' := hS.kp hK2'
          generalize wghF n ps γ i 10 r (nt.1, 0) = ntF at hN2 hE hbw
          have e02 : gi z2 27 0 = wy := by rw [Kz2.2.1 0 (by omega)]; exact e0
          have e122 : gi z2 27 12 = ntF.2 := hN2.2
          refine ok_gd (S2'.1 27) (ok_gd (S2'.1 27) (ok_gd (S2'.1 27) ?_))
          dsimp only at hbw
          have hmn : 0 ≤ minI 1000 ntF.2 ∧ minI 1000 ntF.2 ≤ 1000 := by
            unfold minI
            split <;> omega
          have hpr : 0 ≤ wy * minI 1000 ntF.2 := Int.mul_nonneg hwy.1 hmn.1
          have hpr2 : wy * minI 1000 ntF.2 ≤ 1000 * 1000 := Int.mul_le_mul hwy.2 hmn.2 hmn.1 (by omega)
          rw [e02, e122, wrap_id (by omega) (by omega)]
          have Ke : Kw 0 z2 (si z2 27 0 (minI 1000 (wy * minI 1000 ntF.2))) → True := fun _ => trivial
          refine ih _ ⟨minI 1000 (wy * minI 1000 ntF.2), ntF, hK2'.tr (Kp.si (by omega) (by omega)), ?_, ?_, ?_, ?_, gi_si_eq, ?_, ?_, hE⟩
          · have hq := hPz.kw Kz2
            exact ⟨by rw [gi_si_ne2 (by omega)]; exact hq.1, hq.2.1, fun j s hj => by rw [gi_si_ne (by omega), gi_si_ne (by omega), gi_si_ne (by omega)]; exact hq.2.2 j s hj⟩
          · intro x x0 x1
            rw [gi_si_ne (by omega), gi_si_ne (by omega)]
            exact hRz.kw Kz2 hn (by omega) x x0 x1
          · intro x x0 x1
            rw [gi_si_ne (by omega)]
            exact hGz.kw Kz2 x x0 x1
          · rw [gi_si_ne2 (by omega), Kz2.2.1 4 (by omega)]
            exact e4
          · generalize wy * minI 1000 ntF.2 = m at hpr hpr2
            unfold minI
            split <;> omega
          · intro x x0 x1
            rw [gi_si_ne (by omega), gi_si_ne (by omega), gi_si_ne (by omega)]
            exact hN2.1 x x0 x1
    · intro z ⟨wy, nt, hK, hPz, hRz, hGz, e4, e0, hwy, hN, hE⟩
      rw [Int.sub_self, show (0 : Int).toNat = 0 from rfl, gloop] at hE
      refine ok_eq (b54_71 X (d + 22) 27 n z) (ok_gd ((hS.kp hK).1 27) (ok_ift (by rw [e4]; omega) (ok_ret ⟨rfl, ⟨ps, hm, Or.inr ⟨r, hsome, ?_⟩⟩, hK⟩)))
      rw [hgdef, hE]
      exact ⟨e0, hN⟩
  refine ok_up (fun i z => R X (d + 23) 54 49 [some (.inr 27), none, some (.inl k), some (.inl i)] [] z) (fun i z => Kp 28 30 w5 z ∧ ∀ x, 0 ≤ x → x < i → gi z 28 x.toNat = (nt0 γ r k).1 x ∧ gi z 29 x.toNat = (nt0 γ r k).2.1 x ∧ gi z 30 x.toNat = (nt0 γ r k).2.2 x) 0 n (by omega) ?_ ?_ w5 ⟨Kp.rf, fun x q1 q2 => by omega⟩
  · intro i z h1 h2 ⟨hK, hI⟩ ih
    have Sz := S5.kp hK
    refine ok_eq (b54_49 X (d + 22) 27 k i z) (ok_gd (Sz.1 27) (ok_iff (by rw [hK.gi (by omega), f5]; omega) (ok_gd (Sz.1 27) ?_)))
    rw [wrap_id (z := i + 1) (by omega) (by omega)]
    refine ok_V (start_ok (k := k) (r := r) (g := γ) Sz (fun x x0 x1 => by rw [hK.gi (by omega), hK.gi (by omega)]; exact hR5 x x0 x1) (fun x x0 x1 => by rw [hK.gi (by omega)]; exact hG5 x x0 x1) hn ⟨h1, h2⟩) (fun z2 ⟨q1, q2⟩ => ih z2 ⟨hK.tr q1, fun x x0 x1 => ?_⟩)
    by_cases e : x = i
    · exact (q2 x x0).1 e
    · obtain ⟨v1, v2, v3⟩ := (q2 x x0).2 e
      rw [v1, v2, v3]
      exact hI x x0 (by omega)
  · intro z ⟨hK, hI⟩
    exact ok_eq (b54_49 X (d + 22) 27 k n z) (ok_gd ((S5.kp hK).1 27) (ok_ift (by rw [hK.gi (by omega), f5]; omega) (groups z hK hI)))
end WI
