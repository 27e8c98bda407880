/-! weights: the search in the machine -/
def opnC (n : Int) (g : Int → Int) (G : Int) (r : AB) : Int := Sg (fun x => bI (g x = G ∧ r.1 x < r.2 x)) 0 n.toNat
def pw7 (f : Nat) : Int := ((7 ^ f : Nat) : Int)
theorem Sg_le {f f' : Int → Int} {lo : Int} : ∀ (k : Nat), (∀ x, lo ≤ x → x < lo + k → f x ≤ f' x) → Sg f lo k ≤ Sg f' lo k
  | 0, _ => by simp [Sg]
  | k + 1, h => by
    have h1 := Sg_le k (fun x q1 q2 => h x q1 (by omega))
    have h2 := h (lo + k) (by omega) (by omega)
    rw [Sg, Sg]
    omega
theorem Sg_lt {f f' : Int → Int} {lo y : Int} : ∀ (k : Nat), (∀ x, lo ≤ x → x < lo + k → f x ≤ f' x) → lo ≤ y → y < lo + k → f y + 1 ≤ f' y → Sg f lo k + 1 ≤ Sg f' lo k
  | 0, _, h1, h2, _ => by omega
  | k + 1, h, h1, h2, h3 => by
    have h4 := h (lo + k) (by omega) (by omega)
    rw [Sg, Sg]
    by_cases e : y = lo + k
    · have h5 := Sg_le (f := f) (f' := f') (lo := lo) k (fun x q1 q2 => h x q1 (by omega))
      rw [e] at h3
      omega
    · have h5 := Sg_lt (f := f) (f' := f') k (fun x q1 q2 => h x q1 (by omega)) h1 (by omega) h3
      omega
section WW
variable {X : Nat × (Nat → Int)} {w w' w2 : MW} {n : Int} {ps : List T3} {g : Int → Int} {G : Int}
theorem nrw_bd {r r' : AB} (hr : Bd n r) (h : nrw n ps r = some r') : Bd n r' ∧ shr n r r' := by
  unfold nrw at h
  split at h
  · exact nrR_bd 100 r hr h
  · cases h
theorem setR_bd {r : AB} {y v : Int} (hr : Bd n r) (h1 : r.1 y ≤ v) (h2 : v ≤ r.2 y) : Bd n (setR r y v) ∧ shr n r (setR r y v) := by
  constructor
  · intro x x0 x1
    have h := hr x x0 x1
    unfold setR
    dsimp only
    by_cases e : x = y
    · subst e
      rw [if_pos rfl, if_pos rfl]
      omega
    · rw [if_neg e, if_neg e]; exact h
  · intro x x0 x1
    have h := hr x x0 x1
    unfold setR
    dsimp only
    by_cases e : x = y
    · subst e
      rw [if_pos rfl, if_pos rfl]
      omega
    · rw [if_neg e, if_neg e]; omega
theorem fopn_cases {r : AB} (h0n : 0 ≤ n) : (fopn n g G r = 12 ∧ ∀ x, 0 ≤ x → x < n → ¬ (g x = G ∧ r.1 x < r.2 x)) ∨ (0 ≤ fopn n g G r ∧ fopn n g G r < n ∧ (g (fopn n g G r) = G ∧ r.1 (fopn n g G r) < r.2 (fopn n g G r)) ∧ ∀ x, 0 ≤ x → x < fopn n g G r → ¬ (g x = G ∧ r.1 x < r.2 x)) := by
  have hb : ∀ x, (decide (g x = G) && decide (r.1 x < r.2 x)) = true ↔ (g x = G ∧ r.1 x < r.2 x) := fun x => by simp
  rcases lsA_cases (p := fun x => decide (g x = G) && decide (r.1 x < r.2 x)) h0n with ⟨q1, q2⟩ | ⟨q1, q2, q3, q4⟩
  · refine Or.inl ⟨q1, fun x x0 x1 q => ?_⟩
    have := q2 x x0 x1
    rw [(hb x).mpr q] at this
    exact absurd this (by decide)
  · refine Or.inr ⟨q1, q2, (hb _).mp q3, fun x x0 x1 q => ?_⟩
    have := q4 x x0 x1
    rw [(hb x).mpr q] at this
    exact absurd this (by decide)
theorem opnC_0 {r : AB} (h0n : 0 ≤ n) (hn : n ≤ 12) (h : opnC n g G r ≤ 0) : fopn n g G r = 12 := by
  rcases fopn_cases (g := g) (G := G) (r := r) h0n with ⟨q, _⟩ | ⟨q1, q2, q3, _⟩
  · exact q
  · have h1 := Sg_lt (f := fun _ => 0) (f' := fun x => bI (g x = G ∧ r.1 x < r.2 x)) (lo := 0) (y := fopn n g G r) n.toNat (fun x _ _ => bI_rng.1) q1 (by omega) (by rw [show bI (g (fopn n g G r) = G ∧ r.1 (fopn n g G r) < r.2 (fopn n g G r)) = 1 from if_pos q3]; omega)
    have h2 := (Sg_bd (f := fun _ => (0 : Int)) (lo := 0) (c := 0) (fun _ => ⟨Int.le_refl _, Int.le_refl _⟩) n.toNat).1
    unfold opnC at h
    omega
theorem opnC_lt {r r' : AB} {y : Int} (hs : shr n r r') (hy : 0 ≤ y ∧ y < n) (h1 : g y = G ∧ r.1 y < r.2 y) (h2 : ¬ r'.1 y < r'.2 y) : opnC n g G r' + 1 ≤ opnC n g G r := by
  unfold opnC
  refine Sg_lt n.toNat (fun x x0 x1 => ?_) hy.1 (by omega) ?_
  · have := hs x x0 (by omega)
    by_cases e : g x = G ∧ r'.1 x < r'.2 x
    · rw [show bI (g x = G ∧ r'.1 x < r'.2 x) = 1 from if_pos e, show bI (g x = G ∧ r.1 x < r.2 x) = 1 from if_pos ⟨e.1, by omega⟩]
      omega
    · rw [show bI (g x = G ∧ r'.1 x < r'.2 x) = 0 from if_neg e]
      exact bI_rng.1
  · rw [show bI (g y = G ∧ r'.1 y < r'.2 y) = 0 from if_neg (fun q => h2 q.2), show bI (g y = G ∧ r.1 y < r.2 y) = 1 from if_pos h1]
    omega
theorem pw7_s (f : Nat) : pw7 (f + 1) = 7 * pw7 f := by
  unfold pw7
  rw [Nat.pow_succ]
  omega
theorem pw7_pos (f : Nat) : 1 ≤ pw7 f := by
  unfold pw7
  have := Nat.pow_pos (n := f) (show 0 < 7 by omega)
  omega
theorem wloop_bd {body : Int → Nt → Nt} {c : Int} {lo hi : Int} (hb : ∀ v nt, lo ≤ v → v ≤ hi → nt.2 ≤ (body v nt).2 ∧ (body v nt).2 ≤ nt.2 + c) : ∀ (k : Nat) (v : Int) (nt : Nt), lo ≤ v → v + k ≤ hi + 1 → nt.2 ≤ (wloop body k v nt).2 ∧ (wloop body k v nt).2 ≤ nt.2 + k * c
  | 0, v, nt, _, _ => by simp [wloop]
  | k + 1, v, nt, h1, h2 => by
    have h3 := hb v nt h1 (by omega)
    have h4 := wloop_bd hb k (v + 1) (body v nt) (by omega) (by omega)
    rw [wloop]
    have e : ((k + 1 : Nat) : Int) * c = k * c + c := by rw [Int.natCast_add, Int.add_mul]; simp
    rw [e]
    omega
theorem wghF_bd : ∀ (f : Nat) (r : AB) (nt : Nt), 0 ≤ n → Bd n r → nt.2 ≤ (wghF n ps g G f r nt).2 ∧ (wghF n ps g G f r nt).2 ≤ nt.2 + pw7 f
  | 0, r, nt, _, _ => by
    rw [wghF]
    show nt.2 ≤ nt.2 + 1 ∧ nt.2 + 1 ≤ nt.2 + 1
    omega
  | f + 1, r, nt, h0n, hr => by
    rw [wghF]
    have p1 := pw7_pos f
    have p2 := pw7_s f
    by_cases h12 : fopn n g G r = 12
    · rw [if_pos h12]
      show nt.2 ≤ nt.2 + 1 ∧ nt.2 + 1 ≤ nt.2 + pw7 (f + 1)
      omega
    · rw [if_neg h12]
      rcases fopn_cases (g := g) (G := G) (r := r) h0n with ⟨q, _⟩ | ⟨q1, q2, q3, _⟩
      · exact absurd q h12
      · have hy := hr _ q1 q2
        have := wloop_bd (body := wbody n ps (wghF n ps g G f) r (fopn n g G r)) (c := pw7 f) (lo := r.1 (fopn n g G r)) (hi := r.2 (fopn n g G r)) (fun v nt v1 v2 => ?_) (r.2 (fopn n g G r) - r.1 (fopn n g G r) + 1).toNat (r.1 (fopn n g G r)) nt (Int.le_refl _) (by omega)
        · have h7 : ((r.2 (fopn n g G r) - r.1 (fopn n g G r) + 1).toNat : Int) * pw7 f ≤ 7 * pw7 f := Int.mul_le_mul_of_nonneg_right (by omega) (by omega)
          omega
        · unfold wbody
          cases hc : nrw n ps (setR r (fopn n g G r) v) with
          | none => dsimp only; omega
          | some r' => exact wghF_bd f r' nt h0n (nrw_bd (setR_bd hr v1 v2).1 hc).1
theorem weigh_ok (hps : ∀ s, s ∈ ps → psIn n s) (hn : n ≤ 12) (h0n : 0 ≤ n) : ∀ (f d : Nat) (l : Int) (r : AB) (nt : Nt) (w : MW), Sh w → Rl w n l r → GrS w n g → NtS w n nt → PsS w ps → gi w 27 4 = n → Bd n r → opnC n g G r ≤ f → 0 ≤ l → l + f ≤ 10 → 0 ≤ nt.2 → nt.2 + pw7 f < 2147483648 → OkV (run X (d + 2 * f + 2) 65 [.inr 27, .inl G, .inl l] w) (fun w' => NtS w' n (wghF n ps g G f r nt) ∧ Kw l w w') := by
  have leaf : ∀ (D : Nat) (l : Int) (r : AB) (nt : Nt) (w : MW), Sh w → Rl w n l r → GrS w n g → NtS w n nt → gi w 27 4 = n → 0 ≤ l → l ≤ 10 → 0 ≤ nt.2 → nt.2 + 1 < 2147483648 → fopn n g G r = 12 → OkV (run X (D + 2) 65 [.inr 27, .inl G, .inl l] w) (fun w' => NtS w' n (noteN g G r nt) ∧ Kw l w w') := by
    intro D l r nt w hS hR hG hN h4 hl0 hl hw0 hw hf
    refine ok_eq (b65_0 X (D + 1) 27 G l w) (ok_gd (hS.1 27) (ok_i (fop_ok hS hR hG h4 hn h0n ⟨hl0, by omega⟩) ?_))
    rw [if_pos hf]
    refine ok_iff (fun q => q rfl) (ok_gd (hS.1 27) (ok_V (note_w hS hR hG hN h4 hn h0n ⟨hl0, by omega⟩ ⟨hw0, hw⟩) (fun z ⟨q1, q2, q3⟩ => ok_ret ⟨rfl, q1, ⟨q2.wide (by omega) (by omega), q3, fun b b1 b2 j => q2.gi (by omega) j, fun j hj => ⟨q2.gi (by omega) _, q2.gi (by omega) _⟩⟩⟩)))
  intro f
  induction f with
  | zero =>
    intro d l r nt w hS hR hG hN hP h4 hB ho hl0 hl hw0 hw
    have hp := pw7_pos 0
    exact leaf (d + 2 * 0) l r nt w hS hR hG hN h4 hl0 (by omega) hw0 (by omega) (opnC_0 h0n hn ho)
  | succ f ih =>
    intro d l r nt w hS hR hG hN hP h4 hB ho hl0 hl hw0 hw
    have hp := pw7_pos f
    have hp2 := pw7_s f
    rw [wghF]
    by_cases h12 : fopn n g G r = 12
    · rw [if_pos h12]
      exact leaf (d + 2 * (f + 1)) l r nt w hS hR hG hN h4 hl0 (by omega) hw0 (by omega) h12
    rw [if_neg h12]
    rcases fopn_cases (g := g) (G := G) (r := r) h0n with ⟨q, _⟩ | ⟨q1, q2, q3, _⟩
    · exact absurd q h12
    generalize hbody : wbody n ps (wghF n ps g G f) r (fopn n g G r) = body
    have hbd : ∀ v nt, body v nt = match nrw n ps (setR r (fopn n g G r) v) with | none => nt | some r' => wghF n ps g G f r' nt := fun v nt => by rw [← hbody]; rfl
    have hfop := fop_ok (X := X) (d := d + 2 * f + 2) hS hR hG h4 hn h0n ⟨hl0, by omega⟩ (G := G)
    rw [if_neg h12] at hfop
    generalize fopn n g G r = y at h12 q1 q2 q3 hbd hfop ⊢
    have hy := hB y q1 q2
    have k27 : kd w 27 = 15 := hS.1 27
    have k34 : kd w 34 = 1 := hS.1 34
    have l34 : ln w 34 = 144 := hS.2.1 34
    have g9 : gr w 27 9 = some 34 := hS.2.2 27 9 (by decide)
    rw [show d + 2 * (f + 1) + 2 = (d + 2 * f + 2 + 1) + 1 by omega]
    refine ok_eq (b65_0 X (d + 2 * f + 2 + 1) 27 G l w) (ok_gd k27 (ok_i hfop ?_))
    rw [wrap_id (z := l * 12) (by omega) (by omega), wrap_id (z := l * 12 + y) (by omega) (by omega)]
    refine ok_ift (by omega) (ok_gd k27 (ok_r g9 (ok_gd ⟨k34, by omega, by rw [l34]; omega⟩ ?_)))
    rw [(hR y q1 q2).1]
    refine ok_up (fun v (z : MW) => R X (d + 2 * f + 2 + 1 + 1) 65 36 [some (.inr 27), some (.inl G), some (.inl l), some (.inl y), some (.inl (l * 12 + y)), some (.inl v)] [] z) (fun v z => ∃ nv, Kw l w z ∧ NtS z n nv ∧ wloop body (r.2 y - r.1 y + 1).toNat (r.1 y) nt = wloop body (r.2 y + 1 - v).toNat v nv ∧ 0 ≤ nv.2 ∧ nv.2 ≤ nt.2 + (v - r.1 y) * pw7 f) (r.1 y) (r.2 y + 1) (by omega) ?_ ?_ w ⟨nt, Kw.rf, hN, by rw [show r.2 y - r.1 y + 1 = r.2 y + 1 - r.1 y by omega], hw0, by rw [Int.sub_self]; omega⟩
    · intro v z v1 v2 ⟨nv, hK, hNz, hE, hn0, hn1⟩ ihv
      have Sz := hS.kp hK.1
      have z27 : kd z 27 = 15 := Sz.1 27
      have z34 : kd z 34 = 1 := Sz.1 34
      have z35 : kd z 35 = 1 := Sz.1 35
      have m34 : ln z 34 = 144 := Sz.2.1 34
      have m35 : ln z 35 = 144 := Sz.2.1 35
      have h9 : gr z 27 9 = some 34 := Sz.2.2 27 9 (by decide)
      have h10 : gr z 27 10 = some 35 := Sz.2.2 27 10 (by decide)
      have hRz := hR.kw hK hn hl0
      have hGz := hG.kw hK
      have hPz := hP.kw hK
      have h4z : gi z 27 4 = n := by rw [hK.2.1 4 (by omega)]; exact h4
      rw [show (r.2 y + 1 - v).toNat = (r.2 y + 1 - (v + 1)).toNat + 1 by omega, wloop] at hE
      have hmul : (v + 1 - r.1 y) * pw7 f = (v - r.1 y) * pw7 f + pw7 f := by rw [show v + 1 - r.1 y = v - r.1 y + 1 by omega, Int.add_mul, Int.one_mul]
      have h7 : (v + 1 - r.1 y) * pw7 f ≤ 7 * pw7 f := Int.mul_le_mul_of_nonneg_right (by omega) (by omega)
      refine ok_eq (b65_36 X (d + 2 * f + 2 + 1) 27 G l y (l * 12 + y) v z) (ok_gd z27 (ok_r h10 (ok_gd ⟨z35, by omega, by rw [m35]; omega⟩ ?_)))
      rw [(hRz y q1 q2).2, wrap_id (z := v + 1) (by omega) (by omega)]
      refine ok_iff (by omega) (ok_gd z27 ?_)
      have inner : OkV (run X (d + 2 * f + 2 + 1) 66 [.inr 27, .inl G, .inl l, .inl y, .inl v] z) (fun w' => NtS w' n (body v nv) ∧ Kw l z w') := by
        refine ok_eq (b66_0 X (d + 2 * f + 2) 27 G l y v z) ?_
        rw [wrap_id (z := l + 1) (by omega) (by omega), wrap_id (z := (l + 1) * 12) (by omega) (by omega), wrap_id (z := (l + 1) * 12 + y) (by omega) (by omega)]
        refine ok_ift (by omega) (ok_gd z27 (ok_V (copy_ok Sz hRz hn ⟨hl0, by omega⟩) (fun u ⟨hRu, hKu⟩ => ?_)))
        have Su := Sz.kp hKu.1
        have u34 : kd u 34 = 1 := Su.1 34
        have u35 : kd u 35 = 1 := Su.1 35
        have n34 : ln u 34 = 144 := Su.2.1 34
        have n35 : ln u 35 = 144 := Su.2.1 35
        have i9 : gr u 27 9 = some 34 := Su.2.2 27 9 (by decide)
        have i10 : gr u 27 10 = some 35 := Su.2.2 27 10 (by decide)
        have hKs : Kl (l + 1) u (si (si u 34 ((l + 1) * 12 + y).toNat v) 35 ((l + 1) * 12 + y).toNat v) := ⟨(Kp.si (by omega) (by omega)).tr (Kp.si (by omega) (by omega)), fun j hj => ⟨by rw [gi_si_ne (by omega), gi_si_ne2 (by omega)], by rw [gi_si_ne2 (by omega), gi_si_ne (by omega)]⟩⟩
        refine ok_gd (Su.1 27) (ok_r i9 (ok_gd ⟨u34, by omega, by rw [n34]; omega⟩ (ok_gd (Su.1 27) (ok_r i10 (ok_gd ⟨u35, by omega, by show _ < ((ln u 35 : Nat) : Int); rw [n35]; omega⟩ (ok_gd (Su.1 27) ?_))))))
        have hRs : Rl (si (si u 34 ((l + 1) * 12 + y).toNat v) 35 ((l + 1) * 12 + y).toNat v) n (l + 1) (setR r y v) := by
          intro x x0 x1
          unfold setR
          dsimp only
          by_cases e : x = y
          · rw [e, if_pos rfl, if_pos rfl, gi_si_ne (by omega), gi_si_eq, gi_si_eq]
            exact ⟨rfl, rfl⟩
          · rw [if_neg e, if_neg e, gi_si_ne (by omega), gi_si_ne2 (by omega), gi_si_ne2 (by omega), gi_si_ne (by omega)]
            exact hRu x x0 x1
        generalize hss : si (si u 34 ((l + 1) * 12 + y).toNat v) 35 ((l + 1) * 12 + y).toNat v = ss at hKs hRs
        have hKzs := hKu.tr hKs
        have hKw1 : Kw l z ss := hKzs.kw (by omega)
        have hsb := setR_bd (y := y) (v := v) hB (by omega) (by omega)
        refine ok_I (nrw_ok (X := X) (d := d + 2 * f) (Su.kp hKs.1) hRs (hPz.kw hKw1) hps (by rw [hKw1.2.1 4 (by omega)]; exact h4z) hn h0n ⟨by omega, by omega⟩ (fun x x0 x1 => by have := hsb.1 x x0 x1; omega)) (fun c w3 ⟨hK3, hc⟩ => ?_)
        have hKw3 : Kw l z w3 := (hKzs.tr hK3).kw (by omega)
        rcases hc with ⟨rfl, hnone⟩ | ⟨r', rfl, hsome, hR'⟩
        · refine ok_ift rfl (ok_ret ⟨rfl, ?_, hKw3⟩)
          rw [hbd, hnone]
          refine ⟨fun x x0 x1 => ?_, ?_⟩
          · have hk3 := (hKzs.tr hK3).1
            rw [hk3.gi (by omega), hk3.gi (by omega), hk3.gi (by omega)]
            exact hNz.1 x x0 x1
          · rw [(hKzs.tr hK3).1.gi (by omega)]
            exact hNz.2
        · have hb2 := nrw_bd hsb.1 hsome
          have S3 := Sz.kp hKw3.1
          have hk3 := (hKzs.tr hK3).1
          have hNt3 : NtS w3 n nv := ⟨fun x x0 x1 => by rw [hk3.gi (by omega), hk3.gi (by omega), hk3.gi (by omega)]; exact hNz.1 x x0 x1, by rw [hk3.gi (by omega)]; exact hNz.2⟩
          have hopn := opnC_lt (g := g) (G := G) (hsb.2.tr hb2.2) ⟨q1, q2⟩ q3 (by
            have := hb2.2 y q1 q2
            have e1 : (setR r y v).1 y = v := if_pos rfl
            have e2 : (setR r y v).2 y = v := if_pos rfl
            omega)
          refine ok_iff (by omega) (ok_gd (S3.1 27) (ok_V (ih d (l + 1) r' nv w3 S3 hR' (hGz.kw hKw3) hNt3 (hPz.kw hKw3) (by rw [hKw3.2.1 4 (by omega)]; exact h4z) hb2.1 (by omega) (by omega) (by omega) hn0 (by omega)) (fun w4 ⟨hN4, hK4⟩ => ok_ret ⟨rfl, ?_, hKw3.tr (hK4.up (by omega))⟩)))
          rw [hbd, hsome]
          exact hN4
      have hbb : nv.2 ≤ (body v nv).2 ∧ (body v nv).2 ≤ nv.2 + pw7 f := by
        rw [hbd]
        cases hc : nrw n ps (setR r y v) with
        | none => dsimp only; omega
        | some r' => exact wghF_bd f r' nv h0n (nrw_bd (setR_bd hB (by omega) (by omega)).1 hc).1
      exact ok_V inner (fun u ⟨hu1, hu2⟩ => ihv u ⟨body v nv, hK.tr hu2, hu1, hE, by omega, by omega⟩)
    · intro z ⟨nv, hK, hNz, hE, hn0, hn1⟩
      have Sz := hS.kp hK.1
      have z35 : kd z 35 = 1 := Sz.1 35
      have m35 : ln z 35 = 144 := Sz.2.1 35
      have h10 : gr z 27 10 = some 35 := Sz.2.2 27 10 (by decide)
      rw [Int.sub_self, show (0 : Int).toNat = 0 from rfl, wloop] at hE
      refine ok_eq (b65_36 X (d + 2 * f + 2 + 1) 27 G l y (l * 12 + y) (r.2 y + 1) z) (ok_gd (Sz.1 27) (ok_r h10 (ok_gd ⟨z35, by omega, by rw [m35]; omega⟩ ?_)))
      rw [((hR.kw hK hn hl0) y q1 q2).2]
      refine ok_ift (by omega) (ok_ret ⟨rfl, ?_, hK⟩)
      rw [hE]
      exact hNz
end WW
