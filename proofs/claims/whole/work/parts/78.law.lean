/-! the law's loop -/
section LL
variable {d S : Nat} {w w1 w2 : MW} {A : AS}
theorem MoS.gi2 (h : MoS w A) (k : ∀ b, 38 ≤ b → ∀ j, gi w1 b j = gi w b j) : MoS w1 A := by
  obtain ⟨hT, hH, hN, hX⟩ := h
  refine ⟨⟨by rw [k 38 (by omega)]; exact hT.1, fun j j0 j1 => by rw [k 39 (by omega)]; exact hT.2 j j0 j1⟩, ⟨by rw [k 38 (by omega)]; exact hH.1, hH.2.1, fun i a hi => ⟨by rw [k 41 (by omega)]; exact (hH.2.2 i a hi).1, fun j j0 j1 => by rw [k 41 (by omega)]; exact (hH.2.2 i a hi).2 j j0 j1⟩⟩, ?_, ⟨by rw [k 38 (by omega)]; exact hX.1, hX.2.1, fun j j0 j1 => by rw [k 43 (by omega)]; exact hX.2.2 j j0 j1⟩⟩
  rcases hN with ⟨q1, q2⟩ | ⟨a, q1, q2, q3⟩
  · exact Or.inl ⟨q1, by rw [k 38 (by omega)]; exact q2⟩
  · exact Or.inr ⟨a, q1, by rw [k 38 (by omega)]; exact q2, by rw [k 42 (by omega)]; exact q3.1, fun j j0 j1 => by rw [k 42 (by omega)]; exact q3.2 j j0 j1⟩
theorem ClS.kp38 (h : ClS w A) (k : Kp 38 48 w w1) : ClS w1 A := by
  obtain ⟨hS, ⟨hb, hok⟩, hsn, ⟨hh, hho⟩, htx⟩ := h
  refine ⟨hS.kp k, ⟨hb.kp k (by omega), hok⟩, ?_, ⟨hh.kh k (by omega), hho⟩, htx.kh k.kh (by omega)⟩
  rcases hsn with ⟨q1, q2⟩ | ⟨a, q1, q2, q3, q4⟩
  · exact Or.inl ⟨q1, by rw [k.gi (by omega)]; exact q2⟩
  · exact Or.inr ⟨a, q1, by rw [k.gi (by omega)]; exact q2, q3.kp k (by omega), q4⟩
def LI (S : Nat) (w : MW) (A : AS) : Prop := ClS w A ∧ MoS w A ∧ nx w = 49 ∧ sl w = S
theorem li_mid (hL : LI S w A) (k : Kh 1 37 w w1) : MoS w1 A := hL.2.1.gi2 (fun b hb j => k.gi (by omega) j)
theorem li_sz (hL : LI S w A) (k : Kh 1 37 w w1) (k2 : Kp 38 48 w1 w2) : nx w2 = 49 ∧ sl w2 = S := by
  have e : w2.1 = w.1 := k2.1.trans k.1
  exact ⟨by unfold nx; rw [e]; exact hL.2.2.1, by unfold sl; rw [e]; exact hL.2.2.2⟩
theorem li_act {r : Int × AS} {x y : Int} (hL : LI S w A) (hx : FO w r x w1) (hy : MO w1 r y w2) : x = y ∧ LI S w2 r.2 := ⟨hx.1.trans hy.1.symm, hx.2.1.kp38 hy.2.2, hy.2.1, li_sz hL hx.2.2 hy.2.2⟩
theorem li_qry {P : Int → Prop} {x y : Int} (hu : ∀ x y, P x → P y → x = y) (hL : LI S w A) (hx : QO w A P x w1) (hy : QM w1 A P y w2) : x = y ∧ LI S w2 A := ⟨hu x y hx.1 hy.1, hx.2.1.kp38 hy.2.2, hy.2.1, li_sz hL hx.2.2 hy.2.2⟩
theorem eq_u (v : Int) : ∀ x y : Int, x = v → y = v → x = y := fun x y h1 h2 => h1.trans h2.symm
theorem br_u (c : Int) : ∀ x y, brQ A c x → brQ A c y → x = y := by
  intro x y hx hy
  unfold brQ at hx hy
  by_cases g : c < 0 ∨ 3 < c
  · rw [if_pos g] at hx hy
    rw [hx, hy]
  · rw [if_neg g] at hx hy
    rcases hx with ⟨n1, e1⟩ | ⟨k1, a1, b1, c1⟩ <;> rcases hy with ⟨n2, e2⟩ | ⟨k2, a2, b2, c2⟩
    · rw [e1, e2]
    · have := n1 k2 b2.1 a2
      rw [b2.2.1] at this
      cases this
    · have := n2 k1 b1.1 a1
      rw [b1.2.1] at this
      cases this
    · have : k1 = k2 := by
        by_cases h1 : k1 < k2
        · have := b2.2.2 k1 b1.1 h1
          rw [b1.2.1] at this
          cases this
        · by_cases h2 : k2 < k1
          · have := b1.2.2 k2 b2.1 h2
            rw [b2.2.1] at this
            cases this
          · omega
      rw [c1, c2, this]
theorem wt_u {k s : Int} {V : Int → Prop} (hV : (0 ≤ s ∧ s < A.1.1) → ∀ x y, V x → V y → x = y) : ∀ x y, wtQ A k s V x → wtQ A k s V y → x = y := by
  intro x y hx hy
  unfold wtQ at hx hy
  by_cases g : k < 1 ∨ 6 < k
  · rw [if_pos g] at hx hy
    rw [hx, hy]
  · rw [if_neg g] at hx hy
    by_cases g2 : ¬ (0 ≤ s ∧ s < A.1.1)
    · rw [if_pos g2] at hx hy
      rw [hx, hy]
    · rw [if_neg g2] at hx hy
      by_cases g3 : wcount A.1.2 A.1.1 k < 1
      · rw [if_pos g3] at hx hy
        rw [hx, hy]
      · rw [if_neg g3] at hx hy
        exact hV (Decidable.not_not.mp g2) x y hx hy
theorem fst_u {t : Int → Int → Int} {n k s : Int} (hs : 0 ≤ s ∧ s < n) : ∀ x y, isFst t n k s x → isFst t n k s y → x = y := by
  rintro x y ⟨f, hf, e1⟩ ⟨g, hg, e2⟩
  rcases hf.2 g hg.1 with h | ⟨u, u0, u1, u2, u3⟩
  · rw [e1, e2, h s hs.1 hs.2]
  · rcases hg.2 f hf.1 with h | ⟨v, v0, v1, v2, v3⟩
    · rw [e1, e2, h s hs.1 hs.2]
    · by_cases a : u < v
      · have := v3 u u0 a
        omega
      · by_cases b : v < u
        · have := u3 v v0 b
          omega
        · have e : u = v := by omega
          rw [e] at u2
          omega
theorem lst_u {t : Int → Int → Int} {n k s : Int} : ∀ x y, isLst t n k s x → isLst t n k s y → x = y := by
  rintro x y ⟨⟨f, hf, e1⟩, h1⟩ ⟨⟨g, hg, e2⟩, h2⟩
  have a := h1 g hg
  have b := h2 f hf
  omega
theorem mst_u {t : Int → Int → Int} {n k s : Int} : ∀ x y, isMst t n k s x → isMst t n k s y → x = y := by
  rintro x y ⟨⟨f, hf, e1⟩, h1⟩ ⟨⟨g, hg, e2⟩, h2⟩
  have a := h1 g hg
  have b := h2 f hf
  omega
def LwP (S : Nat) (v : Option MV) (w' : MW) : Prop := v = some (.inl 1) ∧ nx w' = 49 ∧ sl w' = S
theorem chr_rng (x : Int) : 0 ≤ chrI x ∧ chrI x < 65536 := by
  unfold chrI
  omega
theorem law_step (L : Nat) (f : Nat → Int) (hf : ∀ i, -2147483648 ≤ f i ∧ f i < 2147483648) (hLn : L ≤ 2048) {j : Int} (j0 : 0 ≤ j) (j1 : j < (L : Int) / 4) (hL : LI S w A) (nxt : ∀ z A, LI S z A → Ok (R (L, f) 31 0 18 [some (.inr 0), some (.inr 1), some (.inr 38), some (.inl (wrap (4 * j + 4)))] [] z) (LwP S)) : Ok (R (L, f) 31 0 18 [some (.inr 0), some (.inr 1), some (.inr 38), some (.inl (4 * j))] [] w) (LwP S) := by
  have hS := hL.1.1
  have ho := hL.1.2.1.2
  have kz1 : kd w 1 = 16 := hS.1 1
  have g1 : (0 : Nat) = 0 ∧ 0 ≤ wrap (4 * j + 1) ∧ wrap (4 * j + 1) < (L : Int) := by rw [wrap_id (by omega) (by omega)]; omega
  have g2 : (0 : Nat) = 0 ∧ 0 ≤ wrap (4 * j + 2) ∧ wrap (4 * j + 2) < (L : Int) := by rw [wrap_id (by omega) (by omega)]; omega
  have g3 : (0 : Nat) = 0 ∧ 0 ≤ wrap (4 * j + 3) ∧ wrap (4 * j + 3) < (L : Int) := by rw [wrap_id (by omega) (by omega)]; omega
  refine ok_eq (b0_18 (L, f) 30 0 1 38 (4 * j) w) (ok_gd ⟨rfl, by show L < 2147483648; omega⟩ (ok_iff (by show ¬ wrap ((L : Int) - 4) < 4 * j; rw [wrap_id (by omega) (by omega)]; omega) (ok_gd ⟨rfl, by omega, by show 4 * j < (L : Int); omega⟩ ?_)))
  unfold swt
  refine ok_if (fun _ => ?_) (fun _ => ?_)
  · refine ok_gd g1 (ok_gd g2 (ok_gd kz1 (ok_I (take_ok (d := 24) hL.1 _ _) (fun x w1 hx => ?_))))
    have m1 := li_mid hL hx.2.2
    have s1 := hS.kh hx.2.2
    refine ok_gd g1 (ok_gd g2 (ok_gd (s1.1 38) (ok_I (take_m (d := 28) s1 m1 _ _) (fun y w2 hy => ?_))))
    obtain ⟨e, hL2⟩ := li_act hL hx hy
    exact ok_ift e (nxt w2 _ hL2)
  unfold swt
  refine ok_if (fun _ => ?_) (fun _ => ?_)
  · refine ok_gd kz1 (ok_I (add_ok (d := 25) hL.1 ) (fun x w1 hx => ?_))
    have m1 := li_mid hL hx.2.2
    have s1 := hS.kh hx.2.2
    refine ok_gd (s1.1 38) (ok_I (add_m (d := 28) s1 m1 ho) (fun y w2 hy => ?_))
    obtain ⟨e, hL2⟩ := li_act hL hx hy
    exact ok_ift e (nxt w2 _ hL2)
  unfold swt
  refine ok_if (fun _ => ?_) (fun _ => ?_)
  · refine ok_gd g1 (ok_gd kz1 (ok_I (rem_f (d := 25) hL.1 _) (fun x w1 hx => ?_)))
    have m1 := li_mid hL hx.2.2
    have s1 := hS.kh hx.2.2
    refine ok_gd g1 (ok_gd (s1.1 38) (ok_I (rem_m (d := 28) s1 m1 ho _) (fun y w2 hy => ?_)))
    obtain ⟨e, hL2⟩ := li_act hL hx hy
    exact ok_ift e (nxt w2 _ hL2)
  unfold swt
  refine ok_if (fun _ => ?_) (fun _ => ?_)
  · refine ok_gd g1 (ok_gd g2 (ok_gd g3 (ok_gd kz1 (ok_I (set_ok (d := 26) hL.1 _ _ _) (fun x w1 hx => ?_)))))
    have m1 := li_mid hL hx.2.2
    have s1 := hS.kh hx.2.2
    refine ok_gd g1 (ok_gd g2 (ok_gd g3 (ok_gd (s1.1 38) (ok_I (set_m (d := 28) s1 m1 ho _ _ _) (fun y w2 hy => ?_)))))
    obtain ⟨e, hL2⟩ := li_act hL hx hy
    exact ok_ift e (nxt w2 _ hL2)
  unfold swt
  refine ok_if (fun _ => ?_) (fun _ => ?_)
  · refine ok_gd g1 (ok_gd g2 (ok_gd kz1 (ok_I (clear_ok (d := 26) hL.1 _ _) (fun x w1 hx => ?_))))
    have m1 := li_mid hL hx.2.2
    have s1 := hS.kh hx.2.2
    refine ok_gd g1 (ok_gd g2 (ok_gd (s1.1 38) (ok_I (clear_m (d := 28) s1 m1 ho _ _) (fun y w2 hy => ?_))))
    obtain ⟨e, hL2⟩ := li_act hL hx hy
    exact ok_ift e (nxt w2 _ hL2)
  unfold swt
  refine ok_if (fun _ => ?_) (fun _ => ?_)
  · refine ok_gd kz1 (ok_I (reads_ok (d := 26) hL.1 ) (fun x w1 hx => ?_))
    have m1 := li_mid hL hx.2.2
    have s1 := hS.kh hx.2.2
    refine ok_gd (s1.1 38) (ok_I (read_m (d := 26) s1 m1 ho) (fun y w2 hy => ?_))
    obtain ⟨e, hL2⟩ := li_act hL hx hy
    exact ok_ift e (nxt w2 _ hL2)
  unfold swt
  refine ok_if (fun _ => ?_) (fun _ => ?_)
  · refine ok_gd g1 (ok_gd kz1 (ok_I (glue_ok (d := 26) hL.1 _) (fun x w1 hx => ?_)))
    have m1 := li_mid hL hx.2.2
    have s1 := hS.kh hx.2.2
    refine ok_gd g1 (ok_gd (s1.1 38) (ok_I (glue_m (d := 27) s1 m1 ho _) (fun y w2 hy => ?_)))
    obtain ⟨e, hL2⟩ := li_act hL hx hy
    exact ok_ift e (nxt w2 _ hL2)
  unfold swt
  refine ok_if (fun _ => ?_) (fun _ => ?_)
  · refine ok_gd kz1 (ok_I (twice_ok (d := 25) hL.1 ) (fun x w1 hx => ?_))
    have m1 := li_mid hL hx.2.2
    have s1 := hS.kh hx.2.2
    refine ok_gd (s1.1 38) (ok_I (twice_m (d := 28) s1 m1 ho) (fun y w2 hy => ?_))
    obtain ⟨e, hL2⟩ := li_act hL hx hy
    exact ok_ift e (nxt w2 _ hL2)
  unfold swt
  refine ok_if (fun _ => ?_) (fun _ => ?_)
  · refine ok_gd g1 (ok_gd g2 (ok_gd kz1 (ok_I (swap_f (d := 25) hL.1 _ _) (fun x w1 hx => ?_))))
    have m1 := li_mid hL hx.2.2
    have s1 := hS.kh hx.2.2
    refine ok_gd g1 (ok_gd g2 (ok_gd (s1.1 38) (ok_I (swap_m (d := 28) s1 m1 ho _ _) (fun y w2 hy => ?_))))
    obtain ⟨e, hL2⟩ := li_act hL hx hy
    exact ok_ift e (nxt w2 _ hL2)
  unfold swt
  refine ok_if (fun _ => ?_) (fun _ => ?_)
  · refine ok_gd g1 (ok_gd kz1 (ok_I (type_ok (d := 29) hL.1 (chr_rng _)) (fun x w1 hx => ?_)))
    have m1 := li_mid hL hx.2.2
    have s1 := hS.kh hx.2.2
    refine ok_gd g1 (ok_gd (s1.1 38) (ok_I (type_m (d := 30) s1 m1 _) (fun y w2 hy => ?_)))
    obtain ⟨e, hL2⟩ := li_act hL hx hy
    exact ok_ift e (nxt w2 _ hL2)
  unfold swt
  refine ok_if (fun _ => ?_) (fun _ => ?_)
  · refine ok_gd kz1 (ok_I (clr_ok (d := 30) hL.1 ) (fun x w1 hx => ?_))
    have m1 := li_mid hL hx.2.2
    have s1 := hS.kh hx.2.2
    refine ok_gd (s1.1 38) (ok_I (clr_m (d := 30) s1 m1) (fun y w2 hy => ?_))
    obtain ⟨e, hL2⟩ := li_act hL hx hy
    exact ok_ift e (nxt w2 _ hL2)
  unfold swt
  refine ok_if (fun _ => ?_) (fun _ => ?_)
  · refine ok_gd kz1 (ok_I (undo_ok (d := 28) hL.1 ) (fun x w1 hx => ?_))
    have m1 := li_mid hL hx.2.2
    have s1 := hS.kh hx.2.2
    refine ok_gd (s1.1 38) (ok_I (undo_m (d := 29) s1 m1) (fun y w2 hy => ?_))
    obtain ⟨e, hL2⟩ := li_act hL hx hy
    exact ok_ift e (nxt w2 _ hL2)
  unfold swt
  refine ok_if (fun _ => ?_) (fun _ => ?_)
  · refine ok_gd kz1 (ok_I (keep_ok (d := 29) hL.1 ) (fun x w1 hx => ?_))
    have m1 := li_mid hL hx.2.2
    have s1 := hS.kh hx.2.2
    refine ok_gd (s1.1 38) (ok_I (keep_m (d := 29) s1 m1) (fun y w2 hy => ?_))
    obtain ⟨e, hL2⟩ := li_act hL hx hy
    exact ok_ift e (nxt w2 _ hL2)
  unfold swt
  refine ok_if (fun _ => ?_) (fun _ => ?_)
  · refine ok_gd kz1 (ok_I (rest_f (d := 28) hL.1 ) (fun x w1 hx => ?_))
    have m1 := li_mid hL hx.2.2
    have s1 := hS.kh hx.2.2
    refine ok_gd (s1.1 38) (ok_I (rest_m (d := 28) s1 m1) (fun y w2 hy => ?_))
    obtain ⟨e, hL2⟩ := li_act hL hx hy
    exact ok_ift e (nxt w2 _ hL2)
  unfold swt
  refine ok_if (fun _ => ?_) (fun _ => ?_)
  · refine ok_gd g1 (ok_gd g2 (ok_gd kz1 (ok_I (sum_q (d := 28) hL.1 _ _) (fun x w1 hx => ?_))))
    have m1 := li_mid hL hx.2.2
    have s1 := hS.kh hx.2.2
    refine ok_gd g1 (ok_gd g2 (ok_gd (s1.1 38) (ok_I (msum_q (d := 28) s1 m1 ho _ _) (fun y w2 hy => ?_))))
    obtain ⟨e, hL2⟩ := li_qry (eq_u _) hL hx hy
    exact ok_ift e (nxt w2 _ hL2)
  unfold swt
  refine ok_if (fun _ => ?_) (fun _ => ?_)
  · refine ok_gd g1 (ok_gd g2 (ok_gd kz1 (ok_I (diff_q (d := 27) hL.1 _ _) (fun x w1 hx => ?_))))
    have m1 := li_mid hL hx.2.2
    have s1 := hS.kh hx.2.2
    refine ok_gd g1 (ok_gd g2 (ok_gd (s1.1 38) (ok_I (mdiff_q (d := 28) s1 m1 ho _ _) (fun y w2 hy => ?_))))
    obtain ⟨e, hL2⟩ := li_qry (eq_u _) hL hx hy
    exact ok_ift e (nxt w2 _ hL2)
  unfold swt
  refine ok_if (fun _ => ?_) (fun _ => ?_)
  · refine ok_gd g1 (ok_gd kz1 (ok_I (br_q (d := 26) hL.1 _) (fun x w1 hx => ?_)))
    have m1 := li_mid hL hx.2.2
    have s1 := hS.kh hx.2.2
    refine ok_gd g1 (ok_gd (s1.1 38) (ok_I (mbr_q (d := 27) s1 m1 ho _) (fun y w2 hy => ?_)))
    obtain ⟨e, hL2⟩ := li_qry (br_u _) hL hx hy
    exact ok_ift e (nxt w2 _ hL2)
  unfold swt
  refine ok_if (fun _ => ?_) (fun _ => ?_)
  · refine ok_gd g1 (ok_gd g2 (ok_gd kz1 (ok_I (th_q (d := 25) hL.1 _ _) (fun x w1 hx => ?_))))
    have m1 := li_mid hL hx.2.2
    have s1 := hS.kh hx.2.2
    refine ok_gd g1 (ok_gd g2 (ok_gd (s1.1 38) (ok_I (mth_q (d := 26) s1 m1 ho _ _) (fun y w2 hy => ?_))))
    obtain ⟨e, hL2⟩ := li_qry (eq_u _) hL hx hy
    exact ok_ift e (nxt w2 _ hL2)
  unfold swt
  refine ok_if (fun _ => ?_) (fun _ => ?_)
  · refine ok_gd g1 (ok_gd kz1 (ok_I (sumof_q (d := 28) hL.1 (hf _)) (fun x w1 hx => ?_)))
    have m1 := li_mid hL hx.2.2
    have s1 := hS.kh hx.2.2
    refine ok_gd g1 (ok_gd (s1.1 38) (ok_I (msumof_q (d := 29) s1 m1 ho _) (fun y w2 hy => ?_)))
    obtain ⟨e, hL2⟩ := li_qry (eq_u _) hL hx hy
    exact ok_ift e (nxt w2 _ hL2)
  unfold swt
  refine ok_if (fun _ => ?_) (fun _ => ?_)
  · refine ok_gd g1 (ok_gd g2 (ok_gd kz1 (ok_I (block_q (d := 25) hL.1 (hf _).2) (fun x w1 hx => ?_))))
    have m1 := li_mid hL hx.2.2
    have s1 := hS.kh hx.2.2
    refine ok_gd g1 (ok_gd g2 (ok_gd (s1.1 38) (ok_I (mblock_q (d := 27) s1 m1 ho (hf _).2 _) (fun y w2 hy => ?_))))
    obtain ⟨e, hL2⟩ := li_qry (eq_u _) hL hx hy
    exact ok_ift e (nxt w2 _ hL2)
  unfold swt
  refine ok_if (fun _ => ?_) (fun _ => ?_)
  · refine ok_gd g1 (ok_gd kz1 (ok_I (ws_q (d := 6) hL.1 _) (fun x w1 hx => ?_)))
    have m1 := li_mid hL hx.2.2
    have s1 := hS.kh hx.2.2
    refine ok_gd g1 (ok_gd (s1.1 38) (ok_I (mws_q (d := 26) s1 m1 ho _) (fun y w2 hy => ?_)))
    obtain ⟨e, hL2⟩ := li_qry (eq_u _) hL hx hy
    exact ok_ift e (nxt w2 _ hL2)
  unfold swt
  refine ok_if (fun _ => ?_) (fun _ => ?_)
  · refine ok_gd g1 (ok_gd g2 (ok_gd kz1 (ok_I (wt_q (d := 5) hL.1 _ _) (fun x w1 hx => ?_))))
    have m1 := li_mid hL hx.2.2
    have s1 := hS.kh hx.2.2
    refine ok_gd g1 (ok_gd g2 (ok_gd (s1.1 38) (ok_I (mwt_q (d := 26) s1 m1 ho _ _) (fun y w2 hy => ?_))))
    obtain ⟨e, hL2⟩ := li_qry (wt_u fst_u) hL hx hy
    exact ok_ift e (nxt w2 _ hL2)
  unfold swt
  refine ok_if (fun _ => ?_) (fun _ => ?_)
  · have rg : ∀ m : Int, (m = 0 ∧ f (wrap (4 * j + 3)).toNat = 0 ∨ m = 1 ∧ f (wrap (4 * j + 3)).toNat ≠ 0) → Ok (R (L, f) 31 0 706 [some (.inr 0), some (.inr 1), some (.inr 38), some (.inl (4 * j))] [.inl m, .inl (f (wrap (4 * j + 2)).toNat), .inl (f (wrap (4 * j + 1)).toNat), .inr 1] w) (LwP S) := by
      intro m hm
      refine ok_eq (b0_706 (L, f) 30 0 1 38 (4 * j) m _ _ 1 w) (ok_gd kz1 (ok_I (rg_q (d := 5) hL.1 _ _ m) (fun x w1 hx => ok_gd g1 (ok_gd g2 (ok_gd g3 ?_)))))
      have m1 := li_mid hL hx.2.2
      have s1 := hS.kh hx.2.2
      have last : Ok (R (L, f) 31 0 733 [some (.inr 0), some (.inr 1), some (.inr 38), some (.inl (4 * j))] [.inl m, .inl (f (wrap (4 * j + 2)).toNat), .inl (f (wrap (4 * j + 1)).toNat), .inr 38, .inl x] w1) (LwP S) := by
        refine ok_eq (b0_733 (L, f) 30 0 1 38 (4 * j) m _ _ 38 x w1) (ok_gd (s1.1 38) (ok_I (mrg_q (d := 26) s1 m1 ho _ _ m) (fun y w2 hy => ?_)))
        obtain ⟨e, hL2⟩ := li_qry (wt_u (fun hs => by
          by_cases q : m = 0
          · rw [if_pos q]; exact lst_u
          · rw [if_neg q]; exact mst_u)) hL hx hy
        exact ok_ift e (nxt w2 _ hL2)
      rcases hm with ⟨q1, q2⟩ | ⟨q1, q2⟩
      · rw [q1] at last
        exact ok_ift q2 last
      · rw [q1] at last
        exact ok_iff q2 last
    exact ok_gd g1 (ok_gd g2 (ok_gd g3 (ok_if (fun q => rg 0 (Or.inl ⟨rfl, q⟩)) (fun q => rg 1 (Or.inr ⟨rfl, q⟩)))))
  unfold swt
  refine ok_if (fun _ => ?_) (fun _ => ?_)
  · refine ok_gd g1 (ok_gd kz1 (ok_I (ct_q (d := 25) hL.1 _) (fun x w1 hx => ?_)))
    have m1 := li_mid hL hx.2.2
    have s1 := hS.kh hx.2.2
    refine ok_gd g1 (ok_gd (s1.1 38) (ok_I (mct_q (d := 25) s1 m1 ho _) (fun y w2 hy => ?_)))
    obtain ⟨e, hL2⟩ := li_qry (eq_u _) hL hx hy
    exact ok_ift e (nxt w2 _ hL2)
  unfold swt
  exact nxt w A hL
theorem law_runs : LawRuns := by
  intro L f hLn hf
  have c0 : CBd 1 w00 1 0 [] w00 := ⟨⟨rfl, rfl⟩, fun a => by
    by_cases e : a < 1
    · rw [if_pos e, show a = 0 by omega]; rfl
    · rw [if_neg e]; rfl, fun a => by
    by_cases e : a < 1
    · rw [if_pos e, show a = 0 by omega]; rfl
    · rw [if_neg e]; rfl, fun a k => by rw [if_neg (by simp)]; rfl, fun p hp => by simp at hp, fun _ _ _ => rfl, Nat.le_refl _, fun _ _ _ => rfl⟩
  have c1 := c0.al (kind := 16) (len := 0) (slots := 9) rfl rfl
  have go : Ok (run (L, f) 31 0 [.inr 0] w00) (LwP (0 + 9 + 1611 + 17 + 1476)) := by
    refine ok_eq (b0_0 (L, f) 30 0 w00) (ok_gd ((c1.kdv (a := 1) (by omega)).trans rfl) (ok_V (cls_c (X := (L, f)) (d := 24) c1) (fun w1 ⟨b, S', c2, hb, hS'⟩ => ?_)))
    rw [hS'] at c2
    rw [c2.nxv]
    have c3 := c2.al (kind := 17) (len := 0) (slots := 17) rfl rfl
    have h38 : ∀ j, gi (al w1 17 0 17) 38 j = 0 := fun j => by
      show (if 38 = nx w1 then 0 else gi w1 38 j) = 0
      rw [if_pos c2.nxv.symm]
    refine ok_gd ((c3.kdv (by omega)).trans rfl) (ok_V (mod_c (X := (L, f)) (d := 30) c3 h38) (fun w2 ⟨c4, q38, q39⟩ => ?_))
    obtain ⟨i1, i2, i3, i4⟩ := init_ok hb c3 c4 q38 q39
    show Ok (R (L, f) 31 0 18 [some (.inr 0), some (.inr 1), some (.inr 38), some (.inl 0)] [] w2) _
    refine ok_up (fun j (z : AS × MW) => R (L, f) 31 0 18 [some (.inr 0), some (.inr 1), some (.inr 38), some (.inl (4 * j))] [] z.2) (fun j z => LI (0 + 9 + 1611 + 17 + 1476) z.2 z.1) 0 ((L : Int) / 4) (by omega) ?_ ?_ (A00, w2) ⟨i1, i2, i3, i4⟩
    · intro j z j0 j1 hz ih
      refine law_step L f hf hLn j0 j1 hz (fun y B hB => ?_)
      have := ih (B, y) hB
      rw [wrap_id (by omega) (by omega), show 4 * j + 4 = 4 * (j + 1) by omega]
      exact this
    · intro z hz
      refine ok_eq (b0_18 (L, f) 30 0 1 38 _ z.2) (ok_gd ⟨rfl, by show L < 2147483648; omega⟩ (ok_ift (by show wrap ((L : Int) - 4) < 4 * ((L : Int) / 4); rw [wrap_id (by omega) (by omega)]; omega) (ok_ret ⟨rfl, hz.2.2.1, hz.2.2.2⟩)))
  obtain ⟨v, w', e, h1, h2, h3⟩ := go
  rw [h1] at e
  exact ⟨31, w', by omega, e, by omega, by omega⟩
end LL
