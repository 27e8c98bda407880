/-! double sums; sums that name a thing -/
def sg2 (g : Int → Int → Int) (n i : Int) : Int := Sg (fun a => Sg (g a) a (n - a).toNat) 1 (i - 1).toNat
theorem sg2_bd {g : Int → Int → Int} (hg : ∀ a b, 0 ≤ g a b ∧ g a b ≤ 1) {n i : Int} (hn : n ≤ 12) (hi : i ≤ n) : 0 ≤ sg2 g n i ∧ sg2 g n i ≤ 144 := by
  have h3 : ∀ k : Nat, (k : Int) ≤ n - 1 → 0 ≤ Sg (fun a => Sg (g a) a (n - a).toNat) 1 k ∧ Sg (fun a => Sg (g a) a (n - a).toNat) 1 k ≤ 12 * k := by
    intro k
    induction k with
    | zero => intro _; simp [Sg]
    | succ k ihk =>
      intro hk
      have g1 := ihk (by omega)
      have g2 : 0 ≤ Sg (g (1 + (k : Int))) (1 + (k : Int)) (n - (1 + (k : Int))).toNat ∧ Sg (g (1 + (k : Int))) (1 + (k : Int)) (n - (1 + (k : Int))).toNat ≤ 1 * 12 := Sg_rng (fun b => hg _ b) (by omega) (by omega)
      rw [Sg]
      omega
  unfold sg2
  by_cases h : 1 ≤ i
  · have := h3 (i - 1).toNat (by omega)
    omega
  · rw [show (i - 1).toNat = 0 by omega]
    simp [Sg]
theorem sg2_s {g : Int → Int → Int} {n i : Int} (h : 1 ≤ i) : sg2 g n (i + 1) = sg2 g n i + Sg (g i) i (n - i).toNat := by
  unfold sg2
  rw [Sg_s h]
def nmg (t : Int → Int → Int) (n f s : Int) : Int := sg2 (fun a b => bI (t a b ≠ 12 ∧ ((a = f ∨ a = s) ∨ (b = f ∨ b = s) ∨ (t a b = f ∨ t a b = s)))) n n
theorem nz_iff {a b c f s : Int} (ha : 0 ≤ a ∧ a < 12) (hb : 0 ≤ b ∧ b < 12) (hc : 0 ≤ c ∧ c < 12) (hf : 0 ≤ f ∧ f < 12) (hs : 0 ≤ s ∧ s < 12) : andI (orI (orI (shlI 1 a) (shlI 1 b)) (shlI 1 c)) (orI (shlI 1 f) (shlI 1 s)) = 0 ↔ ¬ ((a = f ∨ a = s) ∨ (b = f ∨ b = s) ∨ (c = f ∨ c = s)) := by
  have e : ∀ i, i < 32 → tb (andI (orI (orI (shlI 1 a) (shlI 1 b)) (shlI 1 c)) (orI (shlI 1 f) (shlI 1 s))) i = ((decide (i = a.toNat) || decide (i = b.toNat) || decide (i = c.toNat)) && (decide (i = f.toNat) || decide (i = s.toNat))) := by
    intro i hi
    rw [tb_and, tb_or, tb_or, tb_or, tb_shl ha.1 (by omega) hi, tb_shl hb.1 (by omega) hi, tb_shl hc.1 (by omega) hi, tb_shl hf.1 (by omega) hi, tb_shl hs.1 (by omega) hi]
  have z : ∀ i, i < 32 → tb 0 i = false := by decide +kernel
  constructor
  · intro h q
    rw [h] at e
    have key : ∀ k : Int, 0 ≤ k → k < 12 → (k = f ∨ k = s) → (k = a ∨ k = b ∨ k = c) → False := by
      intro k k0 k1 k2 k3
      have := e k.toNat (by omega)
      rw [z _ (by omega)] at this
      have h1 : (decide (k.toNat = a.toNat) || decide (k.toNat = b.toNat) || decide (k.toNat = c.toNat)) = true := by
        simp only [Bool.or_eq_true, decide_eq_true_eq]
        omega
      have h2 : (decide (k.toNat = f.toNat) || decide (k.toNat = s.toNat)) = true := by
        simp only [Bool.or_eq_true, decide_eq_true_eq]
        omega
      rw [h1, h2] at this
      cases this
    rcases q with q | q | q
    · exact key a ha.1 ha.2 q (Or.inl rfl)
    · exact key b hb.1 hb.2 q (Or.inr (Or.inl rfl))
    · exact key c hc.1 hc.2 q (Or.inr (Or.inr rfl))
  · intro q
    refine tb_ext (x := andI _ _) (inR_op _ _ _) ⟨by omega, by omega⟩ (fun i hi => ?_)
    rw [e i hi, z i hi]
    cases h : ((decide (i = a.toNat) || decide (i = b.toNat) || decide (i = c.toNat)) && (decide (i = f.toNat) || decide (i = s.toNat))) with
    | false => rfl
    | true =>
      simp only [Bool.and_eq_true, Bool.or_eq_true, decide_eq_true_eq] at h
      exact absurd (by omega) q
section PN
variable {X : Nat × (Nat → Int)} {d : Nat} {w w' : MW} {r : Nat} {n : Int} {t : Int → Int → Int}
theorem nmg_ok (h : Tb w r n t) (htv : tval t n) (hn : 1 ≤ n) {f s : Int} (hf : 0 ≤ f ∧ f < 12) (hs : 0 ≤ s ∧ s < 12) : run X (d + 2) 42 [.inr r, .inl f, .inl s] w = some (some (.inl (nmg t n f s)), w) := by
  have h12 := h.n12
  apply ok_one
  refine ok_eq (b42_0 X (d + 1) r f s w) (ok_i (bit_ok X _ f w) (ok_i (bit_ok X _ s w) ?_))
  unfold nmg
  generalize hg : (fun a b => bI (t a b ≠ 12 ∧ ((a = f ∨ a = s) ∨ (b = f ∨ b = s) ∨ (t a b = f ∨ t a b = s)))) = g
  have hgb : ∀ a b, 0 ≤ g a b ∧ g a b ≤ 1 := by intro a b; rw [← hg]; exact bI_rng
  refine ok_up (fun i s0 => R X (d + 2) 42 16 [some (.inr r), none, none, some (.inl (orI (shlI 1 f) (shlI 1 s))), some (.inl (sg2 g n i)), some (.inl i), none, none] [] s0) (fun _ s0 => s0 = w) 1 n hn ?_ ?_ w rfl
  · intro i s0 g1 g2 e ih
    subst e
    refine ok_eq (b42_16 X (d + 1) r _ _ i s0) (ok_gd h.k (ok_iff (by rw [h.sz]; omega) ?_))
    have hb := sg2_bd hgb (n := n) (i := i) h12 (by omega)
    refine ok_up (fun j s1 => R X (d + 2) 42 29 [some (.inr r), none, none, some (.inl (orI (shlI 1 f) (shlI 1 s))), some (.inl (sg2 g n i + Sg (g i) i (j - i).toNat)), some (.inl i), some (.inl j), none] [] s1) (fun _ s1 => s1 = s0) i n (by omega) ?_ ?_ s0 rfl |> fun z => by
      have e0 : sg2 g n i + Sg (g i) i (i - i).toNat = sg2 g n i := by rw [Int.sub_self]; simp [Sg]
      rw [e0] at z
      exact z
    · intro j s1 g3 g4 e1 ih2
      subst e1
      have hj : 0 ≤ Sg (g i) i (j - i).toNat ∧ Sg (g i) i (j - i).toNat ≤ 1 * 12 := Sg_rng (fun b => hgb i b) (by omega) (by omega)
      have z := ih2 s1 rfl
      rw [Sg_s g3] at z
      have skip : ∀ {o : RS} {P}, g i j = 0 → Ok (R X (d + 2) 42 29 [some (.inr r), none, none, some (.inl (orI (shlI 1 f) (shlI 1 s))), some (.inl (sg2 g n i + (Sg (g i) i (j - i).toNat + g i j))), some (.inl i), some (.inl (j + 1)), none] [] s1) P → o = o → Ok (R X (d + 2) 42 29 [some (.inr r), none, none, some (.inl (orI (shlI 1 f) (shlI 1 s))), some (.inl (sg2 g n i + Sg (g i) i (j - i).toNat)), some (.inl i), some (.inl (j + 1)), none] [] s1) P := by
        intro o P e h _
        rw [e, Int.add_zero] at h
        exact h
      refine ok_eq (b42_29 X (d + 1) r _ _ i j s1) (ok_gd h.k (ok_iff (by rw [h.sz]; omega) (ok_gd h.k (ok_i (at_ok h i j) ?_))))
      rw [wrap_id (z := j + 1) (by omega) (by omega)]
      refine ok_if (fun hc => skip (o := none) ?_ z rfl) (fun hc => ok_i (bit_ok X _ i s1) (ok_i (bit_ok X _ j s1) (ok_i (bit_ok X _ (t i j) s1) ?_)))
      · rw [← hg]
        exact if_neg (fun q => q.1 hc)
      · have hv := (htv i j).resolve_left hc
        have hz := nz_iff (a := i) (b := j) (c := t i j) ⟨by omega, by omega⟩ ⟨by omega, by omega⟩ ⟨by omega, by omega⟩ hf hs
        refine ok_if (fun hc2 => skip (o := none) ?_ z rfl) (fun hc2 => ?_)
        · rw [← hg]
          exact if_neg (fun q => hz.mp hc2 q.2)
        · have e1 : g i j = 1 := by
            rw [← hg]
            exact if_pos ⟨hc, Classical.byContradiction fun q => hc2 (hz.mpr q)⟩
          rw [e1, ← Int.add_assoc] at z
          rw [wrap_id (by omega) (by omega)]
          exact z
    · intro s1 e1
      subst e1
      have z := ih s1 rfl
      rw [sg2_s g1] at z
      refine ok_eq (b42_29 X (d + 1) r _ _ i n s1) (ok_gd h.k (ok_ift (by rw [h.sz]; omega) ?_))
      rw [wrap_id (by omega) (by omega)]
      exact z
  · intro s0 e
    subst e
    exact ok_eq (b42_16 X (d + 1) r _ _ n s0) (ok_gd h.k (ok_ift (by rw [h.sz]; omega) (ok_ret ⟨rfl, rfl⟩)))
end PN
