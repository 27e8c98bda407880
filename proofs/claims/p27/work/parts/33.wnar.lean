/-! narrowing: what it keeps, and when it ends -/
def wi (r : AB) (f : Int → Int) (x : Int) : Prop := r.1 x ≤ f x ∧ f x ≤ r.2 x
def emps (r : AB) (s : T3) : Prop := (emp r s.1 || emp r s.2.1 || emp r s.2.2) = true
def stb (r : AB) (s : T3) : Prop := (r.1 s.1 + r.1 s.2.1 ≤ r.1 s.2.2 ∧ r.2 s.2.2 ≤ r.2 s.1 + r.2 s.2.1) ∧ (r.1 s.2.2 - r.2 s.2.1 ≤ r.1 s.1 ∧ r.2 s.1 ≤ r.2 s.2.2 - r.1 s.2.1) ∧ (r.1 s.2.2 - r.2 s.1 ≤ r.1 s.2.1 ∧ r.2 s.2.1 ≤ r.2 s.2.2 - r.1 s.1) ∧ (s.1 = s.2.1 → divI (r.1 s.2.2 + 1) 2 ≤ r.1 s.1 ∧ r.2 s.1 ≤ divI (r.2 s.2.2) 2)
def Wd (n : Int) (r : AB) : Int := Sg (fun x => r.2 x - r.1 x) 0 n.toNat
section WN
variable {n : Int} {r r' : AB} {s : T3} {ps : List T3} {f : Int → Int} {J : AB → Prop}
theorem div2 {x : Int} (h0 : 0 ≤ x) (h1 : x ≤ 14) : divI x 2 = x / 2 := by
  have key : ∀ m : Nat, m < 15 → divI (m : Int) 2 = (m : Int) / 2 := by decide +kernel
  have := key x.toNat (by omega)
  rw [Int.toNat_of_nonneg h0] at this
  exact this
theorem lmc_no {x l h : Int} (hc : lmc r x l h = false) : lm r x l h = r ∧ l ≤ r.1 x ∧ r.2 x ≤ h := by
  have h1 : ¬ (r.1 x < l ∨ h < r.2 x) := of_decide_eq_false hc
  refine ⟨?_, by omega, by omega⟩
  unfold lm
  refine Prod.ext ?_ ?_
  · funext j
    exact if_neg (fun q => h1 (Or.inl q.2))
  · funext j
    exact if_neg (fun q => h1 (Or.inr q.2))
theorem lmc_of {x l h : Int} (h1 : l ≤ r.1 x) (h2 : r.2 x ≤ h) : lmc r x l h = false := decide_eq_false (by omega)
theorem nsc_stb : nsc r s = false ↔ stb r s := by
  constructor
  · intro h
    unfold nsc at h
    simp only [Bool.or_eq_false_iff] at h
    obtain ⟨⟨⟨h1, h2⟩, h3⟩, h4⟩ := h
    obtain ⟨e1, a1, b1⟩ := lmc_no h1
    have e1' : n1 r s = r := e1
    rw [e1'] at h2 h3 h4
    obtain ⟨e2, a2, b2⟩ := lmc_no h2
    have e2' : n2 r s = r := e2
    rw [e2'] at h3 h4
    obtain ⟨e3, a3, b3⟩ := lmc_no h3
    have e3' : n3 r s = r := e3
    rw [e3'] at h4
    refine ⟨⟨a1, b1⟩, ⟨a2, b2⟩, ⟨a3, b3⟩, fun e => ?_⟩
    unfold c4 at h4
    rw [if_pos e] at h4
    exact (lmc_no h4).2
  · rintro ⟨⟨a1, b1⟩, ⟨a2, b2⟩, ⟨a3, b3⟩, h4⟩
    have h1 := lmc_of a1 b1
    have h2 := lmc_of a2 b2
    have h3 := lmc_of a3 b3
    have e1' : n1 r s = r := (lmc_no h1).1
    have e2' : n2 r s = r := (lmc_no h2).1
    have e3' : n3 r s = r := (lmc_no h3).1
    unfold nsc
    rw [e1', e2', e3', show c1 r s = false from h1, show c2 r s = false from h2, show c3 r s = false from h3]
    show c4 r s = false
    unfold c4
    by_cases e : s.1 = s.2.1
    · rw [if_pos e]
      exact lmc_of (h4 e).1 (h4 e).2
    · rw [if_neg e]
theorem ns_id (h : nsc r s = false) : ns r s = r := by
  have hs := h
  unfold nsc at h
  simp only [Bool.or_eq_false_iff] at h
  obtain ⟨⟨⟨h1, h2⟩, h3⟩, h4⟩ := h
  have e1' : n1 r s = r := (lmc_no h1).1
  rw [e1'] at h2 h3 h4
  have e2' : n2 r s = r := (lmc_no h2).1
  rw [e2'] at h3 h4
  have e3' : n3 r s = r := (lmc_no h3).1
  rw [e3'] at h4
  unfold ns
  rw [e1', e2', e3']
  unfold n4
  split
  · next e =>
    unfold c4 at h4
    rw [if_pos e] at h4
    exact (lmc_no h4).1
  · rfl
theorem stb_cg (h1 : r.1 s.1 = r'.1 s.1 ∧ r.2 s.1 = r'.2 s.1) (h2 : r.1 s.2.1 = r'.1 s.2.1 ∧ r.2 s.2.1 = r'.2 s.2.1) (h3 : r.1 s.2.2 = r'.1 s.2.2 ∧ r.2 s.2.2 = r'.2 s.2.2) (h : stb r s) : stb r' s := by
  unfold stb at h ⊢
  rw [h1.1, h1.2, h2.1, h2.2, h3.1, h3.2] at h
  exact h
theorem lm_in {x l h y : Int} (h1 : l ≤ f x) (h2 : f x ≤ h) (hy : wi r f y) : wi (lm r x l h) f y := by
  unfold wi at hy ⊢
  unfold lm
  dsimp only
  by_cases e : y = x
  · subst e
    (repeat' split) <;> omega
  · rw [if_neg (fun q => e q.1), if_neg (fun q => e q.1)]
    exact hy
theorem ns_in (hs : psIn n s) (hr : Bd n r) (h1 : wi r f s.1) (h2 : wi r f s.2.1) (h3 : wi r f s.2.2) (he : f s.1 + f s.2.1 = f s.2.2) {y : Int} (hy : wi r f y) : wi (ns r s) f y := by
  obtain ⟨a, b, c⟩ := s
  obtain ⟨ia, ib, ic⟩ := hs
  dsimp only at ia ib ic h1 h2 h3 he
  have A1 : ∀ z, wi r f z → wi (n1 r (a, b, c)) f z := fun z hz => lm_in (by unfold wi at h1 h2 h3; dsimp only; omega) (by unfold wi at h1 h2 h3; dsimp only; omega) hz
  have g1 := A1 a h1
  have g2 := A1 b h2
  have g3 := A1 c h3
  have A2 : ∀ z, wi (n1 r (a, b, c)) f z → wi (n2 (n1 r (a, b, c)) (a, b, c)) f z := fun z hz => lm_in (by unfold wi at g1 g2 g3; dsimp only; omega) (by unfold wi at g1 g2 g3; dsimp only; omega) hz
  have u1 := A2 a g1
  have u2 := A2 b g2
  have u3 := A2 c g3
  have A3 : ∀ z, wi (n2 (n1 r (a, b, c)) (a, b, c)) f z → wi (n3 (n2 (n1 r (a, b, c)) (a, b, c)) (a, b, c)) f z := fun z hz => lm_in (by unfold wi at u1 u2 u3; dsimp only; omega) (by unfold wi at u1 u2 u3; dsimp only; omega) hz
  have v1 := A3 a u1
  have v2 := A3 b u2
  have v3 := A3 c u3
  have S3 : shr n r (n3 (n2 (n1 r (a, b, c)) (a, b, c)) (a, b, c)) := (lm_shr.tr lm_shr).tr lm_shr
  have sc := S3 c ic.1 ic.2
  have rc := hr c ic.1 ic.2
  unfold ns n4
  split
  · next e =>
    dsimp only at e
    refine lm_in ?_ ?_ (A3 y (A2 y (A1 y hy)))
    · dsimp only
      unfold wi at v1 v2 v3
      rw [div2 (by omega) (by omega)]
      have he2 : f a = f b := by rw [e]
      omega
    · dsimp only
      unfold wi at v1 v2 v3
      rw [div2 (by omega) (by omega)]
      have he2 : f a = f b := by rw [e]
      omega
  · exact A3 y (A2 y (A1 y hy))
/-! what every step keeps -/
theorem nrA_ind : ∀ (qs : List T3) (r : AB) (c : Bool) {r' : AB} {c' : Bool}, (∀ q s, s ∈ qs → Bd n q → J q → ¬ emps (ns q s) s → J (ns q s)) → Bd n r → J r → nrA qs r c = some (r', c') → J r'
  | [], r, c, r', c', _, _, hj, h => by
    cases h
    exact hj
  | s :: qs, r, c, r', c', hJ, hr, hj, h => by
    rw [nrA] at h
    split at h
    · cases h
    · next he =>
      exact nrA_ind qs _ _ (fun q s hs => hJ q s (List.mem_cons_of_mem _ hs)) (ns_bd hr he) (hJ r s List.mem_cons_self hr hj he) h
theorem nrR_ind : ∀ (k : Nat) (r : AB) {r' : AB}, (∀ q s, s ∈ ps → Bd n q → J q → ¬ emps (ns q s) s → J (ns q s)) → Bd n r → J r → nrR ps k r = some r' → J r'
  | 0, r, r', _, _, hj, h => by
    cases h
    exact hj
  | k + 1, r, r', hJ, hr, hj, h => by
    rw [nrR] at h
    split at h
    · cases h
    · next r2 c2 he =>
      have h1 := nrA_bd ps r false hr he
      have h2 := nrA_ind ps r false hJ hr hj he
      split at h
      · exact nrR_ind k r2 hJ h1.1 h2 h
      · cases h
        exact h2
theorem nrw_ind (hJ : ∀ q s, s ∈ ps → Bd n q → J q → ¬ emps (ns q s) s → J (ns q s)) (hr : Bd n r) (hj : J r) (h : nrw n ps r = some r') : J r' := by
  unfold nrw at h
  split at h
  · exact nrR_ind 100 r hJ hr hj h
  · cases h
theorem nrA_some : ∀ (qs : List T3) (r : AB) (c : Bool), (∀ q s, s ∈ qs → Bd n q → J q → J (ns q s) ∧ ¬ emps (ns q s) s) → Bd n r → J r → ∃ r' c', nrA qs r c = some (r', c') ∧ J r' ∧ Bd n r'
  | [], r, c, _, hr, hj => ⟨r, c, rfl, hj, hr⟩
  | s :: qs, r, c, hJ, hr, hj => by
    obtain ⟨h1, h2⟩ := hJ r s List.mem_cons_self hr hj
    rw [nrA, if_neg (show ¬ (emp (ns r s) s.1 || emp (ns r s) s.2.1 || emp (ns r s) s.2.2) = true from h2)]
    exact nrA_some qs _ _ (fun q s hs => hJ q s (List.mem_cons_of_mem _ hs)) (ns_bd hr h2) h1
theorem nrR_some : ∀ (k : Nat) (r : AB), (∀ q s, s ∈ ps → Bd n q → J q → J (ns q s) ∧ ¬ emps (ns q s) s) → Bd n r → J r → ∃ r', nrR ps k r = some r' ∧ J r'
  | 0, r, _, _, hj => ⟨r, rfl, hj⟩
  | k + 1, r, hJ, hr, hj => by
    obtain ⟨r2, c2, h1, h2, h3⟩ := nrA_some ps r false hJ hr hj
    rw [nrR, h1]
    dsimp only
    split
    · exact nrR_some k r2 hJ h3 h2
    · exact ⟨r2, rfl, h2⟩
theorem nrw_some (h0n : 0 ≤ n) (hn : n ≤ 12) (hJ : ∀ q s, s ∈ ps → Bd n q → J q → J (ns q s) ∧ ¬ emps (ns q s) s) (hr : Bd n r) (hj : J r) : ∃ r', nrw n ps r = some r' ∧ J r' := by
  unfold nrw
  rw [if_pos]
  · exact nrR_some 100 r hJ hr hj
  · rcases lsA_cases (p := fun x => emp r x) h0n with ⟨h, _⟩ | ⟨h1, h2, h3, _⟩
    · exact h
    · have := hr _ h1 h2
      have h4 : r.2 (lsA (fun x => emp r x) n) < r.1 (lsA (fun x => emp r x) n) := of_decide_eq_true h3
      omega
/-! the end of narrowing -/
theorem Wd_le (h : shr n r r') : Wd n r' ≤ Wd n r := Sg_le _ (fun x q1 q2 => by have := h x q1 (by omega); omega)
theorem Wd_lt (h : shr n r r') {x : Int} (hx : 0 ≤ x ∧ x < n) (hl : r'.2 x - r'.1 x < r.2 x - r.1 x) : Wd n r' + 1 ≤ Wd n r := Sg_lt _ (fun x q1 q2 => by have := h x q1 (by omega); omega) hx.1 (by omega) (by omega)
theorem lm_lt {x l h : Int} (hx : 0 ≤ x ∧ x < n) (hc : lmc r x l h = true) : Wd n (lm r x l h) + 1 ≤ Wd n r := by
  refine Wd_lt lm_shr hx ?_
  have h1 : r.1 x < l ∨ h < r.2 x := of_decide_eq_true hc
  unfold lm
  dsimp only
  (repeat' split) <;> omega
theorem ns_lt (hs : psIn n s) (h : nsc r s = true) : Wd n (ns r s) + 1 ≤ Wd n r := by
  obtain ⟨ia, ib, ic⟩ := hs
  have s1 : shr n r (n1 r s) := lm_shr
  have s2 : shr n (n1 r s) (n2 (n1 r s) s) := lm_shr
  have s3 : shr n (n2 (n1 r s) s) (n3 (n2 (n1 r s) s) s) := lm_shr
  have s4 : shr n (n3 (n2 (n1 r s) s) s) (ns r s) := n4_shr
  have w1 := Wd_le s1
  have w2 := Wd_le s2
  have w3 := Wd_le s3
  have w4 := Wd_le s4
  unfold nsc at h
  simp only [Bool.or_eq_true] at h
  rcases h with ((h | h) | h) | h
  · have : Wd n (n1 r s) + 1 ≤ Wd n r := lm_lt ic h
    omega
  · have : Wd n (n2 (n1 r s) s) + 1 ≤ Wd n (n1 r s) := lm_lt ia h
    omega
  · have : Wd n (n3 (n2 (n1 r s) s) s) + 1 ≤ Wd n (n2 (n1 r s) s) := lm_lt ib h
    omega
  · unfold c4 at h
    split at h
    · next e =>
      have : Wd n (n4 (n3 (n2 (n1 r s) s) s) s) + 1 ≤ Wd n (n3 (n2 (n1 r s) s) s) := by
        unfold n4
        rw [if_pos e]
        exact lm_lt ia h
      unfold ns
      omega
    · cases h
theorem nrA_fix : ∀ (qs : List T3) (r : AB) (c : Bool) {r' : AB}, nrA qs r c = some (r', false) → c = false ∧ r' = r ∧ ∀ s, s ∈ qs → stb r s
  | [], r, c, r', h => by
    cases h
    exact ⟨rfl, rfl, fun s hs => by simp at hs⟩
  | s :: qs, r, c, r', h => by
    rw [nrA] at h
    split at h
    · cases h
    · obtain ⟨h1, h2, h3⟩ := nrA_fix qs _ _ h
      rw [Bool.or_eq_false_iff] at h1
      rw [ns_id h1.2] at h2 h3
      refine ⟨h1.1, h2, fun z hz => ?_⟩
      rcases List.mem_cons.mp hz with rfl | hz
      · exact nsc_stb.mp h1.2
      · exact h3 z hz
theorem nrA_lt : ∀ (qs : List T3) (r : AB) (c : Bool) {r' : AB}, (∀ s, s ∈ qs → psIn n s) → Bd n r → nrA qs r c = some (r', true) → c = true ∨ Wd n r' + 1 ≤ Wd n r
  | [], r, c, r', _, _, h => by
    cases h
    exact Or.inl rfl
  | s :: qs, r, c, r', hin, hr, h => by
    rw [nrA] at h
    split at h
    · cases h
    · next he =>
      have w0 := Wd_le (ns_shr (n := n) (r := r) (s := s))
      have w1 := Wd_le (nrA_bd qs _ _ (ns_bd hr he) h).2
      rcases nrA_lt qs _ _ (fun z hz => hin z (List.mem_cons_of_mem _ hz)) (ns_bd hr he) h with h1 | h1
      · rw [Bool.or_eq_true] at h1
        rcases h1 with h1 | h1
        · exact Or.inl h1
        · have := ns_lt (hin s List.mem_cons_self) h1
          exact Or.inr (by omega)
      · exact Or.inr (by omega)
theorem Wd_nn (h : Bd n r) : 0 ≤ Wd n r := Sg_nn _ (fun x q1 q2 => by have := h x q1 (by omega); omega)
theorem nrR_fix (hin : ∀ s, s ∈ ps → psIn n s) : ∀ (k : Nat) (r : AB) {r' : AB}, Bd n r → Wd n r < k → nrR ps k r = some r' → ∀ s, s ∈ ps → stb r' s
  | 0, r, r', hr, hw, h => by
    have := Wd_nn hr
    omega
  | k + 1, r, r', hr, hw, h => by
    rw [nrR] at h
    split at h
    · cases h
    · next r2 c2 he =>
      have h1 := nrA_bd ps r false hr he
      split at h
      · next hc =>
        rw [hc] at he
        rcases nrA_lt ps r false hin hr he with h2 | h2
        · cases h2
        · exact nrR_fix hin k r2 h1.1 (by omega) h
      · next hc =>
        have hc' : c2 = false := by simpa using hc
        rw [hc'] at he
        obtain ⟨-, h2, h3⟩ := nrA_fix ps r false he
        cases h
        rw [h2]
        exact h3
theorem nrw_fix (h0n : 0 ≤ n) (hn : n ≤ 12) (hin : ∀ s, s ∈ ps → psIn n s) (hr : Bd n r) (h : nrw n ps r = some r') : ∀ s, s ∈ ps → stb r' s := by
  unfold nrw at h
  split at h
  · refine nrR_fix hin 100 r hr ?_ h
    have h1 := Sg_le (f := fun x => r.2 x - r.1 x) (f' := fun _ => 6) (lo := 0) n.toNat (fun x q1 q2 => by have := hr x q1 (by omega); omega)
    have h2 := (Sg_bd (f := fun _ => (6 : Int)) (lo := 0) (c := 6) (fun _ => ⟨by omega, Int.le_refl _⟩) n.toNat).2
    unfold Wd
    omega
  · cases h
end WN
