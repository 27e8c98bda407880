/-! every act keeps a table well formed -/
def up1 (c x : Int) : Int := if x < c then x else x + 1
def trem (t : Int → Int → Int) (n c : Int) : Int → Int → Int := fun x y => if 0 ≤ x ∧ x < n - 1 ∧ 0 ≤ y ∧ y < n - 1 then (if t (up1 c x) (up1 c y) = 12 ∨ t (up1 c x) (up1 c y) = c then 12 else if c < t (up1 c x) (up1 c y) then t (up1 c x) (up1 c y) - 1 else t (up1 c x) (up1 c y)) else 12
def sg (f s x : Int) : Int := if x = f then s else if x = s then f else x
def tswp (t : Int → Int → Int) (f s : Int) : Int → Int → Int := fun x y => sg f s (t (sg f s x) (sg f s y))
section TF
variable {n : Int} {t : Int → Int → Int}
theorem twf_wid {k : Int} (h : twf t n) (hn : 1 ≤ n) (hk : 0 ≤ k) : twf (twid t n k) (n + k) := by
  obtain ⟨h1, h2, h3, h4⟩ := h
  refine ⟨fun x y => ?_, fun x y => ?_, fun b b0 b1 => ?_, fun x y hxy => ?_⟩
  · unfold twid
    rw [h1 y x]
    (repeat' split) <;> first | rfl | omega
  · unfold twid
    have := h2 x y
    (repeat' split) <;> omega
  · unfold twid
    by_cases e : b < n
    · rw [if_neg (by omega), if_neg (by omega)]
      exact h3 b b0 e
    · rw [if_pos ⟨rfl, by omega, by omega⟩]
  · unfold twid
    rw [if_neg (by omega), if_neg (by omega)]
    exact h4 x y (by omega)
theorem twf_new {k : Int} (hk : 1 ≤ k) : twf (tnew k) k := by
  refine ⟨fun x y => ?_, fun x y => ?_, fun b b0 b1 => ?_, fun x y hxy => ?_⟩
  · unfold tnew twid
    (repeat' split) <;> first | rfl | omega
  · unfold tnew twid
    (repeat' split) <;> first | exact Or.inl rfl | omega
  · unfold tnew twid
    rw [if_pos ⟨rfl, by omega, by omega⟩]
  · unfold tnew twid
    rw [if_neg (by omega), if_neg (by omega)]
theorem twf_chain {m : Int} (h : twf t n) (hn : 2 ≤ n) (hm : 1 ≤ m) : twf (tchain t n m) (n + m - 1) := by
  obtain ⟨h1, h2, h3, h4⟩ := h
  refine ⟨tchain_sym h1, fun x y => ?_, fun b b0 b1 => ?_, fun x y hxy => ?_⟩
  · unfold tchain
    have := h2 x y
    (repeat' split) <;> omega
  · unfold tchain
    rw [if_neg (by omega)]
    by_cases e : b < n
    · rw [if_neg (by omega), if_neg (by omega)]
      exact h3 b b0 e
    · rw [if_pos ⟨rfl, by omega, by omega⟩]
  · unfold tchain
    rw [if_neg (by omega), if_neg (by omega), if_neg (by omega)]
    exact h4 x y (by omega)
theorem twf_pair (h : twf t n) (hn : 2 ≤ n) (hn6 : n ≤ 6) : twf (tpair t n) (2 * n) := by
  refine ⟨tpair_sym h.1, fun x y => ?_, fun b b0 b1 => ?_, fun x y hxy => if_neg hxy⟩
  · unfold tpair
    by_cases hxy : 0 ≤ x ∧ x < 2 * n ∧ 0 ≤ y ∧ y < 2 * n
    · rw [if_pos hxy]
      by_cases e1 : psnd n x + psnd n y = 2
      · rw [if_pos e1]; exact Or.inl rfl
      · rw [if_neg e1]
        by_cases e2 : t (pfst n x) (pfst n y) = 12
        · rw [if_pos e2]; exact Or.inl rfl
        · rw [if_neg e2]
          have h3 := (h.2.1 (pfst n x) (pfst n y)).resolve_left e2
          exact Or.inr (pe_rng hn h3.1 h3.2)
    · rw [if_neg hxy]; exact Or.inl rfl
  · rw [tpair_0 h hn hn6, if_pos ⟨b0, b1⟩]
theorem twf_sets {all : Int} (h : okAl all) : twf (tsets all) (all + 1) := by
  refine ⟨tsets_sym all, fun x y => ?_, fun b b0 b1 => ?_, fun x y hxy => if_neg (by omega)⟩
  · unfold tsets
    by_cases hxy : 0 ≤ x ∧ x ≤ all ∧ 0 ≤ y ∧ y ≤ all
    · rw [if_pos hxy]
      by_cases e1 : andI (sot all x) (sot all y) = 0
      · rw [if_pos e1]
        have hx := sot_rng h hxy.1 hxy.2.1
        have hy := sot_rng h hxy.2.2.1 hxy.2.2.2
        have ho := or_rng h hx hy
        have : 0 ≤ orI (sot all x) (sot all y) ∧ orI (sot all x) (sot all y) ≤ all := by
          by_cases e : sot all x = 0
          · rw [ho.1 e]; exact hy
          · have := ho.2.1 (by omega); omega
        have := sot_tos h this.1 this.2
        exact Or.inr (by omega)
      · rw [if_neg e1]; exact Or.inl rfl
    · rw [if_neg hxy]; exact Or.inl rfl
  · rw [tsets_0 h, if_pos ⟨b0, b1⟩]
theorem twf_put {a b c : Int} (h : twf t n) (ha : 1 ≤ a ∧ a < n) (hb : 1 ≤ b ∧ b < n) (hc : (0 ≤ c ∧ c < n) ∨ c = 12) : twf (tput t a b c) n := by
  obtain ⟨h1, h2, h3, h4⟩ := h
  refine ⟨fun x y => ?_, fun x y => ?_, fun d d0 d1 => ?_, fun x y hxy => ?_⟩
  · unfold tput
    rw [h1 y x]
    by_cases e : (x = a ∧ y = b) ∨ (x = b ∧ y = a)
    · rw [if_pos e, if_pos (by omega)]
    · rw [if_neg e, if_neg (by omega)]
  · unfold tput
    have := h2 x y
    split <;> omega
  · unfold tput
    rw [if_neg (by omega)]
    exact h3 d d0 d1
  · unfold tput
    rw [if_neg (by omega)]
    exact h4 x y hxy
theorem twf_putF : ∀ (acc : List T3) (t : Int → Int → Int), twf t n → (∀ s, s ∈ acc → (1 ≤ s.1 ∧ s.1 < n) ∧ (1 ≤ s.2.1 ∧ s.2.1 < n) ∧ ((0 ≤ s.2.2 ∧ s.2.2 < n) ∨ s.2.2 = 12)) → twf (putF t acc) n
  | [], t, h, _ => h
  | s :: acc, t, h, hs => by
    obtain ⟨q1, q2, q3⟩ := hs s List.mem_cons_self
    exact twf_putF acc _ (twf_put h q1 q2 q3) (fun z hz => hs z (List.mem_cons_of_mem _ hz))
theorem twf_rem {c : Int} (h : twf t n) (hn : n ≤ 12) (hc : 2 ≤ c ∧ c < n) : twf (trem t n c) (n - 1) := by
  obtain ⟨h1, h2, h3, h4⟩ := h
  refine ⟨fun x y => ?_, fun x y => ?_, fun b b0 b1 => ?_, fun x y hxy => if_neg (by omega)⟩
  · unfold trem
    rw [h1 (up1 c y) (up1 c x)]
    by_cases e : 0 ≤ x ∧ x < n - 1 ∧ 0 ≤ y ∧ y < n - 1
    · rw [if_pos e, if_pos (show 0 ≤ y ∧ y < n - 1 ∧ 0 ≤ x ∧ x < n - 1 by omega)]
    · rw [if_neg e, if_neg (show ¬ (0 ≤ y ∧ y < n - 1 ∧ 0 ≤ x ∧ x < n - 1) by omega)]
  · unfold trem
    have := h2 (up1 c x) (up1 c y)
    (repeat' split) <;> omega
  · unfold trem
    rw [if_pos (by omega)]
    have e0 : up1 c 0 = 0 := if_pos (by omega)
    have hu : 0 ≤ up1 c b ∧ up1 c b < n := by
      unfold up1
      split <;> omega
    rw [e0, h3 _ hu.1 hu.2]
    unfold up1
    (repeat' split) <;> omega
theorem sg_rng {f s x : Int} (hf : 2 ≤ f ∧ f < n) (hs : 2 ≤ s ∧ s < n) : (0 ≤ x ∧ x < n ↔ 0 ≤ sg f s x ∧ sg f s x < n) ∧ sg f s (sg f s x) = x := by
  unfold sg
  constructor
  · (repeat' split) <;> omega
  · (repeat' split) <;> omega
theorem twf_swp {f s : Int} (h : twf t n) (hn : n ≤ 12) (hf : 2 ≤ f ∧ f < n) (hs : 2 ≤ s ∧ s < n) : twf (tswp t f s) n := by
  obtain ⟨h1, h2, h3, h4⟩ := h
  have e12 : sg f s 12 = 12 := by
    unfold sg
    rw [if_neg (by omega), if_neg (by omega)]
  have e0 : sg f s 0 = 0 := by
    unfold sg
    rw [if_neg (by omega), if_neg (by omega)]
  refine ⟨fun x y => ?_, fun x y => ?_, fun b b0 b1 => ?_, fun x y hxy => ?_⟩
  · unfold tswp
    rw [h1]
  · unfold tswp
    rcases h2 (sg f s x) (sg f s y) with q | q
    · rw [q, e12]; exact Or.inl rfl
    · exact Or.inr ((sg_rng hf hs).1.mp q)
  · unfold tswp
    have hb := (sg_rng (x := b) hf hs).1.mp ⟨b0, b1⟩
    rw [e0, h3 _ hb.1 hb.2]
    exact (sg_rng hf hs).2
  · unfold tswp
    have hx := (sg_rng (x := x) hf hs).1
    have hy := (sg_rng (x := y) hf hs).1
    rw [h4 _ _ (by omega), e12]
end TF
