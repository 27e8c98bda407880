/-! the groups, and what a group's search finds -/
def GI (n : Int) (o : Int → Prop) (g : Int → Int) : Prop := ∀ x, 0 ≤ x → x < n → (g x = -1 ↔ ¬ o x) ∧ (g x ≠ -1 → 0 ≤ g x ∧ g x ≤ x ∧ g (g x) = g x)
def GJ (g : Int → Int) (s : T3) : Prop := (g s.1 ≠ -1 → g s.2.1 ≠ -1 → g s.1 = g s.2.1) ∧ (g s.1 ≠ -1 → g s.2.2 ≠ -1 → g s.1 = g s.2.2) ∧ (g s.2.1 ≠ -1 → g s.2.2 ≠ -1 → g s.2.1 = g s.2.2)
section GR
variable {n k : Int} {o : Int → Prop} {g g' : Int → Int} {s : T3} {ps : List T3}
theorem minI_or (a b : Int) : (minI a b = a ∨ minI a b = b) ∧ minI a b ≤ a ∧ minI a b ≤ b := by
  unfold minI
  split <;> omega
theorem jg_inv (h : GI n o g) {y z : Int} (hy : 0 ≤ y ∧ y < n) (hz : 0 ≤ z ∧ z < n) : GI n o (jg g (g y) (g z)) ∧ (∀ u v, g u = g v → jg g (g y) (g z) u = jg g (g y) (g z) v) ∧ (∀ u, g u = -1 → jg g (g y) (g z) u = -1) ∧ (g y ≠ -1 → g z ≠ -1 → jg g (g y) (g z) y = jg g (g y) (g z) z) := by
  by_cases hc : g y = -1 ∨ g z = -1
  · have e : jg g (g y) (g z) = g := if_pos hc
    rw [e]
    exact ⟨h, fun _ _ q => q, fun _ q => q, fun q1 q2 => absurd hc (fun q => q.elim q1 q2)⟩
  · have e : ∀ x, jg g (g y) (g z) x = if g x = g y ∨ g x = g z then minI (g y) (g z) else g x := fun x => by
      unfold jg
      rw [if_neg hc]
    have hcy : g y ≠ -1 := fun q => hc (Or.inl q)
    have hcz : g z ≠ -1 := fun q => hc (Or.inr q)
    obtain ⟨y0, y1, y2⟩ := (h y hy.1 hy.2).2 hcy
    obtain ⟨z0, z1, z2⟩ := (h z hz.1 hz.2).2 hcz
    obtain ⟨m1, m2, m3⟩ := minI_or (g y) (g z)
    have hm : jg g (g y) (g z) (minI (g y) (g z)) = minI (g y) (g z) := by
      rw [e]
      refine if_pos ?_
      rcases m1 with q | q
      · left; rw [q]; exact y2
      · right; rw [q]; exact z2
    have hm0 : 0 ≤ minI (g y) (g z) := by
      rcases m1 with q | q <;> rw [q] <;> assumption
    refine ⟨fun x x0 x1 => ?_, fun u v q => ?_, fun u q => ?_, fun _ _ => ?_⟩
    · have hx := h x x0 x1
      by_cases ex : g x = g y ∨ g x = g z
      · have e2 : jg g (g y) (g z) x = minI (g y) (g z) := by rw [e, if_pos ex]
        have hxo : g x ≠ -1 := by
          rcases ex with q | q <;> rw [q] <;> assumption
        rw [e2]
        refine ⟨⟨fun q => by omega, fun q => absurd (hx.1.mpr q) hxo⟩, fun _ => ⟨hm0, ?_, hm⟩⟩
        have := (hx.2 hxo).2.1
        rcases ex with q | q <;> omega
      · have e2 : jg g (g y) (g z) x = g x := by rw [e, if_neg ex]
        rw [e2]
        refine ⟨hx.1, fun q => ⟨(hx.2 q).1, (hx.2 q).2.1, ?_⟩⟩
        rw [e, (hx.2 q).2.2, if_neg ex]
    · rw [e, e, q]
    · rw [e, if_neg (fun z => z.elim (fun z => hcy (by rw [← z]; exact q)) (fun z => hcz (by rw [← z]; exact q)))]
      exact q
    · rw [e, e, if_pos (Or.inl rfl), if_pos (Or.inr rfl)]
theorem GI.m1 (h : GI n o g) (h' : GI n o g') {x : Int} (x0 : 0 ≤ x) (x1 : x < n) : g x = -1 ↔ g' x = -1 := (h x x0 x1).1.trans (h' x x0 x1).1.symm
theorem jg3_inv (h : GI n o g) (hs : psIn n s) : GI n o (jg3 g s) ∧ (∀ u v, g u = g v → jg3 g s u = jg3 g s v) ∧ GJ (jg3 g s) s := by
  obtain ⟨ia, ib, ic⟩ := hs
  obtain ⟨a1, a2, -, a3⟩ := jg_inv h ia ib
  change GI n o (j1 g s) at a1
  obtain ⟨b1, b2, -, b3⟩ := jg_inv a1 ia ic
  change GI n o (j2 (j1 g s) s) at b1
  obtain ⟨c1, c2, -, c3⟩ := jg_inv b1 ib ic
  change GI n o (jg3 g s) at c1
  refine ⟨c1, fun u v q => c2 u v (b2 u v (a2 u v q)), ?_, ?_, ?_⟩
  · intro q1 q2
    exact c2 _ _ (b2 _ _ (a3 (fun z => q1 ((h.m1 c1 ia.1 ia.2).mp z)) (fun z => q2 ((h.m1 c1 ib.1 ib.2).mp z))))
  · intro q1 q2
    exact c2 _ _ (b3 (fun z => q1 ((a1.m1 c1 ia.1 ia.2).mp z)) (fun z => q2 ((a1.m1 c1 ic.1 ic.2).mp z)))
  · intro q1 q2
    exact c3 (fun z => q1 ((b1.m1 c1 ib.1 ib.2).mp z)) (fun z => q2 ((b1.m1 c1 ic.1 ic.2).mp z))
theorem fold_inv : ∀ (qs : List T3) (g : Int → Int), (∀ s, s ∈ qs → psIn n s) → GI n o g → GI n o (qs.foldl jg3 g) ∧ (∀ u v, g u = g v → qs.foldl jg3 g u = qs.foldl jg3 g v) ∧ ∀ s, s ∈ qs → GJ (qs.foldl jg3 g) s
  | [], g, _, h => ⟨h, fun _ _ q => q, fun s hs => by simp at hs⟩
  | s :: qs, g, hin, h => by
    have hs := hin s List.mem_cons_self
    obtain ⟨a1, a2, a3⟩ := jg3_inv h hs
    obtain ⟨b1, b2, b3⟩ := fold_inv qs (jg3 g s) (fun z hz => hin z (List.mem_cons_of_mem _ hz)) a1
    rw [List.foldl_cons]
    refine ⟨b1, fun u v q => b2 u v (a2 u v q), fun z hz => ?_⟩
    rcases List.mem_cons.mp hz with rfl | hz
    · obtain ⟨i1, i2, i3⟩ := hs
      obtain ⟨d1, d2, d3⟩ := a3
      refine ⟨fun q1 q2 => b2 _ _ (d1 (fun y => q1 ((a1.m1 b1 i1.1 i1.2).mp y)) (fun y => q2 ((a1.m1 b1 i2.1 i2.2).mp y))), fun q1 q2 => b2 _ _ (d2 (fun y => q1 ((a1.m1 b1 i1.1 i1.2).mp y)) (fun y => q2 ((a1.m1 b1 i3.1 i3.2).mp y))), fun q1 q2 => b2 _ _ (d3 (fun y => q1 ((a1.m1 b1 i2.1 i2.2).mp y)) (fun y => q2 ((a1.m1 b1 i3.1 i3.2).mp y)))⟩
    · exact b3 z hz
theorem grps_inv {r : AB} (hin : ∀ s, s ∈ ps → psIn n s) : GI n (fun x => r.1 x < r.2 x) (grps ps r) ∧ ∀ s, s ∈ ps → GJ (grps ps r) s := by
  have h0 : GI n (fun x => r.1 x < r.2 x) (grp0 r) := by
    intro x x0 x1
    unfold grp0
    by_cases e : r.1 x < r.2 x
    · rw [if_pos e]
      refine ⟨⟨fun q => by omega, fun q => absurd e q⟩, fun _ => ⟨x0, Int.le_refl _, ?_⟩⟩
      rw [if_pos e]
    · rw [if_neg e]
      exact ⟨⟨fun _ => e, fun _ => rfl⟩, fun q => absurd rfl q⟩
  have := fold_inv ps (grp0 r) hin h0
  exact ⟨this.1, this.2.2⟩
end GR
/-! results of a search -/
def Lx (γ : Int → Int) (G n : Int) (f h : Int → Int) : Prop := ∃ y, 0 ≤ y ∧ y < n ∧ γ y = G ∧ f y < h y ∧ ∀ j, 0 ≤ j → j < y → γ j = G → f j = h j
def Lm (γ : Int → Int) (G n : Int) (S : (Int → Int) → Prop) (f : Int → Int) : Prop := S f ∧ ∀ h, S h → (∀ x, 0 ≤ x → x < n → γ x = G → h x = f x) ∨ Lx γ G n f h
def Rz (γ : Int → Int) (G n k : Int) (S : (Int → Int) → Prop) (nt nt' : Nt) : Prop :=
  nt'.2 = nt.2 + cnt k (fun x => γ x = G) S n.toNat (fun _ => 0) ∧
  (∀ x, γ x ≠ G → nt'.1.1 x = nt.1.1 x ∧ nt'.1.2.1 x = nt.1.2.1 x ∧ nt'.1.2.2 x = nt.1.2.2 x) ∧
  ((nt.2 ≠ 0 ∨ ∀ f, ¬ S f) → nt'.1.1 = nt.1.1) ∧ (nt.2 = 0 → (∃ f, S f) → ∃ f, Lm γ G n S f ∧ ∀ x, 0 ≤ x → x < n → γ x = G → nt'.1.1 x = f x) ∧
  ∀ x, 0 ≤ x → x < n → γ x = G → (nt'.1.2.1 x ≤ nt.1.2.1 x ∧ (∀ f, S f → nt'.1.2.1 x ≤ f x) ∧ (nt'.1.2.1 x = nt.1.2.1 x ∨ ∃ f, S f ∧ nt'.1.2.1 x = f x)) ∧
    (nt.1.2.2 x ≤ nt'.1.2.2 x ∧ (∀ f, S f → f x ≤ nt'.1.2.2 x) ∧ (nt'.1.2.2 x = nt.1.2.2 x ∨ ∃ f, S f ∧ nt'.1.2.2 x = f x))
section RZ
variable {γ : Int → Int} {G n k : Int} {S S1 S2 : (Int → Int) → Prop} {nt nt1 nt2 : Nt} {q : AB}
/-- of functions that are not wild: those that the count sees -/
def Sn (n k : Int) (γ : Int → Int) (G : Int) (S : (Int → Int) → Prop) : Prop := Lk (fun x => 0 ≤ x ∧ x < n ∧ γ x = G) S ∧ ∀ f, S f → ∀ x, 0 ≤ x → x < n → γ x = G → 0 ≤ f x ∧ f x ≤ k
theorem Sn.ex (h : Sn n k γ G S) (h0n : 0 ≤ n) : 1 ≤ cnt k (fun x => γ x = G) S n.toNat (fun _ => 0) ↔ ∃ f, S f := by
  rw [cnt_ex]
  constructor
  · rintro ⟨f, _, h2⟩
    exact ⟨f, h2⟩
  · rintro ⟨f, hf⟩
    have hw := h.2 f hf
    refine ⟨fun x => if dB (0 ≤ x ∧ x < n ∧ γ x = G) = true then f x else 0, fun x => ⟨fun q => ?_, fun q => ?_⟩, (h.1 f _ (fun x hx => ?_)).mp hf⟩
    · have q' : 0 ≤ x ∧ x < n ∧ γ x = G := ⟨q.1, by omega, q.2.2⟩
      dsimp only
      rw [if_pos (dB_iff.mpr q')]
      exact hw x q'.1 q'.2.1 q'.2.2
    · exact if_neg (fun z => q ⟨(dB_iff.mp z).1, by have := (dB_iff.mp z).2.1; omega, (dB_iff.mp z).2.2⟩)
    · exact (if_pos (dB_iff.mpr hx)).symm
theorem Rz.none (h : ∀ f, ¬ S f) : Rz γ G n k S nt nt := by
  refine ⟨?_, fun _ _ => ⟨rfl, rfl, rfl⟩, fun _ => rfl, fun _ ⟨f, hf⟩ => absurd hf (h f), fun x _ _ _ => ⟨⟨Int.le_refl _, fun f hf => absurd hf (h f), Or.inl rfl⟩, Int.le_refl _, fun f hf => absurd hf (h f), Or.inl rfl⟩⟩
  rw [cnt_none n.toNat _ (fun f _ => h f), Int.add_zero]
theorem Rz.cons (h1 : Rz γ G n k S1 nt nt1) (h2 : Rz γ G n k S2 nt1 nt2) (h0n : 0 ≤ n) (hn1 : Sn n k γ G S1) (hS : ∀ f, S f ↔ (S1 f ∨ S2 f)) (hd : ∀ f, ¬ (S1 f ∧ S2 f)) (hlt : ∀ f h, S1 f → S2 h → Lx γ G n f h) (h0 : 0 ≤ nt.2) : Rz γ G n k S nt nt2 := by
  obtain ⟨a1, a2, a3, a4, a5⟩ := h1
  obtain ⟨b1, b2, b3, b4, b5⟩ := h2
  have hc1 := cnt_nn (k := k) (p := fun x => γ x = G) (P := S1) n.toNat (fun _ => 0)
  refine ⟨?_, fun x hx => ?_, fun hx => ?_, fun hz hx => ?_, fun x x0 x1 hx => ?_⟩
  · rw [b1, a1, cnt_add (P := S) (P1 := S1) (P2 := S2) n.toNat _ (fun f _ => ⟨hS f, hd f⟩)]
    omega
  · obtain ⟨u1, u2, u3⟩ := a2 x hx
    obtain ⟨v1, v2, v3⟩ := b2 x hx
    exact ⟨v1.trans u1, v2.trans u2, v3.trans u3⟩
  · rcases hx with hx | hx
    · rw [b3 (Or.inl (by omega)), a3 (Or.inl hx)]
    · rw [b3 (Or.inr (fun f hf => hx f ((hS f).mpr (Or.inr hf)))), a3 (Or.inr (fun f hf => hx f ((hS f).mpr (Or.inl hf))))]
  · by_cases e1 : ∃ f, S1 f
    · obtain ⟨f, ⟨hf1, hf2⟩, hf3⟩ := a4 hz e1
      have := (hn1.ex h0n).mpr e1
      refine ⟨f, ⟨(hS f).mpr (Or.inl hf1), fun h hh => ?_⟩, fun x x0 x1 hx => by rw [b3 (Or.inl (by omega))]; exact hf3 x x0 x1 hx⟩
      rcases (hS h).mp hh with q | q
      · exact hf2 h q
      · exact Or.inr (hlt f h hf1 q)
    · have hno : ∀ f, ¬ S1 f := fun f hf => e1 ⟨f, hf⟩
      have hz1 : nt1.2 = 0 := by
        rw [a1, cnt_none n.toNat _ (fun f _ => hno f)]
        omega
      obtain ⟨f0, hf0⟩ := hx
      obtain ⟨f, ⟨hf1, hf2⟩, hf3⟩ := b4 hz1 ⟨f0, ((hS f0).mp hf0).resolve_left (hno f0)⟩
      exact ⟨f, ⟨(hS f).mpr (Or.inr hf1), fun h hh => hf2 h (((hS h).mp hh).resolve_left (hno h))⟩, hf3⟩
  · obtain ⟨⟨u1, u2, u3⟩, u4, u5, u6⟩ := a5 x x0 x1 hx
    obtain ⟨⟨v1, v2, v3⟩, v4, v5, v6⟩ := b5 x x0 x1 hx
    refine ⟨⟨Int.le_trans v1 u1, fun f hf => ?_, ?_⟩, Int.le_trans u4 v4, fun f hf => ?_, ?_⟩
    · rcases (hS f).mp hf with q | q
      · exact Int.le_trans v1 (u2 f q)
      · exact v2 f q
    · rcases v3 with q | ⟨f, q1, q2⟩
      · rw [q]
        rcases u3 with q' | ⟨f, q1, q2⟩
        · exact Or.inl q'
        · exact Or.inr ⟨f, (hS f).mpr (Or.inl q1), q2⟩
      · exact Or.inr ⟨f, (hS f).mpr (Or.inr q1), q2⟩
    · rcases (hS f).mp hf with q | q
      · exact Int.le_trans (u5 f q) v4
      · exact v5 f q
    · rcases v6 with q | ⟨f, q1, q2⟩
      · rw [q]
        rcases u6 with q' | ⟨f, q1, q2⟩
        · exact Or.inl q'
        · exact Or.inr ⟨f, (hS f).mpr (Or.inl q1), q2⟩
      · exact Or.inr ⟨f, (hS f).mpr (Or.inr q1), q2⟩
theorem maxI_or (a b : Int) : (maxI a b = a ∨ maxI a b = b) ∧ a ≤ maxI a b ∧ b ≤ maxI a b := by
  unfold maxI
  split <;> omega
theorem Rz.leaf (h0n : 0 ≤ n) (hq : ∀ x, 0 ≤ x → x < n → γ x = G → 0 ≤ q.1 x ∧ q.1 x ≤ k) (hS : ∀ f, S f ↔ ∀ x, 0 ≤ x → x < n → γ x = G → f x = q.1 x) : Rz γ G n k S nt (noteN γ G q nt) := by
  have hex : S q.1 := (hS q.1).mpr (fun _ _ _ _ => rfl)
  refine ⟨?_, fun x hx => ⟨if_neg (fun z => hx z.1), if_neg hx, if_neg hx⟩, fun hx => ?_, fun hz _ => ⟨q.1, ⟨hex, fun h hh => Or.inl ((hS h).mp hh)⟩, fun x _ _ hx => if_pos ⟨hx, hz⟩⟩, fun x x0 x1 hx => ?_⟩
  · show nt.2 + 1 = _
    rw [cnt_one (c := q.1) n.toNat _ (fun x x0 x1 hx => hq x x0 (by omega) hx) (fun f _ => ?_)]
    rw [hS f]
    exact ⟨fun h x x0 x1 hx => h x x0 (by omega) hx, fun h x x0 x1 hx => h x x0 (by omega) hx⟩
  · rcases hx with hx | hx
    · funext x
      exact if_neg (fun z => hx z.2)
    · exact absurd hex (hx q.1)
  · have e1 : (noteN γ G q nt).1.2.1 x = minI (nt.1.2.1 x) (q.1 x) := if_pos hx
    have e2 : (noteN γ G q nt).1.2.2 x = maxI (nt.1.2.2 x) (q.1 x) := if_pos hx
    rw [e1, e2]
    obtain ⟨m1, m2, m3⟩ := minI_or (nt.1.2.1 x) (q.1 x)
    obtain ⟨w1, w2, w3⟩ := maxI_or (nt.1.2.2 x) (q.1 x)
    refine ⟨⟨m2, fun f hf => by rw [(hS f).mp hf x x0 x1 hx]; exact m3, m1.elim Or.inl (fun z => Or.inr ⟨q.1, hex, z⟩)⟩, w2, fun f hf => by rw [(hS f).mp hf x x0 x1 hx]; exact w3, w1.elim Or.inl (fun z => Or.inr ⟨q.1, hex, z⟩)⟩
end RZ
