/-! the search of a group finds all that there are -/
def Cxw (n k : Int) (ps : List T3) (r : AB) (γ : Int → Int) : Prop := (0 ≤ n ∧ n ≤ 12) ∧ (∀ s, s ∈ ps → psIn n s) ∧ Bd n r ∧ (∀ x, 0 ≤ x → x < n → r.2 x ≤ k) ∧ (∀ s, s ∈ ps → stb r s) ∧ GI n (fun x => r.1 x < r.2 x) γ ∧ ∀ s, s ∈ ps → GJ γ s
def fx (γ : Int → Int) (r : AB) (G : Int) (f : Int → Int) : Int → Int := fun x => if γ x = G then f x else r.1 x
def tch (γ : Int → Int) (G : Int) (s : T3) : Prop := γ s.1 = G ∨ γ s.2.1 = G ∨ γ s.2.2 = G
def GPs (ps : List T3) (γ : Int → Int) (r : AB) (G : Int) (f : Int → Int) : Prop := ∀ s, s ∈ ps → tch γ G s → fx γ r G f s.1 + fx γ r G f s.2.1 = fx γ r G f s.2.2
def GP (n : Int) (ps : List T3) (γ : Int → Int) (r : AB) (G : Int) (q : AB) (f : Int → Int) : Prop := GPs ps γ r G f ∧ ∀ x, 0 ≤ x → x < n → γ x = G → wi q f x
def Kq2 (n : Int) (γ : Int → Int) (r : AB) (G : Int) (q : AB) : Prop := ∀ x, 0 ≤ x → x < n → γ x ≠ G → q.1 x = r.1 x ∧ q.2 x = r.2 x
def Sq (n : Int) (ps : List T3) (γ : Int → Int) (r : AB) (G : Int) (q : AB) : Prop := Bd n q ∧ shr n r q ∧ Kq2 n γ r G q ∧ ∀ s, s ∈ ps → stb q s
section SC
variable {n k : Int} {ps : List T3} {r q q' : AB} {γ : Int → Int} {G : Int} {f : Int → Int}
/-- a thing of a sum that touches a group is of the group, or sure -/
theorem tch_sure (C : Cxw n k ps r γ) (hG : G ≠ -1) {s : T3} (hs : s ∈ ps) (ht : tch γ G s) {x : Int} (hx : x = s.1 ∨ x = s.2.1 ∨ x = s.2.2) (hg : γ x ≠ G) : r.1 x = r.2 x := by
  obtain ⟨-, hin, hB, -, -, hGI, hGJ⟩ := C
  obtain ⟨i1, i2, i3⟩ := hin s hs
  obtain ⟨d1, d2, d3⟩ := hGJ s hs
  have hx0 : 0 ≤ x ∧ x < n := by rcases hx with rfl | rfl | rfl <;> assumption
  have hm : γ x = -1 := by
    refine Classical.byContradiction fun hm => hg ?_
    rcases ht with h | h | h
    · have hne : γ s.1 ≠ -1 := by rw [h]; exact hG
      rcases hx with rfl | rfl | rfl
      · exact h
      · rw [← d1 hne hm, h]
      · rw [← d2 hne hm, h]
    · have hne : γ s.2.1 ≠ -1 := by rw [h]; exact hG
      rcases hx with rfl | rfl | rfl
      · rw [d1 hm hne, h]
      · exact h
      · rw [← d3 hne hm, h]
    · have hne : γ s.2.2 ≠ -1 := by rw [h]; exact hG
      rcases hx with rfl | rfl | rfl
      · rw [d2 hm hne, h]
      · rw [d3 hm hne, h]
      · exact h
  have h1 := (hGI x hx0.1 hx0.2).1.mp hm
  have h2 := hB x hx0.1 hx0.2
  omega
theorem GP_sn (C : Cxw n k ps r γ) (hq : Bd n q) (hsh : shr n r q) : Sn n k γ G (GP n ps γ r G q) := by
  have key : ∀ f g : Int → Int, (∀ x, 0 ≤ x ∧ x < n ∧ γ x = G → f x = g x) → GP n ps γ r G q f → GP n ps γ r G q g := by
    intro f g h ⟨h1, h2⟩
    have e : ∀ x, 0 ≤ x → x < n → fx γ r G f x = fx γ r G g x := fun x x0 x1 => by
      unfold fx
      by_cases hx : γ x = G
      · rw [if_pos hx, if_pos hx]
        exact h x ⟨x0, x1, hx⟩
      · rw [if_neg hx, if_neg hx]
    refine ⟨fun s hs ht => ?_, fun x x0 x1 hx => ?_⟩
    · obtain ⟨i1, i2, i3⟩ := C.2.1 s hs
      rw [← e _ i1.1 i1.2, ← e _ i2.1 i2.2, ← e _ i3.1 i3.2]
      exact h1 s hs ht
    · have := h2 x x0 x1 hx
      unfold wi at this ⊢
      rw [← h x ⟨x0, x1, hx⟩]
      exact this
  refine ⟨fun f g h => ⟨key f g h, key g f (fun x hx => (h x hx).symm)⟩, fun f hf x x0 x1 hx => ?_⟩
  have h1 := hf.2 x x0 x1 hx
  have h2 := hq x x0 x1
  have h3 := hsh x x0 x1
  have h4 := C.2.2.2.1 x x0 x1
  unfold wi at h1
  omega
/-- a step keeps what is not of the group -/
theorem step_keep (C : Cxw n k ps r γ) (hG : G ≠ -1) {s : T3} (hs : s ∈ ps) (hq : Bd n q) (hK : Kq2 n γ r G q) (he : ¬ emps (ns q s) s) : Kq2 n γ r G (ns q s) := by
  intro x x0 x1 hx
  obtain ⟨k1, k2⟩ := hK x x0 x1 hx
  by_cases ht : tch γ G s
  · by_cases hm : x = s.1 ∨ x = s.2.1 ∨ x = s.2.2
    · have h1 := tch_sure C hG hs ht hm hx
      have h2 := ns_shr (n := n) (r := q) (s := s) x x0 x1
      have h3 := ns_bd hq he x x0 x1
      omega
    · have := ns_other (r := q) (s := s) (x := x) (fun e => hm (Or.inl e)) (fun e => hm (Or.inr (Or.inl e))) (fun e => hm (Or.inr (Or.inr e)))
      rw [this.1, this.2]
      exact ⟨k1, k2⟩
  · obtain ⟨i1, i2, i3⟩ := C.2.1 s hs
    have m1 := hK s.1 i1.1 i1.2 (fun e => ht (Or.inl e))
    have m2 := hK s.2.1 i2.1 i2.2 (fun e => ht (Or.inr (Or.inl e)))
    have m3 := hK s.2.2 i3.1 i3.2 (fun e => ht (Or.inr (Or.inr e)))
    have hst := C.2.2.2.2.1 s hs
    have := stb_cg (r' := q) ⟨m1.1.symm, m1.2.symm⟩ ⟨m2.1.symm, m2.2.symm⟩ ⟨m3.1.symm, m3.2.symm⟩ hst
    rw [ns_id (nsc_stb.mpr this)]
    exact ⟨k1, k2⟩
/-- a step keeps a group's weighing -/
theorem step_in (C : Cxw n k ps r γ) (hG : G ≠ -1) (hf : GPs ps γ r G f) {s : T3} (hs : s ∈ ps) (hq : Bd n q) (hK : Kq2 n γ r G q) (hw : ∀ x, 0 ≤ x → x < n → γ x = G → wi q f x) : (Kq2 n γ r G (ns q s) ∧ ∀ x, 0 ≤ x → x < n → γ x = G → wi (ns q s) f x) ∧ ¬ emps (ns q s) s := by
  obtain ⟨i1, i2, i3⟩ := C.2.1 s hs
  by_cases ht : tch γ G s
  · have hall : ∀ x, 0 ≤ x → x < n → wi q (fx γ r G f) x := fun x x0 x1 => by
      unfold wi fx
      by_cases hx : γ x = G
      · rw [if_pos hx]
        exact hw x x0 x1 hx
      · rw [if_neg hx]
        obtain ⟨k1, k2⟩ := hK x x0 x1 hx
        have := hq x x0 x1
        omega
    have hns : ∀ x, 0 ≤ x → x < n → wi (ns q s) (fx γ r G f) x := fun x x0 x1 => ns_in ⟨i1, i2, i3⟩ hq (hall _ i1.1 i1.2) (hall _ i2.1 i2.2) (hall _ i3.1 i3.2) (hf s hs ht) (hall x x0 x1)
    have he : ¬ emps (ns q s) s := by
      unfold emps emp
      have h1 := hns _ i1.1 i1.2
      have h2 := hns _ i2.1 i2.2
      have h3 := hns _ i3.1 i3.2
      unfold wi at h1 h2 h3
      simp only [Bool.or_eq_true, decide_eq_true_eq]
      omega
    refine ⟨⟨step_keep C hG hs hq hK he, fun x x0 x1 hx => ?_⟩, he⟩
    have := hns x x0 x1
    unfold wi fx at this
    rw [if_pos hx] at this
    exact this
  · have m1 := hK s.1 i1.1 i1.2 (fun e => ht (Or.inl e))
    have m2 := hK s.2.1 i2.1 i2.2 (fun e => ht (Or.inr (Or.inl e)))
    have m3 := hK s.2.2 i3.1 i3.2 (fun e => ht (Or.inr (Or.inr e)))
    have hst := C.2.2.2.2.1 s hs
    have := stb_cg (r' := q) ⟨m1.1.symm, m1.2.symm⟩ ⟨m2.1.symm, m2.2.symm⟩ ⟨m3.1.symm, m3.2.symm⟩ hst
    rw [ns_id (nsc_stb.mpr this)]
    refine ⟨⟨hK, hw⟩, ?_⟩
    unfold emps emp
    have h1 := hq _ i1.1 i1.2
    have h2 := hq _ i2.1 i2.2
    have h3 := hq _ i3.1 i3.2
    simp only [Bool.or_eq_true, decide_eq_true_eq]
    omega
theorem setR_in {y v : Int} (h3 : f y = v) (h2 : ∀ x, 0 ≤ x → x < n → γ x = G → wi q f x) : ∀ x, 0 ≤ x → x < n → γ x = G → wi (setR q y v) f x := by
  intro x x0 x1 hx
  have := h2 x x0 x1 hx
  unfold wi at this ⊢
  unfold setR
  dsimp only
  by_cases e : x = y
  · rw [if_pos e, if_pos e, e, h3]
    exact ⟨Int.le_refl _, Int.le_refl _⟩
  · rw [if_neg e, if_neg e]
    exact this
theorem setR_K {y v : Int} (hy : γ y = G) (hK : Kq2 n γ r G q) : Kq2 n γ r G (setR q y v) := fun x x0 x1 hx => by
  have hne : ¬ x = y := fun e => hx (by rw [e]; exact hy)
  unfold setR
  dsimp only
  rw [if_neg hne, if_neg hne]
  exact hK x x0 x1 hx
theorem set_none (C : Cxw n k ps r γ) (hG : G ≠ -1) (hS : Sq n ps γ r G q) {y v : Int} (hy : γ y = G) (hv : q.1 y ≤ v ∧ v ≤ q.2 y) (h : nrw n ps (setR q y v) = none) : ¬ (GP n ps γ r G q f ∧ f y = v) := by
  intro ⟨⟨h1, h2⟩, h3⟩
  obtain ⟨r', e, _⟩ := nrw_some (J := fun z => Kq2 n γ r G z ∧ ∀ x, 0 ≤ x → x < n → γ x = G → wi z f x) C.1.1 C.1.2 (fun z s hs hz hj => step_in C hG h1 hs hz hj.1 hj.2) (setR_bd hS.1 hv.1 hv.2).1 ⟨setR_K hy hS.2.2.1, setR_in h3 h2⟩
  rw [e] at h
  cases h
theorem set_some (C : Cxw n k ps r γ) (hG : G ≠ -1) (hS : Sq n ps γ r G q) {y v : Int} (hy0 : 0 ≤ y ∧ y < n) (hy : γ y = G) (hv : q.1 y ≤ v ∧ v ≤ q.2 y) (h : nrw n ps (setR q y v) = some q') : Sq n ps γ r G q' ∧ ∀ f, GP n ps γ r G q' f ↔ (GP n ps γ r G q f ∧ f y = v) := by
  have hsb := setR_bd hS.1 hv.1 hv.2
  have hKs : Kq2 n γ r G (setR q y v) := setR_K hy hS.2.2.1
  have hb := nrw_bd hsb.1 h
  refine ⟨⟨hb.1, (hS.2.1.tr hsb.2).tr hb.2, nrw_ind (J := Kq2 n γ r G) (fun z s hs hz hj he => step_keep C hG hs hz hj he) hsb.1 hKs h, nrw_fix C.1.1 C.1.2 C.2.1 hsb.1 h⟩, fun f => ⟨fun ⟨h1, h2⟩ => ⟨⟨h1, fun x x0 x1 hx => ?_⟩, ?_⟩, fun ⟨⟨h1, h2⟩, h3⟩ => ⟨h1, fun x x0 x1 hx => ?_⟩⟩⟩
  · have a := h2 x x0 x1 hx
    have b := (hsb.2.tr hb.2) x x0 x1
    unfold wi at a ⊢
    omega
  · have a := h2 y hy0.1 hy0.2 hy
    have b := hb.2 y hy0.1 hy0.2
    have e1 : (setR q y v).1 y = v := if_pos rfl
    have e2 : (setR q y v).2 y = v := if_pos rfl
    unfold wi at a
    omega
  · obtain ⟨r', e, hj⟩ := nrw_some (J := fun z => Kq2 n γ r G z ∧ ∀ x, 0 ≤ x → x < n → γ x = G → wi z f x) C.1.1 C.1.2 (fun z s hs hz hj => step_in C hG h1 hs hz hj.1 hj.2) hsb.1 ⟨hKs, setR_in h3 h2⟩
    rw [h] at e
    cases e
    exact hj.2 x x0 x1 hx
theorem leaf_iff (C : Cxw n k ps r γ) (hG : G ≠ -1) (hS : Sq n ps γ r G q) (hno : ∀ x, 0 ≤ x → x < n → ¬ (γ x = G ∧ q.1 x < q.2 x)) : GP n ps γ r G q f ↔ ∀ x, 0 ≤ x → x < n → γ x = G → f x = q.1 x := by
  have heq : ∀ x, 0 ≤ x → x < n → γ x = G → q.1 x = q.2 x := fun x x0 x1 hx => by
    have h1 := hno x x0 x1
    have h2 := hS.1 x x0 x1
    have : ¬ q.1 x < q.2 x := fun z => h1 ⟨hx, z⟩
    omega
  constructor
  · intro ⟨_, h2⟩ x x0 x1 hx
    have := h2 x x0 x1 hx
    have := heq x x0 x1 hx
    unfold wi at *
    omega
  · intro h
    refine ⟨fun s hs ht => ?_, fun x x0 x1 hx => ?_⟩
    · obtain ⟨i1, i2, i3⟩ := C.2.1 s hs
      have mem : ∀ x, (x = s.1 ∨ x = s.2.1 ∨ x = s.2.2) → 0 ≤ x → x < n → fx γ r G f x = q.1 x ∧ q.1 x = q.2 x := by
        intro x hm x0 x1
        unfold fx
        by_cases hx : γ x = G
        · rw [if_pos hx]
          exact ⟨h x x0 x1 hx, heq x x0 x1 hx⟩
        · rw [if_neg hx]
          obtain ⟨k1, k2⟩ := hS.2.2.1 x x0 x1 hx
          have := tch_sure C hG hs ht hm hx
          omega
      obtain ⟨a1, a2⟩ := mem s.1 (Or.inl rfl) i1.1 i1.2
      obtain ⟨b1, b2⟩ := mem s.2.1 (Or.inr (Or.inl rfl)) i2.1 i2.2
      obtain ⟨c1, c2⟩ := mem s.2.2 (Or.inr (Or.inr rfl)) i3.1 i3.2
      have hst := (hS.2.2.2 s hs).1
      rw [a1, b1, c1]
      omega
    · have := h x x0 x1 hx
      have := heq x x0 x1 hx
      unfold wi
      omega
theorem Rz.cg {S S' : (Int → Int) → Prop} {nt nt' : Nt} (h : Rz γ G n k S nt nt') (e : ∀ f, S f ↔ S' f) : Rz γ G n k S' nt nt' := by
  have : S = S' := by
    funext f
    exact propext (e f)
  exact this ▸ h
theorem wghF_rz (C : Cxw n k ps r γ) (hG : G ≠ -1) : ∀ (fu : Nat) (q : AB) (nt : Nt), Sq n ps γ r G q → opnC n γ G q ≤ fu → 0 ≤ nt.2 → Rz γ G n k (GP n ps γ r G q) nt (wghF n ps γ G fu q nt) := by
  have leaf : ∀ (q : AB) (nt : Nt), Sq n ps γ r G q → fopn n γ G q = 12 → Rz γ G n k (GP n ps γ r G q) nt (noteN γ G q nt) := by
    intro q nt hS h12
    refine Rz.leaf C.1.1 (fun x x0 x1 _ => ?_) (fun f => leaf_iff C hG hS (fun x x0 x1 => ?_))
    · have h1 := hS.1 x x0 x1
      have h2 := hS.2.1 x x0 x1
      have h3 := C.2.2.2.1 x x0 x1
      omega
    · rcases fopn_cases (g := γ) (G := G) (r := q) C.1.1 with ⟨_, h⟩ | ⟨_, h, _⟩
      · exact h x x0 x1
      · have := C.1.2
        omega
  intro fu
  induction fu with
  | zero =>
    intro q nt hS ho h0
    rw [wghF]
    exact leaf q nt hS (opnC_0 C.1.1 C.1.2 ho)
  | succ fu ih =>
    intro q nt hS ho h0
    rw [wghF]
    by_cases h12 : fopn n γ G q = 12
    · rw [if_pos h12]
      exact leaf q nt hS h12
    rw [if_neg h12]
    rcases fopn_cases (g := γ) (G := G) (r := q) C.1.1 with ⟨e, _⟩ | ⟨y0, y1, ⟨y2, y3⟩, y4⟩
    · exact absurd e h12
    generalize fopn n γ G q = y at h12 y0 y1 y2 y3 y4 ⊢
    have hfixed : ∀ f h, GP n ps γ r G q f → GP n ps γ r G q h → f y < h y → Lx γ G n f h := by
      intro f h hf hh hlt
      refine ⟨y, y0, y1, y2, hlt, fun j j0 j1 hj => ?_⟩
      have a := hf.2 j j0 (by omega) hj
      have b := hh.2 j j0 (by omega) hj
      have c := y4 j j0 j1
      have : ¬ q.1 j < q.2 j := fun z => c ⟨hj, z⟩
      unfold wi at a b
      omega
    have loop : ∀ (m : Nat) (v : Int) (nt : Nt), q.1 y ≤ v → v + m = q.2 y + 1 → 0 ≤ nt.2 → Rz γ G n k (fun h => GP n ps γ r G q h ∧ v ≤ h y) nt (wloop (wbody n ps (wghF n ps γ G fu) q y) m v nt) := by
      intro m
      induction m with
      | zero =>
        intro v nt hv hm h0
        refine Rz.none (fun f hf => ?_)
        have := hf.1.2 y y0 y1 y2
        have := hf.2
        unfold wi at *
        omega
      | succ m ihm =>
        intro v nt hv hm h0
        rw [wloop]
        have hb : Rz γ G n k (fun h => GP n ps γ r G q h ∧ h y = v) nt (wbody n ps (wghF n ps γ G fu) q y v nt) := by
          unfold wbody
          cases hc : nrw n ps (setR q y v) with
          | none => exact Rz.none (fun f => set_none C hG hS y2 ⟨hv, by omega⟩ hc)
          | some q' =>
            obtain ⟨h1, h2⟩ := set_some C hG hS ⟨y0, y1⟩ y2 ⟨hv, by omega⟩ hc
            refine (ih q' nt h1 ?_ h0).cg h2
            have hb2 := nrw_bd (setR_bd hS.1 hv (by omega)).1 hc
            have := opnC_lt (g := γ) (G := G) ((setR_bd hS.1 hv (by omega)).2.tr hb2.2) ⟨y0, y1⟩ ⟨y2, y3⟩ (by
              have := hb2.2 y y0 y1
              have e1 : (setR q y v).1 y = v := if_pos rfl
              have e2 : (setR q y v).2 y = v := if_pos rfl
              omega)
            omega
        have hnn : 0 ≤ (wbody n ps (wghF n ps γ G fu) q y v nt).2 := by
          have := hb.1
          have := cnt_nn (k := k) (p := fun x => γ x = G) (P := fun h => GP n ps γ r G q h ∧ h y = v) n.toNat (fun _ => 0)
          omega
        have hs0 := GP_sn (G := G) C hS.1 hS.2.1
        have hsn : Sn n k γ G (fun h => GP n ps γ r G q h ∧ h y = v) := ⟨fun f g hfg => and_congr (hs0.1 f g hfg) (by rw [hfg y ⟨y0, y1, y2⟩]), fun f hf => hs0.2 f hf.1⟩
        refine Rz.cons hb (ihm (v + 1) _ (by omega) (by omega) hnn) C.1.1 hsn (fun f => ⟨fun ⟨h1, h2⟩ => ?_, fun h => ?_⟩) (fun f h => ?_) (fun f h hf hh => hfixed f h hf.1 hh.1 ?_) h0
        · by_cases e : f y = v
          · exact Or.inl ⟨h1, e⟩
          · exact Or.inr ⟨h1, by omega⟩
        · rcases h with ⟨h1, h2⟩ | ⟨h1, h2⟩
          · exact ⟨h1, by omega⟩
          · exact ⟨h1, by omega⟩
        · have := h.1.2
          have := h.2.2
          omega
        · have := hf.2
          have := hh.2
          omega
    have hy := hS.1 y y0 y1
    refine (loop _ _ nt (Int.le_refl _) (by omega) h0).cg (fun f => ⟨fun h => h.1, fun h => ⟨h, ?_⟩⟩)
    exact (h.2 y y0 y1 y2).1
end SC
