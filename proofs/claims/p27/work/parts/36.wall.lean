/-! the weighings, whole: what the class finds -/
def WgP (t : Int → Int → Int) (n k : Int) (f : Int → Int) : Prop := (∀ x, 0 ≤ x → x < n → 0 ≤ f x ∧ f x ≤ k) ∧ f 0 = 0 ∧ f 1 = k ∧ ∀ a b, 0 ≤ a → a < n → 0 ≤ b → b < n → t a b ≠ 12 → f a + f b = f (t a b)
noncomputable def wcount (t : Int → Int → Int) (n k : Int) : Int := cnt k (fun _ => True) (WgP t n k) n.toNat (fun _ => 0)
def LmA (t : Int → Int → Int) (n k : Int) (f : Int → Int) : Prop := WgP t n k f ∧ ∀ h, WgP t n k h → (∀ x, 0 ≤ x → x < n → h x = f x) ∨ ∃ y, 0 ≤ y ∧ y < n ∧ f y < h y ∧ ∀ j, 0 ≤ j → j < y → f j = h j
def isFst (t : Int → Int → Int) (n k x v : Int) : Prop := ∃ f, LmA t n k f ∧ v = f x
def isLst (t : Int → Int → Int) (n k x v : Int) : Prop := (∃ f, WgP t n k f ∧ f x = v) ∧ ∀ f, WgP t n k f → v ≤ f x
def isMst (t : Int → Int → Int) (n k x v : Int) : Prop := (∃ f, WgP t n k f ∧ f x = v) ∧ ∀ f, WgP t n k f → f x ≤ v
section WA
variable {t : Int → Int → Int} {n k : Int} {ps : List T3} {r : AB} {γ : Int → Int} {f : Int → Int} {nt nt' : Nt}
theorem min_mul {A B : Int} (hA : 0 ≤ A) (hB : 0 ≤ B) : minI 1000 (minI 1000 A * minI 1000 B) = minI 1000 (A * B) := by
  by_cases a0 : A = 0
  · rw [a0, show minI 1000 0 = 0 by decide, Int.zero_mul, Int.zero_mul]
  by_cases b0 : B = 0
  · rw [b0, show minI 1000 0 = 0 by decide, Int.mul_zero, Int.mul_zero]
  have big : ∀ {x y : Int}, 1000 ≤ x → 1 ≤ y → 1000 ≤ x * y := fun {x y} h1 h2 => by
    have := Int.mul_le_mul h1 h2 (by omega) (by omega)
    omega
  have m1 : ∀ {x : Int}, 1000 ≤ x → minI 1000 x = 1000 := fun {x} h => by
    unfold minI
    rw [if_neg (by omega)]
  have m2 : ∀ {x : Int}, x < 1000 → minI 1000 x = x := fun {x} h => by
    unfold minI
    rw [if_pos h]
  by_cases ha : 1000 ≤ A
  · rw [m1 ha, m1 (big ha (by omega))]
    refine m1 (big (Int.le_refl _) ?_)
    unfold minI
    split <;> omega
  · by_cases hb : 1000 ≤ B
    · rw [m1 hb, m1 (show 1000 ≤ A * B by rw [Int.mul_comm]; exact big hb (by omega))]
      refine m1 ?_
      rw [Int.mul_comm]
      refine big (Int.le_refl _) ?_
      unfold minI
      split <;> omega
    · rw [m2 (show A < 1000 by omega), m2 (show B < 1000 by omega)]
theorem min_nn {A : Int} (hA : 0 ≤ A) : 0 ≤ minI 1000 A := by
  unfold minI
  split <;> omega
theorem wg_pairs (hps : ∀ s, s ∈ ps ↔ PrsP t n s) (hw : twf t n) (h0 : f 0 = 0) (h : ∀ s, s ∈ ps → f s.1 + f s.2.1 = f s.2.2) : ∀ a b, 0 ≤ a → a < n → 0 ≤ b → b < n → t a b ≠ 12 → f a + f b = f (t a b) := by
  have key : ∀ a b, 1 ≤ a → a ≤ b → b < n → t a b ≠ 12 → f a + f b = f (t a b) := fun a b a0 ab b1 ht => h (a, b, t a b) ((hps _).mpr ⟨a0, ab, b1, rfl, ht⟩)
  intro a b a0 a1 b0 b1 ht
  by_cases ha : a = 0
  · rw [ha, hw.2.2.1 b b0 b1, h0]
    omega
  · by_cases hb : b = 0
    · rw [hb, hw.1, hw.2.2.1 a a0 a1, h0]
      omega
    · by_cases hab : a ≤ b
      · exact key a b (by omega) hab b1 ht
      · rw [hw.1 a b] at ht ⊢
        rw [Int.add_comm]
        exact key b a (by omega) (by omega) a1 ht
theorem wg_r0 (hps : ∀ s, s ∈ ps ↔ PrsP t n s) (hw : twf t n) (hn2 : 2 ≤ n) (hk : 1 ≤ k) : WgP t n k f ↔ (∀ x, 0 ≤ x → x < n → wi (r0 ps k) f x) ∧ ∀ s, s ∈ ps → f s.1 + f s.2.1 = f s.2.2 := by
  constructor
  · intro ⟨h1, h2, h3, h4⟩
    have hsum : ∀ s, s ∈ ps → f s.1 + f s.2.1 = f s.2.2 := fun s hs => by
      obtain ⟨q1, q2, q3, q4, q5⟩ := (hps s).mp hs
      rw [← q4]
      exact h4 _ _ (by omega) (by omega) (by omega) q3 (by rw [q4]; exact q5)
    refine ⟨fun x x0 x1 => ?_, hsum⟩
    have hx := h1 x x0 x1
    unfold wi r0 hi0
    dsimp only
    refine ⟨?_, ?_⟩
    · by_cases e : x = 1
      · rw [if_pos e, e, h3]
        exact Int.le_refl _
      · rw [if_neg e]
        exact hx.1
    · by_cases e : dB (x = 0 ∨ anyT (zerP x) ps ps.length) = true
      · rw [if_pos e]
        rcases dB_iff.mp e with e | ⟨i, s, _, hs, q⟩
        · rw [e, h2]
          exact Int.le_refl _
        · have := hsum s (List.mem_of_getElem? hs)
          rcases q with ⟨q1, q2⟩ | ⟨q1, q2⟩
          · rw [q1] at this
            rw [q2]
            omega
          · rw [q1] at this
            rw [q2]
            omega
      · rw [if_neg e]
        exact hx.2
  · intro ⟨h1, h2⟩
    have lo : ∀ x, 0 ≤ x → x < n → 0 ≤ f x ∧ f x ≤ k := fun x x0 x1 => by
      have := h1 x x0 x1
      unfold wi r0 hi0 at this
      dsimp only at this
      constructor
      · have := this.1
        by_cases e : x = 1
        · rw [if_pos e] at this; omega
        · rw [if_neg e] at this; exact this
      · have := this.2
        split at this <;> omega
    have e0 : f 0 = 0 := by
      have h3 := (h1 0 (by omega) (by omega)).2
      have h4 : (r0 ps k).2 0 = 0 := if_pos (dB_iff.mpr (Or.inl rfl))
      have := lo 0 (by omega) (by omega)
      omega
    have e1 : f 1 = k := by
      have h3 := (h1 1 (by omega) (by omega)).1
      have h4 : (r0 ps k).1 1 = k := by show (if (1 : Int) = 1 then k else 0) = k; rw [if_pos rfl]
      have := lo 1 (by omega) (by omega)
      omega
    exact ⟨lo, e0, e1, wg_pairs hps hw e0 h2⟩
theorem wg_snd (hin : ∀ s, s ∈ ps → psIn n s) (h0n : 0 ≤ n) (hn : n ≤ 12) {q : AB} (hB : Bd n q) (h1 : ∀ x, 0 ≤ x → x < n → wi q f x) (h2 : ∀ s, s ∈ ps → f s.1 + f s.2.1 = f s.2.2) : ∃ r', nrw n ps q = some r' ∧ ∀ x, 0 ≤ x → x < n → wi r' f x := by
  refine nrw_some (J := fun z => ∀ x, 0 ≤ x → x < n → wi z f x) h0n hn (fun z s hs hz hj => ?_) hB h1
  obtain ⟨i1, i2, i3⟩ := hin s hs
  have hns : ∀ x, 0 ≤ x → x < n → wi (ns z s) f x := fun x x0 x1 => ns_in ⟨i1, i2, i3⟩ hz (hj _ i1.1 i1.2) (hj _ i2.1 i2.2) (hj _ i3.1 i3.2) (h2 s hs) (hj x x0 x1)
  refine ⟨hns, ?_⟩
  unfold emps emp
  have h1 := hns _ i1.1 i1.2
  have h2 := hns _ i2.1 i2.2
  have h3 := hns _ i3.1 i3.2
  unfold wi at h1 h2 h3
  simp only [Bool.or_eq_true, decide_eq_true_eq]
  omega
theorem cnt_base {p q : Int → Prop} {P : (Int → Int) → Prop} : ∀ (i : Nat) (g g' : Int → Int), Lk q P → (∀ x : Int, q x → ¬ (0 ≤ x ∧ x < i ∧ p x) → g x = g' x) → cnt k p P i g = cnt k p P i g'
  | 0, g, g', hL, h => by
    have := hL g g' (fun x hx => h x hx (fun z => by omega))
    rw [cnt, cnt]
    by_cases e : P g
    · rw [if_pos (dB_iff.mpr e), if_pos (dB_iff.mpr (this.mp e))]
    · rw [if_neg (fun q => e (dB_iff.mp q)), if_neg (fun q => e (this.mpr (dB_iff.mp q)))]
  | i + 1, g, g', hL, h => by
    by_cases hp : p i
    · rw [cnt_s hp, cnt_s hp]
      refine Sg_cg _ (fun v _ _ => cnt_base i _ _ hL (fun x hx hn => ?_))
      unfold upI
      by_cases e : x = (i : Int)
      · rw [if_pos e, if_pos e]
      · rw [if_neg e, if_neg e]
        exact h x hx (fun z => hn ⟨z.1, by omega, z.2.2⟩)
    · rw [cnt_skip hp, cnt_skip hp]
      refine cnt_base i _ _ hL (fun x hx hn => h x hx (fun z => hn ⟨z.1, ?_, z.2.2⟩))
      by_cases e : x = (i : Int)
      · have := z.2.2
        rw [e] at this
        exact absurd this hp
      · omega
/-- a weighing is one of every group, and sure elsewhere -/
theorem wg_iff (hps : ∀ s, s ∈ ps ↔ PrsP t n s) (hw : twf t n) (hn2 : 2 ≤ n) (hn : n ≤ 12) (hk : 1 ≤ k) (hr0 : Bd n (r0 ps k)) (hr : nrw n ps (r0 ps k) = some r) (C : Cxw n k ps r γ) : WgP t n k f ↔ (∀ x, 0 ≤ x → x < n → γ x = -1 → f x = r.1 x) ∧ ∀ G, 0 ≤ G → G < n → γ G = G → GP n ps γ r G r f := by
  have hb := nrw_bd hr0 hr
  have hGI := C.2.2.2.2.2.1
  have hsure : ∀ x, 0 ≤ x → x < n → γ x = -1 → r.1 x = r.2 x := fun x x0 x1 hx => by
    have h1 := (hGI x x0 x1).1.mp hx
    have h2 := hb.1 x x0 x1
    dsimp only at h1
    omega
  constructor
  · intro h
    obtain ⟨h1, h2⟩ := (wg_r0 hps hw hn2 hk).mp h
    obtain ⟨r', e, h3⟩ := wg_snd C.2.1 C.1.1 hn hr0 h1 h2
    rw [hr] at e
    cases e
    have hs : ∀ x, 0 ≤ x → x < n → γ x = -1 → f x = r.1 x := fun x x0 x1 hx => by
      have := h3 x x0 x1
      have := hsure x x0 x1 hx
      unfold wi at *
      omega
    refine ⟨hs, fun G G0 G1 hG => ⟨fun s hs' ht => ?_, fun x x0 x1 _ => h3 x x0 x1⟩⟩
    obtain ⟨i1, i2, i3⟩ := C.2.1 s hs'
    have mem : ∀ x, (x = s.1 ∨ x = s.2.1 ∨ x = s.2.2) → 0 ≤ x → x < n → fx γ r G f x = f x := fun x hm x0 x1 => by
      unfold fx
      by_cases hx : γ x = G
      · rw [if_pos hx]
      · rw [if_neg hx]
        have := tch_sure C (by omega) hs' ht hm hx
        have := h3 x x0 x1
        unfold wi at this
        omega
    rw [mem _ (Or.inl rfl) i1.1 i1.2, mem _ (Or.inr (Or.inl rfl)) i2.1 i2.2, mem _ (Or.inr (Or.inr rfl)) i3.1 i3.2]
    exact h2 s hs'
  · intro ⟨h1, h2⟩
    have grp : ∀ x, 0 ≤ x → x < n → γ x ≠ -1 → GP n ps γ r (γ x) r f := fun x x0 x1 hx => by
      obtain ⟨a, b, c⟩ := (hGI x x0 x1).2 hx
      exact h2 (γ x) a (by omega) c
    have hwi : ∀ x, 0 ≤ x → x < n → wi r f x := fun x x0 x1 => by
      by_cases hx : γ x = -1
      · have := h1 x x0 x1 hx
        have := hsure x x0 x1 hx
        unfold wi
        omega
      · exact (grp x x0 x1 hx).2 x x0 x1 rfl
    refine (wg_r0 hps hw hn2 hk).mpr ⟨fun x x0 x1 => ?_, fun s hs => ?_⟩
    · have a := hwi x x0 x1
      have b := hb.2 x x0 x1
      unfold wi at a ⊢
      omega
    · obtain ⟨i1, i2, i3⟩ := C.2.1 s hs
      have touch : ∀ G, G ≠ -1 → tch γ G s → GP n ps γ r G r f → f s.1 + f s.2.1 = f s.2.2 := by
        intro G hG ht hgp
        have mem : ∀ x, (x = s.1 ∨ x = s.2.1 ∨ x = s.2.2) → 0 ≤ x → x < n → fx γ r G f x = f x := fun x hm x0 x1 => by
          unfold fx
          by_cases hx : γ x = G
          · rw [if_pos hx]
          · rw [if_neg hx]
            have := tch_sure C hG hs ht hm hx
            have := hwi x x0 x1
            unfold wi at this
            omega
        have := hgp.1 s hs ht
        rw [mem _ (Or.inl rfl) i1.1 i1.2, mem _ (Or.inr (Or.inl rfl)) i2.1 i2.2, mem _ (Or.inr (Or.inr rfl)) i3.1 i3.2] at this
        exact this
      by_cases g1 : γ s.1 = -1
      · by_cases g2 : γ s.2.1 = -1
        · by_cases g3 : γ s.2.2 = -1
          · have a := hsure _ i1.1 i1.2 g1
            have b := hsure _ i2.1 i2.2 g2
            have c := hsure _ i3.1 i3.2 g3
            rw [h1 _ i1.1 i1.2 g1, h1 _ i2.1 i2.2 g2, h1 _ i3.1 i3.2 g3]
            have := (C.2.2.2.2.1 s hs).1
            omega
          · exact touch _ g3 (Or.inr (Or.inr rfl)) (grp _ i3.1 i3.2 g3)
        · exact touch _ g2 (Or.inr (Or.inl rfl)) (grp _ i2.1 i2.2 g2)
      · exact touch _ g1 (Or.inl rfl) (grp _ i1.1 i1.2 g1)
def pI (γ : Int → Int) (i x : Int) : Prop := γ x ≠ -1 ∧ γ x < i
def PI (n : Int) (ps : List T3) (γ : Int → Int) (r : AB) (i : Int) (f : Int → Int) : Prop := ∀ G, 0 ≤ G → G < i → γ G = G → GP n ps γ r G r f
def DnG (n : Int) (ps : List T3) (γ : Int → Int) (r : AB) (nt : Nt) (G : Int) : Prop := (∃ f, Lm γ G n (GP n ps γ r G r) f ∧ ∀ y, 0 ≤ y → y < n → γ y = G → nt.1.1 y = f y) ∧ ∀ x, 0 ≤ x → x < n → γ x = G → ((∃ f, GP n ps γ r G r f ∧ f x = nt.1.2.1 x) ∧ ∀ f, GP n ps γ r G r f → nt.1.2.1 x ≤ f x) ∧ ((∃ f, GP n ps γ r G r f ∧ f x = nt.1.2.2 x) ∧ ∀ f, GP n ps γ r G r f → f x ≤ nt.1.2.2 x)
def InvG (n k : Int) (ps : List T3) (γ : Int → Int) (r : AB) (g0 : Int → Int) (i wy : Int) (nt : Nt) : Prop := wy = minI 1000 (cnt k (pI γ i) (PI n ps γ r i) n.toNat g0) ∧ (0 < wy → (∀ x, 0 ≤ x → x < n → γ x = -1 ∨ i ≤ γ x → nt.1.1 x = (nt0 γ r k).1 x ∧ nt.1.2.1 x = (nt0 γ r k).2.1 x ∧ nt.1.2.2 x = (nt0 γ r k).2.2 x) ∧ ∀ G, 0 ≤ G → G < i → γ G = G → DnG n ps γ r nt G)
theorem PI_lk (C : Cxw n k ps r γ) (hB : Bd n r) (i : Int) : Lk (pI γ i) (PI n ps γ r i) := by
  have key : ∀ f g : Int → Int, (∀ x, pI γ i x → f x = g x) → PI n ps γ r i f → PI n ps γ r i g := fun f g h hf G G0 G1 hG =>
    ((GP_sn (G := G) C hB shr.rf).1 f g (fun x hx => h x ⟨by rw [hx.2.2]; omega, by rw [hx.2.2]; exact G1⟩)).mp (hf G G0 G1 hG)
  exact fun f g h => ⟨key f g h, key g f (fun x hx => (h x hx).symm)⟩
theorem gloop_ok (C : Cxw n k ps r γ) (hk : 0 ≤ k) (hop : ∀ G, opnC n γ G r ≤ 10) (g0 : Int → Int) : ∀ (m : Nat) (i wy : Int) (nt : Nt), 0 ≤ i → i + m = n → 0 ≤ wy → InvG n k ps γ r g0 i wy nt → InvG n k ps γ r g0 n (gloop n ps γ r m i wy nt).1 (gloop n ps γ r m i wy nt).2
  | 0, i, wy, nt, i0, hi, hw, h => by
    rw [gloop]
    have : i = n := by omega
    exact this ▸ h
  | m + 1, i, wy, nt, i0, hi, hw, h => by
    have hGI := C.2.2.2.2.2.1
    have hB := C.2.2.1
    obtain ⟨e1, e2⟩ := h
    have hcn := cnt_nn (k := k) (p := pI γ i) (P := PI n ps γ r i) n.toNat g0
    rw [gloop]
    by_cases hw0 : wy ≤ 0
    · rw [if_pos hw0]
      have hc0 : cnt k (pI γ i) (PI n ps γ r i) n.toNat g0 = 0 := by
        unfold minI at e1
        split at e1 <;> omega
      have hcn2 := cnt_nn (k := k) (p := pI γ n) (P := PI n ps γ r n) n.toNat g0
      have hcz : cnt k (pI γ n) (PI n ps γ r n) n.toNat g0 = 0 := by
        refine Classical.byContradiction fun hne => ?_
        obtain ⟨f, hf1, hf2⟩ := cnt_ex.mp (show 1 ≤ cnt k (pI γ n) (PI n ps γ r n) n.toNat g0 by omega)
        have : 1 ≤ cnt k (pI γ i) (PI n ps γ r i) n.toNat g0 := by
          refine cnt_ex.mpr ⟨fun x => if dB (0 ≤ x ∧ x < n.toNat ∧ pI γ i x) = true then f x else g0 x, fun x => ⟨fun q => ?_, fun q => ?_⟩, ?_⟩
          · dsimp only
            rw [if_pos (dB_iff.mpr q)]
            exact (hf1 x).1 ⟨q.1, q.2.1, q.2.2.1, by have := q.2.2.2; omega⟩
          · exact if_neg (fun z => q (dB_iff.mp z))
          · intro G G0 G1 hG
            refine ((GP_sn (G := G) C hB shr.rf).1 f _ (fun x hx => ?_)).mp (hf2 G G0 (by omega) hG)
            exact (if_pos (dB_iff.mpr ⟨hx.1, by omega, by rw [hx.2.2]; omega, by rw [hx.2.2]; exact G1⟩)).symm
        omega
      refine ⟨?_, fun hpos => absurd hpos (by omega)⟩
      rw [hcz]
      show wy = minI 1000 0
      rw [show minI 1000 0 = 0 by decide]
      omega
    · rw [if_neg hw0]
      by_cases hg : γ i ≠ i
      · rw [if_pos hg]
        refine gloop_ok C hk hop g0 m (i + 1) wy nt (by omega) (by omega) hw ⟨?_, fun hpos => ?_⟩
        · rw [e1, cnt_mask (q := pI γ (i + 1)) n.toNat g0 (fun x x0 x1 => ?_), cnt_cg (Q := PI n ps γ r (i + 1)) n.toNat g0 (fun f _ => ?_)]
          · constructor
            · intro h G G0 G1 hG
              by_cases e : G = i
              · rw [e] at hG; exact absurd hG hg
              · exact h G G0 (by omega) hG
            · intro h G G0 G1 hG
              exact h G G0 (by omega) hG
          · unfold pI
            constructor
            · intro ⟨q1, q2⟩; exact ⟨q1, by omega⟩
            · intro ⟨q1, q2⟩
              refine ⟨q1, ?_⟩
              by_cases e : γ x = i
              · have := ((hGI x x0 (by omega)).2 q1).2.2
                rw [e] at this
                exact absurd this hg
              · omega
        · obtain ⟨u1, u2⟩ := e2 hpos
          refine ⟨fun x x0 x1 hx => u1 x x0 x1 (by omega), fun G G0 G1 hG => ?_⟩
          by_cases e : G = i
          · rw [e] at hG; exact absurd hG hg
          · exact u2 G G0 (by omega) hG
      · rw [if_neg hg]
        have hg' := Decidable.not_not.mp hg
        have hGn : i ≠ -1 := by omega
        have hSq : Sq n ps γ r i r := ⟨hB, shr.rf, fun _ _ _ _ => ⟨rfl, rfl⟩, C.2.2.2.2.1⟩
        have hRz := wghF_rz (k := k) C hGn 10 r (nt.1, 0) hSq (by have := hop i; omega) (Int.le_refl _)
        generalize wghF n ps γ i 10 r (nt.1, 0) = ntF at hRz ⊢
        obtain ⟨a1, a2, a3, a4, a5⟩ := hRz
        have hsn := GP_sn (G := i) C hB shr.rf
        have hc2 := cnt_nn (k := k) (p := fun x => γ x = i) (P := GP n ps γ r i r) n.toNat (fun _ => 0)
        have hprod : cnt k (pI γ (i + 1)) (PI n ps γ r (i + 1)) n.toNat g0 = cnt k (pI γ i) (PI n ps γ r i) n.toNat g0 * ntF.2 := by
          have hlk : Lk (fun x => γ x = i) (GP n ps γ r i r) := fun f g h => hsn.1 f g (fun x hx => h x hx.2.2)
          have hbase := cnt_base (k := k) (p := fun x => γ x = i) n.toNat (fun _ => 0) g0 hsn.1 (fun x hx hne => absurd ⟨hx.1, by omega, hx.2.2⟩ hne)
          rw [a1, show (nt.1, (0 : Int)).2 = 0 from rfl, Int.zero_add, hbase, ← cnt_prod (p := pI γ i) (q := fun x => γ x = i) (fun x hx => by have h1 := hx.1.2; have h2 := hx.2; omega) (PI_lk C hB i) hlk n.toNat g0]
          rw [cnt_mask (q := fun x => pI γ i x ∨ γ x = i) n.toNat g0 (fun x x0 x1 => ?_)]
          · refine cnt_cg n.toNat g0 (fun f _ => ⟨fun h => ⟨fun G G0 G1 hG => h G G0 (by omega) hG, h i (by omega) (by omega) hg'⟩, fun h G G0 G1 hG => ?_⟩)
            by_cases e : G = i
            · rw [e]; exact h.2
            · exact h.1 G G0 (by omega) hG
          · unfold pI
            constructor
            · intro ⟨q1, q2⟩
              by_cases e : γ x = i
              · exact Or.inr e
              · exact Or.inl ⟨q1, by omega⟩
            · rintro (⟨q1, q2⟩ | q)
              · exact ⟨q1, by omega⟩
              · exact ⟨by omega, by omega⟩
        have hF0 : 0 ≤ ntF.2 := by
          rw [a1]
          show 0 ≤ 0 + _
          omega
        have hmn : 0 ≤ minI 1000 ntF.2 ∧ minI 1000 ntF.2 ≤ 1000 ∧ (0 < minI 1000 ntF.2 → 0 < ntF.2) := by
          unfold minI
          split <;> omega
        have hpr : 0 ≤ wy * minI 1000 ntF.2 := Int.mul_nonneg hw hmn.1
        refine gloop_ok C hk hop g0 m (i + 1) _ ntF (by omega) (by omega) (min_nn hpr) ⟨?_, fun hpos => ?_⟩
        · rw [hprod, e1, min_mul hcn hF0]
        · have hF : 0 < ntF.2 := by
            refine hmn.2.2 ?_
            refine Classical.byContradiction fun hne => ?_
            have h0 : minI 1000 ntF.2 = 0 := by omega
            rw [h0, Int.mul_zero] at hpos
            exact absurd hpos (by decide)
          obtain ⟨u1, u2⟩ := e2 (by omega)
          have hex : ∃ f, GP n ps γ r i r f := by
            refine (hsn.ex C.1.1).mp ?_
            rw [a1] at hF
            have : (nt.1, (0 : Int)).2 = 0 := rfl
            omega
          refine ⟨fun x x0 x1 hx => ?_, fun G G0 G1 hG => ?_⟩
          · obtain ⟨v1, v2, v3⟩ := a2 x (by omega)
            obtain ⟨w1, w2, w3⟩ := u1 x x0 x1 (by omega)
            exact ⟨v1.trans w1, v2.trans w2, v3.trans w3⟩
          · by_cases e : G = i
            · subst e
              refine ⟨a4 rfl hex, fun x x0 x1 hx => ?_⟩
              obtain ⟨⟨b1, b2, b3⟩, b4, b5, b6⟩ := a5 x x0 x1 hx
              obtain ⟨w1, w2, w3⟩ := u1 x x0 x1 (by omega)
              have hm : γ x ≠ -1 := by omega
              have n2 : (nt0 γ r k).2.1 x = k := if_neg hm
              have n3 : (nt0 γ r k).2.2 x = 0 := if_neg hm
              obtain ⟨f, hf⟩ := hex
              have hrng := hsn.2 f hf x x0 x1 hx
              refine ⟨⟨?_, b2⟩, ?_, b5⟩
              · rcases b3 with q | ⟨h, q1, q2⟩
                · have := b2 f hf
                  have : ntF.1.2.1 x = k := q.trans (w2.trans n2)
                  exact ⟨f, hf, by omega⟩
                · exact ⟨h, q1, q2.symm⟩
              · rcases b6 with q | ⟨h, q1, q2⟩
                · have := b5 f hf
                  have : ntF.1.2.2 x = 0 := q.trans (w3.trans n3)
                  exact ⟨f, hf, by omega⟩
                · exact ⟨h, q1, q2.symm⟩
            · obtain ⟨⟨f, hf1, hf2⟩, hd⟩ := u2 G G0 (by omega) hG
              have hne : ∀ x, γ x = G → γ x ≠ i := fun x hx => by omega
              refine ⟨⟨f, hf1, fun y y0 y1 hy => by rw [(a2 y (hne y hy)).1]; exact hf2 y y0 y1 hy⟩, fun x x0 x1 hx => ?_⟩
              obtain ⟨v1, v2, v3⟩ := a2 x (hne x hx)
              rw [v2, v3]
              exact hd x x0 x1 hx
/-- what find leaves, in the document's words -/
theorem wf_spec {w : MW} (hW : WfS w t n k) (hw : twf t n) (hn2 : 2 ≤ n) (hn : n ≤ 12) (hk : 1 ≤ k ∧ k ≤ 6) : gi w 27 0 = minI 1000 (wcount t n k) ∧ (1 ≤ wcount t n k → ∀ x, 0 ≤ x → x < n → isFst t n k x (gi w 28 x.toNat) ∧ isLst t n k x (gi w 29 x.toNat) ∧ isMst t n k x (gi w 30 x.toNat)) := by
  obtain ⟨ps, hps, hcase⟩ := hW
  have hin : ∀ s, s ∈ ps → psIn n s := fun s hs => by
    have q := (hps s).mp hs
    have h3 := (hw.2.1 s.1 s.2.1).resolve_left (by rw [q.2.2.2.1]; exact q.2.2.2.2)
    rw [q.2.2.2.1] at h3
    unfold PrsP at q
    exact ⟨by omega, by omega, h3⟩
  have hr0 : ∀ x, 0 ≤ x → x < n → 0 ≤ (r0 ps k).1 x ∧ (r0 ps k).2 x ≤ k := fun x _ _ => by
    unfold r0 hi0
    dsimp only
    (repeat' split) <;> omega
  rcases hcase with ⟨hnone, h0⟩ | ⟨r, hsome, h0, hx⟩
  · have hno : ∀ f, ¬ WgP t n k f := fun f hf => by
      obtain ⟨h1, h2⟩ := (wg_r0 hps hw hn2 hk.1).mp hf
      have hB : Bd n (r0 ps k) := fun x x0 x1 => by
        have := h1 x x0 x1
        have := hr0 x x0 x1
        unfold wi at *
        omega
      obtain ⟨r', e, _⟩ := wg_snd hin (by omega) hn hB h1 h2
      rw [hnone] at e
      cases e
    have hc : wcount t n k = 0 := cnt_none n.toNat _ (fun f _ => hno f)
    rw [hc, h0]
    exact ⟨by decide, fun q => by omega⟩
  · have hbd := nrw_bd2 (fun x x0 x1 => by have := hr0 x x0 x1; omega) (by omega) hn hsome
    obtain ⟨hB0, hB, hsh⟩ := hbd
    have hgi := grps_inv (n := n) (r := r) hin
    generalize grps ps r = γ at hgi h0 hx
    have C : Cxw n k ps r γ := ⟨⟨by omega, hn⟩, hin, hB, fun x x0 x1 => by have := hsh x x0 x1; have := hr0 x x0 x1; omega, nrw_fix (by omega) hn hin hB0 hsome, hgi.1, hgi.2⟩
    have hGI := hgi.1
    have hop : ∀ G, opnC n γ G r ≤ 10 := fun G => by
      unfold opnC
      have := Sg_n2 (f := fun x => bI (γ x = G ∧ r.1 x < r.2 x)) (fun x => bI_rng.2) ?_ ?_ (n.toNat - 2)
      · rw [show n.toNat - 2 + 2 = n.toNat by omega] at this
        omega
      · have h1 := hsh 0 (by omega) (by omega)
        have h2 := hB 0 (by omega) (by omega)
        have h3 : (r0 ps k).2 0 = 0 := if_pos (dB_iff.mpr (Or.inl rfl))
        rw [show bI (γ 0 = G ∧ r.1 0 < r.2 0) = 0 from if_neg (fun q => by have := q.2; omega)]
        exact Int.le_refl _
      · have h1 := hsh 1 (by omega) (by omega)
        have h2 := hB 1 (by omega) (by omega)
        have h3 : (r0 ps k).1 1 = k := by show (if (1 : Int) = 1 then k else 0) = k; rw [if_pos rfl]
        have h4 := hr0 1 (by omega) (by omega)
        rw [show bI (γ 1 = G ∧ r.1 1 < r.2 1) = 0 from if_neg (fun q => by have := q.2; omega)]
        exact Int.le_refl _
    have hiff := fun f => wg_iff (f := f) hps hw hn2 hn hk.1 hB0 hsome C
    have g0 : ∃ g : Int → Int, wcount t n k = cnt k (pI γ n) (PI n ps γ r n) n.toNat g := by
      refine ⟨fun x => if dB (0 ≤ x ∧ x < n.toNat ∧ ¬ (γ x ≠ -1)) = true then r.1 x else 0, ?_⟩
      unfold wcount
      rw [cnt_fix (p := fun x => γ x ≠ -1) (c := r.1) n.toNat (fun _ => 0) (fun x x0 x1 hx => ?_) (fun f x hf x0 x1 hx => ?_)]
      · rw [cnt_mask (q := pI γ n) n.toNat _ (fun x x0 x1 => ?_)]
        · refine cnt_cg n.toNat _ (fun f hf => ?_)
          rw [hiff f]
          refine ⟨fun h => h.2, fun h => ⟨fun x x0 x1 hx => ?_, h⟩⟩
          have := (hf x).2 (fun z => z.2.2.1 hx)
          rw [this]
          exact if_pos (dB_iff.mpr ⟨x0, by omega, fun z => z hx⟩)
        · unfold pI
          refine ⟨fun h => ⟨h, ?_⟩, fun h => h.1⟩
          have := ((hGI x x0 (by omega)).2 h).2.1
          omega
      · have h1 := hB x x0 (by omega)
        have h2 := C.2.2.2.1 x x0 (by omega)
        omega
      · exact ((hiff f).mp hf).1 x x0 (by omega) (Decidable.not_not.mp hx)
    obtain ⟨g, hg⟩ := g0
    have hinit : InvG n k ps γ r g 0 1 (nt0 γ r k, 0) := by
      refine ⟨?_, fun _ => ⟨fun x _ _ _ => ⟨rfl, rfl, rfl⟩, fun G G0 G1 => by omega⟩⟩
      rw [cnt_one (c := fun _ => 0) n.toNat g (fun _ _ _ _ => ⟨Int.le_refl _, by omega⟩) (fun f _ => ⟨fun _ x x0 x1 hp => ?_, fun _ G G0 G1 => by omega⟩)]
      · decide
      · obtain ⟨q1, q2⟩ := hp
        have := ((hGI x x0 (by omega)).2 q1).1
        omega
    obtain ⟨z1, z2⟩ := gloop_ok C (by omega) hop g n.toNat 0 1 (nt0 γ r k, 0) (Int.le_refl _) (by omega) (by omega) hinit
    generalize gloop n ps γ r n.toNat 0 1 (nt0 γ r k, 0) = res at z1 z2 h0 hx
    rw [← hg] at z1
    refine ⟨h0.trans z1, fun hc => ?_⟩
    have hpos : 0 < res.1 := by
      rw [z1]
      unfold minI
      split <;> omega
    obtain ⟨y1, y2⟩ := z2 hpos
    have hsn : ∀ G, Sn n k γ G (GP n ps γ r G r) := fun G => GP_sn C hB shr.rf
    have hgrp : ∀ x, 0 ≤ x → x < n → γ x ≠ -1 → DnG n ps γ r res.2 (γ x) := fun x x0 x1 hm => by
      obtain ⟨a, b, c⟩ := (hGI x x0 x1).2 hm
      exact y2 (γ x) a (by omega) c
    have hsure1 : ∀ x, 0 ≤ x → x < n → γ x = -1 → res.2.1.1 x = r.1 x ∧ res.2.1.2.1 x = r.1 x ∧ res.2.1.2.2 x = r.1 x := fun x x0 x1 hm => by
      obtain ⟨a, b, c⟩ := y1 x x0 x1 (Or.inl hm)
      refine ⟨a, b.trans (if_pos hm), c.trans (if_pos hm)⟩
    have hF : WgP t n k res.2.1.1 := by
      refine (hiff _).mpr ⟨fun x x0 x1 hm => (hsure1 x x0 x1 hm).1, fun G G0 G1 hG => ?_⟩
      obtain ⟨⟨f, hf1, hf2⟩, _⟩ := y2 G G0 G1 hG
      exact ((hsn G).1 f _ (fun x hx => (hf2 x hx.1 hx.2.1 hx.2.2).symm)).mp hf1.1
    have hput : ∀ G, 0 ≤ G → G < n → γ G = G → ∀ f, GP n ps γ r G r f → WgP t n k (fun x => if γ x = G then f x else res.2.1.1 x) := by
      intro G G0 G1 hG f hf
      obtain ⟨q1, q2⟩ := (hiff _).mp hF
      refine (hiff _).mpr ⟨fun x x0 x1 hm => ?_, fun G' G0' G1' hG' => ?_⟩
      · rw [if_neg (by omega)]
        exact q1 x x0 x1 hm
      · by_cases e : G' = G
        · rw [e]
          refine ((hsn G).1 f _ (fun x hx => ?_)).mp hf
          rw [if_pos hx.2.2]
        · refine ((hsn G').1 _ _ (fun x hx => ?_)).mp (q2 G' G0' G1' hG')
          rw [if_neg (by have := hx.2.2; omega)]
    intro x x0 x1
    obtain ⟨v1, v2, v3⟩ := hx x x0 x1
    rw [v1, v2, v3]
    refine ⟨⟨res.2.1.1, ⟨hF, fun h hh => ?_⟩, rfl⟩, ?_, ?_⟩
    · rcases lsA_cases (p := fun y => decide (h y ≠ res.2.1.1 y)) (n := n) (by omega) with ⟨_, q⟩ | ⟨q1, q2, q3, q4⟩
      · refine Or.inl (fun y y0 y1 => ?_)
        have := of_decide_eq_false (q y y0 y1)
        exact Decidable.not_not.mp this
      · refine Or.inr ?_
        generalize lsA (fun y => decide (h y ≠ res.2.1.1 y)) n = y at q1 q2 q3 q4
        have hne := of_decide_eq_true q3
        have heq : ∀ j, 0 ≤ j → j < y → h j = res.2.1.1 j := fun j j0 j1 => Decidable.not_not.mp (of_decide_eq_false (q4 j j0 j1))
        obtain ⟨p1, p2⟩ := (hiff h).mp hh
        by_cases hm : γ y = -1
        · rw [p1 y q1 q2 hm, (hsure1 y q1 q2 hm).1] at hne
          exact absurd rfl hne
        · obtain ⟨a, b, c⟩ := (hGI y q1 q2).2 hm
          obtain ⟨⟨f, hf1, hf2⟩, _⟩ := hgrp y q1 q2 hm
          rcases hf1.2 h (p2 _ a (by omega) c) with d | ⟨u, u0, u1, u2, u3, u4⟩
          · have := d y q1 q2 rfl
            rw [this, hf2 y q1 q2 rfl] at hne
            exact absurd rfl hne
          · by_cases e1 : u < y
            · have h1 := heq u u0 e1
              have h2 := hf2 u u0 u1 u2
              omega
            · by_cases e2 : y < u
              · have h1 := u4 y q1 e2 rfl
                have h2 := hf2 y q1 q2 rfl
                omega
              · have e3 : u = y := by omega
                rw [e3] at u3
                have h2 := hf2 y q1 q2 rfl
                exact ⟨y, q1, q2, by omega, fun j j0 j1 => (heq j j0 j1).symm⟩
    · by_cases hm : γ x = -1
      · have h1 := hsure1 x x0 x1 hm
        refine ⟨⟨res.2.1.1, hF, by rw [h1.1, h1.2.1]⟩, fun f hf => ?_⟩
        rw [h1.2.1, ((hiff f).mp hf).1 x x0 x1 hm]
        exact Int.le_refl _
      · obtain ⟨a, b, c⟩ := (hGI x x0 x1).2 hm
        obtain ⟨⟨⟨f, hf1, hf2⟩, d2⟩, _⟩ := (hgrp x x0 x1 hm).2 x x0 x1 rfl
        refine ⟨⟨_, hput _ a (by omega) c f hf1, ?_⟩, fun h hh => d2 h (((hiff h).mp hh).2 _ a (by omega) c)⟩
        rw [if_pos rfl]
        exact hf2
    · by_cases hm : γ x = -1
      · have h1 := hsure1 x x0 x1 hm
        refine ⟨⟨res.2.1.1, hF, by rw [h1.1, h1.2.2]⟩, fun f hf => ?_⟩
        rw [h1.2.2, ((hiff f).mp hf).1 x x0 x1 hm]
        exact Int.le_refl _
      · obtain ⟨a, b, c⟩ := (hGI x x0 x1).2 hm
        obtain ⟨_, ⟨f, hf1, hf2⟩, d2⟩ := (hgrp x x0 x1 hm).2 x x0 x1 rfl
        refine ⟨⟨_, hput _ a (by omega) c f hf1, ?_⟩, fun h hh => d2 h (((hiff h).mp hh).2 _ a (by omega) c)⟩
        rw [if_pos rfl]
        exact hf2
end WA
