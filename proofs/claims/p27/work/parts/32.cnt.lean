/-! counting the ways to give some things values -/
def upI (g : Int → Int) (i v : Int) : Int → Int := fun x => if x = i then v else g x
noncomputable def cnt (k : Int) (p : Int → Prop) (P : (Int → Int) → Prop) : Nat → (Int → Int) → Int
  | 0, g => if dB (P g) = true then 1 else 0
  | i + 1, g => if dB (p i) = true then Sg (fun v => cnt k p P i (upI g i v)) 0 (k + 1).toNat else cnt k p P i g
def Rc (k : Int) (p : Int → Prop) (i : Nat) (g f : Int → Int) : Prop := ∀ x : Int, ((0 ≤ x ∧ x < i ∧ p x) → 0 ≤ f x ∧ f x ≤ k) ∧ (¬ (0 ≤ x ∧ x < i ∧ p x) → f x = g x)
section CN
variable {k : Int} {p : Int → Prop} {P Q P1 P2 : (Int → Int) → Prop} {g f : Int → Int}
theorem Sg_cg {a b : Int → Int} {lo : Int} : ∀ (m : Nat), (∀ x, lo ≤ x → x < lo + m → a x = b x) → Sg a lo m = Sg b lo m
  | 0, _ => rfl
  | m + 1, h => by
    rw [Sg, Sg, Sg_cg m (fun x q1 q2 => h x q1 (by omega)), h (lo + m) (by omega) (by omega)]
theorem Sg_add {a b : Int → Int} {lo : Int} : ∀ (m : Nat), Sg (fun x => a x + b x) lo m = Sg a lo m + Sg b lo m
  | 0 => rfl
  | m + 1 => by
    rw [Sg, Sg, Sg, Sg_add m]
    omega
theorem Sg_mul {a : Int → Int} {lo c : Int} : ∀ (m : Nat), Sg (fun x => a x * c) lo m = Sg a lo m * c
  | 0 => by rw [Sg, Sg, Int.zero_mul]
  | m + 1 => by rw [Sg, Sg, Sg_mul m, Int.add_mul]
theorem Sg_mul' {a : Int → Int} {lo c : Int} : ∀ (m : Nat), Sg (fun x => c * a x) lo m = c * Sg a lo m
  | 0 => by rw [Sg, Sg, Int.mul_zero]
  | m + 1 => by rw [Sg, Sg, Sg_mul' m, Int.mul_add]
/-- a sum with one term -/
theorem Sg_at {a : Int → Int} {lo c : Int} : ∀ (m : Nat), lo ≤ c → c < lo + m → (∀ x, lo ≤ x → x < lo + m → x ≠ c → a x = 0) → Sg a lo m = a c
  | 0, h1, h2, _ => by omega
  | m + 1, h1, h2, h => by
    rw [Sg]
    by_cases e : c = lo + m
    · have : Sg a lo m = Sg (fun _ => 0) lo m := Sg_cg m (fun x q1 q2 => h x q1 (by omega) (by omega))
      have z := Sg_bd (f := fun _ => (0 : Int)) (lo := lo) (c := 0) (fun _ => ⟨Int.le_refl _, Int.le_refl _⟩) m
      rw [← e, this]
      omega
    · rw [Sg_at m h1 (by omega) (fun x q1 q2 q3 => h x q1 (by omega) q3), h (lo + m) (by omega) (by omega) (fun q => e q.symm)]
      omega
theorem Rc.up {i : Nat} {v : Int} (h : Rc k p i (upI g i v) f) (hp : p i) (hv : 0 ≤ v ∧ v ≤ k) : Rc k p (i + 1) g f := by
  intro x
  have hx := h x
  by_cases e : x = (i : Int)
  · refine ⟨fun _ => ?_, fun q => absurd ⟨by omega, by omega, by rw [e]; exact hp⟩ q⟩
    have := hx.2 (fun q => by omega)
    rw [this]
    unfold upI
    rw [if_pos e]
    exact hv
  · refine ⟨fun q => hx.1 ⟨q.1, by omega, q.2.2⟩, fun q => ?_⟩
    have := hx.2 (fun q' => q ⟨q'.1, by omega, q'.2.2⟩)
    rw [this]
    unfold upI
    rw [if_neg e]
theorem Rc.dn {i : Nat} (h : Rc k p (i + 1) g f) (hp : p i) : Rc k p i (upI g i (f i)) f ∧ 0 ≤ f i ∧ f i ≤ k := by
  refine ⟨fun x => ?_, (h i).1 ⟨by omega, by omega, hp⟩⟩
  by_cases e : x = (i : Int)
  · exact ⟨fun q => by omega, fun _ => by unfold upI; rw [if_pos e, e]⟩
  · refine ⟨fun q => (h x).1 ⟨q.1, by omega, q.2.2⟩, fun q => ?_⟩
    rw [(h x).2 (fun q' => q ⟨q'.1, by omega, q'.2.2⟩)]
    unfold upI
    rw [if_neg e]
theorem Rc.skip {i : Nat} (hp : ¬ p i) : Rc k p (i + 1) g f ↔ Rc k p i g f := by
  have e : ∀ x : Int, (0 ≤ x ∧ x < ((i + 1 : Nat) : Int) ∧ p x) ↔ (0 ≤ x ∧ x < (i : Int) ∧ p x) := fun x => by
    constructor
    · intro ⟨q1, q2, q3⟩
      refine ⟨q1, ?_, q3⟩
      by_cases h : x = (i : Int)
      · rw [h] at q3; exact absurd q3 hp
      · omega
    · intro ⟨q1, q2, q3⟩
      exact ⟨q1, by omega, q3⟩
  constructor
  · intro h x
    have := h x
    rw [e x] at this
    exact this
  · intro h x
    have := h x
    rw [← e x] at this
    exact this
theorem Rc.zero : Rc k p 0 g f ↔ f = g := by
  constructor
  · intro h
    funext x
    exact (h x).2 (fun q => by omega)
  · intro h x
    exact ⟨fun q => by omega, fun _ => by rw [h]⟩
theorem cnt_s {i : Nat} (hp : p i) : cnt k p P (i + 1) g = Sg (fun v => cnt k p P i (upI g i v)) 0 (k + 1).toNat := by
  rw [cnt, if_pos (dB_iff.mpr hp)]
theorem cnt_skip {i : Nat} (hp : ¬ p i) : cnt k p P (i + 1) g = cnt k p P i g := by
  rw [cnt, if_neg (fun q => hp (dB_iff.mp q))]
theorem cnt_cg : ∀ (i : Nat) (g : Int → Int), (∀ f, Rc k p i g f → (P f ↔ Q f)) → cnt k p P i g = cnt k p Q i g
  | 0, g, h => by
    have := h g (Rc.zero.mpr rfl)
    rw [cnt, cnt]
    by_cases e : P g
    · rw [if_pos (dB_iff.mpr e), if_pos (dB_iff.mpr (this.mp e))]
    · rw [if_neg (fun q => e (dB_iff.mp q)), if_neg (fun q => e (this.mpr (dB_iff.mp q)))]
  | i + 1, g, h => by
    by_cases hp : p i
    · rw [cnt_s hp, cnt_s hp]
      exact Sg_cg _ (fun v q1 q2 => cnt_cg i _ (fun f hf => h f (hf.up hp ⟨q1, by omega⟩)))
    · rw [cnt_skip hp, cnt_skip hp]
      exact cnt_cg i g (fun f hf => h f ((Rc.skip hp).mpr hf))
theorem cnt_add : ∀ (i : Nat) (g : Int → Int), (∀ f, Rc k p i g f → (P f ↔ (P1 f ∨ P2 f)) ∧ ¬ (P1 f ∧ P2 f)) → cnt k p P i g = cnt k p P1 i g + cnt k p P2 i g
  | 0, g, h => by
    obtain ⟨h1, h2⟩ := h g (Rc.zero.mpr rfl)
    rw [cnt, cnt, cnt]
    by_cases e1 : P1 g
    · rw [if_pos (dB_iff.mpr (h1.mpr (Or.inl e1))), if_pos (dB_iff.mpr e1), if_neg (fun q => h2 ⟨e1, dB_iff.mp q⟩)]
      rfl
    · by_cases e2 : P2 g
      · rw [if_pos (dB_iff.mpr (h1.mpr (Or.inr e2))), if_neg (fun q => e1 (dB_iff.mp q)), if_pos (dB_iff.mpr e2)]
        rfl
      · rw [if_neg (fun q => (h1.mp (dB_iff.mp q)).elim e1 e2), if_neg (fun q => e1 (dB_iff.mp q)), if_neg (fun q => e2 (dB_iff.mp q))]
        rfl
  | i + 1, g, h => by
    by_cases hp : p i
    · rw [cnt_s hp, cnt_s hp, cnt_s hp, ← Sg_add]
      exact Sg_cg _ (fun v q1 q2 => cnt_add i _ (fun f hf => h f (hf.up hp ⟨q1, by omega⟩)))
    · rw [cnt_skip hp, cnt_skip hp, cnt_skip hp]
      exact cnt_add i g (fun f hf => h f ((Rc.skip hp).mpr hf))
theorem cnt_none : ∀ (i : Nat) (g : Int → Int), (∀ f, Rc k p i g f → ¬ P f) → cnt k p P i g = 0
  | 0, g, h => by
    rw [cnt, if_neg (fun q => h g (Rc.zero.mpr rfl) (dB_iff.mp q))]
  | i + 1, g, h => by
    by_cases hp : p i
    · rw [cnt_s hp]
      have : Sg (fun v => cnt k p P i (upI g i v)) 0 (k + 1).toNat = Sg (fun _ => 0) 0 (k + 1).toNat := Sg_cg _ (fun v q1 q2 => cnt_none i _ (fun f hf => h f (hf.up hp ⟨q1, by omega⟩)))
      rw [this]
      have z := Sg_bd (f := fun _ => (0 : Int)) (lo := 0) (c := 0) (fun _ => ⟨Int.le_refl _, Int.le_refl _⟩) (k + 1).toNat
      omega
    · rw [cnt_skip hp]
      exact cnt_none i g (fun f hf => h f ((Rc.skip hp).mpr hf))
theorem Sg_nn {a : Int → Int} {lo : Int} : ∀ (m : Nat), (∀ x, lo ≤ x → x < lo + m → 0 ≤ a x) → 0 ≤ Sg a lo m
  | 0, _ => Int.le_refl _
  | m + 1, h => by
    have := Sg_nn m (fun x q1 q2 => h x q1 (by omega))
    have h2 := h (lo + m) (by omega) (by omega)
    rw [Sg]
    omega
theorem Sg_ge {a : Int → Int} {lo y : Int} : ∀ (m : Nat), (∀ x, lo ≤ x → x < lo + m → 0 ≤ a x) → lo ≤ y → y < lo + m → a y ≤ Sg a lo m
  | 0, _, h1, h2 => by omega
  | m + 1, h, h1, h2 => by
    have h3 := Sg_nn m (fun x q1 q2 => h x q1 (by omega))
    have h4 := h (lo + m) (by omega) (by omega)
    rw [Sg]
    by_cases e : y = lo + m
    · rw [e]; omega
    · have := Sg_ge m (fun x q1 q2 => h x q1 (by omega)) h1 (by omega)
      omega
theorem cnt_nn : ∀ (i : Nat) (g : Int → Int), 0 ≤ cnt k p P i g
  | 0, g => by
    rw [cnt]
    split <;> omega
  | i + 1, g => by
    by_cases hp : p i
    · rw [cnt_s hp]
      exact Sg_nn _ (fun v _ _ => cnt_nn i _)
    · rw [cnt_skip hp]
      exact cnt_nn i g
theorem cnt_pos : ∀ (i : Nat) (g : Int → Int), (∃ f, Rc k p i g f ∧ P f) → 1 ≤ cnt k p P i g
  | 0, g, ⟨f, h1, h2⟩ => by
    rw [Rc.zero] at h1
    rw [h1] at h2
    rw [cnt, if_pos (dB_iff.mpr h2)]
    exact Int.le_refl _
  | i + 1, g, ⟨f, h1, h2⟩ => by
    by_cases hp : p i
    · rw [cnt_s hp]
      obtain ⟨h3, h4, h5⟩ := h1.dn hp
      have := cnt_pos i (upI g i (f i)) ⟨f, h3, h2⟩
      exact Int.le_trans this (Sg_ge (a := fun v => cnt k p P i (upI g i v)) _ (fun v _ _ => cnt_nn i _) h4 (by omega))
    · rw [cnt_skip hp]
      exact cnt_pos i g ⟨f, (Rc.skip hp).mp h1, h2⟩
theorem cnt_ex {i : Nat} {g : Int → Int} : 1 ≤ cnt k p P i g ↔ ∃ f, Rc k p i g f ∧ P f := by
  constructor
  · intro h
    refine Classical.byContradiction fun hc => ?_
    have := cnt_none (k := k) (p := p) (P := P) i g (fun f h1 h2 => hc ⟨f, h1, h2⟩)
    omega
  · exact cnt_pos i g
/-- one way only -/
theorem cnt_one {c : Int → Int} : ∀ (i : Nat) (g : Int → Int), (∀ x : Int, 0 ≤ x → x < i → p x → 0 ≤ c x ∧ c x ≤ k) → (∀ f, Rc k p i g f → (P f ↔ ∀ x : Int, 0 ≤ x → x < i → p x → f x = c x)) → cnt k p P i g = 1
  | 0, g, _, h => by
    rw [cnt, if_pos (dB_iff.mpr ((h g (Rc.zero.mpr rfl)).mpr (fun x q1 q2 => by omega)))]
  | i + 1, g, hc, h => by
    by_cases hp : p i
    · have hci := hc i (by omega) (by omega) hp
      rw [cnt_s hp, Sg_at (c := c i) _ hci.1 (by omega) (fun v q1 q2 q3 => ?_)]
      · refine cnt_one i _ (fun x q1 q2 q3 => hc x q1 (by omega) q3) (fun f hf => ?_)
        rw [h f (hf.up hp hci)]
        constructor
        · intro q x q1 q2 q3
          exact q x q1 (by omega) q3
        · intro q x q1 q2 q3
          by_cases e : x = (i : Int)
          · have := (hf x).2 (fun z => by omega)
            rw [this]
            unfold upI
            rw [if_pos e, e]
          · exact q x q1 (by omega) q3
      · refine cnt_none i _ (fun f hf hP => ?_)
        have h1 := (h f (hf.up hp ⟨q1, by omega⟩)).mp hP i (by omega) (by omega) hp
        have h2 := (hf i).2 (fun z => by omega)
        have h3 : upI g i v i = v := if_pos rfl
        omega
    · rw [cnt_skip hp]
      refine cnt_one i g (fun x q1 q2 q3 => hc x q1 (by omega) q3) (fun f hf => ?_)
      rw [h f ((Rc.skip hp).mpr hf)]
      constructor
      · intro q x q1 q2 q3
        exact q x q1 (by omega) q3
      · intro q x q1 q2 q3
        by_cases e : x = (i : Int)
        · rw [e] at q3; exact absurd q3 hp
        · exact q x q1 (by omega) q3
/-- things whose value is forced -/
theorem cnt_fix {c : Int → Int} : ∀ (i : Nat) (g : Int → Int), (∀ x : Int, 0 ≤ x → x < i → ¬ p x → 0 ≤ c x ∧ c x ≤ k) → (∀ f (x : Int), P f → 0 ≤ x → x < i → ¬ p x → f x = c x) → cnt k (fun _ => True) P i g = cnt k p P i (fun x => if dB (0 ≤ x ∧ x < i ∧ ¬ p x) = true then c x else g x)
  | 0, g, _, _ => by
    have : (fun x => if dB (0 ≤ x ∧ x < ((0 : Nat) : Int) ∧ ¬ p x) = true then c x else g x) = g := by
      funext x
      rw [if_neg (fun q => by have := dB_iff.mp q; omega)]
    rw [this, cnt, cnt]
  | i + 1, g, hc, h => by
    have hmix : ∀ v, (p i ∨ v = c i) → (fun x => if dB (0 ≤ x ∧ x < (i : Int) ∧ ¬ p x) = true then c x else upI g i v x) = upI (fun x => if dB (0 ≤ x ∧ x < ((i + 1 : Nat) : Int) ∧ ¬ p x) = true then c x else g x) i v := by
      intro v hv
      funext x
      unfold upI
      by_cases e : x = (i : Int)
      · rw [if_pos e, if_pos e, if_neg (fun q => by have := (dB_iff.mp q).2.1; omega)]
      · rw [if_neg e, if_neg e]
        have : (0 ≤ x ∧ x < (i : Int) ∧ ¬ p x) ↔ (0 ≤ x ∧ x < ((i + 1 : Nat) : Int) ∧ ¬ p x) := ⟨fun q => ⟨q.1, by omega, q.2.2⟩, fun q => ⟨q.1, by omega, q.2.2⟩⟩
        rw [show dB (0 ≤ x ∧ x < (i : Int) ∧ ¬ p x) = dB (0 ≤ x ∧ x < ((i + 1 : Nat) : Int) ∧ ¬ p x) from by rw [propext this]]
    rw [cnt_s trivial]
    by_cases hp : p i
    · rw [cnt_s hp]
      refine Sg_cg _ (fun v q1 q2 => ?_)
      rw [cnt_fix i (upI g i v) (fun x z1 z2 z3 => hc x z1 (by omega) z3) (fun f x z1 z2 z3 z4 => h f x z1 z2 (by omega) z4), hmix v (Or.inl hp)]
    · rw [cnt_skip hp]
      have hci := hc i (by omega) (by omega) hp
      rw [Sg_at (c := c i) _ hci.1 (by omega) (fun v q1 q2 q3 => ?_)]
      · rw [cnt_fix i (upI g i (c i)) (fun x z1 z2 z3 => hc x z1 (by omega) z3) (fun f x z1 z2 z3 z4 => h f x z1 z2 (by omega) z4), hmix (c i) (Or.inr rfl)]
        congr 1
        funext x
        unfold upI
        by_cases e : x = (i : Int)
        · rw [if_pos e, if_pos (dB_iff.mpr ⟨by omega, by omega, by rw [e]; exact hp⟩), e]
        · rw [if_neg e]
      · refine cnt_none i _ (fun f hf hP => ?_)
        have h1 := h f i hP (by omega) (by omega) hp
        have h2 := (hf i).2 (fun z => by omega)
        have h3 : upI g i v i = v := if_pos rfl
        omega
/-- what does not look at other things can be counted apart -/
def Lk (p : Int → Prop) (P : (Int → Int) → Prop) : Prop := ∀ f g, (∀ x, p x → f x = g x) → (P f ↔ P g)
theorem cnt_lk : ∀ (i : Nat) (g g' : Int → Int), Lk p P → (∀ x, p x → g x = g' x) → cnt k p P i g = cnt k p P i g'
  | 0, g, g', hL, h => by
    have := hL g g' h
    rw [cnt, cnt]
    by_cases e : P g
    · rw [if_pos (dB_iff.mpr e), if_pos (dB_iff.mpr (this.mp e))]
    · rw [if_neg (fun q => e (dB_iff.mp q)), if_neg (fun q => e (this.mpr (dB_iff.mp q)))]
  | i + 1, g, g', hL, h => by
    by_cases hp : p i
    · rw [cnt_s hp, cnt_s hp]
      refine Sg_cg _ (fun v _ _ => cnt_lk i _ _ hL (fun x hx => ?_))
      unfold upI
      split
      · rfl
      · exact h x hx
    · rw [cnt_skip hp, cnt_skip hp]
      exact cnt_lk i g g' hL h
theorem cnt_prod {q : Int → Prop} (hd : ∀ x, ¬ (p x ∧ q x)) (hP : Lk p P) (hQ : Lk q Q) : ∀ (i : Nat) (g : Int → Int), cnt k (fun x => p x ∨ q x) (fun f => P f ∧ Q f) i g = cnt k p P i g * cnt k q Q i g
  | 0, g => by
    rw [cnt, cnt, cnt]
    by_cases e1 : P g
    · by_cases e2 : Q g
      · rw [if_pos (dB_iff.mpr ⟨e1, e2⟩), if_pos (dB_iff.mpr e1), if_pos (dB_iff.mpr e2)]
        rfl
      · rw [if_neg (fun z => e2 (dB_iff.mp z).2), if_neg (fun z => e2 (dB_iff.mp z)), Int.mul_zero]
    · rw [if_neg (fun z => e1 (dB_iff.mp z).1), if_neg (fun z => e1 (dB_iff.mp z)), Int.zero_mul]
  | i + 1, g => by
    by_cases hp : p i
    · have hq : ¬ q i := fun z => hd _ ⟨hp, z⟩
      rw [cnt_s (Or.inl hp), cnt_s hp, cnt_skip hq, ← Sg_mul]
      refine Sg_cg _ (fun v _ _ => ?_)
      rw [cnt_prod hd hP hQ i (upI g i v)]
      congr 1
      refine cnt_lk i _ _ hQ (fun x hx => ?_)
      unfold upI
      rw [if_neg (fun e => hq (by rw [← e]; exact hx))]
    · by_cases hq : q i
      · rw [cnt_s (Or.inr hq), cnt_skip hp, cnt_s hq, ← Sg_mul']
        refine Sg_cg _ (fun v _ _ => ?_)
        rw [cnt_prod hd hP hQ i (upI g i v)]
        congr 1
        refine cnt_lk i _ _ hP (fun x hx => ?_)
        unfold upI
        rw [if_neg (fun e => hp (by rw [← e]; exact hx))]
      · rw [cnt_skip (fun z => z.elim hp hq), cnt_skip hp, cnt_skip hq]
        exact cnt_prod hd hP hQ i g
theorem cnt_mask {q : Int → Prop} : ∀ (i : Nat) (g : Int → Int), (∀ x : Int, 0 ≤ x → x < i → (p x ↔ q x)) → cnt k p P i g = cnt k q P i g
  | 0, g, _ => rfl
  | i + 1, g, h => by
    have hi := h i (by omega) (by omega)
    by_cases hp : p i
    · rw [cnt_s hp, cnt_s (hi.mp hp)]
      exact Sg_cg _ (fun v _ _ => cnt_mask i _ (fun x q1 q2 => h x q1 (by omega)))
    · rw [cnt_skip hp, cnt_skip (fun z => hp (hi.mpr z))]
      exact cnt_mask i g (fun x q1 q2 => h x q1 (by omega))
end CN
