/-! removing, swapping, reading -/
def remF (A : AS) (c : Int) : Int × AS := if ¬ (0 ≤ c ∧ c < A.1.1) then (-1, A) else if c < 2 then (-4, A) else (A.1.1 - 1, push A (A.1.1 - 1, trem A.1.2 A.1.1 c))
def swapF (A : AS) (f s : Int) : Int × AS := if ¬ ((0 ≤ f ∧ f < A.1.1) ∧ (0 ≤ s ∧ s < A.1.1)) then (-1, A) else if f < 2 ∨ s < 2 then (-4, A) else if f = s then (-5, A) else (nmg A.1.2 A.1.1 f s, push A (A.1.1, tswp A.1.2 f s))
section SW
variable {n f s : Int} {t : Int → Int → Int}
theorem Sg_tr {u v : Int → Int} {lo : Int} {k : Nat} (hf : lo ≤ f ∧ f < lo + k) (hs : lo ≤ s ∧ s < lo + k) (hne : f ≠ s) (h1 : u f = v s) (h2 : u s = v f) (h3 : ∀ x, x ≠ f → x ≠ s → u x = v x) : Sg u lo k = Sg v lo k := by
  have e : ∀ x, u x = v x + ((if x = f then v s - v f else 0) + (if x = s then v f - v s else 0)) := fun x => by
    by_cases a : x = f
    · rw [if_pos a, if_neg (fun q => hne (by omega)), a, h1]; omega
    · by_cases b : x = s
      · rw [if_neg a, if_pos b, b, h2]; omega
      · rw [if_neg a, if_neg b, h3 x a b]; omega
  rw [show u = (fun x => v x + ((if x = f then v s - v f else 0) + (if x = s then v f - v s else 0))) from funext e, Sg_add, Sg_add (a := fun x => if x = f then v s - v f else 0) (b := fun x => if x = s then v f - v s else 0)]
  rw [Sg_at (c := f) k hf.1 hf.2 (fun x _ _ q => if_neg q), Sg_at (c := s) k hs.1 hs.2 (fun x _ _ q => if_neg q), if_pos rfl, if_pos rfl]
  omega
theorem Sg_sg {h : Int → Int} {lo : Int} {k : Nat} (hf : lo ≤ f ∧ f < lo + k) (hs : lo ≤ s ∧ s < lo + k) (hne : f ≠ s) : Sg (fun x => h (sg f s x)) lo k = Sg h lo k := by
  refine Sg_tr hf hs hne ?_ ?_ (fun x a b => ?_)
  · show h (sg f s f) = h s
    unfold sg
    rw [if_pos rfl]
  · show h (sg f s s) = h f
    unfold sg
    rw [if_neg (fun q => hne q.symm), if_pos rfl]
  · show h (sg f s x) = h x
    unfold sg
    rw [if_neg a, if_neg b]
theorem Sg_split {h : Int → Int} {lo : Int} (a : Nat) : ∀ b : Nat, Sg h lo (a + b) = Sg h lo a + Sg h (lo + a) b
  | 0 => by rw [Sg]; simp
  | b + 1 => by
    rw [← Nat.add_assoc, Sg, Sg_split a b, Sg, Int.natCast_add, ← Int.add_assoc lo]
    omega
theorem tri_sq {g : Int → Int → Int} (hg : ∀ a b, g a b = g b a) : ∀ (m : Nat), 2 * Sg (fun a => Sg (g a) a (1 + (m : Int) - a).toNat) 1 m = Sg (fun a => Sg (g a) 1 m) 1 m + Sg (fun a => g a a) 1 m
  | 0 => rfl
  | m + 1 => by
    have ih := tri_sq hg m
    have e1 : Sg (fun a => Sg (g a) a (1 + ((m + 1 : Nat) : Int) - a).toNat) 1 m = Sg (fun a => Sg (g a) a (1 + (m : Int) - a).toNat) 1 m + Sg (fun a => g a (1 + (m : Int))) 1 m := by
      rw [← Sg_add]
      refine Sg_cg m (fun a q1 q2 => ?_)
      rw [show (1 + ((m + 1 : Nat) : Int) - a).toNat = (1 + (m : Int) - a).toNat + 1 by omega, Sg, show a + ((1 + (m : Int) - a).toNat : Int) = 1 + (m : Int) by omega]
    have e2 : Sg (fun a => Sg (g a) 1 (m + 1)) 1 m = Sg (fun a => Sg (g a) 1 m) 1 m + Sg (fun a => g a (1 + (m : Int))) 1 m := by
      rw [← Sg_add]
      exact Sg_cg m (fun a _ _ => by rw [Sg])
    have e3 : Sg (g (1 + (m : Int))) 1 m = Sg (fun a => g a (1 + (m : Int))) 1 m := Sg_cg m (fun a _ _ => hg _ _)
    have e4 : Sg (g (1 + (m : Int))) (1 + (m : Int)) (1 + ((m + 1 : Nat) : Int) - (1 + (m : Int))).toNat = g (1 + (m : Int)) (1 + (m : Int)) := by
      rw [show (1 + ((m + 1 : Nat) : Int) - (1 + (m : Int))).toNat = 1 by omega, Sg, Sg]
      simp
    have f1 : Sg (fun a => Sg (g a) a (1 + ((m + 1 : Nat) : Int) - a).toNat) 1 (m + 1) = Sg (fun a => Sg (g a) a (1 + ((m + 1 : Nat) : Int) - a).toNat) 1 m + Sg (g (1 + (m : Int))) (1 + (m : Int)) (1 + ((m + 1 : Nat) : Int) - (1 + (m : Int))).toNat := rfl
    have f2 : Sg (fun a => Sg (g a) 1 (m + 1)) 1 (m + 1) = Sg (fun a => Sg (g a) 1 (m + 1)) 1 m + (Sg (g (1 + (m : Int))) 1 m + g (1 + (m : Int)) (1 + (m : Int))) := rfl
    have f3 : Sg (fun a => g a a) 1 (m + 1) = Sg (fun a => g a a) 1 m + g (1 + (m : Int)) (1 + (m : Int)) := rfl
    rw [f1, f2, f3, e1, e2, e3, e4]
    omega
def nmF (t : Int → Int → Int) (f s a b : Int) : Int := bI (t a b ≠ 12 ∧ ((a = f ∨ a = s) ∨ (b = f ∨ b = s) ∨ (t a b = f ∨ t a b = s)))
theorem nmg_eq : nmg t n f s = sg2 (nmF t f s) n n := rfl
theorem nmF_sym (h : tsym t) (a b : Int) : nmF t f s a b = nmF t f s b a := by
  unfold nmF
  rw [h a b]
  unfold bI
  by_cases c : t b a ≠ 12 ∧ ((a = f ∨ a = s) ∨ (b = f ∨ b = s) ∨ (t b a = f ∨ t b a = s))
  · rw [if_pos c, if_pos ⟨c.1, c.2.elim (fun q => Or.inr (Or.inl q)) (fun q => q.elim Or.inl (fun q => Or.inr (Or.inr q)))⟩]
  · rw [if_neg c, if_neg (fun z => c ⟨z.1, z.2.elim (fun q => Or.inr (Or.inl q)) (fun q => q.elim Or.inl (fun q => Or.inr (Or.inr q)))⟩)]
theorem nmF_swp (hn : n ≤ 12) (hf : 2 ≤ f ∧ f < n) (hs : 2 ≤ s ∧ s < n) (a b : Int) : nmF (tswp t f s) f s a b = nmF t f s (sg f s a) (sg f s b) := by
  have e12 : ∀ v, sg f s v = 12 ↔ v = 12 := fun v => by
    unfold sg
    (repeat' split) <;> omega
  have efs : ∀ v, (sg f s v = f ∨ sg f s v = s) ↔ (v = f ∨ v = s) := fun v => by
    unfold sg
    (repeat' split) <;> omega
  unfold nmF tswp
  have h1 := e12 (t (sg f s a) (sg f s b))
  have h2 := efs (t (sg f s a) (sg f s b))
  have h3 := efs a
  have h4 := efs b
  unfold bI
  by_cases c : sg f s (t (sg f s a) (sg f s b)) ≠ 12 ∧ ((a = f ∨ a = s) ∨ (b = f ∨ b = s) ∨ (sg f s (t (sg f s a) (sg f s b)) = f ∨ sg f s (t (sg f s a) (sg f s b)) = s))
  · rw [if_pos c, if_pos ⟨fun q => c.1 (h1.mpr q), c.2.imp h3.mpr (fun q => q.imp h4.mpr h2.mp)⟩]
  · rw [if_neg c, if_neg (fun q => c ⟨fun z => q.1 (h1.mp z), q.2.imp h3.mp (fun z => z.imp h4.mp h2.mpr)⟩)]
theorem nmg_swp (h : twf t n) (hn : n ≤ 12) (hf : 2 ≤ f ∧ f < n) (hs : 2 ≤ s ∧ s < n) (hne : f ≠ s) : nmg (tswp t f s) n f s = nmg t n f s := by
  have hfun : nmF (tswp t f s) f s = fun a b => nmF t f s (sg f s a) (sg f s b) := by
    funext a b
    exact nmF_swp hn hf hs a b
  have hsym := nmF_sym (f := f) (s := s) h.1
  rw [nmg_eq, nmg_eq, hfun]
  generalize nmF t f s = g at hsym ⊢
  have h1 := tri_sq (g := g) hsym (n - 1).toNat
  have h2 := tri_sq (g := fun a b => g (sg f s a) (sg f s b)) (fun a b => hsym _ _) (n - 1).toNat
  have ef : ∀ a, 1 + ((n - 1).toNat : Int) - a = n - a := fun a => by omega
  simp only [ef] at h1 h2
  have d1 : Sg (fun a => Sg (fun b => g (sg f s a) (sg f s b)) 1 (n - 1).toNat) 1 (n - 1).toNat = Sg (fun a => Sg (g a) 1 (n - 1).toNat) 1 (n - 1).toNat := by
    have : (fun a => Sg (fun b => g (sg f s a) (sg f s b)) 1 (n - 1).toNat) = (fun a => (fun c => Sg (g c) 1 (n - 1).toNat) (sg f s a)) := by
      funext a
      exact Sg_sg (h := g (sg f s a)) (by omega) (by omega) hne
    rw [this]
    exact Sg_sg (h := fun c => Sg (g c) 1 (n - 1).toNat) (by omega) (by omega) hne
  have d2 : Sg (fun a => g (sg f s a) (sg f s a)) 1 (n - 1).toNat = Sg (fun a => g a a) 1 (n - 1).toNat := Sg_sg (h := fun c => g c c) (by omega) (by omega) hne
  rw [d1, d2] at h2
  have h3 : 2 * sg2 (fun a b => g (sg f s a) (sg f s b)) n n = Sg (fun a => Sg (g a) 1 (n - 1).toNat) 1 (n - 1).toNat + Sg (fun a => g a a) 1 (n - 1).toNat := h2
  have h4 : 2 * sg2 g n n = Sg (fun a => Sg (g a) 1 (n - 1).toNat) 1 (n - 1).toNat + Sg (fun a => g a a) 1 (n - 1).toNat := h1
  omega
end SW
