/-! PURE: what a run answers. Ok o P: the run o ends, and P holds of its answer and world -/
def Ok (o : RS) (P : Option MV → MW → Prop) : Prop := ∃ v w, o = some (v, w) ∧ P v w
abbrev OkI (o : RS) (P : Int → MW → Prop) : Prop := Ok o (fun v w => ∃ x, v = some (.inl x) ∧ P x w)
abbrev OkV (o : RS) (P : MW → Prop) : Prop := Ok o (fun v w => v = none ∧ P w)
abbrev OkR (o : RS) (P : Nat → MW → Prop) : Prop := Ok o (fun v w => ∃ x, v = some (.inr x) ∧ P x w)
theorem ok_ret {v : Option MV} {w : MW} {P : Option MV → MW → Prop} (h : P v w) : Ok (some (v, w)) P := ⟨v, w, rfl, h⟩
theorem ok_eq {o o2 : RS} {P : Option MV → MW → Prop} (e : o = o2) (h : Ok o2 P) : Ok o P := e ▸ h
theorem ok_imp {o : RS} {P Q : Option MV → MW → Prop} (h : Ok o P) (g : ∀ v w, P v w → Q v w) : Ok o Q := by
  obtain ⟨v, w, e, hp⟩ := h
  exact ⟨v, w, e, g v w hp⟩
theorem ok_gd {c : Prop} [Decidable c] {o : RS} {P : Option MV → MW → Prop} (h : c) (g : Ok o P) : Ok (gd c o) P := by
  unfold gd
  rw [if_pos h]
  exact g
theorem ok_if {c : Prop} [Decidable c] {a b : RS} {P : Option MV → MW → Prop} (ht : c → Ok a P) (hf : ¬ c → Ok b P) : Ok (if c then a else b) P := by
  by_cases h : c
  · rw [if_pos h]; exact ht h
  · rw [if_neg h]; exact hf h
theorem ok_ift {c : Prop} [Decidable c] {a b : RS} {P : Option MV → MW → Prop} (h : c) (g : Ok a P) : Ok (if c then a else b) P := by rw [if_pos h]; exact g
theorem ok_iff {c : Prop} [Decidable c] {a b : RS} {P : Option MV → MW → Prop} (h : ¬ c) (g : Ok b P) : Ok (if c then a else b) P := by rw [if_neg h]; exact g
theorem ok_r {o : Option Nat} {f : Nat → RS} {b : Nat} {P : Option MV → MW → Prop} (h : o = some b) (g : Ok (f b) P) : Ok (rO o f) P := by rw [h]; exact g
theorem ok_i {o : RS} {f : Int → MW → RS} {x : Int} {w : MW} {P : Option MV → MW → Prop} (h : o = some (some (.inl x), w)) (g : Ok (f x w) P) : Ok (rI o f) P := by rw [h]; exact g
theorem ok_I {o : RS} {f : Int → MW → RS} {Q : Int → MW → Prop} {P : Option MV → MW → Prop} (h : OkI o Q) (g : ∀ x w, Q x w → Ok (f x w) P) : Ok (rI o f) P := by
  obtain ⟨v, w, e, x, rfl, hq⟩ := h
  rw [e]
  exact g x w hq
theorem ok_V {o : RS} {f : MW → RS} {Q : MW → Prop} {P : Option MV → MW → Prop} (h : OkV o Q) (g : ∀ w, Q w → Ok (f w) P) : Ok (rV o f) P := by
  obtain ⟨v, w, e, rfl, hq⟩ := h
  rw [e]
  exact g w hq
theorem ok_R {o : RS} {f : Nat → MW → RS} {Q : Nat → MW → Prop} {P : Option MV → MW → Prop} (h : OkR o Q) (g : ∀ x w, Q x w → Ok (f x w) P) : Ok (rR o f) P := by
  obtain ⟨v, w, e, x, rfl, hq⟩ := h
  rw [e]
  exact g x w hq
theorem ok_one {o : RS} {v : Option MV} {w : MW} (h : Ok o (fun v' w' => v' = v ∧ w' = w)) : o = some (v, w) := by
  obtain ⟨v', w', e, rfl, rfl⟩ := h
  exact e
/-- a counting loop, from its head -/
theorem ok_up {σ : Type} (Rh : Int → σ → RS) {P : Option MV → MW → Prop} (I : Int → σ → Prop) (lo hi : Int) (hlo : lo ≤ hi) (hs : ∀ i s, lo ≤ i → i < hi → I i s → (∀ s', I (i + 1) s' → Ok (Rh (i + 1) s') P) → Ok (Rh i s) P) (hx : ∀ s, I hi s → Ok (Rh hi s) P) : ∀ s, I lo s → Ok (Rh lo s) P := by
  have key : ∀ (k : Nat) (i : Int) (s : σ), lo ≤ i → i + k = hi → I i s → Ok (Rh i s) P := by
    intro k
    induction k with
    | zero =>
      intro i s h1 h2 h3
      have : i = hi := by omega
      subst this
      exact hx s h3
    | succ k ih =>
      intro i s h1 h2 h3
      exact hs i s h1 (by omega) h3 (fun s' h4 => ih (i + 1) s' (by omega) (by omega) h4)
  intro s h
  exact key (hi - lo).toNat lo s (Int.le_refl _) (by omega) h
theorem wrap_id {z : Int} (h1 : -2147483648 ≤ z) (h2 : z < 2147483648) : wrap z = z := bm_id h1 h2
/-- what of the world stays: shapes, references, and all ints but those of some cells -/
def Kp (lo hi : Nat) (w w' : MW) : Prop := w'.1 = w.1 ∧ (∀ a k, gr w' a k = gr w a k) ∧ ∀ b, b < lo ∨ hi < b → ∀ j, gi w' b j = gi w b j
theorem Kp.rf {lo hi : Nat} {w : MW} : Kp lo hi w w := ⟨rfl, fun _ _ => rfl, fun _ _ _ => rfl⟩
theorem Kp.tr {lo hi : Nat} {w w1 w2 : MW} (h : Kp lo hi w w1) (h2 : Kp lo hi w1 w2) : Kp lo hi w w2 := ⟨h2.1.trans h.1, fun a k => (h2.2.1 a k).trans (h.2.1 a k), fun b hb j => (h2.2.2 b hb j).trans (h.2.2 b hb j)⟩
theorem Kp.wide {lo hi lo' hi' : Nat} {w w1 : MW} (h : Kp lo hi w w1) (h1 : lo' ≤ lo) (h2 : hi ≤ hi') : Kp lo' hi' w w1 := ⟨h.1, h.2.1, fun b hb j => h.2.2 b (by omega) j⟩
theorem Kp.si {lo hi : Nat} {w : MW} {a k : Nat} {v : Int} (h1 : lo ≤ a) (h2 : a ≤ hi) : Kp lo hi w (si w a k v) := ⟨rfl, fun _ _ => rfl, fun b hb j => by rw [gi_si, if_neg (by omega)]⟩
theorem Kp.kd {lo hi : Nat} {w w' : MW} (h : Kp lo hi w w') (a : Nat) : kd w' a = kd w a := by unfold _root_.Jvm.Pilot.@@N@@.kd; rw [h.1]
theorem Kp.ln {lo hi : Nat} {w w' : MW} (h : Kp lo hi w w') (a : Nat) : ln w' a = ln w a := by unfold _root_.Jvm.Pilot.@@N@@.ln; rw [h.1]
theorem Kp.gr {lo hi : Nat} {w w' : MW} (h : Kp lo hi w w') (a k : Nat) : gr w' a k = gr w a k := h.2.1 a k
theorem Kp.gi {lo hi : Nat} {w w' : MW} (h : Kp lo hi w w') {b : Nat} (hb : b < lo ∨ hi < b) (j : Nat) : gi w' b j = gi w b j := h.2.2 b hb j
theorem ln_si (w : MW) (a j b : Nat) (v : Int) : ln (si w a j v) b = ln w b := rfl
theorem gr_si (w : MW) (a j b i : Nat) (v : Int) : gr (si w a j v) b i = gr w b i := rfl
theorem gi_si_ne {w : MW} {a j b i : Nat} {v : Int} (h : b ≠ a) : gi (si w a j v) b i = gi w b i := by rw [gi_si, if_neg (fun q => h q.1)]
theorem gi_si_ne2 {w : MW} {a j b i : Nat} {v : Int} (h : i ≠ j) : gi (si w a j v) b i = gi w b i := by rw [gi_si, if_neg (fun q => h q.2)]
theorem gi_si_eq {w : MW} {a j : Nat} {v : Int} : gi (si w a j v) a j = v := by rw [gi_si, if_pos ⟨rfl, rfl⟩]
