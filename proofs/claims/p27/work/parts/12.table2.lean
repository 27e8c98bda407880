/-! the table grows, is emptied, copied -/
def Ts (w : MW) (r : Nat) : Prop := kd w r = 13 ∧ kd w (r + 1) = 1 ∧ ln w (r + 1) = 144 ∧ gr w r 1 = some (r + 1)
def twid (t : Int → Int → Int) (n k : Int) : Int → Int → Int := fun x y => if x = 0 ∧ n ≤ y ∧ y < n + k then y else if y = 0 ∧ n ≤ x ∧ x < n + k then x else t x y
def tnew (k : Int) : Int → Int → Int := twid (fun _ _ => 12) 0 k
section TW
variable {X : Nat × (Nat → Int)} {d : Nat} {w w' : MW} {r : Nat} {n : Int} {t : Int → Int → Int}
theorem Tb.grow (h : Tb w r n t) (hn : n < 12) : Tb (si w r 0 (n + 1)) r (n + 1) t :=
  ⟨⟨h.k, h.k1, h.l, h.g⟩, ⟨gi_si_eq, by have := h.n0; omega, by omega⟩, fun a b h1 h2 h3 h4 => by rw [gi_si_ne (by omega)]; exact h.en h1 h2 h3 h4, fun a b h1 => h.out (by omega)⟩
theorem Ts.kp {lo hi : Nat} (h : Ts w r) (k : Kp lo hi w w') : Ts w' r := ⟨by rw [k.kd]; exact h.1, by rw [k.kd]; exact h.2.1, by rw [k.ln]; exact h.2.2.1, by rw [k.gr]; exact h.2.2.2⟩
theorem Tb.ts (h : Tb w r n t) : Ts w r := h.1
theorem twid_0 : twid t n 0 = t := by
  funext x y
  unfold twid
  rw [if_neg (by omega), if_neg (by omega)]
theorem twid_s {i : Int} (hi : 0 ≤ i) (hn : 0 ≤ n) : tput (twid t n i) 0 (n + i) (n + i) = twid t n (i + 1) := by
  funext x y
  unfold tput twid
  (repeat' split) <;> first | rfl | omega
theorem widen_ok (h : Tb w r n t) {k : Int} (hk : 0 ≤ k) (hnk : n + k ≤ 12) : OkV (run X (d + 2) 29 [.inr r, .inl k] w) (fun w' => Tb w' r (n + k) (twid t n k) ∧ Kp r (r + 1) w w') := by
  have hn0 := h.n0
  refine ok_eq (b29_0 X (d + 1) r k w) ?_
  refine ok_up (fun i s => R X (d + 2) 29 2 [some (.inr r), some (.inl k), some (.inl i)] [] s) (fun i s => Tb s r (n + i) (twid t n i) ∧ Kp r (r + 1) w s) 0 k hk ?_ ?_ w ⟨by rw [twid_0, Int.add_zero]; exact h, Kp.rf⟩
  · intro i s h1 h2 ⟨hT, hK⟩ ih
    have hg := hT.grow (by omega)
    refine ok_eq (b29_2 X (d + 1) r k i s) (ok_iff (by omega) (ok_gd hT.k (ok_iff (by rw [hT.sz]; omega) (ok_gd hT.k (ok_gd hT.k (ok_gd hT.k (ok_gd hT.k (ok_gd hT.k ?_))))))))
    rw [hT.sz, wrap_id (z := n + i + 1) (by omega) (by omega), gi_si_eq, wrap_id (z := n + i + 1 - 1) (by omega) (by omega), wrap_id (z := i + 1) (by omega) (by omega), show n + i + 1 - 1 = n + i by omega]
    refine ok_V (put_ok hg (a := 0) (b := n + i) (c := n + i) ⟨by omega, by omega, Or.inl (by omega)⟩) (fun s' hs' => ih s' ⟨?_, ?_⟩)
    · rw [← Int.add_assoc, ← twid_s (by omega) (by omega)]
      exact hs'.1
    · exact hK.tr ((Kp.si (Nat.le_refl _) (Nat.le_succ _)).tr (hs'.2.wide (Nat.le_succ _) (Nat.le_refl _)))
  · intro s ⟨hT, hK⟩
    exact ok_eq (b29_2 X (d + 1) r k k s) (ok_ift (Int.le_refl _) (ok_ret ⟨rfl, hT, hK⟩))
theorem empty_ok (h : Ts w r) {k : Int} (hk : 0 ≤ k) (hnk : k ≤ 12) : OkV (run X (d + 3) 28 [.inr r, .inl k] w) (fun w' => Tb w' r k (tnew k) ∧ Kp r (r + 1) w w') := by
  refine ok_eq (b28_0 X (d + 2) r k w) ?_
  refine ok_up (fun i s => R X (d + 3) 28 2 [some (.inr r), some (.inl k), some (.inl i)] [] s) (fun i s => (∀ j : Nat, (j : Int) < i → gi s (r + 1) j = 12) ∧ Kp r (r + 1) w s) 0 144 (by omega) ?_ ?_ w ⟨fun j hj => by omega, Kp.rf⟩
  · intro i s h1 h2 ⟨hT, hK⟩ ih
    have hs := h.kp hK
    refine ok_eq (b28_2 X (d + 2) r k i s) (ok_gd hs.1 (ok_r hs.2.2.2 (ok_gd ⟨hs.2.1, by rw [hs.2.2.1]; omega⟩ (ok_iff (by rw [hs.2.2.1]; omega) (ok_gd hs.1 (ok_r hs.2.2.2 (ok_gd ⟨hs.2.1, by rw [hs.2.2.1]; omega⟩ ?_)))))))
    rw [wrap_id (by omega) (by omega)]
    refine ih _ ⟨fun j hj => ?_, hK.tr (Kp.si (Nat.le_succ _) (Nat.le_refl _))⟩
    rw [gi_si]
    by_cases hji : j = i.toNat
    · rw [if_pos ⟨rfl, hji⟩]
    · rw [if_neg (fun q => hji q.2)]
      exact hT j (by omega)
  · intro s ⟨hT, hK⟩
    have hs := h.kp hK
    refine ok_eq (b28_2 X (d + 2) r k 144 s) (ok_gd hs.1 (ok_r hs.2.2.2 (ok_gd ⟨hs.2.1, by rw [hs.2.2.1]; omega⟩ (ok_ift (by rw [hs.2.2.1]; omega) (ok_gd hs.1 (ok_gd hs.1 ?_))))))
    have hT0 : Tb (si s r 0 0) r 0 (fun _ _ => 12) := ⟨hs, ⟨gi_si_eq, Int.le_refl _, by omega⟩, fun a b h1 h2 h3 h4 => by rw [gi_si_ne (by omega)]; exact hT _ (by omega), fun _ _ _ => rfl⟩
    refine ok_V (widen_ok hT0 hk (by omega)) (fun s' hs' => ok_ret ⟨rfl, ?_, ?_⟩)
    · have := hs'.1
      rw [Int.zero_add] at this
      exact this
    · exact hK.tr ((Kp.si (Nat.le_refl _) (Nat.le_succ _)).tr hs'.2)
theorem gi_cpw {s sp b tp m a j : Nat} : gi (cpw w s sp b tp m) a j = if a = b ∧ tp ≤ j ∧ j < tp + m then gi w s (sp + (j - tp)) else gi w a j := rfl
theorem become_ok {r1 : Nat} (hr : Ts w r) (h : Tb w r1 n t) (hne : r1 + 1 < r ∨ r + 1 < r1) : OkV (run X d 30 [.inr r, .inr r1] w) (fun w' => Tb w' r n t ∧ Kp r (r + 1) w w') := by
  have h2 : Ts (si w r 0 (gi w r1 0)) r := hr.kp (Kp.si (Nat.le_refl _) (Nat.le_refl _))
  have hl : ln (si w r 0 (gi w r1 0)) (r + 1) = 144 := h2.2.2.1
  refine ok_eq (b30_0 X d r r1 w) (ok_gd h.k (ok_gd hr.1 (ok_gd h.k (ok_r h.g (ok_gd hr.1 (ok_r hr.2.2.2 (ok_gd hr.1 (ok_r hr.2.2.2 (ok_gd ⟨hr.2.1, by rw [hl]; omega⟩ (ok_gd ⟨h.k1, hr.2.1, by omega, by omega, by rw [hl]; omega, by rw [hl, show ln (si w r 0 (gi w r1 0)) (r1 + 1) = 144 from h.l]; omega, by rw [hl]; omega⟩ (ok_ret ⟨rfl, ?_, ?_⟩)))))))))))
  · rw [hl]
    refine ⟨hr, ⟨?_, h.n0, h.n12⟩, fun a b g1 g2 g3 g4 => ?_, fun a b => h.out⟩
    · rw [gi_cpw, if_neg (by omega), gi_si_eq]
      exact h.sz
    · rw [gi_cpw, if_pos (by have e : (Int.toNat ((144 : Nat) : Int)) = 144 := rfl; have e2 : Int.toNat 0 = 0 := rfl; omega), gi_si_ne (by omega)]
      have e2 : Int.toNat 0 = 0 := rfl
      rw [e2, Nat.zero_add, Nat.sub_zero]
      exact h.en g1 g2 g3 g4
  · refine (Kp.si (w := w) (lo := r) (hi := r + 1) (a := r) (k := 0) (v := gi w r1 0) (Nat.le_refl _) (Nat.le_succ _)).tr ⟨rfl, fun _ _ => rfl, fun b hb j => ?_⟩
    rw [gi_cpw, if_neg (by omega)]
end TW
