/-! the whole world's shape, and the history of the class -/
def KDl : List Nat := [0, 16, 13, 1, 13, 1, 10, 3, 13, 1, 13, 1, 13, 1, 13, 1, 14, 2, 1, 1, 1, 11, 12, 1, 1, 1, 1, 15, 1, 1, 1, 1, 1, 1, 1, 1, 1, 1]
def LNl : List Nat := [0, 0, 0, 144, 0, 144, 0, 4, 0, 144, 0, 144, 0, 144, 0, 144, 0, 60, 15, 15, 15, 0, 0, 12, 12, 12, 12, 0, 12, 12, 12, 66, 66, 66, 144, 144, 12, 12]
def GRl : List (List (Option Nat)) := [[], [some 2, some 4, none, some 6, some 16, some 21, some 22, some 27, some 37], [none, some 3], [], [none, some 5], [], [none, some 7], [], [none, some 9], [], [none, some 11], [], [none, some 13], [], [none, some 15], [], [none, some 17, none, none, some 18, some 19, some 20], [], [], [], [], [], [some 23, some 24, some 25, some 26], [], [], [], [], [none, some 28, some 29, some 30, none, none, some 31, some 32, some 33, some 34, some 35, some 36], [], [], [], [], [], [], [], [], [], []]
def Sh (w : MW) : Prop := (∀ a, kd w a = KDl.getD a 0) ∧ (∀ a, ln w a = LNl.getD a 0) ∧ ∀ a k, a ≠ 7 → gr w a k = (GRl.getD a []).getD k none
/-- what stays, but for the order of the history's tables -/
def Kh (lo hi : Nat) (w w' : MW) : Prop := w'.1 = w.1 ∧ (∀ a k, a ≠ 7 → gr w' a k = gr w a k) ∧ ∀ b, b < lo ∨ hi < b → ∀ j, gi w' b j = gi w b j
theorem Kp.kh {lo hi : Nat} {w w' : MW} (h : Kp lo hi w w') : Kh lo hi w w' := ⟨h.1, fun a k _ => h.2.1 a k, h.2.2⟩
theorem Kh.rf {lo hi : Nat} {w : MW} : Kh lo hi w w := Kp.rf.kh
theorem Kh.tr {lo hi : Nat} {w w1 w2 : MW} (h : Kh lo hi w w1) (h2 : Kh lo hi w1 w2) : Kh lo hi w w2 := ⟨h2.1.trans h.1, fun a k ha => (h2.2.1 a k ha).trans (h.2.1 a k ha), fun b hb j => (h2.2.2 b hb j).trans (h.2.2 b hb j)⟩
theorem Kh.wide {lo hi lo' hi' : Nat} {w w1 : MW} (h : Kh lo hi w w1) (h1 : lo' ≤ lo) (h2 : hi ≤ hi') : Kh lo' hi' w w1 := ⟨h.1, h.2.1, fun b hb j => h.2.2 b (by omega) j⟩
theorem Kh.kd {lo hi : Nat} {w w' : MW} (h : Kh lo hi w w') (a : Nat) : kd w' a = kd w a := congrArg (fun s => s.2.1 a) h.1
theorem Kh.ln {lo hi : Nat} {w w' : MW} (h : Kh lo hi w w') (a : Nat) : ln w' a = ln w a := congrArg (fun s => s.2.2 a) h.1
theorem Kh.gi {lo hi : Nat} {w w' : MW} (h : Kh lo hi w w') {b : Nat} (hb : b < lo ∨ hi < b) (j : Nat) : gi w' b j = gi w b j := h.2.2 b hb j
theorem Sh.kh {lo hi : Nat} {w w' : MW} (h : Sh w) (k : Kh lo hi w w') : Sh w' := ⟨fun a => by rw [k.kd]; exact h.1 a, fun a => by rw [k.ln]; exact h.2.1 a, fun a j ha => by rw [k.2.1 a j ha]; exact h.2.2 a j ha⟩
theorem Sh.kp {lo hi : Nat} {w w' : MW} (h : Sh w) (k : Kp lo hi w w') : Sh w' := h.kh k.kh
theorem Kh.sr {w : MW} {k : Nat} {v : Option Nat} {lo hi : Nat} : Kh lo hi w (sr w 7 k v) := ⟨rfl, fun a j ha => by rw [gr_sr, if_neg (fun q => ha q.1)], fun _ _ _ => rfl⟩
theorem Tb.kh {w w' : MW} {r : Nat} {n : Int} {t : Int → Int → Int} {lo hi : Nat} (h : Tb w r n t) (k : Kh lo hi w w') (hr : r + 1 < lo ∨ hi < r) (h7 : r ≠ 7) : Tb w' r n t :=
  ⟨⟨by rw [k.kd]; exact h.k, by rw [k.kd]; exact h.k1, by rw [k.ln]; exact h.l, by rw [k.2.1 _ _ h7]; exact h.g⟩, ⟨by rw [k.gi (by omega)]; exact h.sz, h.n0, h.n12⟩, fun a b h1 h2 h3 h4 => by rw [k.gi (by omega)]; exact h.en h1 h2 h3 h4, h.2.2.2⟩
def hcell (b : Nat) : Prop := b = 8 ∨ b = 10 ∨ b = 12 ∨ b = 14
theorem Sh.ts {w : MW} (h : Sh w) {b : Nat} (hb : hcell b ∨ b = 2 ∨ b = 4) : Ts w b := by
  rcases hb with (rfl | rfl | rfl | rfl) | rfl | rfl <;> exact ⟨h.1 _, h.1 _, h.2.1 _, h.2.2 _ _ (by decide)⟩
abbrev AT : Type := Int × (Int → Int → Int)
def Hst (w : MW) (L : List AT) : Prop := ∃ ρ : Nat → Nat, (∀ i, i < 4 → gr w 7 i = some (ρ i)) ∧ (∀ i, i < 4 → hcell (ρ i)) ∧ (∀ i j, i < 4 → j < 4 → ρ i = ρ j → i = j) ∧ L.length ≤ 4 ∧ gi w 6 0 = L.length ∧ ∀ (i : Nat) (a : AT), L[i]? = some a → Tb w (ρ i) a.1 a.2
def pushH (L : List AT) (a : AT) : List AT := (if L.length = 4 then L.tail else L) ++ [a]
theorem Hst.kh {w w' : MW} {L : List AT} {lo hi : Nat} (h : Hst w L) (k : Kp lo hi w w') (hr : 15 < lo ∨ hi < 6) : Hst w' L := by
  obtain ⟨ρ, h1, h2, h3, h4, h5, h6⟩ := h
  refine ⟨ρ, fun i hi => by rw [k.gr]; exact h1 i hi, h2, h3, h4, by rw [k.gi (by omega)]; exact h5, fun i a ha => (h6 i a ha).kp k ?_⟩
  have hi : i < 4 := Nat.lt_of_lt_of_le (List.getElem?_eq_some_iff.mp ha).1 h4
  have := h2 i hi
  unfold hcell at this
  omega
section HI
variable {X : Nat × (Nat → Int)} {d : Nat} {w w' : MW} {n : Int} {t : Int → Int → Int} {L : List AT}
theorem drop_ok (hS : Sh w) (hL : L.length = 4) (h : Hst w L) : OkV (run X d 3 [.inr 6] w) (fun w' => Hst w' L.tail ∧ Kh 6 15 w w' ∧ ∀ b, b ≠ 6 → ∀ j, gi w' b j = gi w b j) := by
  obtain ⟨ρ, h1, h2, h3, h4, h5, h6⟩ := h
  have hk6 : kd w 6 = 10 := hS.1 6
  have hk7 : kd w 7 = 3 := hS.1 7
  have hl7 : ln w 7 = 4 := hS.2.1 7
  have hg6 : gr w 6 1 = some 7 := hS.2.2 6 1 (by decide)
  refine ok_eq (b3_0 X d 6 w) (ok_gd hk6 (ok_r hg6 (ok_gd ⟨hk7, by omega, by rw [hl7]; omega⟩ (ok_r (h1 0 (by omega)) ?_))))
  refine ok_up (fun i s => R X d 3 9 [some (.inr 6), some (.inr (ρ 0)), some (.inl i)] [] s) (fun i s => s.1 = w.1 ∧ (∀ a k, a ≠ 7 → gr s a k = gr w a k) ∧ (∀ b j, gi s b j = gi w b j) ∧ ∀ j, j < 4 → gr s 7 j = some (if (j : Int) < i - 1 then ρ (j + 1) else ρ j)) 1 4 (by omega) ?_ ?_ w ⟨rfl, fun _ _ _ => rfl, fun _ _ => rfl, fun j hj => by rw [if_neg (by omega)]; exact h1 j hj⟩
  · intro i s g1 g2 ⟨e1, e2, e3, e4⟩ ih
    have hK : Kh 6 15 w s := ⟨e1, e2, fun b _ j => e3 b j⟩
    have hS2 := hS.kh hK
    have s6 : kd s 6 = 10 := hS2.1 6
    have s7 : kd s 7 = 3 := hS2.1 7
    have sl7 : ln s 7 = 4 := hS2.2.1 7
    have sg6 : gr s 6 1 = some 7 := hS2.2.2 6 1 (by decide)
    have hi4 : i.toNat < 4 := by omega
    have hc := h2 i.toNat hi4
    have hcs : kd s (ρ i.toNat) = 13 := (hS2.ts (Or.inl hc)).1
    have hgi : gr s 7 i.toNat = some (ρ i.toNat) := by rw [e4 _ hi4, if_neg (by omega)]
    refine ok_eq (b3_9 X d 6 (ρ 0) i s) (ok_iff (by omega) (ok_gd s6 (ok_r sg6 (ok_gd s6 (ok_r sg6 (ok_gd ⟨s7, by omega, by rw [sl7]; omega⟩ (ok_r hgi ?_)))))))
    rw [wrap_id (z := i - 1) (by omega) (by omega), wrap_id (z := i + 1) (by omega) (by omega)]
    refine ok_gd ⟨⟨s7, by omega, by rw [sl7]; omega⟩, hcs⟩ (ih _ ⟨e1, fun a k ha => by rw [gr_sr, if_neg (fun q => ha q.1)]; exact e2 a k ha, e3, fun j hj => ?_⟩)
    rw [gr_sr]
    by_cases hj2 : j = (i - 1).toNat
    · rw [if_pos ⟨rfl, hj2⟩, if_pos (by omega)]
      congr 2
      omega
    · rw [if_neg (fun q => hj2 q.2), e4 j hj]
      congr 1
      by_cases hj3 : (j : Int) < i - 1
      · rw [if_pos hj3, if_pos (by omega)]
      · rw [if_neg hj3, if_neg (by omega)]
  · intro s ⟨e1, e2, e3, e4⟩
    have hK : Kh 6 15 w s := ⟨e1, e2, fun b _ j => e3 b j⟩
    have hS2 := hS.kh hK
    have s6 : kd s 6 = 10 := hS2.1 6
    have s7 : kd s 7 = 3 := hS2.1 7
    have sl7 : ln s 7 = 4 := hS2.2.1 7
    have sg6 : gr s 6 1 = some 7 := hS2.2.2 6 1 (by decide)
    have hcs : kd s (ρ 0) = 13 := (hS2.ts (Or.inl (h2 0 (by omega)))).1
    refine ok_eq (b3_9 X d 6 (ρ 0) 4 s) (ok_ift (by omega) (ok_gd s6 (ok_r sg6 (ok_gd ⟨⟨s7, by omega, by rw [sl7]; omega⟩, hcs⟩ (ok_gd s6 (ok_ret ⟨rfl, ?_, ?_, ?_⟩))))))
    · have key : ∀ j, j < 4 → gr (si (sr s 7 (Int.toNat 3) (some (ρ 0))) 6 0 3) 7 j = some (if j = 3 then ρ 0 else ρ (j + 1)) := by
        intro j hj
        rw [gr_si, gr_sr]
        by_cases hj3 : j = 3
        · rw [if_pos ⟨rfl, hj3⟩, if_pos hj3]
        · rw [if_neg (fun q => hj3 q.2), if_neg hj3, e4 j hj, if_pos (by omega)]
      refine ⟨fun j => if j = 3 then ρ 0 else ρ (j + 1), key, fun i hi => ?_, fun i j hi hj he => ?_, by rw [List.length_tail]; omega, ?_, fun i a ha => ?_⟩
      · dsimp only
        split
        · exact h2 0 (by omega)
        · exact h2 _ (by omega)
      · dsimp only at he
        split at he <;> split at he
        · omega
        · have := h3 0 (j + 1) (by omega) (by omega) he; omega
        · have := h3 (i + 1) 0 (by omega) (by omega) he; omega
        · have := h3 (i + 1) (j + 1) (by omega) (by omega) he; omega
      · rw [gi_si_eq, List.length_tail, hL]
        rfl
      · rw [List.getElem?_tail] at ha
        have hi : i + 1 < 4 := by have := (List.getElem?_eq_some_iff.mp ha).1; omega
        dsimp only
        rw [if_neg (by omega)]
        have hT := h6 (i + 1) a ha
        have hc := h2 (i + 1) hi
        unfold hcell at hc
        refine ⟨(hS2.kh (Kh.sr.tr (Kp.si (lo := 6) (hi := 15) (by omega) (by omega)).kh)).ts (Or.inl hc), ⟨?_, hT.n0, hT.n12⟩, fun x y q1 q2 q3 q4 => ?_, hT.2.2.2⟩
        · rw [gi_si_ne (by omega)]
          exact (e3 _ _).trans hT.sz
        · rw [gi_si_ne (by omega)]
          exact (e3 _ _).trans (hT.en q1 q2 q3 q4)
    · exact hK.tr (Kh.sr.tr (Kp.si (by omega) (by omega)).kh)
    · intro b hb j
      rw [gi_si_ne hb]
      exact e3 b j
theorem rem_ok (hS : Sh w) (h : Hst w L) (hT : Tb w 2 n t) : OkR (run X (d + 1) 2 [.inr 6, .inr 2] w) (fun b w' => (hcell b ∧ Tb w' b n t) ∧ Hst w' (pushH L (n, t)) ∧ Tb w' 2 n t ∧ Kh 6 15 w w') := by
  have hk6 : kd w 6 = 10 := hS.1 6
  have core : ∀ (s : MW) (L2 : List AT), Kh 6 15 w s → Tb s 2 n t → Hst s L2 → L2.length < 4 → OkR (R X (d + 1) 2 12 [some (.inr 6), some (.inr 2), none] [] s) (fun b w' => (hcell b ∧ Tb w' b n t) ∧ Hst w' (L2 ++ [(n, t)]) ∧ Tb w' 2 n t ∧ Kh 6 15 w w') := by
    intro s L2 hK hT2 hH hL2
    obtain ⟨ρ, h1, h2, h3, h4, h5, h6⟩ := hH
    have hS2 := hS.kh hK
    have s6 : kd s 6 = 10 := hS2.1 6
    have s7 : kd s 7 = 3 := hS2.1 7
    have sl7 : ln s 7 = 4 := hS2.2.1 7
    have sg6 : gr s 6 1 = some 7 := hS2.2.2 6 1 (by decide)
    have hc := h2 L2.length hL2
    refine ok_eq (b2_12 X d 6 2 s) (ok_gd s6 (ok_r sg6 (ok_gd s6 ?_)))
    rw [h5]
    refine ok_gd ⟨s7, by omega, by rw [sl7]; omega⟩ (ok_r (h1 L2.length hL2) (ok_gd (hS2.ts (Or.inl hc)).1 ?_))
    have hap : 2 + 1 < ρ L2.length ∨ ρ L2.length + 1 < 2 := by unfold hcell at hc; omega
    refine ok_V (become_ok (d := d) (hS2.ts (Or.inl hc)) hT2 hap) (fun s3 ⟨hB, hK3⟩ => ?_)
    have hcc := hc
    unfold hcell at hcc
    have hS3 := hS2.kp hK3
    have s36 : kd s3 6 = 10 := hS3.1 6
    have e6 : gi s3 6 0 = (L2.length : Int) := by rw [hK3.gi (by omega)]; exact h5
    refine ok_gd s36 (ok_gd s36 ?_)
    rw [e6, wrap_id (by omega) (by omega)]
    refine ok_ret ⟨ρ L2.length, rfl, ⟨hc, hB.kp (lo := 6) (hi := 6) (Kp.si (by omega) (by omega)) (by omega)⟩, ?_, (hT2.kp hK3 (by omega)).kp (lo := 6) (hi := 6) (Kp.si (by omega) (by omega)) (by omega), hK.tr ((hK3.kh.wide (by omega) (by omega)).tr (Kp.si (by omega) (by omega)).kh)⟩
    refine ⟨ρ, fun i hi => by rw [gr_si, hK3.gr]; exact h1 i hi, h2, h3, by rw [List.length_append]; exact hL2, by rw [gi_si_eq, List.length_append]; rfl, fun i a ha => ?_⟩
    by_cases hi : i < L2.length
    · rw [List.getElem?_append_left hi] at ha
      have hci := h2 i (by omega)
      have hne : ρ i ≠ ρ L2.length := fun q => by have := h3 i L2.length (by omega) hL2 q; omega
      unfold hcell at hci
      exact ((h6 i a ha).kp hK3 (by omega)).kp (lo := 6) (hi := 6) (Kp.si (by omega) (by omega)) (by omega)
    · have hi2 : i = L2.length := by
        have := (List.getElem?_eq_some_iff.mp ha).1
        rw [List.length_append, List.length_singleton] at this
        omega
      subst hi2
      rw [List.getElem?_append_right (Nat.le_refl _), Nat.sub_self] at ha
      cases ha
      exact hB.kp (lo := 6) (hi := 6) (Kp.si (by omega) (by omega)) (by omega)
  have h5 : gi w 6 0 = L.length := by obtain ⟨ρ, -, -, -, -, q, -⟩ := h; exact q
  have h4 : L.length ≤ 4 := by obtain ⟨ρ, -, -, -, q, -⟩ := h; exact q
  refine ok_eq (b2_0 X d 6 2 w) (ok_gd hk6 ?_)
  rw [h5]
  refine ok_if (fun hc => ?_) (fun hc => ok_gd hk6 (ok_V (drop_ok (d := d) hS (by omega) h) (fun s ⟨q1, q2, q3⟩ => ?_)))
  · unfold pushH
    rw [if_neg (by omega)]
    exact core w L Kh.rf hT h (by omega)
  · unfold pushH
    rw [if_pos (by omega)]
    exact core s L.tail q2 (hT.kh q2 (by omega) (by omega)) q1 (by rw [List.length_tail]; omega)
theorem back_ok (hS : Sh w) (h : Hst w L) (hT : Tb w 2 n t) : OkI (run X (d + 1) 4 [.inr 6, .inr 2] w) (fun x w' => Kh 2 15 w w' ∧ ((L = [] ∧ x = 0 ∧ w' = w) ∨ ∃ L2 a, L = L2 ++ [a] ∧ x = 1 ∧ Tb w' 2 a.1 a.2 ∧ Hst w' L2 ∧ ∀ b, b ≠ 2 → b ≠ 3 → b ≠ 6 → ∀ j, gi w' b j = gi w b j)) := by
  obtain ⟨ρ, h1, h2, h3, h4, h5, h6⟩ := h
  have hk6 : kd w 6 = 10 := hS.1 6
  have hk7 : kd w 7 = 3 := hS.1 7
  have hl7 : ln w 7 = 4 := hS.2.1 7
  have hg6 : gr w 6 1 = some 7 := hS.2.2 6 1 (by decide)
  refine ok_eq (b4_0 X d 6 2 w) (ok_gd hk6 ?_)
  rw [h5]
  rcases List.eq_nil_or_concat L with e | ⟨L2, a, e⟩
  · subst e
    exact ok_iff (by simp) (ok_ret ⟨0, rfl, Kh.rf, Or.inl ⟨rfl, rfl, rfl⟩⟩)
  · subst e
    rw [List.concat_eq_append] at h4 h5 h6 ⊢
    have hlen : (L2 ++ [a]).length = L2.length + 1 := by simp
    rw [hlen] at h4 ⊢
    refine ok_ift (by omega) (ok_gd hk6 (ok_gd hk6 ?_))
    rw [wrap_id (z := ((L2.length + 1 : Nat) : Int) - 1) (by omega) (by omega)]
    have eL : ((L2.length + 1 : Nat) : Int) - 1 = (L2.length : Int) := by omega
    rw [eL, gi_si_eq]
    have hc := h2 L2.length (by omega)
    have hTa := h6 L2.length a (by simp)
    have hcc := hc
    unfold hcell at hcc
    have hK1 : Kp 6 6 w (si w 6 0 (L2.length : Int)) := Kp.si (Nat.le_refl _) (Nat.le_refl _)
    refine ok_gd hk6 (ok_r hg6 (ok_gd hk6 (ok_gd ⟨hk7, by omega, by show _ < ((ln w 7 : Nat) : Int); rw [hl7]; omega⟩ (ok_r (h1 L2.length (by omega)) (ok_gd (hS.1 2) (ok_V (become_ok (d := d) (r := 2) (r1 := ρ L2.length) ((hS.ts (Or.inr (Or.inl rfl))).kp hK1) (hTa.kp hK1 (by omega)) (by omega)) (fun s ⟨q1, q2⟩ => ok_ret ⟨1, rfl, ?_, Or.inr ⟨L2, a, rfl, rfl, q1, ?_, ?_⟩⟩)))))))
    · exact (hK1.kh.wide (by omega) (by omega)).tr (q2.kh.wide (by omega) (by omega))
    · refine ⟨ρ, fun i hi => by rw [q2.gr, gr_si]; exact h1 i hi, h2, h3, by omega, by rw [q2.gi (by omega), gi_si_eq], fun i b hb => ?_⟩
      have hi : i < L2.length := (List.getElem?_eq_some_iff.mp hb).1
      have hci := h2 i (by omega)
      unfold hcell at hci
      exact ((h6 i b (by rw [List.getElem?_append_left hi]; exact hb)).kp hK1 (by omega)).kp q2 (by omega)
    · intro b b2 b3 b6 j
      rw [q2.gi (by omega), gi_si_ne b6]
end HI
