/-! the class's acts over one mathematical state -/
abbrev AS : Type := AT × Option AT × List AT × (Int × (Int → Int))
def okB (a : AT) : Prop := 2 ≤ a.1 ∧ a.1 ≤ 12 ∧ twf a.2 a.1
def ClS (w : MW) (A : AS) : Prop := Sh w ∧ (Tb w 2 A.1.1 A.1.2 ∧ okB A.1) ∧ ((A.2.1 = none ∧ gi w 1 2 = 0) ∨ ∃ a, A.2.1 = some a ∧ gi w 1 2 = 1 ∧ Tb w 4 a.1 a.2 ∧ okB a) ∧ (Hst w A.2.2.1 ∧ ∀ a, a ∈ A.2.2.1 → okB a) ∧ Tx w A.2.2.2.1 A.2.2.2.2
def push (A : AS) (a : AT) : AS := (a, A.2.1, pushH A.2.2.1 A.1, A.2.2.2)
def FO (w : MW) (r : Int × AS) (x : Int) (w' : MW) : Prop := x = r.1 ∧ ClS w' r.2 ∧ Kh 1 37 w w'
def takeF (A : AS) (a b : Int) : Int × AS := if ¬ (a = 0 ∨ a = 1) then (-2, A) else if b < 1 ∨ (if a = 0 then 11 else 3) < b then (-2, A) else if a = 0 then (b + 1, push A (b + 1, tchain (tnew 2) 2 b)) else (shlI 1 b, push A (shlI 1 b, tsets (shlI 1 b - 1)))
def addF (A : AS) : Int × AS := if A.1.1 < 12 then (A.1.1, push A (A.1.1 + 1, twid A.1.2 A.1.1 1)) else (-3, A)
def setF (A : AS) (a b c : Int) : Int × AS := if ¬ ((0 ≤ a ∧ a < A.1.1) ∧ (0 ≤ b ∧ b < A.1.1) ∧ (0 ≤ c ∧ c < A.1.1)) then (-1, A) else if a = 0 ∨ b = 0 then (-4, A) else if A.1.2 a b = c then (-5, A) else (A.1.2 a b, push A (A.1.1, tput A.1.2 a b c))
def clearF (A : AS) (a b : Int) : Int × AS := if ¬ ((0 ≤ a ∧ a < A.1.1) ∧ (0 ≤ b ∧ b < A.1.1)) then (-1, A) else if a = 0 ∨ b = 0 then (-4, A) else if A.1.2 a b = 12 then (-5, A) else (A.1.2 a b, push A (A.1.1, tput A.1.2 a b 12))
def glueF (A : AS) (m : Int) : Int × AS := if m < 2 ∨ 11 < m then (-2, A) else if 12 < A.1.1 + m - 1 then (-3, A) else (A.1.1 + m - 1, push A (A.1.1 + m - 1, tchain A.1.2 A.1.1 m))
def twiceF (A : AS) : Int × AS := if 12 < 2 * A.1.1 then (-3, A) else (2 * A.1.1, push A (2 * A.1.1, tpair A.1.2 A.1.1))
def typeF (A : AS) (c : Int) : Int × AS := if A.2.2.2.1 < 60 then (A.2.2.2.1 + 1, (A.1, A.2.1, A.2.2.1, (A.2.2.2.1 + 1, fun j => if j = A.2.2.2.1 then c else A.2.2.2.2 j))) else (-3, A)
def clrF (A : AS) : Int × AS := (A.2.2.2.1, (A.1, A.2.1, A.2.2.1, (0, A.2.2.2.2)))
def undoF (A : AS) : Int × AS := match A.2.2.1.getLast? with
  | none => (-5, A)
  | some a => ((A.2.2.1.dropLast.length : Int), (a, A.2.1, A.2.2.1.dropLast, A.2.2.2))
def keepF (A : AS) : Int × AS := (A.1.1, (A.1, some A.1, A.2.2.1, A.2.2.2))
def restF (A : AS) : Int × AS := match A.2.1 with
  | none => (-5, A)
  | some a => (a.1, push A a)
section FC
variable {X : Nat × (Nat → Int)} {d : Nat} {w w1 w2 w3 : MW} {A : AS}
theorem mem_pushH {L : List AT} {x a : AT} (h : a ∈ pushH L x) : a ∈ L ∨ a = x := by
  unfold pushH at h
  rcases List.mem_append.mp h with h | h
  · left
    split at h
    · exact List.mem_of_mem_tail h
    · exact h
  · right
    exact List.mem_singleton.mp h
theorem Tx.kh {L : Int} {c : Int → Int} {lo hi : Nat} (h : Tx w L c) (k : Kh lo hi w w1) (h1 : 17 < lo ∨ hi < 16) : Tx w1 L c := ⟨by rw [k.gi (by omega)]; exact h.1, h.2.1, fun j j0 j1 => by rw [k.gi (by omega)]; exact h.2.2 j j0 j1⟩
theorem ClS.act (h : ClS w A) (k1 : Kh 6 15 w w1) (hH : Hst w1 (pushH A.2.2.1 A.1)) (k2 : Kp 37 37 w1 w2) (k3 : Kp 2 3 w2 w3) {a : AT} (hT : Tb w3 2 a.1 a.2) (ho : okB a) : ClS w3 (push A a) ∧ Kh 1 37 w w3 := by
  obtain ⟨hS, ⟨hb, hok⟩, hsn, ⟨hh, hho⟩, htx⟩ := h
  have kall : Kh 1 37 w w3 := ((k1.wide (by omega) (by omega)).tr (k2.kh.wide (by omega) (by omega))).tr (k3.kh.wide (by omega) (by omega))
  refine ⟨⟨hS.kh kall, ⟨hT, ho⟩, ?_, ⟨(hH.kh k2 (by omega)).kh k3 (by omega), fun b hb2 => ?_⟩, ?_⟩, kall⟩
  · have e : gi w3 1 2 = gi w 1 2 := by rw [k3.gi (by omega), k2.gi (by omega), k1.gi (by omega)]
    rcases hsn with ⟨q1, q2⟩ | ⟨b, q1, q2, q3, q4⟩
    · exact Or.inl ⟨q1, by rw [e]; exact q2⟩
    · exact Or.inr ⟨b, q1, by rw [e]; exact q2, ((q3.kh k1 (by omega) (by omega)).kp k2 (by omega)).kp k3 (by omega), q4⟩
  · rcases mem_pushH hb2 with q | q
    · exact hho b q
    · rw [q]; exact hok
  · exact ((htx.kh k1 (by omega)).kh k2.kh (by omega)).kh k3.kh (by omega)
theorem shF (hS : Sh w) : kd w 1 = 16 ∧ gr w 1 0 = some 2 ∧ gr w 1 1 = some 4 ∧ gr w 1 3 = some 6 ∧ gr w 1 4 = some 16 ∧ gr w 1 5 = some 21 ∧ gr w 1 6 = some 22 ∧ gr w 1 7 = some 27 ∧ gr w 1 8 = some 37 ∧ kd w 2 = 13 ∧ kd w 4 = 13 ∧ kd w 6 = 10 ∧ kd w 16 = 14 ∧ kd w 21 = 11 ∧ kd w 22 = 12 ∧ kd w 27 = 15 ∧ kd w 37 = 1 ∧ ln w 37 = 12 :=
  ⟨hS.1 1, hS.2.2 1 0 (by decide), hS.2.2 1 1 (by decide), hS.2.2 1 3 (by decide), hS.2.2 1 4 (by decide), hS.2.2 1 5 (by decide), hS.2.2 1 6 (by decide), hS.2.2 1 7 (by decide), hS.2.2 1 8 (by decide), hS.1 2, hS.1 4, hS.1 6, hS.1 16, hS.1 21, hS.1 22, hS.1 27, hS.1 37, hS.2.1 37⟩
theorem take_ok (h : ClS w A) (a b : Int) : OkI (run X (d + 6) 71 [.inr 1, .inl a, .inl b] w) (FO w (takeF A a b)) := by
  have hcs := h
  obtain ⟨hS, ⟨hb, hok⟩, hsn, ⟨hh, hho⟩, htx⟩ := h
  obtain ⟨k1, g0, g1, g3, g4, g5, g6, g7, g8, k2, k4, k6, k16, k21, k22, k27, k37, l37⟩ := shF hS
  have same : ∀ v, takeF A a b = (v, A) → ∃ x, some (Sum.inl v : MV) = some (.inl x) ∧ FO w (takeF A a b) x w := fun v e => ⟨v, rfl, by rw [e], by rw [e]; exact hcs, Kh.rf⟩
  have main : ∀ m : Int, (a = 0 ∧ m = 11) ∨ (a = 1 ∧ m = 3) → Ok (R X (d + 6) 71 22 [some (.inr 1), some (.inl a), some (.inl b), none] [.inl m] w) (fun v w' => ∃ x, v = some (.inl x) ∧ FO w (takeF A a b) x w') := by
    intro m hm
    have ha : a = 0 ∨ a = 1 := by omega
    have em : (if a = 0 then (11 : Int) else 3) = m := by
      rcases hm with ⟨q1, q2⟩ | ⟨q1, q2⟩
      · rw [if_pos q1, q2]
      · rw [if_neg (by omega), q2]
    refine ok_eq (b71_22 X (d + 5) 1 a b m w) (ok_if (fun hc => ok_ret (same (-2) ?_)) (fun hc => ok_if (fun hc2 => ok_gd k1 (ok_r g3 (ok_gd k1 (ok_r g0 (ok_gd k6 (ok_R (rem_ok (d := d + 4) hS hh hb) (fun c z ⟨q1, q2, q3, q4⟩ => ?_))))))) (fun hc2 => ok_ret (same (-2) ?_))))
    · unfold takeF
      rw [if_neg (fun q => q ha), if_pos (Or.inl hc)]
    rotate_left
    · unfold takeF
      rw [if_neg (fun q => q ha), em, if_pos (Or.inr (by omega))]
    have hSz := hS.kh q4
    obtain ⟨z1, y0, y1, y3, y4, y5, y6, y7, y8, z2, -⟩ := shF hSz
    refine ok_if (fun h1 => ok_gd z1 (ok_r y0 (ok_gd z2 (ok_V (sets_ok (d := d + 1) q3.ts (m := b) (by omega)) (fun u ⟨u1, u2⟩ => ?_))))) (fun h1 => ok_gd z1 (ok_r y0 (ok_gd z2 (ok_V (empty_ok (d := d + 2) q3.ts (k := 2) (by omega) (by omega)) (fun u ⟨u1, u2⟩ => ?_)))))
    · have hSu := hSz.kp u2
      obtain ⟨all, hall, eall⟩ : ∃ all, okAl all ∧ shlI 1 b = all + 1 := by
        have hm3 : b = 1 ∨ b = 2 ∨ b = 3 := by omega
        rcases hm3 with rfl | rfl | rfl
        · exact ⟨1, Or.inl rfl, by decide +kernel⟩
        · exact ⟨3, Or.inr (Or.inl rfl), by decide +kernel⟩
        · exact ⟨7, Or.inr (Or.inr rfl), by decide +kernel⟩
      have hall1 : 1 ≤ all ∧ all ≤ 7 := by rcases hall with rfl | rfl | rfl <;> decide
      have hal2 : all + 1 - 1 = all := by omega
      have hT2 : twf (tsets (shlI 1 b - 1)) (shlI 1 b) := by rw [eall, hal2]; exact twf_sets hall
      obtain ⟨r1, r2⟩ := hcs.act q4 q2 Kp.rf u2 (a := (shlI 1 b, tsets (shlI 1 b - 1))) u1 ⟨by dsimp only; omega, by dsimp only; omega, hT2⟩
      have e : takeF A a b = (shlI 1 b, push A (shlI 1 b, tsets (shlI 1 b - 1))) := by
        unfold takeF
        rw [if_neg (fun q => q ha), em, if_neg (by omega), if_neg h1]
      refine ok_gd (hSu.1 1) (ok_r (hSu.2.2 1 0 (by decide)) (ok_gd (hSu.1 2) (ok_ret ⟨_, rfl, ?_⟩)))
      rw [e]
      exact ⟨u1.sz, r1, r2⟩
    · have hSu := hSz.kp u2
      have ha0 : a = 0 := Decidable.not_not.mp h1
      refine ok_gd (hSu.1 1) (ok_r (hSu.2.2 1 0 (by decide)) (ok_gd (hSu.1 2) (ok_V (chain_ok (d := d + 2) u1 (twf_new (k := 2) (by omega)).1 (by omega) (m := b) (by omega) (by omega)) (fun v ⟨v1, v2⟩ => ?_))))
      have hSv := hSu.kp v2
      rw [show 2 + b - 1 = b + 1 by omega] at v1
      have hT2 : twf (tchain (tnew 2) 2 b) (b + 1) := by
        have := twf_chain (twf_new (k := 2) (by omega)) (by omega) (m := b) (by omega)
        rw [show 2 + b - 1 = b + 1 by omega] at this
        exact this
      obtain ⟨r1, r2⟩ := hcs.act q4 q2 Kp.rf (u2.tr v2) (a := (b + 1, tchain (tnew 2) 2 b)) v1 ⟨by dsimp only; omega, by dsimp only; omega, hT2⟩
      have e : takeF A a b = (b + 1, push A (b + 1, tchain (tnew 2) 2 b)) := by
        unfold takeF
        rw [if_neg (fun q => q ha), em, if_neg (by omega), if_pos ha0]
      refine ok_gd (hSv.1 1) (ok_r (hSv.2.2 1 0 (by decide)) (ok_gd (hSv.1 2) (ok_ret ⟨_, rfl, ?_⟩)))
      rw [e]
      exact ⟨v1.sz, r1, r2⟩
  have next : (a = 0 ∨ a = 1) → Ok (R X (d + 6) 71 12 [some (.inr 1), some (.inl a), some (.inl b), none] [] w) (fun v w' => ∃ x, v = some (.inl x) ∧ FO w (takeF A a b) x w') := fun ha => ok_eq (b71_12 X (d + 5) 1 a b w) (ok_if (fun hc => main 3 (Or.inr ⟨by omega, rfl⟩)) (fun hc => main 11 (Or.inl ⟨by omega, rfl⟩)))
  refine ok_eq (b71_0 X (d + 5) 1 a b w) (ok_if (fun hc => next (Or.inl hc)) (fun hc => ok_if (fun hc2 => next (Or.inr hc2)) (fun hc2 => ok_ret (same (-2) ?_))))
  unfold takeF
  rw [if_pos (fun q => q.elim hc hc2)]
theorem add_ok (h : ClS w A) : OkI (run X (d + 5) 72 [.inr 1] w) (FO w (addF A)) := by
  have hcs := h
  obtain ⟨hS, ⟨hb, hok⟩, hsn, ⟨hh, hho⟩, htx⟩ := h
  obtain ⟨k1, g0, g1, g3, g4, g5, g6, g7, g8, k2, k4, k6, k16, k21, k22, k27, k37, l37⟩ := shF hS
  obtain ⟨o1, o2, o3⟩ := hok
  refine ok_eq (b72_0 X (d + 4) 1 w) (ok_gd k1 (ok_r g0 (ok_gd k2 ?_)))
  rw [hb.sz]
  refine ok_if (fun hc => ok_gd k1 (ok_r g3 (ok_gd k1 (ok_r g0 (ok_gd k6 (ok_R (rem_ok (d := d + 3) hS hh hb) (fun c z ⟨q1, q2, q3, q4⟩ => ?_))))))) (fun hc => ok_ret ⟨_, rfl, ?_⟩)
  · have hSz := hS.kh q4
    refine ok_gd (hSz.1 1) (ok_r (hSz.2.2 1 0 (by decide)) (ok_gd (hSz.1 2) (ok_V (widen_ok (d := d + 2) q3 (k := 1) (by omega) (by omega)) (fun u ⟨u1, u2⟩ => ?_))))
    have hSu := hSz.kp u2
    obtain ⟨r1, r2⟩ := hcs.act q4 q2 Kp.rf u2 (a := (A.1.1 + 1, twid A.1.2 A.1.1 1)) u1 ⟨by dsimp only; omega, by dsimp only; omega, twf_wid o3 (by omega) (by omega)⟩
    refine ok_gd (hSu.1 1) (ok_r (hSu.2.2 1 0 (by decide)) (ok_gd (hSu.1 2) (ok_ret ⟨_, rfl, ?_⟩)))
    rw [u1.sz, wrap_id (by omega) (by omega), show addF A = (A.1.1, push A (A.1.1 + 1, twid A.1.2 A.1.1 1)) from if_pos hc]
    exact ⟨by dsimp only; omega, r1, r2⟩
  · rw [show addF A = (-3, A) from if_neg hc]
    exact ⟨rfl, hcs, Kh.rf⟩
end FC
