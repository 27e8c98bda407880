/-! the objects, made -/
def GRf (a k : Nat) : Option Nat := if a = 7 then (if k < 4 then some (8 + 2 * k) else none) else (GRl.getD a []).getD k none
def tcl (a : Nat) : Prop := (2 ≤ a ∧ a ≤ 5) ∨ (8 ≤ a ∧ a ≤ 15) ∨ a = 38 ∨ a = 39
def CBd (M : Nat) (b : MW) (N S : Nat) (l : List (Nat × Nat)) (w : MW) : Prop := (nx w = N ∧ sl w = S) ∧ (∀ a, kd w a = if a < N then KDl.getD a 0 else 0) ∧ (∀ a, ln w a = if a < N then LNl.getD a 0 else 0) ∧ (∀ a k, gr w a k = if (a, k) ∈ l then GRf a k else none) ∧ (∀ p, p ∈ l → p.1 < N) ∧ (∀ a, (N ≤ a ∨ ¬ tcl a) → ∀ k, gi w a k = 0) ∧ M ≤ N ∧ ∀ a, a < M → ∀ j, gi w a j = gi b a j
section CT
variable {X : Nat × (Nat → Int)} {d M N S : Nat} {l : List (Nat × Nat)} {b w w' : MW}
theorem CBd.kdv (h : CBd M b N S l w) {a : Nat} (ha : a < N) : kd w a = KDl.getD a 0 := by rw [h.2.1 a, if_pos ha]
theorem CBd.lnv (h : CBd M b N S l w) {a : Nat} (ha : a < N) : ln w a = LNl.getD a 0 := by rw [h.2.2.1 a, if_pos ha]
theorem CBd.grv (h : CBd M b N S l w) {a k : Nat} (ha : (a, k) ∈ l) : gr w a k = GRf a k := by rw [h.2.2.2.1 a k, if_pos ha]
theorem CBd.nxv (h : CBd M b N S l w) : nx w = N := h.1.1
theorem CBd.base (h : CBd M b N S l w) {M2 : Nat} (hM : M2 ≤ N) : CBd M2 w N S l w := ⟨h.1, h.2.1, h.2.2.1, h.2.2.2.1, h.2.2.2.2.1, h.2.2.2.2.2.1, hM, fun _ _ _ => rfl⟩
theorem CBd.al (h : CBd M b N S l w) {kind len slots : Nat} (h1 : KDl.getD N 0 = kind) (h2 : LNl.getD N 0 = len) : CBd M b (N + 1) (S + slots) l (al w kind len slots) := by
  obtain ⟨⟨n1, n2⟩, hk, hl, hg, hp, hz, hM, hb⟩ := h
  refine ⟨⟨?_, ?_⟩, fun a => ?_, fun a => ?_, fun a k => ?_, fun p q => Nat.lt_succ_of_lt (hp p q), fun a ha k => ?_, by omega, fun a ha j => ?_⟩
  · show nx w + 1 = N + 1
    rw [n1]
  · show sl w + slots = S + slots
    rw [n2]
  · show (if a = nx w then kind else kd w a) = _
    rw [n1, hk a]
    by_cases e : a = N
    · rw [if_pos e, if_pos (by omega), e, h1]
    · rw [if_neg e]
      by_cases g : a < N
      · rw [if_pos g, if_pos (by omega)]
      · rw [if_neg g, if_neg (by omega)]
  · show (if a = nx w then len else ln w a) = _
    rw [n1, hl a]
    by_cases e : a = N
    · rw [if_pos e, if_pos (by omega), e, h2]
    · rw [if_neg e]
      by_cases g : a < N
      · rw [if_pos g, if_pos (by omega)]
      · rw [if_neg g, if_neg (by omega)]
  · show (if a = nx w then none else gr w a k) = _
    rw [n1, hg a k]
    by_cases e : a = N
    · rw [if_pos e, if_neg (fun q => by have := hp _ q; dsimp only at this; omega)]
    · rw [if_neg e]
  · show (if a = nx w then 0 else gi w a k) = 0
    rw [n1]
    by_cases e : a = N
    · rw [if_pos e]
    · rw [if_neg e]
      exact hz a (by rcases ha with q | q; exact Or.inl (by omega); exact Or.inr q) k
  · show (if a = nx w then 0 else gi w a j) = _
    rw [n1, if_neg (by omega)]
    exact hb a ha j
theorem CBd.sr (h : CBd M b N S l w) {a k v : Nat} (ha : a < N) (hg : GRf a k = some v) : CBd M b N S ((a, k) :: l) (sr w a k (some v)) := by
  obtain ⟨n, hk, hl, hgr, hp, hz, hM, hb⟩ := h
  refine ⟨n, hk, hl, fun c j => ?_, fun p q => ?_, hz, hM, hb⟩
  · rw [gr_sr, hgr c j]
    by_cases e : c = a ∧ j = k
    · rw [if_pos e, if_pos (by rw [e.1, e.2]; exact List.mem_cons_self), e.1, e.2, hg]
    · rw [if_neg e]
      by_cases g : (c, j) ∈ l
      · rw [if_pos g, if_pos (List.mem_cons_of_mem _ g)]
      · rw [if_neg g, if_neg (fun q => by
          rcases List.mem_cons.mp q with r | r
          · exact e ⟨congrArg Prod.fst r, congrArg Prod.snd r⟩
          · exact g r)]
  · rcases List.mem_cons.mp q with r | r
    · rw [r]; exact ha
    · exact hp p r
theorem CBd.si0 (h : CBd M b N S l w) {a k : Nat} (ha : ¬ tcl a) : CBd M b N S l (si w a k 0) := by
  obtain ⟨n, hk, hl, hgr, hp, hz, hM, hb⟩ := h
  have e : ∀ c j, gi (si w a k 0) c j = gi w c j := fun c j => by
    rw [gi_si]
    by_cases q : c = a ∧ j = k
    · rw [if_pos q, q.1, hz a (Or.inr ha)]
    · rw [if_neg q]
  exact ⟨n, hk, hl, hgr, hp, fun c hc j => (e c j).trans (hz c hc j), hM, fun c hc j => (e c j).trans (hb c hc j)⟩
theorem CBd.kp (h : CBd M b N S l w) {lo hi : Nat} (k : Kp lo hi w w') (hlo : M ≤ lo) (hhi : hi < N) (ht : ∀ a, lo ≤ a → a ≤ hi → tcl a) : CBd M b N S l w' := by
  obtain ⟨n, hk, hl, hgr, hp, hz, hM, hb⟩ := h
  have en : nx w' = nx w := by unfold nx; rw [k.1]
  have es : sl w' = sl w := by unfold sl; rw [k.1]
  refine ⟨⟨by rw [en]; exact n.1, by rw [es]; exact n.2⟩, fun a => by rw [k.kd]; exact hk a, fun a => by rw [k.ln]; exact hl a, fun a j => by rw [k.gr]; exact hgr a j, hp, fun a ha j => ?_, hM, fun a ha j => by rw [k.gi (by omega)]; exact hb a ha j⟩
  have : a < lo ∨ hi < a := by
    rcases ha with q | q
    · omega
    · exact Classical.byContradiction fun g => q (ht a (by omega) (by omega))
  rw [k.gi this]
  exact hz a ha j
theorem CBd.mk (h : CBd M b N S l w) {kind len slots a k : Nat} (h1 : KDl.getD N 0 = kind) (h2 : LNl.getD N 0 = len) (ha : a < N) (hg : GRf a k = some N) : CBd M b (N + 1) (S + slots) ((a, k) :: l) (_root_.Jvm.Pilot.@@N@@.sr (_root_.Jvm.Pilot.@@N@@.al w kind len slots) a k (some (nx w))) := (h.al h1 h2).sr (by omega) (by rw [hg, h.nxv])
theorem table_c {r : Nat} (h : CBd M b (r + 1) S l w) (hr : KDl.getD r 0 = 13) (h1 : KDl.getD (r + 1) 0 = 1) (h2 : LNl.getD (r + 1) 0 = 144) (hg : GRf r 1 = some (r + 1)) (ht : tcl r ∧ tcl (r + 1)) (hM : M ≤ r) : OkV (run X (d + 4) 23 [.inr r] w) (fun w' => CBd M b (r + 2) (S + 144) ((r, 1) :: l) w' ∧ Tb w' r 2 (tnew 2)) := by
  have c0 := h.al (slots := 144) h1 h2
  have c1 := h.mk (slots := 144) (a := r) (k := 1) h1 h2 (Nat.lt_succ_self r) hg
  have k1 : kd (_root_.Jvm.Pilot.@@N@@.sr (_root_.Jvm.Pilot.@@N@@.al w 1 144 144) r 1 (some (nx w))) r = 13 := (c1.kdv (by omega)).trans hr
  have hT : Ts (_root_.Jvm.Pilot.@@N@@.sr (_root_.Jvm.Pilot.@@N@@.al w 1 144 144) r 1 (some (nx w))) r := ⟨k1, (c1.kdv (by omega)).trans h1, (c1.lnv (by omega)).trans h2, by rw [c1.grv List.mem_cons_self, hg]⟩
  refine ok_eq (b23_0 X (d + 3) r w) (ok_gd ((c0.kdv (by omega)).trans hr) (ok_gd k1 (ok_V (empty_ok (d := d) hT (k := 2) (by omega) (by omega)) (fun z ⟨z1, z2⟩ => ok_ret ⟨rfl, c1.kp z2 hM (by omega) (fun a a0 a1 => ?_), z1⟩))))
  have : a = r ∨ a = r + 1 := by omega
  rcases this with e | e <;> rw [e]
  · exact ht.1
  · exact ht.2
theorem hist_i (i : Nat) (hi : i < 4) (h : CBd M b (8 + 2 * i) S l w) (h6 : (6, 1) ∈ l) (hM : M ≤ 8) {P : Option MV → MW → Prop} (k : ∀ w', CBd M b (8 + 2 * (i + 1)) (S + 2 + 144) ((7, i) :: (8 + 2 * i, 1) :: l) w' → Ok (R X (d + 5) 1 14 [some (.inr 6), some (.inl ((i + 1 : Nat) : Int))] [] w') P) : Ok (R X (d + 5) 1 14 [some (.inr 6), some (.inl (i : Int))] [] w) P := by
  have q1 : ∀ i, i < 4 → KDl.getD (8 + 2 * i) 0 = 13 ∧ LNl.getD (8 + 2 * i) 0 = 0 ∧ KDl.getD (8 + 2 * i + 1) 0 = 1 ∧ LNl.getD (8 + 2 * i + 1) 0 = 144 ∧ GRf (8 + 2 * i) 1 = some (8 + 2 * i + 1) ∧ GRf 7 i = some (8 + 2 * i) := by decide +kernel
  obtain ⟨a1, a2, a3, a4, a5, a6⟩ := q1 i hi
  have c0 := h.al (slots := 2) a1 a2
  refine ok_eq (b1_14 X (d + 4) 6 i w) (ok_iff (by omega) (ok_gd ((h.kdv (by omega)).trans rfl) (ok_r ((h.grv h6).trans rfl) ?_)))
  rw [h.nxv]
  refine ok_gd ((c0.kdv (by omega)).trans a1) (ok_V (table_c (d := d) c0 a1 a3 a4 a5 ⟨Or.inr (Or.inl (by omega)), Or.inr (Or.inl (by omega))⟩ (by omega)) (fun z ⟨z1, z2⟩ => ok_gd ⟨⟨(z1.kdv (by omega)).trans rfl, by omega, by rw [z1.lnv (by omega)]; show (i : Int) < ((4 : Nat) : Int); omega⟩, (z1.kdv (by omega)).trans a1⟩ ?_))
  rw [wrap_id (z := (i : Int) + 1) (by omega) (by omega), Int.toNat_natCast]
  have := z1.sr (a := 7) (k := i) (v := 8 + 2 * i) (by omega) a6
  exact k _ this
theorem hist_c (h : CBd M b 7 S l w) (hM : M ≤ 7) : OkV (run X (d + 5) 1 [.inr 6] w) (fun w' => ∃ S' l', S' = S + 588 ∧ l' = (7, 3) :: (14, 1) :: (7, 2) :: (12, 1) :: (7, 1) :: (10, 1) :: (7, 0) :: (8, 1) :: (6, 1) :: l ∧ CBd M b 16 S' l' w') := by
  have c0 := h.mk (slots := 4) (a := 6) (k := 1) (kind := 3) (len := 4) rfl rfl (by omega) rfl
  refine ok_eq (b1_0 X (d + 4) 6 w) (ok_gd (((h.al (slots := 4) (kind := 3) (len := 4) rfl rfl).kdv (by omega)).trans rfl) ?_)
  refine hist_i 0 (by omega) c0 List.mem_cons_self (by omega) (fun w1 c1 => ?_)
  refine hist_i 1 (by omega) c1 (by simp) (by omega) (fun w2 c2 => ?_)
  refine hist_i 2 (by omega) c2 (by simp) (by omega) (fun w3 c3 => ?_)
  refine hist_i 3 (by omega) c3 (by simp) (by omega) (fun w4 c4 => ?_)
  exact ok_eq (b1_14 X (d + 4) 6 4 w4) (ok_ift (by omega) (ok_ret ⟨rfl, _, _, by omega, rfl, c4⟩))
theorem rel_c (h : CBd M b 23 S l w) : OkV (run X d 10 [.inr 22] w) (fun w' => CBd M b 27 (S + 48) ((22, 3) :: (22, 2) :: (22, 1) :: (22, 0) :: l) w') := by
  have c0 := h.mk (slots := 12) (a := 22) (k := 0) (kind := 1) (len := 12) rfl rfl (by omega) rfl
  have c1 := c0.mk (slots := 12) (a := 22) (k := 1) (kind := 1) (len := 12) rfl rfl (by omega) rfl
  have c2 := c1.mk (slots := 12) (a := 22) (k := 2) (kind := 1) (len := 12) rfl rfl (by omega) rfl
  have c3 := c2.mk (slots := 12) (a := 22) (k := 3) (kind := 1) (len := 12) rfl rfl (by omega) rfl
  exact ok_eq (b10_0 X d 22 w) (ok_gd (((h.al (slots := 12) (kind := 1) (len := 12) rfl rfl).kdv (by omega)).trans rfl) (ok_gd (((c0.al (slots := 12) (kind := 1) (len := 12) rfl rfl).kdv (by omega)).trans rfl) (ok_gd (((c1.al (slots := 12) (kind := 1) (len := 12) rfl rfl).kdv (by omega)).trans rfl) (ok_gd (((c2.al (slots := 12) (kind := 1) (len := 12) rfl rfl).kdv (by omega)).trans rfl) (ok_ret ⟨rfl, c3⟩)))))
theorem text_c (h : CBd M b 17 S l w) : OkV (run X d 43 [.inr 16] w) (fun w' => CBd M b 21 (S + 105) ((16, 6) :: (16, 5) :: (16, 4) :: (16, 1) :: l) w') := by
  have c0 := h.mk (slots := 60) (a := 16) (k := 1) (kind := 2) (len := 60) rfl rfl (by omega) rfl
  have c1 := c0.mk (slots := 15) (a := 16) (k := 4) (kind := 1) (len := 15) rfl rfl (by omega) rfl
  have c2 := c1.mk (slots := 15) (a := 16) (k := 5) (kind := 1) (len := 15) rfl rfl (by omega) rfl
  have c3 := c2.mk (slots := 15) (a := 16) (k := 6) (kind := 1) (len := 15) rfl rfl (by omega) rfl
  exact ok_eq (b43_0 X d 16 w) (ok_gd (((h.al (slots := 60) (kind := 2) (len := 60) rfl rfl).kdv (by omega)).trans rfl) (ok_gd (((c0.al (slots := 15) (kind := 1) (len := 15) rfl rfl).kdv (by omega)).trans rfl) (ok_gd (((c1.al (slots := 15) (kind := 1) (len := 15) rfl rfl).kdv (by omega)).trans rfl) (ok_gd (((c2.al (slots := 15) (kind := 1) (len := 15) rfl rfl).kdv (by omega)).trans rfl) (ok_ret ⟨rfl, c3⟩)))))
theorem wts_c (h : CBd M b 28 S l w) : OkV (run X d 53 [.inr 27] w) (fun w' => CBd M b 37 (S + 534) ((27, 11) :: (27, 10) :: (27, 9) :: (27, 8) :: (27, 7) :: (27, 6) :: (27, 3) :: (27, 2) :: (27, 1) :: l) w') := by
  have c0 := h.mk (slots := 12) (a := 27) (k := 1) (kind := 1) (len := 12) rfl rfl (by omega) rfl
  have c1 := c0.mk (slots := 12) (a := 27) (k := 2) (kind := 1) (len := 12) rfl rfl (by omega) rfl
  have c2 := c1.mk (slots := 12) (a := 27) (k := 3) (kind := 1) (len := 12) rfl rfl (by omega) rfl
  have c3 := c2.mk (slots := 66) (a := 27) (k := 6) (kind := 1) (len := 66) rfl rfl (by omega) rfl
  have c4 := c3.mk (slots := 66) (a := 27) (k := 7) (kind := 1) (len := 66) rfl rfl (by omega) rfl
  have c5 := c4.mk (slots := 66) (a := 27) (k := 8) (kind := 1) (len := 66) rfl rfl (by omega) rfl
  have c6 := c5.mk (slots := 144) (a := 27) (k := 9) (kind := 1) (len := 144) rfl rfl (by omega) rfl
  have c7 := c6.mk (slots := 144) (a := 27) (k := 10) (kind := 1) (len := 144) rfl rfl (by omega) rfl
  have c8 := c7.mk (slots := 12) (a := 27) (k := 11) (kind := 1) (len := 12) rfl rfl (by omega) rfl
  exact ok_eq (b53_0 X d 27 w) (ok_gd (((h.al (slots := 12) (kind := 1) (len := 12) rfl rfl).kdv (by omega)).trans rfl) (ok_gd (((c0.al (slots := 12) (kind := 1) (len := 12) rfl rfl).kdv (by omega)).trans rfl) (ok_gd (((c1.al (slots := 12) (kind := 1) (len := 12) rfl rfl).kdv (by omega)).trans rfl) (ok_gd (((c2.al (slots := 66) (kind := 1) (len := 66) rfl rfl).kdv (by omega)).trans rfl) (ok_gd (((c3.al (slots := 66) (kind := 1) (len := 66) rfl rfl).kdv (by omega)).trans rfl) (ok_gd (((c4.al (slots := 66) (kind := 1) (len := 66) rfl rfl).kdv (by omega)).trans rfl) (ok_gd (((c5.al (slots := 144) (kind := 1) (len := 144) rfl rfl).kdv (by omega)).trans rfl) (ok_gd (((c6.al (slots := 144) (kind := 1) (len := 144) rfl rfl).kdv (by omega)).trans rfl) (ok_gd (((c7.al (slots := 12) (kind := 1) (len := 12) rfl rfl).kdv (by omega)).trans rfl) (ok_ret ⟨rfl, c8⟩))))))))))
end CT
