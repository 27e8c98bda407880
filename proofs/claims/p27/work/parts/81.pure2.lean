/-! more pure facts: the row of blocks, multiples, sums of sets, weighings -/
theorem Sg_f {f : Int → Int} {u : Int} : ∀ N : Nat, Sg f u (N + 1) = f u + Sg f (u + 1) N
  | 0 => by
    show Sg f u 0 + f (u + ((0 : Nat) : Int)) = f u + Sg f (u + 1) 0
    rw [show u + ((0 : Nat) : Int) = u by omega]
    show 0 + f u = f u + 0
    omega
  | N + 1 => by
    have h := Sg_f (f := f) (u := u) N
    show Sg f u (N + 1) + f (u + ((N + 1 : Nat) : Int)) = f u + (Sg f (u + 1) N + f (u + 1 + (N : Int)))
    rw [h, show u + 1 + (N : Int) = u + ((N + 1 : Nat) : Int) by omega]
    omega
theorem Sg_mn {f : Int → Int} (hf : ∀ x, 0 ≤ f x) {u : Int} {a b : Nat} (h : a ≤ b) : Sg f u a ≤ Sg f u b := by
  obtain ⟨c, rfl⟩ := Nat.exists_eq_add_of_le h
  rw [Sg_split]
  have := Sg_nn (a := f) (lo := u + a) c (fun x _ _ => hf x)
  omega
section NT
variable {p : Int → Bool}
theorem nth_lt : ∀ (N : Nat) (u r : Int), 0 ≤ r → r < Sg (fun x => bI (p x = true)) u N → u ≤ nth p N u r ∧ nth p N u r < u + N ∧ p (nth p N u r) = true ∧ Sg (fun x => bI (p x = true)) u (nth p N u r - u).toNat = r
  | 0, u, r, h0, h => by
    have : Sg (fun x => bI (p x = true)) u 0 = 0 := rfl
    omega
  | N + 1, u, r, h0, h => by
    rw [Sg_f] at h
    rw [nth]
    by_cases e : p u = true
    · have e1 : bI (p u = true) = 1 := if_pos e
      rw [if_pos e]
      by_cases g : r = 0
      · rw [if_pos g]
        refine ⟨Int.le_refl _, by omega, e, ?_⟩
        rw [show (u - u).toNat = 0 by omega, g]
        rfl
      · rw [if_neg g]
        obtain ⟨q1, q2, q3, q4⟩ := nth_lt N (u + 1) (r - 1) (by omega) (by omega)
        refine ⟨by omega, by omega, q3, ?_⟩
        rw [show (nth p N (u + 1) (r - 1) - u).toNat = (nth p N (u + 1) (r - 1) - (u + 1)).toNat + 1 by omega, Sg_f, q4]
        omega
    · have e1 : bI (p u = true) = 0 := if_neg e
      rw [if_neg e]
      obtain ⟨q1, q2, q3, q4⟩ := nth_lt N (u + 1) r h0 (by omega)
      refine ⟨by omega, by omega, q3, ?_⟩
      rw [show (nth p N (u + 1) r - u).toNat = (nth p N (u + 1) r - (u + 1)).toNat + 1 by omega, Sg_f, q4]
      omega
theorem nth_ge : ∀ (N : Nat) (u r : Int), Sg (fun x => bI (p x = true)) u N ≤ r → nth p N u r = 0
  | 0, u, r, h => rfl
  | N + 1, u, r, h => by
    rw [Sg_f] at h
    have hn := Sg_nn (a := fun x => bI (p x = true)) (lo := u + 1) N (fun x _ _ => bI_rng.1)
    rw [nth]
    by_cases e : p u = true
    · have e1 : bI (p u = true) = 1 := if_pos e
      rw [if_pos e, if_neg (by omega)]
      exact nth_ge N (u + 1) (r - 1) (by omega)
    · have e1 : bI (p u = true) = 0 := if_neg e
      rw [if_neg e]
      exact nth_ge N (u + 1) r (by omega)
theorem nth_mono {N : Nat} {u r r' : Int} (h0 : 0 ≤ r) (h1 : r < r') (h2 : r' < Sg (fun x => bI (p x = true)) u N) : nth p N u r < nth p N u r' := by
  obtain ⟨-, -, -, a4⟩ := nth_lt (p := p) N u r h0 (by omega)
  obtain ⟨-, -, -, b4⟩ := nth_lt (p := p) N u r' (by omega) h2
  refine Classical.byContradiction fun hc => ?_
  have := Sg_mn (f := fun x => bI (p x = true)) (fun x => bI_rng.1) (u := u) (a := (nth p N u r' - u).toNat) (b := (nth p N u r - u).toNat) (by omega)
  omega
end NT
section BA
variable {n : Int} {t : Int → Int → Int}
theorem bka_lt (h0n : 0 ≤ n) (hn : n ≤ 12) {r : Int} (h0 : 0 ≤ r) (h1 : r < nbk t n) : 1 ≤ bkAt t n r ∧ bkAt t n r < shlI 1 n ∧ isBk t n (bkAt t n r) = true := by
  have hp := pw_rng h0n hn
  obtain ⟨q1, q2, q3, -⟩ := nth_lt (p := isBk t n) (shlI 1 n - 1).toNat 1 r h0 h1
  unfold bkAt
  exact ⟨q1, by omega, q3⟩
theorem bka_mono {r r' : Int} (h0 : 0 ≤ r) (h1 : r < r') (h2 : r' < nbk t n) : bkAt t n r < bkAt t n r' := nth_mono h0 h1 h2
theorem bka_end : bkAt t n (nbk t n) = 0 := nth_ge _ _ _ (Int.le_refl _)
theorem nbk_rng (hw : twf t n) (h2n : 2 ≤ n) (hn : n ≤ 12) : 1 ≤ nbk t n ∧ nbk t n ≤ 4096 := by
  have hp := pw_rng (n := n) (by omega) hn
  obtain ⟨u, u1, u2, u3⟩ := bk_ex hw h2n hn
  have h1 := Sg_ge (a := fun u => bI (isBk t n u = true)) (lo := 1) (y := u) (shlI 1 n - 1).toNat (fun x _ _ => bI_rng.1) u1 (by omega)
  have h2 := Sg_bd (f := fun u => bI (isBk t n u = true)) (lo := 1) (c := 1) (fun _ => bI_rng) (shlI 1 n - 1).toNat
  have e1 : bI (isBk t n u = true) = 1 := if_pos u3
  have e : nbk t n = Sg (fun u => bI (isBk t n u = true)) 1 (shlI 1 n - 1).toNat := rfl
  omega
theorem bka_apart (hw : twf t n) (h2n : 2 ≤ n) (hn : n ≤ 12) {r : Int} (h0 : 0 < r) (h1 : r < nbk t n) : andI (bkAt t n 0) (xorI (bkAt t n r) (-1)) ≠ 0 := by
  intro h
  obtain ⟨a1, a2, a3⟩ := bka_lt (t := t) (n := n) (by omega) hn (Int.le_refl 0) (by omega)
  obtain ⟨b1, b2, b3⟩ := bka_lt (t := t) (n := n) (by omega) hn (r := r) (by omega) h1
  have e := bk_in (by omega) hn a3 b3 (by omega) a2 (by omega) b2 h
  have := bka_mono (t := t) (n := n) (Int.le_refl 0) h0 h1
  omega
end BA
section TM
variable {t : Int → Int → Int} {s n : Int}
theorem tmF_rng : ∀ (k : Nat) (m v : Int), m ≤ tmF t s k m v ∧ tmF t s k m v ≤ m + k
  | 0, m, v => by
    show m ≤ m ∧ m ≤ m + ((0 : Nat) : Int)
    omega
  | k + 1, m, v => by
    rw [tmF]
    have := tmF_rng k (m + 1) (t v s)
    split <;> omega
theorem tmF_1 : tmF t s 19 1 s = 1 ↔ t s s = 12 := by
  rw [tmF]
  by_cases e : t s s = 12
  · rw [if_pos e]
    exact ⟨fun _ => e, fun _ => rfl⟩
  · rw [if_neg e]
    have := tmF_rng (t := t) (s := s) 18 (1 + 1) (t s s)
    constructor
    · intro h; omega
    · intro h; exact absurd h e
theorem soF_12 {u : Int} : ∀ (k : Nat) (i : Int), soF t u k i 12 = 12
  | 0, i => rfl
  | k + 1, i => by rw [soF, if_pos rfl]
theorem soF_skip {u : Int} : ∀ (m k : Nat) (i v : Int), (∀ j : Int, i ≤ j → j < i + m → tb u j.toNat = false) → soF t u (m + k) i v = soF t u k (i + m) v
  | 0, k, i, v, _ => by rw [Nat.zero_add, show i + ((0 : Nat) : Int) = i by omega]
  | m + 1, k, i, v, h => by
    by_cases e : v = 12
    · rw [e, soF_12, soF_12]
    · rw [show m + 1 + k = (m + k) + 1 by omega, soF, if_neg e, if_neg (by rw [h i (by omega) (by omega)]; decide), soF_skip m k (i + 1) v (fun j j0 j1 => h j (by omega) (by omega)), show i + 1 + (m : Int) = i + ((m + 1 : Nat) : Int) by omega]
theorem soF_hit {u : Int} {k : Nat} {i v : Int} (hv : v ≠ 12) (h : tb u i.toNat = true) : soF t u (k + 1) i v = soF t u k (i + 1) (t v i) := by
  rw [soF, if_neg hv, if_pos h]
/-- the sum of two things -/
theorem soF_two {a b : Int} (hw : twf t n) (hn : n ≤ 12) (h0 : 0 ≤ a) (h1 : a < b) (h2 : b < n) {u : Int} (hu : ∀ j : Int, 0 ≤ j → j < n → (tb u j.toNat = true ↔ j = a ∨ j = b)) : soF t u n.toNat 0 0 = t a b := by
  have hf : ∀ j : Int, 0 ≤ j → j < n → j ≠ a → j ≠ b → tb u j.toNat = false := fun j j0 j1 ja jb => by
    cases e : tb u j.toNat with
    | false => rfl
    | true => rcases (hu j j0 j1).mp e with q | q; exact absurd q ja; exact absurd q jb
  rw [show n.toNat = a.toNat + ((n - a - 1).toNat + 1) by omega, soF_skip a.toNat _ 0 0 (fun j j0 j1 => hf j j0 (by omega) (by omega) (by omega)), show 0 + ((a.toNat : Nat) : Int) = a by omega, soF_hit (by omega) ((hu a h0 (by omega)).mpr (Or.inl rfl)), hw.2.2.1 a h0 (by omega)]
  rw [show (n - a - 1).toNat = (b - a - 1).toNat + ((n - b - 1).toNat + 1) by omega, soF_skip (b - a - 1).toNat _ (a + 1) a (fun j j0 j1 => hf j (by omega) (by omega) (by omega) (by omega)), show a + 1 + ((b - a - 1).toNat : Int) = b by omega, soF_hit (by omega) ((hu b (by omega) h2).mpr (Or.inr rfl))]
  rw [show (n - b - 1).toNat = (n - b - 1).toNat + 0 by omega, soF_skip (n - b - 1).toNat 0 (b + 1) _ (fun j j0 j1 => hf j (by omega) (by omega) (by omega) (by omega))]
  rfl
theorem soF_0 (h0n : 0 ≤ n) (hn : n ≤ 12) : soF t 0 n.toNat 0 0 = 0 := by
  rw [show n.toNat = n.toNat + 0 by omega, soF_skip n.toNat 0 0 0 (fun j j0 j1 => tb_0 (by omega))]
  rfl
theorem two_bits {a b : Int} (h0a : 0 ≤ a) (h1a : a < n) (h0b : 0 ≤ b) (h1b : b < n) (hn : n ≤ 12) : (0 ≤ orI (shlI 1 a) (shlI 1 b) ∧ orI (shlI 1 a) (shlI 1 b) < shlI 1 n) ∧ ∀ j : Int, 0 ≤ j → j < n → (tb (orI (shlI 1 a) (shlI 1 b)) j.toNat = true ↔ j = a ∨ j = b) := by
  have hbit : ∀ i : Nat, i < 32 → tb (orI (shlI 1 a) (shlI 1 b)) i = (decide (i = a.toNat) || decide (i = b.toNat)) := fun i hi => by
    rw [tb_or, tb_shl h0a (by omega) hi, tb_shl h0b (by omega) hi]
  have hlt : 2 ^ a.toNat ||| 2 ^ b.toNat < 2 ^ n.toNat := Nat.or_lt_two_pow (Nat.pow_lt_pow_right (by omega) (by omega)) (Nat.pow_lt_pow_right (by omega) (by omega))
  have hN : shlI 1 n = ((2 ^ n.toNat : Nat) : Int) := shl1 (by omega) (by omega)
  have hp := pw_rng (n := n) (by omega) hn
  have e : orI (shlI 1 a) (shlI 1 b) = ((2 ^ a.toNat ||| 2 ^ b.toNat : Nat) : Int) := by
    refine tb_ext (inR_op _ _ _) (inR_nat (by omega)) (fun i hi => ?_)
    rw [hbit i hi, tb_nat hi, Nat.testBit_or, Nat.testBit_two_pow, Nat.testBit_two_pow]
    congr 1
    · exact decide_eq_decide.mpr ⟨fun q => q.symm, fun q => q.symm⟩
    · exact decide_eq_decide.mpr ⟨fun q => q.symm, fun q => q.symm⟩
  refine ⟨by omega, fun j j0 j1 => ?_⟩
  rw [hbit _ (by omega), Bool.or_eq_true, decide_eq_true_iff, decide_eq_true_iff]
  omega
end TM
section WC
variable {n k : Int} {t : Int → Int → Int} {f h : Int → Int}
theorem WgP_cg (hw : twf t n) (h2n : 2 ≤ n) (hf : WgP t n k f) (he : ∀ x, 0 ≤ x → x < n → h x = f x) : WgP t n k h := by
  obtain ⟨f1, f2, f3, f4⟩ := hf
  refine ⟨fun x x0 x1 => by rw [he x x0 x1]; exact f1 x x0 x1, by rw [he 0 (by omega) (by omega)]; exact f2, by rw [he 1 (by omega) (by omega)]; exact f3, fun a b a0 a1 b0 b1 hab => ?_⟩
  have hr := (hw.2.1 a b).resolve_left hab
  rw [he a a0 a1, he b b0 b1, he _ hr.1 hr.2]
  exact f4 a b a0 a1 b0 b1 hab
theorem WgP_rc (hw : twf t n) (h2n : 2 ≤ n) (hf : WgP t n k f) : ∃ f', Rc k (fun _ => True) n.toNat (fun _ => 0) f' ∧ WgP t n k f' ∧ ∀ x, 0 ≤ x → x < n → f' x = f x := by
  have he : ∀ x, 0 ≤ x → x < n → (if 0 ≤ x ∧ x < n then f x else 0) = f x := fun x x0 x1 => if_pos ⟨x0, x1⟩
  refine ⟨fun x => if 0 ≤ x ∧ x < n then f x else 0, fun x => ⟨fun q => ?_, fun q => if_neg (fun c => q ⟨c.1, by omega, trivial⟩)⟩, WgP_cg hw h2n hf he, he⟩
  have q2 := q.2.1
  dsimp only
  rw [he x q.1 (by omega)]
  exact hf.1 x q.1 (by omega)
theorem wc_ex (hw : twf t n) (h2n : 2 ≤ n) : 1 ≤ wcount t n k ↔ ∃ f, WgP t n k f := by
  unfold wcount
  rw [cnt_ex]
  constructor
  · rintro ⟨f, -, hf⟩
    exact ⟨f, hf⟩
  · rintro ⟨f, hf⟩
    obtain ⟨f', h1, h2, -⟩ := WgP_rc hw h2n hf
    exact ⟨f', h1, h2⟩
/-- all weighings weigh the first things alike -/
def agr (t : Int → Int → Int) (n k m : Int) : Prop := ∀ x, 0 ≤ x → x < m → ∀ f h, WgP t n k f → WgP t n k h → f x = h x
theorem wc_one (hw : twf t n) (h2n : 2 ≤ n) : wcount t n k = 1 ↔ (1 ≤ wcount t n k ∧ agr t n k n) := by
  constructor
  · intro e
    refine ⟨by omega, fun x x0 x1 f h hf hh => Classical.byContradiction fun hne => ?_⟩
    have hsum : wcount t n k = cnt k (fun _ => True) (fun g => WgP t n k g ∧ g x = f x) n.toNat (fun _ => 0) + cnt k (fun _ => True) (fun g => WgP t n k g ∧ g x ≠ f x) n.toNat (fun _ => 0) := by
      unfold wcount
      refine cnt_add _ _ (fun g _ => ⟨⟨fun q => ?_, fun q => ?_⟩, fun q => q.2.2 q.1.2⟩)
      · by_cases c : g x = f x
        · exact Or.inl ⟨q, c⟩
        · exact Or.inr ⟨q, c⟩
      · rcases q with q | q
        · exact q.1
        · exact q.1
    obtain ⟨f', f1, f2, f3⟩ := WgP_rc hw h2n hf
    obtain ⟨h', h1, h2, h3⟩ := WgP_rc hw h2n hh
    have a1 := cnt_pos (k := k) (p := fun _ => True) (P := fun g => WgP t n k g ∧ g x = f x) n.toNat (fun _ => 0) ⟨f', f1, f2, f3 x x0 x1⟩
    have a2 := cnt_pos (k := k) (p := fun _ => True) (P := fun g => WgP t n k g ∧ g x ≠ f x) n.toNat (fun _ => 0) ⟨h', h1, h2, by rw [h3 x x0 x1]; exact fun q => hne q.symm⟩
    omega
  · rintro ⟨h1, hA⟩
    unfold wcount at h1 ⊢
    obtain ⟨c, hc, hP⟩ := cnt_ex.mp h1
    refine cnt_one (c := c) n.toNat (fun _ => 0) (fun x x0 x1 _ => (hc x).1 ⟨x0, x1, trivial⟩) (fun g hg => ⟨fun q x x0 x1 _ => hA x x0 (by omega) g c q hP, fun q => WgP_cg hw h2n hP (fun x x0 x1 => q x x0 (by omega) trivial)⟩)
theorem lst_mst {a x y : Int} (ha : 0 ≤ a ∧ a < n) (hx : isLst t n k a x) (hy : isMst t n k a y) : 0 ≤ x ∧ x ≤ y ∧ y ≤ k ∧ (x = y ↔ ∀ f h, WgP t n k f → WgP t n k h → f a = h a) := by
  obtain ⟨⟨f, f1, f2⟩, f3⟩ := hx
  obtain ⟨⟨h, h1, h2⟩, h3⟩ := hy
  have b1 := f1.1 a ha.1 ha.2
  have b2 := h1.1 a ha.1 ha.2
  have b3 := f3 h h1
  refine ⟨by omega, by omega, by omega, fun e g g' hg hg' => ?_, fun e => ?_⟩
  · have := f3 g hg
    have := h3 g hg
    have := f3 g' hg'
    have := h3 g' hg'
    omega
  · have := e f h f1 h1
    omega
theorem agr_s {m : Int} (h0 : 0 ≤ m) : agr t n k (m + 1) ↔ agr t n k m ∧ ∀ f h, WgP t n k f → WgP t n k h → f m = h m := by
  constructor
  · intro h
    exact ⟨fun x x0 x1 => h x x0 (by omega), h m h0 (by omega)⟩
  · rintro ⟨h1, h2⟩ x x0 x1
    by_cases e : x = m
    · rw [e]; exact h2
    · exact h1 x x0 (by omega)
end WC
