/-! of the text that is read: its cells, and what other parts use of the lists of sums -/
abbrev T3 : Type := Int × Int × Int
def Tx (w : MW) (L : Int) (c : Int → Int) : Prop := gi w 16 0 = L ∧ (0 ≤ L ∧ L ≤ 60) ∧ ∀ j : Int, 0 ≤ j → j < L → gi w 17 j.toNat = c j
theorem get_app {α : Type} {l : List α} {s r : α} {i : Nat} (h : (l ++ [s])[i]? = some r) : l[i]? = some r ∨ (i = l.length ∧ r = s) := by
  rw [List.getElem?_append] at h
  split at h
  · exact Or.inl h
  · next hl =>
    by_cases e : i - l.length = 0
    · rw [e] at h
      simp at h
      exact Or.inr ⟨by omega, h.symm⟩
    · rw [show i - l.length = (i - l.length - 1) + 1 by omega] at h
      simp at h
section TX
variable {acc : List T3}
def anyT (P : T3 → Prop) (acc : List T3) (i : Int) : Prop := ∃ (k : Nat) (s : T3), (k : Int) < i ∧ acc[k]? = some s ∧ P s
theorem anyT_s {P : T3 → Prop} {i : Int} {s : T3} (h0 : 0 ≤ i) (hs : acc[i.toNat]? = some s) : anyT P acc (i + 1) ↔ anyT P acc i ∨ P s := by
  constructor
  · rintro ⟨k, r, h1, h2, h3⟩
    by_cases e : k = i.toNat
    · rw [e, hs] at h2
      cases h2
      exact Or.inr h3
    · exact Or.inl ⟨k, r, by omega, h2, h3⟩
  · rintro (⟨k, r, h1, h2, h3⟩ | h)
    · exact ⟨k, r, by omega, h2, h3⟩
    · exact ⟨i.toNat, s, by omega, hs, h⟩
theorem anyT_0 {P : T3 → Prop} : ¬ anyT P acc 0 := fun ⟨k, s, h1, _⟩ => by omega
def putF (t : Int → Int → Int) (acc : List T3) : Int → Int → Int := acc.foldl (fun t s => tput t s.1 s.2.1 s.2.2) t
end TX
