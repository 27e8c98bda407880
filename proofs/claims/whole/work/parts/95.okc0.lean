/-! the law's bytes against its table, some rows at a time -/
theorem okT_rows {k n : Nat} {t : List (List (Nat × MC))} (hl : t.length ≤ n) (h : ∀ j, j < n → ((t.getD j []).all fun q => okI k q.1 q.2) = true) : okT k t = true := by
  unfold okT
  refine List.all_eq_true.mpr (fun r hr => ?_)
  obtain ⟨j, hj⟩ := List.getElem?_of_mem hr
  have hlt := (List.getElem?_eq_some_iff.mp hj).1
  have := h j (by omega)
  rw [List.getD_eq_getElem?_getD, hj] at this
  exact this
theorem okT_part {k i m j : Nat} {t : List (List (Nat × MC))} (h : ((List.range' i m).all fun j => (t.getD j []).all fun q => okI k q.1 q.2) = true) (h1 : i ≤ j) (h2 : j < i + m) : ((t.getD j []).all fun q => okI k q.1 q.2) = true := List.all_eq_true.mp h j (List.mem_range'_1.mpr ⟨h1, h2⟩)
set_option maxRecDepth 100000 in
set_option maxHeartbeats 4000000 in
theorem okr0 : ((List.range' 0 4).all fun j => (co0.getD j []).all fun q => okI 0 q.1 q.2) = true := by decide +kernel
set_option maxRecDepth 100000 in
set_option maxHeartbeats 4000000 in
theorem okr4 : ((List.range' 4 4).all fun j => (co0.getD j []).all fun q => okI 0 q.1 q.2) = true := by decide +kernel
set_option maxRecDepth 100000 in
set_option maxHeartbeats 4000000 in
theorem okr8 : ((List.range' 8 4).all fun j => (co0.getD j []).all fun q => okI 0 q.1 q.2) = true := by decide +kernel
set_option maxRecDepth 100000 in
set_option maxHeartbeats 4000000 in
theorem okr12 : ((List.range' 12 4).all fun j => (co0.getD j []).all fun q => okI 0 q.1 q.2) = true := by decide +kernel
set_option maxRecDepth 100000 in
set_option maxHeartbeats 4000000 in
theorem okr16 : ((List.range' 16 4).all fun j => (co0.getD j []).all fun q => okI 0 q.1 q.2) = true := by decide +kernel
set_option maxRecDepth 100000 in
set_option maxHeartbeats 4000000 in
theorem okr20 : ((List.range' 20 4).all fun j => (co0.getD j []).all fun q => okI 0 q.1 q.2) = true := by decide +kernel
set_option maxRecDepth 100000 in
set_option maxHeartbeats 4000000 in
theorem okr24 : ((List.range' 24 4).all fun j => (co0.getD j []).all fun q => okI 0 q.1 q.2) = true := by decide +kernel
set_option maxRecDepth 100000 in
set_option maxHeartbeats 4000000 in
theorem okr28 : ((List.range' 28 4).all fun j => (co0.getD j []).all fun q => okI 0 q.1 q.2) = true := by decide +kernel
set_option maxRecDepth 100000 in
set_option maxHeartbeats 4000000 in
theorem okr32 : ((List.range' 32 4).all fun j => (co0.getD j []).all fun q => okI 0 q.1 q.2) = true := by decide +kernel
set_option maxRecDepth 100000 in
set_option maxHeartbeats 4000000 in
theorem okr36 : ((List.range' 36 4).all fun j => (co0.getD j []).all fun q => okI 0 q.1 q.2) = true := by decide +kernel
set_option maxRecDepth 100000 in
set_option maxHeartbeats 4000000 in
theorem okr40 : ((List.range' 40 4).all fun j => (co0.getD j []).all fun q => okI 0 q.1 q.2) = true := by decide +kernel
set_option maxRecDepth 100000 in
set_option maxHeartbeats 4000000 in
theorem okr44 : ((List.range' 44 4).all fun j => (co0.getD j []).all fun q => okI 0 q.1 q.2) = true := by decide +kernel
set_option maxRecDepth 100000 in
set_option maxHeartbeats 4000000 in
theorem okr48 : ((List.range' 48 4).all fun j => (co0.getD j []).all fun q => okI 0 q.1 q.2) = true := by decide +kernel
theorem okc0 : okT 0 co0 = true := okT_rows (n := 52) (show co0.length ≤ 52 by decide) (fun j hj => by
  by_cases h0 : j < 4
  · exact okT_part okr0 (by omega) (by omega)
  by_cases h4 : j < 8
  · exact okT_part okr4 (by omega) (by omega)
  by_cases h8 : j < 12
  · exact okT_part okr8 (by omega) (by omega)
  by_cases h12 : j < 16
  · exact okT_part okr12 (by omega) (by omega)
  by_cases h16 : j < 20
  · exact okT_part okr16 (by omega) (by omega)
  by_cases h20 : j < 24
  · exact okT_part okr20 (by omega) (by omega)
  by_cases h24 : j < 28
  · exact okT_part okr24 (by omega) (by omega)
  by_cases h28 : j < 32
  · exact okT_part okr28 (by omega) (by omega)
  by_cases h32 : j < 36
  · exact okT_part okr32 (by omega) (by omega)
  by_cases h36 : j < 40
  · exact okT_part okr36 (by omega) (by omega)
  by_cases h40 : j < 44
  · exact okT_part okr40 (by omega) (by omega)
  by_cases h44 : j < 48
  · exact okT_part okr44 (by omega) (by omega)
  by_cases h48 : j < 52
  · exact okT_part okr48 (by omega) (by omega)
  omega)
