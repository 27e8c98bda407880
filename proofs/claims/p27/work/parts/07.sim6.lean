/-! the check of the code tables against the machine's bytes and words -/
def wk (pl : Nat) (w : Cond) : Bool := decide (lw_tbl[pl]? = some w) && goodWord w
theorem wk_mem {pl : Nat} {w : Cond} (h : wk pl w = true) : w ∈ gtbl := by
  unfold wk at h
  rw [Bool.and_eq_true, decide_eq_true_eq] at h
  exact List.mem_filter.mpr ⟨List.mem_of_getElem? h.1, h.2⟩
theorem gmem {w : Cond} (pl : Nat) (h : lw_tbl[pl]? = some w) (hg : goodWord w = true) : w ∈ gtbl := List.mem_filter.mpr ⟨List.mem_of_getElem? h, hg⟩
def npsL : List (List Nat) := [[1, 0, 1, 0, 1, 0, 1, 3, 2, 4, 0, 1, 4, 1, 2, 1], [0, 1, 0, 0, 0, 1, 1, 0, 1, 2, 2, 3, 1, 1, 1, 2], [1, 1, 2, 1, 1, 2, 2, 1, 1, 0, 2, 0, 0, 0, 0, 0], [0, 0, 0, 0, 0, 0, 2, 1, 1, 1, 3, 3, 1, 1, 0, 2], [2, 2, 4, 2, 1, 2, 0, 2, 0, 1, 3, 2, 0, 1, 0, 2], [0, 0, 0, 0, 0, 2, 2, 1, 2, 1, 2, 1, 2, 3, 1, 1], [1, 1, 1, 2, 1, 2, 2, 3, 2, 1, 3]]
def nps (k : Nat) : Nat := (npsL.getD (k / 16) []).getD (k % 16) 99
set_option maxRecDepth 20000 in
theorem cok1 : CalleeOk 1 0 := ⟨⟨gmem 79 rfl rfl, gmem 26 rfl rfl⟩, by decide +kernel, by decide +kernel⟩
set_option maxRecDepth 20000 in
theorem cok2 : CalleeOk 2 1 := ⟨⟨gmem 368 rfl rfl, gmem 26 rfl rfl⟩, by decide +kernel, by decide +kernel⟩
set_option maxRecDepth 20000 in
theorem cok3 : CalleeOk 3 0 := ⟨⟨gmem 372 rfl rfl, gmem 26 rfl rfl⟩, by decide +kernel, by decide +kernel⟩
set_option maxRecDepth 20000 in
theorem cok4 : CalleeOk 4 1 := ⟨⟨gmem 437 rfl rfl, gmem 26 rfl rfl⟩, by decide +kernel, by decide +kernel⟩
set_option maxRecDepth 20000 in
theorem cok5 : CalleeOk 5 0 := ⟨⟨gmem 123 rfl rfl, gmem 28 rfl rfl⟩, by decide +kernel, by decide +kernel⟩
set_option maxRecDepth 20000 in
theorem cok6 : CalleeOk 6 1 := ⟨⟨gmem 267 rfl rfl, gmem 28 rfl rfl⟩, by decide +kernel, by decide +kernel⟩
set_option maxRecDepth 20000 in
theorem cok7 : CalleeOk 7 3 := ⟨⟨gmem 271 rfl rfl, gmem 28 rfl rfl⟩, by decide +kernel, by decide +kernel⟩
set_option maxRecDepth 20000 in
theorem cok8 : CalleeOk 8 2 := ⟨⟨gmem 282 rfl rfl, gmem 28 rfl rfl⟩, by decide +kernel, by decide +kernel⟩
set_option maxRecDepth 20000 in
theorem cok9 : CalleeOk 9 4 := ⟨⟨gmem 279 rfl rfl, gmem 28 rfl rfl⟩, by decide +kernel, by decide +kernel⟩
set_option maxRecDepth 20000 in
theorem cok10 : CalleeOk 10 0 := ⟨⟨gmem 150 rfl rfl, gmem 29 rfl rfl⟩, by decide +kernel, by decide +kernel⟩
set_option maxRecDepth 20000 in
theorem cok11 : CalleeOk 11 1 := ⟨⟨gmem 300 rfl rfl, gmem 29 rfl rfl⟩, by decide +kernel, by decide +kernel⟩
set_option maxRecDepth 20000 in
theorem cok12 : CalleeOk 12 4 := ⟨⟨gmem 316 rfl rfl, gmem 29 rfl rfl⟩, by decide +kernel, by decide +kernel⟩
set_option maxRecDepth 20000 in
theorem cok13 : CalleeOk 13 1 := ⟨⟨gmem 333 rfl rfl, gmem 29 rfl rfl⟩, by decide +kernel, by decide +kernel⟩
set_option maxRecDepth 20000 in
theorem cok14 : CalleeOk 14 2 := ⟨⟨gmem 337 rfl rfl, gmem 29 rfl rfl⟩, by decide +kernel, by decide +kernel⟩
set_option maxRecDepth 20000 in
theorem cok15 : CalleeOk 15 1 := ⟨⟨gmem 345 rfl rfl, gmem 29 rfl rfl⟩, by decide +kernel, by decide +kernel⟩
set_option maxRecDepth 20000 in
theorem cok16 : CalleeOk 16 0 := ⟨⟨gmem 329 rfl rfl, gmem 29 rfl rfl⟩, by decide +kernel, by decide +kernel⟩
set_option maxRecDepth 20000 in
theorem cok17 : CalleeOk 17 1 := ⟨⟨gmem 501 rfl rfl, gmem 29 rfl rfl⟩, by decide +kernel, by decide +kernel⟩
set_option maxRecDepth 20000 in
theorem cok18 : CalleeOk 18 0 := ⟨⟨gmem 341 rfl rfl, gmem 29 rfl rfl⟩, by decide +kernel, by decide +kernel⟩
set_option maxRecDepth 20000 in
theorem cok19 : CalleeOk 19 0 := ⟨⟨gmem 349 rfl rfl, gmem 29 rfl rfl⟩, by decide +kernel, by decide +kernel⟩
set_option maxRecDepth 20000 in
theorem cok20 : CalleeOk 20 0 := ⟨⟨gmem 321 rfl rfl, gmem 29 rfl rfl⟩, by decide +kernel, by decide +kernel⟩
set_option maxRecDepth 20000 in
theorem cok21 : CalleeOk 21 1 := ⟨⟨gmem 497 rfl rfl, gmem 29 rfl rfl⟩, by decide +kernel, by decide +kernel⟩
set_option maxRecDepth 20000 in
theorem cok22 : CalleeOk 22 1 := ⟨⟨gmem 325 rfl rfl, gmem 29 rfl rfl⟩, by decide +kernel, by decide +kernel⟩
set_option maxRecDepth 20000 in
theorem cok23 : CalleeOk 23 0 := ⟨⟨gmem 45 rfl rfl, gmem 25 rfl rfl⟩, by decide +kernel, by decide +kernel⟩
set_option maxRecDepth 20000 in
theorem cok24 : CalleeOk 24 1 := ⟨⟨gmem 62 rfl rfl, gmem 25 rfl rfl⟩, by decide +kernel, by decide +kernel⟩
set_option maxRecDepth 20000 in
theorem cok25 : CalleeOk 25 2 := ⟨⟨gmem 275 rfl rfl, gmem 25 rfl rfl⟩, by decide +kernel, by decide +kernel⟩
set_option maxRecDepth 20000 in
theorem cok26 : CalleeOk 26 2 := ⟨⟨gmem 286 rfl rfl, gmem 25 rfl rfl⟩, by decide +kernel, by decide +kernel⟩
set_option maxRecDepth 20000 in
theorem cok27 : CalleeOk 27 3 := ⟨⟨gmem 58 rfl rfl, gmem 25 rfl rfl⟩, by decide +kernel, by decide +kernel⟩
set_option maxRecDepth 20000 in
theorem cok28 : CalleeOk 28 1 := ⟨⟨gmem 50 rfl rfl, gmem 25 rfl rfl⟩, by decide +kernel, by decide +kernel⟩
set_option maxRecDepth 20000 in
theorem cok29 : CalleeOk 29 1 := ⟨⟨gmem 54 rfl rfl, gmem 25 rfl rfl⟩, by decide +kernel, by decide +kernel⟩
set_option maxRecDepth 20000 in
theorem cok30 : CalleeOk 30 1 := ⟨⟨gmem 256 rfl rfl, gmem 25 rfl rfl⟩, by decide +kernel, by decide +kernel⟩
set_option maxRecDepth 20000 in
theorem cok31 : CalleeOk 31 2 := ⟨⟨gmem 402 rfl rfl, gmem 25 rfl rfl⟩, by decide +kernel, by decide +kernel⟩
set_option maxRecDepth 20000 in
theorem cok32 : CalleeOk 32 1 := ⟨⟨gmem 378 rfl rfl, gmem 25 rfl rfl⟩, by decide +kernel, by decide +kernel⟩
set_option maxRecDepth 20000 in
theorem cok33 : CalleeOk 33 1 := ⟨⟨gmem 382 rfl rfl, gmem 25 rfl rfl⟩, by decide +kernel, by decide +kernel⟩
set_option maxRecDepth 20000 in
theorem cok34 : CalleeOk 34 2 := ⟨⟨gmem 385 rfl rfl, gmem 25 rfl rfl⟩, by decide +kernel, by decide +kernel⟩
set_option maxRecDepth 20000 in
theorem cok35 : CalleeOk 35 1 := ⟨⟨gmem 414 rfl rfl, gmem 25 rfl rfl⟩, by decide +kernel, by decide +kernel⟩
set_option maxRecDepth 20000 in
theorem cok36 : CalleeOk 36 1 := ⟨⟨gmem 417 rfl rfl, gmem 25 rfl rfl⟩, by decide +kernel, by decide +kernel⟩
set_option maxRecDepth 20000 in
theorem cok37 : CalleeOk 37 2 := ⟨⟨gmem 420 rfl rfl, gmem 25 rfl rfl⟩, by decide +kernel, by decide +kernel⟩
set_option maxRecDepth 20000 in
theorem cok38 : CalleeOk 38 2 := ⟨⟨gmem 308 rfl rfl, gmem 25 rfl rfl⟩, by decide +kernel, by decide +kernel⟩
set_option maxRecDepth 20000 in
theorem cok39 : CalleeOk 39 1 := ⟨⟨gmem 304 rfl rfl, gmem 25 rfl rfl⟩, by decide +kernel, by decide +kernel⟩
set_option maxRecDepth 20000 in
theorem cok40 : CalleeOk 40 1 := ⟨⟨gmem 482 rfl rfl, gmem 25 rfl rfl⟩, by decide +kernel, by decide +kernel⟩
set_option maxRecDepth 20000 in
theorem cok41 : CalleeOk 41 0 := ⟨⟨gmem 295 rfl rfl, gmem 25 rfl rfl⟩, by decide +kernel, by decide +kernel⟩
set_option maxRecDepth 20000 in
theorem cok42 : CalleeOk 42 2 := ⟨⟨gmem 428 rfl rfl, gmem 25 rfl rfl⟩, by decide +kernel, by decide +kernel⟩
set_option maxRecDepth 20000 in
theorem cok43 : CalleeOk 43 0 := ⟨⟨gmem 96 rfl rfl, gmem 27 rfl rfl⟩, by decide +kernel, by decide +kernel⟩
set_option maxRecDepth 20000 in
theorem cok53 : CalleeOk 53 0 := ⟨⟨gmem 175 rfl rfl, gmem 30 rfl rfl⟩, by decide +kernel, by decide +kernel⟩
set_option maxRecDepth 20000 in
theorem cok54 : CalleeOk 54 2 := ⟨⟨gmem 515 rfl rfl, gmem 30 rfl rfl⟩, by decide +kernel, by decide +kernel⟩
set_option maxRecDepth 20000 in
theorem cok55 : CalleeOk 55 1 := ⟨⟨gmem 519 rfl rfl, gmem 30 rfl rfl⟩, by decide +kernel, by decide +kernel⟩
set_option maxRecDepth 20000 in
theorem cok56 : CalleeOk 56 1 := ⟨⟨gmem 524 rfl rfl, gmem 30 rfl rfl⟩, by decide +kernel, by decide +kernel⟩
set_option maxRecDepth 20000 in
theorem cok57 : CalleeOk 57 1 := ⟨⟨gmem 528 rfl rfl, gmem 30 rfl rfl⟩, by decide +kernel, by decide +kernel⟩
set_option maxRecDepth 20000 in
theorem cok58 : CalleeOk 58 3 := ⟨⟨gmem 536 rfl rfl, gmem 30 rfl rfl⟩, by decide +kernel, by decide +kernel⟩
set_option maxRecDepth 20000 in
theorem cok59 : CalleeOk 59 3 := ⟨⟨gmem 540 rfl rfl, gmem 30 rfl rfl⟩, by decide +kernel, by decide +kernel⟩
set_option maxRecDepth 20000 in
theorem cok60 : CalleeOk 60 1 := ⟨⟨gmem 532 rfl rfl, gmem 30 rfl rfl⟩, by decide +kernel, by decide +kernel⟩
set_option maxRecDepth 20000 in
theorem cok61 : CalleeOk 61 1 := ⟨⟨gmem 548 rfl rfl, gmem 30 rfl rfl⟩, by decide +kernel, by decide +kernel⟩
set_option maxRecDepth 20000 in
theorem cok62 : CalleeOk 62 0 := ⟨⟨gmem 544 rfl rfl, gmem 30 rfl rfl⟩, by decide +kernel, by decide +kernel⟩
set_option maxRecDepth 20000 in
theorem cok63 : CalleeOk 63 2 := ⟨⟨gmem 552 rfl rfl, gmem 30 rfl rfl⟩, by decide +kernel, by decide +kernel⟩
set_option maxRecDepth 20000 in
theorem cok64 : CalleeOk 64 2 := ⟨⟨gmem 559 rfl rfl, gmem 30 rfl rfl⟩, by decide +kernel, by decide +kernel⟩
set_option maxRecDepth 20000 in
theorem cok65 : CalleeOk 65 2 := ⟨⟨gmem 563 rfl rfl, gmem 30 rfl rfl⟩, by decide +kernel, by decide +kernel⟩
set_option maxRecDepth 20000 in
theorem cok66 : CalleeOk 66 4 := ⟨⟨gmem 578 rfl rfl, gmem 30 rfl rfl⟩, by decide +kernel, by decide +kernel⟩
set_option maxRecDepth 20000 in
theorem cok67 : CalleeOk 67 2 := ⟨⟨gmem 567 rfl rfl, gmem 30 rfl rfl⟩, by decide +kernel, by decide +kernel⟩
set_option maxRecDepth 20000 in
theorem cok68 : CalleeOk 68 1 := ⟨⟨gmem 582 rfl rfl, gmem 30 rfl rfl⟩, by decide +kernel, by decide +kernel⟩
set_option maxRecDepth 20000 in
theorem cok69 : CalleeOk 69 2 := ⟨⟨gmem 571 rfl rfl, gmem 30 rfl rfl⟩, by decide +kernel, by decide +kernel⟩
set_option maxRecDepth 20000 in
theorem cok70 : CalleeOk 70 0 := ⟨⟨gmem 37 rfl rfl, gmem 24 rfl rfl⟩, by decide +kernel, by decide +kernel⟩
set_option maxRecDepth 20000 in
theorem cok71 : CalleeOk 71 2 := ⟨⟨gmem 364 rfl rfl, gmem 24 rfl rfl⟩, by decide +kernel, by decide +kernel⟩
set_option maxRecDepth 20000 in
theorem cok72 : CalleeOk 72 0 := ⟨⟨gmem 389 rfl rfl, gmem 24 rfl rfl⟩, by decide +kernel, by decide +kernel⟩
set_option maxRecDepth 20000 in
theorem cok73 : CalleeOk 73 1 := ⟨⟨gmem 394 rfl rfl, gmem 24 rfl rfl⟩, by decide +kernel, by decide +kernel⟩
set_option maxRecDepth 20000 in
theorem cok74 : CalleeOk 74 3 := ⟨⟨gmem 451 rfl rfl, gmem 24 rfl rfl⟩, by decide +kernel, by decide +kernel⟩
set_option maxRecDepth 20000 in
theorem cok75 : CalleeOk 75 2 := ⟨⟨gmem 445 rfl rfl, gmem 24 rfl rfl⟩, by decide +kernel, by decide +kernel⟩
set_option maxRecDepth 20000 in
theorem cok77 : CalleeOk 77 1 := ⟨⟨gmem 406 rfl rfl, gmem 24 rfl rfl⟩, by decide +kernel, by decide +kernel⟩
set_option maxRecDepth 20000 in
theorem cok78 : CalleeOk 78 0 := ⟨⟨gmem 410 rfl rfl, gmem 24 rfl rfl⟩, by decide +kernel, by decide +kernel⟩
set_option maxRecDepth 20000 in
theorem cok79 : CalleeOk 79 2 := ⟨⟨gmem 424 rfl rfl, gmem 24 rfl rfl⟩, by decide +kernel, by decide +kernel⟩
set_option maxRecDepth 20000 in
theorem cok82 : CalleeOk 82 0 := ⟨⟨gmem 433 rfl rfl, gmem 24 rfl rfl⟩, by decide +kernel, by decide +kernel⟩
set_option maxRecDepth 20000 in
theorem cok83 : CalleeOk 83 0 := ⟨⟨gmem 252 rfl rfl, gmem 24 rfl rfl⟩, by decide +kernel, by decide +kernel⟩
set_option maxRecDepth 20000 in
theorem cok84 : CalleeOk 84 0 := ⟨⟨gmem 441 rfl rfl, gmem 24 rfl rfl⟩, by decide +kernel, by decide +kernel⟩
set_option maxRecDepth 20000 in
theorem cok85 : CalleeOk 85 2 := ⟨⟨gmem 458 rfl rfl, gmem 24 rfl rfl⟩, by decide +kernel, by decide +kernel⟩
set_option maxRecDepth 20000 in
theorem cok86 : CalleeOk 86 2 := ⟨⟨gmem 465 rfl rfl, gmem 24 rfl rfl⟩, by decide +kernel, by decide +kernel⟩
set_option maxRecDepth 20000 in
theorem cok87 : CalleeOk 87 1 := ⟨⟨gmem 263 rfl rfl, gmem 24 rfl rfl⟩, by decide +kernel, by decide +kernel⟩
set_option maxRecDepth 20000 in
theorem cok88 : CalleeOk 88 2 := ⟨⟨gmem 475 rfl rfl, gmem 24 rfl rfl⟩, by decide +kernel, by decide +kernel⟩
set_option maxRecDepth 20000 in
theorem cok89 : CalleeOk 89 1 := ⟨⟨gmem 470 rfl rfl, gmem 24 rfl rfl⟩, by decide +kernel, by decide +kernel⟩
set_option maxRecDepth 20000 in
theorem cok90 : CalleeOk 90 2 := ⟨⟨gmem 493 rfl rfl, gmem 24 rfl rfl⟩, by decide +kernel, by decide +kernel⟩
set_option maxRecDepth 20000 in
theorem cok91 : CalleeOk 91 1 := ⟨⟨gmem 508 rfl rfl, gmem 24 rfl rfl⟩, by decide +kernel, by decide +kernel⟩
set_option maxRecDepth 20000 in
theorem cok92 : CalleeOk 92 2 := ⟨⟨gmem 587 rfl rfl, gmem 24 rfl rfl⟩, by decide +kernel, by decide +kernel⟩
set_option maxRecDepth 20000 in
theorem cok93 : CalleeOk 93 3 := ⟨⟨gmem 595 rfl rfl, gmem 24 rfl rfl⟩, by decide +kernel, by decide +kernel⟩
set_option maxRecDepth 20000 in
theorem cok94 : CalleeOk 94 1 := ⟨⟨gmem 291 rfl rfl, gmem 24 rfl rfl⟩, by decide +kernel, by decide +kernel⟩
set_option maxRecDepth 20000 in
theorem cok95 : CalleeOk 95 1 := ⟨⟨gmem 312 rfl rfl, gmem 24 rfl rfl⟩, by decide +kernel, by decide +kernel⟩
set_option maxRecDepth 20000 in
theorem cok96 : CalleeOk 96 1 := ⟨⟨gmem 398 rfl rfl, gmem 24 rfl rfl⟩, by decide +kernel, by decide +kernel⟩
set_option maxRecDepth 20000 in
theorem cok97 : CalleeOk 97 1 := ⟨⟨gmem 461 rfl rfl, gmem 24 rfl rfl⟩, by decide +kernel, by decide +kernel⟩
set_option maxRecDepth 20000 in
theorem cok98 : CalleeOk 98 1 := ⟨⟨gmem 511 rfl rfl, gmem 24 rfl rfl⟩, by decide +kernel, by decide +kernel⟩
set_option maxRecDepth 20000 in
theorem cok99 : CalleeOk 99 2 := ⟨⟨gmem 591 rfl rfl, gmem 24 rfl rfl⟩, by decide +kernel, by decide +kernel⟩
set_option maxRecDepth 20000 in
theorem cok100 : CalleeOk 100 1 := ⟨⟨gmem 486 rfl rfl, gmem 24 rfl rfl⟩, by decide +kernel, by decide +kernel⟩
set_option maxRecDepth 20000 in
theorem cok101 : CalleeOk 101 2 := ⟨⟨gmem 352 rfl rfl, gmem 23 rfl rfl⟩, by decide +kernel, by decide +kernel⟩
set_option maxRecDepth 20000 in
theorem cok102 : CalleeOk 102 2 := ⟨⟨gmem 356 rfl rfl, gmem 23 rfl rfl⟩, by decide +kernel, by decide +kernel⟩
set_option maxRecDepth 20000 in
theorem cok103 : CalleeOk 103 3 := ⟨⟨gmem 360 rfl rfl, gmem 23 rfl rfl⟩, by decide +kernel, by decide +kernel⟩
set_option maxRecDepth 20000 in
theorem cok104 : CalleeOk 104 2 := ⟨⟨gmem 454 rfl rfl, gmem 23 rfl rfl⟩, by decide +kernel, by decide +kernel⟩
set_option maxRecDepth 20000 in
theorem cok105 : CalleeOk 105 1 := ⟨⟨gmem 489 rfl rfl, gmem 23 rfl rfl⟩, by decide +kernel, by decide +kernel⟩
set_option maxRecDepth 20000 in
theorem cok106 : CalleeOk 106 3 := ⟨⟨gmem 504 rfl rfl, gmem 23 rfl rfl⟩, by decide +kernel, by decide +kernel⟩
def cks : List Nat := [1, 2, 3, 4, 5, 6, 7, 8, 9, 10, 11, 12, 13, 14, 15, 16, 17, 18, 19, 20, 21, 22, 23, 24, 25, 26, 27, 28, 29, 30, 31, 32, 33, 34, 35, 36, 37, 38, 39, 40, 41, 42, 43, 53, 54, 55, 56, 57, 58, 59, 60, 61, 62, 63, 64, 65, 66, 67, 68, 69, 70, 71, 72, 73, 74, 75, 77, 78, 79, 82, 83, 84, 85, 86, 87, 88, 89, 90, 91, 92, 93, 94, 95, 96, 97, 98, 99, 100, 101, 102, 103, 104, 105, 106]
set_option maxRecDepth 20000 in
theorem cokAll : ∀ k ∈ cks, CalleeOk k (nps k) := List.forall_mem_cons.mpr ⟨cok1, List.forall_mem_cons.mpr ⟨cok2, List.forall_mem_cons.mpr ⟨cok3, List.forall_mem_cons.mpr ⟨cok4, List.forall_mem_cons.mpr ⟨cok5, List.forall_mem_cons.mpr ⟨cok6, List.forall_mem_cons.mpr ⟨cok7, List.forall_mem_cons.mpr ⟨cok8, List.forall_mem_cons.mpr ⟨cok9, List.forall_mem_cons.mpr ⟨cok10, List.forall_mem_cons.mpr ⟨cok11, List.forall_mem_cons.mpr ⟨cok12, List.forall_mem_cons.mpr ⟨cok13, List.forall_mem_cons.mpr ⟨cok14, List.forall_mem_cons.mpr ⟨cok15, List.forall_mem_cons.mpr ⟨cok16, List.forall_mem_cons.mpr ⟨cok17, List.forall_mem_cons.mpr ⟨cok18, List.forall_mem_cons.mpr ⟨cok19, List.forall_mem_cons.mpr ⟨cok20, List.forall_mem_cons.mpr ⟨cok21, List.forall_mem_cons.mpr ⟨cok22, List.forall_mem_cons.mpr ⟨cok23, List.forall_mem_cons.mpr ⟨cok24, List.forall_mem_cons.mpr ⟨cok25, List.forall_mem_cons.mpr ⟨cok26, List.forall_mem_cons.mpr ⟨cok27, List.forall_mem_cons.mpr ⟨cok28, List.forall_mem_cons.mpr ⟨cok29, List.forall_mem_cons.mpr ⟨cok30, List.forall_mem_cons.mpr ⟨cok31, List.forall_mem_cons.mpr ⟨cok32, List.forall_mem_cons.mpr ⟨cok33, List.forall_mem_cons.mpr ⟨cok34, List.forall_mem_cons.mpr ⟨cok35, List.forall_mem_cons.mpr ⟨cok36, List.forall_mem_cons.mpr ⟨cok37, List.forall_mem_cons.mpr ⟨cok38, List.forall_mem_cons.mpr ⟨cok39, List.forall_mem_cons.mpr ⟨cok40, List.forall_mem_cons.mpr ⟨cok41, List.forall_mem_cons.mpr ⟨cok42, List.forall_mem_cons.mpr ⟨cok43, List.forall_mem_cons.mpr ⟨cok53, List.forall_mem_cons.mpr ⟨cok54, List.forall_mem_cons.mpr ⟨cok55, List.forall_mem_cons.mpr ⟨cok56, List.forall_mem_cons.mpr ⟨cok57, List.forall_mem_cons.mpr ⟨cok58, List.forall_mem_cons.mpr ⟨cok59, List.forall_mem_cons.mpr ⟨cok60, List.forall_mem_cons.mpr ⟨cok61, List.forall_mem_cons.mpr ⟨cok62, List.forall_mem_cons.mpr ⟨cok63, List.forall_mem_cons.mpr ⟨cok64, List.forall_mem_cons.mpr ⟨cok65, List.forall_mem_cons.mpr ⟨cok66, List.forall_mem_cons.mpr ⟨cok67, List.forall_mem_cons.mpr ⟨cok68, List.forall_mem_cons.mpr ⟨cok69, List.forall_mem_cons.mpr ⟨cok70, List.forall_mem_cons.mpr ⟨cok71, List.forall_mem_cons.mpr ⟨cok72, List.forall_mem_cons.mpr ⟨cok73, List.forall_mem_cons.mpr ⟨cok74, List.forall_mem_cons.mpr ⟨cok75, List.forall_mem_cons.mpr ⟨cok77, List.forall_mem_cons.mpr ⟨cok78, List.forall_mem_cons.mpr ⟨cok79, List.forall_mem_cons.mpr ⟨cok82, List.forall_mem_cons.mpr ⟨cok83, List.forall_mem_cons.mpr ⟨cok84, List.forall_mem_cons.mpr ⟨cok85, List.forall_mem_cons.mpr ⟨cok86, List.forall_mem_cons.mpr ⟨cok87, List.forall_mem_cons.mpr ⟨cok88, List.forall_mem_cons.mpr ⟨cok89, List.forall_mem_cons.mpr ⟨cok90, List.forall_mem_cons.mpr ⟨cok91, List.forall_mem_cons.mpr ⟨cok92, List.forall_mem_cons.mpr ⟨cok93, List.forall_mem_cons.mpr ⟨cok94, List.forall_mem_cons.mpr ⟨cok95, List.forall_mem_cons.mpr ⟨cok96, List.forall_mem_cons.mpr ⟨cok97, List.forall_mem_cons.mpr ⟨cok98, List.forall_mem_cons.mpr ⟨cok99, List.forall_mem_cons.mpr ⟨cok100, List.forall_mem_cons.mpr ⟨cok101, List.forall_mem_cons.mpr ⟨cok102, List.forall_mem_cons.mpr ⟨cok103, List.forall_mem_cons.mpr ⟨cok104, List.forall_mem_cons.mpr ⟨cok105, List.forall_mem_cons.mpr ⟨cok106, fun _ h => absurd h List.not_mem_nil⟩⟩⟩⟩⟩⟩⟩⟩⟩⟩⟩⟩⟩⟩⟩⟩⟩⟩⟩⟩⟩⟩⟩⟩⟩⟩⟩⟩⟩⟩⟩⟩⟩⟩⟩⟩⟩⟩⟩⟩⟩⟩⟩⟩⟩⟩⟩⟩⟩⟩⟩⟩⟩⟩⟩⟩⟩⟩⟩⟩⟩⟩⟩⟩⟩⟩⟩⟩⟩⟩⟩⟩⟩⟩⟩⟩⟩⟩⟩⟩⟩⟩⟩⟩⟩⟩⟩⟩⟩⟩⟩⟩⟩⟩
theorem calleeOk {k : Nat} (h : decide (1 ≤ k ∧ k ∈ cks) = true) : CalleeOk k (nps k) := by
  rw [decide_eq_true_eq] at h
  exact cokAll k h.2
