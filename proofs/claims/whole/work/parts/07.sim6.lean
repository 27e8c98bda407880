/-! the check of the code tables against the machine's bytes and words -/
def wk (pl : Nat) (w : Cond) : Bool := decide (lw_tbl[pl]? = some w) && goodWord w
theorem wk_mem {pl : Nat} {w : Cond} (h : wk pl w = true) : w ∈ gtbl := by
  unfold wk at h
  rw [Bool.and_eq_true, decide_eq_true_eq] at h
  exact List.mem_filter.mpr ⟨List.mem_of_getElem? h.1, h.2⟩
theorem gmem {w : Cond} (pl : Nat) (h : lw_tbl[pl]? = some w) (hg : goodWord w = true) : w ∈ gtbl := List.mem_filter.mpr ⟨List.mem_of_getElem? h, hg⟩
def npsL : List (List Nat) := [[1, 0, 1, 0, 1, 0, 1, 3, 2, 4, 0, 1, 4, 1, 2, 1], [0, 1, 0, 0, 0, 1, 1, 0, 1, 2, 2, 3, 1, 1, 1, 2], [1, 1, 2, 1, 1, 2, 2, 1, 1, 0, 2, 0, 1, 0, 0, 0], [0, 1, 0, 0, 1, 0, 2, 1, 1, 1, 3, 3, 1, 1, 0, 2], [2, 2, 4, 2, 1, 2, 0, 2, 0, 1, 3, 2, 0, 1, 0, 2], [1, 0, 0, 0, 0, 2, 2, 1, 2, 1, 2, 1, 2, 3, 1, 1], [1, 1, 1, 2, 1, 0, 3, 1, 2, 3, 2, 2, 0, 0, 0, 0], [1, 3, 2, 2, 2, 1, 2, 0, 0, 1, 0, 3, 2, 1, 3, 0], [3, 2, 1, 0, 2, 1, 0, 0, 0, 0, 2, 2, 2, 3, 1, 1], [0, 0, 1, 1, 1, 1, 4, 0, 1, 2, 1, 1, 0, 2, 4, 3], [3, 1, 2, 4, 1, 1, 2, 3, 1, 0, 1]]
def nps (k : Nat) : Nat := (npsL.getD (k / 16) []).getD (k % 16) 99
set_option maxRecDepth 20000 in
theorem cok1 : CalleeOk 1 0 := ⟨⟨gmem 122 rfl rfl, gmem 68 rfl rfl⟩, by decide +kernel, by decide +kernel⟩
set_option maxRecDepth 20000 in
theorem cok2 : CalleeOk 2 1 := ⟨⟨gmem 302 rfl rfl, gmem 68 rfl rfl⟩, by decide +kernel, by decide +kernel⟩
set_option maxRecDepth 20000 in
theorem cok3 : CalleeOk 3 0 := ⟨⟨gmem 306 rfl rfl, gmem 68 rfl rfl⟩, by decide +kernel, by decide +kernel⟩
set_option maxRecDepth 20000 in
theorem cok4 : CalleeOk 4 1 := ⟨⟨gmem 453 rfl rfl, gmem 68 rfl rfl⟩, by decide +kernel, by decide +kernel⟩
set_option maxRecDepth 20000 in
theorem cok5 : CalleeOk 5 0 := ⟨⟨gmem 169 rfl rfl, gmem 70 rfl rfl⟩, by decide +kernel, by decide +kernel⟩
set_option maxRecDepth 20000 in
theorem cok6 : CalleeOk 6 1 := ⟨⟨gmem 485 rfl rfl, gmem 70 rfl rfl⟩, by decide +kernel, by decide +kernel⟩
set_option maxRecDepth 20000 in
theorem cok7 : CalleeOk 7 3 := ⟨⟨gmem 489 rfl rfl, gmem 70 rfl rfl⟩, by decide +kernel, by decide +kernel⟩
set_option maxRecDepth 20000 in
theorem cok8 : CalleeOk 8 2 := ⟨⟨gmem 497 rfl rfl, gmem 70 rfl rfl⟩, by decide +kernel, by decide +kernel⟩
set_option maxRecDepth 20000 in
theorem cok9 : CalleeOk 9 4 := ⟨⟨gmem 494 rfl rfl, gmem 70 rfl rfl⟩, by decide +kernel, by decide +kernel⟩
set_option maxRecDepth 20000 in
theorem cok10 : CalleeOk 10 0 := ⟨⟨gmem 196 rfl rfl, gmem 71 rfl rfl⟩, by decide +kernel, by decide +kernel⟩
set_option maxRecDepth 20000 in
theorem cok11 : CalleeOk 11 1 := ⟨⟨gmem 506 rfl rfl, gmem 71 rfl rfl⟩, by decide +kernel, by decide +kernel⟩
set_option maxRecDepth 20000 in
theorem cok12 : CalleeOk 12 4 := ⟨⟨gmem 517 rfl rfl, gmem 71 rfl rfl⟩, by decide +kernel, by decide +kernel⟩
set_option maxRecDepth 20000 in
theorem cok13 : CalleeOk 13 1 := ⟨⟨gmem 523 rfl rfl, gmem 71 rfl rfl⟩, by decide +kernel, by decide +kernel⟩
set_option maxRecDepth 20000 in
theorem cok14 : CalleeOk 14 2 := ⟨⟨gmem 527 rfl rfl, gmem 71 rfl rfl⟩, by decide +kernel, by decide +kernel⟩
set_option maxRecDepth 20000 in
theorem cok15 : CalleeOk 15 1 := ⟨⟨gmem 531 rfl rfl, gmem 71 rfl rfl⟩, by decide +kernel, by decide +kernel⟩
set_option maxRecDepth 20000 in
theorem cok16 : CalleeOk 16 0 := ⟨⟨gmem 661 rfl rfl, gmem 71 rfl rfl⟩, by decide +kernel, by decide +kernel⟩
set_option maxRecDepth 20000 in
theorem cok17 : CalleeOk 17 1 := ⟨⟨gmem 560 rfl rfl, gmem 71 rfl rfl⟩, by decide +kernel, by decide +kernel⟩
set_option maxRecDepth 20000 in
theorem cok18 : CalleeOk 18 0 := ⟨⟨gmem 666 rfl rfl, gmem 71 rfl rfl⟩, by decide +kernel, by decide +kernel⟩
set_option maxRecDepth 20000 in
theorem cok19 : CalleeOk 19 0 := ⟨⟨gmem 671 rfl rfl, gmem 71 rfl rfl⟩, by decide +kernel, by decide +kernel⟩
set_option maxRecDepth 20000 in
theorem cok20 : CalleeOk 20 0 := ⟨⟨gmem 657 rfl rfl, gmem 71 rfl rfl⟩, by decide +kernel, by decide +kernel⟩
set_option maxRecDepth 20000 in
theorem cok21 : CalleeOk 21 1 := ⟨⟨gmem 552 rfl rfl, gmem 71 rfl rfl⟩, by decide +kernel, by decide +kernel⟩
set_option maxRecDepth 20000 in
theorem cok22 : CalleeOk 22 1 := ⟨⟨gmem 556 rfl rfl, gmem 71 rfl rfl⟩, by decide +kernel, by decide +kernel⟩
set_option maxRecDepth 20000 in
theorem cok23 : CalleeOk 23 0 := ⟨⟨gmem 88 rfl rfl, gmem 67 rfl rfl⟩, by decide +kernel, by decide +kernel⟩
set_option maxRecDepth 20000 in
theorem cok24 : CalleeOk 24 1 := ⟨⟨gmem 105 rfl rfl, gmem 67 rfl rfl⟩, by decide +kernel, by decide +kernel⟩
set_option maxRecDepth 20000 in
theorem cok25 : CalleeOk 25 2 := ⟨⟨gmem 346 rfl rfl, gmem 67 rfl rfl⟩, by decide +kernel, by decide +kernel⟩
set_option maxRecDepth 20000 in
theorem cok26 : CalleeOk 26 2 := ⟨⟨gmem 404 rfl rfl, gmem 67 rfl rfl⟩, by decide +kernel, by decide +kernel⟩
set_option maxRecDepth 20000 in
theorem cok27 : CalleeOk 27 3 := ⟨⟨gmem 101 rfl rfl, gmem 67 rfl rfl⟩, by decide +kernel, by decide +kernel⟩
set_option maxRecDepth 20000 in
theorem cok28 : CalleeOk 28 1 := ⟨⟨gmem 93 rfl rfl, gmem 67 rfl rfl⟩, by decide +kernel, by decide +kernel⟩
set_option maxRecDepth 20000 in
theorem cok29 : CalleeOk 29 1 := ⟨⟨gmem 97 rfl rfl, gmem 67 rfl rfl⟩, by decide +kernel, by decide +kernel⟩
set_option maxRecDepth 20000 in
theorem cok30 : CalleeOk 30 1 := ⟨⟨gmem 310 rfl rfl, gmem 67 rfl rfl⟩, by decide +kernel, by decide +kernel⟩
set_option maxRecDepth 20000 in
theorem cok31 : CalleeOk 31 2 := ⟨⟨gmem 342 rfl rfl, gmem 67 rfl rfl⟩, by decide +kernel, by decide +kernel⟩
set_option maxRecDepth 20000 in
theorem cok32 : CalleeOk 32 1 := ⟨⟨gmem 318 rfl rfl, gmem 67 rfl rfl⟩, by decide +kernel, by decide +kernel⟩
set_option maxRecDepth 20000 in
theorem cok33 : CalleeOk 33 1 := ⟨⟨gmem 322 rfl rfl, gmem 67 rfl rfl⟩, by decide +kernel, by decide +kernel⟩
set_option maxRecDepth 20000 in
theorem cok34 : CalleeOk 34 2 := ⟨⟨gmem 325 rfl rfl, gmem 67 rfl rfl⟩, by decide +kernel, by decide +kernel⟩
set_option maxRecDepth 20000 in
theorem cok35 : CalleeOk 35 1 := ⟨⟨gmem 416 rfl rfl, gmem 67 rfl rfl⟩, by decide +kernel, by decide +kernel⟩
set_option maxRecDepth 20000 in
theorem cok36 : CalleeOk 36 1 := ⟨⟨gmem 419 rfl rfl, gmem 67 rfl rfl⟩, by decide +kernel, by decide +kernel⟩
set_option maxRecDepth 20000 in
theorem cok37 : CalleeOk 37 2 := ⟨⟨gmem 422 rfl rfl, gmem 67 rfl rfl⟩, by decide +kernel, by decide +kernel⟩
set_option maxRecDepth 20000 in
theorem cok38 : CalleeOk 38 2 := ⟨⟨gmem 477 rfl rfl, gmem 67 rfl rfl⟩, by decide +kernel, by decide +kernel⟩
set_option maxRecDepth 20000 in
theorem cok39 : CalleeOk 39 1 := ⟨⟨gmem 510 rfl rfl, gmem 67 rfl rfl⟩, by decide +kernel, by decide +kernel⟩
set_option maxRecDepth 20000 in
theorem cok40 : CalleeOk 40 1 := ⟨⟨gmem 535 rfl rfl, gmem 67 rfl rfl⟩, by decide +kernel, by decide +kernel⟩
set_option maxRecDepth 20000 in
theorem cok41 : CalleeOk 41 0 := ⟨⟨gmem 400 rfl rfl, gmem 67 rfl rfl⟩, by decide +kernel, by decide +kernel⟩
set_option maxRecDepth 20000 in
theorem cok42 : CalleeOk 42 2 := ⟨⟨gmem 430 rfl rfl, gmem 67 rfl rfl⟩, by decide +kernel, by decide +kernel⟩
set_option maxRecDepth 20000 in
theorem cok43 : CalleeOk 43 0 := ⟨⟨gmem 139 rfl rfl, gmem 69 rfl rfl⟩, by decide +kernel, by decide +kernel⟩
set_option maxRecDepth 20000 in
theorem cok44 : CalleeOk 44 1 := ⟨⟨gmem 441 rfl rfl, gmem 69 rfl rfl⟩, by decide +kernel, by decide +kernel⟩
set_option maxRecDepth 20000 in
theorem cok45 : CalleeOk 45 0 := ⟨⟨gmem 364 rfl rfl, gmem 69 rfl rfl⟩, by decide +kernel, by decide +kernel⟩
set_option maxRecDepth 20000 in
theorem cok46 : CalleeOk 46 0 := ⟨⟨gmem 368 rfl rfl, gmem 69 rfl rfl⟩, by decide +kernel, by decide +kernel⟩
set_option maxRecDepth 20000 in
theorem cok47 : CalleeOk 47 0 := ⟨⟨gmem 372 rfl rfl, gmem 69 rfl rfl⟩, by decide +kernel, by decide +kernel⟩
set_option maxRecDepth 20000 in
theorem cok48 : CalleeOk 48 0 := ⟨⟨gmem 376 rfl rfl, gmem 69 rfl rfl⟩, by decide +kernel, by decide +kernel⟩
set_option maxRecDepth 20000 in
theorem cok49 : CalleeOk 49 1 := ⟨⟨gmem 380 rfl rfl, gmem 69 rfl rfl⟩, by decide +kernel, by decide +kernel⟩
set_option maxRecDepth 20000 in
theorem cok50 : CalleeOk 50 0 := ⟨⟨gmem 384 rfl rfl, gmem 69 rfl rfl⟩, by decide +kernel, by decide +kernel⟩
set_option maxRecDepth 20000 in
theorem cok51 : CalleeOk 51 0 := ⟨⟨gmem 391 rfl rfl, gmem 69 rfl rfl⟩, by decide +kernel, by decide +kernel⟩
set_option maxRecDepth 20000 in
theorem cok52 : CalleeOk 52 1 := ⟨⟨gmem 395 rfl rfl, gmem 69 rfl rfl⟩, by decide +kernel, by decide +kernel⟩
set_option maxRecDepth 20000 in
theorem cok53 : CalleeOk 53 0 := ⟨⟨gmem 221 rfl rfl, gmem 72 rfl rfl⟩, by decide +kernel, by decide +kernel⟩
set_option maxRecDepth 20000 in
theorem cok54 : CalleeOk 54 2 := ⟨⟨gmem 571 rfl rfl, gmem 72 rfl rfl⟩, by decide +kernel, by decide +kernel⟩
set_option maxRecDepth 20000 in
theorem cok55 : CalleeOk 55 1 := ⟨⟨gmem 575 rfl rfl, gmem 72 rfl rfl⟩, by decide +kernel, by decide +kernel⟩
set_option maxRecDepth 20000 in
theorem cok56 : CalleeOk 56 1 := ⟨⟨gmem 580 rfl rfl, gmem 72 rfl rfl⟩, by decide +kernel, by decide +kernel⟩
set_option maxRecDepth 20000 in
theorem cok57 : CalleeOk 57 1 := ⟨⟨gmem 584 rfl rfl, gmem 72 rfl rfl⟩, by decide +kernel, by decide +kernel⟩
set_option maxRecDepth 20000 in
theorem cok58 : CalleeOk 58 3 := ⟨⟨gmem 592 rfl rfl, gmem 72 rfl rfl⟩, by decide +kernel, by decide +kernel⟩
set_option maxRecDepth 20000 in
theorem cok59 : CalleeOk 59 3 := ⟨⟨gmem 596 rfl rfl, gmem 72 rfl rfl⟩, by decide +kernel, by decide +kernel⟩
set_option maxRecDepth 20000 in
theorem cok60 : CalleeOk 60 1 := ⟨⟨gmem 588 rfl rfl, gmem 72 rfl rfl⟩, by decide +kernel, by decide +kernel⟩
set_option maxRecDepth 20000 in
theorem cok61 : CalleeOk 61 1 := ⟨⟨gmem 604 rfl rfl, gmem 72 rfl rfl⟩, by decide +kernel, by decide +kernel⟩
set_option maxRecDepth 20000 in
theorem cok62 : CalleeOk 62 0 := ⟨⟨gmem 600 rfl rfl, gmem 72 rfl rfl⟩, by decide +kernel, by decide +kernel⟩
set_option maxRecDepth 20000 in
theorem cok63 : CalleeOk 63 2 := ⟨⟨gmem 608 rfl rfl, gmem 72 rfl rfl⟩, by decide +kernel, by decide +kernel⟩
set_option maxRecDepth 20000 in
theorem cok64 : CalleeOk 64 2 := ⟨⟨gmem 615 rfl rfl, gmem 72 rfl rfl⟩, by decide +kernel, by decide +kernel⟩
set_option maxRecDepth 20000 in
theorem cok65 : CalleeOk 65 2 := ⟨⟨gmem 619 rfl rfl, gmem 72 rfl rfl⟩, by decide +kernel, by decide +kernel⟩
set_option maxRecDepth 20000 in
theorem cok66 : CalleeOk 66 4 := ⟨⟨gmem 632 rfl rfl, gmem 72 rfl rfl⟩, by decide +kernel, by decide +kernel⟩
set_option maxRecDepth 20000 in
theorem cok67 : CalleeOk 67 2 := ⟨⟨gmem 623 rfl rfl, gmem 72 rfl rfl⟩, by decide +kernel, by decide +kernel⟩
set_option maxRecDepth 20000 in
theorem cok68 : CalleeOk 68 1 := ⟨⟨gmem 636 rfl rfl, gmem 72 rfl rfl⟩, by decide +kernel, by decide +kernel⟩
set_option maxRecDepth 20000 in
theorem cok69 : CalleeOk 69 2 := ⟨⟨gmem 627 rfl rfl, gmem 72 rfl rfl⟩, by decide +kernel, by decide +kernel⟩
set_option maxRecDepth 20000 in
theorem cok70 : CalleeOk 70 0 := ⟨⟨gmem 80 rfl rfl, gmem 66 rfl rfl⟩, by decide +kernel, by decide +kernel⟩
set_option maxRecDepth 20000 in
theorem cok71 : CalleeOk 71 2 := ⟨⟨gmem 298 rfl rfl, gmem 66 rfl rfl⟩, by decide +kernel, by decide +kernel⟩
set_option maxRecDepth 20000 in
theorem cok72 : CalleeOk 72 0 := ⟨⟨gmem 329 rfl rfl, gmem 66 rfl rfl⟩, by decide +kernel, by decide +kernel⟩
set_option maxRecDepth 20000 in
theorem cok73 : CalleeOk 73 1 := ⟨⟨gmem 334 rfl rfl, gmem 66 rfl rfl⟩, by decide +kernel, by decide +kernel⟩
set_option maxRecDepth 20000 in
theorem cok74 : CalleeOk 74 3 := ⟨⟨gmem 350 rfl rfl, gmem 66 rfl rfl⟩, by decide +kernel, by decide +kernel⟩
set_option maxRecDepth 20000 in
theorem cok75 : CalleeOk 75 2 := ⟨⟨gmem 356 rfl rfl, gmem 66 rfl rfl⟩, by decide +kernel, by decide +kernel⟩
set_option maxRecDepth 20000 in
theorem cok76 : CalleeOk 76 0 := ⟨⟨gmem 360 rfl rfl, gmem 66 rfl rfl⟩, by decide +kernel, by decide +kernel⟩
set_option maxRecDepth 20000 in
theorem cok77 : CalleeOk 77 1 := ⟨⟨gmem 408 rfl rfl, gmem 66 rfl rfl⟩, by decide +kernel, by decide +kernel⟩
set_option maxRecDepth 20000 in
theorem cok78 : CalleeOk 78 0 := ⟨⟨gmem 412 rfl rfl, gmem 66 rfl rfl⟩, by decide +kernel, by decide +kernel⟩
set_option maxRecDepth 20000 in
theorem cok79 : CalleeOk 79 2 := ⟨⟨gmem 426 rfl rfl, gmem 66 rfl rfl⟩, by decide +kernel, by decide +kernel⟩
set_option maxRecDepth 20000 in
theorem cok80 : CalleeOk 80 1 := ⟨⟨gmem 437 rfl rfl, gmem 66 rfl rfl⟩, by decide +kernel, by decide +kernel⟩
set_option maxRecDepth 20000 in
theorem cok81 : CalleeOk 81 0 := ⟨⟨gmem 445 rfl rfl, gmem 66 rfl rfl⟩, by decide +kernel, by decide +kernel⟩
set_option maxRecDepth 20000 in
theorem cok82 : CalleeOk 82 0 := ⟨⟨gmem 449 rfl rfl, gmem 66 rfl rfl⟩, by decide +kernel, by decide +kernel⟩
set_option maxRecDepth 20000 in
theorem cok83 : CalleeOk 83 0 := ⟨⟨gmem 457 rfl rfl, gmem 66 rfl rfl⟩, by decide +kernel, by decide +kernel⟩
set_option maxRecDepth 20000 in
theorem cok84 : CalleeOk 84 0 := ⟨⟨gmem 462 rfl rfl, gmem 66 rfl rfl⟩, by decide +kernel, by decide +kernel⟩
set_option maxRecDepth 20000 in
theorem cok85 : CalleeOk 85 2 := ⟨⟨gmem 466 rfl rfl, gmem 66 rfl rfl⟩, by decide +kernel, by decide +kernel⟩
set_option maxRecDepth 20000 in
theorem cok86 : CalleeOk 86 2 := ⟨⟨gmem 473 rfl rfl, gmem 66 rfl rfl⟩, by decide +kernel, by decide +kernel⟩
set_option maxRecDepth 20000 in
theorem cok87 : CalleeOk 87 1 := ⟨⟨gmem 481 rfl rfl, gmem 66 rfl rfl⟩, by decide +kernel, by decide +kernel⟩
set_option maxRecDepth 20000 in
theorem cok88 : CalleeOk 88 2 := ⟨⟨gmem 502 rfl rfl, gmem 66 rfl rfl⟩, by decide +kernel, by decide +kernel⟩
set_option maxRecDepth 20000 in
theorem cok89 : CalleeOk 89 1 := ⟨⟨gmem 543 rfl rfl, gmem 66 rfl rfl⟩, by decide +kernel, by decide +kernel⟩
set_option maxRecDepth 20000 in
theorem cok90 : CalleeOk 90 2 := ⟨⟨gmem 548 rfl rfl, gmem 66 rfl rfl⟩, by decide +kernel, by decide +kernel⟩
set_option maxRecDepth 20000 in
theorem cok91 : CalleeOk 91 1 := ⟨⟨gmem 564 rfl rfl, gmem 66 rfl rfl⟩, by decide +kernel, by decide +kernel⟩
set_option maxRecDepth 20000 in
theorem cok92 : CalleeOk 92 2 := ⟨⟨gmem 641 rfl rfl, gmem 66 rfl rfl⟩, by decide +kernel, by decide +kernel⟩
set_option maxRecDepth 20000 in
theorem cok93 : CalleeOk 93 3 := ⟨⟨gmem 649 rfl rfl, gmem 66 rfl rfl⟩, by decide +kernel, by decide +kernel⟩
set_option maxRecDepth 20000 in
theorem cok94 : CalleeOk 94 1 := ⟨⟨gmem 653 rfl rfl, gmem 66 rfl rfl⟩, by decide +kernel, by decide +kernel⟩
set_option maxRecDepth 20000 in
theorem cok95 : CalleeOk 95 1 := ⟨⟨gmem 433 rfl rfl, gmem 66 rfl rfl⟩, by decide +kernel, by decide +kernel⟩
set_option maxRecDepth 20000 in
theorem cok96 : CalleeOk 96 1 := ⟨⟨gmem 338 rfl rfl, gmem 66 rfl rfl⟩, by decide +kernel, by decide +kernel⟩
set_option maxRecDepth 20000 in
theorem cok97 : CalleeOk 97 1 := ⟨⟨gmem 469 rfl rfl, gmem 66 rfl rfl⟩, by decide +kernel, by decide +kernel⟩
set_option maxRecDepth 20000 in
theorem cok98 : CalleeOk 98 1 := ⟨⟨gmem 567 rfl rfl, gmem 66 rfl rfl⟩, by decide +kernel, by decide +kernel⟩
set_option maxRecDepth 20000 in
theorem cok99 : CalleeOk 99 2 := ⟨⟨gmem 645 rfl rfl, gmem 66 rfl rfl⟩, by decide +kernel, by decide +kernel⟩
set_option maxRecDepth 20000 in
theorem cok100 : CalleeOk 100 1 := ⟨⟨gmem 539 rfl rfl, gmem 66 rfl rfl⟩, by decide +kernel, by decide +kernel⟩
set_option maxRecDepth 20000 in
theorem cok101 : CalleeOk 101 0 := ⟨⟨gmem 676 rfl rfl, gmem 73 rfl rfl⟩, by decide +kernel, by decide +kernel⟩
set_option maxRecDepth 20000 in
theorem cok102 : CalleeOk 102 3 := ⟨⟨gmem 760 rfl rfl, gmem 73 rfl rfl⟩, by decide +kernel, by decide +kernel⟩
set_option maxRecDepth 20000 in
theorem cok103 : CalleeOk 103 1 := ⟨⟨gmem 801 rfl rfl, gmem 73 rfl rfl⟩, by decide +kernel, by decide +kernel⟩
set_option maxRecDepth 20000 in
theorem cok104 : CalleeOk 104 2 := ⟨⟨gmem 813 rfl rfl, gmem 73 rfl rfl⟩, by decide +kernel, by decide +kernel⟩
set_option maxRecDepth 20000 in
theorem cok105 : CalleeOk 105 3 := ⟨⟨gmem 775 rfl rfl, gmem 73 rfl rfl⟩, by decide +kernel, by decide +kernel⟩
set_option maxRecDepth 20000 in
theorem cok106 : CalleeOk 106 2 := ⟨⟨gmem 745 rfl rfl, gmem 73 rfl rfl⟩, by decide +kernel, by decide +kernel⟩
set_option maxRecDepth 20000 in
theorem cok107 : CalleeOk 107 2 := ⟨⟨gmem 737 rfl rfl, gmem 73 rfl rfl⟩, by decide +kernel, by decide +kernel⟩
set_option maxRecDepth 20000 in
theorem cok108 : CalleeOk 108 0 := ⟨⟨gmem 753 rfl rfl, gmem 73 rfl rfl⟩, by decide +kernel, by decide +kernel⟩
set_option maxRecDepth 20000 in
theorem cok109 : CalleeOk 109 0 := ⟨⟨gmem 733 rfl rfl, gmem 73 rfl rfl⟩, by decide +kernel, by decide +kernel⟩
set_option maxRecDepth 20000 in
theorem cok110 : CalleeOk 110 0 := ⟨⟨gmem 741 rfl rfl, gmem 73 rfl rfl⟩, by decide +kernel, by decide +kernel⟩
set_option maxRecDepth 20000 in
theorem cok111 : CalleeOk 111 0 := ⟨⟨gmem 749 rfl rfl, gmem 73 rfl rfl⟩, by decide +kernel, by decide +kernel⟩
set_option maxRecDepth 20000 in
theorem cok112 : CalleeOk 112 1 := ⟨⟨gmem 764 rfl rfl, gmem 73 rfl rfl⟩, by decide +kernel, by decide +kernel⟩
set_option maxRecDepth 20000 in
theorem cok113 : CalleeOk 113 3 := ⟨⟨gmem 771 rfl rfl, gmem 73 rfl rfl⟩, by decide +kernel, by decide +kernel⟩
set_option maxRecDepth 20000 in
theorem cok114 : CalleeOk 114 2 := ⟨⟨gmem 768 rfl rfl, gmem 73 rfl rfl⟩, by decide +kernel, by decide +kernel⟩
set_option maxRecDepth 20000 in
theorem cok115 : CalleeOk 115 2 := ⟨⟨gmem 782 rfl rfl, gmem 73 rfl rfl⟩, by decide +kernel, by decide +kernel⟩
set_option maxRecDepth 20000 in
theorem cok116 : CalleeOk 116 2 := ⟨⟨gmem 785 rfl rfl, gmem 73 rfl rfl⟩, by decide +kernel, by decide +kernel⟩
set_option maxRecDepth 20000 in
theorem cok117 : CalleeOk 117 1 := ⟨⟨gmem 779 rfl rfl, gmem 73 rfl rfl⟩, by decide +kernel, by decide +kernel⟩
set_option maxRecDepth 20000 in
theorem cok118 : CalleeOk 118 2 := ⟨⟨gmem 757 rfl rfl, gmem 73 rfl rfl⟩, by decide +kernel, by decide +kernel⟩
set_option maxRecDepth 20000 in
theorem cok119 : CalleeOk 119 0 := ⟨⟨gmem 793 rfl rfl, gmem 73 rfl rfl⟩, by decide +kernel, by decide +kernel⟩
set_option maxRecDepth 20000 in
theorem cok120 : CalleeOk 120 0 := ⟨⟨gmem 789 rfl rfl, gmem 73 rfl rfl⟩, by decide +kernel, by decide +kernel⟩
set_option maxRecDepth 20000 in
theorem cok121 : CalleeOk 121 1 := ⟨⟨gmem 797 rfl rfl, gmem 73 rfl rfl⟩, by decide +kernel, by decide +kernel⟩
set_option maxRecDepth 20000 in
theorem cok122 : CalleeOk 122 0 := ⟨⟨gmem 805 rfl rfl, gmem 73 rfl rfl⟩, by decide +kernel, by decide +kernel⟩
set_option maxRecDepth 20000 in
theorem cok123 : CalleeOk 123 3 := ⟨⟨gmem 809 rfl rfl, gmem 73 rfl rfl⟩, by decide +kernel, by decide +kernel⟩
set_option maxRecDepth 20000 in
theorem cok124 : CalleeOk 124 2 := ⟨⟨gmem 817 rfl rfl, gmem 73 rfl rfl⟩, by decide +kernel, by decide +kernel⟩
set_option maxRecDepth 20000 in
theorem cok125 : CalleeOk 125 1 := ⟨⟨gmem 821 rfl rfl, gmem 73 rfl rfl⟩, by decide +kernel, by decide +kernel⟩
set_option maxRecDepth 20000 in
theorem cok126 : CalleeOk 126 3 := ⟨⟨gmem 828 rfl rfl, gmem 73 rfl rfl⟩, by decide +kernel, by decide +kernel⟩
set_option maxRecDepth 20000 in
theorem cok127 : CalleeOk 127 0 := ⟨⟨gmem 825 rfl rfl, gmem 73 rfl rfl⟩, by decide +kernel, by decide +kernel⟩
set_option maxRecDepth 20000 in
theorem cok128 : CalleeOk 128 3 := ⟨⟨gmem 835 rfl rfl, gmem 73 rfl rfl⟩, by decide +kernel, by decide +kernel⟩
set_option maxRecDepth 20000 in
theorem cok129 : CalleeOk 129 2 := ⟨⟨gmem 832 rfl rfl, gmem 73 rfl rfl⟩, by decide +kernel, by decide +kernel⟩
set_option maxRecDepth 20000 in
theorem cok130 : CalleeOk 130 1 := ⟨⟨gmem 839 rfl rfl, gmem 73 rfl rfl⟩, by decide +kernel, by decide +kernel⟩
set_option maxRecDepth 20000 in
theorem cok131 : CalleeOk 131 0 := ⟨⟨gmem 843 rfl rfl, gmem 73 rfl rfl⟩, by decide +kernel, by decide +kernel⟩
set_option maxRecDepth 20000 in
theorem cok132 : CalleeOk 132 2 := ⟨⟨gmem 859 rfl rfl, gmem 73 rfl rfl⟩, by decide +kernel, by decide +kernel⟩
set_option maxRecDepth 20000 in
theorem cok133 : CalleeOk 133 1 := ⟨⟨gmem 863 rfl rfl, gmem 73 rfl rfl⟩, by decide +kernel, by decide +kernel⟩
set_option maxRecDepth 20000 in
theorem cok134 : CalleeOk 134 0 := ⟨⟨gmem 855 rfl rfl, gmem 73 rfl rfl⟩, by decide +kernel, by decide +kernel⟩
set_option maxRecDepth 20000 in
theorem cok135 : CalleeOk 135 0 := ⟨⟨gmem 851 rfl rfl, gmem 73 rfl rfl⟩, by decide +kernel, by decide +kernel⟩
set_option maxRecDepth 20000 in
theorem cok136 : CalleeOk 136 0 := ⟨⟨gmem 847 rfl rfl, gmem 73 rfl rfl⟩, by decide +kernel, by decide +kernel⟩
set_option maxRecDepth 20000 in
theorem cok137 : CalleeOk 137 0 := ⟨⟨gmem 867 rfl rfl, gmem 73 rfl rfl⟩, by decide +kernel, by decide +kernel⟩
set_option maxRecDepth 20000 in
theorem cok138 : CalleeOk 138 2 := ⟨⟨gmem 871 rfl rfl, gmem 73 rfl rfl⟩, by decide +kernel, by decide +kernel⟩
set_option maxRecDepth 20000 in
theorem cok139 : CalleeOk 139 2 := ⟨⟨gmem 879 rfl rfl, gmem 73 rfl rfl⟩, by decide +kernel, by decide +kernel⟩
set_option maxRecDepth 20000 in
theorem cok140 : CalleeOk 140 2 := ⟨⟨gmem 875 rfl rfl, gmem 73 rfl rfl⟩, by decide +kernel, by decide +kernel⟩
set_option maxRecDepth 20000 in
theorem cok141 : CalleeOk 141 3 := ⟨⟨gmem 891 rfl rfl, gmem 73 rfl rfl⟩, by decide +kernel, by decide +kernel⟩
set_option maxRecDepth 20000 in
theorem cok142 : CalleeOk 142 1 := ⟨⟨gmem 895 rfl rfl, gmem 73 rfl rfl⟩, by decide +kernel, by decide +kernel⟩
set_option maxRecDepth 20000 in
theorem cok143 : CalleeOk 143 1 := ⟨⟨gmem 899 rfl rfl, gmem 73 rfl rfl⟩, by decide +kernel, by decide +kernel⟩
set_option maxRecDepth 20000 in
theorem cok144 : CalleeOk 144 0 := ⟨⟨gmem 887 rfl rfl, gmem 73 rfl rfl⟩, by decide +kernel, by decide +kernel⟩
set_option maxRecDepth 20000 in
theorem cok145 : CalleeOk 145 0 := ⟨⟨gmem 998 rfl rfl, gmem 73 rfl rfl⟩, by decide +kernel, by decide +kernel⟩
set_option maxRecDepth 20000 in
theorem cok146 : CalleeOk 146 1 := ⟨⟨gmem 883 rfl rfl, gmem 73 rfl rfl⟩, by decide +kernel, by decide +kernel⟩
set_option maxRecDepth 20000 in
theorem cok147 : CalleeOk 147 1 := ⟨⟨gmem 915 rfl rfl, gmem 73 rfl rfl⟩, by decide +kernel, by decide +kernel⟩
set_option maxRecDepth 20000 in
theorem cok148 : CalleeOk 148 1 := ⟨⟨gmem 919 rfl rfl, gmem 73 rfl rfl⟩, by decide +kernel, by decide +kernel⟩
set_option maxRecDepth 20000 in
theorem cok149 : CalleeOk 149 1 := ⟨⟨gmem 923 rfl rfl, gmem 73 rfl rfl⟩, by decide +kernel, by decide +kernel⟩
set_option maxRecDepth 20000 in
theorem cok150 : CalleeOk 150 4 := ⟨⟨gmem 911 rfl rfl, gmem 73 rfl rfl⟩, by decide +kernel, by decide +kernel⟩
set_option maxRecDepth 20000 in
theorem cok151 : CalleeOk 151 0 := ⟨⟨gmem 907 rfl rfl, gmem 73 rfl rfl⟩, by decide +kernel, by decide +kernel⟩
set_option maxRecDepth 20000 in
theorem cok152 : CalleeOk 152 1 := ⟨⟨gmem 927 rfl rfl, gmem 73 rfl rfl⟩, by decide +kernel, by decide +kernel⟩
set_option maxRecDepth 20000 in
theorem cok153 : CalleeOk 153 2 := ⟨⟨gmem 903 rfl rfl, gmem 73 rfl rfl⟩, by decide +kernel, by decide +kernel⟩
set_option maxRecDepth 20000 in
theorem cok154 : CalleeOk 154 1 := ⟨⟨gmem 931 rfl rfl, gmem 73 rfl rfl⟩, by decide +kernel, by decide +kernel⟩
set_option maxRecDepth 20000 in
theorem cok155 : CalleeOk 155 1 := ⟨⟨gmem 939 rfl rfl, gmem 73 rfl rfl⟩, by decide +kernel, by decide +kernel⟩
set_option maxRecDepth 20000 in
theorem cok156 : CalleeOk 156 0 := ⟨⟨gmem 986 rfl rfl, gmem 73 rfl rfl⟩, by decide +kernel, by decide +kernel⟩
set_option maxRecDepth 20000 in
theorem cok157 : CalleeOk 157 2 := ⟨⟨gmem 935 rfl rfl, gmem 73 rfl rfl⟩, by decide +kernel, by decide +kernel⟩
set_option maxRecDepth 20000 in
theorem cok158 : CalleeOk 158 4 := ⟨⟨gmem 958 rfl rfl, gmem 73 rfl rfl⟩, by decide +kernel, by decide +kernel⟩
set_option maxRecDepth 20000 in
theorem cok159 : CalleeOk 159 3 := ⟨⟨gmem 962 rfl rfl, gmem 73 rfl rfl⟩, by decide +kernel, by decide +kernel⟩
set_option maxRecDepth 20000 in
theorem cok160 : CalleeOk 160 3 := ⟨⟨gmem 966 rfl rfl, gmem 73 rfl rfl⟩, by decide +kernel, by decide +kernel⟩
set_option maxRecDepth 20000 in
theorem cok161 : CalleeOk 161 1 := ⟨⟨gmem 954 rfl rfl, gmem 73 rfl rfl⟩, by decide +kernel, by decide +kernel⟩
set_option maxRecDepth 20000 in
theorem cok162 : CalleeOk 162 2 := ⟨⟨gmem 970 rfl rfl, gmem 73 rfl rfl⟩, by decide +kernel, by decide +kernel⟩
set_option maxRecDepth 20000 in
theorem cok163 : CalleeOk 163 4 := ⟨⟨gmem 950 rfl rfl, gmem 73 rfl rfl⟩, by decide +kernel, by decide +kernel⟩
set_option maxRecDepth 20000 in
theorem cok164 : CalleeOk 164 1 := ⟨⟨gmem 946 rfl rfl, gmem 73 rfl rfl⟩, by decide +kernel, by decide +kernel⟩
set_option maxRecDepth 20000 in
theorem cok165 : CalleeOk 165 1 := ⟨⟨gmem 943 rfl rfl, gmem 73 rfl rfl⟩, by decide +kernel, by decide +kernel⟩
set_option maxRecDepth 20000 in
theorem cok166 : CalleeOk 166 2 := ⟨⟨gmem 974 rfl rfl, gmem 73 rfl rfl⟩, by decide +kernel, by decide +kernel⟩
set_option maxRecDepth 20000 in
theorem cok167 : CalleeOk 167 3 := ⟨⟨gmem 978 rfl rfl, gmem 73 rfl rfl⟩, by decide +kernel, by decide +kernel⟩
set_option maxRecDepth 20000 in
theorem cok168 : CalleeOk 168 1 := ⟨⟨gmem 990 rfl rfl, gmem 73 rfl rfl⟩, by decide +kernel, by decide +kernel⟩
set_option maxRecDepth 20000 in
theorem cok169 : CalleeOk 169 0 := ⟨⟨gmem 994 rfl rfl, gmem 73 rfl rfl⟩, by decide +kernel, by decide +kernel⟩
set_option maxRecDepth 20000 in
theorem cok170 : CalleeOk 170 1 := ⟨⟨gmem 982 rfl rfl, gmem 73 rfl rfl⟩, by decide +kernel, by decide +kernel⟩
set_option maxRecDepth 20000 in
theorem cokAll : ∀ k ∈ [1, 2, 3, 4, 5, 6, 7, 8, 9, 10, 11, 12, 13, 14, 15, 16, 17, 18, 19, 20, 21, 22, 23, 24, 25, 26, 27, 28, 29, 30, 31, 32, 33, 34, 35, 36, 37, 38, 39, 40, 41, 42, 43, 44, 45, 46, 47, 48, 49, 50, 51, 52, 53, 54, 55, 56, 57, 58, 59, 60, 61, 62, 63, 64, 65, 66, 67, 68, 69, 70, 71, 72, 73, 74, 75, 76, 77, 78, 79, 80, 81, 82, 83, 84, 85, 86, 87, 88, 89, 90, 91, 92, 93, 94, 95, 96, 97, 98, 99, 100, 101, 102, 103, 104, 105, 106, 107, 108, 109, 110, 111, 112, 113, 114, 115, 116, 117, 118, 119, 120, 121, 122, 123, 124, 125, 126, 127, 128, 129, 130, 131, 132, 133, 134, 135, 136, 137, 138, 139, 140, 141, 142, 143, 144, 145, 146, 147, 148, 149, 150, 151, 152, 153, 154, 155, 156, 157, 158, 159, 160, 161, 162, 163, 164, 165, 166, 167, 168, 169, 170], CalleeOk k (nps k) := List.forall_mem_cons.mpr ⟨cok1, List.forall_mem_cons.mpr ⟨cok2, List.forall_mem_cons.mpr ⟨cok3, List.forall_mem_cons.mpr ⟨cok4, List.forall_mem_cons.mpr ⟨cok5, List.forall_mem_cons.mpr ⟨cok6, List.forall_mem_cons.mpr ⟨cok7, List.forall_mem_cons.mpr ⟨cok8, List.forall_mem_cons.mpr ⟨cok9, List.forall_mem_cons.mpr ⟨cok10, List.forall_mem_cons.mpr ⟨cok11, List.forall_mem_cons.mpr ⟨cok12, List.forall_mem_cons.mpr ⟨cok13, List.forall_mem_cons.mpr ⟨cok14, List.forall_mem_cons.mpr ⟨cok15, List.forall_mem_cons.mpr ⟨cok16, List.forall_mem_cons.mpr ⟨cok17, List.forall_mem_cons.mpr ⟨cok18, List.forall_mem_cons.mpr ⟨cok19, List.forall_mem_cons.mpr ⟨cok20, List.forall_mem_cons.mpr ⟨cok21, List.forall_mem_cons.mpr ⟨cok22, List.forall_mem_cons.mpr ⟨cok23, List.forall_mem_cons.mpr ⟨cok24, List.forall_mem_cons.mpr ⟨cok25, List.forall_mem_cons.mpr ⟨cok26, List.forall_mem_cons.mpr ⟨cok27, List.forall_mem_cons.mpr ⟨cok28, List.forall_mem_cons.mpr ⟨cok29, List.forall_mem_cons.mpr ⟨cok30, List.forall_mem_cons.mpr ⟨cok31, List.forall_mem_cons.mpr ⟨cok32, List.forall_mem_cons.mpr ⟨cok33, List.forall_mem_cons.mpr ⟨cok34, List.forall_mem_cons.mpr ⟨cok35, List.forall_mem_cons.mpr ⟨cok36, List.forall_mem_cons.mpr ⟨cok37, List.forall_mem_cons.mpr ⟨cok38, List.forall_mem_cons.mpr ⟨cok39, List.forall_mem_cons.mpr ⟨cok40, List.forall_mem_cons.mpr ⟨cok41, List.forall_mem_cons.mpr ⟨cok42, List.forall_mem_cons.mpr ⟨cok43, List.forall_mem_cons.mpr ⟨cok44, List.forall_mem_cons.mpr ⟨cok45, List.forall_mem_cons.mpr ⟨cok46, List.forall_mem_cons.mpr ⟨cok47, List.forall_mem_cons.mpr ⟨cok48, List.forall_mem_cons.mpr ⟨cok49, List.forall_mem_cons.mpr ⟨cok50, List.forall_mem_cons.mpr ⟨cok51, List.forall_mem_cons.mpr ⟨cok52, List.forall_mem_cons.mpr ⟨cok53, List.forall_mem_cons.mpr ⟨cok54, List.forall_mem_cons.mpr ⟨cok55, List.forall_mem_cons.mpr ⟨cok56, List.forall_mem_cons.mpr ⟨cok57, List.forall_mem_cons.mpr ⟨cok58, List.forall_mem_cons.mpr ⟨cok59, List.forall_mem_cons.mpr ⟨cok60, List.forall_mem_cons.mpr ⟨cok61, List.forall_mem_cons.mpr ⟨cok62, List.forall_mem_cons.mpr ⟨cok63, List.forall_mem_cons.mpr ⟨cok64, List.forall_mem_cons.mpr ⟨cok65, List.forall_mem_cons.mpr ⟨cok66, List.forall_mem_cons.mpr ⟨cok67, List.forall_mem_cons.mpr ⟨cok68, List.forall_mem_cons.mpr ⟨cok69, List.forall_mem_cons.mpr ⟨cok70, List.forall_mem_cons.mpr ⟨cok71, List.forall_mem_cons.mpr ⟨cok72, List.forall_mem_cons.mpr ⟨cok73, List.forall_mem_cons.mpr ⟨cok74, List.forall_mem_cons.mpr ⟨cok75, List.forall_mem_cons.mpr ⟨cok76, List.forall_mem_cons.mpr ⟨cok77, List.forall_mem_cons.mpr ⟨cok78, List.forall_mem_cons.mpr ⟨cok79, List.forall_mem_cons.mpr ⟨cok80, List.forall_mem_cons.mpr ⟨cok81, List.forall_mem_cons.mpr ⟨cok82, List.forall_mem_cons.mpr ⟨cok83, List.forall_mem_cons.mpr ⟨cok84, List.forall_mem_cons.mpr ⟨cok85, List.forall_mem_cons.mpr ⟨cok86, List.forall_mem_cons.mpr ⟨cok87, List.forall_mem_cons.mpr ⟨cok88, List.forall_mem_cons.mpr ⟨cok89, List.forall_mem_cons.mpr ⟨cok90, List.forall_mem_cons.mpr ⟨cok91, List.forall_mem_cons.mpr ⟨cok92, List.forall_mem_cons.mpr ⟨cok93, List.forall_mem_cons.mpr ⟨cok94, List.forall_mem_cons.mpr ⟨cok95, List.forall_mem_cons.mpr ⟨cok96, List.forall_mem_cons.mpr ⟨cok97, List.forall_mem_cons.mpr ⟨cok98, List.forall_mem_cons.mpr ⟨cok99, List.forall_mem_cons.mpr ⟨cok100, List.forall_mem_cons.mpr ⟨cok101, List.forall_mem_cons.mpr ⟨cok102, List.forall_mem_cons.mpr ⟨cok103, List.forall_mem_cons.mpr ⟨cok104, List.forall_mem_cons.mpr ⟨cok105, List.forall_mem_cons.mpr ⟨cok106, List.forall_mem_cons.mpr ⟨cok107, List.forall_mem_cons.mpr ⟨cok108, List.forall_mem_cons.mpr ⟨cok109, List.forall_mem_cons.mpr ⟨cok110, List.forall_mem_cons.mpr ⟨cok111, List.forall_mem_cons.mpr ⟨cok112, List.forall_mem_cons.mpr ⟨cok113, List.forall_mem_cons.mpr ⟨cok114, List.forall_mem_cons.mpr ⟨cok115, List.forall_mem_cons.mpr ⟨cok116, List.forall_mem_cons.mpr ⟨cok117, List.forall_mem_cons.mpr ⟨cok118, List.forall_mem_cons.mpr ⟨cok119, List.forall_mem_cons.mpr ⟨cok120, List.forall_mem_cons.mpr ⟨cok121, List.forall_mem_cons.mpr ⟨cok122, List.forall_mem_cons.mpr ⟨cok123, List.forall_mem_cons.mpr ⟨cok124, List.forall_mem_cons.mpr ⟨cok125, List.forall_mem_cons.mpr ⟨cok126, List.forall_mem_cons.mpr ⟨cok127, List.forall_mem_cons.mpr ⟨cok128, List.forall_mem_cons.mpr ⟨cok129, List.forall_mem_cons.mpr ⟨cok130, List.forall_mem_cons.mpr ⟨cok131, List.forall_mem_cons.mpr ⟨cok132, List.forall_mem_cons.mpr ⟨cok133, List.forall_mem_cons.mpr ⟨cok134, List.forall_mem_cons.mpr ⟨cok135, List.forall_mem_cons.mpr ⟨cok136, List.forall_mem_cons.mpr ⟨cok137, List.forall_mem_cons.mpr ⟨cok138, List.forall_mem_cons.mpr ⟨cok139, List.forall_mem_cons.mpr ⟨cok140, List.forall_mem_cons.mpr ⟨cok141, List.forall_mem_cons.mpr ⟨cok142, List.forall_mem_cons.mpr ⟨cok143, List.forall_mem_cons.mpr ⟨cok144, List.forall_mem_cons.mpr ⟨cok145, List.forall_mem_cons.mpr ⟨cok146, List.forall_mem_cons.mpr ⟨cok147, List.forall_mem_cons.mpr ⟨cok148, List.forall_mem_cons.mpr ⟨cok149, List.forall_mem_cons.mpr ⟨cok150, List.forall_mem_cons.mpr ⟨cok151, List.forall_mem_cons.mpr ⟨cok152, List.forall_mem_cons.mpr ⟨cok153, List.forall_mem_cons.mpr ⟨cok154, List.forall_mem_cons.mpr ⟨cok155, List.forall_mem_cons.mpr ⟨cok156, List.forall_mem_cons.mpr ⟨cok157, List.forall_mem_cons.mpr ⟨cok158, List.forall_mem_cons.mpr ⟨cok159, List.forall_mem_cons.mpr ⟨cok160, List.forall_mem_cons.mpr ⟨cok161, List.forall_mem_cons.mpr ⟨cok162, List.forall_mem_cons.mpr ⟨cok163, List.forall_mem_cons.mpr ⟨cok164, List.forall_mem_cons.mpr ⟨cok165, List.forall_mem_cons.mpr ⟨cok166, List.forall_mem_cons.mpr ⟨cok167, List.forall_mem_cons.mpr ⟨cok168, List.forall_mem_cons.mpr ⟨cok169, List.forall_mem_cons.mpr ⟨cok170, fun _ h => absurd h List.not_mem_nil⟩⟩⟩⟩⟩⟩⟩⟩⟩⟩⟩⟩⟩⟩⟩⟩⟩⟩⟩⟩⟩⟩⟩⟩⟩⟩⟩⟩⟩⟩⟩⟩⟩⟩⟩⟩⟩⟩⟩⟩⟩⟩⟩⟩⟩⟩⟩⟩⟩⟩⟩⟩⟩⟩⟩⟩⟩⟩⟩⟩⟩⟩⟩⟩⟩⟩⟩⟩⟩⟩⟩⟩⟩⟩⟩⟩⟩⟩⟩⟩⟩⟩⟩⟩⟩⟩⟩⟩⟩⟩⟩⟩⟩⟩⟩⟩⟩⟩⟩⟩⟩⟩⟩⟩⟩⟩⟩⟩⟩⟩⟩⟩⟩⟩⟩⟩⟩⟩⟩⟩⟩⟩⟩⟩⟩⟩⟩⟩⟩⟩⟩⟩⟩⟩⟩⟩⟩⟩⟩⟩⟩⟩⟩⟩⟩⟩⟩⟩⟩⟩⟩⟩⟩⟩⟩⟩⟩⟩⟩⟩⟩⟩⟩⟩⟩⟩⟩⟩⟩⟩
set_option maxRecDepth 20000 in
theorem calleeOk {k : Nat} (h : decide (1 ≤ k ∧ k < 171) = true) : CalleeOk k (nps k) := by
  rw [decide_eq_true_eq] at h
  have key : ∀ k, k < 171 → 1 ≤ k → k ∈ [1, 2, 3, 4, 5, 6, 7, 8, 9, 10, 11, 12, 13, 14, 15, 16, 17, 18, 19, 20, 21, 22, 23, 24, 25, 26, 27, 28, 29, 30, 31, 32, 33, 34, 35, 36, 37, 38, 39, 40, 41, 42, 43, 44, 45, 46, 47, 48, 49, 50, 51, 52, 53, 54, 55, 56, 57, 58, 59, 60, 61, 62, 63, 64, 65, 66, 67, 68, 69, 70, 71, 72, 73, 74, 75, 76, 77, 78, 79, 80, 81, 82, 83, 84, 85, 86, 87, 88, 89, 90, 91, 92, 93, 94, 95, 96, 97, 98, 99, 100, 101, 102, 103, 104, 105, 106, 107, 108, 109, 110, 111, 112, 113, 114, 115, 116, 117, 118, 119, 120, 121, 122, 123, 124, 125, 126, 127, 128, 129, 130, 131, 132, 133, 134, 135, 136, 137, 138, 139, 140, 141, 142, 143, 144, 145, 146, 147, 148, 149, 150, 151, 152, 153, 154, 155, 156, 157, 158, 159, 160, 161, 162, 163, 164, 165, 166, 167, 168, 169, 170] := by decide +kernel
  exact cokAll k (key k h.2 h.1)
