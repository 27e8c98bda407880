set_option maxRecDepth 100000 in
set_option maxHeartbeats 4000000 in
theorem okc0 : okT 0 co0 = true := by decide +kernel
theorem okm0 : ∀ (pc : Nat) (e : MC), cd 0 pc = some e → okI 0 pc e = true := fun pc e h => okT_use okc0 (show cdT co0 pc = some e from h)
set_option maxRecDepth 100000 in
set_option maxHeartbeats 4000000 in
theorem okc1 : okT 1 co1 = true := by decide +kernel
theorem okm1 : ∀ (pc : Nat) (e : MC), cd 1 pc = some e → okI 1 pc e = true := fun pc e h => okT_use okc1 (show cdT co1 pc = some e from h)
set_option maxRecDepth 100000 in
set_option maxHeartbeats 4000000 in
theorem okc2 : okT 2 co2 = true := by decide +kernel
theorem okm2 : ∀ (pc : Nat) (e : MC), cd 2 pc = some e → okI 2 pc e = true := fun pc e h => okT_use okc2 (show cdT co2 pc = some e from h)
set_option maxRecDepth 100000 in
set_option maxHeartbeats 4000000 in
theorem okc3 : okT 3 co3 = true := by decide +kernel
theorem okm3 : ∀ (pc : Nat) (e : MC), cd 3 pc = some e → okI 3 pc e = true := fun pc e h => okT_use okc3 (show cdT co3 pc = some e from h)
set_option maxRecDepth 100000 in
set_option maxHeartbeats 4000000 in
theorem okc4 : okT 4 co4 = true := by decide +kernel
theorem okm4 : ∀ (pc : Nat) (e : MC), cd 4 pc = some e → okI 4 pc e = true := fun pc e h => okT_use okc4 (show cdT co4 pc = some e from h)
set_option maxRecDepth 100000 in
set_option maxHeartbeats 4000000 in
theorem okc5 : okT 5 co5 = true := by decide +kernel
theorem okm5 : ∀ (pc : Nat) (e : MC), cd 5 pc = some e → okI 5 pc e = true := fun pc e h => okT_use okc5 (show cdT co5 pc = some e from h)
set_option maxRecDepth 100000 in
set_option maxHeartbeats 4000000 in
theorem okc6 : okT 6 co6 = true := by decide +kernel
theorem okm6 : ∀ (pc : Nat) (e : MC), cd 6 pc = some e → okI 6 pc e = true := fun pc e h => okT_use okc6 (show cdT co6 pc = some e from h)
set_option maxRecDepth 100000 in
set_option maxHeartbeats 4000000 in
theorem okc7 : okT 7 co7 = true := by decide +kernel
theorem okm7 : ∀ (pc : Nat) (e : MC), cd 7 pc = some e → okI 7 pc e = true := fun pc e h => okT_use okc7 (show cdT co7 pc = some e from h)
set_option maxRecDepth 100000 in
set_option maxHeartbeats 4000000 in
theorem okc8 : okT 8 co8 = true := by decide +kernel
theorem okm8 : ∀ (pc : Nat) (e : MC), cd 8 pc = some e → okI 8 pc e = true := fun pc e h => okT_use okc8 (show cdT co8 pc = some e from h)
set_option maxRecDepth 100000 in
set_option maxHeartbeats 4000000 in
theorem okc9 : okT 9 co9 = true := by decide +kernel
theorem okm9 : ∀ (pc : Nat) (e : MC), cd 9 pc = some e → okI 9 pc e = true := fun pc e h => okT_use okc9 (show cdT co9 pc = some e from h)
set_option maxRecDepth 100000 in
set_option maxHeartbeats 4000000 in
theorem okc10 : okT 10 co10 = true := by decide +kernel
theorem okm10 : ∀ (pc : Nat) (e : MC), cd 10 pc = some e → okI 10 pc e = true := fun pc e h => okT_use okc10 (show cdT co10 pc = some e from h)
set_option maxRecDepth 100000 in
set_option maxHeartbeats 4000000 in
theorem okc11 : okT 11 co11 = true := by decide +kernel
theorem okm11 : ∀ (pc : Nat) (e : MC), cd 11 pc = some e → okI 11 pc e = true := fun pc e h => okT_use okc11 (show cdT co11 pc = some e from h)
set_option maxRecDepth 100000 in
set_option maxHeartbeats 4000000 in
theorem okc12 : okT 12 co12 = true := by decide +kernel
theorem okm12 : ∀ (pc : Nat) (e : MC), cd 12 pc = some e → okI 12 pc e = true := fun pc e h => okT_use okc12 (show cdT co12 pc = some e from h)
set_option maxRecDepth 100000 in
set_option maxHeartbeats 4000000 in
theorem okc13 : okT 13 co13 = true := by decide +kernel
theorem okm13 : ∀ (pc : Nat) (e : MC), cd 13 pc = some e → okI 13 pc e = true := fun pc e h => okT_use okc13 (show cdT co13 pc = some e from h)
set_option maxRecDepth 100000 in
set_option maxHeartbeats 4000000 in
theorem okc14 : okT 14 co14 = true := by decide +kernel
theorem okm14 : ∀ (pc : Nat) (e : MC), cd 14 pc = some e → okI 14 pc e = true := fun pc e h => okT_use okc14 (show cdT co14 pc = some e from h)
set_option maxRecDepth 100000 in
set_option maxHeartbeats 4000000 in
theorem okc15 : okT 15 co15 = true := by decide +kernel
theorem okm15 : ∀ (pc : Nat) (e : MC), cd 15 pc = some e → okI 15 pc e = true := fun pc e h => okT_use okc15 (show cdT co15 pc = some e from h)
set_option maxRecDepth 100000 in
set_option maxHeartbeats 4000000 in
theorem okc16 : okT 16 co16 = true := by decide +kernel
theorem okm16 : ∀ (pc : Nat) (e : MC), cd 16 pc = some e → okI 16 pc e = true := fun pc e h => okT_use okc16 (show cdT co16 pc = some e from h)
set_option maxRecDepth 100000 in
set_option maxHeartbeats 4000000 in
theorem okc17 : okT 17 co17 = true := by decide +kernel
theorem okm17 : ∀ (pc : Nat) (e : MC), cd 17 pc = some e → okI 17 pc e = true := fun pc e h => okT_use okc17 (show cdT co17 pc = some e from h)
set_option maxRecDepth 100000 in
set_option maxHeartbeats 4000000 in
theorem okc18 : okT 18 co18 = true := by decide +kernel
theorem okm18 : ∀ (pc : Nat) (e : MC), cd 18 pc = some e → okI 18 pc e = true := fun pc e h => okT_use okc18 (show cdT co18 pc = some e from h)
set_option maxRecDepth 100000 in
set_option maxHeartbeats 4000000 in
theorem okc19 : okT 19 co19 = true := by decide +kernel
theorem okm19 : ∀ (pc : Nat) (e : MC), cd 19 pc = some e → okI 19 pc e = true := fun pc e h => okT_use okc19 (show cdT co19 pc = some e from h)
set_option maxRecDepth 100000 in
set_option maxHeartbeats 4000000 in
theorem okc20 : okT 20 co20 = true := by decide +kernel
theorem okm20 : ∀ (pc : Nat) (e : MC), cd 20 pc = some e → okI 20 pc e = true := fun pc e h => okT_use okc20 (show cdT co20 pc = some e from h)
set_option maxRecDepth 100000 in
set_option maxHeartbeats 4000000 in
theorem okc21 : okT 21 co21 = true := by decide +kernel
theorem okm21 : ∀ (pc : Nat) (e : MC), cd 21 pc = some e → okI 21 pc e = true := fun pc e h => okT_use okc21 (show cdT co21 pc = some e from h)
set_option maxRecDepth 100000 in
set_option maxHeartbeats 4000000 in
theorem okc22 : okT 22 co22 = true := by decide +kernel
theorem okm22 : ∀ (pc : Nat) (e : MC), cd 22 pc = some e → okI 22 pc e = true := fun pc e h => okT_use okc22 (show cdT co22 pc = some e from h)
set_option maxRecDepth 100000 in
set_option maxHeartbeats 4000000 in
theorem okc23 : okT 23 co23 = true := by decide +kernel
theorem okm23 : ∀ (pc : Nat) (e : MC), cd 23 pc = some e → okI 23 pc e = true := fun pc e h => okT_use okc23 (show cdT co23 pc = some e from h)
set_option maxRecDepth 100000 in
set_option maxHeartbeats 4000000 in
theorem okc24 : okT 24 co24 = true := by decide +kernel
theorem okm24 : ∀ (pc : Nat) (e : MC), cd 24 pc = some e → okI 24 pc e = true := fun pc e h => okT_use okc24 (show cdT co24 pc = some e from h)
set_option maxRecDepth 100000 in
set_option maxHeartbeats 4000000 in
theorem okc25 : okT 25 co25 = true := by decide +kernel
theorem okm25 : ∀ (pc : Nat) (e : MC), cd 25 pc = some e → okI 25 pc e = true := fun pc e h => okT_use okc25 (show cdT co25 pc = some e from h)
set_option maxRecDepth 100000 in
set_option maxHeartbeats 4000000 in
theorem okc26 : okT 26 co26 = true := by decide +kernel
theorem okm26 : ∀ (pc : Nat) (e : MC), cd 26 pc = some e → okI 26 pc e = true := fun pc e h => okT_use okc26 (show cdT co26 pc = some e from h)
set_option maxRecDepth 100000 in
set_option maxHeartbeats 4000000 in
theorem okc27 : okT 27 co27 = true := by decide +kernel
theorem okm27 : ∀ (pc : Nat) (e : MC), cd 27 pc = some e → okI 27 pc e = true := fun pc e h => okT_use okc27 (show cdT co27 pc = some e from h)
set_option maxRecDepth 100000 in
set_option maxHeartbeats 4000000 in
theorem okc28 : okT 28 co28 = true := by decide +kernel
theorem okm28 : ∀ (pc : Nat) (e : MC), cd 28 pc = some e → okI 28 pc e = true := fun pc e h => okT_use okc28 (show cdT co28 pc = some e from h)
set_option maxRecDepth 100000 in
set_option maxHeartbeats 4000000 in
theorem okc29 : okT 29 co29 = true := by decide +kernel
theorem okm29 : ∀ (pc : Nat) (e : MC), cd 29 pc = some e → okI 29 pc e = true := fun pc e h => okT_use okc29 (show cdT co29 pc = some e from h)
set_option maxRecDepth 100000 in
set_option maxHeartbeats 4000000 in
theorem okc30 : okT 30 co30 = true := by decide +kernel
theorem okm30 : ∀ (pc : Nat) (e : MC), cd 30 pc = some e → okI 30 pc e = true := fun pc e h => okT_use okc30 (show cdT co30 pc = some e from h)
set_option maxRecDepth 100000 in
set_option maxHeartbeats 4000000 in
theorem okc31 : okT 31 co31 = true := by decide +kernel
theorem okm31 : ∀ (pc : Nat) (e : MC), cd 31 pc = some e → okI 31 pc e = true := fun pc e h => okT_use okc31 (show cdT co31 pc = some e from h)
set_option maxRecDepth 100000 in
set_option maxHeartbeats 4000000 in
theorem okc32 : okT 32 co32 = true := by decide +kernel
theorem okm32 : ∀ (pc : Nat) (e : MC), cd 32 pc = some e → okI 32 pc e = true := fun pc e h => okT_use okc32 (show cdT co32 pc = some e from h)
set_option maxRecDepth 100000 in
set_option maxHeartbeats 4000000 in
theorem okc33 : okT 33 co33 = true := by decide +kernel
theorem okm33 : ∀ (pc : Nat) (e : MC), cd 33 pc = some e → okI 33 pc e = true := fun pc e h => okT_use okc33 (show cdT co33 pc = some e from h)
set_option maxRecDepth 100000 in
set_option maxHeartbeats 4000000 in
theorem okc34 : okT 34 co34 = true := by decide +kernel
theorem okm34 : ∀ (pc : Nat) (e : MC), cd 34 pc = some e → okI 34 pc e = true := fun pc e h => okT_use okc34 (show cdT co34 pc = some e from h)
set_option maxRecDepth 100000 in
set_option maxHeartbeats 4000000 in
theorem okc35 : okT 35 co35 = true := by decide +kernel
theorem okm35 : ∀ (pc : Nat) (e : MC), cd 35 pc = some e → okI 35 pc e = true := fun pc e h => okT_use okc35 (show cdT co35 pc = some e from h)
set_option maxRecDepth 100000 in
set_option maxHeartbeats 4000000 in
theorem okc36 : okT 36 co36 = true := by decide +kernel
theorem okm36 : ∀ (pc : Nat) (e : MC), cd 36 pc = some e → okI 36 pc e = true := fun pc e h => okT_use okc36 (show cdT co36 pc = some e from h)
set_option maxRecDepth 100000 in
set_option maxHeartbeats 4000000 in
theorem okc37 : okT 37 co37 = true := by decide +kernel
theorem okm37 : ∀ (pc : Nat) (e : MC), cd 37 pc = some e → okI 37 pc e = true := fun pc e h => okT_use okc37 (show cdT co37 pc = some e from h)
set_option maxRecDepth 100000 in
set_option maxHeartbeats 4000000 in
theorem okc38 : okT 38 co38 = true := by decide +kernel
theorem okm38 : ∀ (pc : Nat) (e : MC), cd 38 pc = some e → okI 38 pc e = true := fun pc e h => okT_use okc38 (show cdT co38 pc = some e from h)
set_option maxRecDepth 100000 in
set_option maxHeartbeats 4000000 in
theorem okc39 : okT 39 co39 = true := by decide +kernel
theorem okm39 : ∀ (pc : Nat) (e : MC), cd 39 pc = some e → okI 39 pc e = true := fun pc e h => okT_use okc39 (show cdT co39 pc = some e from h)
set_option maxRecDepth 100000 in
set_option maxHeartbeats 4000000 in
theorem okc40 : okT 40 co40 = true := by decide +kernel
theorem okm40 : ∀ (pc : Nat) (e : MC), cd 40 pc = some e → okI 40 pc e = true := fun pc e h => okT_use okc40 (show cdT co40 pc = some e from h)
set_option maxRecDepth 100000 in
set_option maxHeartbeats 4000000 in
theorem okc41 : okT 41 co41 = true := by decide +kernel
theorem okm41 : ∀ (pc : Nat) (e : MC), cd 41 pc = some e → okI 41 pc e = true := fun pc e h => okT_use okc41 (show cdT co41 pc = some e from h)
set_option maxRecDepth 100000 in
set_option maxHeartbeats 4000000 in
theorem okc42 : okT 42 co42 = true := by decide +kernel
theorem okm42 : ∀ (pc : Nat) (e : MC), cd 42 pc = some e → okI 42 pc e = true := fun pc e h => okT_use okc42 (show cdT co42 pc = some e from h)
set_option maxRecDepth 100000 in
set_option maxHeartbeats 4000000 in
theorem okc43 : okT 43 co43 = true := by decide +kernel
theorem okm43 : ∀ (pc : Nat) (e : MC), cd 43 pc = some e → okI 43 pc e = true := fun pc e h => okT_use okc43 (show cdT co43 pc = some e from h)
theorem okm44 : ∀ (pc : Nat) (e : MC), cd 44 pc = some e → okI 44 pc e = true := fun pc e h => absurd (show (none : Option MC) = some e from h) (by simp)
theorem okm45 : ∀ (pc : Nat) (e : MC), cd 45 pc = some e → okI 45 pc e = true := fun pc e h => absurd (show (none : Option MC) = some e from h) (by simp)
theorem okm46 : ∀ (pc : Nat) (e : MC), cd 46 pc = some e → okI 46 pc e = true := fun pc e h => absurd (show (none : Option MC) = some e from h) (by simp)
theorem okm47 : ∀ (pc : Nat) (e : MC), cd 47 pc = some e → okI 47 pc e = true := fun pc e h => absurd (show (none : Option MC) = some e from h) (by simp)
theorem okm48 : ∀ (pc : Nat) (e : MC), cd 48 pc = some e → okI 48 pc e = true := fun pc e h => absurd (show (none : Option MC) = some e from h) (by simp)
theorem okm49 : ∀ (pc : Nat) (e : MC), cd 49 pc = some e → okI 49 pc e = true := fun pc e h => absurd (show (none : Option MC) = some e from h) (by simp)
theorem okm50 : ∀ (pc : Nat) (e : MC), cd 50 pc = some e → okI 50 pc e = true := fun pc e h => absurd (show (none : Option MC) = some e from h) (by simp)
theorem okm51 : ∀ (pc : Nat) (e : MC), cd 51 pc = some e → okI 51 pc e = true := fun pc e h => absurd (show (none : Option MC) = some e from h) (by simp)
theorem okm52 : ∀ (pc : Nat) (e : MC), cd 52 pc = some e → okI 52 pc e = true := fun pc e h => absurd (show (none : Option MC) = some e from h) (by simp)
set_option maxRecDepth 100000 in
set_option maxHeartbeats 4000000 in
theorem okc53 : okT 53 co53 = true := by decide +kernel
theorem okm53 : ∀ (pc : Nat) (e : MC), cd 53 pc = some e → okI 53 pc e = true := fun pc e h => okT_use okc53 (show cdT co53 pc = some e from h)
set_option maxRecDepth 100000 in
set_option maxHeartbeats 4000000 in
theorem okc54 : okT 54 co54 = true := by decide +kernel
theorem okm54 : ∀ (pc : Nat) (e : MC), cd 54 pc = some e → okI 54 pc e = true := fun pc e h => okT_use okc54 (show cdT co54 pc = some e from h)
set_option maxRecDepth 100000 in
set_option maxHeartbeats 4000000 in
theorem okc55 : okT 55 co55 = true := by decide +kernel
theorem okm55 : ∀ (pc : Nat) (e : MC), cd 55 pc = some e → okI 55 pc e = true := fun pc e h => okT_use okc55 (show cdT co55 pc = some e from h)
set_option maxRecDepth 100000 in
set_option maxHeartbeats 4000000 in
theorem okc56 : okT 56 co56 = true := by decide +kernel
theorem okm56 : ∀ (pc : Nat) (e : MC), cd 56 pc = some e → okI 56 pc e = true := fun pc e h => okT_use okc56 (show cdT co56 pc = some e from h)
set_option maxRecDepth 100000 in
set_option maxHeartbeats 4000000 in
theorem okc57 : okT 57 co57 = true := by decide +kernel
theorem okm57 : ∀ (pc : Nat) (e : MC), cd 57 pc = some e → okI 57 pc e = true := fun pc e h => okT_use okc57 (show cdT co57 pc = some e from h)
set_option maxRecDepth 100000 in
set_option maxHeartbeats 4000000 in
theorem okc58 : okT 58 co58 = true := by decide +kernel
theorem okm58 : ∀ (pc : Nat) (e : MC), cd 58 pc = some e → okI 58 pc e = true := fun pc e h => okT_use okc58 (show cdT co58 pc = some e from h)
set_option maxRecDepth 100000 in
set_option maxHeartbeats 4000000 in
theorem okc59 : okT 59 co59 = true := by decide +kernel
theorem okm59 : ∀ (pc : Nat) (e : MC), cd 59 pc = some e → okI 59 pc e = true := fun pc e h => okT_use okc59 (show cdT co59 pc = some e from h)
set_option maxRecDepth 100000 in
set_option maxHeartbeats 4000000 in
theorem okc60 : okT 60 co60 = true := by decide +kernel
theorem okm60 : ∀ (pc : Nat) (e : MC), cd 60 pc = some e → okI 60 pc e = true := fun pc e h => okT_use okc60 (show cdT co60 pc = some e from h)
set_option maxRecDepth 100000 in
set_option maxHeartbeats 4000000 in
theorem okc61 : okT 61 co61 = true := by decide +kernel
theorem okm61 : ∀ (pc : Nat) (e : MC), cd 61 pc = some e → okI 61 pc e = true := fun pc e h => okT_use okc61 (show cdT co61 pc = some e from h)
set_option maxRecDepth 100000 in
set_option maxHeartbeats 4000000 in
theorem okc62 : okT 62 co62 = true := by decide +kernel
theorem okm62 : ∀ (pc : Nat) (e : MC), cd 62 pc = some e → okI 62 pc e = true := fun pc e h => okT_use okc62 (show cdT co62 pc = some e from h)
set_option maxRecDepth 100000 in
set_option maxHeartbeats 4000000 in
theorem okc63 : okT 63 co63 = true := by decide +kernel
theorem okm63 : ∀ (pc : Nat) (e : MC), cd 63 pc = some e → okI 63 pc e = true := fun pc e h => okT_use okc63 (show cdT co63 pc = some e from h)
set_option maxRecDepth 100000 in
set_option maxHeartbeats 4000000 in
theorem okc64 : okT 64 co64 = true := by decide +kernel
theorem okm64 : ∀ (pc : Nat) (e : MC), cd 64 pc = some e → okI 64 pc e = true := fun pc e h => okT_use okc64 (show cdT co64 pc = some e from h)
set_option maxRecDepth 100000 in
set_option maxHeartbeats 4000000 in
theorem okc65 : okT 65 co65 = true := by decide +kernel
theorem okm65 : ∀ (pc : Nat) (e : MC), cd 65 pc = some e → okI 65 pc e = true := fun pc e h => okT_use okc65 (show cdT co65 pc = some e from h)
set_option maxRecDepth 100000 in
set_option maxHeartbeats 4000000 in
theorem okc66 : okT 66 co66 = true := by decide +kernel
theorem okm66 : ∀ (pc : Nat) (e : MC), cd 66 pc = some e → okI 66 pc e = true := fun pc e h => okT_use okc66 (show cdT co66 pc = some e from h)
set_option maxRecDepth 100000 in
set_option maxHeartbeats 4000000 in
theorem okc67 : okT 67 co67 = true := by decide +kernel
theorem okm67 : ∀ (pc : Nat) (e : MC), cd 67 pc = some e → okI 67 pc e = true := fun pc e h => okT_use okc67 (show cdT co67 pc = some e from h)
set_option maxRecDepth 100000 in
set_option maxHeartbeats 4000000 in
theorem okc68 : okT 68 co68 = true := by decide +kernel
theorem okm68 : ∀ (pc : Nat) (e : MC), cd 68 pc = some e → okI 68 pc e = true := fun pc e h => okT_use okc68 (show cdT co68 pc = some e from h)
set_option maxRecDepth 100000 in
set_option maxHeartbeats 4000000 in
theorem okc69 : okT 69 co69 = true := by decide +kernel
theorem okm69 : ∀ (pc : Nat) (e : MC), cd 69 pc = some e → okI 69 pc e = true := fun pc e h => okT_use okc69 (show cdT co69 pc = some e from h)
set_option maxRecDepth 100000 in
set_option maxHeartbeats 4000000 in
theorem okc70 : okT 70 co70 = true := by decide +kernel
theorem okm70 : ∀ (pc : Nat) (e : MC), cd 70 pc = some e → okI 70 pc e = true := fun pc e h => okT_use okc70 (show cdT co70 pc = some e from h)
set_option maxRecDepth 100000 in
set_option maxHeartbeats 4000000 in
theorem okc71 : okT 71 co71 = true := by decide +kernel
theorem okm71 : ∀ (pc : Nat) (e : MC), cd 71 pc = some e → okI 71 pc e = true := fun pc e h => okT_use okc71 (show cdT co71 pc = some e from h)
set_option maxRecDepth 100000 in
set_option maxHeartbeats 4000000 in
theorem okc72 : okT 72 co72 = true := by decide +kernel
theorem okm72 : ∀ (pc : Nat) (e : MC), cd 72 pc = some e → okI 72 pc e = true := fun pc e h => okT_use okc72 (show cdT co72 pc = some e from h)
set_option maxRecDepth 100000 in
set_option maxHeartbeats 4000000 in
theorem okc73 : okT 73 co73 = true := by decide +kernel
theorem okm73 : ∀ (pc : Nat) (e : MC), cd 73 pc = some e → okI 73 pc e = true := fun pc e h => okT_use okc73 (show cdT co73 pc = some e from h)
set_option maxRecDepth 100000 in
set_option maxHeartbeats 4000000 in
theorem okc74 : okT 74 co74 = true := by decide +kernel
theorem okm74 : ∀ (pc : Nat) (e : MC), cd 74 pc = some e → okI 74 pc e = true := fun pc e h => okT_use okc74 (show cdT co74 pc = some e from h)
set_option maxRecDepth 100000 in
set_option maxHeartbeats 4000000 in
theorem okc75 : okT 75 co75 = true := by decide +kernel
theorem okm75 : ∀ (pc : Nat) (e : MC), cd 75 pc = some e → okI 75 pc e = true := fun pc e h => okT_use okc75 (show cdT co75 pc = some e from h)
theorem okm76 : ∀ (pc : Nat) (e : MC), cd 76 pc = some e → okI 76 pc e = true := fun pc e h => absurd (show (none : Option MC) = some e from h) (by simp)
set_option maxRecDepth 100000 in
set_option maxHeartbeats 4000000 in
theorem okc77 : okT 77 co77 = true := by decide +kernel
theorem okm77 : ∀ (pc : Nat) (e : MC), cd 77 pc = some e → okI 77 pc e = true := fun pc e h => okT_use okc77 (show cdT co77 pc = some e from h)
set_option maxRecDepth 100000 in
set_option maxHeartbeats 4000000 in
theorem okc78 : okT 78 co78 = true := by decide +kernel
theorem okm78 : ∀ (pc : Nat) (e : MC), cd 78 pc = some e → okI 78 pc e = true := fun pc e h => okT_use okc78 (show cdT co78 pc = some e from h)
set_option maxRecDepth 100000 in
set_option maxHeartbeats 4000000 in
theorem okc79 : okT 79 co79 = true := by decide +kernel
theorem okm79 : ∀ (pc : Nat) (e : MC), cd 79 pc = some e → okI 79 pc e = true := fun pc e h => okT_use okc79 (show cdT co79 pc = some e from h)
theorem okm80 : ∀ (pc : Nat) (e : MC), cd 80 pc = some e → okI 80 pc e = true := fun pc e h => absurd (show (none : Option MC) = some e from h) (by simp)
theorem okm81 : ∀ (pc : Nat) (e : MC), cd 81 pc = some e → okI 81 pc e = true := fun pc e h => absurd (show (none : Option MC) = some e from h) (by simp)
set_option maxRecDepth 100000 in
set_option maxHeartbeats 4000000 in
theorem okc82 : okT 82 co82 = true := by decide +kernel
theorem okm82 : ∀ (pc : Nat) (e : MC), cd 82 pc = some e → okI 82 pc e = true := fun pc e h => okT_use okc82 (show cdT co82 pc = some e from h)
set_option maxRecDepth 100000 in
set_option maxHeartbeats 4000000 in
theorem okc83 : okT 83 co83 = true := by decide +kernel
theorem okm83 : ∀ (pc : Nat) (e : MC), cd 83 pc = some e → okI 83 pc e = true := fun pc e h => okT_use okc83 (show cdT co83 pc = some e from h)
set_option maxRecDepth 100000 in
set_option maxHeartbeats 4000000 in
theorem okc84 : okT 84 co84 = true := by decide +kernel
theorem okm84 : ∀ (pc : Nat) (e : MC), cd 84 pc = some e → okI 84 pc e = true := fun pc e h => okT_use okc84 (show cdT co84 pc = some e from h)
set_option maxRecDepth 100000 in
set_option maxHeartbeats 4000000 in
theorem okc85 : okT 85 co85 = true := by decide +kernel
theorem okm85 : ∀ (pc : Nat) (e : MC), cd 85 pc = some e → okI 85 pc e = true := fun pc e h => okT_use okc85 (show cdT co85 pc = some e from h)
set_option maxRecDepth 100000 in
set_option maxHeartbeats 4000000 in
theorem okc86 : okT 86 co86 = true := by decide +kernel
theorem okm86 : ∀ (pc : Nat) (e : MC), cd 86 pc = some e → okI 86 pc e = true := fun pc e h => okT_use okc86 (show cdT co86 pc = some e from h)
set_option maxRecDepth 100000 in
set_option maxHeartbeats 4000000 in
theorem okc87 : okT 87 co87 = true := by decide +kernel
theorem okm87 : ∀ (pc : Nat) (e : MC), cd 87 pc = some e → okI 87 pc e = true := fun pc e h => okT_use okc87 (show cdT co87 pc = some e from h)
set_option maxRecDepth 100000 in
set_option maxHeartbeats 4000000 in
theorem okc88 : okT 88 co88 = true := by decide +kernel
theorem okm88 : ∀ (pc : Nat) (e : MC), cd 88 pc = some e → okI 88 pc e = true := fun pc e h => okT_use okc88 (show cdT co88 pc = some e from h)
set_option maxRecDepth 100000 in
set_option maxHeartbeats 4000000 in
theorem okc89 : okT 89 co89 = true := by decide +kernel
theorem okm89 : ∀ (pc : Nat) (e : MC), cd 89 pc = some e → okI 89 pc e = true := fun pc e h => okT_use okc89 (show cdT co89 pc = some e from h)
set_option maxRecDepth 100000 in
set_option maxHeartbeats 4000000 in
theorem okc90 : okT 90 co90 = true := by decide +kernel
theorem okm90 : ∀ (pc : Nat) (e : MC), cd 90 pc = some e → okI 90 pc e = true := fun pc e h => okT_use okc90 (show cdT co90 pc = some e from h)
set_option maxRecDepth 100000 in
set_option maxHeartbeats 4000000 in
theorem okc91 : okT 91 co91 = true := by decide +kernel
theorem okm91 : ∀ (pc : Nat) (e : MC), cd 91 pc = some e → okI 91 pc e = true := fun pc e h => okT_use okc91 (show cdT co91 pc = some e from h)
set_option maxRecDepth 100000 in
set_option maxHeartbeats 4000000 in
theorem okc92 : okT 92 co92 = true := by decide +kernel
theorem okm92 : ∀ (pc : Nat) (e : MC), cd 92 pc = some e → okI 92 pc e = true := fun pc e h => okT_use okc92 (show cdT co92 pc = some e from h)
set_option maxRecDepth 100000 in
set_option maxHeartbeats 4000000 in
theorem okc93 : okT 93 co93 = true := by decide +kernel
theorem okm93 : ∀ (pc : Nat) (e : MC), cd 93 pc = some e → okI 93 pc e = true := fun pc e h => okT_use okc93 (show cdT co93 pc = some e from h)
set_option maxRecDepth 100000 in
set_option maxHeartbeats 4000000 in
theorem okc94 : okT 94 co94 = true := by decide +kernel
theorem okm94 : ∀ (pc : Nat) (e : MC), cd 94 pc = some e → okI 94 pc e = true := fun pc e h => okT_use okc94 (show cdT co94 pc = some e from h)
set_option maxRecDepth 100000 in
set_option maxHeartbeats 4000000 in
theorem okc95 : okT 95 co95 = true := by decide +kernel
theorem okm95 : ∀ (pc : Nat) (e : MC), cd 95 pc = some e → okI 95 pc e = true := fun pc e h => okT_use okc95 (show cdT co95 pc = some e from h)
set_option maxRecDepth 100000 in
set_option maxHeartbeats 4000000 in
theorem okc96 : okT 96 co96 = true := by decide +kernel
theorem okm96 : ∀ (pc : Nat) (e : MC), cd 96 pc = some e → okI 96 pc e = true := fun pc e h => okT_use okc96 (show cdT co96 pc = some e from h)
set_option maxRecDepth 100000 in
set_option maxHeartbeats 4000000 in
theorem okc97 : okT 97 co97 = true := by decide +kernel
theorem okm97 : ∀ (pc : Nat) (e : MC), cd 97 pc = some e → okI 97 pc e = true := fun pc e h => okT_use okc97 (show cdT co97 pc = some e from h)
set_option maxRecDepth 100000 in
set_option maxHeartbeats 4000000 in
theorem okc98 : okT 98 co98 = true := by decide +kernel
theorem okm98 : ∀ (pc : Nat) (e : MC), cd 98 pc = some e → okI 98 pc e = true := fun pc e h => okT_use okc98 (show cdT co98 pc = some e from h)
set_option maxRecDepth 100000 in
set_option maxHeartbeats 4000000 in
theorem okc99 : okT 99 co99 = true := by decide +kernel
theorem okm99 : ∀ (pc : Nat) (e : MC), cd 99 pc = some e → okI 99 pc e = true := fun pc e h => okT_use okc99 (show cdT co99 pc = some e from h)
set_option maxRecDepth 100000 in
set_option maxHeartbeats 4000000 in
theorem okc100 : okT 100 co100 = true := by decide +kernel
theorem okm100 : ∀ (pc : Nat) (e : MC), cd 100 pc = some e → okI 100 pc e = true := fun pc e h => okT_use okc100 (show cdT co100 pc = some e from h)
set_option maxRecDepth 100000 in
set_option maxHeartbeats 4000000 in
theorem okc101 : okT 101 co101 = true := by decide +kernel
theorem okm101 : ∀ (pc : Nat) (e : MC), cd 101 pc = some e → okI 101 pc e = true := fun pc e h => okT_use okc101 (show cdT co101 pc = some e from h)
set_option maxRecDepth 100000 in
set_option maxHeartbeats 4000000 in
theorem okc102 : okT 102 co102 = true := by decide +kernel
theorem okm102 : ∀ (pc : Nat) (e : MC), cd 102 pc = some e → okI 102 pc e = true := fun pc e h => okT_use okc102 (show cdT co102 pc = some e from h)
set_option maxRecDepth 100000 in
set_option maxHeartbeats 4000000 in
theorem okc103 : okT 103 co103 = true := by decide +kernel
theorem okm103 : ∀ (pc : Nat) (e : MC), cd 103 pc = some e → okI 103 pc e = true := fun pc e h => okT_use okc103 (show cdT co103 pc = some e from h)
set_option maxRecDepth 100000 in
set_option maxHeartbeats 4000000 in
theorem okc104 : okT 104 co104 = true := by decide +kernel
theorem okm104 : ∀ (pc : Nat) (e : MC), cd 104 pc = some e → okI 104 pc e = true := fun pc e h => okT_use okc104 (show cdT co104 pc = some e from h)
set_option maxRecDepth 100000 in
set_option maxHeartbeats 4000000 in
theorem okc105 : okT 105 co105 = true := by decide +kernel
theorem okm105 : ∀ (pc : Nat) (e : MC), cd 105 pc = some e → okI 105 pc e = true := fun pc e h => okT_use okc105 (show cdT co105 pc = some e from h)
set_option maxRecDepth 100000 in
set_option maxHeartbeats 4000000 in
theorem okc106 : okT 106 co106 = true := by decide +kernel
theorem okm106 : ∀ (pc : Nat) (e : MC), cd 106 pc = some e → okI 106 pc e = true := fun pc e h => okT_use okc106 (show cdT co106 pc = some e from h)
