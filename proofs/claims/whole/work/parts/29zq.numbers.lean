/-! the numbers of the counts -/
theorem ku0a2 : cB 36000000000 36000000000 2 18000000000 4000000000 0 0 18000000000 0 + cB 36000000000 36000000000 2 18000000000 4000000000 0 0 18000000000 1 ≤ 1 := by decide +kernel
theorem ku0b2 : cB 36000000000 36000000000 2 19619715528 5619715528 0 0 19620057024 0 + cB 36000000000 36000000000 2 19619715528 5619715528 0 0 19620057024 1 ≤ 0 := by decide +kernel
theorem ku0a3 : cB 36000000000 36000000000 3 18000000000 4000000000 0 0 18000000000 0 + cB 36000000000 36000000000 3 18000000000 4000000000 0 0 18000000000 1 ≤ 1 := by decide +kernel
theorem ku0b3 : cB 36000000000 36000000000 3 19619715528 5619715528 0 0 19620057024 0 + cB 36000000000 36000000000 3 19619715528 5619715528 0 0 19620057024 1 ≤ 0 := by decide +kernel
theorem few_0 {r : Nat → Int} (h : RF r) (hDt : (36 : Int) * r 3 ≤ (18000000000 : Int) * (ev r 2 + ev r 3)) : (fr r 4 ((2 : Int) * r 3) 0).length < 1000000 :=
  up_gen (A := 18000000000) (P := 2) (T := 36000000000) (F := 36000000000) (Dt := 36) (n1 := 9486) (n2 := 22136) (k1 := 4000000000) (k0' := 19619715528) (k1' := 5619715528) (M' := 19620057024) (s1 := 1) (s2 := 0) h (by decide) (by decide) (by decide) (by decide) (by decide) (by decide) (by decide) (by decide) (by decide) (by decide) (by decide) (by decide) ku0a2 ku0a3 ku0b2 ku0b3 (by decide) hDt
theorem ku1a2 : cB 72000000000 72000000000 2 18000000000 4000000000 0 0 18000000000 0 + cB 72000000000 72000000000 2 18000000000 4000000000 0 0 18000000000 1 ≤ 4 := by decide +kernel
theorem ku1b2 : cB 72000000000 72000000000 2 22850287853 8850287853 0 0 22859624307 0 + cB 72000000000 72000000000 2 22850287853 8850287853 0 0 22859624307 1 ≤ 1 := by decide +kernel
theorem ku1a3 : cB 72000000000 72000000000 3 18000000000 4000000000 0 0 18000000000 0 + cB 72000000000 72000000000 3 18000000000 4000000000 0 0 18000000000 1 ≤ 4 := by decide +kernel
theorem ku1b3 : cB 72000000000 72000000000 3 22850287853 8850287853 0 0 22859624307 0 + cB 72000000000 72000000000 3 22850287853 8850287853 0 0 22859624307 1 ≤ 1 := by decide +kernel
theorem few_1 {r : Nat → Int} (h : RF r) (hDt : (8986 : Int) * r 3 ≤ (18000000000 : Int) * (ev r 2 + ev r 3)) : (fr r 4 ((4 : Int) * r 3) 0).length < 1000000 :=
  up_gen (A := 18000000000) (P := 4) (T := 72000000000) (F := 72000000000) (Dt := 8986) (n1 := 1039) (n2 := 2427) (k1 := 4000000000) (k0' := 22850287853) (k1' := 8850287853) (M' := 22859624307) (s1 := 4) (s2 := 1) h (by decide) (by decide) (by decide) (by decide) (by decide) (by decide) (by decide) (by decide) (by decide) (by decide) (by decide) (by decide) ku1a2 ku1a3 ku1b2 ku1b3 (by decide) hDt
theorem kl1a2 : 0 ≤ cB 36000000000 36000000000 2 54008990493 36008990493 8990493 8994986 36000000000 0 + cB 36000000000 36000000000 2 54008990493 36008990493 8990493 8994986 36000000000 1 := by decide +kernel
theorem kl1a3 : 0 ≤ cB 36000000000 36000000000 3 54008990493 36008990493 8994986 8990493 36000000000 0 + cB 36000000000 36000000000 3 54008990493 36008990493 8994986 8990493 36000000000 1 := by decide +kernel
theorem low_1 {r : Nat → Int} (h : RF r) (hDt : (18000000000 : Int) * (ev r 2 + ev r 3) ≤ (8986 : Int) * r 3) : 2000 < NC r ((2 : Int) * r 3) :=
  lo_gen (A := 18000000000) (P := 2) (T := 36000000000) (F := 36000000000) (Dt := 8986) (n := 2000) (s := 0) (z := 8990493) (K0 := 54008990493) (K1 := 36008990493) (K2 := 8994986) (X := 2) h (by decide) (by decide) (by decide) (by decide) (by decide) (by decide) (by decide) (by decide) (by decide) kl1a2 kl1a3 (by decide) hDt
theorem ku2a2 : cB 144000000000 144000000000 2 18000000000 4000000000 0 0 18000000000 0 + cB 144000000000 144000000000 2 18000000000 4000000000 0 0 18000000000 1 ≤ 11 := by decide +kernel
theorem ku2b2 : cB 144000000000 144000000000 2 29334763275 15334763275 0 0 29359484678 0 + cB 144000000000 144000000000 2 29334763275 15334763275 0 0 29359484678 1 ≤ 2 := by decide +kernel
theorem ku2a3 : cB 144000000000 144000000000 3 18000000000 4000000000 0 0 18000000000 0 + cB 144000000000 144000000000 3 18000000000 4000000000 0 0 18000000000 1 ≤ 11 := by decide +kernel
theorem ku2b3 : cB 144000000000 144000000000 3 29334763275 15334763275 0 0 29359484678 0 + cB 144000000000 144000000000 3 29334763275 15334763275 0 0 29359484678 1 ≤ 2 := by decide +kernel
theorem few_2 {r : Nat → Int} (h : RF r) (hDt : (26959 : Int) * r 3 ≤ (18000000000 : Int) * (ev r 2 + ev r 3)) : (fr r 4 ((8 : Int) * r 3) 0).length < 1000000 :=
  up_gen (A := 18000000000) (P := 8) (T := 144000000000) (F := 144000000000) (Dt := 26959) (n1 := 917) (n2 := 2140) (k1 := 4000000000) (k0' := 29334763275) (k1' := 15334763275) (M' := 29359484678) (s1 := 11) (s2 := 2) h (by decide) (by decide) (by decide) (by decide) (by decide) (by decide) (by decide) (by decide) (by decide) (by decide) (by decide) (by decide) ku2a2 ku2a3 ku2b2 ku2b3 (by decide) hDt
theorem kl2a2 : 0 ≤ cB 72000000000 72000000000 2 90026972480 72026972480 26972480 26985960 72000000000 0 + cB 72000000000 72000000000 2 90026972480 72026972480 26972480 26985960 72000000000 1 := by decide +kernel
theorem kl2a3 : 0 ≤ cB 72000000000 72000000000 3 90026972480 72026972480 26985960 26972480 72000000000 0 + cB 72000000000 72000000000 3 90026972480 72026972480 26985960 26972480 72000000000 1 := by decide +kernel
theorem low_2 {r : Nat → Int} (h : RF r) (hDt : (18000000000 : Int) * (ev r 2 + ev r 3) ≤ (26959 : Int) * r 3) : 2000 < NC r ((4 : Int) * r 3) :=
  lo_gen (A := 18000000000) (P := 4) (T := 72000000000) (F := 72000000000) (Dt := 26959) (n := 2000) (s := 0) (z := 26972480) (K0 := 90026972480) (K1 := 72026972480) (K2 := 26985960) (X := 4) h (by decide) (by decide) (by decide) (by decide) (by decide) (by decide) (by decide) (by decide) (by decide) kl2a2 kl2a3 (by decide) hDt
theorem ku3a2 : cB 288000000000 288000000000 2 18000000000 4000000000 0 0 18000000000 0 + cB 288000000000 288000000000 2 18000000000 4000000000 0 0 18000000000 1 ≤ 35 := by decide +kernel
theorem ku3b2 : cB 288000000000 288000000000 2 42246229010 28246229010 0 0 42301459600 0 + cB 288000000000 288000000000 2 42246229010 28246229010 0 0 42301459600 1 ≤ 4 := by decide +kernel
theorem ku3a3 : cB 288000000000 288000000000 3 18000000000 4000000000 0 0 18000000000 0 + cB 288000000000 288000000000 3 18000000000 4000000000 0 0 18000000000 1 ≤ 35 := by decide +kernel
theorem ku3b3 : cB 288000000000 288000000000 3 42246229010 28246229010 0 0 42301459600 0 + cB 288000000000 288000000000 3 42246229010 28246229010 0 0 42301459600 1 ≤ 4 := by decide +kernel
theorem few_3 {r : Nat → Int} (h : RF r) (hDt : (62905 : Int) * r 3 ≤ (18000000000 : Int) * (ev r 2 + ev r 3)) : (fr r 4 ((16 : Int) * r 3) 0).length < 1000000 :=
  up_gen (A := 18000000000) (P := 16) (T := 288000000000) (F := 288000000000) (Dt := 62905) (n1 := 878) (n2 := 2051) (k1 := 4000000000) (k0' := 42246229010) (k1' := 28246229010) (M' := 42301459600) (s1 := 35) (s2 := 4) h (by decide) (by decide) (by decide) (by decide) (by decide) (by decide) (by decide) (by decide) (by decide) (by decide) (by decide) (by decide) ku3a2 ku3a3 ku3b2 ku3b3 (by decide) hDt
theorem kl3a2 : 0 ≤ cB 144000000000 144000000000 2 162062936453 144062936453 62936453 62967906 144000000000 0 + cB 144000000000 144000000000 2 162062936453 144062936453 62936453 62967906 144000000000 1 := by decide +kernel
theorem kl3a3 : 0 ≤ cB 144000000000 144000000000 3 162062936453 144062936453 62967906 62936453 144000000000 0 + cB 144000000000 144000000000 3 162062936453 144062936453 62967906 62936453 144000000000 1 := by decide +kernel
theorem low_3 {r : Nat → Int} (h : RF r) (hDt : (18000000000 : Int) * (ev r 2 + ev r 3) ≤ (62905 : Int) * r 3) : 2000 < NC r ((8 : Int) * r 3) :=
  lo_gen (A := 18000000000) (P := 8) (T := 144000000000) (F := 144000000000) (Dt := 62905) (n := 2000) (s := 0) (z := 62936453) (K0 := 162062936453) (K1 := 144062936453) (K2 := 62967906) (X := 8) h (by decide) (by decide) (by decide) (by decide) (by decide) (by decide) (by decide) (by decide) (by decide) kl3a2 kl3a3 (by decide) hDt
theorem ku4a2 : cB 576000000000 576000000000 2 18000000000 4000000000 0 0 18000000000 0 + cB 576000000000 576000000000 2 18000000000 4000000000 0 0 18000000000 1 ≤ 82 := by decide +kernel
theorem ku4b2 : cB 576000000000 576000000000 2 40287911856 26287911856 0 0 40372656768 0 + cB 576000000000 576000000000 2 40287911856 26287911856 0 0 40372656768 1 ≤ 10 := by decide +kernel
theorem ku4a3 : cB 576000000000 576000000000 3 18000000000 4000000000 0 0 18000000000 0 + cB 576000000000 576000000000 3 18000000000 4000000000 0 0 18000000000 1 ≤ 82 := by decide +kernel
theorem ku4b3 : cB 576000000000 576000000000 3 40287911856 26287911856 0 0 40372656768 0 + cB 576000000000 576000000000 3 40287911856 26287911856 0 0 40372656768 1 ≤ 10 := by decide +kernel
theorem few_4 {r : Nat → Int} (h : RF r) (hDt : (161112 : Int) * r 3 ≤ (18000000000 : Int) * (ev r 2 + ev r 3)) : (fr r 4 ((32 : Int) * r 3) 0).length < 1000000 :=
  up_gen (A := 18000000000) (P := 32) (T := 576000000000) (F := 576000000000) (Dt := 161112) (n1 := 526) (n2 := 2105) (k1 := 4000000000) (k0' := 40287911856) (k1' := 26287911856) (M' := 40372656768) (s1 := 82) (s2 := 10) h (by decide) (by decide) (by decide) (by decide) (by decide) (by decide) (by decide) (by decide) (by decide) (by decide) (by decide) (by decide) ku4a2 ku4a3 ku4b2 ku4b3 (by decide) hDt
theorem kl4a2 : 2 ≤ cB 288000000000 288000000000 2 72053811408 54053811408 53811408 53891964 54000000000 0 + cB 288000000000 288000000000 2 72053811408 54053811408 53811408 53891964 54000000000 1 := by decide +kernel
theorem kl4a3 : 2 ≤ cB 288000000000 288000000000 3 72053811408 54053811408 53891964 53811408 54000000000 0 + cB 288000000000 288000000000 3 72053811408 54053811408 53891964 53811408 54000000000 1 := by decide +kernel
theorem low_4 {r : Nat → Int} (h : RF r) (hDt : (18000000000 : Int) * (ev r 2 + ev r 3) ≤ (161112 : Int) * r 3) : 2000 < NC r ((16 : Int) * r 3) :=
  lo_gen (A := 18000000000) (P := 16) (T := 288000000000) (F := 288000000000) (Dt := 161112) (n := 667) (s := 2) (z := 53811408) (K0 := 72053811408) (K1 := 54053811408) (K2 := 53891964) (X := 3) h (by decide) (by decide) (by decide) (by decide) (by decide) (by decide) (by decide) (by decide) (by decide) kl4a2 kl4a3 (by decide) hDt
theorem ku5a2 : cB 1152000000000 1152000000000 2 18000000000 4000000000 0 0 18000000000 0 + cB 1152000000000 1152000000000 2 18000000000 4000000000 0 0 18000000000 1 ≤ 201 := by decide +kernel
theorem ku5b2 : cB 1152000000000 1152000000000 2 63304704175 49304704175 0 0 63531795424 0 + cB 1152000000000 1152000000000 2 63304704175 49304704175 0 0 63531795424 1 ≤ 12 := by decide +kernel
theorem ku5a3 : cB 1152000000000 1152000000000 3 18000000000 4000000000 0 0 18000000000 0 + cB 1152000000000 1152000000000 3 18000000000 4000000000 0 0 18000000000 1 ≤ 201 := by decide +kernel
theorem ku5b3 : cB 1152000000000 1152000000000 3 63304704175 49304704175 0 0 63531795424 0 + cB 1152000000000 1152000000000 3 63304704175 49304704175 0 0 63531795424 1 ≤ 12 := by decide +kernel
theorem few_5 {r : Nat → Int} (h : RF r) (hDt : (569151 : Int) * r 3 ≤ (18000000000 : Int) * (ev r 2 + ev r 3)) : (fr r 4 ((64 : Int) * r 3) 0).length < 1000000 :=
  up_gen (A := 18000000000) (P := 64) (T := 1152000000000) (F := 1152000000000) (Dt := 569151) (n1 := 399) (n2 := 1597) (k1 := 4000000000) (k0' := 63304704175) (k1' := 49304704175) (M' := 63531795424) (s1 := 201) (s2 := 12) h (by decide) (by decide) (by decide) (by decide) (by decide) (by decide) (by decide) (by decide) (by decide) (by decide) (by decide) (by decide) ku5a2 ku5a3 ku5b2 ku5b3 (by decide) hDt
theorem kl5a2 : 7 ≤ cB 576000000000 576000000000 2 54071428451 36071428451 71428451 71713027 36000000000 0 + cB 576000000000 576000000000 2 54071428451 36071428451 71428451 71713027 36000000000 1 := by decide +kernel
theorem kl5a3 : 7 ≤ cB 576000000000 576000000000 3 54071428451 36071428451 71713027 71428451 36000000000 0 + cB 576000000000 576000000000 3 54071428451 36071428451 71713027 71428451 36000000000 1 := by decide +kernel
theorem low_5 {r : Nat → Int} (h : RF r) (hDt : (18000000000 : Int) * (ev r 2 + ev r 3) ≤ (569151 : Int) * r 3) : 2000 < NC r ((32 : Int) * r 3) :=
  lo_gen (A := 18000000000) (P := 32) (T := 576000000000) (F := 576000000000) (Dt := 569151) (n := 250) (s := 7) (z := 71428451) (K0 := 54071428451) (K1 := 36071428451) (K2 := 71713027) (X := 2) h (by decide) (by decide) (by decide) (by decide) (by decide) (by decide) (by decide) (by decide) (by decide) kl5a2 kl5a3 (by decide) hDt
theorem ku6a2 : cB 2304000000000 2304000000000 2 18000000000 4000000000 0 0 18000000000 0 + cB 2304000000000 2304000000000 2 18000000000 4000000000 0 0 18000000000 1 ≤ 521 := by decide +kernel
theorem ku6b2 : cB 2304000000000 2304000000000 2 68928665288 54928665288 0 0 69549746572 0 + cB 2304000000000 2304000000000 2 68928665288 54928665288 0 0 69549746572 1 ≤ 32 := by decide +kernel
theorem ku6a3 : cB 2304000000000 2304000000000 3 18000000000 4000000000 0 0 18000000000 0 + cB 2304000000000 2304000000000 3 18000000000 4000000000 0 0 18000000000 1 ≤ 521 := by decide +kernel
theorem ku6b3 : cB 2304000000000 2304000000000 3 68928665288 54928665288 0 0 69549746572 0 + cB 2304000000000 2304000000000 3 68928665288 54928665288 0 0 69549746572 1 ≤ 32 := by decide +kernel
theorem few_6 {r : Nat → Int} (h : RF r) (hDt : (3787081 : Int) * r 3 ≤ (18000000000 : Int) * (ev r 2 + ev r 3)) : (fr r 4 ((128 : Int) * r 3) 0).length < 1000000 :=
  up_gen (A := 18000000000) (P := 128) (T := 2304000000000) (F := 2304000000000) (Dt := 3787081) (n1 := 164) (n2 := 934) (k1 := 4000000000) (k0' := 68928665288) (k1' := 54928665288) (M' := 69549746572) (s1 := 521) (s2 := 32) h (by decide) (by decide) (by decide) (by decide) (by decide) (by decide) (by decide) (by decide) (by decide) (by decide) (by decide) (by decide) ku6a2 ku6a3 ku6b2 ku6b3 (by decide) hDt
theorem kl6a2 : 20 ≤ cB 1152000000000 1152000000000 2 54183673429 36183673429 183673429 185566970 36000000000 0 + cB 1152000000000 1152000000000 2 54183673429 36183673429 183673429 185566970 36000000000 1 := by decide +kernel
theorem kl6a3 : 20 ≤ cB 1152000000000 1152000000000 3 54183673429 36183673429 185566970 183673429 36000000000 0 + cB 1152000000000 1152000000000 3 54183673429 36183673429 185566970 183673429 36000000000 1 := by decide +kernel
theorem low_6 {r : Nat → Int} (h : RF r) (hDt : (18000000000 : Int) * (ev r 2 + ev r 3) ≤ (3787081 : Int) * r 3) : 2000 < NC r ((64 : Int) * r 3) :=
  lo_gen (A := 18000000000) (P := 64) (T := 1152000000000) (F := 1152000000000) (Dt := 3787081) (n := 96) (s := 20) (z := 183673429) (K0 := 54183673429) (K1 := 36183673429) (K2 := 185566970) (X := 2) h (by decide) (by decide) (by decide) (by decide) (by decide) (by decide) (by decide) (by decide) (by decide) kl6a2 kl6a3 (by decide) hDt
theorem ku7a2 : cB 4608000000000 4608000000000 2 18000000000 4000000000 0 0 18000000000 0 + cB 4608000000000 4608000000000 2 18000000000 4000000000 0 0 18000000000 1 ≤ 1283 := by decide +kernel
theorem ku7b2 : cB 4608000000000 4608000000000 2 63161288550 49161288550 0 0 64451611080 0 + cB 4608000000000 4608000000000 2 63161288550 49161288550 0 0 64451611080 1 ≤ 90 := by decide +kernel
theorem ku7a3 : cB 4608000000000 4608000000000 3 18000000000 4000000000 0 0 18000000000 0 + cB 4608000000000 4608000000000 3 18000000000 4000000000 0 0 18000000000 1 ≤ 1283 := by decide +kernel
theorem ku7b3 : cB 4608000000000 4608000000000 3 63161288550 49161288550 0 0 64451611080 0 + cB 4608000000000 4608000000000 3 63161288550 49161288550 0 0 64451611080 1 ≤ 90 := by decide +kernel
theorem few_7 {r : Nat → Int} (h : RF r) (hDt : (18433179 : Int) * r 3 ≤ (18000000000 : Int) * (ev r 2 + ev r 3)) : (fr r 4 ((256 : Int) * r 3) 0).length < 1000000 :=
  up_gen (A := 18000000000) (P := 256) (T := 4608000000000) (F := 4608000000000) (Dt := 18433179) (n1 := 70) (n2 := 635) (k1 := 4000000000) (k0' := 63161288550) (k1' := 49161288550) (M' := 64451611080) (s1 := 1283) (s2 := 90) h (by decide) (by decide) (by decide) (by decide) (by decide) (by decide) (by decide) (by decide) (by decide) (by decide) (by decide) (by decide) ku7a2 ku7a3 ku7b2 ku7b3 (by decide) hDt
theorem kl7a2 : 32 ≤ cB 2304000000000 2304000000000 2 72571428549 54571428549 571428549 580645139 54000000000 0 + cB 2304000000000 2304000000000 2 72571428549 54571428549 571428549 580645139 54000000000 1 := by decide +kernel
theorem kl7a3 : 32 ≤ cB 2304000000000 2304000000000 3 72571428549 54571428549 580645139 571428549 54000000000 0 + cB 2304000000000 2304000000000 3 72571428549 54571428549 580645139 571428549 54000000000 1 := by decide +kernel
theorem low_7 {r : Nat → Int} (h : RF r) (hDt : (18000000000 : Int) * (ev r 2 + ev r 3) ≤ (18433179 : Int) * r 3) : 2000 < NC r ((128 : Int) * r 3) :=
  lo_gen (A := 18000000000) (P := 128) (T := 2304000000000) (F := 2304000000000) (Dt := 18433179) (n := 61) (s := 32) (z := 571428549) (K0 := 72571428549) (K1 := 54571428549) (K2 := 580645139) (X := 3) h (by decide) (by decide) (by decide) (by decide) (by decide) (by decide) (by decide) (by decide) (by decide) kl7a2 kl7a3 (by decide) hDt
theorem ku8a2 : cB 9216000000000 9216000000000 2 18000000000 4000000000 0 0 18000000000 0 + cB 9216000000000 9216000000000 2 18000000000 4000000000 0 0 18000000000 1 ≤ 3153 := by decide +kernel
theorem ku8b2 : cB 9216000000000 9216000000000 2 74529411369 60529411369 0 0 78176470167 0 + cB 9216000000000 9216000000000 2 74529411369 60529411369 0 0 78176470167 1 ≤ 174 := by decide +kernel
theorem ku8a3 : cB 9216000000000 9216000000000 3 18000000000 4000000000 0 0 18000000000 0 + cB 9216000000000 9216000000000 3 18000000000 4000000000 0 0 18000000000 1 ≤ 3153 := by decide +kernel
theorem ku8b3 : cB 9216000000000 9216000000000 3 74529411369 60529411369 0 0 78176470167 0 + cB 9216000000000 9216000000000 3 74529411369 60529411369 0 0 78176470167 1 ≤ 174 := by decide +kernel
theorem few_8 {r : Nat → Int} (h : RF r) (hDt : (117647058 : Int) * r 3 ≤ (18000000000 : Int) * (ev r 2 + ev r 3)) : (fr r 4 ((512 : Int) * r 3) 0).length < 1000000 :=
  up_gen (A := 18000000000) (P := 512) (T := 9216000000000) (F := 9216000000000) (Dt := 117647058) (n1 := 31) (n2 := 364) (k1 := 4000000000) (k0' := 74529411369) (k1' := 60529411369) (M' := 78176470167) (s1 := 3153) (s2 := 174) h (by decide) (by decide) (by decide) (by decide) (by decide) (by decide) (by decide) (by decide) (by decide) (by decide) (by decide) (by decide) ku8a2 ku8a3 ku8b2 ku8b3 (by decide) hDt
theorem kl8a2 : 131 ≤ cB 4608000000000 4608000000000 2 54999999993 36999999993 999999993 1058823522 36000000000 0 + cB 4608000000000 4608000000000 2 54999999993 36999999993 999999993 1058823522 36000000000 1 := by decide +kernel
theorem kl8a3 : 131 ≤ cB 4608000000000 4608000000000 3 54999999993 36999999993 1058823522 999999993 36000000000 0 + cB 4608000000000 4608000000000 3 54999999993 36999999993 1058823522 999999993 36000000000 1 := by decide +kernel
theorem low_8 {r : Nat → Int} (h : RF r) (hDt : (18000000000 : Int) * (ev r 2 + ev r 3) ≤ (117647058 : Int) * r 3) : 2000 < NC r ((256 : Int) * r 3) :=
  lo_gen (A := 18000000000) (P := 256) (T := 4608000000000) (F := 4608000000000) (Dt := 117647058) (n := 16) (s := 131) (z := 999999993) (K0 := 54999999993) (K1 := 36999999993) (K2 := 1058823522) (X := 2) h (by decide) (by decide) (by decide) (by decide) (by decide) (by decide) (by decide) (by decide) (by decide) kl8a2 kl8a3 (by decide) hDt
theorem ku9a2 : cB 18432000000000 18432000000000 2 18000000000 4000000000 0 0 18000000000 0 + cB 18432000000000 18432000000000 2 18000000000 4000000000 0 0 18000000000 1 ≤ 7880 := by decide +kernel
theorem ku9b2 : cB 18432000000000 18432000000000 2 128250000000 114250000000 0 0 138750000000 0 + cB 18432000000000 18432000000000 2 128250000000 114250000000 0 0 138750000000 1 ≤ 194 := by decide +kernel
theorem ku9a3 : cB 18432000000000 18432000000000 3 18000000000 4000000000 0 0 18000000000 0 + cB 18432000000000 18432000000000 3 18000000000 4000000000 0 0 18000000000 1 ≤ 7880 := by decide +kernel
theorem ku9b3 : cB 18432000000000 18432000000000 3 128250000000 114250000000 0 0 138750000000 0 + cB 18432000000000 18432000000000 3 128250000000 114250000000 0 0 138750000000 1 ≤ 194 := by decide +kernel
theorem few_9 {r : Nat → Int} (h : RF r) (hDt : (500000000 : Int) * r 3 ≤ (18000000000 : Int) * (ev r 2 + ev r 3)) : (fr r 4 ((1024 : Int) * r 3) 0).length < 1000000 :=
  up_gen (A := 18000000000) (P := 1024) (T := 18432000000000) (F := 18432000000000) (Dt := 500000000) (n1 := 21) (n2 := 250) (k1 := 4000000000) (k0' := 128250000000) (k1' := 114250000000) (M' := 138750000000) (s1 := 7880) (s2 := 194) h (by decide) (by decide) (by decide) (by decide) (by decide) (by decide) (by decide) (by decide) (by decide) (by decide) (by decide) (by decide) ku9a2 ku9a3 ku9b2 ku9b3 (by decide) hDt
theorem kl9a2 : 295 ≤ cB 9216000000000 9216000000000 2 56000000000 38000000000 2000000000 2250000000 36000000000 0 + cB 9216000000000 9216000000000 2 56000000000 38000000000 2000000000 2250000000 36000000000 1 := by decide +kernel
theorem kl9a3 : 295 ≤ cB 9216000000000 9216000000000 3 56000000000 38000000000 2250000000 2000000000 36000000000 0 + cB 9216000000000 9216000000000 3 56000000000 38000000000 2250000000 2000000000 36000000000 1 := by decide +kernel
theorem low_9 {r : Nat → Int} (h : RF r) (hDt : (18000000000 : Int) * (ev r 2 + ev r 3) ≤ (500000000 : Int) * r 3) : 2000 < NC r ((512 : Int) * r 3) :=
  lo_gen (A := 18000000000) (P := 512) (T := 9216000000000) (F := 9216000000000) (Dt := 500000000) (n := 7) (s := 295) (z := 2000000000) (K0 := 56000000000) (K1 := 38000000000) (K2 := 2250000000) (X := 2) h (by decide) (by decide) (by decide) (by decide) (by decide) (by decide) (by decide) (by decide) (by decide) kl9a2 kl9a3 (by decide) hDt
theorem kl10 : 2000 ≤ cN 2048 2048 2 6 4 1 3 6 + cN 2048 2048 3 6 4 3 1 6 := by decide +kernel
theorem fw_of {r : Nat → Int} (h : RF r) : FW r := by
  obtain ⟨hro, hd1, hd9, -, -, e0, e1, e2, e3, e4, hmx⟩ := id h
  refine ⟨fun i hi hc => ?_, lo_root h (P := 1024) (F := 2048) kl10 (by decide)⟩
  match i, hi with
  | 0, _ => exact few_0 h (by omega)
  | 1, _ =>
    rcases hc with hc | hc
    · exact absurd hc (by decide)
    · refine few_1 h ?_
      have := fun q => low_1 h q
      have hc' : NC r ((2 : Int) * r 3) ≤ 2000 := hc
      omega
  | 2, _ =>
    rcases hc with hc | hc
    · exact absurd hc (by decide)
    · refine few_2 h ?_
      have := fun q => low_2 h q
      have hc' : NC r ((4 : Int) * r 3) ≤ 2000 := hc
      omega
  | 3, _ =>
    rcases hc with hc | hc
    · exact absurd hc (by decide)
    · refine few_3 h ?_
      have := fun q => low_3 h q
      have hc' : NC r ((8 : Int) * r 3) ≤ 2000 := hc
      omega
  | 4, _ =>
    rcases hc with hc | hc
    · exact absurd hc (by decide)
    · refine few_4 h ?_
      have := fun q => low_4 h q
      have hc' : NC r ((16 : Int) * r 3) ≤ 2000 := hc
      omega
  | 5, _ =>
    rcases hc with hc | hc
    · exact absurd hc (by decide)
    · refine few_5 h ?_
      have := fun q => low_5 h q
      have hc' : NC r ((32 : Int) * r 3) ≤ 2000 := hc
      omega
  | 6, _ =>
    rcases hc with hc | hc
    · exact absurd hc (by decide)
    · refine few_6 h ?_
      have := fun q => low_6 h q
      have hc' : NC r ((64 : Int) * r 3) ≤ 2000 := hc
      omega
  | 7, _ =>
    rcases hc with hc | hc
    · exact absurd hc (by decide)
    · refine few_7 h ?_
      have := fun q => low_7 h q
      have hc' : NC r ((128 : Int) * r 3) ≤ 2000 := hc
      omega
  | 8, _ =>
    rcases hc with hc | hc
    · exact absurd hc (by decide)
    · refine few_8 h ?_
      have := fun q => low_8 h q
      have hc' : NC r ((256 : Int) * r 3) ≤ 2000 := hc
      omega
  | 9, _ =>
    rcases hc with hc | hc
    · exact absurd hc (by decide)
    · refine few_9 h ?_
      have := fun q => low_9 h q
      have hc' : NC r ((512 : Int) * r 3) ≤ 2000 := hc
      omega
