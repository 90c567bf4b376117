theorem cp_le (m : Nat) : ∀ L : List Int, L.countP (fun v => decide (v.toNat ≤ m + 1)) = L.countP (fun v => decide (v.toNat ≤ m)) + L.countP (fun v => v.toNat == m + 1) := by
  intro L
  induction L with
  | nil => rfl
  | cons v L ih =>
    rw [List.countP_cons, List.countP_cons, List.countP_cons, ih]
    by_cases a : v.toNat ≤ m
    · have b : (v.toNat == m + 1) = false := by simp; omega
      have c : v.toNat ≤ m + 1 := by omega
      simp [a, b, c]; omega
    · by_cases c : v.toNat ≤ m + 1
      · have b : (v.toNat == m + 1) = true := by simp; omega
        simp [a, b, c]; omega
      · have b : (v.toNat == m + 1) = false := by simp; omega
        simp [a, b, c]
theorem cp_0 (L : List Int) : L.countP (fun v => decide (v.toNat ≤ 0)) = L.countP (fun v => v.toNat == 0) := by
  apply List.countP_congr
  intro v _
  simp
theorem nc_cp {r : Nat → Int} (hr : RO r) {R m : Nat} (hm : m ≤ R) : (cir r R).countP (fun v => decide (v.toNat ≤ m)) = NC r m := by
  rw [NC, ← cir_flt hr (show (m : Int) ≤ (R : Int) by omega), ← List.countP_eq_length_filter]
  apply List.countP_congr
  intro v _
  simp
/-- a bound root -/
def BR (first : Nat → Int64) : Prop := RO (zq first) ∧ 1 ≤ zq first 3 ∧ (∀ j, j < 4 → -10000000000000000 ≤ zq first j ∧ zq first j ≤ 10000000000000000) ∧ zq first 0 < 0 ∧ (∀ j, 1 ≤ j → j < 4 → 1 ≤ zq first j) ∧ (fr (zq first) 4 5000 0).length < 900000
theorem BR.ro {first : Nat → Int64} (h : BR first) : RO (zq first) := h.1
theorem BR.g3 {first : Nat → Int64} (h : BR first) : 1 ≤ zq first 3 := h.2.1
theorem BR.bd {first : Nat → Int64} (h : BR first) : ∀ j, j < 4 → -10000000000000000 ≤ zq first j ∧ zq first j ≤ 10000000000000000 := h.2.2.1
theorem BR.neg {first : Nat → Int64} (h : BR first) : zq first 0 < 0 := h.2.2.2.1
theorem BR.pos {first : Nat → Int64} (h : BR first) : ∀ j, 1 ≤ j → j < 4 → 1 ≤ zq first j := h.2.2.2.2.1
theorem BR.few {first : Nat → Int64} (h : BR first) : (fr (zq first) 4 5000 0).length < 900000 := h.2.2.2.2.2
theorem hd5 {r : Nat → Int} (hr : RO r) (h3 : 1 ≤ r 3) {T : Int} (hT : T ≤ 5000) : ∀ ps, VP r T ps → ps.length ≤ 2000 := fun ps h => by
  by_cases e : ps = []
  · subst e; exact Nat.zero_le _
  · have a := (vp_nd hr h3 h e).2.2
    have b := vp_le h e
    by_cases c : ps.length ≤ 2000
    · exact c
    · have d : 2001 * 2001 ≤ ps.length * ps.length := Nat.mul_le_mul (by omega) (by omega)
      omega
theorem new_reach {re p1 : Int32} (h1 : -1 ≤ re.toInt ∧ re.toInt ≤ 5000) (h2 : 0 ≤ p1.toInt ∧ p1.toInt ≤ 5000) : ∃ R : Nat, (if (if p1 < ((2 : Int32) * re) then ((2 : Int32) * re) else p1) < (5000 : Int32) then (if p1 < ((2 : Int32) * re) then ((2 : Int32) * re) else p1) else (5000 : Int32)) = nI R ∧ R ≤ 5000 ∧ p1.toInt ≤ R := by
  have e5 : (5000 : Int32).toInt = 5000 := rfl
  have e2 : ((2 : Int32) * re).toInt = 2 * re.toInt := by
    rw [Int32.toInt_mul, show (2 : Int32).toInt = 2 from rfl, Int.bmod_eq_of_le (by omega) (by omega)]
  have key : ∀ x : Int32, p1.toInt ≤ x.toInt → ∃ R : Nat, (if x < (5000 : Int32) then x else 5000) = nI R ∧ R ≤ 5000 ∧ p1.toInt ≤ R := fun x hx => by
    by_cases q : x < (5000 : Int32)
    · rw [if_pos q]; rw [i32_lt, e5] at q
      exact ⟨x.toInt.toNat, by rw [i32_eq, nI_toInt (by omega)]; omega, by omega, by omega⟩
    · rw [if_neg q]; exact ⟨5000, rfl, by omega, by omega⟩
  by_cases q : p1 < (2 : Int32) * re
  · rw [if_pos q]; rw [i32_lt] at q; exact key _ (by omega)
  · rw [if_neg q]; exact key p1 (by omega)
theorem rch_eq {n : Nat} (hn : FU ≤ n) {first : Nat → Int64} (hb : BR first) {cnt : Nat → Int32} {re : Int32} {lr : Nat → Int64} {ls : Int32} {rs : Nat → Int32} (hP : PK first cnt re lr ls rs) (depth : Int32) (row : Nat → Int32) (four : Nat → Int64) {p1 : Int32} (hp : 0 ≤ p1.toInt ∧ p1.toInt ≤ 5000) : ∃ re' cnt' d w f, pX6_reachTo n re cnt first depth row four p1 = some (re', cnt', d, w, f) ∧ p1.toInt ≤ re'.toInt ∧ PK first cnt' re' lr ls rs := by
  obtain ⟨q1, q2, q3, q4, q5⟩ := id hP
  rw [pX6_reachTo]
  by_cases c : re < p1
  · rw [if_pos c]
    obtain ⟨R, hR, hR5, hpR⟩ := new_reach q1 hp
    rw [hR]
    have hn5 := fu1 hn
    have hFU : 2000000 ≤ n := Nat.le_trans (by decide) hn
    obtain ⟨k1, hk1⟩ : ∃ k, n = k + (R + 1) + 1 := ⟨n - (R + 2), by omega⟩
    obtain ⟨k2, hk2⟩ : ∃ k, n = k + 5 := ⟨n - 5, by omega⟩
    obtain ⟨k4, hk4⟩ : ∃ k, n = k + R + 1 := ⟨n - (R + 1), by omega⟩
    have hlen : (fr (zq first) 4 (R : Int) 0).length < 900000 := by
      rw [← root_flt hb.ro (show (R : Int) ≤ 5000 by omega)]
      exact Nat.lt_of_le_of_lt (List.length_filter_le _ _) hb.few
    obtain ⟨k3, hk3⟩ : ∃ k, n = k + 20000 + (fr (zq first) 4 (R : Int) 0).length + 1 := ⟨n - 20000 - (fr (zq first) 4 (R : Int) 0).length - 1, by omega⟩
    obtain ⟨f', s1, s2⟩ := cx_eq (show 5 ≤ n by omega) first four
    have hS : pX7_start n four first = some (0, f') := by rw [pX7_start, s1, Option.bind_some]
    obtain ⟨z1, a1, a2⟩ := z32 R hR5 k1 (fun (y4_4 : Int32) (u4_counts : (Nat → Int32)) => pX6_reachTo_L58 (nI R) first n (0 : Int32) u4_counts (fun (y4_8 : Int32) (u8_counts : (Nat → Int32)) => Option.bind (pX7_start n four first) (fun r9 => pX6_reachTo_L86 (nI R) n (0 : Int32) u8_counts r9.1 row r9.2 (fun (y4_15 : Int32) (u15_counts : (Nat → Int32)) (u15_a3_depth : Int32) (u15_a3_row : (Nat → Int32)) (u15_a3_four : (Nat → Int64)) => pX6_reachTo_L122 (nI R) n (1 : Int32) u15_counts (fun (y4_19 : Int32) (u19_counts : (Nat → Int32)) => some (nI R, u19_counts, u15_a3_depth, u15_a3_row, u15_a3_four)))))) (R + 1) 0 cnt (by omega) (fun j hj => absurd hj (by omega))
    rw [← hk1] at a1
    obtain ⟨z2, b1, b2⟩ := z58 hR5 k2 (a := first) (fun j hj => (hb.bd j hj).1) a2 (fun (y4_8 : Int32) (u8_counts : (Nat → Int32)) => Option.bind (pX7_start n four first) (fun r9 => pX6_reachTo_L86 (nI R) n (0 : Int32) u8_counts r9.1 row r9.2 (fun (y4_15 : Int32) (u15_counts : (Nat → Int32)) (u15_a3_depth : Int32) (u15_a3_row : (Nat → Int32)) (u15_a3_four : (Nat → Int64)) => pX6_reachTo_L122 (nI R) n (1 : Int32) u15_counts (fun (y4_19 : Int32) (u19_counts : (Nat → Int32)) => some (nI R, u19_counts, u15_a3_depth, u15_a3_row, u15_a3_four)))))
    rw [← hk2] at b1
    obtain ⟨y3, z3, d3, w3, f3, c1, c2⟩ := z86 hb.ro hb.g3 hb.bd hR5 (hd5 hb.ro hb.g3 (by omega)) k3 (fun (y4_15 : Int32) (u15_counts : (Nat → Int32)) (u15_a3_depth : Int32) (u15_a3_row : (Nat → Int32)) (u15_a3_four : (Nat → Int64)) => pX6_reachTo_L122 (nI R) n (1 : Int32) u15_counts (fun (y4_19 : Int32) (u19_counts : (Nat → Int32)) => some (nI R, u19_counts, u15_a3_depth, u15_a3_row, u15_a3_four))) (fr (zq first) 4 (R : Int) 0) _ [] 0 z2 0 row f' rfl trivial ⟨rfl, trivial, fun j hj => by rw [s2.at hj]; rfl⟩ b2 (by omega)
    rw [← hk3] at c1
    have hcir : [(first 0).toInt, (first 1).toInt, (first 2).toInt, (first 3).toInt].filter (fun x => decide (x ≤ (R : Int))) ++ fr (zq first) 4 (R : Int) 0 = cir (zq first) R := (cir_eq hb.ro R).symm
    rw [hcir] at c2
    obtain ⟨z4, d1, d2⟩ := z122 R hR5 k4 (fun j => (cir (zq first) R).countP (fun v => v.toNat == j)) (fun (y4_19 : Int32) (u19_counts : (Nat → Int32)) => some (nI R, u19_counts, d3, w3, f3)) R 1 z3 (fun m => (cir (zq first) R).countP (fun v => decide (v.toNat ≤ m))) (by omega) (by omega) (cp_0 _) (fun j => cp_le j _) (fun j hj => by
      obtain rfl : j = 0 := by omega
      rw [cp_0]; exact c2 0 (by omega)) (fun j _ hj => c2 j hj)
    rw [← hk4] at d1
    refine ⟨nI R, z4, d3, w3, f3, ?_, ?_, ?_⟩
    · refine a1.trans (b1.trans ?_)
      rw [hS, Option.bind_some]
      exact c1.trans d1
    · rw [nI_toInt (by omega)]; exact hpR
    · have hlc : (cir (zq first) R).length < 1000000 := by
        rw [cir_eq hb.ro, List.length_append]
        have := List.length_filter_le (fun x => decide (x ≤ (R : Int))) [zq first 0, zq first 1, zq first 2, zq first 3]
        simp only [List.length_cons, List.length_nil] at this
        omega
      refine ⟨by rw [nI_toInt (by omega)]; omega, fun _ => ⟨hb.neg, fun m hm => ?_⟩, q3, q4, q5⟩
      rw [nI_toInt (by omega)] at hm
      rw [d2 m (by omega), nc_cp hb.ro (by omega), nI_toInt]
      have : NC (zq first) m ≤ (cir (zq first) R).length := by
        rw [NC, ← cir_flt hb.ro (show (m : Int) ≤ (R : Int) by omega)]
        exact List.length_filter_le _ _
      omega
  · rw [if_neg c]
    rw [i32_lt] at c
    exact ⟨re, cnt, depth, row, four, rfl, by omega, hP⟩
