theorem lm_eq {n : Nat} (hn : FU ≤ n) {first root : Nat → Int64} (hb : BR first) (hgb : GB first) (s0 : zq first 0 ≤ zq first 1) (s1 : zq first 1 ≤ zq first 2) (s2 : zq first 2 ≤ zq first 3) (he : eq4 root first) {k : Nat} (hk : k ≤ 2000) (sa jm : Int32) (pile : Nat → Int64) (la ne hs : Nat → Int32) : ∃ v jm' pile' la' ne' hs', pX9_least_L29 (nI k) root n (root (3 : Int32).toNatClampNeg) jm pile la ne hs (fun (y2_7 : Int64) (u7_justMany : Int32) (u7_pile : (Nat → Int64)) (u7_lastAt : (Nat → Int32)) (u7_nextAt : (Nat → Int32)) (u7_hasBend : (Nat → Int32)) => pX9_least_L63 (nI k) root n y2_7 ((root (0 : Int32).toNatClampNeg) - (1 : Int64)) u7_justMany u7_pile u7_lastAt u7_nextAt u7_hasBend (fun (y2_11 : Int64) (y4_11 : Int64) (u11_justMany : Int32) (u11_pile : (Nat → Int64)) (u11_lastAt : (Nat → Int32)) (u11_nextAt : (Nat → Int32)) (u11_hasBend : (Nat → Int32)) => some (y2_11, sa, u11_justMany, root, u11_pile, u11_lastAt, u11_nextAt, u11_hasBend))) = some (v, sa, jm', root, pile', la', ne', hs') ∧ NC (zq first) (v.toInt - 1) ≤ k ∧ k < NC (zq first) v.toInt := by
  have hFU : 60000 ≤ n := Nat.le_trans (by decide) hn
  have b0 := hgb.2.at (show 0 < 4 by omega)
  have b3 := hgb.2.at (show 3 < 4 by omega)
  have hz0 : zq first 0 = (first 0).toInt := rfl
  have hz3 : zq first 3 = (first 3).toInt := rfl
  have g3 := hb.g3
  have hng := hb.neg
  obtain ⟨m1, hm1⟩ : ∃ m, n = m + 50000 + 22 + 1 := ⟨n - 50023, by omega⟩
  obtain ⟨m2, hm2⟩ : ∃ m, n = m + 50000 + 54 + 1 := ⟨n - 50055, by omega⟩
  have e1 : (1 : Int64).toInt = 1 := rfl
  have hlo := i64_sub (a := first 0) (b := 1) (by rw [e1]; omega) (by rw [e1]; omega)
  rw [e1] at hlo
  have hg := grow hb s0 s1 s2
  have hpw : (first 3).toInt.toNat * 2 ^ 22 = (first 3).toInt.toNat * 4194304 := rfl
  obtain ⟨v, j1, p1, l1, n1, h1, d1, d2, d3, d4⟩ := db_eq hb.ro hb.g3 he hb.bd hk m1 (fun (y2_7 : Int64) (u7_justMany : Int32) (u7_pile : (Nat → Int64)) (u7_lastAt : (Nat → Int32)) (u7_nextAt : (Nat → Int32)) (u7_hasBend : (Nat → Int32)) => pX9_least_L63 (nI k) root n y2_7 (first 0 - (1 : Int64)) u7_justMany u7_pile u7_lastAt u7_nextAt u7_hasBend (fun (y2_11 : Int64) (y4_11 : Int64) (u11_justMany : Int32) (u11_pile : (Nat → Int64)) (u11_lastAt : (Nat → Int32)) (u11_nextAt : (Nat → Int32)) (u11_hasBend : (Nat → Int32)) => some (y2_11, sa, u11_justMany, root, u11_pile, u11_lastAt, u11_nextAt, u11_hasBend))) 22 (first 3).toInt.toNat (first 3) jm pile la ne hs (by omega) (by omega) (by rw [hpw]; omega) (by
    rw [hpw, show (((first 3).toInt.toNat * 4194304 : Nat) : Int) = 4194304 * zq first 3 by omega]; omega)
  rw [← hm1] at d1
  have hnlo : NC (zq first) (first 0 - 1).toInt = 0 := by
    rw [hlo, nc_neg hb (by omega), if_pos (by omega)]
  obtain ⟨v2, y4, j2, p2, l2, n2, h2, c1, c2, c3⟩ := bs_eq hb.ro hb.g3 he hb.bd hk m2 (fun (y2_11 : Int64) (y4_11 : Int64) (u11_justMany : Int32) (u11_pile : (Nat → Int64)) (u11_lastAt : (Nat → Int32)) (u11_nextAt : (Nat → Int32)) (u11_hasBend : (Nat → Int32)) => some (y2_11, sa, u11_justMany, root, u11_pile, u11_lastAt, u11_nextAt, u11_hasBend)) 54 v (first 0 - 1) j1 p1 l1 n1 h1 (by omega) (by rw [hlo]; show _ ≤ (18014398509481984 : Int); omega) (by omega) d4 (by omega) d2
  rw [← hm2] at c1
  refine ⟨v2, j2, p2, l2, n2, h2, ?_, c2, c3⟩
  rw [tn_0, tn_3, he.1, he.2.2.2]
  exact d1.trans c1
