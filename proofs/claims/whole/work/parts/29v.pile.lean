/-! the model's pile -/
theorem ixp {t j : Nat} : (4 : Int32) * nI t + nI j = nI (4 * t + j) := by rw [show (4 : Int32) = nI 4 from rfl, pk_mul, nI_add]
theorem to_st (pile : Nat → Int64) {t : Nat} (ht : t < 2600) (k : Nat) {j : Nat} (hj : j < 4) (x : Int64) (kk : Int64 → Int32 → Option Int64) : pX9_turnedOn_L5 (nI t) pile (k + 1) x (nI j) kk = pX9_turnedOn_L5 (nI t) pile k (x + pile (4 * t + j)) (nI (j + 1)) kk := by
  rw [pX9_turnedOn_L5, if_neg (by rw [show (4 : Int32) = nI 4 from rfl, nI_leI (by omega) (by omega)]; omega), ixp, ck_t (ix_nI (show 4 * t + j < 10400 by omega) (by omega)), nI_clamp (by omega), show nI j + 1 = nI (j + 1) from nI_add j 1]
theorem to_eq (k : Nat) {pile : Nat → Int64} {t p : Nat} (ht : t < 2600) (hp : p < 4) {q : Nat → Int} (hq : ∀ j, j < 4 → (pile (4 * t + j)).toInt = q j) (hb : ∀ j, j < 4 → -10000000000000000 ≤ q j ∧ q j ≤ 10000000000000000) : ∃ v, pX9_turnedOn (k + 5) pile (nI t) (nI p) = some v ∧ v.toInt = tq q p := by
  have e0 : (0 : Int64).toInt = 0 := rfl
  have b0 := hb 0 (by omega); have b1 := hb 1 (by omega); have b2 := hb 2 (by omega); have b3 := hb 3 (by omega); have bp := hb p hp
  have q0 : (pile (4 * t + 0)).toInt = q 0 := hq 0 (by omega)
  have q1 : (pile (4 * t + (0 + 1))).toInt = q 1 := hq 1 (by omega)
  have q2 : (pile (4 * t + (0 + 1 + 1))).toInt = q 2 := hq 2 (by omega)
  have q3 : (pile (4 * t + (0 + 1 + 1 + 1))).toInt = q 3 := hq 3 (by omega)
  have qp := hq p hp
  rw [pX9_turnedOn, show (0 : Int32) = nI 0 from rfl, show k + 5 = k + 1 + 1 + 1 + 1 + 1 by omega, to_st pile ht _ (by omega), to_st pile ht _ (by omega), to_st pile ht _ (by omega), to_st pile ht _ (by omega), pX9_turnedOn_L5, if_pos (by decide), ixp, ck_t (ix_nI (show 4 * t + p < 10400 by omega) (by omega)), nI_clamp (by omega)]
  refine ⟨_, rfl, ?_⟩
  have s0 := i64_add (a := 0) (b := pile (4 * t + 0)) (by omega) (by omega)
  have s1 := i64_add (a := 0 + pile (4 * t + 0)) (b := pile (4 * t + (0 + 1))) (by omega) (by omega)
  have s2 := i64_add (a := 0 + pile (4 * t + 0) + pile (4 * t + (0 + 1))) (b := pile (4 * t + (0 + 1 + 1))) (by omega) (by omega)
  have s3 := i64_add (a := 0 + pile (4 * t + 0) + pile (4 * t + (0 + 1)) + pile (4 * t + (0 + 1 + 1))) (b := pile (4 * t + (0 + 1 + 1 + 1))) (by omega) (by omega)
  have s4 := i64_sub (a := 0 + pile (4 * t + 0) + pile (4 * t + (0 + 1)) + pile (4 * t + (0 + 1 + 1)) + pile (4 * t + (0 + 1 + 1 + 1))) (b := pile (4 * t + p)) (by omega) (by omega)
  have s5 := i64_dbl (a := 0 + pile (4 * t + 0) + pile (4 * t + (0 + 1)) + pile (4 * t + (0 + 1 + 1)) + pile (4 * t + (0 + 1 + 1 + 1)) - pile (4 * t + p)) (by omega) (by omega)
  rw [i64_sub (by omega) (by omega)]
  unfold tq sq
  omega
theorem la_st {t p : Nat} (ht : t + 1 < 2600) (hp : p < 4) (v : Int64) (root : Nat → Int64) (k : Nat) {j : Nat} (hj : j < 4) (pile : Nat → Int64) (kk : Int32 → (Nat → Int64) → Option ((Nat → Int64) × (Nat → Int32) × (Nat → Int32))) : pX9_lays_L3 (nI (t + 1)) (nI p) v root (k + 1) (nI j) pile kk = pX9_lays_L3 (nI (t + 1)) (nI p) v root k (nI (j + 1)) (vp_updL pile (4 * (t + 1) + j) (if j = p then v else pile (4 * t + j))) kk := by
  rw [pX9_lays_L3, if_neg (by rw [show (4 : Int32) = nI 4 from rfl, nI_leI (by omega) (by omega)]; omega), ixp, ck_t (ix_nI (show 4 * (t + 1) + j < 10400 by omega) (by omega)), nI_clamp (show 4 * (t + 1) + j < 2 ^ 31 by omega), show nI j + 1 = nI (j + 1) from nI_add j 1]
  by_cases e : j = p
  · rw [if_pos (by rw [e]), if_pos e]
  · rw [if_neg (by rw [nI_eq (by omega) (by omega)]; exact e), if_neg e, if_neg (by rw [show (0 : Int32) = nI 0 from rfl, nI_eq (by omega) (by omega)]; omega), show nI (t + 1) - 1 = nI t from pk_sub (a := t + 1) (b := 1) (by omega), ixp, ck_t (ix_nI (show 4 * t + j < 10400 by omega) (by omega)), ck_t (ix_nI (show 4 * (t + 1) + j < 10400 by omega) (by omega)), nI_clamp (by omega)]
theorem la_eq (k : Nat) {t p : Nat} (ht : t + 1 < 2600) (hp : p < 4) (v : Int64) (root pile : Nat → Int64) (last next : Nat → Int32) : ∃ z, pX9_lays (k + 5) root pile last next (nI (t + 1)) (nI p) v = some (z, upd last (t + 1) (nI p), upd next (t + 1) 0) ∧ (∀ j, j < 4 → z (4 * (t + 1) + j) = if j = p then v else pile (4 * t + j)) ∧ ∀ x, x < 4 * (t + 1) → z x = pile x := by
  refine ⟨vp_updL (vp_updL (vp_updL (vp_updL pile (4 * (t + 1) + 0) (if 0 = p then v else pile (4 * t + 0))) (4 * (t + 1) + 1) (if 1 = p then v else pile (4 * t + 1))) (4 * (t + 1) + 2) (if 2 = p then v else pile (4 * t + 2))) (4 * (t + 1) + 3) (if 3 = p then v else pile (4 * t + 3)), ?_, ?_, ?_⟩
  · rw [pX9_lays, show (0 : Int32) = nI 0 from rfl, show k + 5 = k + 1 + 1 + 1 + 1 + 1 by omega, la_st ht hp v root _ (by omega), la_st ht hp v root _ (by omega), la_st ht hp v root _ (by omega), la_st ht hp v root _ (by omega), pX9_lays_L3, if_pos (by decide), ck_t (ix_nI ht (by omega)), nI_clamp (by omega)]
    have e1 : vp_updL pile (4 * (t + 1) + 0) (if 0 = p then v else pile (4 * t + 0)) (4 * t + (0 + 1)) = pile (4 * t + 1) := by rw [updL_at, if_neg (by omega)]
    rw [e1]
    simp only [updL_at]
    rw [if_neg (show ¬ 4 * t + (0 + 1 + 1) = 4 * (t + 1) + (0 + 1) by omega), if_neg (show ¬ 4 * t + (0 + 1 + 1) = 4 * (t + 1) + 0 by omega), if_neg (show ¬ 4 * t + (0 + 1 + 1 + 1) = 4 * (t + 1) + (0 + 1 + 1) by omega), if_neg (show ¬ 4 * t + (0 + 1 + 1 + 1) = 4 * (t + 1) + (0 + 1) by omega), if_neg (show ¬ 4 * t + (0 + 1 + 1 + 1) = 4 * (t + 1) + 0 by omega)]
  · intro j hj
    simp only [updL_at]
    match j, hj with
    | 0, _ => rw [if_neg (by omega), if_neg (by omega), if_neg (by omega), if_pos rfl]
    | 1, _ => rw [if_neg (by omega), if_neg (by omega), if_pos rfl]
    | 2, _ => rw [if_neg (by omega), if_pos rfl]
    | 3, _ => rw [if_pos rfl]
  · intro x hx
    simp only [updL_at]
    rw [if_neg (by omega), if_neg (by omega), if_neg (by omega), if_neg (by omega)]
theorem la_0 (k : Nat) (root pile : Nat → Int64) (last next : Nat → Int32) : ∃ z, pX9_lays (k + 5) root pile last next 0 (-9) 0 = some (z, upd last 0 (-9), upd next 0 0) ∧ ∀ j, j < 4 → z j = root j :=
  ⟨_, rfl, fun j hj => match j, hj with | 0, _ => rfl | 1, _ => rfl | 2, _ => rfl | 3, _ => rfl⟩
