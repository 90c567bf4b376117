/-- the model's doubling -/
theorem db_eq {first root : Nat → Int64} (hr : RO (zq first)) (h3 : 1 ≤ zq first 3) (he : eq4 root first) (hB : ∀ j, j < 4 → -10000000000000000 ≤ zq first j ∧ zq first j ≤ 10000000000000000) {k : Nat} (hk : k ≤ 2000) (m : Nat) (kk : Int64 → Int32 → (Nat → Int64) → (Nat → Int32) → (Nat → Int32) → (Nat → Int32) → Option (Int64 × Int32 × Int32 × (Nat → Int64) × (Nat → Int64) × (Nat → Int32) × (Nat → Int32) × (Nat → Int32))) : ∀ (s X : Nat) (x : Int64) (jm : Int32) (pile : Nat → Int64) (la ne hb : Nat → Int32), x.toInt = X → 1 ≤ X → X * 2 ^ s ≤ 10000000000000000 → k < NC (zq first) ((X * 2 ^ s : Nat) : Int) →
    ∃ v jm' pile' la' ne' hb', pX9_least_L29 (nI k) root (m + 50000 + s + 1) x jm pile la ne hb kk = kk v jm' pile' la' ne' hb' ∧ k < NC (zq first) v.toInt ∧ x.toInt ≤ v.toInt ∧ v.toInt ≤ 10000000000000000 := by
  intro s
  induction s with
  | zero =>
    intro X x jm pile la ne hb h1 h2 h4 h5
    rw [Nat.pow_zero, Nat.mul_one] at h4 h5
    obtain ⟨y, jm2, pi2, la2, ne2, hb2, g1, g2, g3⟩ := gu2_eq (n := m + 50000 + 0) (L := k + 1) hr h3 he (T := x.toInt) (by omega) hB (lim := x) rfl (by omega) (-9223372036854775808) pile la ne hb (by omega)
    rw [h1] at g3
    refine ⟨x, jm2, pi2, la2, ne2, hb2, ?_, by rw [h1]; exact h5, by omega, by omega⟩
    rw [pX9_least_L29, show nI k + 1 = nI (k + 1) from nI_add k 1, g1, Option.bind_some]
    dsimp only
    rw [if_pos (by rw [nI_ltI (by omega) (by omega)]; omega)]
  | succ s ih =>
    intro X x jm pile la ne hb h1 h2 h4 h5
    have hp : X * 2 ^ (s + 1) = X * 2 * 2 ^ s := by rw [Nat.pow_succ, Nat.mul_comm (2 ^ s) 2, Nat.mul_assoc]
    rw [hp] at h4 h5
    have hle : X * 2 ≤ X * 2 * 2 ^ s := Nat.le_mul_of_pos_right _ (Nat.pow_pos (by decide))
    obtain ⟨y, jm2, pi2, la2, ne2, hb2, g1, g2, g3⟩ := gu2_eq (n := m + 50000 + (s + 1)) (L := k + 1) hr h3 he (T := x.toInt) (by omega) hB (lim := x) rfl (by omega) (-9223372036854775808) pile la ne hb (by omega)
    rw [pX9_least_L29, show nI k + 1 = nI (k + 1) from nI_add k 1, g1, Option.bind_some]
    dsimp only
    by_cases c : k < y
    · rw [if_pos (by rw [nI_ltI (by omega) (by omega)]; exact c)]
      exact ⟨x, jm2, pi2, la2, ne2, hb2, rfl, by omega, by omega, by omega⟩
    · rw [if_neg (by rw [nI_ltI (by omega) (by omega)]; exact c)]
      have e2 : (2 : Int64).toInt = 2 := rfl
      have hm2 := i64_mul (a := x) (b := 2) (by rw [e2]; omega) (by rw [e2]; omega)
      rw [e2] at hm2
      obtain ⟨v, jm', pi', la', ne', hb', q1, q2, q3, q4⟩ := ih (X * 2) (x * 2) jm2 pi2 la2 ne2 hb2 (by rw [hm2, h1]; omega) (by omega) h4 h5
      exact ⟨v, jm', pi', la', ne', hb', q1, q2, by omega, q4⟩
