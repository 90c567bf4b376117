theorem lq_cases (p : Int32) : (p < 0 ∧ pX9_within p 0 2000 = some 0) ∨ (¬ p < 0 ∧ (2000 : Int32) < p ∧ pX9_within p 0 2000 = some 0) ∨ (¬ p < 0 ∧ ¬ (2000 : Int32) < p ∧ pX9_within p 0 2000 = some 1 ∧ 0 ≤ p.toInt ∧ p.toInt ≤ 2000) := by
  unfold pX9_within
  by_cases h1 : p < (0 : Int32)
  · left; simp only [if_pos h1]; exact ⟨h1, trivial⟩
  · by_cases h2 : (2000 : Int32) < p
    · right; left; simp only [if_neg h1, if_pos h2]; exact ⟨h1, h2, trivial⟩
    · right; right
      simp only [if_neg h1, if_neg h2]
      rw [i32_lt, show (0 : Int32).toInt = 0 from rfl] at h1
      rw [i32_lt, show (2000 : Int32).toInt = 2000 from rfl] at h2
      refine ⟨?_, ?_, trivial, by omega, by omega⟩
      · rw [i32_lt, show (0 : Int32).toInt = 0 from rfl]; exact h1
      · rw [i32_lt, show (2000 : Int32).toInt = 2000 from rfl]; exact h2
