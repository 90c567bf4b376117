/-! four bends as whole numbers -/
def GQ (a b c d : Int) : Prop := 2 * (a * a + b * b + c * c + d * d) = (a + b + c + d) * (a + b + c + d) ∧ 0 < a + b + c + d
theorem sq_nn (x : Int) : 0 ≤ x * x := by
  rcases Int.le_total 0 x with h | h
  · exact Int.mul_nonneg h h
  · exact Int.mul_nonneg_of_nonpos_of_nonpos h h
theorem gq_eq {a b c d : Int} (h : 2 * (a * a + b * b + c * c + d * d) = (a + b + c + d) * (a + b + c + d)) : 2 * (a * a + b * b + c * c + (2 * (a + b + c) - d) * (2 * (a + b + c) - d)) = (a + b + c + (2 * (a + b + c) - d)) * (a + b + c + (2 * (a + b + c) - d)) := by grind
theorem gq_prod {a b c d : Int} (h : 2 * (a * a + b * b + c * c + d * d) = (a + b + c + d) * (a + b + c + d)) : (a + b + c + d) * (a + b + c + (2 * (a + b + c) - d)) = 2 * ((a + b + c) * (a + b + c)) + 2 * (a * a + b * b + c * c) := by grind
theorem gq_pair {a b c d : Int} (h : 2 * (a * a + b * b + c * c + d * d) = (a + b + c + d) * (a + b + c + d)) : 2 * ((a + b) * (c + d)) = (a - b) * (a - b) + (c - d) * (c - d) := by grind
theorem gq_turn {a b c d : Int} (h : GQ a b c d) : GQ a b c (2 * (a + b + c) - d) := by
  refine ⟨gq_eq h.1, ?_⟩
  have e := gq_prod h.1
  rcases Int.lt_trichotomy (a + b + c + (2 * (a + b + c) - d)) 0 with q | q | q
  · have h1 := Int.mul_neg_of_pos_of_neg h.2 q
    have := sq_nn (a + b + c); have := sq_nn a; have := sq_nn b; have := sq_nn c
    omega
  · rw [q, Int.mul_zero] at e
    have h1 := sq_nn (a + b + c); have h2 := sq_nn a; have h3 := sq_nn b; have h4 := sq_nn c
    have ea : a * a = 0 := by omega
    have eb : b * b = 0 := by omega
    have ec : c * c = 0 := by omega
    have ha : a = 0 := by rcases Int.mul_eq_zero.mp ea with z | z <;> exact z
    have hb : b = 0 := by rcases Int.mul_eq_zero.mp eb with z | z <;> exact z
    have hc : c = 0 := by rcases Int.mul_eq_zero.mp ec with z | z <;> exact z
    subst ha; subst hb; subst hc
    have h9 := h.2
    omega
  · exact q
theorem gq_sum {a b c d : Int} (h : GQ a b c d) : 0 ≤ a + b ∧ 0 ≤ c + d := by
  have e := gq_pair h.1
  have h1 := sq_nn (a - b); have h2 := sq_nn (c - d); have hs := h.2
  constructor
  · rcases Int.lt_or_le (a + b) 0 with q | q
    · have := Int.mul_neg_of_neg_of_pos q (show 0 < c + d by omega)
      omega
    · exact q
  · rcases Int.lt_or_le (c + d) 0 with q | q
    · have := Int.mul_neg_of_pos_of_neg (show 0 < a + b by omega) q
      omega
    · exact q
theorem gq_even {a b c d : Int} (h : GQ a b c d) : (a + b + c + d) % 2 = 0 := by
  have e := h.1
  generalize a + b + c + d = s at e
  rcases Int.emod_two_eq s with q | q
  · exact q
  · exfalso
    have : (s * s) % 2 = 1 := by rw [Int.mul_emod, q]; rfl
    omega
/-- in any order -/
theorem gq_12 {a b c d : Int} (h : GQ a b c d) : GQ b a c d := ⟨by have := h.1; grind, by have := h.2; omega⟩
theorem gq_23 {a b c d : Int} (h : GQ a b c d) : GQ a c b d := ⟨by have := h.1; grind, by have := h.2; omega⟩
theorem gq_34 {a b c d : Int} (h : GQ a b c d) : GQ a b d c := ⟨by have := h.1; grind, by have := h.2; omega⟩
