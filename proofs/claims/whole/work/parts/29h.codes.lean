/-! remainders: four of them as one number -/
def pk4 (m a b c d : Nat) : Nat := a + m * (b + m * (c + m * d))
theorem dv0 (m c : Nat) : c / m ^ 0 = c := by rw [Nat.pow_zero, Nat.div_one]
theorem dv1 (m c : Nat) : c / m ^ 1 = c / m := by rw [Nat.pow_one]
theorem dv2 (m c : Nat) : c / m ^ 2 = c / m / m := by rw [Nat.pow_two, Nat.div_div_eq_div_mul]
theorem dv3 (m c : Nat) : c / m ^ 3 = c / m / m / m := by rw [Nat.pow_succ, Nat.pow_two, Nat.div_div_eq_div_mul, Nat.div_div_eq_div_mul, Nat.mul_assoc]
theorem md_a {m a X : Nat} (h : a < m) : (a + m * X) % m = a ∧ (a + m * X) / m = X :=
  ⟨by rw [Nat.add_mul_mod_self_left, Nat.mod_eq_of_lt h], by rw [Nat.add_mul_div_left _ _ (by omega), Nat.div_eq_of_lt h, Nat.zero_add]⟩
theorem pk4_dg {m a b c d : Nat} (ha : a < m) (hb : b < m) (hc : c < m) (hd : d < m) : dg m (pk4 m a b c d) 0 = a ∧ dg m (pk4 m a b c d) 1 = b ∧ dg m (pk4 m a b c d) 2 = c ∧ dg m (pk4 m a b c d) 3 = d := by
  unfold dg pk4
  rw [dv0, dv1, dv2, dv3, (md_a ha).1, (md_a ha).2, (md_a hb).1, (md_a hb).2, (md_a hc).1, (md_a hc).2]
  exact ⟨rfl, rfl, rfl, Nat.mod_eq_of_lt hd⟩
theorem lt_a {m a X N : Nat} (h : a < m) (hX : X < N) : a + m * X < m * N := by
  have h1 : m * (X + 1) ≤ m * N := Nat.mul_le_mul_left m hX
  rw [Nat.mul_add, Nat.mul_one] at h1
  omega
theorem pw4 (m : Nat) : m ^ 4 = m * (m * (m * m)) := by grind
theorem pk4_lt {m a b c d : Nat} (ha : a < m) (hb : b < m) (hc : c < m) (hd : d < m) : pk4 m a b c d < m ^ 4 := by
  rw [pw4]
  exact lt_a ha (lt_a hb (lt_a hc hd))
theorem cd_eq {m c : Nat} (hm : 0 < m) (h : c < m ^ 4) : c = pk4 m (dg m c 0) (dg m c 1) (dg m c 2) (dg m c 3) := by
  unfold dg pk4
  rw [dv0, dv1, dv2, dv3]
  rw [pw4] at h
  have h3 : c / m / m / m < m := Nat.div_lt_of_lt_mul (Nat.div_lt_of_lt_mul (Nat.div_lt_of_lt_mul h))
  rw [Nat.mod_eq_of_lt h3, Nat.mod_add_div, Nat.mod_add_div, Nat.mod_add_div]
theorem dg_lt {m : Nat} (hm : 0 < m) (c p : Nat) : dg m c p < m := Nat.mod_lt _ hm
theorem tw_lt {m : Nat} (hm : 0 < m) (c p : Nat) : tw m c p < m := Nat.mod_lt _ hm
/-- a code with the digit at p another one -/
def st4 (m c p t : Nat) : Nat := pk4 m (if p = 0 then t else dg m c 0) (if p = 1 then t else dg m c 1) (if p = 2 then t else dg m c 2) (if p = 3 then t else dg m c 3)
theorem st_eq {m c : Nat} (hm : 0 < m) (h : c < m ^ 4) (p t : Nat) (hp : p < 4) : c - dg m c p * m ^ p + t * m ^ p = st4 m c p t ∧ dg m c p * m ^ p ≤ c := by
  have h1 := cd_eq hm h
  have e1 : ∀ x : Nat, x * m ^ 1 = m * x := fun x => by grind
  have e2 : ∀ x : Nat, x * m ^ 2 = m * (m * x) := fun x => by grind
  have e3 : ∀ x : Nat, x * m ^ 3 = m * (m * (m * x)) := fun x => by grind
  have e0 : ∀ x : Nat, x * m ^ 0 = x := fun x => by grind
  unfold st4
  unfold pk4 at h1 ⊢
  match p, hp with
  | 0, _ =>
    simp only [if_true, e0, if_neg (show ¬ (0 : Nat) = 1 by decide), if_neg (show ¬ (0 : Nat) = 2 by decide), if_neg (show ¬ (0 : Nat) = 3 by decide)]
    generalize m * (dg m c 1 + m * (dg m c 2 + m * dg m c 3)) = X at h1 ⊢
    omega
  | 1, _ =>
    simp only [if_true, e1, if_neg (show ¬ (1 : Nat) = 0 by decide), if_neg (show ¬ (1 : Nat) = 2 by decide), if_neg (show ¬ (1 : Nat) = 3 by decide)]
    generalize m * (dg m c 2 + m * dg m c 3) = X at h1 ⊢
    rw [Nat.mul_add] at h1
    rw [Nat.mul_add]
    omega
  | 2, _ =>
    simp only [if_true, e2, if_neg (show ¬ (2 : Nat) = 0 by decide), if_neg (show ¬ (2 : Nat) = 1 by decide), if_neg (show ¬ (2 : Nat) = 3 by decide)]
    rw [Nat.mul_add, Nat.mul_add, Nat.mul_add] at h1
    rw [Nat.mul_add, Nat.mul_add, Nat.mul_add]
    omega
  | 3, _ =>
    simp only [if_true, e3, if_neg (show ¬ (3 : Nat) = 0 by decide), if_neg (show ¬ (3 : Nat) = 1 by decide), if_neg (show ¬ (3 : Nat) = 2 by decide)]
    rw [Nat.mul_add, Nat.mul_add, Nat.mul_add] at h1
    rw [Nat.mul_add, Nat.mul_add, Nat.mul_add]
    omega
theorem tc_st {m c : Nat} (hm : 0 < m) (h : c < m ^ 4) {p : Nat} (hp : p < 4) : tc m c p = st4 m c p (tw m c p) := (st_eq hm h p _ hp).1
theorem if_lt {q : Prop} [Decidable q] {a b m : Nat} (ha : a < m) (hb : b < m) : (if q then a else b) < m := by
  by_cases h : q
  · rw [if_pos h]; exact ha
  · rw [if_neg h]; exact hb
theorem st_lt {m : Nat} (hm : 0 < m) (c p : Nat) {t : Nat} (ht : t < m) : st4 m c p t < m ^ 4 := pk4_lt (if_lt ht (dg_lt hm _ _)) (if_lt ht (dg_lt hm _ _)) (if_lt ht (dg_lt hm _ _)) (if_lt ht (dg_lt hm _ _))
theorem st_dg {m : Nat} (hm : 0 < m) (c p : Nat) {t : Nat} (ht : t < m) : dg m (st4 m c p t) 0 = (if p = 0 then t else dg m c 0) ∧ dg m (st4 m c p t) 1 = (if p = 1 then t else dg m c 1) ∧ dg m (st4 m c p t) 2 = (if p = 2 then t else dg m c 2) ∧ dg m (st4 m c p t) 3 = (if p = 3 then t else dg m c 3) := pk4_dg (if_lt ht (dg_lt hm _ _)) (if_lt ht (dg_lt hm _ _)) (if_lt ht (dg_lt hm _ _)) (if_lt ht (dg_lt hm _ _))
/-- the form, by m -/
def I4 (m a b c d : Nat) : Prop := (2 * (a * a + b * b + c * c + d * d)) % m = ((a + b + c + d) * (a + b + c + d)) % m
theorem I4.s1 {m a b c d : Nat} (h : I4 m a b c d) : I4 m b a c d := by
  unfold I4 at h ⊢
  rw [Nat.add_comm (b * b), Nat.add_comm b a]; exact h
theorem I4.s2 {m a b c d : Nat} (h : I4 m a b c d) : I4 m c b a d := by
  unfold I4 at h ⊢
  rw [show c * c + b * b + a * a + d * d = a * a + b * b + c * c + d * d by omega, show c + b + a + d = a + b + c + d by omega]; exact h
theorem I4.s3 {m a b c d : Nat} (h : I4 m a b c d) : I4 m d b c a := by
  unfold I4 at h ⊢
  rw [show d * d + b * b + c * c + a * a = a * a + b * b + c * c + d * d by omega, show d + b + c + a = a + b + c + d by omega]; exact h
theorem I4.z {m a b c d : Nat} (h : I4 m a b c d) : ∃ j : Int, 2 * ((a : Int) * a + b * b + c * c + d * d) - ((a : Int) + b + c + d) * ((a : Int) + b + c + d) = m * j := by
  unfold I4 at h
  have h1 := Nat.div_add_mod (2 * (a * a + b * b + c * c + d * d)) m
  have h2 := Nat.div_add_mod ((a + b + c + d) * (a + b + c + d)) m
  rw [h] at h1
  refine ⟨((2 * (a * a + b * b + c * c + d * d)) / m : Nat) - (((a + b + c + d) * (a + b + c + d)) / m : Nat), ?_⟩
  have h3 := congrArg (fun x : Nat => (x : Int)) h1
  have h4 := congrArg (fun x : Nat => (x : Int)) h2
  simp only [Int.natCast_add, Int.natCast_mul] at h3 h4
  rw [Int.mul_sub]
  generalize (((2 * (a * a + b * b + c * c + d * d)) / m : Nat) : Int) = u at h3 ⊢
  generalize ((((a + b + c + d) * (a + b + c + d)) / m : Nat) : Int) = v at h4 ⊢
  generalize ((((a + b + c + d) * (a + b + c + d)) % m : Nat) : Int) = w at h3 h4
  grind
theorem I4.ofz {m a b c d : Nat} (h : ∃ j : Int, 2 * ((a : Int) * a + b * b + c * c + d * d) - ((a : Int) + b + c + d) * ((a : Int) + b + c + d) = m * j) : I4 m a b c d := by
  obtain ⟨j, h⟩ := h
  unfold I4
  have h2 : ((2 * (a * a + b * b + c * c + d * d) : Nat) : Int) = (((a + b + c + d) * (a + b + c + d) : Nat) : Int) + m * j := by
    simp only [Int.natCast_add, Int.natCast_mul]
    grind
  have h3 := congrArg (fun x => x % (m : Int)) h2
  simp only [Int.add_mul_emod_self_left] at h3
  exact_mod_cast h3
theorem isoT {m j k R T a t : Int} (h : 2 * (R + a * a) - (T + a) * (T + a) = m * j) (ht : t = 2 * T - a + m * k) : 2 * (R + t * t) - (T + t) * (T + t) = m * (j + k * (t - a)) := by
  subst ht; grind
theorem isoS {m j k R T a t : Int} (h : 2 * (R + a * a) - (T + a) * (T + a) = m * j) (ht : t = a + m * k) : 2 * (R + t * t) - (T + t) * (T + t) = m * (j + k * (t + a) - 2 * T * k) := by
  subst ht; grind
theorem I4.turn {m a b c d : Nat} (ha : a < m) (h : I4 m a b c d) : I4 m ((2 * (b + c + d) + m - a) % m) b c d := by
  obtain ⟨j, hj⟩ := h.z
  refine I4.ofz ?_
  have h1 := Nat.div_add_mod (2 * (b + c + d) + m - a) m
  generalize (2 * (b + c + d) + m - a) % m = t at h1 ⊢
  generalize (2 * (b + c + d) + m - a) / m = u at h1
  have h2 : (t : Int) = 2 * ((b : Int) + c + d) - a + m * (1 - (u : Int)) := by
    have h3 := congrArg (fun x : Nat => (x : Int)) (show m * u + t + a = 2 * (b + c + d) + m by omega)
    simp only [Int.natCast_add, Int.natCast_mul] at h3
    grind
  refine ⟨j + (1 - (u : Int)) * (t - a), ?_⟩
  have h4 := isoT (m := m) (j := j) (k := 1 - (u : Int)) (R := (b : Int) * b + c * c + d * d) (T := (b : Int) + c + d) (a := a) (t := t) (by grind) h2
  grind
