theorem mb_cases (p : Int32) : (pX8_mayBeGiven p = some 0 ∧ pX9_isBend p = some 0) ∨ (pX8_mayBeGiven p = some 1 ∧ pX9_isBend p = some 1 ∧ -100000 ≤ p.toInt ∧ p.toInt ≤ 1000000) := by
  unfold pX8_mayBeGiven pX9_isBend pX9_within
  by_cases h1 : p < (-100000 : Int32)
  · left; simp only [if_pos h1, Option.bind_some]; exact ⟨trivial, rfl⟩
  · by_cases h2 : (1000000 : Int32) < p
    · left; simp only [if_neg h1, if_pos h2, Option.bind_some]; exact ⟨trivial, rfl⟩
    · right
      simp only [if_neg h1, if_neg h2, Option.bind_some]
      refine ⟨trivial, rfl, ?_⟩
      rw [i32_lt] at h1 h2
      have e1 : (-100000 : Int32).toInt = -100000 := rfl
      have e4 : (1000000 : Int32).toInt = 1000000 := rfl
      omega
theorem msq {x B : Int} (h1 : -B ≤ x) (h2 : x ≤ B) : 0 ≤ x * x ∧ x * x ≤ B * B := by
  refine ⟨sq_nn x, ?_⟩
  have h3 : 0 ≤ (B - x) * (B + x) := Int.mul_nonneg (by omega) (by omega)
  grind
theorem good_set {a b c d : Int32} (ha : -100000 ≤ a.toInt ∧ a.toInt ≤ 1000000) (hb : -100000 ≤ b.toInt ∧ b.toInt ≤ 1000000) (hc : -100000 ≤ c.toInt ∧ c.toInt ≤ 1000000) (hd : -100000 ≤ d.toInt ∧ d.toInt ≤ 1000000) (h1 : ¬ (((a.toInt64 + b.toInt64) + c.toInt64) + d.toInt64) ≤ (0 : Int64)) (h2 : ((2 : Int64) * ((((a.toInt64 * a.toInt64) + (b.toInt64 * b.toInt64)) + (c.toInt64 * c.toInt64)) + (d.toInt64 * d.toInt64))) = ((((a.toInt64 + b.toInt64) + c.toInt64) + d.toInt64) * (((a.toInt64 + b.toInt64) + c.toInt64) + d.toInt64))) {f : Nat → Int64} (e0 : f 0 = a.toInt64) (e1 : f 1 = b.toInt64) (e2 : f 2 = c.toInt64) (e3 : f 3 = d.toInt64) : GB f := by
  have ia := i64_of32 a; have ib := i64_of32 b; have ic := i64_of32 c; have id := i64_of32 d
  have s1 := i64_add (a := a.toInt64) (b := b.toInt64) (by omega) (by omega)
  have s2 := i64_add (a := a.toInt64 + b.toInt64) (b := c.toInt64) (by omega) (by omega)
  have s3 := i64_add (a := a.toInt64 + b.toInt64 + c.toInt64) (b := d.toInt64) (by omega) (by omega)
  have z0 : (0 : Int64).toInt = 0 := rfl
  have qa := msq (x := a.toInt) (B := 1000000) (by omega) (by omega)
  have qb := msq (x := b.toInt) (B := 1000000) (by omega) (by omega)
  have qc := msq (x := c.toInt) (B := 1000000) (by omega) (by omega)
  have qd := msq (x := d.toInt) (B := 1000000) (by omega) (by omega)
  have ma := i64_mul (a := a.toInt64) (b := a.toInt64) (by rw [ia]; omega) (by rw [ia]; omega)
  have mb := i64_mul (a := b.toInt64) (b := b.toInt64) (by rw [ib]; omega) (by rw [ib]; omega)
  have mc := i64_mul (a := c.toInt64) (b := c.toInt64) (by rw [ic]; omega) (by rw [ic]; omega)
  have md := i64_mul (a := d.toInt64) (b := d.toInt64) (by rw [id]; omega) (by rw [id]; omega)
  rw [ia] at ma; rw [ib] at mb; rw [ic] at mc; rw [id] at md
  have t1 := i64_add (a := a.toInt64 * a.toInt64) (b := b.toInt64 * b.toInt64) (by omega) (by omega)
  have t2 := i64_add (a := a.toInt64 * a.toInt64 + b.toInt64 * b.toInt64) (b := c.toInt64 * c.toInt64) (by omega) (by omega)
  have t3 := i64_add (a := a.toInt64 * a.toInt64 + b.toInt64 * b.toInt64 + c.toInt64 * c.toInt64) (b := d.toInt64 * d.toInt64) (by omega) (by omega)
  have t4 := i64_dbl (a := a.toInt64 * a.toInt64 + b.toInt64 * b.toInt64 + c.toInt64 * c.toInt64 + d.toInt64 * d.toInt64) (by omega) (by omega)
  have sq := msq (x := (a.toInt64 + b.toInt64 + c.toInt64 + d.toInt64).toInt) (B := 4000000) (by omega) (by omega)
  have m5 := i64_mul (a := a.toInt64 + b.toInt64 + c.toInt64 + d.toInt64) (b := a.toInt64 + b.toInt64 + c.toInt64 + d.toInt64) (by omega) (by omega)
  rw [i64_le, z0] at h1
  rw [i64_eq, t4, m5] at h2
  have hS : (a.toInt64 + b.toInt64 + c.toInt64 + d.toInt64).toInt = a.toInt + b.toInt + c.toInt + d.toInt := by omega
  rw [hS] at h1 h2
  have hT : (a.toInt64 * a.toInt64 + b.toInt64 * b.toInt64 + c.toInt64 * c.toInt64 + d.toInt64 * d.toInt64).toInt = a.toInt * a.toInt + b.toInt * b.toInt + c.toInt * c.toInt + d.toInt * d.toInt := by omega
  rw [hT] at h2
  unfold GB Bd
  rw [e0, e1, e2, e3, ia, ib, ic, id]
  exact ⟨⟨h2, by omega⟩, by omega, by omega, by omega, by omega⟩
theorem k3 (p : Int32) : (pX8_isCopy p = some 0 ∧ pX9_within p 0 2 = some 0 ∧ pX8_isShelf p = some 0 ∧ pX9_isShelf p = some 0) ∨ (pX8_isCopy p = some 1 ∧ pX9_within p 0 2 = some 1 ∧ pX8_isShelf p = some 1 ∧ pX9_isShelf p = some 1 ∧ (p = 0 ∨ p = 1 ∨ p = 2)) := by
  unfold pX9_isShelf pX8_isCopy pX9_within pX8_isShelf
  rcases rg_cases p (N := 3) (by omega) with h | ⟨h, h2⟩ | ⟨h, h2, i, hi, rfl⟩
  · left; simp only [if_pos h, Option.bind_some]; exact ⟨trivial, trivial, trivial, rfl⟩
  · have h2 : (3 : Int32) ≤ p := h2
    have h3 : (2 : Int32) < p := by rw [i32_lt]; rw [i32_le] at h2; exact h2
    left; simp only [if_neg h, if_pos h2, if_pos h3, Option.bind_some]; exact ⟨trivial, trivial, trivial, rfl⟩
  · have h2 : ¬ (3 : Int32) ≤ nI i := h2
    have h3 : ¬ (2 : Int32) < nI i := by rw [show (2 : Int32) = nI 2 from rfl, nI_ltI (by omega) (by omega)]; omega
    right; simp only [if_neg h, if_neg h2, if_neg h3, Option.bind_some]
    refine ⟨trivial, trivial, trivial, rfl, ?_⟩
    match i, hi with
    | 0, _ => exact Or.inl rfl
    | 1, _ => exact Or.inr (Or.inl rfl)
    | 2, _ => exact Or.inr (Or.inr rfl)
theorem kp0 (m : Nat) (b c : Nat → Int64) (k : Int32 → (Nat → Int64) → Option (Int32 × (Nat → Int32) × (Nat → Int64))) : pX9_keep_L20 0 b (m + 5) 0 c k = k 4 (vp_updL (vp_updL (vp_updL (vp_updL c 0 (b 0)) 1 (b 1)) 2 (b 2)) 3 (b 3)) := rfl
theorem kp1 (m : Nat) (b c : Nat → Int64) (k : Int32 → (Nat → Int64) → Option (Int32 × (Nat → Int32) × (Nat → Int64))) : pX9_keep_L20 1 b (m + 5) 0 c k = k 4 (vp_updL (vp_updL (vp_updL (vp_updL c 4 (b 0)) 5 (b 1)) 6 (b 2)) 7 (b 3)) := rfl
theorem kp2 (m : Nat) (b c : Nat → Int64) (k : Int32 → (Nat → Int64) → Option (Int32 × (Nat → Int32) × (Nat → Int64))) : pX9_keep_L20 2 b (m + 5) 0 c k = k 4 (vp_updL (vp_updL (vp_updL (vp_updL c 8 (b 0)) 9 (b 1)) 10 (b 2)) 11 (b 3)) := rfl
theorem bk0 (m : Nat) (c b : Nat → Int64) (k : Int32 → (Nat → Int64) → Option (Int32 × (Nat → Int64))) : pX9_back_L25 0 c (m + 5) 0 b k = k 4 (vp_updL (vp_updL (vp_updL (vp_updL b 0 (c 0)) 1 (c 1)) 2 (c 2)) 3 (c 3)) := rfl
theorem bk1 (m : Nat) (c b : Nat → Int64) (k : Int32 → (Nat → Int64) → Option (Int32 × (Nat → Int64))) : pX9_back_L25 1 c (m + 5) 0 b k = k 4 (vp_updL (vp_updL (vp_updL (vp_updL b 0 (c 4)) 1 (c 5)) 2 (c 6)) 3 (c 7)) := rfl
theorem bk2 (m : Nat) (c b : Nat → Int64) (k : Int32 → (Nat → Int64) → Option (Int32 × (Nat → Int64))) : pX9_back_L25 2 c (m + 5) 0 b k = k 4 (vp_updL (vp_updL (vp_updL (vp_updL b 0 (c 8)) 1 (c 9)) 2 (c 10)) 3 (c 11)) := rfl
