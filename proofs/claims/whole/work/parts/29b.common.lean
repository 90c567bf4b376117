/-! common: the same steps of Euclid -/
theorem md_half {b r : Nat} (h0 : 0 < r) (h1 : r < b) : 2 * (b % r) < b := by
  have h2 := Nat.mod_lt b h0
  have h3 := Nat.div_add_mod b r
  have h4 : 1 ≤ b / r := (Nat.le_div_iff_mul_le h0).mpr (by omega)
  have h5 : r * 1 ≤ r * (b / r) := Nat.mul_le_mul_left r h4
  omega
theorem gdx (k : Int64 → Int64 → Int32 → Option Int64) : ∀ (s m a b c : Nat), b < 2 ^ s → s ≤ 40 → a < 2 ^ 63 → c + 2 * s + 1 < 1000000 → ∃ z, pX8_greatestDivisor_L9 (m + 2 * s + 1) (lN a) (lN b) (nI c) k = k (lN (Nat.gcd a b)) 0 z := by
  intro s
  induction s with
  | zero =>
    intro m a b c hb _ ha hc
    obtain rfl : b = 0 := by omega
    refine ⟨nI c, ?_⟩
    rw [pX8_greatestDivisor_L9, if_neg (by rw [show (1000000 : Int32) = nI 1000000 from rfl, nI_leI (by omega) (by omega)]; omega), if_pos (show lN 0 = 0 from rfl), Nat.gcd_zero_right]
    rfl
  | succ s ih =>
    intro m a b c hb hs ha hc
    have hp : 2 ^ (s + 1) ≤ 2 ^ 40 := Nat.pow_le_pow_right (by omega) hs
    have hp2 : (2 : Nat) ^ (s + 1) = 2 * 2 ^ s := by rw [Nat.pow_succ]; omega
    have hb63 : b < 2 ^ 63 := Nat.lt_of_lt_of_le hb (Nat.le_trans hp (by decide))
    rw [show m + 2 * (s + 1) + 1 = m + 2 * s + 2 + 1 by omega, pX8_greatestDivisor_L9, if_neg (by rw [show (1000000 : Int32) = nI 1000000 from rfl, nI_leI (by omega) (by omega)]; omega)]
    by_cases h0 : b = 0
    · subst h0
      refine ⟨nI c, ?_⟩
      rw [if_pos (show lN 0 = 0 from rfl), Nat.gcd_zero_right]
      rfl
    have hne : ¬ lN b = 0 := by rw [show (0 : Int64) = lN 0 from rfl, pk_lEQ hb63 (by decide)]; exact h0
    rw [if_neg hne, ck_t hne, pk_lRem ha (by omega) hb63, show nI c + 1 = nI (c + 1) from nI_add c 1]
    have hr := Nat.mod_lt a (show b > 0 by omega)
    rw [show m + 2 * s + 2 = m + 2 * s + 1 + 1 by omega, pX8_greatestDivisor_L9, if_neg (by rw [show (1000000 : Int32) = nI 1000000 from rfl, nI_leI (by omega) (by omega)]; omega)]
    rw [Nat.gcd_comm a b, Nat.gcd_rec b a]
    by_cases h1 : a % b = 0
    · rw [h1, Nat.gcd_zero_left]
      refine ⟨nI (c + 1), ?_⟩
      rw [if_pos (show lN 0 = 0 from rfl)]
      rfl
    have hne : ¬ lN (a % b) = 0 := by rw [show (0 : Int64) = lN 0 from rfl, pk_lEQ (by omega) (by decide)]; exact h1
    rw [if_neg hne, ck_t hne, pk_lRem hb63 (by omega) (by omega), show nI (c + 1) + 1 = nI (c + 1 + 1) from nI_add (c + 1) 1, Nat.gcd_rec (a % b) b, Nat.gcd_comm]
    have := md_half (b := b) (r := a % b) (by omega) hr
    exact ih m (a % b) (b % (a % b)) (c + 1 + 1) (by omega) (by omega) (by omega) (by omega)
theorem gdm (k : Int64 → Int64 → Option Int32) : ∀ (s m a b : Nat), b < 2 ^ s → s ≤ 40 → a < 2 ^ 63 → pX9_common_L38 (m + 2 * s + 1) (lN a) (lN b) k = k (lN (Nat.gcd a b)) 0 := by
  intro s
  induction s with
  | zero =>
    intro m a b hb _ ha
    obtain rfl : b = 0 := by omega
    rw [pX9_common_L38, if_pos (by decide), Nat.gcd_zero_right]
    rfl
  | succ s ih =>
    intro m a b hb hs ha
    have hp : 2 ^ (s + 1) ≤ 2 ^ 40 := Nat.pow_le_pow_right (by omega) hs
    have hp2 : (2 : Nat) ^ (s + 1) = 2 * 2 ^ s := by rw [Nat.pow_succ]; omega
    have hb63 : b < 2 ^ 63 := Nat.lt_of_lt_of_le hb (Nat.le_trans hp (by decide))
    rw [show m + 2 * (s + 1) + 1 = m + 2 * s + 2 + 1 by omega, pX9_common_L38]
    by_cases h0 : b = 0
    · subst h0
      rw [if_pos (by decide), Nat.gcd_zero_right]
      rfl
    have hne : ¬ lN b = 0 := by rw [show (0 : Int64) = lN 0 from rfl, pk_lEQ hb63 (by decide)]; exact h0
    have hnl : ¬ lN b ≤ 0 := by rw [show (0 : Int64) = lN 0 from rfl, pk_lLE hb63 (by decide)]; omega
    rw [if_neg hnl, ck_t hne, pk_lRem ha (by omega) hb63]
    have hr := Nat.mod_lt a (show b > 0 by omega)
    rw [show m + 2 * s + 2 = m + 2 * s + 1 + 1 by omega, pX9_common_L38]
    rw [Nat.gcd_comm a b, Nat.gcd_rec b a]
    by_cases h1 : a % b = 0
    · rw [h1, Nat.gcd_zero_left, if_pos (by decide)]
      rfl
    have hne : ¬ lN (a % b) = 0 := by rw [show (0 : Int64) = lN 0 from rfl, pk_lEQ (by omega) (by decide)]; exact h1
    have hnl : ¬ lN (a % b) ≤ 0 := by rw [show (0 : Int64) = lN 0 from rfl, pk_lLE (by omega) (by decide)]; omega
    rw [if_neg hnl, ck_t hne, pk_lRem hb63 (by omega) (by omega), Nat.gcd_rec (a % b) b, Nat.gcd_comm]
    have := md_half (b := b) (r := a % b) (by omega) hr
    exact ih m (a % b) (b % (a % b)) (by omega) (by omega) (by omega)
theorem ab_x (v : Int64) (h : -1000000000 ≤ v.toInt ∧ v.toInt ≤ 1000000000) : (if 0 < v then v else -v) = lN v.toInt.natAbs := by
  have h0 : (0 : Int64).toInt = 0 := rfl
  by_cases q : 0 < v
  · rw [if_pos q, i64_eq, pk_lT (by omega)]; rw [i64_lt, h0] at q; omega
  · rw [if_neg q, i64_eq, pk_lT (by omega), ← Int64.zero_sub, i64_sub (by omega) (by omega)]; rw [i64_lt, h0] at q; omega
theorem gcd_sm {g : Nat} (hg : g < 2 ^ 40) (v : Nat) (hv : v < 2 ^ 40) : Nat.gcd g v < 2 ^ 40 := by
  by_cases q : g = 0
  · subst q; rw [Nat.gcd_zero_left]; exact hv
  · exact Nat.lt_of_le_of_lt (Nat.gcd_le_left v (by omega)) hg
theorem cm_x (f : Nat → Int64) (hb : Bd 1000000000 f) {g i : Nat} (hg : g < 2 ^ 40) (hi : i < 4) (m : Nat) (k : Int64 → Int32 → Option Int32) : pX8_common_L4 f (m + 100 + 1) (lN g) (nI i) k = pX8_common_L4 f (m + 100) (lN (Nat.gcd g (f i).toInt.natAbs)) (nI (i + 1)) k := by
  have hv := hb.at hi
  obtain ⟨z, e⟩ := gdx (fun y4_4 _ _ => some y4_4) 40 (m + 19) g (f i).toInt.natAbs 0 (by omega) (by omega) (by omega) (by omega)
  rw [pX8_common_L4, if_neg (by rw [show (4 : Int32) = nI 4 from rfl, nI_leI (by omega) (by omega)]; omega), ck_t (ix_nI hi (by omega)), nI_clamp (by omega), ab_x _ hv, pX8_greatestDivisor]
  rw [show m + 19 + 2 * 40 + 1 = m + 100 by omega] at e
  rw [show (0 : Int32) = nI 0 from rfl, e, Option.bind_some, show nI i + 1 = nI (i + 1) from nI_add i 1]
theorem cm_m (f : Nat → Int64) (hb : Bd 1000000000 f) {g i : Nat} (hg : g < 2 ^ 40) (hi : i < 4) (m : Nat) (k : Int64 → Int32 → Option Int32) : pX9_common_L4 f (m + 100 + 1) (lN g) (nI i) k = pX9_common_L4 f (m + 100) (lN (Nat.gcd g (f i).toInt.natAbs)) (nI (i + 1)) k := by
  have hv := hb.at hi
  have h0 : (0 : Int64).toInt = 0 := rfl
  rw [pX9_common_L4, if_neg (by rw [show (4 : Int32) = nI 4 from rfl, nI_leI (by omega) (by omega)]; omega), ck_t (ix_nI hi (by omega)), nI_clamp (by omega)]
  have hx : ∀ k, pX9_common_L38 (m + 100) (lN g) (lN (f i).toInt.natAbs) k = k (lN (Nat.gcd g (f i).toInt.natAbs)) 0 := fun k => by
    have e := gdm k 40 (m + 19) g (f i).toInt.natAbs (by omega) (by omega) (by omega)
    rw [show m + 19 + 2 * 40 + 1 = m + 100 by omega] at e
    exact e
  by_cases q : (0 : Int64) ≤ f i
  · have e : f i = lN (f i).toInt.natAbs := by rw [i64_eq, pk_lT (by omega)]; rw [i64_le, h0] at q; omega
    rw [if_pos q]
    conv => lhs; arg 3; rw [e]
    rw [hx, show nI i + 1 = nI (i + 1) from nI_add i 1]
  · have e : -(f i) = lN (f i).toInt.natAbs := by rw [i64_eq, pk_lT (by omega), ← Int64.zero_sub, i64_sub (by omega) (by omega)]; rw [i64_le, h0] at q; omega
    rw [if_neg q, e, hx, show nI i + 1 = nI (i + 1) from nI_add i 1]
theorem cmn_eq {n : Nat} (hn : FU ≤ n) {f g : Nat → Int64} (hb : Bd 1000000000 f) (h : eq4 f g) : ∃ r, pX8_common n f = some r ∧ pX9_common n g = some r := by
  have hn5 := fu1 hn
  obtain ⟨m, rfl⟩ : ∃ m, n = m + 104 := ⟨n - 104, by omega⟩
  have hb2 : Bd 1000000000 g := by unfold Bd at hb ⊢; rw [← h.1, ← h.2.1, ← h.2.2.1, ← h.2.2.2]; exact hb
  have B : ∀ {i : Nat}, i < 4 → (f i).toInt.natAbs < 2 ^ 40 := fun hi => by have := hb.at hi; omega
  have g1 := gcd_sm (g := 0) (by decide) _ (B (i := 0) (by omega))
  have g2 := gcd_sm g1 _ (B (i := 1) (by omega))
  have g3 := gcd_sm g2 _ (B (i := 2) (by omega))
  have g4 := gcd_sm g3 _ (B (i := 3) (by omega))
  refine ⟨(lN ((((Nat.gcd 0 (f 0).toInt.natAbs).gcd (f 1).toInt.natAbs).gcd (f 2).toInt.natAbs).gcd (f 3).toInt.natAbs)).toInt32, ?_, ?_⟩
  · rw [pX8_common, show (0 : Int64) = lN 0 from rfl, show (0 : Int32) = nI 0 from rfl, show m + 104 = m + 3 + 100 + 1 by omega, cm_x f hb (by decide) (by omega), show m + 3 + 100 = m + 2 + 100 + 1 by omega, cm_x f hb g1 (by omega), show m + 2 + 100 = m + 1 + 100 + 1 by omega, cm_x f hb g2 (by omega), show m + 1 + 100 = m + 100 + 1 by omega, cm_x f hb g3 (by omega), pX8_common_L4, if_pos (by decide)]
  · have E : ∀ {i : Nat}, i < 4 → (g i).toInt.natAbs = (f i).toInt.natAbs := fun hi => by rw [h.at hi]
    have c : ∀ {a i : Nat}, a < 2 ^ 40 → i < 4 → ∀ (m : Nat) (k : Int64 → Int32 → Option Int32), pX9_common_L4 g (m + 100 + 1) (lN a) (nI i) k = pX9_common_L4 g (m + 100) (lN (Nat.gcd a (f i).toInt.natAbs)) (nI (i + 1)) k := fun ha hi m k => by rw [cm_m g hb2 ha hi, E hi]
    rw [pX9_common, show (0 : Int64) = lN 0 from rfl, show (0 : Int32) = nI 0 from rfl, show m + 104 = m + 3 + 100 + 1 by omega, c (by decide) (by omega), show m + 3 + 100 = m + 2 + 100 + 1 by omega, c g1 (by omega), show m + 2 + 100 = m + 1 + 100 + 1 by omega, c g2 (by omega), show m + 1 + 100 = m + 100 + 1 by omega, c g3 (by omega), pX9_common_L4, if_pos (by decide)]
