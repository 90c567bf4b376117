/-! remainders: numbers and bits -/
theorem xs32 {a b : Int32} (hb : 0 ≤ b.toInt) : (0 ≤ (a ^^^ b)) ↔ 0 ≤ a.toInt := by
  rw [i32_le]
  have e0 : (0 : Int32).toInt = 0 := rfl
  rw [e0]
  have h1 : (a ^^^ b).toInt = (a.toBitVec ^^^ b.toBitVec).toInt := rfl
  have h2 : a.toInt = a.toBitVec.toInt := rfl
  have h3 : b.toInt = b.toBitVec.toInt := rfl
  have m1 := BitVec.msb_xor (x := a.toBitVec) (y := b.toBitVec)
  rw [BitVec.msb_eq_toInt, BitVec.msb_eq_toInt, BitVec.msb_eq_toInt, ← h1, ← h2, ← h3, show decide (b.toInt < 0) = false from decide_eq_false (by omega), Bool.xor_false] at m1
  have m2 : ((a ^^^ b).toInt < 0) ↔ a.toInt < 0 := by rw [← decide_eq_decide]; exact m1
  omega
theorem xs64 {a b : Int64} (hb : 0 ≤ b.toInt) : ((0 : Int64) ≤ (a ^^^ b)) ↔ 0 ≤ a.toInt := by
  rw [i64_le]
  have e0 : (0 : Int64).toInt = 0 := rfl
  rw [e0]
  have h1 : (a ^^^ b).toInt = (a.toBitVec ^^^ b.toBitVec).toInt := rfl
  have h2 : a.toInt = a.toBitVec.toInt := rfl
  have h3 : b.toInt = b.toBitVec.toInt := rfl
  have m1 := BitVec.msb_xor (x := a.toBitVec) (y := b.toBitVec)
  rw [BitVec.msb_eq_toInt, BitVec.msb_eq_toInt, BitVec.msb_eq_toInt, ← h1, ← h2, ← h3, show decide (b.toInt < 0) = false from decide_eq_false (by omega), Bool.xor_false] at m1
  have m2 : ((a ^^^ b).toInt < 0) ↔ a.toInt < 0 := by rw [← decide_eq_decide]; exact m1
  omega
theorem tm_bd (a : Int) {m : Int} (hm : 0 < m) : a.tdiv m * m = a - a.tmod m ∧ -m < a.tmod m ∧ a.tmod m < m ∧ (0 ≤ a → a.tmod m = a % m) ∧ (a < 0 → a.tmod m = 0 ∧ a % m = 0 ∨ a.tmod m = a % m - m ∧ a.tmod m ≠ 0) := by
  have h1 := Int.mul_tdiv_add_tmod a m
  have h2 := Int.emod_nonneg a (show m ≠ 0 by omega)
  have h3 := Int.emod_lt_of_pos a hm
  have h4 : a.tmod m = a % m - if 0 ≤ a ∨ m ∣ a then 0 else m.natAbs := Int.tmod_eq_emod
  have h5 : (m ∣ a) ↔ a % m = 0 := Int.dvd_iff_emod_eq_zero
  rw [Int.mul_comm] at h1
  by_cases q : 0 ≤ a ∨ m ∣ a
  · rw [if_pos q] at h4
    refine ⟨by omega, by omega, by omega, fun _ => by omega, fun h => Or.inl ?_⟩
    rcases q with q | q
    · omega
    · have := h5.mp q; omega
  · rw [if_neg q] at h4
    have q1 : ¬ a % m = 0 := fun h => q (Or.inr (h5.mpr h))
    have q2 : ¬ 0 ≤ a := fun h => q (Or.inl h)
    refine ⟨by omega, by omega, by omega, fun h => absurd h q2, fun h => Or.inr (by omega)⟩
theorem td_bd (a : Int) {m : Int} (hm : 0 < m) : (a.tdiv m).natAbs ≤ a.natAbs := by rw [Int.natAbs_tdiv]; exact Nat.div_le_self _ _
theorem ltm {a b : Int64} {m : Int} (hb : b.toInt = m) (hm : 0 < m) (hm2 : m ≤ 1000) (ha1 : -10000000000 ≤ a.toInt) (ha2 : a.toInt ≤ 10000000000) : (a - a / b * b).toInt = a.toInt.tmod m := by
  obtain ⟨h1, h2, h3, h4, h5⟩ := tm_bd a.toInt hm
  have hab := td_bd a.toInt hm
  have hd : (a / b).toInt = a.toInt.tdiv m := by
    rw [Int64.toInt_div, hb, Int.bmod_eq_of_le (by omega) (by omega)]
  have hmul : (a / b * b).toInt = a.toInt - a.toInt.tmod m := by
    have e : (a / b).toInt * b.toInt = a.toInt - a.toInt.tmod m := by rw [hd, hb, h1]
    have := i64_mul (a := a / b) (b := b) (by omega) (by omega)
    omega
  have := i64_sub (a := a) (b := a / b * b) (by omega) (by omega)
  omega
theorem itm {a b : Int32} {m : Int} (hb : b.toInt = m) (hm : 0 < m) (hm2 : m ≤ 1000) (ha1 : -1000000000 ≤ a.toInt) (ha2 : a.toInt ≤ 1000000000) : (a - a / b * b).toInt = a.toInt.tmod m := by
  obtain ⟨h1, h2, h3, h4, h5⟩ := tm_bd a.toInt hm
  have hab := td_bd a.toInt hm
  have hd : (a / b).toInt = a.toInt.tdiv m := by
    rw [Int32.toInt_div, hb, Int.bmod_eq_of_le (by omega) (by omega)]
  have hmul : (a / b * b).toInt = a.toInt - a.toInt.tmod m := by
    rw [Int32.toInt_mul, hd, hb, h1, Int.bmod_eq_of_le (by omega) (by omega)]
  have := i32_sub (a := a) (b := a / b * b) (by omega) (by omega)
  omega
theorem fm32 {a b : Int32} {m : Int} (hb : b.toInt = m) (hm : 0 < m) (hm2 : m ≤ 1000) (ha1 : -1000000000 ≤ a.toInt) (ha2 : a.toInt ≤ 1000000000) : ∃ r, pJ9_floorMod_7cf53 a b = some r ∧ r.toInt = a.toInt % m := by
  obtain ⟨h1, h2, h3, h4, h5⟩ := tm_bd a.toInt hm
  have ht := itm hb hm hm2 ha1 ha2
  have e0 : (0 : Int32).toInt = 0 := rfl
  have hx := xs32 (a := a) (b := b) (by omega)
  rw [pJ9_floorMod_7cf53, ck_t (by rw [i32_eq, e0]; omega)]
  by_cases q : 0 ≤ a.toInt
  · refine ⟨_, by rw [if_pos (hx.mpr q)], ?_⟩
    rw [ht]; exact h4 q
  · rw [if_neg (fun h => q (hx.mp h))]
    by_cases q2 : (a - a / b * b) = 0
    · refine ⟨_, by rw [if_pos q2], ?_⟩
      rw [i32_eq, ht, e0] at q2
      rw [ht]; rcases h5 (by omega) with h | h <;> omega
    · refine ⟨_, by rw [if_neg q2], ?_⟩
      rw [i32_eq, ht, e0] at q2
      rw [i32_add, ht, hb]
      · rcases h5 (by omega) with h | h <;> omega
      · rw [ht, hb]; omega
      · rw [ht, hb]; omega
theorem fm64 {a b : Int64} {m : Int} (hb : b.toInt = m) (hm : 0 < m) (hm2 : m ≤ 1000) (ha1 : -10000000000 ≤ a.toInt) (ha2 : a.toInt ≤ 10000000000) : ∃ r, pJ9_floorMod_f86c9 a b = some r ∧ r.toInt = a.toInt % m := by
  obtain ⟨h1, h2, h3, h4, h5⟩ := tm_bd a.toInt hm
  have ht := ltm hb hm hm2 ha1 ha2
  have e0 : (0 : Int64).toInt = 0 := rfl
  have hx := xs64 (a := a) (b := b) (by omega)
  rw [pJ9_floorMod_f86c9, ck_t (by rw [i64_eq, e0]; omega)]
  by_cases q : 0 ≤ a.toInt
  · refine ⟨_, by rw [if_pos (hx.mpr q)], ?_⟩
    rw [ht]; exact h4 q
  · rw [if_neg (fun h => q (hx.mp h))]
    by_cases q2 : (a - a / b * b) = 0
    · refine ⟨_, by rw [if_pos q2], ?_⟩
      rw [i64_eq, ht, e0] at q2
      rw [ht]; rcases h5 (by omega) with h | h <;> omega
    · refine ⟨_, by rw [if_neg q2], ?_⟩
      rw [i64_eq, ht, e0] at q2
      rw [i64_add, ht, hb]
      · rcases h5 (by omega) with h | h <;> omega
      · rw [ht, hb]; omega
      · rw [ht, hb]; omega
/-- the model's: (v % m + m) % m -/
theorem mm64 {a b : Int64} {m : Int} (hb : b.toInt = m) (hm : 0 < m) (hm2 : m ≤ 1000) (ha1 : -10000000000 ≤ a.toInt) (ha2 : a.toInt ≤ 10000000000) : ((((a - a / b * b) + b) - ((a - a / b * b) + b) / b * b)).toInt = a.toInt % m := by
  obtain ⟨h1, h2, h3, h4, h5⟩ := tm_bd a.toInt hm
  have ht := ltm hb hm hm2 ha1 ha2
  have hs : ((a - a / b * b) + b).toInt = a.toInt.tmod m + m := by
    have := i64_add (a := a - a / b * b) (b := b) (by omega) (by omega)
    omega
  rw [ltm hb hm hm2 (by rw [hs]; omega) (by rw [hs]; omega), hs]
  have h6 := Int.emod_nonneg a.toInt (show m ≠ 0 by omega)
  have h7 := Int.emod_lt_of_pos a.toInt hm
  rw [(tm_bd (a.toInt.tmod m + m) hm).2.2.2.1 (by omega)]
  by_cases q : 0 ≤ a.toInt
  · rw [h4 q, Int.add_emod_right, Int.emod_emod_of_dvd _ (Int.dvd_refl m)]
  · rcases h5 (by omega) with h | h
    · rw [h.1, h.2, Int.zero_add, Int.emod_self]
    · rw [h.1, Int.sub_add_cancel, Int.emod_emod_of_dvd _ (Int.dvd_refl m)]
theorem sh64 : ∀ k : Fin 64, ((1 : Int64) <<< ((nI k.val).toInt64 &&& 63)).toBitVec = BitVec.twoPow 64 k.val := by decide +kernel
theorem bt_0 (w : Int64) {k : Nat} (hk : k < 64) : (w &&& ((1 : Int64) <<< ((nI k).toInt64 &&& 63))) = (0 : Int64) ↔ w.toBitVec.getLsbD k = false := by
  have h := sh64 ⟨k, hk⟩
  rw [← Int64.toBitVec_inj, Int64.toBitVec_and, h, BitVec.and_twoPow]
  by_cases q : w.toBitVec.getLsbD k
  · rw [if_pos q, q]
    refine ⟨fun h2 => ?_, fun h2 => absurd h2 (by decide)⟩
    have h3 := congrArg (fun x => x.getLsbD k) h2
    have h4 : (BitVec.twoPow 64 k).getLsbD k = true := by rw [BitVec.getLsbD_twoPow]; simp [hk]
    have h5 : (Int64.toBitVec 0).getLsbD k = false := by show (0#64).getLsbD k = false; exact BitVec.getLsbD_zero
    simp only [h4, h5] at h3
    exact absurd h3 (by decide)
  · rw [if_neg q]
    exact ⟨fun _ => by simpa using q, fun _ => rfl⟩
theorem bt_1 (w : Int64) {k j : Nat} (hk : k < 64) (hj : j < 64) : (w ||| ((1 : Int64) <<< ((nI k).toInt64 &&& 63))).toBitVec.getLsbD j = (w.toBitVec.getLsbD j || decide (j = k)) := by
  have h := sh64 ⟨k, hk⟩
  rw [Int64.toBitVec_or, h, BitVec.getLsbD_or, BitVec.getLsbD_twoPow]
  by_cases q : j = k
  · subst q; simp [hj]
  · have q2 : ¬ k = j := fun h => q h.symm
    simp [q, q2]
theorem sh32 : ∀ d : Fin 12, ((1 : Int32) <<< (nI d.val &&& 31)) = nI (2 ^ d.val) := by decide +kernel
theorem nI_or (a b : Nat) : nI a ||| nI b = nI (a ||| b) := by
  apply Int32.toBitVec_inj.mp
  rw [Int32.toBitVec_or]
  show BitVec.ofNat 32 a ||| BitVec.ofNat 32 b = BitVec.ofNat 32 (a ||| b)
  apply BitVec.eq_of_toNat_eq
  rw [BitVec.toNat_or, BitVec.toNat_ofNat, BitVec.toNat_ofNat, BitVec.toNat_ofNat, Nat.or_mod_two_pow]
theorem or_d (s : Nat) {d : Nat} (hd : d < 12) : nI s ||| ((1 : Int32) <<< (nI d &&& 31)) = nI (s ||| 2 ^ d) := by
  rw [sh32 ⟨d, hd⟩, nI_or]
