theorem rm_c {f g : Nat → Int64} (h : eq4 f g) (m : Nat) : RM (zq f) m = RM (zq g) m := by
  have e : rcode (zq f) m = rcode (zq g) m := by
    unfold rcode zq
    rw [h.1, h.2.1, h.2.2.1, h.2.2.2]
  unfold RM
  rw [e]
theorem rb_eq {n : Nat} (hn : FU ≤ n) {first : Nat → Int64} (hg : GB first) {m : Nat} (h2 : 2 ≤ m) (h12 : m ≤ 12) {cnt : Nat → Int32} {re : Int32} {lr : Nat → Int64} {ls : Int32} {rs : Nat → Int32} (hP : PK first cnt re lr ls rs) (sz : Int32) (met : Nat → Int64) (queue four : Nat → Int32) : ∃ R, pX3_remaindersBy n first sz met queue four rs (nI m) = some R ∧ R.1 = RM (zq first) m ∧ PK first cnt re lr ls R.2.2.2.2.2 := by
  rw [pX3_remaindersBy, ck_t (ix_nI (show m < 13 by omega) (by omega)), nI_clamp (by omega)]
  by_cases q : rs m = 0
  · obtain ⟨R, e1, e2⟩ := rx_eq hn hg h2 h12 met queue four
    rw [if_pos q, e1, Option.bind_some]
    refine ⟨_, rfl, ?_, ?_⟩
    · show upd rs m R.1 m = _
      rw [pk_us, e2]
    · obtain ⟨p1, p2, p3, p4, p5⟩ := hP
      refine ⟨p1, p2, p3, p4, fun m' a b => ?_⟩
      show upd rs m R.1 m' = 0 ∨ upd rs m R.1 m' = RM (zq first) m'
      by_cases e : m' = m
      · rw [e, pk_us]; exact Or.inr e2
      · rw [pk_un e]; exact p5 m' a b
  · rw [if_neg q]
    refine ⟨_, rfl, ?_, hP⟩
    rcases hP.2.2.2.2 m h2 h12 with h | h
    · exact absurd h q
    · exact h
theorem m12 (p : Int32) : (p < 2 ∧ pX9_within p 2 12 = some 0) ∨ (¬ p < 2 ∧ ¬ p ≤ 12 ∧ pX9_within p 2 12 = some 0) ∨ (¬ p < 2 ∧ p ≤ 12 ∧ pX9_within p 2 12 = some 1 ∧ ∃ m : Nat, 2 ≤ m ∧ m ≤ 12 ∧ p = nI m) := by
  unfold pX9_within
  have e2 : (2 : Int32).toInt = 2 := rfl
  have e12 : (12 : Int32).toInt = 12 := rfl
  by_cases h1 : p < 2
  · exact Or.inl ⟨h1, by rw [if_pos h1]⟩
  · by_cases h3 : p ≤ 12
    · have h4 : ¬ (12 : Int32) < p := by rw [i32_lt]; rw [i32_le] at h3; omega
      refine Or.inr (Or.inr ⟨h1, h3, by rw [if_neg h1, if_neg h4], p.toInt.toNat, ?_, ?_, ?_⟩)
      · rw [i32_lt] at h1; omega
      · rw [i32_le] at h3; omega
      · rw [i32_lt] at h1; rw [i32_le] at h3; rw [i32_eq, nI_toInt (by omega)]; omega
    · have h4 : (12 : Int32) < p := by rw [i32_lt]; rw [i32_le] at h3; omega
      exact Or.inr (Or.inl ⟨h1, h3, by rw [if_neg h1, if_pos h4]⟩)
