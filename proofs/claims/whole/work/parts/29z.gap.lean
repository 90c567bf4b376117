theorem gp_eq {P : Nat} (hP : P ≤ 5000) {re : Int32} {cnt hb : Nat → Int32} {g : Nat → Nat} (hx : ∀ m, m ≤ P → pX6_atMost re cnt (nI m) = some (nI (g m))) (hgb : ∀ m, m ≤ P → g m < 2 ^ 31) (hg : ∀ m, 1 ≤ m → m ≤ P → (g m = g (m - 1) ↔ hb m = 0)) (x2 x3 : Int32) (wd : Int32) (wr : Nat → Int32) (wf : Nat → Int64) (os : Int32) (om : Nat → Int64) (oq of rs : Nat → Int32) (sa jm : Int32) (ra pile : Nat → Int64) (la ne im qu : Nat → Int32) (k : Nat) (kx : Int32 → Int32 → Option (Int32 × Int32 × (Nat → Int32) × (Nat → Int64) × Int32 × (Nat → Int32) × Int32 × (Nat → Int64) × (Nat → Int32) × (Nat → Int32) × (Nat → Int32))) (km : Int32 → Int32 → Option (Int32 × Int32 × Int32 × (Nat → Int64) × (Nat → Int64) × (Nat → Int32) × (Nat → Int32) × (Nat → Int32) × (Nat → Int32) × (Nat → Int32))) : ∀ (d i : Nat) (x4 : Int32), i + d = P + 1 → 1 ≤ i →
    (∃ v, pX3_gapUpTo_L29 (nI P) x2 x3 wd wr wf re cnt os om oq of rs (k + d + 1) x4 (nI i) kx = some (v, wd, wr, wf, re, cnt, os, om, oq, of, rs) ∧ pX9_gap_L57 (nI P) x2 x3 sa jm ra pile la ne hb im qu (k + d + 1) x4 (nI i) km = some (v, sa, jm, ra, pile, la, ne, hb, im, qu)) ∨ (∃ y4 y5, pX3_gapUpTo_L29 (nI P) x2 x3 wd wr wf re cnt os om oq of rs (k + d + 1) x4 (nI i) kx = kx y4 y5 ∧ pX9_gap_L57 (nI P) x2 x3 sa jm ra pile la ne hb im qu (k + d + 1) x4 (nI i) km = km y4 y5) := by
  intro d
  induction d with
  | zero =>
    intro i x4 h hi
    have hlt : nI P < nI i := by rw [nI_ltI (by omega) (by omega)]; omega
    refine Or.inr ⟨x4, nI i, ?_, ?_⟩
    · rw [pX3_gapUpTo_L29, if_pos hlt]
    · rw [pX9_gap_L57, if_pos hlt]
  | succ d ih =>
    intro i x4 h hi
    have hlt : ¬ nI P < nI i := by rw [nI_ltI (by omega) (by omega)]; omega
    have h1 := hx i (by omega)
    have h2 := hx (i - 1) (by omega)
    have h3 := hg i hi (by omega)
    have b1 := hgb i (by omega)
    have b2 := hgb (i - 1) (by omega)
    rw [show k + (d + 1) + 1 = k + d + 1 + 1 by omega, pX3_gapUpTo_L29, pX9_gap_L57, if_neg hlt, if_neg hlt, ck_t (ix_nI (show i < 5001 by omega) (by omega)), nI_clamp (show i < 2 ^ 31 by omega), show nI i - 1 = nI (i - 1) from pk_sub (a := i) (b := 1) hi, h1, h2, show nI i + 1 = nI (i + 1) from nI_add i 1]
    by_cases cb : ((x3 >>> ((nI i - nI i / (12 : Int32) * (12 : Int32)) &&& 31)) &&& (1 : Int32)) = (1 : Int32)
    · rw [if_pos cb, if_pos cb, Option.bind_some, Option.bind_some]
      by_cases ch : hb i = 0
      · rw [if_pos ch, if_pos (show nI (g i) = nI (g (i - 1)) by rw [h3.mpr ch])]
        by_cases ce : x4 = x2
        · rw [if_pos ce, if_pos ce]
          exact Or.inl ⟨nI i, rfl, rfl⟩
        · rw [if_neg ce, if_neg ce]
          exact ih (i + 1) (x4 + 1) (by omega) (by omega)
      · rw [if_neg ch, if_neg (show ¬ nI (g i) = nI (g (i - 1)) by rw [nI_eq b1 b2]; exact fun e => ch (h3.mp e))]
        exact ih (i + 1) x4 (by omega) (by omega)
    · rw [if_neg cb, if_neg cb]
      by_cases ch : hb i = 0
      · rw [if_pos ch]
        exact ih (i + 1) x4 (by omega) (by omega)
      · rw [if_neg ch]
        exact ih (i + 1) x4 (by omega) (by omega)
theorem at_most {first : Nat → Int64} {cnt : Nat → Int32} {re : Int32} {lr : Nat → Int64} {ls : Int32} {rs : Nat → Int32} (hP : PK first cnt re lr ls rs) {m : Nat} (hm : (m : Int) ≤ re.toInt) : pX6_atMost re cnt (nI m) = some (nI (NC (zq first) m)) ∧ NC (zq first) m < 2 ^ 31 := by
  have e0 : (0 : Int32).toInt = 0 := rfl
  have hre := hP.1
  have hc := (hP.2.1 (by omega)).2 m hm
  have hlt := Int32.toInt_lt (cnt m)
  refine ⟨?_, by omega⟩
  rw [pX6_atMost, if_neg (by rw [i32_lt, e0, nI_toInt (by omega)]; omega), if_neg (by rw [i32_lt, nI_toInt (by omega)]; omega), ck_t (ix_nI (by omega) (by omega)), nI_clamp (by omega)]
  rw [show cnt m = nI (NC (zq first) m) by rw [i32_eq, nI_toInt (by omega)]; exact hc]
theorem hb_iff {r : Nat → Int} (hr : RO r) {P m : Nat} (hm : m ≤ P) (h1 : 1 ≤ m) : NC r m = NC r ((m - 1 : Nat) : Int) ↔ ¬ (m : Int) ∈ cir r P := by
  have hj := just_eq hr (m : Int)
  rw [show ((m - 1 : Nat) : Int) = (m : Int) - 1 by omega]
  have hf := cir_flt hr (show (m : Int) ≤ (P : Int) by omega)
  have hmem : (m : Int) ∈ cir r m ↔ (m : Int) ∈ cir r P := by
    rw [← hf, List.mem_filter]
    simp
  rw [← hmem]
  constructor
  · intro h hin
    have h0 : (cir r m).countP (fun v => v == (m : Int)) = 0 := by omega
    rw [List.countP_eq_zero] at h0
    exact h0 _ hin (by simp)
  · intro h
    have h0 : (cir r m).countP (fun v => v == (m : Int)) = 0 := by
      rw [List.countP_eq_zero]
      intro v hv e
      simp only [beq_iff_eq] at e
      rw [e] at hv
      exact h hv
    omega
