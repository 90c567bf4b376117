theorem nc_neg {first : Nat → Int64} (hb : BR first) {T : Int} (hT : T < 0) : NC (zq first) T = if T < zq first 0 then 0 else 1 := by
  have hz : ∀ i, i < 4 → bk (zq first) 4 T i = [] := fun i hi => by
    unfold bk
    rw [if_neg]
    intro c
    have := hb.ro.up hi (show 3 < 4 by omega)
    have := hb.g3
    omega
  have p1 := hb.pos 1 (by omega) (by omega)
  have p2 := hb.pos 2 (by omega) (by omega)
  have p3 := hb.pos 3 (by omega) (by omega)
  have hf : fr (zq first) 4 T 0 = [] := by
    show bk (zq first) 4 T 0 ++ (bk (zq first) 4 T 1 ++ (bk (zq first) 4 T 2 ++ bk (zq first) 4 T 3)) = []
    rw [hz 0 (by omega), hz 1 (by omega), hz 2 (by omega), hz 3 (by omega)]; rfl
  rw [NC, cir_eq hb.ro, hf, List.append_nil, List.filter_cons, List.filter_cons, List.filter_cons, List.filter_cons, if_neg (show ¬ decide (zq first 1 ≤ T) = true by simp; omega), if_neg (show ¬ decide (zq first 2 ≤ T) = true by simp; omega), if_neg (show ¬ decide (zq first 3 ≤ T) = true by simp; omega)]
  by_cases c : T < zq first 0
  · rw [if_neg (by simp; omega), if_pos c]; rfl
  · rw [if_pos (by simp; omega), if_neg c]; rfl
theorem cu_eq {n : Nat} (hn : FU ≤ n) {first : Nat → Int64} (hb : BR first) {cnt : Nat → Int32} {re : Int32} {lr : Nat → Int64} {ls : Int32} {rs : Nat → Int32} (hP : PK first cnt re lr ls rs) (depth : Int32) (row : Nat → Int32) (four : Nat → Int64) {p1 : Int32} (hp : p1.toInt ≤ 5000) : ∃ d w f re' cnt', pX3_countUpTo n first depth row four re cnt p1 = some (nI (NC (zq first) p1.toInt), d, w, f, re', cnt') ∧ PK first cnt' re' lr ls rs := by
  have e0 : (0 : Int32).toInt = 0 := rfl
  rw [pX3_countUpTo]
  by_cases c : 0 ≤ p1
  · have c' := c
    rw [i32_le, e0] at c'
    obtain ⟨re', cnt', d, w, f, h1, h2, h3⟩ := rch_eq hn hb hP depth row four (p1 := p1) ⟨c', hp⟩
    refine ⟨d, w, f, re', cnt', ?_, h3⟩
    have hre := h3.1
    have hc := (h3.2.1 (by omega)).2 p1.toInt.toNat (by omega)
    rw [show ((p1.toInt.toNat : Nat) : Int) = p1.toInt by omega] at hc
    have hlt := Int32.toInt_lt (cnt' p1.toInt.toNat)
    have hq : cnt' p1.toInt.toNat = nI (NC (zq first) p1.toInt) := by rw [i32_eq, nI_toInt (by omega)]; exact hc
    have hpn : p1 = nI p1.toInt.toNat := by rw [i32_eq, nI_toInt (by omega)]; omega
    have hat : pX6_atMost re' cnt' p1 = some (nI (NC (zq first) p1.toInt)) := by
      rw [pX6_atMost, if_neg (by rw [i32_lt, e0]; omega), if_neg (by rw [i32_lt]; omega), ck_t (by rw [hpn]; exact ix_nI (by omega) (by omega)), tnc, hq]
    rw [if_pos c, h1, Option.bind_some]
    dsimp only
    rw [hat, Option.bind_some]
  · rw [if_neg c]
    rw [i32_le, e0] at c
    have hnc := nc_neg hb (T := p1.toInt) (by omega)
    by_cases q : p1.toInt64 < first (0 : Int32).toNatClampNeg
    · refine ⟨depth, row, four, re, cnt, ?_, hP⟩
      rw [if_pos q]
      rw [i64_lt, i64_of32] at q
      rw [hnc, if_pos (show p1.toInt < zq first 0 from q)]
      rfl
    · refine ⟨depth, row, four, re, cnt, ?_, hP⟩
      rw [if_neg q]
      rw [i64_lt, i64_of32] at q
      rw [hnc, if_neg (show ¬ p1.toInt < zq first 0 from q)]
      rfl
theorem ask_cases (p : Int32) : (pX8_mayBeAsked p = some 0 ∧ pX9_within p (-100000) 5000 = some 0) ∨ (pX8_mayBeAsked p = some 1 ∧ pX9_within p (-100000) 5000 = some 1 ∧ -100000 ≤ p.toInt ∧ p.toInt ≤ 5000) := by
  unfold pX8_mayBeAsked pX9_within
  by_cases h1 : p < (-100000 : Int32)
  · left; simp only [if_pos h1]; exact ⟨trivial, trivial⟩
  · by_cases h2 : (5000 : Int32) < p
    · left; simp only [if_neg h1, if_pos h2]; exact ⟨trivial, trivial⟩
    · right
      simp only [if_neg h1, if_neg h2]
      refine ⟨trivial, trivial, ?_⟩
      rw [i32_lt] at h1 h2
      have e1 : (-100000 : Int32).toInt = -100000 := rfl
      have e4 : (5000 : Int32).toInt = 5000 := rfl
      omega
theorem just_eq {r : Nat → Int} (hr : RO r) (T : Int) : NC r (T - 1) + (cir r T).countP (fun v => v == T) = NC r T := by
  have h1 := cir_flt hr (show T - 1 ≤ T by omega)
  have h2 := cir_flt hr (show T ≤ T by omega)
  rw [List.filter_eq_self] at h2
  rw [NC, ← h1, NC, ← List.countP_eq_length_filter, List.length_eq_countP_add_countP (p := fun x => decide (x ≤ T - 1)) (l := cir r T)]
  congr 1
  apply List.countP_congr
  intro v hv
  have := h2 v hv
  simp only [decide_eq_true_eq] at this ⊢
  simp
  omega
