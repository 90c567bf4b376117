/-! the quadruple in the machine's numbers -/
def SI (f : Nat → Int64) : Int := (f 0).toInt + (f 1).toInt + (f 2).toInt + (f 3).toInt
def Bd (B : Int) (f : Nat → Int64) : Prop := (-B ≤ (f 0).toInt ∧ (f 0).toInt ≤ B) ∧ (-B ≤ (f 1).toInt ∧ (f 1).toInt ≤ B) ∧ (-B ≤ (f 2).toInt ∧ (f 2).toInt ≤ B) ∧ (-B ≤ (f 3).toInt ∧ (f 3).toInt ≤ B)
def GB (f : Nat → Int64) : Prop := GQ (f 0).toInt (f 1).toInt (f 2).toInt (f 3).toInt ∧ Bd 1000000000 f
theorem four_cases {P : Nat → Prop} {i : Nat} (hi : i < 4) (h0 : P 0) (h1 : P 1) (h2 : P 2) (h3 : P 3) : P i := by
  match i, hi with
  | 0, _ => exact h0
  | 1, _ => exact h1
  | 2, _ => exact h2
  | 3, _ => exact h3
theorem i64_dbl {a : Int64} (h1 : -9223372036854775808 ≤ 2 * a.toInt) (h2 : 2 * a.toInt < 9223372036854775808) : (2 * a).toInt = 2 * a.toInt := by
  have t2 : (2 : Int64).toInt = 2 := rfl
  have := i64_mul (a := 2) (b := a) (by rw [t2]; exact h1) (by rw [t2]; exact h2)
  rw [t2] at this
  exact this
theorem gq_t0 {a b c d : Int} (h : GQ a b c d) : GQ (2 * (b + c + d) - a) b c d := gq_12 (gq_23 (gq_34 (gq_turn (gq_34 (gq_23 (gq_12 h))))))
theorem gq_t1 {a b c d : Int} (h : GQ a b c d) : GQ a (2 * (a + c + d) - b) c d := gq_23 (gq_34 (gq_turn (gq_34 (gq_23 h))))
theorem gq_t2 {a b c d : Int} (h : GQ a b c d) : GQ a b (2 * (a + b + d) - c) d := gq_34 (gq_turn (gq_34 h))
theorem tv_int {f : Nat → Int64} (h : Bd 100000000000000000 f) {i : Nat} (hi : i < 4) : (tv f i).toInt = 2 * (SI f - (f i).toInt) - (f i).toInt := by
  obtain ⟨h0, h1, h2, h3⟩ := h
  have hfi : -100000000000000000 ≤ (f i).toInt ∧ (f i).toInt ≤ 100000000000000000 := four_cases (P := fun i => -100000000000000000 ≤ (f i).toInt ∧ (f i).toInt ≤ 100000000000000000) hi h0 h1 h2 h3
  unfold tv SI
  have e1 := i64_add (a := f 0) (b := f 1) (by omega) (by omega)
  have e2 := i64_add (a := f 0 + f 1) (b := f 2) (by omega) (by omega)
  have e3 := i64_add (a := f 0 + f 1 + f 2) (b := f 3) (by omega) (by omega)
  have e4 := i64_sub (a := f 0 + f 1 + f 2 + f 3) (b := f i) (by omega) (by omega)
  have e5 := i64_dbl (a := f 0 + f 1 + f 2 + f 3 - f i) (by omega) (by omega)
  have e6 := i64_sub (a := 2 * (f 0 + f 1 + f 2 + f 3 - f i)) (b := f i) (by omega) (by omega)
  omega
theorem Bd.mono {A B : Int} {f : Nat → Int64} (h : Bd A f) (hAB : A ≤ B) : Bd B f := by
  obtain ⟨h0, h1, h2, h3⟩ := h
  refine ⟨?_, ?_, ?_, ?_⟩ <;> omega
theorem Bd.at {B : Int} {f : Nat → Int64} (h : Bd B f) {i : Nat} (hi : i < 4) : -B ≤ (f i).toInt ∧ (f i).toInt ≤ B := four_cases (P := fun i => -B ≤ (f i).toInt ∧ (f i).toInt ≤ B) hi h.1 h.2.1 h.2.2.1 h.2.2.2
theorem gN_max (f : Nat → Int64) {j : Nat} (hj : j < 4) : (f j).toInt ≤ (f (gN f)).toInt := by
  unfold gN
  by_cases h1 : f 1 ≤ f 0 <;> by_cases h2 : f 2 ≤ f 0 <;> by_cases h3 : f 3 ≤ f 0 <;> by_cases h4 : f 3 ≤ f 2 <;> by_cases h5 : f 2 ≤ f 1 <;> by_cases h6 : f 3 ≤ f 1 <;> simp only [h1, h2, h3, h4, h5, h6, if_true, if_false] <;> rw [i64_le] at h1 h2 h3 h4 h5 h6 <;> refine four_cases (P := fun j => (f j).toInt ≤ _) hj ?_ ?_ ?_ ?_ <;> omega
/-- turned at i: f's place i put over -/
def tn (f : Nat → Int64) (i : Nat) : Nat → Int64 := vp_updL f i (tv f i)
theorem tn_good {f : Nat → Int64} (h : GB f) {i : Nat} (hi : i < 4) : GQ (tn f i 0).toInt (tn f i 1).toInt (tn f i 2).toInt (tn f i 3).toInt := by
  have hb := h.2.mono (B := 100000000000000000) (by omega)
  have g := h.1
  match i, hi with
  | 0, hi =>
    have e : (tn f 0 0).toInt = 2 * ((f 1).toInt + (f 2).toInt + (f 3).toInt) - (f 0).toInt := by
      show (tv f 0).toInt = _
      rw [tv_int hb (by omega), SI]; omega
    rw [e]
    exact gq_t0 g
  | 1, hi =>
    have e : (tn f 1 1).toInt = 2 * ((f 0).toInt + (f 2).toInt + (f 3).toInt) - (f 1).toInt := by
      show (tv f 1).toInt = _
      rw [tv_int hb (by omega), SI]; omega
    rw [e]
    exact gq_t1 g
  | 2, hi =>
    have e : (tn f 2 2).toInt = 2 * ((f 0).toInt + (f 1).toInt + (f 3).toInt) - (f 2).toInt := by
      show (tv f 2).toInt = _
      rw [tv_int hb (by omega), SI]; omega
    rw [e]
    exact gq_t2 g
  | 3, hi =>
    have e : (tn f 3 3).toInt = 2 * ((f 0).toInt + (f 1).toInt + (f 2).toInt) - (f 3).toInt := by
      show (tv f 3).toInt = _
      rw [tv_int hb (by omega), SI]; omega
    rw [e]
    exact gq_turn g
theorem tn_at (f : Nat → Int64) (i j : Nat) : tn f i j = if j = i then tv f i else f j := rfl
theorem tn_b {f : Nat → Int64} (h : GB f) {i : Nat} (hi : i < 4) (ht : -1000000000 ≤ (tv f i).toInt ∧ (tv f i).toInt ≤ 1000000000) : GB (tn f i) := by
  refine ⟨tn_good h hi, ?_⟩
  obtain ⟨h0, h1, h2, h3⟩ := h.2
  match i, hi with
  | 0, _ => exact ⟨ht, h1, h2, h3⟩
  | 1, _ => exact ⟨h0, ht, h2, h3⟩
  | 2, _ => exact ⟨h0, h1, ht, h3⟩
  | 3, _ => exact ⟨h0, h1, h2, ht⟩
/-- a step keeps it good, and makes the sum less -/
theorem nx_good {f : Nat → Int64} (h : GB f) (hs : tv f (gN f) < f (gN f)) : GB (nx f) ∧ SI (nx f) = 3 * SI f - 4 * (f (gN f)).toInt ∧ SI (nx f) + 4 ≤ SI f := by
  have hb := h.2.mono (B := 100000000000000000) (by omega)
  have hp := gN_lt f
  have hm := fun j (hj : j < 4) => gN_max f hj
  have m0 := hm 0 (by omega); have m1 := hm 1 (by omega); have m2 := hm 2 (by omega); have m3 := hm 3 (by omega)
  have hg := tn_good h hp
  have hte := tv_int hb hp
  have hev := gq_even h.1
  rw [i64_lt] at hs
  have hn : nx f = tn f (gN f) := rfl
  rw [hn]
  obtain ⟨h0, h1, h2, h3⟩ := h.2
  have hs1 := gq_sum hg
  have hs2 := gq_sum (gq_23 hg)
  have hev2 : SI f % 2 = 0 := hev
  unfold SI at hte hev2 ⊢
  generalize hpe : gN f = p at *
  match p, hp with
  | 0, _ =>
    simp +decide only [tn_at, reduceIte] at hs1 hs2 ⊢
    exact ⟨tn_b h (by omega) (by omega), by omega, by omega⟩
  | 1, _ =>
    simp only [tn_at, if_pos, reduceIte, Nat.reduceEqDiff, Nat.zero_ne_one] at hs1 hs2 ⊢
    exact ⟨tn_b h (by omega) (by omega), by omega, by omega⟩
  | 2, _ =>
    simp only [tn_at, if_pos, reduceIte, Nat.reduceEqDiff] at hs1 hs2 ⊢
    exact ⟨tn_b h (by omega) (by omega), by omega, by omega⟩
  | 3, _ =>
    simp only [tn_at, if_pos, reduceIte, Nat.reduceEqDiff] at hs1 hs2 ⊢
    exact ⟨tn_b h (by omega) (by omega), by omega, by omega⟩
theorem dn_ex : ∀ (N : Nat) {f : Nat → Int64}, GB f → SI f ≤ N → ∃ k g, Dn k f g ∧ GB g := by
  intro N
  induction N using Nat.strongRecOn with
  | _ N ih =>
    intro f h hN
    by_cases hs : tv f (gN f) < f (gN f)
    · obtain ⟨h1, -, h3⟩ := nx_good h hs
      have hp : 0 < SI (nx f) := h1.1.2
      obtain ⟨k, g, h4, h5⟩ := ih (SI (nx f)).toNat (by omega) h1 (by omega)
      exact ⟨k + 1, g, ⟨hs, h4⟩, h5⟩
    · exact ⟨0, f, ⟨rfl, hs⟩, h⟩
/-- at a root every place stays or grows when it is turned -/
theorem root_e {g : Nat → Int64} (h : GB g) (hs : ¬ tv g (gN g) < g (gN g)) {j : Nat} (hj : j < 4) : 0 ≤ SI g - 2 * (g j).toInt := by
  have hb := h.2.mono (B := 100000000000000000) (by omega)
  have := tv_int hb (gN_lt g)
  have := gN_max g hj
  rw [i64_lt] at hs
  omega
theorem nx_e {f : Nat → Int64} (h : GB f) (hs : tv f (gN f) < f (gN f)) {j : Nat} (hj : j < 4) : SI (nx f) - 2 * (nx f j).toInt = if j = gN f then 2 * (f (gN f)).toInt - SI f else (SI f - 2 * (f j).toInt) - 2 * (2 * (f (gN f)).toInt - SI f) := by
  have hb := h.2.mono (B := 100000000000000000) (by omega)
  have h2 := (nx_good h hs).2.1
  have ht := tv_int hb (gN_lt f)
  have e : nx f j = if j = gN f then tv f (gN f) else f j := rfl
  rw [h2, e]
  split
  · rename_i q; omega
  · omega
theorem dn_steps : ∀ {k : Nat} {f g : Nat → Int64}, GB f → Dn (k + 1) f g → 2 * ((k : Int) + 1) ≤ 2 * (f (gN f)).toInt - SI f ∧ (∀ i, i < 4 → i ≠ gN f → 2 * (f (gN f)).toInt - SI f + 2 ≤ SI f - 2 * (f i).toInt) ∧ 2 * (((k * k + 3 * k + 2 : Nat)) : Int) ≤ SI f := by
  intro k
  induction k with
  | zero =>
    intro f g h hd
    obtain ⟨h1, h2, h3⟩ := nx_good h hd.1
    have hr := fun j (hj : j < 4) => root_e h1 hd.2.2 hj
    have he := fun j (hj : j < 4) => nx_e h hd.1 hj
    have hp := gN_lt f
    have e1 := hr _ hp; rw [he _ hp, if_pos rfl] at e1
    have hev : SI f % 2 = 0 := gq_even h.1
    have hpos : 0 < SI (nx f) := h1.1.2
    refine ⟨by omega, fun i hi hne => ?_, by omega⟩
    have e2 := hr i hi; rw [he i hi, if_neg hne] at e2
    omega
  | succ k ih =>
    intro f g h hd
    obtain ⟨h1, h2, h3⟩ := nx_good h hd.1
    obtain ⟨i1, i2, i3⟩ := ih h1 hd.2
    have he := fun j (hj : j < 4) => nx_e h hd.1 hj
    have hp := gN_lt f
    have hp1 := gN_lt (nx f)
    have hev : SI f % 2 = 0 := gq_even h.1
    have ep := he _ hp; rw [if_pos rfl] at ep
    have hne : gN f ≠ gN (nx f) := by
      intro q
      rw [← q] at i1
      omega
    have e2 := i2 _ hp hne
    have ek : (k + 1) * (k + 1) + 3 * (k + 1) + 2 = k * k + 3 * k + 2 + 2 * (k + 2) := by grind
    rw [ek]
    refine ⟨by omega, fun i hi hni => ?_, by omega⟩
    have ei := he i hi; rw [if_neg hni] at ei
    by_cases q : i = gN (nx f)
    · subst q; omega
    · have := i2 i hi q; omega
theorem dn_few {k : Nat} {f g : Nat → Int64} (h : GB f) (hd : Dn k f g) : k < 45000 := by
  cases k with
  | zero => omega
  | succ k =>
    obtain ⟨-, -, h3⟩ := dn_steps h hd
    obtain ⟨b0, b1, b2, b3⟩ := h.2
    have hS : SI f ≤ 4000000000 := by unfold SI; omega
    rcases Nat.lt_or_ge k 44999 with q | q
    · omega
    · have h4 : 44999 * 44999 ≤ k * k := Nat.mul_le_mul q q
      omega
