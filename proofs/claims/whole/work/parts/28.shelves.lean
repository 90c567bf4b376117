/-! shelves -/
theorem rn_eq (m : Nat) (f : Nat → Int32) (a b : Int32) : pX4_renew (m + 7) f a b = some (1, a, b, upd (upd (upd (upd (upd (upd f 0 0) 1 0) 2 0) 3 0) 4 0) 5 0) := rfl
def h6 (t : Nat) (h : Nat → Int64) : Nat → Int64 := vp_updL (vp_updL (vp_updL (vp_updL (vp_updL (vp_updL h (6 * t) (-9223372036854775808)) (6 * t + 1) (-9223372036854775808)) (6 * t + 2) (-9223372036854775808)) (6 * t + 3) (-9223372036854775808)) (6 * t + 4) (-9223372036854775808)) (6 * t + 5) (-9223372036854775808)
theorem sl_0 (m : Nat) (h : Nat → Int64) (k : Int32 → (Nat → Int64) → Option (Int32 × (Nat → Int32) × (Nat → Int32) × (Nat → Int64))) : pX9_shelf_L51 0 (m + 7) 0 h k = k 6 (h6 0 h) := rfl
theorem sl_1 (m : Nat) (h : Nat → Int64) (k : Int32 → (Nat → Int64) → Option (Int32 × (Nat → Int32) × (Nat → Int32) × (Nat → Int64))) : pX9_shelf_L51 1 (m + 7) 0 h k = k 6 (h6 1 h) := rfl
theorem sl_2 (m : Nat) (h : Nat → Int64) (k : Int32 → (Nat → Int64) → Option (Int32 × (Nat → Int32) × (Nat → Int32) × (Nat → Int64))) : pX9_shelf_L51 2 (m + 7) 0 h k = k 6 (h6 2 h) := rfl
theorem six_cases {P : Nat → Prop} {i : Nat} (hi : i < 6) (h0 : P 0) (h1 : P 1) (h2 : P 2) (h3 : P 3) (h4 : P 4) (h5 : P 5) : P i := by
  match i, hi with
  | 0, _ => exact h0
  | 1, _ => exact h1
  | 2, _ => exact h2
  | 3, _ => exact h3
  | 4, _ => exact h4
  | 5, _ => exact h5
theorem h6_in (t : Nat) (h : Nat → Int64) {i : Nat} (hi : i < 6) : h6 t h (6 * t + i) = -9223372036854775808 := by
  unfold h6
  match i, hi with
  | 0, _ => simp [updL_at]
  | 1, _ => simp [updL_at]
  | 2, _ => simp [updL_at]
  | 3, _ => simp [updL_at]
  | 4, _ => simp [updL_at]
  | 5, _ => simp [updL_at]
theorem h6_out (t : Nat) (h : Nat → Int64) {j : Nat} (hj : j < 6 * t ∨ 6 * t + 6 ≤ j) : h6 t h j = h j := by
  unfold h6
  simp only [updL_at]
  rw [if_neg (by omega), if_neg (by omega), if_neg (by omega), if_neg (by omega), if_neg (by omega), if_neg (by omega)]
theorem sh_frame {t : Nat} {th so sz : Int32} {be : Nat → Int64} {fi many sort many' sort' : Nat → Int32} {has has' : Nat → Int64} (h : SH t th so sz be fi many sort has) (h1 : many' t = many t) (h2 : sort' t = sort t) (h3 : ∀ i, i < 6 → has' (6 * t + i) = has (6 * t + i)) : SH t th so sz be fi many' sort' has' := by
  rcases h with ⟨a, b, c⟩ | ⟨a, b, c, d, e, f⟩
  · exact Or.inl ⟨a, h1.trans b, c⟩
  · refine Or.inr ⟨a, h1.trans b, h2.trans c, d, e, fun i hi => ?_⟩
    rw [h3 i hi]
    exact f i hi
theorem sh_new (t : Nat) {so sz : Int32} {be : Nat → Int64} (fi many sort : Nat → Int32) (has : Nat → Int64) (hs : 0 ≤ so.toInt ∧ so.toInt ≤ 3) (hz : 0 ≤ sz.toInt ∧ sz.toInt ≤ 6) : SH t 1 so sz be (upd (upd (upd (upd (upd (upd fi 0 0) 1 0) 2 0) 3 0) 4 0) 5 0) (upd many t sz) (upd sort t so) (h6 t has) := by
  refine Or.inr ⟨rfl, pk_us, pk_us, hs, hz, fun i hi => Or.inl ⟨?_, h6_in t has hi⟩⟩
  exact six_cases (P := fun i => upd (upd (upd (upd (upd (upd fi 0 0) 1 0) 2 0) 3 0) 4 0) 5 0 i = 0) hi rfl rfl rfl rfl rfl rfl
/-- a place of a shelf that is there -/
theorem fo_0 {t : Nat} (ht : t < 3) {many : Nat → Int32} (p2 : Int32) (h : many t = -9) : pX9_faultOf many (nI t) p2 = some (-11) := by
  rw [pX9_faultOf, ck_t (ix_nI ht (by omega)), nI_clamp (by omega), if_pos h]
theorem fo_1 {t : Nat} (ht : t < 3) {many : Nat → Int32} {sz : Int32} (p2 : Int32) (h : many t = sz) (hz : 0 ≤ sz.toInt ∧ sz.toInt ≤ 6) : (pX4_has sz p2 = some 0 ∧ pX9_faultOf many (nI t) p2 = some (-13)) ∨ (pX4_has sz p2 = some 1 ∧ pX9_faultOf many (nI t) p2 = some 0 ∧ ∃ i : Nat, i < 6 ∧ (i : Int) < sz.toInt ∧ p2 = nI i) := by
  have hne : ¬ many t = -9 := by
    rw [h, i32_eq]
    have : (-9 : Int32).toInt = -9 := rfl
    omega
  have e1 : (1 : Int32).toInt = 1 := rfl
  have es := i32_sub (a := sz) (b := 1) (by rw [e1]; omega) (by rw [e1]; omega)
  rw [e1] at es
  rw [pX9_faultOf, ck_t (ix_nI ht (by omega)), nI_clamp (by omega), if_neg hne, pX4_has, pX9_within, h]
  have e0 : (0 : Int32).toInt = 0 := rfl
  have e6 : (6 : Int32).toInt = 6 := rfl
  by_cases h1 : p2 < 0
  · left; rw [if_pos h1, if_pos h1, Option.bind_some, if_pos rfl]; exact ⟨rfl, rfl⟩
  · by_cases h2 : sz ≤ p2
    · have h3 : sz - 1 < p2 := by rw [i32_lt, es]; rw [i32_le] at h2; omega
      left; rw [if_neg h1, if_pos h2, if_neg h1, if_pos h3, Option.bind_some, if_pos rfl]; exact ⟨rfl, rfl⟩
    · have h3 : ¬ sz - 1 < p2 := by rw [i32_lt, es]; rw [i32_le] at h2; omega
      have h4 : ¬ (6 : Int32) ≤ p2 := by rw [i32_le, e6]; rw [i32_le] at h2; omega
      right
      rw [if_neg h1, if_neg h2, if_neg h4, if_neg h1, if_neg h3, Option.bind_some, if_neg (by decide)]
      rw [i32_lt, e0] at h1; rw [i32_le] at h2
      exact ⟨rfl, rfl, p2.toInt.toNat, by omega, by omega, by rw [i32_eq, nI_toInt (by omega)]; omega⟩
theorem tk (so : Int32) (hs : 0 ≤ so.toInt ∧ so.toInt ≤ 3) (b : Int64) : (pX4_takes so b = some 1 ∧ (so = 3 ∨ (¬ so = 3 ∧ pX9_sortOf b = some so))) ∨ (pX4_takes so b = some 0 ∧ ¬ so = 3 ∧ ∃ s, pX9_sortOf b = some s ∧ ¬ so = s) := by
  obtain ⟨j, hj, rfl⟩ : ∃ j : Nat, j < 4 ∧ so = nI j := ⟨so.toInt.toNat, by omega, by rw [i32_eq, nI_toInt (by omega)]; omega⟩
  unfold pX9_sortOf
  match j, hj with
  | 0, _ =>
    have e : pX4_takes (nI 0) b = if b ≤ (0 : Int64) then some 0 else some 1 := rfl
    rw [e]
    by_cases h : b ≤ (0 : Int64)
    · right; rw [if_pos h, if_pos h]
      by_cases h2 : (0 : Int64) ≤ b
      · rw [if_pos h2]; exact ⟨rfl, by decide, 2, rfl, by decide⟩
      · rw [if_neg h2]; exact ⟨rfl, by decide, 1, rfl, by decide⟩
    · left; rw [if_neg h, if_neg h]; exact ⟨rfl, Or.inr ⟨by decide, rfl⟩⟩
  | 1, _ =>
    have e : pX4_takes (nI 1) b = if (0 : Int64) ≤ b then some 0 else some 1 := by rw [pX4_takes, if_neg (by decide), if_pos (by decide)]
    rw [e]
    by_cases h2 : (0 : Int64) ≤ b
    · right; rw [if_pos h2, if_pos h2]
      by_cases h : b ≤ (0 : Int64)
      · rw [if_pos h]; exact ⟨rfl, by decide, 2, rfl, by decide⟩
      · rw [if_neg h]; exact ⟨rfl, by decide, 0, rfl, by decide⟩
    · left; rw [if_neg h2, if_neg h2, if_pos (by rw [i64_le] at h2 ⊢; omega)]; exact ⟨rfl, Or.inr ⟨by decide, rfl⟩⟩
  | 2, _ =>
    have e : pX4_takes (nI 2) b = if b = (0 : Int64) then some 1 else some 0 := by rw [pX4_takes, if_neg (by decide), if_neg (by decide), if_pos (by decide)]
    rw [e]
    by_cases h2 : b = (0 : Int64)
    · left; rw [if_pos h2, if_pos (by rw [i64_le, h2]; omega), if_pos (by rw [i64_le, h2]; omega)]; exact ⟨rfl, Or.inr ⟨by decide, rfl⟩⟩
    · right; rw [if_neg h2]
      by_cases h : b ≤ (0 : Int64)
      · rw [if_pos h, if_neg (by rw [i64_eq] at h2; rw [i64_le] at h ⊢; omega)]; exact ⟨rfl, by decide, 1, rfl, by decide⟩
      · rw [if_neg h]; exact ⟨rfl, by decide, 0, rfl, by decide⟩
  | 3, _ =>
    left
    exact ⟨by rw [pX4_takes, if_neg (by decide), if_neg (by decide), if_neg (by decide)], Or.inl rfl⟩
theorem ix18 {t i : Nat} (ht : t < 3) (hi : i < 6) : (6 : Int32) * nI t + nI i = nI (6 * t + i) := by
  rw [show (6 : Int32) = nI 6 from rfl, pk_mul, nI_add]
theorem lay_core {t : Nat} (ht : t < 3) {th so sz : Int32} {be : Nat → Int64} {fi many sort : Nat → Int32} {has b : Nat → Int64} (h : SH t th so sz be fi many sort has) {x : Int64} (hx : x ≠ -9223372036854775808) (p2 : Int32) {q : Int32} {i : Nat} (hi : i < 4) (hq : q = nI i) (hb : b i = x) : ∃ r be' fi' has', pX4_take th so sz be fi p2 x = some (r, be', fi') ∧
    Option.bind (pX9_faultOf many (nI t) p2) (fun r5 => if r5 = 0 then ck (ix (nI t) 3) (if (sort (nI t).toNatClampNeg) = (3 : Int32) then ck (ix q 4) (ck (ix (((6 : Int32) * nI t) + p2) 18) (some ((1 : Int32), vp_updL has (((6 : Int32) * nI t) + p2).toNatClampNeg (b q.toNatClampNeg)))) else ck (ix q 4) (Option.bind (pX9_sortOf (b q.toNatClampNeg)) (fun r12 => if (sort (nI t).toNatClampNeg) = r12 then ck (ix (((6 : Int32) * nI t) + p2) 18) (some ((1 : Int32), vp_updL has (((6 : Int32) * nI t) + p2).toNatClampNeg (b q.toNatClampNeg))) else some ((-15 : Int32), has)))) else Option.bind (pX9_faultOf many (nI t) p2) (fun r15 => some (r15, has))) = some (r, has') ∧ SH t th so sz be' fi' many sort has' ∧ ∀ j, j < 6 * t ∨ 6 * t + 6 ≤ j → has' j = has j := by
  subst hq
  rw [nI_clamp (show i < 2 ^ 31 by omega), nI_clamp (show t < 2 ^ 31 by omega), hb]
  rcases h with ⟨a, c, d⟩ | ⟨a, c, d, e, f, g⟩
  · refine ⟨-11, be, fi, has, by rw [pX4_take, if_pos a], ?_, Or.inl ⟨a, c, d⟩, fun _ _ => rfl⟩
    rw [fo_0 ht p2 c, Option.bind_some, if_neg (by decide), Option.bind_some]
  · have hS : SH t th so sz be fi many sort has := Or.inr ⟨a, c, d, e, f, g⟩
    have a1 : ¬ th = 0 := by rw [a]; decide
    rcases fo_1 ht p2 c f with ⟨h1, h2⟩ | ⟨h1, h2, j, hj, hjz, rfl⟩
    · refine ⟨-13, be, fi, has, by rw [pX4_take, if_neg a1, h1, Option.bind_some, if_pos rfl], ?_, hS, fun _ _ => rfl⟩
      rw [h2, Option.bind_some, if_neg (by decide), Option.bind_some]
    · rw [h2, Option.bind_some, if_pos rfl, ck_t (ix_nI ht (by omega)), ck_t (ix_nI hi (by omega)), ck_t (ix_nI hi (by omega)), ix18 ht hj, ck_t (ix_nI (show 6 * t + j < 18 by omega) (by omega)), nI_clamp (show 6 * t + j < 2 ^ 31 by omega), d]
      have hnew : SH t th so sz (vp_updL be j x) (upd fi j 1) many sort (vp_updL has (6 * t + j) x) := by
        refine Or.inr ⟨a, c, d, e, f, fun i' hi' => ?_⟩
        by_cases q : i' = j
        · subst q
          refine Or.inr ⟨pk_us, ?_, ?_, hjz⟩
          · rw [updL_at, if_pos rfl, updL_at, if_pos rfl]
          · rw [updL_at, if_pos rfl]; exact hx
        · rw [updL_at, if_neg (by omega), updL_at, if_neg q, pk_un q]
          exact g i' hi'
      have hout : ∀ j', j' < 6 * t ∨ 6 * t + 6 ≤ j' → vp_updL has (6 * t + j) x j' = has j' := fun j' hj' => by rw [updL_at, if_neg (by omega)]
      rcases tk so e x with ⟨t1, t2⟩ | ⟨t1, t2, s', t3, t4⟩
      · refine ⟨1, vp_updL be j x, upd fi j 1, vp_updL has (6 * t + j) x, by rw [pX4_take, if_neg a1, h1, Option.bind_some, if_neg (by decide), t1, Option.bind_some, if_neg (by decide), ck_t (ix_nI hj (by omega)), nI_clamp (by omega)], ?_, hnew, hout⟩
        rcases t2 with t2 | ⟨t2, t3⟩
        · rw [if_pos t2]
        · rw [if_neg t2, t3, Option.bind_some, if_pos rfl]
      · refine ⟨-15, be, fi, has, by rw [pX4_take, if_neg a1, h1, Option.bind_some, if_neg (by decide), t1, Option.bind_some, if_pos rfl], ?_, hS, fun _ _ => rfl⟩
        rw [if_neg t2, t3, Option.bind_some, if_neg t4]
theorem seen_core {t : Nat} (ht : t < 3) {th so sz : Int32} {be : Nat → Int64} {fi many sort : Nat → Int32} {has : Nat → Int64} (h : SH t th so sz be fi many sort has) (p2 : Int32) : ∃ r, pX4_look th sz be fi p2 = some r ∧ Option.bind (pX9_faultOf many (nI t) p2) (fun r3 => if r3 = 0 then ck (ix (((6 : Int32) * nI t) + p2) 18) (some (has (((6 : Int32) * nI t) + p2).toNatClampNeg)) else some (-9223372036854775808 : Int64)) = some r := by
  rcases h with ⟨a, c, d⟩ | ⟨a, c, d, e, f, g⟩
  · refine ⟨-9223372036854775808, by rw [pX4_look, if_pos a], ?_⟩
    rw [fo_0 ht p2 c, Option.bind_some, if_neg (by decide)]
  · have a1 : ¬ th = 0 := by rw [a]; decide
    rcases fo_1 ht p2 c f with ⟨h1, h2⟩ | ⟨h1, h2, j, hj, hjz, rfl⟩
    · refine ⟨-9223372036854775808, by rw [pX4_look, if_neg a1, h1, Option.bind_some, if_pos rfl], ?_⟩
      rw [h2, Option.bind_some, if_neg (by decide)]
    · rw [h2, Option.bind_some, if_pos rfl, ix18 ht hj, ck_t (ix_nI (show 6 * t + j < 18 by omega) (by omega)), nI_clamp (show 6 * t + j < 2 ^ 31 by omega)]
      refine ⟨_, ?_, rfl⟩
      rw [pX4_look, if_neg a1, h1, Option.bind_some, if_neg (by decide), ck_t (ix_nI hj (by omega)), nI_clamp (by omega)]
      rcases g j hj with ⟨q1, q2⟩ | ⟨q1, q2, -, -⟩
      · rw [if_pos q1, q2]
      · rw [if_neg (by rw [q1]; decide), q2]
