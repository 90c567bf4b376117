/-! many -/
def sm (w : Nat → Int32) : Nat → Nat → Int32 → Int32
  | _, 0, c => c
  | i, d + 1, c => sm w (i + 1) d (c + w i)
theorem sm_add (w : Nat → Int32) : ∀ (d i : Nat) (c : Int32), sm w i d c = c + sm w i d 0 := by
  intro d
  induction d with
  | zero => intro i c; exact (Int32.add_zero c).symm
  | succ d ih =>
    intro i c
    rw [sm, sm, ih (i + 1) (c + w i), ih (i + 1) (0 + w i), Int32.zero_add, Int32.add_assoc]
theorem sm_z (w : Nat → Int32) : ∀ (d i : Nat) (c : Int32), (∀ j, i ≤ j → j < i + d → w j = 0) → sm w i d c = c := by
  intro d
  induction d with
  | zero => intro i c _; rfl
  | succ d ih =>
    intro i c h
    rw [sm, h i (by omega) (by omega), Int32.add_zero]
    exact ih (i + 1) c (fun j h1 h2 => h j (by omega) (by omega))
theorem sm_part (w v : Nat → Int32) : ∀ (d e i : Nat) (c : Int32), (∀ j, i ≤ j → j < i + d → w j = v j) → (∀ j, i + d ≤ j → j < i + d + e → w j = 0) → sm w i (d + e) c = sm v i d c := by
  intro d
  induction d with
  | zero =>
    intro e i c _ h2
    rw [Nat.zero_add]
    exact sm_z w e i c (fun j h3 h4 => h2 j (by omega) (by omega))
  | succ d ih =>
    intro e i c h1 h2
    rw [show d + 1 + e = (d + e) + 1 by omega, sm, sm, h1 i (by omega) (by omega)]
    exact ih e (i + 1) _ (fun j h3 h4 => h1 j (by omega) (by omega)) (fun j h3 h4 => h2 j (by omega) (by omega))
def wF (f : Nat → Int32) (i : Nat) : Int32 := if f i = 0 then 0 else 1
def wH (has : Nat → Int64) (t i : Nat) : Int32 := if has (6 * t + i) = -9223372036854775808 then 0 else 1
theorem cf_eq (f : Nat → Int32) (m : Nat) (k : Int32 → Int32 → Option Int32) : ∀ (d i : Nat) (c : Int32), i + d = 6 → pX4_countFilled_L4 f (m + d + 1) c (nI i) k = k (sm (wF f) i d c) 6 := by
  intro d
  induction d with
  | zero =>
    intro i c h
    obtain rfl : i = 6 := by omega
    rw [pX4_countFilled_L4, if_pos (by decide)]
    rfl
  | succ d ih =>
    intro i c h
    rw [pX4_countFilled_L4, if_neg (by rw [show (6 : Int32) = nI 6 from rfl, nI_leI (by omega) (by omega)]; omega), ck_t (ix_nI (show i < 6 by omega) (by omega)), nI_clamp (by omega), show nI i + 1 = nI (i + 1) from nI_add i 1, show m + (d + 1) = m + d + 1 by omega, sm, wF]
    by_cases q : f i = 0
    · rw [if_pos q, if_pos q, Int32.add_zero]; exact ih (i + 1) c (by omega)
    · rw [if_neg q, if_neg q]; exact ih (i + 1) (c + 1) (by omega)
theorem ml_eq {t : Nat} (ht : t < 3) (many : Nat → Int32) (has : Nat → Int64) {s : Nat} (hs : s ≤ 6) (hm : many t = nI s) (m : Nat) (k : Int32 → Int32 → Option Int32) : ∀ (d i : Nat) (c : Int32), i + d = s → pX9_manyLie_L11 (nI t) many has (m + d + 1) c (nI i) k = k (sm (wH has t) i d c) (nI s) := by
  intro d
  induction d with
  | zero =>
    intro i c h
    obtain rfl : i = s := by omega
    rw [pX9_manyLie_L11, ck_t (ix_nI ht (by omega)), nI_clamp (by omega), hm, if_pos (by rw [nI_leI (by omega) (by omega)]; omega)]
    rfl
  | succ d ih =>
    intro i c h
    rw [pX9_manyLie_L11, ck_t (ix_nI ht (by omega)), nI_clamp (show t < 2 ^ 31 by omega), hm, if_neg (by rw [nI_leI (by omega) (by omega)]; omega), ix18 ht (show i < 6 by omega), ck_t (ix_nI (show 6 * t + i < 18 by omega) (by omega)), nI_clamp (by omega), show nI i + 1 = nI (i + 1) from nI_add i 1, show m + (d + 1) = m + d + 1 by omega, sm, wH]
    by_cases q : has (6 * t + i) = -9223372036854775808
    · rw [if_pos q, if_pos q]; exact ih (i + 1) (c + 0) (by omega)
    · rw [if_neg q, if_neg q]; exact ih (i + 1) (c + 1) (by omega)
theorem sh_lie {t : Nat} (ht : t < 3) {th so sz : Int32} {be : Nat → Int64} {fi many sort : Nat → Int32} {has : Nat → Int64} (h : SH t th so sz be fi many sort has) : ∃ r, (∀ m, pX4_countFilled (m + 7) fi = some r) ∧ ∀ m c k, ∃ y, pX9_manyLie_L11 (nI t) many has (m + 7) c 0 k = k (c + r) y := by
  refine ⟨sm (wF fi) 0 6 0, fun m => cf_eq fi m _ 6 0 0 rfl, fun m c k => ?_⟩
  rcases h with ⟨a, c1, d⟩ | ⟨a, c1, d, e, f, g⟩
  · refine ⟨0, ?_⟩
    rw [sm_z (wF fi) 6 0 0 (fun j _ h2 => by rw [wF, if_pos (d j (by omega))]), Int32.add_zero, pX9_manyLie_L11, ck_t (ix_nI ht (by omega)), nI_clamp (by omega), c1, if_pos (by decide)]
  · obtain ⟨s, hs, rfl⟩ : ∃ s : Nat, s ≤ 6 ∧ sz = nI s := ⟨sz.toInt.toNat, by omega, by rw [i32_eq, nI_toInt (by omega)]; omega⟩
    rw [nI_toInt (by omega)] at g
    refine ⟨nI s, ?_⟩
    have e1 := ml_eq ht many has hs c1 (m + (6 - s)) k s 0 c (by omega)
    rw [show m + (6 - s) + s + 1 = m + 7 by omega] at e1
    have e2 := sm_part (wF fi) (wH has t) s (6 - s) 0 0 (fun j _ h2 => by
      rw [wF, wH]
      rcases g j (by omega) with ⟨q1, q2⟩ | ⟨q1, q2, q3, -⟩
      · rw [if_pos q1, if_pos q2]
      · rw [if_neg (by rw [q1]; decide), if_neg (by rw [q2]; exact q3)]) (fun j h1 h2 => by
      rw [wF]
      rcases g j (by omega) with ⟨q1, q2⟩ | ⟨q1, q2, q3, q4⟩
      · rw [if_pos q1]
      · omega)
    rw [show s + (6 - s) = 6 by omega] at e2
    rw [e2, ← sm_add]
    exact e1
theorem sh_th {t : Nat} {th so sz : Int32} {be : Nat → Int64} {fi many sort : Nat → Int32} {has : Nat → Int64} (h : SH t th so sz be fi many sort has) : (th = 0 ∧ many t = -9) ∨ (¬ th = 0 ∧ ¬ many t = -9) := by
  rcases h with ⟨a, c1, d⟩ | ⟨a, c1, d, e, f, g⟩
  · exact Or.inl ⟨a, c1⟩
  · refine Or.inr ⟨by rw [a]; decide, ?_⟩
    rw [c1, i32_eq]
    have : (-9 : Int32).toInt = -9 := rfl
    omega
theorem csh {a b c : Int32} {many : Nat → Int32} (h0 : (a = 0 ∧ many 0 = -9) ∨ (¬ a = 0 ∧ ¬ many 0 = -9)) (h1 : (b = 0 ∧ many 1 = -9) ∨ (¬ b = 0 ∧ ¬ many 1 = -9)) (h2 : (c = 0 ∧ many 2 = -9) ∨ (¬ c = 0 ∧ ¬ many 2 = -9)) (m : Nat) : ∃ r, pX8_countShelves (m + 4) a b c = some r ∧ pX9_manyShelves (m + 4) many = some r := by
  have i0 : (0 : Int32).toNatClampNeg = 0 := rfl
  have i1 : (0 + 1 : Int32).toNatClampNeg = 1 := rfl
  have i2 : (0 + 1 + 1 : Int32).toNatClampNeg = 2 := rfl
  rcases h0 with ⟨x0, y0⟩ | ⟨x0, y0⟩ <;> rcases h1 with ⟨x1, y1⟩ | ⟨x1, y1⟩ <;> rcases h2 with ⟨x2, y2⟩ | ⟨x2, y2⟩ <;>
  (refine ⟨_, by simp only [pX8_countShelves, pX8_countShelves_L4, if_neg (show ¬ (3 : Int32) ≤ 0 by decide), if_neg (show ¬ (3 : Int32) ≤ 0 + 1 by decide), if_neg (show ¬ (3 : Int32) ≤ 0 + 1 + 1 by decide), if_pos (show (3 : Int32) ≤ 0 + 1 + 1 + 1 by decide), if_neg (show ¬ (0 + 1 : Int32) = 0 by decide), if_neg (show ¬ (0 + 1 + 1 : Int32) = 0 by decide), if_neg (show ¬ (0 + 1 + 1 : Int32) = 1 by decide), if_pos (show (0 + 1 : Int32) = 1 by decide), if_pos (show (0 + 1 + 1 : Int32) = 2 by decide), x0, x1, x2, if_true, if_false, ite_true, ite_false, eq_self]; rfl, ?_⟩
   simp only [pX9_manyShelves, pX9_manyShelves_L4, if_neg (show ¬ (3 : Int32) ≤ 0 by decide), if_neg (show ¬ (3 : Int32) ≤ 0 + 1 by decide), if_neg (show ¬ (3 : Int32) ≤ 0 + 1 + 1 by decide), if_pos (show (3 : Int32) ≤ 0 + 1 + 1 + 1 by decide), ck_t (show ix 0 3 by decide), ck_t (show ix (0 + 1) 3 by decide), ck_t (show ix (0 + 1 + 1) 3 by decide), i0, i1, i2, y0, y1, y2, if_true, if_false, ite_true, ite_false, eq_self] <;> rfl)
theorem bnd {n : Nat} (hn : FU ≤ n) {now first bends : Nat → Int64} {st : Int32} (h : IR now st first bends) (ra : Nat → Int64) : ∃ b w z, pX9_isBound n bends ra = some (b, w, z) ∧ pX3_isBound first = some b ∧ eq4 z first ∧ ((b = 0 ∧ 0 ≤ zq first 0) ∨ (b = 1 ∧ zq first 0 < 0)) := by
  obtain ⟨hg, he, k, hk, hr, hst⟩ := h
  obtain ⟨z, e1, e2⟩ := frm (fu1 hn) (ra := ra) (w := (-9)) (hr.cong he) hk
  have i0 : (0 : Int32).toNatClampNeg = 0 := rfl
  have z0 : (0 : Int64).toInt = 0 := rfl
  by_cases q : (0 : Int64) ≤ first 0
  · refine ⟨0, _, z, by rw [pX9_isBound, e1, Option.bind_some, i0]; dsimp only; rw [if_pos (by rw [e2.1]; exact q)], by rw [pX3_isBound, i0, if_pos q], e2, Or.inl ⟨rfl, ?_⟩⟩
    rw [i64_le, z0] at q; exact q
  · refine ⟨1, _, z, by rw [pX9_isBound, e1, Option.bind_some, i0]; dsimp only; rw [if_neg (by rw [e2.1]; exact q)], by rw [pX3_isBound, i0, if_neg q], e2, Or.inr ⟨rfl, ?_⟩⟩
    rw [i64_le, z0] at q; unfold zq; omega
theorem clx {f0 f1 f2 : Nat → Int32} {r0 r1 r2 : Int32} (m : Nat) (h0 : ∀ m, pX4_countFilled (m + 7) f0 = some r0) (h1 : ∀ m, pX4_countFilled (m + 7) f1 = some r1) (h2 : ∀ m, pX4_countFilled (m + 7) f2 = some r2) : pX8_countLaid (m + 11) f0 f1 f2 = some (0 + r0 + r1 + r2) := by
  rw [pX8_countLaid, pX8_countLaid_L4, if_neg (by decide), if_pos rfl, h0 (m + 3), Option.bind_some, pX8_countLaid_L4, if_neg (by decide), if_neg (by decide), if_pos (by decide), h1 (m + 2), Option.bind_some, pX8_countLaid_L4, if_neg (by decide), if_neg (by decide), if_neg (by decide), if_pos (by decide), h2 (m + 1), Option.bind_some, pX8_countLaid_L4, if_pos (by decide)]
theorem clm {many : Nat → Int32} {has : Nat → Int64} {r0 r1 r2 : Int32} (m : Nat) (h0 : ∀ m c k, ∃ y, pX9_manyLie_L11 (nI 0) many has (m + 7) c 0 k = k (c + r0) y) (h1 : ∀ m c k, ∃ y, pX9_manyLie_L11 (nI 1) many has (m + 7) c 0 k = k (c + r1) y) (h2 : ∀ m c k, ∃ y, pX9_manyLie_L11 (nI 2) many has (m + 7) c 0 k = k (c + r2) y) : pX9_manyLie (m + 11) many has = some (0 + r0 + r1 + r2) := by
  rw [pX9_manyLie, pX9_manyLie_L4, if_neg (by decide), show (0 : Int32) = nI 0 from rfl]
  obtain ⟨y, e⟩ := h0 (m + 3) (nI 0) _
  rw [show nI 0 = (0 : Int32) from rfl] at e ⊢
  refine e.trans ?_
  rw [pX9_manyLie_L4, if_neg (by decide)]
  obtain ⟨y1, e1⟩ := h1 (m + 2) (0 + r0) _
  refine e1.trans ?_
  rw [pX9_manyLie_L4, if_neg (by decide)]
  obtain ⟨y2, e2⟩ := h2 (m + 1) (0 + r0 + r1) _
  refine e2.trans ?_
  rw [pX9_manyLie_L4, if_pos (by decide)]
theorem ccx {a b : Nat → Int32} (h0 : a 0 = b 0) (h1 : a 1 = b 1) (h2 : a 2 = b 2) (m : Nat) : ∃ r, pX8_countCopies (m + 4) a = some r ∧ ∀ (w : Int32) (z : Nat → Int64), (if (b (0 : Int32).toNatClampNeg) = 0 then if (b (1 : Int32).toNatClampNeg) = 0 then if (b (2 : Int32).toNatClampNeg) = 0 then some (((0 : Int32) + (0 : Int32)) + (0 : Int32), w, z) else some (((0 : Int32) + (0 : Int32)) + (1 : Int32), w, z) else if (b (2 : Int32).toNatClampNeg) = 0 then some (((0 : Int32) + (1 : Int32)) + (0 : Int32), w, z) else some (((0 : Int32) + (1 : Int32)) + (1 : Int32), w, z) else if (b (1 : Int32).toNatClampNeg) = 0 then if (b (2 : Int32).toNatClampNeg) = 0 then some (((1 : Int32) + (0 : Int32)) + (0 : Int32), w, z) else some (((1 : Int32) + (0 : Int32)) + (1 : Int32), w, z) else if (b (2 : Int32).toNatClampNeg) = 0 then some (((1 : Int32) + (1 : Int32)) + (0 : Int32), w, z) else some (((1 : Int32) + (1 : Int32)) + (1 : Int32), w, z)) = some (r, w, z) := by
  have i0 : (0 : Int32).toNatClampNeg = 0 := rfl
  have j1 : (1 : Int32).toNatClampNeg = 1 := rfl
  have j2 : (2 : Int32).toNatClampNeg = 2 := rfl
  have i1 : (0 + 1 : Int32).toNatClampNeg = 1 := rfl
  have i2 : (0 + 1 + 1 : Int32).toNatClampNeg = 2 := rfl
  rw [i0, j1, j2, ← h0, ← h1, ← h2]
  by_cases x0 : a 0 = 0 <;> by_cases x1 : a 1 = 0 <;> by_cases x2 : a 2 = 0 <;>
  (refine ⟨_, by simp only [pX8_countCopies, pX8_countCopies_L4, if_neg (show ¬ (3 : Int32) ≤ 0 by decide), if_neg (show ¬ (3 : Int32) ≤ 0 + 1 by decide), if_neg (show ¬ (3 : Int32) ≤ 0 + 1 + 1 by decide), if_pos (show (3 : Int32) ≤ 0 + 1 + 1 + 1 by decide), ck_t (show ix 0 3 by decide), ck_t (show ix (0 + 1) 3 by decide), ck_t (show ix (0 + 1 + 1) 3 by decide), i0, i1, i2, x0, x1, x2, if_true, if_false, ite_true, ite_false, eq_self]; rfl, fun w z => ?_⟩
   simp only [x0, x1, x2, if_true, if_false, ite_true, ite_false, eq_self] <;> rfl)
