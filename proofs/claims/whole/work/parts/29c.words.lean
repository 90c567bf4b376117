/-! words -/
abbrev MX := Nat → Nat → Int64
def mE : MX := fun a j => if a = j then 1 else 0
def mt (M : MX) (i : Nat) : MX := fun a j => if a = i then (2 : Int64) * ((M 0 j + M 1 j + M 2 j + M 3 j) - M i j) - M i j else M a j
def RX (r0 r1 r2 r3 : Nat → Int64) (M : MX) : Prop := ∀ j, j < 4 → r0 j = M 0 j ∧ r1 j = M 1 j ∧ r2 j = M 2 j ∧ r3 j = M 3 j
def RS (S : Nat → Int64) (M : MX) : Prop := ∀ j, j < 4 → S j = M 0 j ∧ S (4 + j) = M 1 j ∧ S (8 + j) = M 2 j ∧ S (12 + j) = M 3 j
theorem po_0 (m : Nat) (r0 r1 r2 r3 : Nat → Int64) : ∃ z, pX5_putOver (m + 5) r0 r1 r2 r3 (nI 0) = some (z, r1, r2, r3) ∧ ∀ j, j < 4 → z j = (2 : Int64) * ((r0 j + r1 j + r2 j + r3 j) - r0 j) - r0 j :=
  ⟨_, rfl, fun j hj => match j, hj with | 0, _ => rfl | 1, _ => rfl | 2, _ => rfl | 3, _ => rfl⟩
theorem po_1 (m : Nat) (r0 r1 r2 r3 : Nat → Int64) : ∃ z, pX5_putOver (m + 5) r0 r1 r2 r3 (nI 1) = some (r0, z, r2, r3) ∧ ∀ j, j < 4 → z j = (2 : Int64) * ((r0 j + r1 j + r2 j + r3 j) - r1 j) - r1 j :=
  ⟨_, rfl, fun j hj => match j, hj with | 0, _ => rfl | 1, _ => rfl | 2, _ => rfl | 3, _ => rfl⟩
theorem po_2 (m : Nat) (r0 r1 r2 r3 : Nat → Int64) : ∃ z, pX5_putOver (m + 5) r0 r1 r2 r3 (nI 2) = some (r0, r1, z, r3) ∧ ∀ j, j < 4 → z j = (2 : Int64) * ((r0 j + r1 j + r2 j + r3 j) - r2 j) - r2 j :=
  ⟨_, rfl, fun j hj => match j, hj with | 0, _ => rfl | 1, _ => rfl | 2, _ => rfl | 3, _ => rfl⟩
theorem po_3 (m : Nat) (r0 r1 r2 r3 : Nat → Int64) : ∃ z, pX5_putOver (m + 5) r0 r1 r2 r3 (nI 3) = some (r0, r1, r2, z) ∧ ∀ j, j < 4 → z j = (2 : Int64) * ((r0 j + r1 j + r2 j + r3 j) - r3 j) - r3 j :=
  ⟨_, rfl, fun j hj => match j, hj with | 0, _ => rfl | 1, _ => rfl | 2, _ => rfl | 3, _ => rfl⟩
theorem po_eq (m : Nat) {r0 r1 r2 r3 : Nat → Int64} {M : MX} (h : RX r0 r1 r2 r3 M) {i : Nat} (hi : i < 4) : ∃ z0 z1 z2 z3, pX5_putOver (m + 5) r0 r1 r2 r3 (nI i) = some (z0, z1, z2, z3) ∧ RX z0 z1 z2 z3 (mt M i) := by
  match i, hi with
  | 0, _ =>
    obtain ⟨z, e, hz⟩ := po_0 m r0 r1 r2 r3
    refine ⟨z, r1, r2, r3, e, fun j hj => ?_⟩
    obtain ⟨a, b, c, d⟩ := h j hj
    exact ⟨by rw [hz j hj, a, b, c, d]; rfl, b, c, d⟩
  | 1, _ =>
    obtain ⟨z, e, hz⟩ := po_1 m r0 r1 r2 r3
    refine ⟨r0, z, r2, r3, e, fun j hj => ?_⟩
    obtain ⟨a, b, c, d⟩ := h j hj
    exact ⟨a, by rw [hz j hj, a, b, c, d]; rfl, c, d⟩
  | 2, _ =>
    obtain ⟨z, e, hz⟩ := po_2 m r0 r1 r2 r3
    refine ⟨r0, r1, z, r3, e, fun j hj => ?_⟩
    obtain ⟨a, b, c, d⟩ := h j hj
    exact ⟨a, b, by rw [hz j hj, a, b, c, d]; rfl, d⟩
  | 3, _ =>
    obtain ⟨z, e, hz⟩ := po_3 m r0 r1 r2 r3
    refine ⟨r0, r1, r2, z, e, fun j hj => ?_⟩
    obtain ⟨a, b, c, d⟩ := h j hj
    exact ⟨a, b, c, by rw [hz j hj, a, b, c, d]; rfl⟩
theorem ts_0 (m : Nat) (S : Nat → Int64) : ∃ z, pX9_turnsSums (m + 5) S (nI 0) = some z ∧ ∀ j, j < 4 → z j = (2 : Int64) * ((S j + S (4 + j) + S (8 + j) + S (12 + j)) - S j) - S j ∧ z (4 + j) = S (4 + j) ∧ z (8 + j) = S (8 + j) ∧ z (12 + j) = S (12 + j) :=
  ⟨_, rfl, fun j hj => match j, hj with | 0, _ => ⟨rfl, rfl, rfl, rfl⟩ | 1, _ => ⟨rfl, rfl, rfl, rfl⟩ | 2, _ => ⟨rfl, rfl, rfl, rfl⟩ | 3, _ => ⟨rfl, rfl, rfl, rfl⟩⟩
theorem ts_1 (m : Nat) (S : Nat → Int64) : ∃ z, pX9_turnsSums (m + 5) S (nI 1) = some z ∧ ∀ j, j < 4 → z j = S j ∧ z (4 + j) = (2 : Int64) * ((S j + S (4 + j) + S (8 + j) + S (12 + j)) - S (4 + j)) - S (4 + j) ∧ z (8 + j) = S (8 + j) ∧ z (12 + j) = S (12 + j) :=
  ⟨_, rfl, fun j hj => match j, hj with | 0, _ => ⟨rfl, rfl, rfl, rfl⟩ | 1, _ => ⟨rfl, rfl, rfl, rfl⟩ | 2, _ => ⟨rfl, rfl, rfl, rfl⟩ | 3, _ => ⟨rfl, rfl, rfl, rfl⟩⟩
theorem ts_2 (m : Nat) (S : Nat → Int64) : ∃ z, pX9_turnsSums (m + 5) S (nI 2) = some z ∧ ∀ j, j < 4 → z j = S j ∧ z (4 + j) = S (4 + j) ∧ z (8 + j) = (2 : Int64) * ((S j + S (4 + j) + S (8 + j) + S (12 + j)) - S (8 + j)) - S (8 + j) ∧ z (12 + j) = S (12 + j) :=
  ⟨_, rfl, fun j hj => match j, hj with | 0, _ => ⟨rfl, rfl, rfl, rfl⟩ | 1, _ => ⟨rfl, rfl, rfl, rfl⟩ | 2, _ => ⟨rfl, rfl, rfl, rfl⟩ | 3, _ => ⟨rfl, rfl, rfl, rfl⟩⟩
theorem ts_3 (m : Nat) (S : Nat → Int64) : ∃ z, pX9_turnsSums (m + 5) S (nI 3) = some z ∧ ∀ j, j < 4 → z j = S j ∧ z (4 + j) = S (4 + j) ∧ z (8 + j) = S (8 + j) ∧ z (12 + j) = (2 : Int64) * ((S j + S (4 + j) + S (8 + j) + S (12 + j)) - S (12 + j)) - S (12 + j) :=
  ⟨_, rfl, fun j hj => match j, hj with | 0, _ => ⟨rfl, rfl, rfl, rfl⟩ | 1, _ => ⟨rfl, rfl, rfl, rfl⟩ | 2, _ => ⟨rfl, rfl, rfl, rfl⟩ | 3, _ => ⟨rfl, rfl, rfl, rfl⟩⟩
theorem ts_eq (m : Nat) {S : Nat → Int64} {M : MX} (h : RS S M) {i : Nat} (hi : i < 4) : ∃ z, pX9_turnsSums (m + 5) S (nI i) = some z ∧ RS z (mt M i) := by
  match i, hi with
  | 0, _ =>
    obtain ⟨z, e, hz⟩ := ts_0 m S
    refine ⟨z, e, fun j hj => ?_⟩
    obtain ⟨a, b, c, d⟩ := h j hj
    obtain ⟨a1, b1, c1, d1⟩ := hz j hj
    exact ⟨by rw [a1, a, b, c, d]; rfl, b1.trans b, c1.trans c, d1.trans d⟩
  | 1, _ =>
    obtain ⟨z, e, hz⟩ := ts_1 m S
    refine ⟨z, e, fun j hj => ?_⟩
    obtain ⟨a, b, c, d⟩ := h j hj
    obtain ⟨a1, b1, c1, d1⟩ := hz j hj
    exact ⟨a1.trans a, by rw [b1, a, b, c, d]; rfl, c1.trans c, d1.trans d⟩
  | 2, _ =>
    obtain ⟨z, e, hz⟩ := ts_2 m S
    refine ⟨z, e, fun j hj => ?_⟩
    obtain ⟨a, b, c, d⟩ := h j hj
    obtain ⟨a1, b1, c1, d1⟩ := hz j hj
    exact ⟨a1.trans a, b1.trans b, by rw [c1, a, b, c, d]; rfl, d1.trans d⟩
  | 3, _ =>
    obtain ⟨z, e, hz⟩ := ts_3 m S
    refine ⟨z, e, fun j hj => ?_⟩
    obtain ⟨a, b, c, d⟩ := h j hj
    obtain ⟨a1, b1, c1, d1⟩ := hz j hj
    exact ⟨a1.trans a, b1.trans b, c1.trans c, by rw [d1, a, b, c, d]; rfl⟩
theorem br_eq (m : Nat) (r0 r1 r2 r3 : Nat → Int64) : ∃ z0 z1 z2 z3, pX5_beRoot (m + 10) r0 r1 r2 r3 = some (z0, z1, z2, z3) ∧ RX z0 z1 z2 z3 mE :=
  ⟨_, _, _, _, rfl, fun j hj => match j, hj with | 0, _ => ⟨rfl, rfl, rfl, rfl⟩ | 1, _ => ⟨rfl, rfl, rfl, rfl⟩ | 2, _ => ⟨rfl, rfl, rfl, rfl⟩ | 3, _ => ⟨rfl, rfl, rfl, rfl⟩⟩
theorem lw_eq (m : Nat) (S : Nat → Int64) : ∃ z, (∀ k, pX9_laysWord_L2 (m + 17) 0 S k = k 16 z) ∧ RS z mE :=
  ⟨_, fun _ => rfl, fun j hj => match j, hj with | 0, _ => ⟨rfl, rfl, rfl, rfl⟩ | 1, _ => ⟨rfl, rfl, rfl, rfl⟩ | 2, _ => ⟨rfl, rfl, rfl, rfl⟩ | 3, _ => ⟨rfl, rfl, rfl, rfl⟩⟩
/-- the digits of a word, from the highest -/
def dgt (w e : Nat) : Nat := w / 10 ^ e % 10
def gdd (w e : Nat) : Prop := w / 10 ^ e ≠ 0 → (1 ≤ dgt w e ∧ dgt w e ≤ 4) ∧ dgt w e ≠ dgt w (e + 1)
def mw (w : Nat) : Nat → MX
  | 0 => mE
  | k + 1 => if w / 10 ^ (8 - k) = 0 then mw w k else mt (mw w k) (dgt w (8 - k) - 1)
theorem dgt_lt (w e : Nat) : dgt w e < 10 := Nat.mod_lt _ (by decide)
theorem dgt_div (w e : Nat) : w / 10 ^ (e + 1) = w / 10 ^ e / 10 := by rw [Nat.div_div_eq_div_mul, Nat.pow_succ]
theorem dgt_0 {w e : Nat} (h : w / 10 ^ e = 0) : dgt w e = 0 := by rw [dgt, h]
theorem pw9 {r : Nat} (h : r ≤ 9) : 10 ^ r ≤ 1000000000 ∧ 0 < 10 ^ r := ⟨Nat.le_trans (Nat.pow_le_pow_right (by decide) h) (by decide), Nat.pow_pos (by decide)⟩
theorem pl_n {d : Nat} (hd : d < 10) : (pX8_isPlace (nI d) = some 1 ∧ pX9_isPlace (nI d) = some 1 ∧ 1 ≤ d ∧ d ≤ 4) ∨ (pX8_isPlace (nI d) = some 0 ∧ pX9_isPlace (nI d) = some 0 ∧ ¬ (1 ≤ d ∧ d ≤ 4)) := by
  rcases pl_cases (nI d) with ⟨a, b⟩ | ⟨a, b, i, hi, -, e⟩
  · right
    refine ⟨a, b, fun h => ?_⟩
    obtain ⟨i, rfl⟩ : ∃ i, d = i + 1 := ⟨d - 1, by omega⟩
    have : pX8_isPlace (nI (i + 1)) = some 1 := by
      unfold pX8_isPlace
      rw [if_neg (by rw [show (1 : Int32) = nI 1 from rfl, nI_ltI (by omega) (by omega)]; omega), if_neg (by rw [show (4 : Int32) = nI 4 from rfl, nI_ltI (by omega) (by omega)]; omega)]
    rw [this] at a
    exact absurd a (by decide)
  · left
    rw [nI_eq (by omega) (by omega)] at e
    exact ⟨a, b, by omega, by omega⟩
theorem rd_eq {w : Nat} (hw : w < 1000000000) (m : Nat) (kk : Int32 → Int32 → (Nat → Int64) → (Nat → Int64) → (Nat → Int64) → (Nat → Int64) → Option (Int32 × (Nat → Int64) × (Nat → Int64) × (Nat → Int64) × (Nat → Int64))) : ∀ (r k : Nat) (r0 r1 r2 r3 : Nat → Int64), k + r = 9 → (w / 10 ^ r ≠ 0 → 1 ≤ dgt w r) → RX r0 r1 r2 r3 (mw w k) →
    ((∀ e, e < r → gdd w e) ∧ ∃ y z0 z1 z2 z3, pX5_read_L24 (nI w) (m + 6 + r) (nI (dgt w r)) (nI (10 ^ r / 10)) r0 r1 r2 r3 kk = kk y 0 z0 z1 z2 z3 ∧ RX z0 z1 z2 z3 (mw w 9)) ∨ ((∃ e, e < r ∧ ¬ gdd w e) ∧ ∃ z0 z1 z2 z3, pX5_read_L24 (nI w) (m + 6 + r) (nI (dgt w r)) (nI (10 ^ r / 10)) r0 r1 r2 r3 kk = some (0, z0, z1, z2, z3)) := by
  intro r
  induction r with
  | zero =>
    intro k r0 r1 r2 r3 hk _ hM
    obtain rfl : k = 9 := by omega
    refine Or.inl ⟨fun e he => absurd he (by omega), nI (dgt w 0), r0, r1, r2, r3, ?_, hM⟩
    rw [pX5_read_L24, if_pos (by decide)]
    rfl
  | succ r ih =>
    intro k r0 r1 r2 r3 hk hl hM
    have hp := pw9 (show r ≤ 9 by omega)
    have hx3 : 10 ^ (r + 1) / 10 = 10 ^ r := by rw [Nat.pow_succ]; omega
    have hdd := dgt_lt w r
    have hd1 := dgt_lt w (r + 1)
    have ed : (nI w / nI (10 ^ r)) - (nI w / nI (10 ^ r)) / (10 : Int32) * (10 : Int32) = nI (dgt w r) := by
      rw [pk_div (by omega) hp.2 (by omega), show (10 : Int32) = nI 10 from rfl, pk_rem (Nat.lt_of_le_of_lt (Nat.div_le_self _ _) (by omega)) (by decide) (by decide)]
      rfl
    have e10 : nI (10 ^ r) / (10 : Int32) = nI (10 ^ r / 10) := by rw [show (10 : Int32) = nI 10 from rfl, pk_div (by omega) (by decide) (by decide)]
    have hr8 : 8 - k = r := by omega
    have hgd : gdd w r → (∀ e, e < r → gdd w e) → ∀ e, e < r + 1 → gdd w e := fun h1 h2 e he => by
      by_cases q : e = r
      · rw [q]; exact h1
      · exact h2 e (by omega)
    have hng : (∃ e, e < r ∧ ¬ gdd w e) → ∃ e, e < r + 1 ∧ ¬ gdd w e := fun ⟨e, h1, h2⟩ => ⟨e, by omega, h2⟩
    rw [hx3, show m + 6 + (r + 1) = m + 6 + r + 1 by omega, pX5_read_L24, if_neg (by rw [show (0 : Int32) = nI 0 from rfl, nI_leI (by omega) (by omega)]; omega), ck_t (by rw [show (0 : Int32) = nI 0 from rfl, nI_eq (by omega) (by omega)]; omega), ed, e10]
    have hz : w / 10 ^ (r + 1) = w / 10 ^ r / 10 := dgt_div w r
    have key : ∀ (hnz : w / 10 ^ r ≠ 0), ((∀ e, e < r + 1 → gdd w e) ∧ ∃ y z0 z1 z2 z3, Option.bind (pX8_isPlace (nI (dgt w r))) (fun r12 => if r12 = 0 then some ((0 : Int32), r0, r1, r2, r3) else if nI (dgt w r) = nI (dgt w (r + 1)) then some ((0 : Int32), r0, r1, r2, r3) else Option.bind (pX5_putOver (m + 6 + r) r0 r1 r2 r3 (nI (dgt w r) - (1 : Int32))) (fun r15 => pX5_read_L24 (nI w) (m + 6 + r) (nI (dgt w r)) (nI (10 ^ r / 10)) r15.1 r15.2.1 r15.2.2.1 r15.2.2.2 kk)) = kk y 0 z0 z1 z2 z3 ∧ RX z0 z1 z2 z3 (mw w 9)) ∨ ((∃ e, e < r + 1 ∧ ¬ gdd w e) ∧ ∃ z0 z1 z2 z3, Option.bind (pX8_isPlace (nI (dgt w r))) (fun r12 => if r12 = 0 then some ((0 : Int32), r0, r1, r2, r3) else if nI (dgt w r) = nI (dgt w (r + 1)) then some ((0 : Int32), r0, r1, r2, r3) else Option.bind (pX5_putOver (m + 6 + r) r0 r1 r2 r3 (nI (dgt w r) - (1 : Int32))) (fun r15 => pX5_read_L24 (nI w) (m + 6 + r) (nI (dgt w r)) (nI (10 ^ r / 10)) r15.1 r15.2.1 r15.2.2.1 r15.2.2.2 kk)) = some (0, z0, z1, z2, z3)) := by
      intro hnz
      rcases pl_n hdd with ⟨a, -, a2⟩ | ⟨a, -, a2⟩
      · rw [a, Option.bind_some, if_neg (by decide)]
        by_cases q : dgt w r = dgt w (r + 1)
        · refine Or.inr ⟨⟨r, by omega, fun h => (h hnz).2 q⟩, r0, r1, r2, r3, ?_⟩
          rw [if_pos (by rw [q])]
        · rw [if_neg (by rw [nI_eq (by omega) (by omega)]; exact q), show (1 : Int32) = nI 1 from rfl, pk_sub a2.1]
          obtain ⟨z0, z1, z2, z3, e, hz⟩ := po_eq (m + 1 + r) hM (show dgt w r - 1 < 4 by omega)
          rw [show m + 1 + r + 5 = m + 6 + r by omega] at e
          rw [e, Option.bind_some]
          rcases ih (k + 1) z0 z1 z2 z3 (by omega) (fun _ => a2.1) (by rw [mw, hr8, if_neg hnz]; exact hz) with ⟨b1, b2⟩ | ⟨b1, b2⟩
          · exact Or.inl ⟨hgd (fun _ => ⟨a2, q⟩) b1, b2⟩
          · exact Or.inr ⟨hng b1, b2⟩
      · refine Or.inr ⟨⟨r, by omega, fun h => a2 (h hnz).1⟩, r0, r1, r2, r3, ?_⟩
        rw [a, Option.bind_some, if_pos rfl]
    by_cases q : dgt w (r + 1) = 0
    · rw [if_pos (by rw [q]; rfl)]
      by_cases q2 : dgt w r = 0
      · rw [if_pos (show nI (dgt w r) = 0 by rw [q2]; rfl)]
        have hz0 : w / 10 ^ (r + 1) = 0 := by
          by_cases q3 : w / 10 ^ (r + 1) = 0
          · exact q3
          · have := hl q3; omega
        have hz1 : w / 10 ^ r = 0 := by unfold dgt at q2; omega
        have h3 : nI (dgt w (r + 1)) = nI (dgt w r) := by rw [q, q2]
        rw [h3]
        rcases ih (k + 1) r0 r1 r2 r3 (by omega) (fun h => absurd hz1 h) (by rw [mw, hr8, if_pos hz1]; exact hM) with ⟨b1, b2⟩ | ⟨b1, b2⟩
        · exact Or.inl ⟨hgd (fun h => absurd hz1 h) b1, b2⟩
        · exact Or.inr ⟨hng b1, b2⟩
      · rw [if_neg (show ¬ nI (dgt w r) = 0 by rw [show (0 : Int32) = nI 0 from rfl, nI_eq (by omega) (by omega)]; exact q2)]
        exact key (fun h => q2 (dgt_0 h))
    · rw [if_neg (by rw [show (0 : Int32) = nI 0 from rfl, nI_eq (by omega) (by omega)]; exact q)]
      exact key (fun h => by have : w / 10 ^ (r + 1) = 0 := by omega
                             exact q (dgt_0 this))
