def ld (w : Nat) : Nat → Nat
  | 0 => 0
  | e + 1 => dgt w e
def gw (w e : Nat) : Prop := w / 10 ^ e ≠ 0 → (1 ≤ dgt w e ∧ dgt w e ≤ 4) ∧ dgt w e ≠ ld w e
theorem div_mono (w : Nat) {e e' : Nat} (h : e ≤ e') : w / 10 ^ e' ≤ w / 10 ^ e := Nat.div_le_div_left (Nat.pow_le_pow_right (by decide) h) (Nat.pow_pos (by decide))
theorem dz {w e e' : Nat} (h : e ≤ e') (q : w / 10 ^ e = 0) : w / 10 ^ e' = 0 := Nat.le_zero.mp (q ▸ div_mono w h)
theorem dnz {w e e' : Nat} (h : e ≤ e') (q : w / 10 ^ e' ≠ 0) : w / 10 ^ e ≠ 0 := fun h2 => q (dz h h2)
theorem div9 {w : Nat} (hw : w < 1000000000) {e : Nat} (he : 9 ≤ e) : w / 10 ^ e = 0 := by
  exact dz he (Nat.div_eq_of_lt (by omega))
theorem iw_0 {w : Nat} (hw : w < 1000000000) (m : Nat) (kk : Int32 → Int32 → Int32 → Option Int32) : ∀ (r e : Nat) (x2 : Int32), e + r = 9 → ∃ y, pX9_isWord_L18 (m + r + 1) 0 x2 (nI (w / 10 ^ e)) kk = kk 0 y 0 := by
  intro r
  induction r with
  | zero =>
    intro e x2 he
    refine ⟨x2, ?_⟩
    rw [div9 hw (by omega), pX9_isWord_L18, if_pos (by decide)]
    rfl
  | succ r ih =>
    intro e x2 he
    have hq : w / 10 ^ e < 2 ^ 31 := Nat.lt_of_le_of_lt (Nat.div_le_self _ _) (by omega)
    rw [show m + (r + 1) + 1 = m + r + 1 + 1 by omega, pX9_isWord_L18]
    by_cases q : w / 10 ^ e = 0
    · refine ⟨x2, ?_⟩
      rw [q, if_pos (by decide)]
      rfl
    · rw [if_neg (by rw [show (0 : Int32) = nI 0 from rfl, nI_leI hq (by omega)]; exact Nat.not_le.mpr (Nat.pos_of_ne_zero q)), if_pos rfl, show (10 : Int32) = nI 10 from rfl, pk_rem hq (by decide) (by decide), pk_div hq (by decide) (by decide), ← dgt_div]
      exact ih (e + 1) _ (by omega)
theorem iw_1 {w : Nat} (hw : w < 1000000000) (m : Nat) (kk : Int32 → Int32 → Int32 → Option Int32) : ∀ (r e : Nat), e + r = 9 → ((∀ e', e ≤ e' → gw w e') ∧ ∃ y, pX9_isWord_L18 (m + r + 1) 1 (nI (ld w e)) (nI (w / 10 ^ e)) kk = kk 1 y 0) ∨ ((∃ e', gw w e' → False) ∧ ∃ y, pX9_isWord_L18 (m + r + 1) 1 (nI (ld w e)) (nI (w / 10 ^ e)) kk = kk 0 y 0) := by
  intro r
  induction r with
  | zero =>
    intro e he
    refine Or.inl ⟨fun e' h1 h2 => absurd (div9 hw (by omega)) h2, nI (ld w e), ?_⟩
    rw [div9 hw (by omega), pX9_isWord_L18, if_pos (by decide)]
    rfl
  | succ r ih =>
    intro e he
    have hq : w / 10 ^ e < 2 ^ 31 := Nat.lt_of_le_of_lt (Nat.div_le_self _ _) (by omega)
    have hdd := dgt_lt w e
    have hll : ld w e < 10 := by
      cases e with
      | zero => exact (by decide : 0 < 10)
      | succ e => exact dgt_lt w e
    rw [show m + (r + 1) + 1 = m + r + 1 + 1 by omega, pX9_isWord_L18]
    by_cases q : w / 10 ^ e = 0
    · refine Or.inl ⟨fun e' h1 h2 => absurd (dz h1 q) h2, nI (ld w e), ?_⟩
      rw [q, if_pos (by decide)]
      rfl
    · have er : nI (w / 10 ^ e) - nI (w / 10 ^ e) / (10 : Int32) * (10 : Int32) = nI (dgt w e) := by
        rw [show (10 : Int32) = nI 10 from rfl, pk_rem hq (by decide) (by decide)]; rfl
      have ev : nI (w / 10 ^ e) / (10 : Int32) = nI (w / 10 ^ (e + 1)) := by
        rw [show (10 : Int32) = nI 10 from rfl, pk_div hq (by decide) (by decide), ← dgt_div]
      rw [if_neg (by rw [show (0 : Int32) = nI 0 from rfl, nI_leI hq (by omega)]; exact Nat.not_le.mpr (Nat.pos_of_ne_zero q)), if_neg (by decide), er, ev]
      rcases pl_n hdd with ⟨-, a, a2⟩ | ⟨-, a, a2⟩
      · rw [a, Option.bind_some, if_neg (by decide)]
        by_cases q2 : dgt w e = ld w e
        · rw [if_pos (by rw [q2])]
          exact Or.inr ⟨⟨e, fun h => (h q).2 q2⟩, iw_0 hw m kk r (e + 1) _ (by omega)⟩
        · rw [if_neg (by rw [nI_eq (by omega) (by omega)]; exact q2)]
          rcases ih (e + 1) (by omega) with ⟨b1, b2⟩ | ⟨b1, b2⟩
          · refine Or.inl ⟨fun e' h1 => ?_, b2⟩
            by_cases q3 : e' = e
            · rw [q3]; exact fun _ => ⟨a2, q2⟩
            · exact b1 e' (by omega)
          · exact Or.inr ⟨b1, b2⟩
      · rw [a, Option.bind_some, if_pos rfl]
        exact Or.inr ⟨⟨e, fun h => a2 (h q).1⟩, iw_0 hw m kk r (e + 1) _ (by omega)⟩
theorem gg {w : Nat} (hw : w < 1000000000) (h : ∀ e, e < 9 → gdd w e) (e : Nat) : gw w e := by
  intro hz
  have he : e < 9 := by
    by_cases q : e < 9
    · exact q
    · exact absurd (div9 hw (by omega)) hz
  refine ⟨(h e he hz).1, ?_⟩
  cases e with
  | zero => have := (h 0 he hz).1; show dgt w 0 ≠ 0; omega
  | succ e =>
    have h1 : w / 10 ^ e ≠ 0 := dnz (show e ≤ e + 1 by omega) hz
    exact fun h2 => (h e (by omega) h1).2 h2.symm
theorem gg2 {w : Nat} (h : ∀ e, 0 ≤ e → gw w e) (e : Nat) : gdd w e := by
  intro hz
  refine ⟨(h e (by omega) hz).1, ?_⟩
  by_cases q : w / 10 ^ (e + 1) = 0
  · have := (h e (by omega) hz).1
    rw [dgt_0 q]; omega
  · exact fun h2 => (h (e + 1) (by omega) q).2 h2.symm
theorem top_eq {w : Nat} (hw : w < 1000000000) (m : Nat) (kk : Int32 → Option (Nat → Int64)) : ∀ (r e : Nat), e + r = 8 → (e = 0 ∨ w / 10 ^ e ≠ 0) → ∃ E, E ≤ 8 ∧ pX9_laysWord_L36 (nI w) (m + r + 1) (nI (10 ^ e)) kk = kk (nI (10 ^ E)) ∧ w / 10 ^ E ≤ 9 ∧ (E = 0 ∨ w / 10 ^ E ≠ 0) := by
  intro r
  induction r with
  | zero =>
    intro e he h
    obtain rfl : e = 8 := by omega
    have h9 : w / 10 ^ 8 ≤ 9 := by omega
    refine ⟨8, by omega, ?_, h9, h⟩
    rw [pX9_laysWord_L36, ck_t (by decide), if_pos (by rw [pk_div (by omega) (by decide) (by decide), show (9 : Int32) = nI 9 from rfl, nI_leI (by omega) (by omega)]; exact h9)]
  | succ r ih =>
    intro e he h
    have hp := pw9 (show e ≤ 9 by omega)
    have hp8 : 10 ^ e ≤ 100000000 := Nat.le_trans (Nat.pow_le_pow_right (by decide) (show e ≤ 8 by omega)) (by decide)
    have hq : w / 10 ^ e < 2 ^ 31 := Nat.lt_of_le_of_lt (Nat.div_le_self _ _) (by omega)
    rw [show m + (r + 1) + 1 = m + r + 1 + 1 by omega, pX9_laysWord_L36, ck_t (by rw [show (0 : Int32) = nI 0 from rfl, nI_eq (by omega) (by omega)]; omega), pk_div (by omega) hp.2 (by omega)]
    by_cases q : w / 10 ^ e ≤ 9
    · refine ⟨e, by omega, ?_, q, h⟩
      rw [if_pos (by rw [show (9 : Int32) = nI 9 from rfl, nI_leI hq (by omega)]; exact q)]
    · rw [if_neg (by rw [show (9 : Int32) = nI 9 from rfl, nI_leI hq (by omega)]; exact q), show (10 : Int32) = nI 10 from rfl, pk_mul, ← Nat.pow_succ]
      refine ih (e + 1) (by omega) (Or.inr ?_)
      rw [dgt_div]; omega
theorem mw_top {w E : Nat} (h : ∀ e, E < e → w / 10 ^ e = 0) : ∀ k, k + E ≤ 8 → mw w k = mE := by
  intro k
  induction k with
  | zero => intro _; rfl
  | succ k ih =>
    intro hk
    rw [mw, if_pos (h (8 - k) (by omega))]
    exact ih (by omega)
theorem lt_eq {w : Nat} (hw : w < 1000000000) (h0 : 0 < w) (m : Nat) (kk : Int32 → (Nat → Int64) → Option (Nat → Int64)) : ∀ (r k : Nat) (S : Nat → Int64), k + r = 9 → (∀ e, e < r → w / 10 ^ e ≠ 0 ∧ 1 ≤ dgt w e ∧ dgt w e ≤ 4) → RS S (mw w k) → ∃ z, pX9_laysWord_L54 (nI w) (m + 6 + r) (nI (10 ^ r / 10)) S kk = kk 0 z ∧ RS z (mw w 9) := by
  intro r
  induction r with
  | zero =>
    intro k S hk _ hM
    obtain rfl : k = 9 := by omega
    refine ⟨S, ?_, hM⟩
    rw [pX9_laysWord_L54, if_pos (by decide)]
    rfl
  | succ r ih =>
    intro k S hk hl hM
    have hp := pw9 (show r ≤ 9 by omega)
    have hx3 : 10 ^ (r + 1) / 10 = 10 ^ r := by rw [Nat.pow_succ]; omega
    have ed : (nI w / nI (10 ^ r)) - (nI w / nI (10 ^ r)) / (10 : Int32) * (10 : Int32) = nI (dgt w r) := by
      rw [pk_div (by omega) hp.2 (by omega), show (10 : Int32) = nI 10 from rfl, pk_rem (Nat.lt_of_le_of_lt (Nat.div_le_self _ _) (by omega)) (by decide) (by decide)]
      rfl
    have e10 : nI (10 ^ r) / (10 : Int32) = nI (10 ^ r / 10) := by rw [show (10 : Int32) = nI 10 from rfl, pk_div (by omega) (by decide) (by decide)]
    obtain ⟨l1, l2, l3⟩ := hl r (by omega)
    rw [hx3, show m + 6 + (r + 1) = m + 6 + r + 1 by omega, pX9_laysWord_L54, if_neg (by rw [show (0 : Int32) = nI 0 from rfl, nI_leI (by omega) (by omega)]; omega), if_neg (by rw [show (0 : Int32) = nI 0 from rfl, nI_leI (by omega) (by omega)]; omega), ck_t (by rw [show (0 : Int32) = nI 0 from rfl, nI_eq (by omega) (by omega)]; omega), ed, e10, show (1 : Int32) = nI 1 from rfl, pk_sub l2]
    obtain ⟨z, e, hz⟩ := ts_eq (m + 1 + r) hM (show dgt w r - 1 < 4 by omega)
    rw [show m + 1 + r + 5 = m + 6 + r by omega] at e
    rw [e, Option.bind_some]
    exact ih (k + 1) z (by omega) (fun e he => hl e (by omega)) (by rw [mw, show 8 - k = r by omega, if_neg l1]; exact hz)
theorem lay_w {w : Nat} (hw : w < 1000000000) (h : ∀ e, gdd w e) (m : Nat) (S : Nat → Int64) : ∃ z, pX9_laysWord (m + 30) S (nI w) = some z ∧ RS z (mw w 9) := by
  obtain ⟨z, e1, hz⟩ := lw_eq (m + 13) S
  rw [pX9_laysWord, e1]
  obtain ⟨E, hE, e2, h1, h2⟩ := top_eq hw (m + 21) (fun (y2_8 : Int32) => pX9_laysWord_L54 (nI w) (m + 30) y2_8 z (fun (y3_13 : Int32) (u13_sums : (Nat → Int64)) => some u13_sums)) 8 0 rfl (Or.inl rfl)
  refine (show ∃ z', pX9_laysWord_L36 (nI w) (m + 30) 1 (fun (y2_8 : Int32) => pX9_laysWord_L54 (nI w) (m + 30) y2_8 z (fun (y3_13 : Int32) (u13_sums : (Nat → Int64)) => some u13_sums)) = some z' ∧ RS z' (mw w 9) from ?_)
  have e2' : pX9_laysWord_L36 (nI w) (m + 30) 1 (fun (y2_8 : Int32) => pX9_laysWord_L54 (nI w) (m + 30) y2_8 z (fun (y3_13 : Int32) (u13_sums : (Nat → Int64)) => some u13_sums)) = pX9_laysWord_L54 (nI w) (m + 30) (nI (10 ^ E)) z (fun (y3_13 : Int32) (u13_sums : (Nat → Int64)) => some u13_sums) := e2
  rw [e2']
  have htop : ∀ e, E < e → w / 10 ^ e = 0 := fun e he => by
    refine dz (show E + 1 ≤ e by omega) ?_
    rw [dgt_div]
    generalize w / 10 ^ E = v at h1
    omega
  by_cases q : w = 0
  · subst q
    have hE0 : E = 0 := by
      rcases h2 with h2 | h2
      · exact h2
      · exact absurd (Nat.zero_div _) h2
    subst hE0
    refine ⟨z, ?_, ?_⟩
    · rw [pX9_laysWord_L54, if_neg (by decide), if_pos (by decide)]
    · have e9 : mw 0 9 = mE := by
        rw [mw, if_pos (Nat.zero_div _)]
        exact mw_top htop 8 (by omega)
      rw [e9]; exact hz
  · have hnz : ∀ e, e < E + 1 → w / 10 ^ e ≠ 0 := fun e he => by
      rcases h2 with h2 | h2
      · have : e = 0 := by omega
        subst this
        rw [Nat.pow_zero, Nat.div_one]; exact q
      · exact dnz (show e ≤ E by omega) h2
    obtain ⟨z', e3, hz'⟩ := lt_eq hw (by omega) (m + 30 - 6 - (E + 1)) (fun (_ : Int32) (u13_sums : (Nat → Int64)) => some u13_sums) (E + 1) (8 - E) z (by omega) (fun e he => ⟨hnz e he, (h e (hnz e he)).1⟩) (by rw [mw_top htop (8 - E) (by omega)]; exact hz)
    rw [show m + 30 - 6 - (E + 1) + 6 + (E + 1) = m + 30 by omega, show 10 ^ (E + 1) / 10 = 10 ^ E by rw [Nat.pow_succ]; omega] at e3
    exact ⟨z', e3, hz'⟩
theorem big_bad {w : Nat} (h1 : 444444444 < w) (h2 : w < 1000000000) (h : ∀ e, e < 9 → gdd w e) : False := by
  have g : ∀ e, e < 9 → dgt w e ≤ 4 := fun e he => (h e he (by
    have : w / 10 ^ 8 ≠ 0 := by omega
    exact dnz (show e ≤ 8 by omega) this)).1.2
  have g0 := g 0 (by omega); have g1 := g 1 (by omega); have g2 := g 2 (by omega); have g3 := g 3 (by omega); have g4 := g 4 (by omega)
  have g5 := g 5 (by omega); have g6 := g 6 (by omega); have g7 := g 7 (by omega); have g8 := g 8 (by omega)
  have e8 : w / 10 ^ 8 / 10 = 0 := by rw [← dgt_div]; exact div9 h2 (by omega)
  have e7 := dgt_div w 7; have e6 := dgt_div w 6; have e5 := dgt_div w 5; have e4 := dgt_div w 4; have e3 := dgt_div w 3; have e2 := dgt_div w 2; have e1 := dgt_div w 1; have e0 := dgt_div w 0
  unfold dgt at g0 g1 g2 g3 g4 g5 g6 g7 g8
  have b0 : w / 10 ^ 0 = w := by rw [Nat.pow_zero, Nat.div_one]
  generalize w / 10 ^ 8 = a8 at *
  simp only [Nat.zero_add, Nat.reduceAdd] at *
  omega
/-- a word, on either side -/
theorem word {n : Nat} (hn : FU ≤ n) (p : Int32) : ((∀ r0 r1 r2 r3, ∃ z0 z1 z2 z3, pX5_read n r0 r1 r2 r3 p = some (0, z0, z1, z2, z3)) ∧ pX9_isWord n p = some 0) ∨ (∃ M, (∀ r0 r1 r2 r3, ∃ z0 z1 z2 z3, pX5_read n r0 r1 r2 r3 p = some (1, z0, z1, z2, z3) ∧ RX z0 z1 z2 z3 M) ∧ pX9_isWord n p = some 1 ∧ ∀ S, ∃ z, pX9_laysWord n S p = some z ∧ RS z M) := by
  have hn5 := fu1 hn
  obtain ⟨m, rfl⟩ : ∃ m, n = m + 30 := ⟨n - 30, by omega⟩
  by_cases h : p < 0
  · left
    refine ⟨fun r0 r1 r2 r3 => ⟨r0, r1, r2, r3, by rw [pX5_read, if_pos h]⟩, by rw [pX9_isWord, if_pos h]⟩
  · obtain ⟨w, hw, rfl⟩ : ∃ w, w < 2 ^ 31 ∧ p = nI w := by
      rw [i32_lt] at h
      have e0 : (0 : Int32).toInt = 0 := rfl
      have h2 := Int32.toInt_lt p
      exact ⟨p.toInt.toNat, by omega, by rw [i32_eq, nI_toInt (by omega)]; omega⟩
    have hd : nI w / (100000000 : Int32) = nI (w / 100000000) := by rw [show (100000000 : Int32) = nI 100000000 from rfl, pk_div hw (by decide) (by decide)]
    by_cases q : w < 1000000000
    · have hx := fun r0 r1 r2 r3 => br_eq (m + 20) r0 r1 r2 r3
      have hd9 : nI w / (100000000 : Int32) ≤ 9 := by rw [hd, show (9 : Int32) = nI 9 from rfl, nI_leI (by omega) (by omega)]; omega
      have rd := fun {z0 z1 z2 z3 : Nat → Int64} (hz : RX z0 z1 z2 z3 mE) => rd_eq q (m + 15) (fun (y2_16 : Int32) (y3_16 : Int32) (u16_rows_0 : (Nat → Int64)) (u16_rows_1 : (Nat → Int64)) (u16_rows_2 : (Nat → Int64)) (u16_rows_3 : (Nat → Int64)) => some ((1 : Int32), u16_rows_0, u16_rows_1, u16_rows_2, u16_rows_3)) 9 0 z0 z1 z2 z3 rfl (fun h => absurd (div9 q (by omega)) h) hz
      have d9 : dgt w 9 = 0 := dgt_0 (div9 q (by omega))
      rw [d9] at rd
      have iw := iw_1 q (m + 20) (fun (y1_8 : Int32) (y2_8 : Int32) (y3_8 : Int32) => ck (y1_8 = 0 ∨ y1_8 = 1) (some y1_8)) 9 0 rfl
      rw [show w / 10 ^ 0 = w by rw [Nat.pow_zero, Nat.div_one]] at iw
      have ni1 : ∀ v, pX9_isWord_L18 (m + 30) 1 0 (nI w) (fun (y1_8 : Int32) (y2_8 : Int32) (y3_8 : Int32) => ck (y1_8 = 0 ∨ y1_8 = 1) (some y1_8)) = some v → (444444444 < w → v = 0) → pX9_isWord (m + 30) (nI w) = some v := fun v h1 h2 => by
        rw [pX9_isWord, if_neg h]
        by_cases q4 : 444444444 < w
        · rw [if_neg (by rw [show (444444444 : Int32) = nI 444444444 from rfl, nI_leI hw (by decide)]; omega), h2 q4]
        · rw [if_pos (by rw [show (444444444 : Int32) = nI 444444444 from rfl, nI_leI hw (by decide)]; omega)]
          exact h1
      rcases iw with ⟨b1, y, b2⟩ | ⟨⟨e, b1⟩, y, b2⟩
      · right
        have hall := gg2 b1
        refine ⟨mw w 9, fun r0 r1 r2 r3 => ?_, ni1 1 (b2.trans (ck_t (Or.inr rfl))) (fun h4 => (big_bad h4 q (fun e _ => hall e)).elim), fun S => lay_w q hall m S⟩
        obtain ⟨z0, z1, z2, z3, e, hz⟩ := hx r0 r1 r2 r3
        rcases rd hz with ⟨-, y, u0, u1, u2, u3, c1, c2⟩ | ⟨⟨e', he, hb⟩, -⟩
        · refine ⟨u0, u1, u2, u3, ?_, c2⟩
          rw [pX5_read, if_neg h, if_pos hd9, e, Option.bind_some]
          exact c1
        · exact absurd (hall e') hb
      · left
        refine ⟨fun r0 r1 r2 r3 => ?_, ni1 0 (b2.trans (ck_t (Or.inl rfl))) (fun _ => rfl)⟩
        obtain ⟨z0, z1, z2, z3, e', hz⟩ := hx r0 r1 r2 r3
        rcases rd hz with ⟨c0, -⟩ | ⟨-, u0, u1, u2, u3, c1⟩
        · exact absurd (gg q c0 e) b1
        · refine ⟨u0, u1, u2, u3, ?_⟩
          rw [pX5_read, if_neg h, if_pos hd9, e', Option.bind_some]
          exact c1
    · left
      refine ⟨fun r0 r1 r2 r3 => ⟨r0, r1, r2, r3, ?_⟩, ?_⟩
      · rw [pX5_read, if_neg h, if_neg (by rw [hd, show (9 : Int32) = nI 9 from rfl, nI_leI (by omega) (by omega)]; omega)]
      · rw [pX9_isWord, if_neg h, if_neg (by rw [show (444444444 : Int32) = nI 444444444 from rfl, nI_leI hw (by decide)]; omega)]
