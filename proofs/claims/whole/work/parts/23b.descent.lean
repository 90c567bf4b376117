/-- x's way down, to its end -/
theorem go_end {k : Nat} : ∀ {f g : Nat → Int64} {n M j m0 : Nat} {la : Int32} {K : Int32 → Int32 → Int32 → (Nat → Int64) → Option (Int32 × Int32 × (Nat → Int64))}, Dn k f g → k + 5 ≤ n → j + k < M → M < 2147483648 → pX0_go_L20 (nI M) n (nI j) (nI m0) la f K = some (nI (m0 + k), (if k = 0 then la else nI (sp (k - 1) f)), g) := by
  induction k with
  | zero =>
    intro f g n M j m0 la K h hn hj hM
    obtain ⟨m, rfl⟩ : ∃ m, n = m + 4 + 1 := ⟨n - 5, by omega⟩
    unfold pX0_go_L20
    rw [if_neg (by rw [nI_le_iff (by omega) (by omega)]; omega), gx_eq, Option.bind_some, tx_eq f (gN_lt f), Option.bind_some, ck_t (ix_nI (gN_lt f) (by omega)), nI_clamp (by have := gN_lt f; omega), if_neg h.2, h.1, if_pos rfl, Nat.add_zero]
  | succ k ih =>
    intro f g n M j m0 la K h hn hj hM
    obtain ⟨m, rfl⟩ : ∃ m, n = m + 4 + 1 := ⟨n - 5, by omega⟩
    unfold pX0_go_L20
    rw [if_neg (by rw [nI_le_iff (by omega) (by omega)]; omega), gx_eq, Option.bind_some, tx_eq f (gN_lt f), Option.bind_some, ck_t (ix_nI (gN_lt f) (by omega)), nI_clamp (by have := gN_lt f; omega), if_pos h.1]
    have e := ih (n := m + 4) (M := M) (j := j + 1) (m0 := m0 + 1) (la := nI (gN f)) (K := K) h.2 (by omega) (by omega) hM
    rw [nI_1, nI_1]
    unfold nx at e
    rw [e]
    cases k with
    | zero => simp [sp]
    | succ k => simp [sp, nx, Nat.add_assoc, Nat.add_comm 1]
/-- x's way down, the first r steps alone -/
theorem go_part : ∀ {r : Nat} {k : Nat} {f g : Nat → Int64} {n M j m0 : Nat} {la : Int32} {K : Int32 → Int32 → Int32 → (Nat → Int64) → Option (Int32 × Int32 × (Nat → Int64))}, Dn k f g → r ≤ k → r + 5 ≤ n → j + r = M → M < 2147483648 → ∃ h, pX0_go_L20 (nI M) n (nI j) (nI m0) la f K = K (nI M) (nI (m0 + r)) (if r = 0 then la else nI (sp (r - 1) f)) h := by
  intro r
  induction r with
  | zero =>
    intro k f g n M j m0 la K h hr hn hj hM
    obtain ⟨m, rfl⟩ : ∃ m, n = m + 4 + 1 := ⟨n - 5, by omega⟩
    refine ⟨f, ?_⟩
    unfold pX0_go_L20
    rw [if_pos (by rw [nI_le_iff (by omega) (by omega)]; omega)]
    have : j = M := by omega
    subst this
    rw [if_pos rfl, Nat.add_zero]
  | succ r ih =>
    intro k f g n M j m0 la K h hr hn hj hM
    obtain ⟨k, rfl⟩ : ∃ k', k = k' + 1 := ⟨k - 1, by omega⟩
    obtain ⟨m, rfl⟩ : ∃ m, n = m + 4 + 1 := ⟨n - 5, by omega⟩
    obtain ⟨z, e⟩ := ih (n := m + 4) (M := M) (j := j + 1) (m0 := m0 + 1) (la := nI (gN f)) (K := K) h.2 (by omega) (by omega) (by omega) hM
    refine ⟨z, ?_⟩
    unfold pX0_go_L20
    rw [if_neg (by rw [nI_le_iff (by omega) (by omega)]; omega), gx_eq, Option.bind_some, tx_eq f (gN_lt f), Option.bind_some, ck_t (ix_nI (gN_lt f) (by omega)), nI_clamp (by have := gN_lt f; omega), if_pos h.1, nI_1, nI_1]
    unfold nx at e
    rw [e]
    cases r with
    | zero => simp [sp]
    | succ r => simp [sp, nx, Nat.add_assoc, Nat.add_comm 1]
/-- the model's way down -/
theorem mroot {k : Nat} : ∀ {f g : Nat → Int64} {n j : Nat} {w sa : Int32} {K : Int32 → Int32 → Int32 → (Nat → Int64) → Option (Int32 × Int32 × (Nat → Int64))}, Dn k f g → k + 5 ≤ n → j + k < 2147483648 → ∃ z, pX9_findRoot_L41 w n (nI j) (nI (gN f)) sa f K = K (nI (j + k)) z (if ∃ i, i < k ∧ w = nI (j + i) then nI (sp (w.toInt.toNat - j) f + 1) else sa) g := by
  induction k with
  | zero =>
    intro f g n j w sa K h hn hj
    obtain ⟨m, rfl⟩ : ∃ m, n = m + 4 + 1 := ⟨n - 5, by omega⟩
    refine ⟨nI (gN f), ?_⟩
    unfold pX9_findRoot_L41
    rw [tm_eq f (gN_lt f), Option.bind_some, ck_t (ix_nI (gN_lt f) (by omega)), nI_clamp (by have := gN_lt f; omega), if_pos (by have := h.2; rw [i64_lt] at this; rw [i64_le]; omega), if_neg (by rintro ⟨i, hi, -⟩; omega), h.1, Nat.add_zero]
  | succ k ih =>
    intro f g n j w sa K h hn hj
    obtain ⟨m, rfl⟩ : ∃ m, n = m + 4 + 1 := ⟨n - 5, by omega⟩
    unfold pX9_findRoot_L41
    have hg := gm_eq m (nx f)
    have hnx : vp_updL f (gN f) (tv f (gN f)) = nx f := rfl
    rw [tm_eq f (gN_lt f), Option.bind_some, ck_t (ix_nI (gN_lt f) (by omega)), nI_clamp (show gN f < 2 ^ 31 by have := gN_lt f; omega), if_neg (by have := h.1; rw [i64_lt] at this; rw [i64_le]; omega), Option.bind_some, hnx, hg, Option.bind_some, Option.bind_some, nI_1, nI_1]
    by_cases hw : nI j = w
    · rw [if_pos hw]
      obtain ⟨z, e⟩ := ih (n := m + 4) (j := j + 1) (w := w) (sa := nI (gN f + 1)) (K := K) h.2 (by omega) (by omega)
      refine ⟨z, e.trans ?_⟩
      subst hw
      rw [if_neg (by rintro ⟨i, hi, q⟩; rw [nI_eq (by omega) (by omega)] at q; omega), if_pos ⟨0, by omega, rfl⟩, nI_toInt (by omega), show (j : Int).toNat - j = 0 by omega, Nat.add_assoc, Nat.add_comm 1, sp]
    · rw [if_neg hw]
      obtain ⟨z, e⟩ := ih (n := m + 4) (j := j + 1) (w := w) (sa := sa) (K := K) h.2 (by omega) (by omega)
      refine ⟨z, e.trans ?_⟩
      by_cases hx : ∃ i, i < k ∧ w = nI (j + 1 + i)
      · obtain ⟨i, hi, rfl⟩ := hx
        rw [if_pos ⟨i, hi, rfl⟩, if_pos ⟨i + 1, by omega, by rw [show j + 1 + i = j + (i + 1) by omega]⟩, nI_toInt (by omega), show ((j + 1 + i : Nat) : Int).toNat - (j + 1) = i by omega, show ((j + 1 + i : Nat) : Int).toNat - j = i + 1 by omega, Nat.add_assoc j 1 k, Nat.add_comm 1 k, sp]
      · rw [if_neg hx, if_neg (by
          rintro ⟨i, hi, q⟩
          cases i with
          | zero => exact hw q.symm
          | succ i => exact hx ⟨i, by omega, by rw [q, show j + 1 + i = j + (i + 1) by omega]⟩), Nat.add_assoc j 1 k, Nat.add_comm 1 k]
/-- two neighbours put in order -/
def ce (i : Nat) (f : Nat → Int64) : Nat → Int64 := if f i ≤ f (i + 1) then f else vp_updL (vp_updL f i (f (i + 1))) (i + 1) (f i)
def srt (f : Nat → Int64) : Nat → Int64 := ce 0 (ce 1 (ce 0 (ce 2 (ce 1 (ce 0 f)))))
theorem ce_ne {i j : Nat} (f : Nat → Int64) (h1 : j ≠ i) (h2 : j ≠ i + 1) : ce i f j = f j := by
  unfold ce
  split
  · rfl
  · rw [updL_at, if_neg h2, updL_at, if_neg h1]
theorem ce_lo (i : Nat) (f : Nat → Int64) : ce i f i = if f i ≤ f (i + 1) then f i else f (i + 1) := by
  unfold ce
  split
  · rfl
  · rw [updL_at, if_neg (by omega), updL_at, if_pos rfl]
theorem ce_hi (i : Nat) (f : Nat → Int64) : ce i f (i + 1) = if f i ≤ f (i + 1) then f (i + 1) else f i := by
  unfold ce
  split
  · rfl
  · rw [updL_at, if_pos rfl]
theorem ce_le (i : Nat) (f : Nat → Int64) : (ce i f i).toInt ≤ (ce i f (i + 1)).toInt := by
  rw [ce_lo, ce_hi]
  by_cases h : f i ≤ f (i + 1)
  · rw [if_pos h, if_pos h]; exact i64_le.mp h
  · rw [if_neg h, if_neg h]; rw [i64_le] at h; omega
theorem ce_mx (i : Nat) (f : Nat → Int64) : (f i).toInt ≤ (ce i f (i + 1)).toInt ∧ (f (i + 1)).toInt ≤ (ce i f (i + 1)).toInt := by
  rw [ce_hi]
  by_cases h : f i ≤ f (i + 1)
  · rw [if_pos h]; rw [i64_le] at h; omega
  · rw [if_neg h]; rw [i64_le] at h; omega
theorem ce_ub {i : Nat} {f : Nat → Int64} {B : Int} (h1 : (f i).toInt ≤ B) (h2 : (f (i + 1)).toInt ≤ B) : (ce i f i).toInt ≤ B ∧ (ce i f (i + 1)).toInt ≤ B := by
  rw [ce_lo, ce_hi]
  split <;> omega
theorem ce_id {i : Nat} {f : Nat → Int64} (h : (f i).toInt ≤ (f (i + 1)).toInt) : ce i f = f := if_pos (i64_le.mpr h)
/-- the sorted row, and that more rounds don't change it -/
theorem srt_facts (f : Nat → Int64) : ((srt f 0).toInt ≤ (srt f 1).toInt ∧ (srt f 1).toInt ≤ (srt f 2).toInt ∧ (srt f 2).toInt ≤ (srt f 3).toInt) ∧ ce 2 (ce 1 (ce 0 (ce 2 (ce 1 (ce 0 f))))) = ce 1 (ce 0 (ce 2 (ce 1 (ce 0 f)))) := by
  generalize hA : ce 0 f = A
  have a1 : (A 0).toInt ≤ (A 1).toInt := by rw [← hA]; exact ce_le 0 f
  generalize hB : ce 1 A = B
  have b1 : (B 1).toInt ≤ (B 2).toInt := by rw [← hB]; exact ce_le 1 A
  have b2 : (A 1).toInt ≤ (B 2).toInt := by rw [← hB]; exact (ce_mx 1 A).1
  have b0 : B 0 = A 0 := by rw [← hB]; exact ce_ne A (by omega) (by omega)
  generalize hC : ce 2 B = C
  have c1 : (C 2).toInt ≤ (C 3).toInt := by rw [← hC]; exact ce_le 2 B
  have c2 : (B 2).toInt ≤ (C 3).toInt := by rw [← hC]; exact (ce_mx 2 B).1
  have c0 : C 0 = B 0 := by rw [← hC]; exact ce_ne B (by omega) (by omega)
  have c3 : C 1 = B 1 := by rw [← hC]; exact ce_ne B (by omega) (by omega)
  have k0 : (C 0).toInt ≤ (C 3).toInt := by rw [c0, b0]; omega
  have k1 : (C 1).toInt ≤ (C 3).toInt := by rw [c3]; omega
  generalize hDD : ce 0 C = DD
  have d1 : (DD 0).toInt ≤ (DD 1).toInt := by rw [← hDD]; exact ce_le 0 C
  have d2 : (DD 0).toInt ≤ (C 3).toInt ∧ (DD 1).toInt ≤ (C 3).toInt := by rw [← hDD]; exact ce_ub k0 k1
  have d3 : DD 2 = C 2 := by rw [← hDD]; exact ce_ne C (by omega) (by omega)
  have d4 : DD 3 = C 3 := by rw [← hDD]; exact ce_ne C (by omega) (by omega)
  generalize hE : ce 1 DD = E
  have e1 : (E 1).toInt ≤ (E 2).toInt := by rw [← hE]; exact ce_le 1 DD
  have e2 : (DD 1).toInt ≤ (E 2).toInt := by rw [← hE]; exact (ce_mx 1 DD).1
  have e3 : (E 2).toInt ≤ (C 3).toInt := by rw [← hE]; exact (ce_ub (B := (C 3).toInt) d2.2 (by rw [d3]; exact c1)).2
  have e0 : E 0 = DD 0 := by rw [← hE]; exact ce_ne DD (by omega) (by omega)
  have e4 : E 3 = C 3 := by rw [← hE, ce_ne DD (by omega) (by omega), d4]
  have hs : srt f = ce 0 E := by rw [← hE, ← hDD, ← hC, ← hB, ← hA]; rfl
  rw [hs]
  have f1 := ce_le 0 E
  have f2 := (ce_ub (i := 0) (f := E) (B := (E 2).toInt) (by rw [e0]; omega) e1).2
  refine ⟨⟨f1, ?_, ?_⟩, ce_id (by rw [e4]; exact e3)⟩
  · rw [ce_ne E (j := 2) (by omega) (by omega)]; exact f2
  · rw [ce_ne E (j := 2) (by omega) (by omega), ce_ne E (j := 3) (by omega) (by omega), e4]; exact e3
theorem ord_step (x1 : Int32) (n i : Nat) (hi : i < 3) (h : nI i < x1) (f : Nat → Int64) (k : Int32 → (Nat → Int64) → Option (Nat → Int64)) : pX8_order_L8 x1 (n + 1) (nI i) f k = pX8_order_L8 x1 n (nI (i + 1)) (ce i f) k := by
  conv => lhs; unfold pX8_order_L8
  rw [if_neg (by rw [i32_lt] at h; rw [i32_le]; omega), ck_t (ix_nI (by omega) (by omega)), nI_1, ck_t (ix_nI (by omega) (by omega)), nI_clamp (by omega), nI_clamp (by omega)]
  unfold ce
  by_cases h9 : f i ≤ f (i + 1)
  · rw [if_pos h9, if_pos h9]
  · rw [if_neg h9, if_neg h9]
theorem ord_end (x1 : Nat) (hx : x1 < 4) (n : Nat) (f : Nat → Int64) (k : Int32 → (Nat → Int64) → Option (Nat → Int64)) : pX8_order_L8 (nI x1) (n + 1) (nI x1) f k = k (nI x1) f := by
  rw [pX8_order_L8, if_pos (by rw [nI_leI (by omega) (by omega)]; omega)]
theorem ord_out (x1 : Nat) (hx : x1 < 4) (h0 : 0 < x1) (n : Nat) (f : Nat → Int64) (k : Int32 → (Nat → Int64) → Option (Nat → Int64)) : pX8_order_L2 (n + 1) (nI x1) f k = pX8_order_L8 (nI x1) n (nI 0) f (fun _ u => pX8_order_L2 n (nI (x1 - 1)) u k) := by
  rw [pX8_order_L2, if_neg (nI_nle h0 (by omega))]
  have e : nI x1 + (-1 : Int32) = nI (x1 - 1) := sb_m1 h0
  rw [e, show (0 : Int32) = nI 0 from rfl]
theorem ox_eq (m : Nat) (f : Nat → Int64) : pX8_order (m + 10) f = some (srt f) := by
  unfold pX8_order
  rw [show (3 : Int32) = nI 3 from rfl, ord_out 3 (by omega) (by omega) (m + 9)]
  rw [ord_step (nI 3) (m + 8) 0 (by omega) (by decide), ord_step (nI 3) (m + 7) 1 (by omega) (by decide), ord_step (nI 3) (m + 6) 2 (by omega) (by decide), ord_end 3 (by omega) (m + 5)]
  rw [ord_out (3 - 1) (by omega) (by omega) (m + 8)]
  rw [ord_step (nI (3 - 1)) (m + 7) 0 (by omega) (by decide), ord_step (nI (3 - 1)) (m + 6) 1 (by omega) (by decide), ord_end (3 - 1) (by omega) (m + 5)]
  rw [ord_out (3 - 1 - 1) (by omega) (by omega) (m + 7)]
  rw [ord_step (nI (3 - 1 - 1)) (m + 6) 0 (by omega) (by decide), ord_end (3 - 1 - 1) (by omega) (m + 5)]
  rw [pX8_order_L2, if_pos (by decide), srt]
theorem srt_step (n i : Nat) (hi : i < 3) (f : Nat → Int64) (k : Int32 → (Nat → Int64) → Option (Nat → Int64)) : pX9_sortsRoot_L9 (n + 1) (nI i) f k = pX9_sortsRoot_L9 n (nI (i + 1)) (ce i f) k := by
  have e1 : ∀ g : Nat → Int64, vp_updL (vp_updL g i (g i)) (i + 1) (g (i + 1)) = g := fun g => by
    funext j
    rw [updL_at, updL_at]
    split
    · rename_i h; rw [h]
    · split
      · rename_i h; rw [h]
      · rfl
  conv => lhs; unfold pX9_sortsRoot_L9
  rw [if_neg (by rw [show (3 : Int32) = nI 3 from rfl, nI_leI (by omega) (by omega)]; omega), ck_t (ix_nI (by omega) (by omega)), nI_1, ck_t (ix_nI (by omega) (by omega)), nI_clamp (by omega), nI_clamp (by omega)]
  by_cases h : f (i + 1) ≤ f i
  · rw [if_pos h, if_pos h]
    congr 1
    unfold ce
    by_cases h2 : f i ≤ f (i + 1)
    · rw [if_pos h2]
      have e2 : f i = f (i + 1) := by rw [i64_eq]; rw [i64_le] at h h2; omega
      rw [e2]
      have := e1 f
      rw [e2] at this
      exact this
    · rw [if_neg h2]
  · rw [if_neg h, if_neg h]
    congr 1
    rw [e1, ce_id (by rw [i64_le] at h; omega)]
theorem srt_end (n : Nat) (f : Nat → Int64) (k : Int32 → (Nat → Int64) → Option (Nat → Int64)) : pX9_sortsRoot_L9 (n + 1) (nI 3) f k = k (nI 3) f := by
  rw [pX9_sortsRoot_L9, if_pos (by decide)]
theorem srt_out (i : Nat) (hi : i < 4) (n : Nat) (f : Nat → Int64) (k : Int32 → (Nat → Int64) → Option (Nat → Int64)) : pX9_sortsRoot_L2 (n + 1) (nI i) f k = pX9_sortsRoot_L9 n (nI 0) f (fun _ u => pX9_sortsRoot_L2 n (nI (i + 1)) u k) := by
  rw [pX9_sortsRoot_L2, if_neg (by rw [show (4 : Int32) = nI 4 from rfl, nI_leI (by omega) (by omega)]; omega), nI_1, show (0 : Int32) = nI 0 from rfl]
theorem om_eq (m : Nat) (f : Nat → Int64) : pX9_sortsRoot (m + 10) f = some (srt f) := by
  obtain ⟨⟨s1, s2, s3⟩, e2⟩ := srt_facts f
  unfold pX9_sortsRoot
  rw [show (0 : Int32) = nI 0 from rfl, srt_out 0 (by omega) (m + 9)]
  rw [srt_step (m + 8) 0 (by omega), srt_step (m + 7) 1 (by omega), srt_step (m + 6) 2 (by omega), srt_end (m + 5), srt_out (0 + 1) (by omega) (m + 8)]
  rw [srt_step (m + 7) 0 (by omega), srt_step (m + 6) 1 (by omega), srt_step (m + 5) 2 (by omega), e2, srt_end (m + 4), srt_out (0 + 1 + 1) (by omega) (m + 7)]
  rw [srt_step (m + 6) 0 (by omega), srt_step (m + 5) 1 (by omega), srt_step (m + 4) 2 (by omega)]
  have e3 : ce 0 (ce 1 (ce 0 (ce 2 (ce 1 (ce 0 f))))) = srt f := rfl
  rw [e3, ce_id s2, ce_id s3, srt_end (m + 3), srt_out (0 + 1 + 1 + 1) (by omega) (m + 6)]
  rw [srt_step (m + 5) 0 (by omega), srt_step (m + 4) 1 (by omega), srt_step (m + 3) 2 (by omega), ce_id s1, ce_id s2, ce_id s3, srt_end (m + 2)]
  rw [pX9_sortsRoot_L2, if_pos (by decide)]
