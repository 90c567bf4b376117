/-! remainders: x -/
def FD (m c : Nat) (f : Nat → Int32) : Prop := ∀ q, q < 4 → f q = nI (dg m c q)
def QX (Q : List Nat) (size : Int32) (met : Nat → Int64) (queue : Nat → Int32) : Prop := size = nI Q.length ∧ (∀ i c, Q[i]? = some c → queue i = nI c) ∧ ∀ c, c < 20736 → (met (c / 64)).toBitVec.getLsbD (c % 64) = decide (c ∈ Q)
theorem pw12 {m : Nat} (h : m ≤ 12) : m ^ 4 ≤ 20736 := Nat.le_trans (Nat.pow_le_pow_left h 4) (by decide)
theorem pa_eq (k : Nat) (f : Nat → Int32) (x : Int32) : pX2_pack (k + 5) f x = some ((((0 * x + f 3) * x + f 2) * x + f 1) * x + f 0) := rfl
theorem pa_nI (k m a b c d : Nat) {f : Nat → Int32} (h0 : f 0 = nI a) (h1 : f 1 = nI b) (h2 : f 2 = nI c) (h3 : f 3 = nI d) : pX2_pack (k + 5) f (nI m) = some (nI (pk4 m a b c d)) := by
  rw [pa_eq, h0, h1, h2, h3, show (0 : Int32) = nI 0 from rfl]
  simp only [pk_mul, nI_add]
  rw [show (((0 * m + d) * m + c) * m + b) * m + a = pk4 m a b c d by unfold pk4; grind]
theorem me_eq (k m a b c d : Nat) {f : Nat → Int32} (h0 : f 0 = nI a) (h1 : f 1 = nI b) (h2 : f 2 = nI c) (h3 : f 3 = nI d) (hc : pk4 m a b c d < 20736) {Q : List Nat} {size : Int32} {met : Nat → Int64} {queue : Nat → Int32} (hQ : QX Q size met queue) (hl : pk4 m a b c d ∉ Q → Q.length < 1220) : ∃ s2 m2 q2, pX2_meet (k + 5) size met queue f (nI m) = some (s2, m2, q2) ∧ QX (addq Q (pk4 m a b c d)) s2 m2 q2 := by
  rw [pX2_meet, pa_nI k m a b c d h0 h1 h2 h3, Option.bind_some]
  generalize pk4 m a b c d = w at hc hl ⊢
  obtain ⟨q1, q2, q3⟩ := hQ
  rw [show (64 : Int32) = nI 64 from rfl, pk_div (by omega) (by decide) (by decide), ck_t (ix_nI (show w / 64 < 324 by omega) (by omega)), show nI w - nI (w / 64) * nI 64 = nI (w % 64) by rw [← pk_div (show w < 2 ^ 31 by omega) (by decide) (by decide), pk_rem (by omega) (by decide) (by decide)], nI_clamp (show w / 64 < 2 ^ 31 by omega)]
  have hb := bt_0 (met (w / 64)) (k := w % 64) (by omega)
  rw [q3 w hc] at hb
  by_cases hw : w ∈ Q
  · refine ⟨size, met, queue, ?_, ?_⟩
    · rw [if_neg (fun h => by have := hb.mp h; rw [decide_eq_true hw] at this; exact absurd this (by decide))]
    · unfold addq; rw [if_pos hw]; exact ⟨q1, q2, q3⟩
  · have hlen := hl hw
    refine ⟨nI (Q.length + 1), vp_updL met (w / 64) (met (w / 64) ||| ((1 : Int64) <<< ((nI (w % 64)).toInt64 &&& 63))), upd queue Q.length (nI w), ?_, ?_⟩
    · rw [if_pos (hb.mpr (decide_eq_false hw)), q1, if_neg (by rw [show (1220 : Int32) = nI 1220 from rfl, nI_leI (by omega) (by omega)]; omega), ck_t (ix_nI hlen (by omega)), nI_clamp (by omega), show nI Q.length + 1 = nI (Q.length + 1) from nI_add _ 1]
    · unfold addq; rw [if_neg hw]
      refine ⟨by rw [List.length_append]; rfl, fun i c hi => ?_, fun c hc' => ?_⟩
      · by_cases q : i < Q.length
        · rw [List.getElem?_append_left q] at hi
          rw [pk_un (by omega)]; exact q2 i c hi
        · rw [List.getElem?_append_right (by omega)] at hi
          have : i - Q.length = 0 := by
            by_cases q' : i - Q.length = 0
            · exact q'
            · rw [List.getElem?_eq_none (by simp; omega)] at hi; exact absurd hi (by simp)
          rw [this] at hi
          simp only [List.getElem?_cons_zero, Option.some.injEq] at hi
          obtain rfl : i = Q.length := by omega
          rw [pk_us, hi]
      · rw [updL_at]
        by_cases q : c / 64 = w / 64
        · rw [if_pos q, bt_1 _ (by omega) (by omega), ← q, q3 c hc']
          by_cases q' : c = w
          · subst q'; simp
          · have : ¬ c % 64 = w % 64 := by omega
            simp [this, q']
        · rw [if_neg q, q3 c hc']
          have : ¬ c = w := fun h => q (by rw [h])
          simp [this]
theorem twx (m c p : Nat) (h2 : 2 ≤ m) (h12 : m ≤ 12) (hp : p < 4) {f : Nat → Int32} (hf : FD m c f) : ∃ r, pJ9_floorMod_7cf53 (((2 : Int32) * (((((f 0) + (f 1)) + (f 2)) + (f 3)) - (f p))) - (f p)) (nI m) = some r ∧ r = nI (tw m c p) := by
  have l0 := dg_lt (show 0 < m by omega) c 0; have l1 := dg_lt (show 0 < m by omega) c 1; have l2 := dg_lt (show 0 < m by omega) c 2; have l3 := dg_lt (show 0 < m by omega) c 3
  have lp := dg_lt (show 0 < m by omega) c p
  have hle : dg m c p ≤ dg m c 0 + dg m c 1 + dg m c 2 + dg m c 3 := by
    match p, hp with
    | 0, _ => omega
    | 1, _ => omega
    | 2, _ => omega
    | 3, _ => omega
  rw [hf 0 (by omega), hf 1 (by omega), hf 2 (by omega), hf 3 (by omega), hf p hp, nI_add, nI_add, nI_add, pk_sub hle, show (2 : Int32) = nI 2 from rfl, pk_mul]
  have ht : tw m c p = (2 * (dg m c 0 + dg m c 1 + dg m c 2 + dg m c 3 - dg m c p) + m - dg m c p) % m := rfl
  generalize hA : 2 * (dg m c 0 + dg m c 1 + dg m c 2 + dg m c 3 - dg m c p) = A at ht ⊢
  have hA2 : A < 200 := by omega
  have hv := pk_sub_toInt (a := A) (b := dg m c p) (by omega) (by omega)
  obtain ⟨r, h1, h2'⟩ := fm32 (a := nI A - nI (dg m c p)) (b := nI m) (m := (m : Int)) (nI_toInt (by omega)) (by omega) (by omega) (by omega) (by omega)
  refine ⟨r, h1, ?_⟩
  rw [i32_eq, h2', hv, nI_toInt (by have := tw_lt (show 0 < m by omega) c p; omega), ht]
  have e : (((A + m - dg m c p : Nat)) : Int) = ((A : Int) - dg m c p) + m := by omega
  rw [Int.natCast_emod, e, Int.add_emod_right]
theorem mt_eq (k : Nat) {m c p : Nat} (h2 : 2 ≤ m) (h12 : m ≤ 12) (hc : c < m ^ 4) (hp : p < 4) {f : Nat → Int32} (hf : FD m c f) {Q : List Nat} {size : Int32} {met : Nat → Int64} {queue : Nat → Int32} (hQ : QX Q size met queue) (hl : tc m c p ∉ Q → Q.length < 1220) : ∃ s2 m2 q2 f2, pX2_meetTurned (k + 5) size met queue f (nI p) (nI m) = some (s2, m2, q2, f2) ∧ QX (addq Q (tc m c p)) s2 m2 q2 ∧ FD m c f2 := by
  obtain ⟨r, hr, rfl⟩ := twx m c p h2 h12 hp hf
  have ht := tc_st (show 0 < m by omega) hc hp
  have h20 := Nat.lt_of_lt_of_le (tc_lt (show 0 < m by omega) hc hp) (pw12 h12)
  rw [ht] at hl h20 ⊢
  unfold st4 at hl h20 ⊢
  rw [pX2_meetTurned, ck_t (ix_nI hp (by omega)), nI_clamp (by omega), tn_0, tn_1, tn_2, tn_3, hr, Option.bind_some]
  have hu : ∀ q, q < 4 → upd f p (nI (tw m c p)) q = nI (if p = q then tw m c p else dg m c q) := fun q hq => by
    by_cases e : p = q
    · subst e; rw [if_pos rfl, pk_us]
    · rw [if_neg e, pk_un (fun h => e h.symm), hf q hq]
  obtain ⟨s2, m2, q2, e1, e2⟩ := me_eq k m _ _ _ _ (hu 0 (by omega)) (hu 1 (by omega)) (hu 2 (by omega)) (hu 3 (by omega)) h20 hQ hl
  rw [e1, Option.bind_some]
  refine ⟨s2, m2, q2, _, rfl, e2, fun q hq => ?_⟩
  by_cases e : q = p
  · subst e; rw [pk_us, hf q hq]
  · rw [pk_un e, pk_un e, hf q hq]
