theorem g11b {T : Int} {lim : Int64} (hL : lim.toInt = T) (p4 : Int64) (root : Nat → Int64) (k : Nat) {j : Nat} (hj : j < 4) {c : Nat} (jm : Int32) (hb : Nat → Int32) (kk : Int32 → Int32 → Int32 → (Nat → Int32) → Option (Int32 × Int32 × (Nat → Int64) × (Nat → Int32) × (Nat → Int32) × (Nat → Int32))) : ∃ jm' hb', pX9_goesUpTo_L11 lim p4 root (k + 1) (nI c) (nI j) jm hb kk = pX9_goesUpTo_L11 lim p4 root k (nI (c + ([(root j).toInt].filter (fun x => decide (x ≤ T))).length)) (nI (j + 1)) jm' hb' kk := by
  rw [pX9_goesUpTo_L11, if_neg (by rw [show (4 : Int32) = nI 4 from rfl, nI_leI (by omega) (by omega)]; omega), ck_t (ix_nI hj (by omega)), nI_clamp (by omega), show nI j + 1 = nI (j + 1) from nI_add j 1]
  by_cases c1 : lim < root j
  · rw [if_pos c1]
    rw [i64_lt, hL] at c1
    rw [List.filter_cons, if_neg (by simp; omega), List.filter_nil]
    exact ⟨jm, hb, rfl⟩
  · rw [if_neg c1]
    rw [i64_lt, hL] at c1
    obtain ⟨jm', hb', b1⟩ := cb_any jm hb (root j) p4
    rw [b1, Option.bind_some, List.filter_cons, if_pos (by simp; omega), List.filter_nil, show nI c + 1 = nI (c + 1) from nI_add c 1]
    exact ⟨jm', hb', rfl⟩
theorem gu2_eq {n : Nat} {first root : Nat → Int64} (hr : RO (zq first)) (h3 : 1 ≤ zq first 3) (he : eq4 root first) {T : Int} (hT : T ≤ 10000000000000000) (hB : ∀ j, j < 4 → -10000000000000000 ≤ zq first j ∧ zq first j ≤ 10000000000000000) {lim : Int64} (hL : lim.toInt = T) {L : Nat} (hL2 : L ≤ 2590) (p4 : Int64) (pile : Nat → Int64) (last next hb : Nat → Int32) (hn : 50000 ≤ n) : ∃ y jm' pile' last' next' hb', pX9_goesUpTo n root pile last next hb lim (nI L) p4 = some (nI y, jm', pile', last', next', hb') ∧ y ≤ 2594 ∧ (y = NC (zq first) T ∨ (L ≤ y ∧ y ≤ NC (zq first) T)) := by
  obtain ⟨k, hk⟩ : ∃ k, n = k + 1 + 1 + 1 + 1 + 1 := ⟨n - 5, by omega⟩
  obtain ⟨z, l1, l2⟩ := la_0 k root pile last next
  rw [show k + 5 = n by omega] at l1
  have KK := fun kk => g11b hL p4 root (k + 1 + 1 + 1 + 1) (j := 0) (by omega) (c := 0) 0 hb kk
  generalize hkk : (fun (y6_5 : Int32) (y7_5 : Int32) (u5_justMany : Int32) (u5_hasBend : (Nat → Int32)) => Option.bind (pX9_lays n root pile last next (0 : Int32) (-9 : Int32) (0 : Int64)) (fun r6 => pX9_goesUpTo_L62 lim (nI L) p4 root n y6_5 (0 : Int32) u5_justMany r6.1 r6.2.1 r6.2.2 u5_hasBend (fun (y6_16 : Int32) (y7_16 : Int32) (u16_justMany : Int32) (u16_pile : (Nat → Int64)) (u16_lastAt : (Nat → Int32)) (u16_nextAt : (Nat → Int32)) (u16_hasBend : (Nat → Int32)) => some (y6_16, u16_justMany, u16_pile, u16_lastAt, u16_nextAt, u16_hasBend)))) = kf
  obtain ⟨j1, b1, a1⟩ := KK kf
  obtain ⟨j2, b2, c1⟩ := g11b hL p4 root (k + 1 + 1 + 1) (j := 1) (by omega) j1 b1 kf
  obtain ⟨j3, b3, d1⟩ := g11b hL p4 root (k + 1 + 1) (j := 2) (by omega) j2 b2 kf
  obtain ⟨j4, b4, e1⟩ := g11b hL p4 root (k + 1) (j := 3) (by omega) j3 b3 kf
  have hroot : [(root 0).toInt].filter (fun x => decide (x ≤ T)) ++ [(root 1).toInt].filter (fun x => decide (x ≤ T)) ++ [(root 2).toInt].filter (fun x => decide (x ≤ T)) ++ [(root 3).toInt].filter (fun x => decide (x ≤ T)) = [zq first 0, zq first 1, zq first 2, zq first 3].filter (fun x => decide (x ≤ T)) := by
    unfold zq
    rw [he.1, he.2.1, he.2.2.1, he.2.2.2, ← List.filter_append, ← List.filter_append, ← List.filter_append]
    rfl
  have hcnt : 0 + ([(root 0).toInt].filter (fun x => decide (x ≤ T))).length + ([(root 1).toInt].filter (fun x => decide (x ≤ T))).length + ([(root 2).toInt].filter (fun x => decide (x ≤ T))).length + ([(root 3).toInt].filter (fun x => decide (x ≤ T))).length = ([zq first 0, zq first 1, zq first 2, zq first 3].filter (fun x => decide (x ≤ T))).length := by
    rw [← hroot, List.length_append, List.length_append, List.length_append]; omega
  have h4 := List.length_filter_le (fun x => decide (x ≤ T)) [zq first 0, zq first 1, zq first 2, zq first 3]
  simp only [List.length_cons, List.length_nil] at h4
  obtain ⟨y, y7, jm2, pile2, last2, next2, hb2, i1, i0, i2⟩ := gl2_eq hr h3 hT hB hL hL2 (p4 := p4) root (fun (y6_16 : Int32) (y7_16 : Int32) (u16_justMany : Int32) (u16_pile : (Nat → Int64)) (u16_lastAt : (Nat → Int32)) (u16_nextAt : (Nat → Int32)) (u16_hasBend : (Nat → Int32)) => some (y6_16, u16_justMany, u16_pile, u16_lastAt, u16_nextAt, u16_hasBend)) (5 * 2590 + 5) (fr (zq first) 4 T 0) [] 0 ([zq first 0, zq first 1, zq first 2, zq first 3].filter (fun x => decide (x ≤ T))).length n j4 z (upd last 0 (-9)) (upd next 0 0) b4 (by show _ + 5 ≤ _; omega) rfl trivial (by omega) ⟨fun j hj => by rw [Nat.mul_zero, Nat.zero_add, l2 j hj, he.at hj]; rfl, by rw [pk_us], by rw [pk_us]; rfl⟩ (Nat.zero_le _) (by omega) (by omega)
  refine ⟨y, jm2, pile2, last2, next2, hb2, ?_, by omega, ?_⟩
  · rw [pX9_goesUpTo, hkk]
    rw [← hk] at a1
    refine Eq.trans a1 <| Eq.trans c1 <| Eq.trans d1 <| Eq.trans e1 ?_
    rw [hcnt, pX9_goesUpTo_L11, if_pos (by decide), ← hkk]
    dsimp only
    rw [l1, Option.bind_some]
    exact i1
  · have e : ([zq first 0, zq first 1, zq first 2, zq first 3].filter (fun x => decide (x ≤ T))).length + (fr (zq first) 4 T 0).length = NC (zq first) T := by
      rw [NC, cir_eq hr, List.length_append]
    rw [e] at i2
    exact i2
theorem nc_mono {r : Nat → Int} (hr : RO r) {a b : Int} (h : a ≤ b) : NC r a ≤ NC r b := by
  rw [NC, ← cir_flt hr h, NC]
  exact List.length_filter_le _ _
/-- the model's halving -/
theorem bs_eq {first root : Nat → Int64} (hr : RO (zq first)) (h3 : 1 ≤ zq first 3) (he : eq4 root first) (hB : ∀ j, j < 4 → -10000000000000000 ≤ zq first j ∧ zq first j ≤ 10000000000000000) {k : Nat} (hk : k ≤ 2000) (m : Nat) (kk : Int64 → Int64 → Int32 → (Nat → Int64) → (Nat → Int32) → (Nat → Int32) → (Nat → Int32) → Option (Int64 × Int32 × Int32 × (Nat → Int64) × (Nat → Int64) × (Nat → Int32) × (Nat → Int32) × (Nat → Int32))) : ∀ (s : Nat) (hi lo : Int64) (jm : Int32) (pile : Nat → Int64) (la ne hb : Nat → Int32), 1 ≤ hi.toInt - lo.toInt → hi.toInt - lo.toInt ≤ ((2 ^ s : Nat) : Int) → -10000000000000000 ≤ lo.toInt → hi.toInt ≤ 10000000000000000 → NC (zq first) lo.toInt ≤ k → k < NC (zq first) hi.toInt →
    ∃ v y4 jm' pile' la' ne' hb', pX9_least_L63 (nI k) root (m + 50000 + s + 1) hi lo jm pile la ne hb kk = kk v y4 jm' pile' la' ne' hb' ∧ NC (zq first) (v.toInt - 1) ≤ k ∧ k < NC (zq first) v.toInt := by
  intro s
  induction s with
  | zero =>
    intro hi lo jm pile la ne hb h1 h2 h4 h5 h6 h7
    have e1 : (1 : Int64).toInt = 1 := rfl
    have hd : hi.toInt - lo.toInt = 1 := by have : ((2 ^ 0 : Nat) : Int) = 1 := rfl; omega
    have hs := i64_sub (a := hi) (b := lo) (by omega) (by omega)
    refine ⟨hi, lo, jm, pile, la, ne, hb, ?_, by rw [show hi.toInt - 1 = lo.toInt by omega]; exact h6, h7⟩
    rw [pX9_least_L63, if_pos (by rw [i64_le, hs, e1]; omega)]
  | succ s ih =>
    intro hi lo jm pile la ne hb h1 h2 h4 h5 h6 h7
    have e1 : (1 : Int64).toInt = 1 := rfl
    have hs := i64_sub (a := hi) (b := lo) (by omega) (by omega)
    rw [show m + 50000 + (s + 1) + 1 = m + 50000 + s + 1 + 1 by omega, pX9_least_L63]
    by_cases c : (hi - lo) ≤ (1 : Int64)
    · rw [if_pos c]
      rw [i64_le, hs, e1] at c
      exact ⟨hi, lo, jm, pile, la, ne, hb, rfl, by rw [show hi.toInt - 1 = lo.toInt by omega]; exact h6, h7⟩
    · rw [if_neg c]
      rw [i64_le, hs, e1] at c
      have hD : hi - lo = lN (hi.toInt - lo.toInt).toNat := by rw [i64_eq, pk_lT (by omega), hs]; omega
      have hdiv : (hi - lo) / (2 : Int64) = lN ((hi.toInt - lo.toInt).toNat / 2) := by
        rw [hD, show (2 : Int64) = lN 2 from rfl, pk_lDiv (by omega) (by decide) (by decide)]
      rw [hdiv]
      have hdi := pk_lT (n := (hi.toInt - lo.toInt).toNat / 2) (by omega)
      have hmid := i64_add (a := lo) (b := lN ((hi.toInt - lo.toInt).toNat / 2)) (by omega) (by omega)
      rw [hdi] at hmid
      generalize lo + lN ((hi.toInt - lo.toInt).toNat / 2) = mid at hmid ⊢
      have hp2 : ((2 ^ (s + 1) : Nat) : Int) = 2 * ((2 ^ s : Nat) : Int) := by rw [Nat.pow_succ]; omega
      obtain ⟨y, jm2, pi2, la2, ne2, hb2, g1, g2, g3⟩ := gu2_eq (n := m + 50000 + s + 1) (L := k + 1) hr h3 he (T := mid.toInt) (by omega) hB (lim := mid) rfl (by omega) (-9223372036854775808) pile la ne hb (by omega)
      rw [show nI k + 1 = nI (k + 1) from nI_add k 1, g1, Option.bind_some]
      dsimp only
      by_cases cy : y ≤ k
      · rw [if_pos (by rw [nI_leI (by omega) (by omega)]; exact cy)]
        exact ih hi mid jm2 pi2 la2 ne2 hb2 (by omega) (by omega) (by omega) h5 (by omega) h7
      · rw [if_neg (by rw [nI_leI (by omega) (by omega)]; exact cy)]
        exact ih mid lo jm2 pi2 la2 ne2 hb2 (by omega) (by omega) h4 (by omega) h6 (by omega)
