theorem g11 {T : Int} {lim : Int64} (hL : lim.toInt = T) {p4 : Int64} {w : Int} (hw : p4.toInt = w) (root : Nat → Int64) (k : Nat) {j : Nat} (hj : j < 4) {c : Nat} {Lst : List Int} {jm : Int32} {hb : Nat → Int32} (hC : CB Lst w jm hb) (kk : Int32 → Int32 → Int32 → (Nat → Int32) → Option (Int32 × Int32 × (Nat → Int64) × (Nat → Int32) × (Nat → Int32) × (Nat → Int32))) : ∃ jm' hb', pX9_goesUpTo_L11 lim p4 root (k + 1) (nI c) (nI j) jm hb kk = pX9_goesUpTo_L11 lim p4 root k (nI (c + ([(root j).toInt].filter (fun x => decide (x ≤ T))).length)) (nI (j + 1)) jm' hb' kk ∧ CB (Lst ++ [(root j).toInt].filter (fun x => decide (x ≤ T))) w jm' hb' := by
  rw [pX9_goesUpTo_L11, if_neg (by rw [show (4 : Int32) = nI 4 from rfl, nI_leI (by omega) (by omega)]; omega), ck_t (ix_nI hj (by omega)), nI_clamp (by omega), show nI j + 1 = nI (j + 1) from nI_add j 1]
  by_cases c1 : lim < root j
  · rw [if_pos c1]
    rw [i64_lt, hL] at c1
    rw [List.filter_cons, if_neg (by simp; omega), List.filter_nil, List.append_nil]
    exact ⟨jm, hb, rfl, hC⟩
  · rw [if_neg c1]
    rw [i64_lt, hL] at c1
    obtain ⟨jm', hb', b1, b2⟩ := cb_eq hC (root j) hw
    rw [b1, Option.bind_some, List.filter_cons, if_pos (by simp; omega), List.filter_nil, show nI c + 1 = nI (c + 1) from nI_add c 1]
    exact ⟨jm', hb', rfl, b2⟩
theorem gu_eq {n : Nat} {first root : Nat → Int64} (hr : RO (zq first)) (h3 : 1 ≤ zq first 3) (he : eq4 root first) {T : Int} (hT : T ≤ 10000000000000000) (hB : ∀ j, j < 4 → -10000000000000000 ≤ zq first j ∧ zq first j ≤ 10000000000000000) (HD : ∀ ps, VP (zq first) T ps → ps.length ≤ 2590) {lim : Int64} (hL : lim.toInt = T) {L : Nat} (hL2 : L < 2 ^ 31) {p4 : Int64} {w : Int} (hw : p4.toInt = w) (pile : Nat → Int64) (last next hb : Nat → Int32) (hC : CB [] w 0 hb) (hn : 5 * (fr (zq first) 4 T 0).length + 100 ≤ n) (hlen : (fr (zq first) 4 T 0).length < 2000000000) : ∃ y jm' pile' last' next' hb', pX9_goesUpTo n root pile last next hb lim (nI L) p4 = some (nI y, jm', pile', last', next', hb') ∧ ((y = NC (zq first) T ∧ CB (cir (zq first) T) w jm' hb') ∨ (L ≤ y ∧ y ≤ NC (zq first) T)) := by
  obtain ⟨k, hk⟩ : ∃ k, n = k + 1 + 1 + 1 + 1 + 1 := ⟨n - 5, by omega⟩
  obtain ⟨z, l1, l2⟩ := la_0 k root pile last next
  rw [show k + 5 = n by omega] at l1
  have KK := fun kk => g11 hL hw root (k + 1 + 1 + 1 + 1) (j := 0) (by omega) (c := 0) hC kk
  generalize hkk : (fun (y6_5 : Int32) (y7_5 : Int32) (u5_justMany : Int32) (u5_hasBend : (Nat → Int32)) => Option.bind (pX9_lays n root pile last next (0 : Int32) (-9 : Int32) (0 : Int64)) (fun r6 => pX9_goesUpTo_L62 lim (nI L) p4 root n y6_5 (0 : Int32) u5_justMany r6.1 r6.2.1 r6.2.2 u5_hasBend (fun (y6_16 : Int32) (y7_16 : Int32) (u16_justMany : Int32) (u16_pile : (Nat → Int64)) (u16_lastAt : (Nat → Int32)) (u16_nextAt : (Nat → Int32)) (u16_hasBend : (Nat → Int32)) => some (y6_16, u16_justMany, u16_pile, u16_lastAt, u16_nextAt, u16_hasBend)))) = kf
  obtain ⟨j1, b1, a1, a2⟩ := KK kf
  obtain ⟨j2, b2, c1, c2⟩ := g11 hL hw root (k + 1 + 1 + 1) (j := 1) (by omega) a2 kf
  obtain ⟨j3, b3, d1, d2⟩ := g11 hL hw root (k + 1 + 1) (j := 2) (by omega) c2 kf
  obtain ⟨j4, b4, e1, e2⟩ := g11 hL hw root (k + 1) (j := 3) (by omega) d2 kf
  have hroot : [(root 0).toInt].filter (fun x => decide (x ≤ T)) ++ [(root 1).toInt].filter (fun x => decide (x ≤ T)) ++ [(root 2).toInt].filter (fun x => decide (x ≤ T)) ++ [(root 3).toInt].filter (fun x => decide (x ≤ T)) = [zq first 0, zq first 1, zq first 2, zq first 3].filter (fun x => decide (x ≤ T)) := by
    unfold zq
    rw [he.1, he.2.1, he.2.2.1, he.2.2.2, ← List.filter_append, ← List.filter_append, ← List.filter_append]
    rfl
  rw [List.nil_append, hroot] at e2
  have hcnt : 0 + ([(root 0).toInt].filter (fun x => decide (x ≤ T))).length + ([(root 1).toInt].filter (fun x => decide (x ≤ T))).length + ([(root 2).toInt].filter (fun x => decide (x ≤ T))).length + ([(root 3).toInt].filter (fun x => decide (x ≤ T))).length = ([zq first 0, zq first 1, zq first 2, zq first 3].filter (fun x => decide (x ≤ T))).length := by
    rw [← hroot, List.length_append, List.length_append, List.length_append]; omega
  have h4 := List.length_filter_le (fun x => decide (x ≤ T)) [zq first 0, zq first 1, zq first 2, zq first 3]
  simp only [List.length_cons, List.length_nil] at h4
  obtain ⟨y, y7, jm2, pile2, last2, next2, hb2, i1, i2⟩ := gl_eq hr h3 hT hB HD hL hL2 hw root (fun (y6_16 : Int32) (y7_16 : Int32) (u16_justMany : Int32) (u16_pile : (Nat → Int64)) (u16_lastAt : (Nat → Int32)) (u16_nextAt : (Nat → Int32)) (u16_hasBend : (Nat → Int32)) => some (y6_16, u16_justMany, u16_pile, u16_lastAt, u16_nextAt, u16_hasBend)) (5 * (fr (zq first) 4 T 0).length + 5) (fr (zq first) 4 T 0) [] 0 ([zq first 0, zq first 1, zq first 2, zq first 3].filter (fun x => decide (x ≤ T))).length n _ j4 z (upd last 0 (-9)) (upd next 0 0) b4 (by show _ + 5 ≤ _; omega) rfl trivial (by omega) ⟨fun j hj => by rw [Nat.mul_zero, Nat.zero_add, l2 j hj, he.at hj]; rfl, by rw [pk_us], by rw [pk_us]; rfl⟩ e2 (by omega) (by omega)
  refine ⟨y, jm2, pile2, last2, next2, hb2, ?_, ?_⟩
  · rw [pX9_goesUpTo, hkk]
    rw [← hk] at a1
    refine Eq.trans a1 <| Eq.trans c1 <| Eq.trans d1 <| Eq.trans e1 ?_
    rw [hcnt, pX9_goesUpTo_L11, if_pos (by decide), ← hkk]
    dsimp only
    rw [l1, Option.bind_some]
    exact i1
  · rw [← cir_eq hr] at i2
    have e : ([zq first 0, zq first 1, zq first 2, zq first 3].filter (fun x => decide (x ≤ T))).length + (fr (zq first) 4 T 0).length = NC (zq first) T := by
      rw [NC, cir_eq hr, List.length_append]
    rw [e] at i2
    exact i2
theorem a3_eq (k : Nat) (kk : Int32 → (Nat → Int32) → Option (Int32 × Int32 × (Nat → Int64) × (Nat → Int32) × (Nat → Int32) × (Nat → Int32))) : ∀ (d i : Nat) (hb : Nat → Int32), i + d = 5001 → (∀ j, j < i → hb j = 0) → ∃ z, pX9_allUpTo_L3 (k + d + 1) (nI i) hb kk = kk (nI 5001) z ∧ ∀ j, j < 5001 → z j = 0 := by
  intro d
  induction d with
  | zero =>
    intro i hb h h2
    obtain rfl : i = 5001 := by omega
    refine ⟨hb, ?_, h2⟩
    rw [pX9_allUpTo_L3, if_pos (by decide)]
  | succ d ih =>
    intro i hb h h2
    rw [show k + (d + 1) + 1 = k + d + 1 + 1 by omega, pX9_allUpTo_L3, if_neg (by rw [show (5000 : Int32) = nI 5000 from rfl, nI_ltI (by omega) (by omega)]; omega), ck_t (ix_nI (show i < 5001 by omega) (by omega)), nI_clamp (by omega), show nI i + 1 = nI (i + 1) from nI_add i 1]
    refine ih (i + 1) (upd hb i 0) (by omega) (fun j hj => ?_)
    by_cases q : j = i
    · rw [q, pk_us]
    · rw [pk_un q]; exact h2 j (by omega)
theorem hd5m {r : Nat → Int} (hr : RO r) (h3 : 1 ≤ r 3) {T : Int} (hT : T ≤ 5000) : ∀ ps, VP r T ps → ps.length ≤ 2590 := fun ps h => Nat.le_trans (hd5 hr h3 hT ps h) (by decide)
theorem au_eq {n : Nat} (hn : FU ≤ n) {first root : Nat → Int64} (hb : BR first) (he : eq4 root first) {p1 : Int32} (hp : p1.toInt ≤ 5000) {p4 : Int64} (pile : Nat → Int64) (last next has : Nat → Int32) : ∃ jm' pile' last' next' hb', pX9_allUpTo n root pile last next has p1 p4 = some (nI (NC (zq first) p1.toInt), jm', pile', last', next', hb') ∧ CB (cir (zq first) p1.toInt) p4.toInt jm' hb' := by
  have hFU : 20000000 ≤ n := Nat.le_trans (by decide) hn
  have hfew : (fr (zq first) 4 p1.toInt 0).length < 900000 := by
    rw [← root_flt hb.ro hp]
    exact Nat.lt_of_le_of_lt (List.length_filter_le _ _) hb.few
  obtain ⟨k, hk⟩ : ∃ k, n = k + 5001 + 1 := ⟨n - 5002, by omega⟩
  obtain ⟨z, a1, a2⟩ := a3_eq k (fun (y4_3 : Int32) (u3_hasBend : (Nat → Int32)) => Option.bind (pX9_goesUpTo n root pile last next u3_hasBend p1.toInt64 (2000000000 : Int32) p4) (fun r4 => some (r4.1, r4.2.1, r4.2.2.1, r4.2.2.2.1, r4.2.2.2.2.1, r4.2.2.2.2.2))) 5001 0 has rfl (fun j hj => absurd hj (by omega))
  rw [← hk] at a1
  obtain ⟨y, jm, pi, la, ne, hh, b1, b2⟩ := gu_eq (n := n) (L := 2000000000) hb.ro hb.g3 he (T := p1.toInt) (by omega) hb.bd (hd5m hb.ro hb.g3 hp) (lim := p1.toInt64) (i64_of32 p1) (by decide) (p4 := p4) (w := p4.toInt) rfl pile last next z ⟨rfl, fun m hm => by rw [a2 m (by omega)]; simp⟩ (by omega) (by omega)
  have hNC : NC (zq first) p1.toInt < 1000000 := by
    rw [NC, cir_eq hb.ro, List.length_append]
    have := List.length_filter_le (fun x => decide (x ≤ p1.toInt)) [zq first 0, zq first 1, zq first 2, zq first 3]
    simp only [List.length_cons, List.length_nil] at this
    omega
  rcases b2 with ⟨c1, c2⟩ | ⟨c1, c2⟩
  · refine ⟨jm, pi, la, ne, hh, ?_, c2⟩
    rw [pX9_allUpTo]
    refine Eq.trans a1 ?_
    rw [show (2000000000 : Int32) = nI 2000000000 from rfl, b1, Option.bind_some, c1]
  · omega
