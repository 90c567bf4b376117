/-! x's gather and reachTo -/
theorem g8_eq {n w : Nat} (hn : 4000 ≤ n) (hw1 : 1 ≤ w) (hw : w ≤ 2001) (a : Nat → Int64) (kk : Int32 → Int32 → (Nat → Int64) → Option (Int32 × (Nat → Int64) × Int32 × (Nat → Int32) × (Nat → Int64))) (f : Nat → Int64) : ∃ s z, pX1_gather_L8 (nI w) a n 0 0 f kk = kk 4 (nI s) z ∧ HP s z ∧ s ≤ w ∧ s = min w 4 ∧ ∀ v, cn z v s = min w (lc v [(a 0).toInt, (a 1).toInt, (a 2).toInt, (a 3).toInt]) := by
  obtain ⟨m, rfl⟩ : ∃ m, n = m + 5 := ⟨n - 5, by omega⟩
  obtain ⟨s1, z1, a1, b1, c1, d1⟩ := of_eq (n := m + 4) (s := 0) (by omega) hw hw1 (by omega) (f := f) (fun i h1 h2 => by omega) (a 0)
  obtain ⟨s2, z2, a2, b2, c2, d2⟩ := of_eq (n := m + 3) (s := s1) (by omega) hw hw1 (by omega) b1 (a 1)
  obtain ⟨s3, z3, a3, b3, c3, d3⟩ := of_eq (n := m + 2) (s := s2) (by omega) hw hw1 (by omega) b2 (a 2)
  obtain ⟨s4, z4, a4, b4, c4, d4⟩ := of_eq (n := m + 1) (s := s3) (by omega) hw hw1 (by omega) b3 (a 3)
  have n0 : (0 : Int32) = nI 0 := rfl
  have x0 : ix (0 : Int32) 4 := by decide
  have x1 : ix ((0 : Int32) + 1) 4 := by decide
  have x2 : ix ((0 : Int32) + 1 + 1) 4 := by decide
  have x3 : ix ((0 : Int32) + 1 + 1 + 1) 4 := by decide
  have t0 : ((0 : Int32)).toNatClampNeg = 0 := rfl
  have t1 : ((0 : Int32) + 1).toNatClampNeg = 1 := rfl
  have t2 : ((0 : Int32) + 1 + 1).toNatClampNeg = 2 := rfl
  have t3 : ((0 : Int32) + 1 + 1 + 1).toNatClampNeg = 3 := rfl
  refine ⟨s4, z4, ?_, b4, by omega, by omega, fun v => ?_⟩
  · rw [pX1_gather_L8, if_neg (by decide), ck_t x0, t0]
    rw [show pX1_offer (m + 4) 0 (nI w) f (a 0) = some (nI s1, z1) from a1, Option.bind_some]
    dsimp only
    rw [pX1_gather_L8, if_neg (by decide), ck_t x1, t1, a2, Option.bind_some]
    dsimp only
    rw [pX1_gather_L8, if_neg (by decide), ck_t x2, t2, a3, Option.bind_some]
    dsimp only
    rw [pX1_gather_L8, if_neg (by decide), ck_t x3, t3, a4, Option.bind_some]
    dsimp only
    rw [pX1_gather_L8, if_pos (by decide)]
    rfl
  · rw [d4, d3, d2, d1, lc_cons, lc_cons, lc_cons, lc_cons]
    have e0 : cn f v 0 = 0 := rfl
    have e1 : lc v [] = 0 := rfl
    rw [e0, e1]
    omega
theorem lc_flt (v : Int) (xs : List Int) : lc v xs = (xs.filter (fun x => decide (x ≤ v))).length := by unfold lc; rw [List.countP_eq_length_filter]
theorem nc_lc {r : Nat → Int} (hr : RO r) {v L : Int} (h : v ≤ L) : NC r v = lc v [r 0, r 1, r 2, r 3] + lc v (fr r 4 L 0) := by
  rw [NC, cir_eq hr, List.length_append, lc_flt, lc_flt, root_flt hr h]
theorem gt_eq {n w : Nat} (hn : 2000000 ≤ n) (hw1 : 1 ≤ w) (hw : w ≤ 2001) {first : Nat → Int64} (hb : BR first) (s0 : zq first 0 ≤ zq first 1) (s1 : zq first 1 ≤ zq first 2) (s2 : zq first 2 ≤ zq first 3) {L : Int} (hL : L ≤ 10000000000000000) (h3L : zq first 3 ≤ L) (hfew : (fr (zq first) 4 L 0).length < 1000000) {lim : Int64} (hlim : lim.toInt = L) (f : Nat → Int64) (row : Nat → Int32) (four : Nat → Int64) : ∃ s z dp rw' fr', pX1_gather n (nI w) f first row four lim = some (nI s, z, dp, rw', fr') ∧ HP s z ∧ s ≤ w ∧ (∀ v, v ≤ L → cn z v s = min w (NC (zq first) v)) ∧ cn z L s = s := by
  obtain ⟨cp, k1, k2⟩ := cx_eq (n := n) (by omega) first four
  have hS : pX7_start n four first = some (0, cp) := by rw [pX7_start, k1, Option.bind_some]
  obtain ⟨s, z, a1, a2, a3, a4, a5⟩ := g8_eq (n := n) (by omega) hw1 hw first (fun (y5_4 : Int32) (u4_size : Int32) (u4_row : (Nat → Int64)) => Option.bind (pX7_start n four first) (fun r5 => pX1_gather_L37 lim (nI w) n (0 : Int32) u4_size u4_row r5.1 row r5.2 (fun (y5_12 : Int32) (u12_size : Int32) (u12_row : (Nat → Int64)) (u12_a4_depth : Int32) (u12_a4_row : (Nat → Int32)) (u12_a4_four : (Nat → Int64)) => some (u12_size, u12_row, u12_a4_depth, u12_a4_row, u12_a4_four)))) f
  rw [pX1_gather, a1, hS, Option.bind_some]
  have hz : ∀ j, (first j).toInt = zq first j := fun j => rfl
  rw [hz, hz, hz, hz] at a5
  have b0 := hb.bd 0 (by omega)
  obtain ⟨t', s', f', dep', row', four', g1, g2, g3, g4, g5⟩ := ga_eq hb.ro hb.g3 hb.bd hL hlim hw1 hw (fun (y5_12 : Int32) (u12_size : Int32) (u12_row : (Nat → Int64)) (u12_a4_depth : Int32) (u12_a4_row : (Nat → Int32)) (u12_a4_four : (Nat → Int64)) => some (u12_size, u12_row, u12_a4_depth, u12_a4_row, u12_a4_four)) (fr (zq first) 4 L 0).length 0 n s z [] 0 row cp (Nat.le_refl _) (by omega) (by omega) trivial (by show 0 ≤ 2001; omega) ⟨rfl, trivial, fun j hj => by
      obtain ⟨e0, e1, e2, e3⟩ := k2
      match j, hj with
      | 0, _ => rw [e0]; rfl
      | 1, _ => rw [e1]; rfl
      | 2, _ => rw [e2]; rfl
      | 3, _ => rw [e3]; rfl⟩ a2 a3 (fun v hv => by
      rw [a5 v, nc_lc hb.ro hv]
      show min w (min w _ + lc v (fr (zq first) 4 L 0)) = _
      omega) (by
      rw [a5, lc_cons, lc_cons, lc_cons, lc_cons, if_pos (by omega), if_pos (by omega), if_pos (by omega), if_pos (by omega), a4]
      rfl) (by
      rw [a5, lc_cons, lc_cons, lc_cons, lc_cons, if_neg (by omega), if_neg (by omega), if_neg (by omega), if_neg (by omega)]
      show min w 0 = 0
      omega) (fun u qs e1 e2 => by
      exfalso
      apply e2
      cases u with
      | nil => exact e1.symm
      | cons y ys => exact absurd e1 (by simp))
  have g1' : pX1_gather_L37 lim (nI w) n 0 (nI s) z 0 row cp (fun (y5_12 : Int32) (u12_size : Int32) (u12_row : (Nat → Int64)) (u12_a4_depth : Int32) (u12_a4_row : (Nat → Int32)) (u12_a4_four : (Nat → Int64)) => some (u12_size, u12_row, u12_a4_depth, u12_a4_row, u12_a4_four)) = some (nI s', f', dep', row', four') := g1
  dsimp only
  rw [g1']
  exact ⟨s', f', dep', row', four', rfl, g2, g3, g4, g5⟩
/-- few circles: what the walks need -/
def FW (r : Nat → Int) : Prop := (∀ i : Nat, i ≤ 9 → (i = 0 ∨ NC r ((2 ^ i : Nat) * r 3) ≤ 2000) → (fr r 4 ((2 ^ (i + 1) : Nat) * r 3) 0).length < 1000000) ∧ 2000 < NC r ((2 ^ 10 : Nat) * r 3)
theorem l50_eq {n w : Nat} (hn : 2000000 ≤ n) (hw1 : 1 ≤ w) (hw : w ≤ 2001) {first : Nat → Int64} (hb : BR first) (s0 : zq first 0 ≤ zq first 1) (s1 : zq first 1 ≤ zq first 2) (s2 : zq first 2 ≤ zq first 3) (hd9 : zq first 3 ≤ 1000000000) (hF : FW (zq first)) (kk : Int64 → Int32 → Int32 → (Nat → Int64) → Int32 → (Nat → Int32) → (Nat → Int64) → Option (Int32 × Int32 × (Nat → Int64) × Int32 × (Nat → Int32) × (Nat → Int64))) : ∀ (d i s : Nat) (x4 : Int64) (f : Nat → Int64) (dp : Int32) (row : Nat → Int32) (four : Nat → Int64), i + d = 10 → x4.toInt = (2 ^ (i + 1) : Nat) * zq first 3 → ((i = 0 ∧ s = 0) ∨ (HP s f ∧ s ≤ w ∧ (∀ v, v ≤ (2 ^ i : Nat) * zq first 3 → cn f v s = min w (NC (zq first) v)) ∧ cn f ((2 ^ i : Nat) * zq first 3) s = s)) →
    ∃ y4 y6 z dp' row' four' L, pX1_reachTo_L50 (nI w) first (n + d + 1) x4 (nI i) (nI s) f dp row four kk = kk y4 y6 (nI w) z dp' row' four' ∧ HP w z ∧ (∀ v, v ≤ L → cn z v w = min w (NC (zq first) v)) ∧ cn z L w = w := by
  intro d
  have g3 := hb.g3
  induction d with
  | zero =>
    intro i s x4 f dp row four hi hx h
    obtain rfl : i = 10 := by omega
    rcases h with ⟨h, -⟩ | ⟨h1, h2, h3, h4⟩
    · omega
    · have h5 := h3 _ (Int.le_refl _)
      have h6 := hF.2
      rw [h4] at h5
      obtain rfl : s = w := by omega
      refine ⟨x4, nI 10, f, dp, row, four, _, ?_, h1, h3, h4⟩
      rw [pX1_reachTo_L50, if_neg (by decide), if_pos (by rw [nI_leI (by omega) (by omega)]; omega)]
  | succ d ih =>
    intro i s x4 f dp row four hi hx h
    rw [show n + (d + 1) + 1 = n + d + 1 + 1 by omega, pX1_reachTo_L50, if_neg (by rw [show (30 : Int32) = nI 30 from rfl, nI_leI (by omega) (by omega)]; omega)]
    by_cases c : w ≤ s
    · rcases h with ⟨-, h⟩ | ⟨h1, h2, h3, h4⟩
      · omega
      · obtain rfl : s = w := by omega
        refine ⟨x4, nI i, f, dp, row, four, _, ?_, h1, h3, h4⟩
        rw [if_pos (by rw [nI_leI (by omega) (by omega)]; omega)]
    · rw [if_neg (by rw [nI_leI (by omega) (by omega)]; exact c)]
      have hp1 : 2 ^ (i + 1) ≤ 2 ^ 10 := Nat.pow_le_pow_right (by omega) (by omega)
      have hp2 : 1 ≤ 2 ^ (i + 1) := Nat.one_le_two_pow
      have hbig : ((2 ^ (i + 1) : Nat) : Int) * zq first 3 ≤ 1024 * zq first 3 := Int.mul_le_mul_of_nonneg_right (by omega) (by omega)
      have hsml : 1 * zq first 3 ≤ ((2 ^ (i + 1) : Nat) : Int) * zq first 3 := Int.mul_le_mul_of_nonneg_right (by omega) (by omega)
      have hfew := hF.1 i (by omega) (by
        rcases h with ⟨h, -⟩ | ⟨h1, h2, h3, h4⟩
        · exact Or.inl h
        · have h5 := h3 _ (Int.le_refl _)
          rw [h4] at h5
          exact Or.inr (by omega))
      obtain ⟨s', z, dp', row', four', a1, a2, a3, a4, a5⟩ := gt_eq (n := n + d + 1) (by omega) hw1 hw hb s0 s1 s2 (L := ((2 ^ (i + 1) : Nat) : Int) * zq first 3) (by omega) (by omega) hfew hx f row four
      rw [a1, Option.bind_some]
      dsimp only
      rw [show nI i + 1 = nI (i + 1) from nI_add i 1]
      refine ih (i + 1) s' (x4 * 2) z dp' row' four' (by omega) ?_ (Or.inr ⟨a2, a3, a4, a5⟩)
      rw [Int64.toInt_mul, hx, show (2 : Int64).toInt = 2 from rfl, Int.bmod_eq_of_le (by omega) (by omega), Nat.pow_succ 2 (i + 1), Int.natCast_mul]
      grind
theorem wanted_eq {p1 ls : Int32} (h1 : 0 ≤ ls.toInt ∧ ls.toInt ≤ 2001) (h2 : 0 ≤ p1.toInt ∧ p1.toInt ≤ 2000) : ∃ w : Nat, (if (if (p1 + (1 : Int32)) < ((2 : Int32) * ls) then ((2 : Int32) * ls) else (p1 + (1 : Int32))) < (2001 : Int32) then (if (p1 + (1 : Int32)) < ((2 : Int32) * ls) then ((2 : Int32) * ls) else (p1 + (1 : Int32))) else (2001 : Int32)) = nI w ∧ w ≤ 2001 ∧ p1.toInt + 1 ≤ w := by
  have e5 : (2001 : Int32).toInt = 2001 := rfl
  have e2 : ((2 : Int32) * ls).toInt = 2 * ls.toInt := by
    rw [Int32.toInt_mul, show (2 : Int32).toInt = 2 from rfl, Int.bmod_eq_of_le (by omega) (by omega)]
  have e1 : (p1 + 1).toInt = p1.toInt + 1 := by
    rw [Int32.toInt_add, show (1 : Int32).toInt = 1 from rfl, Int.bmod_eq_of_le (by omega) (by omega)]
  have key : ∀ x : Int32, p1.toInt + 1 ≤ x.toInt → ∃ R : Nat, (if x < (2001 : Int32) then x else 2001) = nI R ∧ R ≤ 2001 ∧ p1.toInt + 1 ≤ R := fun x hx => by
    by_cases q : x < (2001 : Int32)
    · rw [if_pos q]; rw [i32_lt, e5] at q
      exact ⟨x.toInt.toNat, by rw [i32_eq, nI_toInt (by omega)]; omega, by omega, by omega⟩
    · rw [if_neg q]; exact ⟨2001, rfl, by omega, by omega⟩
  by_cases q : p1 + 1 < (2 : Int32) * ls
  · rw [if_pos q]; rw [i32_lt] at q; exact key _ (by omega)
  · rw [if_neg q]; exact key _ (by omega)
theorem lr_eq {n : Nat} (hn : FU ≤ n) {first : Nat → Int64} (hb : BR first) (s0 : zq first 0 ≤ zq first 1) (s1 : zq first 1 ≤ zq first 2) (s2 : zq first 2 ≤ zq first 3) (hd9 : zq first 3 ≤ 1000000000) (hF : FW (zq first)) {cnt : Nat → Int32} {re : Int32} {lr : Nat → Int64} {ls : Int32} {rs : Nat → Int32} (hP : PK first cnt re lr ls rs) (wt : Int32) (depth : Int32) (row : Nat → Int32) (four : Nat → Int64) {p1 : Int32} (hp : 0 ≤ p1.toInt ∧ p1.toInt ≤ 2000) : ∃ ls' wt' lr' d w f, pX1_reachTo n ls wt lr first depth row four p1 = some (ls', wt', lr', d, w, f) ∧ p1.toInt < ls'.toInt ∧ PK first cnt re lr' ls' rs := by
  obtain ⟨q1, q2, q3, q4, q5⟩ := id hP
  have hFU : 3000000 ≤ n := Nat.le_trans (by decide) hn
  rw [pX1_reachTo]
  by_cases c : ls ≤ p1
  · rw [if_pos c]
    obtain ⟨w, hw, hw1, hw2⟩ := wanted_eq q3 hp
    rw [hw]
    have b3 := hb.g3
    have hx : ((2 : Int64) * first (3 : Int32).toNatClampNeg).toInt = (2 ^ (0 + 1) : Nat) * zq first 3 := by
      have e3 : (3 : Int32).toNatClampNeg = 3 := rfl
      have ez : (first 3).toInt = zq first 3 := rfl
      rw [e3, Int64.toInt_mul, ez, show (2 : Int64).toInt = 2 from rfl, Int.bmod_eq_of_le (by omega) (by omega)]
      rfl
    obtain ⟨k, hk⟩ : ∃ k, n = k + 10 + 1 := ⟨n - 11, by omega⟩
    obtain ⟨y4, y6, z, dp', row', four', L, a1, a2, a3, a4⟩ := l50_eq (n := k) (by omega) (show 1 ≤ w by omega) hw1 hb s0 s1 s2 hd9 hF (fun (y4_5 : Int64) (y6_5 : Int32) (u5_size : Int32) (u5_row : (Nat → Int64)) (u5_a3_depth : Int32) (u5_a3_row : (Nat → Int32)) (u5_a3_four : (Nat → Int64)) => Option.bind (pX1_straighten n u5_size u5_row) (fun r6 => some (u5_size, nI w, r6, u5_a3_depth, u5_a3_row, u5_a3_four))) 10 0 0 _ lr depth row four rfl hx (Or.inl ⟨rfl, rfl⟩)
    rw [← hk] at a1
    have a1' := a1
    rw [show nI 0 = (0 : Int32) from rfl] at a1'
    rw [a1']
    obtain ⟨y, y1, y2, y3⟩ := sr_eq (n := n) hw1 (by omega) (by omega) a2
    rw [y1, Option.bind_some]
    have hwi : (nI w).toInt = w := nI_toInt (by omega)
    refine ⟨_, _, _, _, _, _, rfl, by rw [hwi]; omega, q1, q2, by rw [hwi]; omega, fun _ => ⟨hb.neg, fun j hj => ?_⟩, q5⟩
    rw [hwi] at hj
    have hj' : j < w := by omega
    have hyL : (y j).toInt ≤ L := cn_inv (show cn y L w = w by rw [y3, a4]) j hj'
    have f1 := cn_first (f := y) (v := (y j).toInt) (j := j + 1) (s := w) (by omega) (fun i hi => y2 i j (by omega) hj')
    have f2 := cn_part (f := y) (v := (y j).toInt - 1) (j := j) (s := w) (fun i h1 h2 => by have := y2 j i h1 h2; omega)
    rw [y3, a3 _ hyL] at f1
    rw [y3, a3 _ (by omega)] at f2
    omega
  · rw [if_neg c]
    rw [i32_le] at c
    exact ⟨_, _, _, _, _, _, rfl, by omega, hP⟩
theorem nc_uniq {r : Nat → Int} (hr : RO r) {k : Nat} {a b : Int} (h1 : NC r (a - 1) ≤ k) (h2 : k < NC r a) (h3 : NC r (b - 1) ≤ k) (h4 : k < NC r b) : a = b := by
  rcases Int.lt_trichotomy a b with c | c | c
  · have := nc_mono hr (show a ≤ b - 1 by omega); omega
  · exact c
  · have := nc_mono hr (show b ≤ a - 1 by omega); omega
