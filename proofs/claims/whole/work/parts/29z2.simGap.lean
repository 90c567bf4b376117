theorem sim_gap (n : Nat) (hn : FU ≤ n) (v_packing_first : (Nat → Int64)) (v_packing_walk_depth : Int32) (v_packing_walk_row : (Nat → Int32)) (v_packing_walk_four : (Nat → Int64)) (v_packing_tally_reach : Int32) (v_packing_tally_counts : (Nat → Int32)) (v_packing_orbit_size : Int32) (v_packing_orbit_met : (Nat → Int64)) (v_packing_orbit_queue : (Nat → Int32)) (v_packing_orbit_four : (Nat → Int32)) (v_packing_remainderSets : (Nat → Int32)) (v_now : (Nat → Int64)) (v_stepsToRoot : Int32) (v_packing_leasts_row : (Nat → Int64)) (v_packing_leasts_size : Int32) (v_copies_0 : (Nat → Int64)) (v_copies_1 : (Nat → Int64)) (v_copies_2 : (Nat → Int64)) (v_kept : (Nat → Int32)) (v_shelves_0_there : Int32) (v_shelves_0_sort : Int32) (v_shelves_0_size : Int32) (v_shelves_0_bends : (Nat → Int64)) (v_shelves_0_filled : (Nat → Int32)) (v_shelves_1_there : Int32) (v_shelves_1_sort : Int32) (v_shelves_1_size : Int32) (v_shelves_1_bends : (Nat → Int64)) (v_shelves_1_filled : (Nat → Int32)) (v_shelves_2_there : Int32) (v_shelves_2_sort : Int32) (v_shelves_2_size : Int32) (v_shelves_2_bends : (Nat → Int64)) (v_shelves_2_filled : (Nat → Int32)) (w_stepAt : Int32) (w_justMany : Int32) (w_bends : (Nat → Int64)) (w_rootAt : (Nat → Int64)) (w_pile : (Nat → Int64)) (w_lastAt : (Nat → Int32)) (w_nextAt : (Nat → Int32)) (w_hasBend : (Nat → Int32)) (w_isMet : (Nat → Int32)) (w_queue : (Nat → Int32)) (w_isKept : (Nat → Int32)) (w_copies : (Nat → Int64)) (w_shelfMany : (Nat → Int32)) (w_shelfSort : (Nat → Int32)) (w_shelfHas : (Nat → Int64)) (p1 : Int32) (p2 : Int32) (hI : INV v_now v_stepsToRoot v_packing_first v_packing_tally_counts v_packing_tally_reach v_packing_leasts_row v_packing_leasts_size v_packing_remainderSets v_copies_0 v_copies_1 v_copies_2 v_kept v_shelves_0_there v_shelves_0_sort v_shelves_0_size v_shelves_0_bends v_shelves_0_filled v_shelves_1_there v_shelves_1_sort v_shelves_1_size v_shelves_1_bends v_shelves_1_filled v_shelves_2_there v_shelves_2_sort v_shelves_2_size v_shelves_2_bends v_shelves_2_filled w_bends w_isKept w_copies w_shelfMany w_shelfSort w_shelfHas) : ∃ (Rx : Int32 × Int32 × (Nat → Int32) × (Nat → Int64) × Int32 × (Nat → Int32) × Int32 × (Nat → Int64) × (Nat → Int32) × (Nat → Int32) × (Nat → Int32)) (Rm : Int32 × Int32 × Int32 × (Nat → Int64) × (Nat → Int64) × (Nat → Int32) × (Nat → Int32) × (Nat → Int32) × (Nat → Int32) × (Nat → Int32)), pX8_gap n v_packing_first v_packing_walk_depth v_packing_walk_row v_packing_walk_four v_packing_tally_reach v_packing_tally_counts v_packing_orbit_size v_packing_orbit_met v_packing_orbit_queue v_packing_orbit_four v_packing_remainderSets p1 p2 = some Rx ∧ pX9_gap n w_stepAt w_justMany w_bends w_rootAt w_pile w_lastAt w_nextAt w_hasBend w_isMet w_queue p1 p2 = some Rm ∧ Rx.1 = Rm.1 ∧ INV v_now v_stepsToRoot v_packing_first Rx.2.2.2.2.2.1 Rx.2.2.2.2.1 v_packing_leasts_row v_packing_leasts_size Rx.2.2.2.2.2.2.2.2.2.2 v_copies_0 v_copies_1 v_copies_2 v_kept v_shelves_0_there v_shelves_0_sort v_shelves_0_size v_shelves_0_bends v_shelves_0_filled v_shelves_1_there v_shelves_1_sort v_shelves_1_size v_shelves_1_bends v_shelves_1_filled v_shelves_2_there v_shelves_2_sort v_shelves_2_size v_shelves_2_bends v_shelves_2_filled w_bends w_isKept w_copies w_shelfMany w_shelfSort w_shelfHas := by
  obtain ⟨hR, hP, hC, hS⟩ := id hI
  obtain ⟨b, w, z, b1, b2, b3, b4⟩ := bnd hn hR w_rootAt
  obtain ⟨hg, he, k, hk, hr, hst⟩ := id hR
  have e1 : (1 : Int32).toInt = 1 := rfl
  have e5 : (5000 : Int32).toInt = 5000 := rfl
  have em : (-1 : Int32).toInt = -1 := rfl
  by_cases c1 : p1 < (1 : Int32)
  · refine ⟨_, _, by rw [pX8_gap, if_pos c1], by rw [pX9_gap, pX9_within, if_pos c1, Option.bind_some, if_pos rfl], ?_, ?_⟩
    · rfl
    · exact hI
  by_cases c2 : (5000 : Int32) < p1
  · refine ⟨_, _, by rw [pX8_gap, if_neg c1, if_pos c2], by rw [pX9_gap, pX9_within, if_neg c1, if_pos c2, Option.bind_some, if_pos rfl], ?_, ?_⟩
    · rfl
    · exact hI
  have hw1 : pX9_within p1 1 5000 = some 1 := by rw [pX9_within, if_neg c1, if_neg c2]
  by_cases c3 : p2 < (-1 : Int32)
  · refine ⟨_, _, by rw [pX8_gap, if_neg c1, if_neg c2, if_pos c3], by rw [pX9_gap, hw1, Option.bind_some, if_neg (by decide), pX9_within, if_pos c3, Option.bind_some, if_pos rfl], ?_, ?_⟩
    · rfl
    · exact hI
  by_cases c4 : ¬ p2 ≤ (5000 : Int32)
  · have c5 : (5000 : Int32) < p2 := by rw [i32_lt]; rw [i32_le] at c4; omega
    refine ⟨_, _, by rw [pX8_gap, if_neg c1, if_neg c2, if_neg c3, if_neg c4], by rw [pX9_gap, hw1, Option.bind_some, if_neg (by decide), pX9_within, if_neg c3, if_pos c5, Option.bind_some, if_pos rfl], ?_, ?_⟩
    · rfl
    · exact hI
  have c4 := Decidable.not_not.mp c4
  have c5 : ¬ (5000 : Int32) < p2 := by rw [i32_lt]; rw [i32_le] at c4; omega
  have hw2 : pX9_within p2 (-1) 5000 = some 1 := by rw [pX9_within, if_neg c3, if_neg c5]
  rcases b4 with ⟨b5, b6⟩ | ⟨b5, b6⟩
  · refine ⟨_, _, by rw [pX8_gap, if_neg c1, if_neg c2, if_neg c3, if_pos c4, b2, Option.bind_some, if_pos b5], by rw [pX9_gap, hw1, Option.bind_some, if_neg (by decide), hw2, Option.bind_some, if_neg (by decide), b1, Option.bind_some, if_pos b5], ?_, ?_⟩
    · rfl
    · exact hI
  have hne : ¬ b = 0 := by rw [b5]; decide
  have hb := br_of hg hr b6
  have hgf := (rt_facts hg hr).1
  rw [i32_lt, e1] at c1
  rw [i32_lt, e5] at c2
  obtain ⟨P, hP1, hP2, rfl⟩ : ∃ P : Nat, 1 ≤ P ∧ P ≤ 5000 ∧ p1 = nI P := ⟨p1.toInt.toNat, by omega, by omega, by rw [i32_eq, nI_toInt (by omega)]; omega⟩
  have hPi : (nI P).toInt = P := nI_toInt (by omega)
  have c1' : ¬ nI P < (1 : Int32) := by rw [i32_lt, e1]; exact c1
  have c2' : ¬ (5000 : Int32) < nI P := by rw [i32_lt, e5]; exact c2
  obtain ⟨R, x1, x2, x3⟩ := rb_eq (m := 12) hn hgf (by omega) (by omega) hP v_packing_orbit_size v_packing_orbit_met v_packing_orbit_queue v_packing_orbit_four
  obtain ⟨re', cnt', d, w', f, y1, y2, y3⟩ := rch_eq hn hb x3 v_packing_walk_depth v_packing_walk_row v_packing_walk_four (p1 := nI P) (by omega)
  obtain ⟨R', m1, m2⟩ := rm_eq (m := 12) hn (b3.sym.gb hgf) (by omega) (by omega) w_isMet w_queue
  obtain ⟨jm, pi, la, ne, hh, a1, a2⟩ := au_eq hn hb b3 (p1 := nI P) (by omega) (p4 := -9223372036854775808) w_pile w_lastAt w_nextAt w_hasBend
  have hRR : R'.1 = R.1 := m2.trans ((rm_c b3 12).trans x2.symm)
  have hn5 := fu1 hn
  obtain ⟨kf, hkf⟩ : ∃ kf, n = kf + P + 1 := ⟨n - P - 1, by omega⟩
  have hmain := gp_eq (P := P) hP2 (re := re') (cnt := cnt') (hb := hh) (g := fun m => NC (zq v_packing_first) m) (fun m hm => (at_most y3 (by omega)).1) (fun m hm => (at_most y3 (by omega)).2) (fun m h1 h2 => by
    rw [hb_iff hb.ro h2 h1, a2.2 m (by omega), hPi]
    by_cases q : (m : Int) ∈ cir (zq v_packing_first) P
    · rw [if_pos q]; exact ⟨fun h => absurd q h, fun h => absurd h (by decide)⟩
    · rw [if_neg q]; exact ⟨fun _ => rfl, fun _ => q⟩) p2 R.1 d w' f R.2.1 R.2.2.1 R.2.2.2.1 R.2.2.2.2.1 R.2.2.2.2.2 w jm z pi la ne R'.2.1 R'.2.2 kf (fun (y4_9 : Int32) (y5_9 : Int32) => if 0 ≤ p2 then some ((-9 : Int32), d, w', f, re', cnt', R.2.1, R.2.2.1, R.2.2.2.1, R.2.2.2.2.1, R.2.2.2.2.2) else some (y4_9, d, w', f, re', cnt', R.2.1, R.2.2.1, R.2.2.2.1, R.2.2.2.2.1, R.2.2.2.2.2)) (fun (y4_14 : Int32) (y5_14 : Int32) => if 0 ≤ p2 then some ((-9 : Int32), w, jm, z, pi, la, ne, hh, R'.2.1, R'.2.2) else some (y4_14, w, jm, z, pi, la, ne, hh, R'.2.1, R'.2.2)) P 1 0 (by omega) (by omega)
  rw [← hkf] at hmain
  have hX : ∀ v, pX3_gapUpTo_L29 (nI P) p2 R.1 d w' f re' cnt' R.2.1 R.2.2.1 R.2.2.2.1 R.2.2.2.2.1 R.2.2.2.2.2 n 0 1 (fun (y4_9 : Int32) (y5_9 : Int32) => if 0 ≤ p2 then some ((-9 : Int32), d, w', f, re', cnt', R.2.1, R.2.2.1, R.2.2.2.1, R.2.2.2.2.1, R.2.2.2.2.2) else some (y4_9, d, w', f, re', cnt', R.2.1, R.2.2.1, R.2.2.2.1, R.2.2.2.2.1, R.2.2.2.2.2)) = some (v, d, w', f, re', cnt', R.2.1, R.2.2.1, R.2.2.2.1, R.2.2.2.2.1, R.2.2.2.2.2) → pX8_gap n v_packing_first v_packing_walk_depth v_packing_walk_row v_packing_walk_four v_packing_tally_reach v_packing_tally_counts v_packing_orbit_size v_packing_orbit_met v_packing_orbit_queue v_packing_orbit_four v_packing_remainderSets (nI P) p2 = some (v, d, w', f, re', cnt', R.2.1, R.2.2.1, R.2.2.2.1, R.2.2.2.2.1, R.2.2.2.2.2) := fun v hv => by
    rw [pX8_gap, if_neg c1', if_neg c2', if_neg c3, if_pos c4, b2, Option.bind_some, if_neg hne, pX3_gapUpTo, show (12 : Int32) = nI 12 from rfl, x1, Option.bind_some, y1, Option.bind_some]
    dsimp only
    rw [hv, Option.bind_some]
  have hM : ∀ v, pX9_gap_L57 (nI P) p2 R.1 w jm z pi la ne hh R'.2.1 R'.2.2 n 0 1 (fun (y4_14 : Int32) (y5_14 : Int32) => if 0 ≤ p2 then some ((-9 : Int32), w, jm, z, pi, la, ne, hh, R'.2.1, R'.2.2) else some (y4_14, w, jm, z, pi, la, ne, hh, R'.2.1, R'.2.2)) = some (v, w, jm, z, pi, la, ne, hh, R'.2.1, R'.2.2) → pX9_gap n w_stepAt w_justMany w_bends w_rootAt w_pile w_lastAt w_nextAt w_hasBend w_isMet w_queue (nI P) p2 = some (v, w, jm, z, pi, la, ne, hh, R'.2.1, R'.2.2) := fun v hv => by
    rw [pX9_gap, hw1, Option.bind_some, if_neg (by decide), hw2, Option.bind_some, if_neg (by decide), b1, Option.bind_some, if_neg hne]
    dsimp only
    rw [show (12 : Int32) = nI 12 from rfl, m1, Option.bind_some, a1, Option.bind_some, hRR]
    dsimp only
    rw [hv]
  have hI' : ∀ v, ∃ (Rx : Int32 × Int32 × (Nat → Int32) × (Nat → Int64) × Int32 × (Nat → Int32) × Int32 × (Nat → Int64) × (Nat → Int32) × (Nat → Int32) × (Nat → Int32)), Rx = (v, d, w', f, re', cnt', R.2.1, R.2.2.1, R.2.2.2.1, R.2.2.2.2.1, R.2.2.2.2.2) := fun v => ⟨_, rfl⟩
  rcases hmain with ⟨v, q1, q2⟩ | ⟨y4, y5, q1, q2⟩
  · refine ⟨_, _, hX v q1, hM v q2, ?_, ?_⟩
    · rfl
    · exact ⟨hR, y3, hC, hS⟩
  · by_cases q : 0 ≤ p2
    · rw [if_pos q] at q1 q2
      refine ⟨_, _, hX _ q1, hM _ q2, ?_, ?_⟩
      · rfl
      · exact ⟨hR, y3, hC, hS⟩
    · rw [if_neg q] at q1 q2
      refine ⟨_, _, hX _ q1, hM _ q2, ?_, ?_⟩
      · rfl
      · exact ⟨hR, y3, hC, hS⟩
