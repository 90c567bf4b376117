theorem sim_set (n : Nat) (hn : FU ≤ n) (v_stepsToRoot : Int32) (v_now : (Nat → Int64)) (v_descent_made : Int32) (v_descent_last : Int32) (v_descent_four : (Nat → Int64)) (v_packing_first : (Nat → Int64)) (v_packing_tally_reach : Int32) (v_packing_leasts_size : Int32) (v_packing_remainderSets : (Nat → Int32)) (v_packing_tally_counts : (Nat → Int32)) (v_packing_leasts_row : (Nat → Int64)) (v_copies_0 : (Nat → Int64)) (v_copies_1 : (Nat → Int64)) (v_copies_2 : (Nat → Int64)) (v_kept : (Nat → Int32)) (v_shelves_0_there : Int32) (v_shelves_0_sort : Int32) (v_shelves_0_size : Int32) (v_shelves_0_bends : (Nat → Int64)) (v_shelves_0_filled : (Nat → Int32)) (v_shelves_1_there : Int32) (v_shelves_1_sort : Int32) (v_shelves_1_size : Int32) (v_shelves_1_bends : (Nat → Int64)) (v_shelves_1_filled : (Nat → Int32)) (v_shelves_2_there : Int32) (v_shelves_2_sort : Int32) (v_shelves_2_size : Int32) (v_shelves_2_bends : (Nat → Int64)) (v_shelves_2_filled : (Nat → Int32)) (w_bends : (Nat → Int64)) (w_isKept : (Nat → Int32)) (w_copies : (Nat → Int64)) (w_shelfMany : (Nat → Int32)) (w_shelfSort : (Nat → Int32)) (w_shelfHas : (Nat → Int64)) (p1 : Int32) (p2 : Int32) (p3 : Int32) (p4 : Int32) (hI : INV v_now v_stepsToRoot v_packing_first v_packing_tally_counts v_packing_tally_reach v_packing_leasts_row v_packing_leasts_size v_packing_remainderSets v_copies_0 v_copies_1 v_copies_2 v_kept v_shelves_0_there v_shelves_0_sort v_shelves_0_size v_shelves_0_bends v_shelves_0_filled v_shelves_1_there v_shelves_1_sort v_shelves_1_size v_shelves_1_bends v_shelves_1_filled v_shelves_2_there v_shelves_2_sort v_shelves_2_size v_shelves_2_bends v_shelves_2_filled w_bends w_isKept w_copies w_shelfMany w_shelfSort w_shelfHas) : ∃ (Rx : Int32 × Int32 × (Nat → Int64) × Int32 × Int32 × (Nat → Int64) × (Nat → Int64) × Int32 × Int32 × (Nat → Int32)) (Rm : Int32 × (Nat → Int64)), pX8_set n v_stepsToRoot v_now v_descent_made v_descent_last v_descent_four v_packing_first v_packing_tally_reach v_packing_leasts_size v_packing_remainderSets p1 p2 p3 p4 = some Rx ∧ pX9_set w_bends p1 p2 p3 p4 = some Rm ∧ Rx.1 = Rm.1 ∧ INV Rx.2.2.1 Rx.2.1 Rx.2.2.2.2.2.2.1 v_packing_tally_counts Rx.2.2.2.2.2.2.2.1 v_packing_leasts_row Rx.2.2.2.2.2.2.2.2.1 Rx.2.2.2.2.2.2.2.2.2 v_copies_0 v_copies_1 v_copies_2 v_kept v_shelves_0_there v_shelves_0_sort v_shelves_0_size v_shelves_0_bends v_shelves_0_filled v_shelves_1_there v_shelves_1_sort v_shelves_1_size v_shelves_1_bends v_shelves_1_filled v_shelves_2_there v_shelves_2_sort v_shelves_2_size v_shelves_2_bends v_shelves_2_filled Rm.2 w_isKept w_copies w_shelfMany w_shelfSort w_shelfHas := by
  obtain ⟨⟨hg, he, k, hk, hr, hst⟩, hP, hC, hS⟩ := id hI
  rcases mb_cases p1 with ⟨a1, a2⟩ | ⟨a1, a2, a3⟩
  · refine ⟨_, _, by rw [pX8_set, a1, Option.bind_some, if_pos rfl], by rw [pX9_set, a2, Option.bind_some, if_pos rfl], ?_, ?_⟩
    · rfl
    · exact hI
  rcases mb_cases p2 with ⟨b1, b2⟩ | ⟨b1, b2, b3⟩
  · refine ⟨_, _, by rw [pX8_set, a1, Option.bind_some, if_neg (by decide), b1, Option.bind_some, if_pos rfl], by rw [pX9_set, a2, Option.bind_some, if_neg (by decide), b2, Option.bind_some, if_pos rfl], ?_, ?_⟩
    · rfl
    · exact hI
  rcases mb_cases p3 with ⟨c1, c2⟩ | ⟨c1, c2, c3⟩
  · refine ⟨_, _, by rw [pX8_set, a1, Option.bind_some, if_neg (by decide), b1, Option.bind_some, if_neg (by decide), c1, Option.bind_some, if_pos rfl], by rw [pX9_set, a2, Option.bind_some, if_neg (by decide), b2, Option.bind_some, if_neg (by decide), c2, Option.bind_some, if_pos rfl], ?_, ?_⟩
    · rfl
    · exact hI
  rcases mb_cases p4 with ⟨d1, d2⟩ | ⟨d1, d2, d3⟩
  · refine ⟨_, _, by rw [pX8_set, a1, Option.bind_some, if_neg (by decide), b1, Option.bind_some, if_neg (by decide), c1, Option.bind_some, if_neg (by decide), d1, Option.bind_some, if_pos rfl], by rw [pX9_set, a2, Option.bind_some, if_neg (by decide), b2, Option.bind_some, if_neg (by decide), c2, Option.bind_some, if_neg (by decide), d2, Option.bind_some, if_pos rfl], ?_, ?_⟩
    · rfl
    · exact hI
  by_cases h1 : (((p1.toInt64 + p2.toInt64) + p3.toInt64) + p4.toInt64) ≤ (0 : Int64)
  · refine ⟨_, _, by rw [pX8_set, a1, Option.bind_some, if_neg (by decide), b1, Option.bind_some, if_neg (by decide), c1, Option.bind_some, if_neg (by decide), d1, Option.bind_some, if_neg (by decide), pX8_isGood, if_pos h1, Option.bind_some, if_pos rfl], by rw [pX9_set, a2, Option.bind_some, if_neg (by decide), b2, Option.bind_some, if_neg (by decide), c2, Option.bind_some, if_neg (by decide), d2, Option.bind_some, if_neg (by decide), if_pos h1], ?_, ?_⟩
    · rfl
    · exact hI
  by_cases h2 : ((2 : Int64) * ((((p1.toInt64 * p1.toInt64) + (p2.toInt64 * p2.toInt64)) + (p3.toInt64 * p3.toInt64)) + (p4.toInt64 * p4.toInt64))) = ((((p1.toInt64 + p2.toInt64) + p3.toInt64) + p4.toInt64) * (((p1.toInt64 + p2.toInt64) + p3.toInt64) + p4.toInt64))
  · generalize hN : vp_updL (vp_updL (vp_updL (vp_updL v_now (0 : Int32).toNatClampNeg p1.toInt64) (1 : Int32).toNatClampNeg p2.toInt64) (2 : Int32).toNatClampNeg p3.toInt64) (3 : Int32).toNatClampNeg p4.toInt64 = N
    have hb : GB N := by subst hN; exact good_set a3 b3 c3 d3 h1 h2 rfl rfl rfl rfl
    obtain ⟨k', R, f1, f2, f3, f4⟩ := frx (fu1 hn) (four := v_descent_four) (first := v_packing_first) (re := v_packing_tally_reach) (ls := v_packing_leasts_size) (rs := v_packing_remainderSets) hb
    obtain ⟨k2, r2, e1, e2⟩ := RT.ex hb
    have hk' : k' < 45000 := by rw [(f3.det e1).1]; exact e2
    refine ⟨_, _, by rw [pX8_set, a1, Option.bind_some, if_neg (by decide), b1, Option.bind_some, if_neg (by decide), c1, Option.bind_some, if_neg (by decide), d1, Option.bind_some, if_neg (by decide), pX8_isGood, if_neg h1, if_pos h2, Option.bind_some, if_neg (by decide), hN, f1, Option.bind_some], by rw [pX9_set, a2, Option.bind_some, if_neg (by decide), b2, Option.bind_some, if_neg (by decide), c2, Option.bind_some, if_neg (by decide), d2, Option.bind_some, if_neg (by decide), if_neg h1, pX9_square, Option.bind_some, pX9_square, Option.bind_some, pX9_square, Option.bind_some, pX9_square, Option.bind_some, pX9_square, Option.bind_some, if_pos h2], ?_, ?_⟩
    · rfl
    · refine ⟨⟨hb, by subst hN; exact ⟨rfl, rfl, rfl, rfl⟩, k', hk', f3, f2⟩, ?_, hC, hS⟩
      rcases f4 with ⟨g1, g2, g3, g4⟩ | ⟨g2, g3, g4⟩
      · show PK R.2.2.2.2.1 _ R.2.2.2.2.2.1 _ R.2.2.2.2.2.2.1 R.2.2.2.2.2.2.2
        rw [g1, g2, g3, g4]; exact hP
      · exact pk_reset _ _ _ g2 g3 g4
  · refine ⟨_, _, by rw [pX8_set, a1, Option.bind_some, if_neg (by decide), b1, Option.bind_some, if_neg (by decide), c1, Option.bind_some, if_neg (by decide), d1, Option.bind_some, if_neg (by decide), pX8_isGood, if_neg h1, if_neg h2, Option.bind_some, if_pos rfl], by rw [pX9_set, a2, Option.bind_some, if_neg (by decide), b2, Option.bind_some, if_neg (by decide), c2, Option.bind_some, if_neg (by decide), d2, Option.bind_some, if_neg (by decide), if_neg h1, pX9_square, Option.bind_some, pX9_square, Option.bind_some, pX9_square, Option.bind_some, pX9_square, Option.bind_some, pX9_square, Option.bind_some, if_neg h2], ?_, ?_⟩
    · rfl
    · exact hI
theorem sim_keep (n : Nat) (hn : FU ≤ n) (v_now : (Nat → Int64)) (v_copies_0 : (Nat → Int64)) (v_copies_1 : (Nat → Int64)) (v_copies_2 : (Nat → Int64)) (v_kept : (Nat → Int32)) (v_stepsToRoot : Int32) (v_packing_first : (Nat → Int64)) (v_packing_tally_counts : (Nat → Int32)) (v_packing_tally_reach : Int32) (v_packing_leasts_row : (Nat → Int64)) (v_packing_leasts_size : Int32) (v_packing_remainderSets : (Nat → Int32)) (v_shelves_0_there : Int32) (v_shelves_0_sort : Int32) (v_shelves_0_size : Int32) (v_shelves_0_bends : (Nat → Int64)) (v_shelves_0_filled : (Nat → Int32)) (v_shelves_1_there : Int32) (v_shelves_1_sort : Int32) (v_shelves_1_size : Int32) (v_shelves_1_bends : (Nat → Int64)) (v_shelves_1_filled : (Nat → Int32)) (v_shelves_2_there : Int32) (v_shelves_2_sort : Int32) (v_shelves_2_size : Int32) (v_shelves_2_bends : (Nat → Int64)) (v_shelves_2_filled : (Nat → Int32)) (w_bends : (Nat → Int64)) (w_isKept : (Nat → Int32)) (w_copies : (Nat → Int64)) (w_shelfMany : (Nat → Int32)) (w_shelfSort : (Nat → Int32)) (w_shelfHas : (Nat → Int64)) (p1 : Int32) (hI : INV v_now v_stepsToRoot v_packing_first v_packing_tally_counts v_packing_tally_reach v_packing_leasts_row v_packing_leasts_size v_packing_remainderSets v_copies_0 v_copies_1 v_copies_2 v_kept v_shelves_0_there v_shelves_0_sort v_shelves_0_size v_shelves_0_bends v_shelves_0_filled v_shelves_1_there v_shelves_1_sort v_shelves_1_size v_shelves_1_bends v_shelves_1_filled v_shelves_2_there v_shelves_2_sort v_shelves_2_size v_shelves_2_bends v_shelves_2_filled w_bends w_isKept w_copies w_shelfMany w_shelfSort w_shelfHas) : ∃ (Rx : Int32 × (Nat → Int64) × (Nat → Int64) × (Nat → Int64) × (Nat → Int32)) (Rm : Int32 × (Nat → Int32) × (Nat → Int64)), pX8_keep n v_now v_copies_0 v_copies_1 v_copies_2 v_kept p1 = some Rx ∧ pX9_keep n w_bends w_isKept w_copies p1 = some Rm ∧ Rx.1 = Rm.1 ∧ INV v_now v_stepsToRoot v_packing_first v_packing_tally_counts v_packing_tally_reach v_packing_leasts_row v_packing_leasts_size v_packing_remainderSets Rx.2.1 Rx.2.2.1 Rx.2.2.2.1 Rx.2.2.2.2 v_shelves_0_there v_shelves_0_sort v_shelves_0_size v_shelves_0_bends v_shelves_0_filled v_shelves_1_there v_shelves_1_sort v_shelves_1_size v_shelves_1_bends v_shelves_1_filled v_shelves_2_there v_shelves_2_sort v_shelves_2_size v_shelves_2_bends v_shelves_2_filled w_bends Rm.2.1 Rm.2.2 w_shelfMany w_shelfSort w_shelfHas := by
  obtain ⟨⟨hg, he, k, hk, hr, hst⟩, hP, ⟨C0, C1, C2⟩, hS⟩ := id hI
  have hn5 := fu1 hn
  obtain ⟨m, rfl⟩ : ∃ m, n = m + 5 := ⟨n - 5, by omega⟩
  rcases k3 p1 with ⟨e1, e2, -, -⟩ | ⟨e1, e2, -, -, h⟩
  · refine ⟨_, _, by rw [pX8_keep, e1, Option.bind_some, if_pos rfl], by rw [pX9_keep, e2, Option.bind_some, if_pos rfl], ?_, ?_⟩
    · rfl
    · exact hI
  rcases h with rfl | rfl | rfl
  · obtain ⟨z, e3, e4⟩ := cx_eq (n := m + 5) (by omega) v_now v_copies_0
    refine ⟨_, _, by rw [pX8_keep, e1, Option.bind_some, if_neg (by decide), if_pos rfl, e3, Option.bind_some, ck_t (by decide)], by rw [pX9_keep, e2, Option.bind_some, if_neg (by decide), ck_t (by decide), kp0], ?_, ?_⟩
    · rfl
    · refine ⟨⟨hg, he, k, hk, hr, hst⟩, hP, ⟨⟨rfl, Or.inr rfl, fun _ => ⟨e4.sym.gb hg, (e4.tr he).tr ⟨rfl, rfl, rfl, rfl⟩⟩⟩, ?_, ?_⟩, hS⟩
      · exact ⟨C1.1, C1.2.1, fun q => ⟨(C1.2.2 q).1, (C1.2.2 q).2.tr ⟨rfl, rfl, rfl, rfl⟩⟩⟩
      · exact ⟨C2.1, C2.2.1, fun q => ⟨(C2.2.2 q).1, (C2.2.2 q).2.tr ⟨rfl, rfl, rfl, rfl⟩⟩⟩
  · obtain ⟨z, e3, e4⟩ := cx_eq (n := m + 5) (by omega) v_now v_copies_1
    refine ⟨_, _, by rw [pX8_keep, e1, Option.bind_some, if_neg (by decide), if_neg (by decide), if_pos rfl, e3, Option.bind_some, ck_t (by decide)], by rw [pX9_keep, e2, Option.bind_some, if_neg (by decide), ck_t (by decide), kp1], ?_, ?_⟩
    · rfl
    · refine ⟨⟨hg, he, k, hk, hr, hst⟩, hP, ⟨?_, ⟨rfl, Or.inr rfl, fun _ => ⟨e4.sym.gb hg, (e4.tr he).tr ⟨rfl, rfl, rfl, rfl⟩⟩⟩, ?_⟩, hS⟩
      · exact ⟨C0.1, C0.2.1, fun q => ⟨(C0.2.2 q).1, (C0.2.2 q).2.tr ⟨rfl, rfl, rfl, rfl⟩⟩⟩
      · exact ⟨C2.1, C2.2.1, fun q => ⟨(C2.2.2 q).1, (C2.2.2 q).2.tr ⟨rfl, rfl, rfl, rfl⟩⟩⟩
  · obtain ⟨z, e3, e4⟩ := cx_eq (n := m + 5) (by omega) v_now v_copies_2
    refine ⟨_, _, by rw [pX8_keep, e1, Option.bind_some, if_neg (by decide), if_neg (by decide), if_neg (by decide), if_pos rfl, e3, Option.bind_some, ck_t (by decide)], by rw [pX9_keep, e2, Option.bind_some, if_neg (by decide), ck_t (by decide), kp2], ?_, ?_⟩
    · rfl
    · refine ⟨⟨hg, he, k, hk, hr, hst⟩, hP, ⟨?_, ?_, ⟨rfl, Or.inr rfl, fun _ => ⟨e4.sym.gb hg, (e4.tr he).tr ⟨rfl, rfl, rfl, rfl⟩⟩⟩⟩, hS⟩
      · exact ⟨C0.1, C0.2.1, fun q => ⟨(C0.2.2 q).1, (C0.2.2 q).2.tr ⟨rfl, rfl, rfl, rfl⟩⟩⟩
      · exact ⟨C1.1, C1.2.1, fun q => ⟨(C1.2.2 q).1, (C1.2.2 q).2.tr ⟨rfl, rfl, rfl, rfl⟩⟩⟩
theorem sim_back (n : Nat) (hn : FU ≤ n) (v_stepsToRoot : Int32) (v_now : (Nat → Int64)) (v_descent_made : Int32) (v_descent_last : Int32) (v_descent_four : (Nat → Int64)) (v_packing_first : (Nat → Int64)) (v_packing_tally_reach : Int32) (v_packing_leasts_size : Int32) (v_packing_remainderSets : (Nat → Int32)) (v_copies_0 : (Nat → Int64)) (v_copies_1 : (Nat → Int64)) (v_copies_2 : (Nat → Int64)) (v_kept : (Nat → Int32)) (v_packing_tally_counts : (Nat → Int32)) (v_packing_leasts_row : (Nat → Int64)) (v_shelves_0_there : Int32) (v_shelves_0_sort : Int32) (v_shelves_0_size : Int32) (v_shelves_0_bends : (Nat → Int64)) (v_shelves_0_filled : (Nat → Int32)) (v_shelves_1_there : Int32) (v_shelves_1_sort : Int32) (v_shelves_1_size : Int32) (v_shelves_1_bends : (Nat → Int64)) (v_shelves_1_filled : (Nat → Int32)) (v_shelves_2_there : Int32) (v_shelves_2_sort : Int32) (v_shelves_2_size : Int32) (v_shelves_2_bends : (Nat → Int64)) (v_shelves_2_filled : (Nat → Int32)) (w_bends : (Nat → Int64)) (w_isKept : (Nat → Int32)) (w_copies : (Nat → Int64)) (w_shelfMany : (Nat → Int32)) (w_shelfSort : (Nat → Int32)) (w_shelfHas : (Nat → Int64)) (p1 : Int32) (hI : INV v_now v_stepsToRoot v_packing_first v_packing_tally_counts v_packing_tally_reach v_packing_leasts_row v_packing_leasts_size v_packing_remainderSets v_copies_0 v_copies_1 v_copies_2 v_kept v_shelves_0_there v_shelves_0_sort v_shelves_0_size v_shelves_0_bends v_shelves_0_filled v_shelves_1_there v_shelves_1_sort v_shelves_1_size v_shelves_1_bends v_shelves_1_filled v_shelves_2_there v_shelves_2_sort v_shelves_2_size v_shelves_2_bends v_shelves_2_filled w_bends w_isKept w_copies w_shelfMany w_shelfSort w_shelfHas) : ∃ (Rx : Int32 × Int32 × (Nat → Int64) × Int32 × Int32 × (Nat → Int64) × (Nat → Int64) × Int32 × Int32 × (Nat → Int32)) (Rm : Int32 × (Nat → Int64)), pX8_back n v_stepsToRoot v_now v_descent_made v_descent_last v_descent_four v_packing_first v_packing_tally_reach v_packing_leasts_size v_packing_remainderSets v_copies_0 v_copies_1 v_copies_2 v_kept p1 = some Rx ∧ pX9_back n w_bends w_isKept w_copies p1 = some Rm ∧ Rx.1 = Rm.1 ∧ INV Rx.2.2.1 Rx.2.1 Rx.2.2.2.2.2.2.1 v_packing_tally_counts Rx.2.2.2.2.2.2.2.1 v_packing_leasts_row Rx.2.2.2.2.2.2.2.2.1 Rx.2.2.2.2.2.2.2.2.2 v_copies_0 v_copies_1 v_copies_2 v_kept v_shelves_0_there v_shelves_0_sort v_shelves_0_size v_shelves_0_bends v_shelves_0_filled v_shelves_1_there v_shelves_1_sort v_shelves_1_size v_shelves_1_bends v_shelves_1_filled v_shelves_2_there v_shelves_2_sort v_shelves_2_size v_shelves_2_bends v_shelves_2_filled Rm.2 w_isKept w_copies w_shelfMany w_shelfSort w_shelfHas := by
  obtain ⟨⟨hg, he, k, hk, hr, hst⟩, hP, hC, hS⟩ := id hI
  have hn5 := fu1 hn
  rcases k3 p1 with ⟨e1, e2, -, -⟩ | ⟨e1, e2, -, -, h⟩
  · refine ⟨_, _, by rw [pX8_back, e1, Option.bind_some, if_pos rfl], by rw [pX9_back, e2, Option.bind_some, if_pos rfl], ?_, ?_⟩
    · rfl
    · exact hI
  rcases h with rfl | rfl | rfl
  · obtain ⟨Ca, Cb, Cc⟩ := hC.1
    by_cases hz : v_kept 0 = 0
    · refine ⟨_, _, by rw [pX8_back, e1, Option.bind_some, if_neg (by decide), ck_t (by decide), tn_0, if_pos hz], by rw [pX9_back, e2, Option.bind_some, if_neg (by decide), ck_t (by decide), tn_0, if_pos (by rw [← Ca]; exact hz)], ?_, ?_⟩
      · rfl
      · exact hI
    · obtain ⟨c1, c2⟩ := Cc (Cb.resolve_left hz)
      obtain ⟨z, e3, e4⟩ := cx_eq (n := n) (by omega) v_copies_0 v_now
      have hb : GB z := e4.sym.gb c1
      obtain ⟨k', R, f1, f2, f3, f4⟩ := frx hn5 (four := v_descent_four) (first := v_packing_first) (re := v_packing_tally_reach) (ls := v_packing_leasts_size) (rs := v_packing_remainderSets) hb
      obtain ⟨k2, r2, d1, d2⟩ := RT.ex hb
      have hk' : k' < 45000 := by rw [(f3.det d1).1]; exact d2
      obtain ⟨m, rfl⟩ : ∃ m, n = m + 5 := ⟨n - 5, by omega⟩
      refine ⟨_, _, by rw [pX8_back, e1, Option.bind_some, if_neg (by decide), ck_t (by decide), tn_0, if_neg hz, if_pos rfl, e3, Option.bind_some, f1, Option.bind_some], by rw [pX9_back, e2, Option.bind_some, if_neg (by decide), ck_t (by decide), tn_0, if_neg (by rw [← Ca]; exact hz), bk0], ?_, ?_⟩
      · rfl
      · refine ⟨⟨hb, (e4.tr c2).tr ⟨rfl, rfl, rfl, rfl⟩, k', hk', f3, f2⟩, ?_, hC, hS⟩
        rcases f4 with ⟨g1, g2, g3, g4⟩ | ⟨g2, g3, g4⟩
        · show PK R.2.2.2.2.1 _ R.2.2.2.2.2.1 _ R.2.2.2.2.2.2.1 R.2.2.2.2.2.2.2
          rw [g1, g2, g3, g4]; exact hP
        · exact pk_reset _ _ _ g2 g3 g4
  · obtain ⟨Ca, Cb, Cc⟩ := hC.2.1
    by_cases hz : v_kept 1 = 0
    · refine ⟨_, _, by rw [pX8_back, e1, Option.bind_some, if_neg (by decide), ck_t (by decide), tn_1, if_pos hz], by rw [pX9_back, e2, Option.bind_some, if_neg (by decide), ck_t (by decide), tn_1, if_pos (by rw [← Ca]; exact hz)], ?_, ?_⟩
      · rfl
      · exact hI
    · obtain ⟨c1, c2⟩ := Cc (Cb.resolve_left hz)
      obtain ⟨z, e3, e4⟩ := cx_eq (n := n) (by omega) v_copies_1 v_now
      have hb : GB z := e4.sym.gb c1
      obtain ⟨k', R, f1, f2, f3, f4⟩ := frx hn5 (four := v_descent_four) (first := v_packing_first) (re := v_packing_tally_reach) (ls := v_packing_leasts_size) (rs := v_packing_remainderSets) hb
      obtain ⟨k2, r2, d1, d2⟩ := RT.ex hb
      have hk' : k' < 45000 := by rw [(f3.det d1).1]; exact d2
      obtain ⟨m, rfl⟩ : ∃ m, n = m + 5 := ⟨n - 5, by omega⟩
      refine ⟨_, _, by rw [pX8_back, e1, Option.bind_some, if_neg (by decide), ck_t (by decide), tn_1, if_neg hz, if_neg (by decide), if_pos rfl, e3, Option.bind_some, f1, Option.bind_some], by rw [pX9_back, e2, Option.bind_some, if_neg (by decide), ck_t (by decide), tn_1, if_neg (by rw [← Ca]; exact hz), bk1], ?_, ?_⟩
      · rfl
      · refine ⟨⟨hb, (e4.tr c2).tr ⟨rfl, rfl, rfl, rfl⟩, k', hk', f3, f2⟩, ?_, hC, hS⟩
        rcases f4 with ⟨g1, g2, g3, g4⟩ | ⟨g2, g3, g4⟩
        · show PK R.2.2.2.2.1 _ R.2.2.2.2.2.1 _ R.2.2.2.2.2.2.1 R.2.2.2.2.2.2.2
          rw [g1, g2, g3, g4]; exact hP
        · exact pk_reset _ _ _ g2 g3 g4
  · obtain ⟨Ca, Cb, Cc⟩ := hC.2.2
    by_cases hz : v_kept 2 = 0
    · refine ⟨_, _, by rw [pX8_back, e1, Option.bind_some, if_neg (by decide), ck_t (by decide), tn_2, if_pos hz], by rw [pX9_back, e2, Option.bind_some, if_neg (by decide), ck_t (by decide), tn_2, if_pos (by rw [← Ca]; exact hz)], ?_, ?_⟩
      · rfl
      · exact hI
    · obtain ⟨c1, c2⟩ := Cc (Cb.resolve_left hz)
      obtain ⟨z, e3, e4⟩ := cx_eq (n := n) (by omega) v_copies_2 v_now
      have hb : GB z := e4.sym.gb c1
      obtain ⟨k', R, f1, f2, f3, f4⟩ := frx hn5 (four := v_descent_four) (first := v_packing_first) (re := v_packing_tally_reach) (ls := v_packing_leasts_size) (rs := v_packing_remainderSets) hb
      obtain ⟨k2, r2, d1, d2⟩ := RT.ex hb
      have hk' : k' < 45000 := by rw [(f3.det d1).1]; exact d2
      obtain ⟨m, rfl⟩ : ∃ m, n = m + 5 := ⟨n - 5, by omega⟩
      refine ⟨_, _, by rw [pX8_back, e1, Option.bind_some, if_neg (by decide), ck_t (by decide), tn_2, if_neg hz, if_neg (by decide), if_neg (by decide), if_pos rfl, e3, Option.bind_some, f1, Option.bind_some], by rw [pX9_back, e2, Option.bind_some, if_neg (by decide), ck_t (by decide), tn_2, if_neg (by rw [← Ca]; exact hz), bk2], ?_, ?_⟩
      · rfl
      · refine ⟨⟨hb, (e4.tr c2).tr ⟨rfl, rfl, rfl, rfl⟩, k', hk', f3, f2⟩, ?_, hC, hS⟩
        rcases f4 with ⟨g1, g2, g3, g4⟩ | ⟨g2, g3, g4⟩
        · show PK R.2.2.2.2.1 _ R.2.2.2.2.2.1 _ R.2.2.2.2.2.2.1 R.2.2.2.2.2.2.2
          rw [g1, g2, g3, g4]; exact hP
        · exact pk_reset _ _ _ g2 g3 g4
