theorem sim_shelf (n : Nat) (hn : FU ≤ n) (v_shelves_0_there : Int32) (v_shelves_0_sort : Int32) (v_shelves_0_size : Int32) (v_shelves_0_filled : (Nat → Int32)) (v_shelves_1_there : Int32) (v_shelves_1_sort : Int32) (v_shelves_1_size : Int32) (v_shelves_1_filled : (Nat → Int32)) (v_shelves_2_there : Int32) (v_shelves_2_sort : Int32) (v_shelves_2_size : Int32) (v_shelves_2_filled : (Nat → Int32)) (v_now : (Nat → Int64)) (v_stepsToRoot : Int32) (v_packing_first : (Nat → Int64)) (v_packing_tally_counts : (Nat → Int32)) (v_packing_tally_reach : Int32) (v_packing_leasts_row : (Nat → Int64)) (v_packing_leasts_size : Int32) (v_packing_remainderSets : (Nat → Int32)) (v_copies_0 : (Nat → Int64)) (v_copies_1 : (Nat → Int64)) (v_copies_2 : (Nat → Int64)) (v_kept : (Nat → Int32)) (v_shelves_0_bends : (Nat → Int64)) (v_shelves_1_bends : (Nat → Int64)) (v_shelves_2_bends : (Nat → Int64)) (w_shelfMany : (Nat → Int32)) (w_shelfSort : (Nat → Int32)) (w_shelfHas : (Nat → Int64)) (w_bends : (Nat → Int64)) (w_isKept : (Nat → Int32)) (w_copies : (Nat → Int64)) (p1 : Int32) (p2 : Int32) (p3 : Int32) (hI : INV v_now v_stepsToRoot v_packing_first v_packing_tally_counts v_packing_tally_reach v_packing_leasts_row v_packing_leasts_size v_packing_remainderSets v_copies_0 v_copies_1 v_copies_2 v_kept v_shelves_0_there v_shelves_0_sort v_shelves_0_size v_shelves_0_bends v_shelves_0_filled v_shelves_1_there v_shelves_1_sort v_shelves_1_size v_shelves_1_bends v_shelves_1_filled v_shelves_2_there v_shelves_2_sort v_shelves_2_size v_shelves_2_bends v_shelves_2_filled w_bends w_isKept w_copies w_shelfMany w_shelfSort w_shelfHas) : ∃ (Rx : Int32 × Int32 × Int32 × Int32 × (Nat → Int32) × Int32 × Int32 × Int32 × (Nat → Int32) × Int32 × Int32 × Int32 × (Nat → Int32)) (Rm : Int32 × (Nat → Int32) × (Nat → Int32) × (Nat → Int64)), pX8_shelf n v_shelves_0_there v_shelves_0_sort v_shelves_0_size v_shelves_0_filled v_shelves_1_there v_shelves_1_sort v_shelves_1_size v_shelves_1_filled v_shelves_2_there v_shelves_2_sort v_shelves_2_size v_shelves_2_filled p1 p2 p3 = some Rx ∧ pX9_shelf n w_shelfMany w_shelfSort w_shelfHas p1 p2 p3 = some Rm ∧ Rx.1 = Rm.1 ∧ INV v_now v_stepsToRoot v_packing_first v_packing_tally_counts v_packing_tally_reach v_packing_leasts_row v_packing_leasts_size v_packing_remainderSets v_copies_0 v_copies_1 v_copies_2 v_kept Rx.2.1 Rx.2.2.1 Rx.2.2.2.1 v_shelves_0_bends Rx.2.2.2.2.1 Rx.2.2.2.2.2.1 Rx.2.2.2.2.2.2.1 Rx.2.2.2.2.2.2.2.1 v_shelves_1_bends Rx.2.2.2.2.2.2.2.2.1 Rx.2.2.2.2.2.2.2.2.2.1 Rx.2.2.2.2.2.2.2.2.2.2.1 Rx.2.2.2.2.2.2.2.2.2.2.2.1 v_shelves_2_bends Rx.2.2.2.2.2.2.2.2.2.2.2.2 w_bends w_isKept w_copies Rm.2.1 Rm.2.2.1 Rm.2.2.2 := by
  obtain ⟨hR, hP, hC, S0, S1, S2⟩ := id hI
  have hn5 := fu1 hn
  obtain ⟨m, rfl⟩ : ∃ m, n = m + 7 := ⟨n - 7, by omega⟩
  rcases k3 p1 with ⟨-, -, e1, e2⟩ | ⟨-, -, e1, e2, h⟩
  · refine ⟨_, _, by rw [pX8_shelf, e1, Option.bind_some, if_pos rfl], by rw [pX9_shelf, e2, Option.bind_some, if_pos rfl], ?_, ?_⟩
    · rfl
    · exact hI
  by_cases h1 : p2 < 0
  · refine ⟨_, _, by rw [pX8_shelf, e1, Option.bind_some, if_neg (by decide), if_pos h1], by rw [pX9_shelf, e2, Option.bind_some, if_neg (by decide), pX9_within, if_pos h1, Option.bind_some, if_pos rfl], ?_, ?_⟩
    · rfl
    · exact hI
  by_cases h2 : (3 : Int32) < p2
  · refine ⟨_, _, by rw [pX8_shelf, e1, Option.bind_some, if_neg (by decide), if_neg h1, if_pos h2], by rw [pX9_shelf, e2, Option.bind_some, if_neg (by decide), pX9_within, if_neg h1, if_pos h2, Option.bind_some, if_pos rfl], ?_, ?_⟩
    · rfl
    · exact hI
  by_cases h3 : p3 ≤ (6 : Int32)
  rotate_left
  · refine ⟨_, _, by rw [pX8_shelf, e1, Option.bind_some, if_neg (by decide), if_neg h1, if_neg h2, if_neg h3], by rw [pX9_shelf, e2, Option.bind_some, if_neg (by decide), pX9_within, if_neg h1, if_neg h2, Option.bind_some, if_neg (by decide), if_neg h3], ?_, ?_⟩
    · rfl
    · exact hI
  by_cases h4 : 0 ≤ p3
  rotate_left
  · refine ⟨_, _, by rw [pX8_shelf, e1, Option.bind_some, if_neg (by decide), if_neg h1, if_neg h2, if_pos h3, if_neg h4], by rw [pX9_shelf, e2, Option.bind_some, if_neg (by decide), pX9_within, if_neg h1, if_neg h2, Option.bind_some, if_neg (by decide), if_pos h3, if_neg h4], ?_, ?_⟩
    · rfl
    · exact hI
  have b1 : 0 ≤ p2.toInt ∧ p2.toInt ≤ 3 := by rw [i32_lt] at h1 h2; exact ⟨by have : (0 : Int32).toInt = 0 := rfl; omega, by have : (3 : Int32).toInt = 3 := rfl; omega⟩
  have b2 : 0 ≤ p3.toInt ∧ p3.toInt ≤ 6 := ⟨i32_le.mp h4, i32_le.mp h3⟩
  rcases h with rfl | rfl | rfl
  · refine ⟨_, _, by rw [pX8_shelf, e1, Option.bind_some, if_neg (by decide), if_neg h1, if_neg h2, if_pos h3, if_pos h4, if_pos rfl, rn_eq, Option.bind_some], by rw [pX9_shelf, e2, Option.bind_some, if_neg (by decide), pX9_within, if_neg h1, if_neg h2, Option.bind_some, if_neg (by decide), if_pos h3, if_pos h4, ck_t (by decide), sl_0], ?_, ?_⟩
    · rfl
    · exact ⟨hR, hP, hC, sh_new 0 _ _ _ _ b1 b2, sh_frame S1 rfl rfl (fun i hi => h6_out 0 _ (by omega)), sh_frame S2 rfl rfl (fun i hi => h6_out 0 _ (by omega))⟩
  · refine ⟨_, _, by rw [pX8_shelf, e1, Option.bind_some, if_neg (by decide), if_neg h1, if_neg h2, if_pos h3, if_pos h4, if_neg (by decide), if_pos rfl, rn_eq, Option.bind_some], by rw [pX9_shelf, e2, Option.bind_some, if_neg (by decide), pX9_within, if_neg h1, if_neg h2, Option.bind_some, if_neg (by decide), if_pos h3, if_pos h4, ck_t (by decide), sl_1], ?_, ?_⟩
    · rfl
    · exact ⟨hR, hP, hC, sh_frame S0 rfl rfl (fun i hi => h6_out 1 _ (by omega)), sh_new 1 _ _ _ _ b1 b2, sh_frame S2 rfl rfl (fun i hi => h6_out 1 _ (by omega))⟩
  · refine ⟨_, _, by rw [pX8_shelf, e1, Option.bind_some, if_neg (by decide), if_neg h1, if_neg h2, if_pos h3, if_pos h4, if_neg (by decide), if_neg (by decide), if_pos rfl, rn_eq, Option.bind_some], by rw [pX9_shelf, e2, Option.bind_some, if_neg (by decide), pX9_within, if_neg h1, if_neg h2, Option.bind_some, if_neg (by decide), if_pos h3, if_pos h4, ck_t (by decide), sl_2], ?_, ?_⟩
    · rfl
    · exact ⟨hR, hP, hC, sh_frame S0 rfl rfl (fun i hi => h6_out 2 _ (by omega)), sh_frame S1 rfl rfl (fun i hi => h6_out 2 _ (by omega)), sh_new 2 _ _ _ _ b1 b2⟩
theorem sim_lay (n : Nat) (hn : FU ≤ n) (v_now : (Nat → Int64)) (v_shelves_0_there : Int32) (v_shelves_0_sort : Int32) (v_shelves_0_size : Int32) (v_shelves_0_bends : (Nat → Int64)) (v_shelves_0_filled : (Nat → Int32)) (v_shelves_1_there : Int32) (v_shelves_1_sort : Int32) (v_shelves_1_size : Int32) (v_shelves_1_bends : (Nat → Int64)) (v_shelves_1_filled : (Nat → Int32)) (v_shelves_2_there : Int32) (v_shelves_2_sort : Int32) (v_shelves_2_size : Int32) (v_shelves_2_bends : (Nat → Int64)) (v_shelves_2_filled : (Nat → Int32)) (v_stepsToRoot : Int32) (v_packing_first : (Nat → Int64)) (v_packing_tally_counts : (Nat → Int32)) (v_packing_tally_reach : Int32) (v_packing_leasts_row : (Nat → Int64)) (v_packing_leasts_size : Int32) (v_packing_remainderSets : (Nat → Int32)) (v_copies_0 : (Nat → Int64)) (v_copies_1 : (Nat → Int64)) (v_copies_2 : (Nat → Int64)) (v_kept : (Nat → Int32)) (w_bends : (Nat → Int64)) (w_shelfMany : (Nat → Int32)) (w_shelfSort : (Nat → Int32)) (w_shelfHas : (Nat → Int64)) (w_isKept : (Nat → Int32)) (w_copies : (Nat → Int64)) (p1 : Int32) (p2 : Int32) (p3 : Int32) (hI : INV v_now v_stepsToRoot v_packing_first v_packing_tally_counts v_packing_tally_reach v_packing_leasts_row v_packing_leasts_size v_packing_remainderSets v_copies_0 v_copies_1 v_copies_2 v_kept v_shelves_0_there v_shelves_0_sort v_shelves_0_size v_shelves_0_bends v_shelves_0_filled v_shelves_1_there v_shelves_1_sort v_shelves_1_size v_shelves_1_bends v_shelves_1_filled v_shelves_2_there v_shelves_2_sort v_shelves_2_size v_shelves_2_bends v_shelves_2_filled w_bends w_isKept w_copies w_shelfMany w_shelfSort w_shelfHas) : ∃ (Rx : Int32 × (Nat → Int64) × (Nat → Int32) × (Nat → Int64) × (Nat → Int32) × (Nat → Int64) × (Nat → Int32)) (Rm : Int32 × (Nat → Int64)), pX8_lay v_now v_shelves_0_there v_shelves_0_sort v_shelves_0_size v_shelves_0_bends v_shelves_0_filled v_shelves_1_there v_shelves_1_sort v_shelves_1_size v_shelves_1_bends v_shelves_1_filled v_shelves_2_there v_shelves_2_sort v_shelves_2_size v_shelves_2_bends v_shelves_2_filled p1 p2 p3 = some Rx ∧ pX9_lay w_bends w_shelfMany w_shelfSort w_shelfHas p1 p2 p3 = some Rm ∧ Rx.1 = Rm.1 ∧ INV v_now v_stepsToRoot v_packing_first v_packing_tally_counts v_packing_tally_reach v_packing_leasts_row v_packing_leasts_size v_packing_remainderSets v_copies_0 v_copies_1 v_copies_2 v_kept v_shelves_0_there v_shelves_0_sort v_shelves_0_size Rx.2.1 Rx.2.2.1 v_shelves_1_there v_shelves_1_sort v_shelves_1_size Rx.2.2.2.1 Rx.2.2.2.2.1 v_shelves_2_there v_shelves_2_sort v_shelves_2_size Rx.2.2.2.2.2.1 Rx.2.2.2.2.2.2 w_bends w_isKept w_copies w_shelfMany w_shelfSort Rm.2 := by
  obtain ⟨⟨hg, he, hk⟩, hP, hC, S0, S1, S2⟩ := id hI
  rcases k3 p1 with ⟨-, -, e1, e2⟩ | ⟨-, -, e1, e2, h⟩
  · refine ⟨_, _, by rw [pX8_lay, e1, Option.bind_some, if_pos rfl], by rw [pX9_lay, e2, Option.bind_some, if_pos rfl], ?_, ?_⟩
    · rfl
    · exact hI
  rcases pl_cases p3 with ⟨d1, d2⟩ | ⟨d1, d2, i, hi, d3, -⟩
  · refine ⟨_, _, by rw [pX8_lay, e1, Option.bind_some, if_neg (by decide), d1, Option.bind_some, if_pos rfl], by rw [pX9_lay, e2, Option.bind_some, if_neg (by decide), d2, Option.bind_some, if_pos rfl], ?_, ?_⟩
    · rfl
    · exact hI
  have hx : v_now i ≠ -9223372036854775808 := by
    intro q
    have := hg.2.at hi
    rw [q] at this
    exact absurd this.1 (by decide)
  rcases h with rfl | rfl | rfl
  · obtain ⟨r, be, fi, ha, l1, l2, l3, l4⟩ := lay_core (t := 0) (by omega) S0 hx p2 hi d3 (he.at hi).symm
    refine ⟨_, _, by rw [pX8_lay, e1, Option.bind_some, if_neg (by decide), d1, Option.bind_some, if_neg (by decide), if_pos rfl, d3, ck_t (ix_nI hi (by omega)), nI_clamp (by omega), l1, Option.bind_some], by rw [pX9_lay, e2, Option.bind_some, if_neg (by decide), d2, Option.bind_some, if_neg (by decide)]; exact l2, ?_, ?_⟩
    · rfl
    · exact ⟨⟨hg, he, hk⟩, hP, hC, l3, sh_frame S1 rfl rfl (fun i hi => l4 _ (by omega)), sh_frame S2 rfl rfl (fun i hi => l4 _ (by omega))⟩
  · obtain ⟨r, be, fi, ha, l1, l2, l3, l4⟩ := lay_core (t := 1) (by omega) S1 hx p2 hi d3 (he.at hi).symm
    refine ⟨_, _, by rw [pX8_lay, e1, Option.bind_some, if_neg (by decide), d1, Option.bind_some, if_neg (by decide), if_neg (by decide), if_pos rfl, d3, ck_t (ix_nI hi (by omega)), nI_clamp (by omega), l1, Option.bind_some], by rw [pX9_lay, e2, Option.bind_some, if_neg (by decide), d2, Option.bind_some, if_neg (by decide)]; exact l2, ?_, ?_⟩
    · rfl
    · exact ⟨⟨hg, he, hk⟩, hP, hC, sh_frame S0 rfl rfl (fun i hi => l4 _ (by omega)), l3, sh_frame S2 rfl rfl (fun i hi => l4 _ (by omega))⟩
  · obtain ⟨r, be, fi, ha, l1, l2, l3, l4⟩ := lay_core (t := 2) (by omega) S2 hx p2 hi d3 (he.at hi).symm
    refine ⟨_, _, by rw [pX8_lay, e1, Option.bind_some, if_neg (by decide), d1, Option.bind_some, if_neg (by decide), if_neg (by decide), if_neg (by decide), if_pos rfl, d3, ck_t (ix_nI hi (by omega)), nI_clamp (by omega), l1, Option.bind_some], by rw [pX9_lay, e2, Option.bind_some, if_neg (by decide), d2, Option.bind_some, if_neg (by decide)]; exact l2, ?_, ?_⟩
    · rfl
    · exact ⟨⟨hg, he, hk⟩, hP, hC, sh_frame S0 rfl rfl (fun i hi => l4 _ (by omega)), sh_frame S1 rfl rfl (fun i hi => l4 _ (by omega)), l3⟩
theorem sim_seen (n : Nat) (hn : FU ≤ n) (v_shelves_0_there : Int32) (v_shelves_0_size : Int32) (v_shelves_0_bends : (Nat → Int64)) (v_shelves_0_filled : (Nat → Int32)) (v_shelves_1_there : Int32) (v_shelves_1_size : Int32) (v_shelves_1_bends : (Nat → Int64)) (v_shelves_1_filled : (Nat → Int32)) (v_shelves_2_there : Int32) (v_shelves_2_size : Int32) (v_shelves_2_bends : (Nat → Int64)) (v_shelves_2_filled : (Nat → Int32)) (v_now : (Nat → Int64)) (v_stepsToRoot : Int32) (v_packing_first : (Nat → Int64)) (v_packing_tally_counts : (Nat → Int32)) (v_packing_tally_reach : Int32) (v_packing_leasts_row : (Nat → Int64)) (v_packing_leasts_size : Int32) (v_packing_remainderSets : (Nat → Int32)) (v_copies_0 : (Nat → Int64)) (v_copies_1 : (Nat → Int64)) (v_copies_2 : (Nat → Int64)) (v_kept : (Nat → Int32)) (v_shelves_0_sort : Int32) (v_shelves_1_sort : Int32) (v_shelves_2_sort : Int32) (w_shelfMany : (Nat → Int32)) (w_shelfHas : (Nat → Int64)) (w_bends : (Nat → Int64)) (w_isKept : (Nat → Int32)) (w_copies : (Nat → Int64)) (w_shelfSort : (Nat → Int32)) (p1 : Int32) (p2 : Int32) (hI : INV v_now v_stepsToRoot v_packing_first v_packing_tally_counts v_packing_tally_reach v_packing_leasts_row v_packing_leasts_size v_packing_remainderSets v_copies_0 v_copies_1 v_copies_2 v_kept v_shelves_0_there v_shelves_0_sort v_shelves_0_size v_shelves_0_bends v_shelves_0_filled v_shelves_1_there v_shelves_1_sort v_shelves_1_size v_shelves_1_bends v_shelves_1_filled v_shelves_2_there v_shelves_2_sort v_shelves_2_size v_shelves_2_bends v_shelves_2_filled w_bends w_isKept w_copies w_shelfMany w_shelfSort w_shelfHas) : ∃ (Rx : Int64) (Rm : Int64), pX8_seen v_shelves_0_there v_shelves_0_size v_shelves_0_bends v_shelves_0_filled v_shelves_1_there v_shelves_1_size v_shelves_1_bends v_shelves_1_filled v_shelves_2_there v_shelves_2_size v_shelves_2_bends v_shelves_2_filled p1 p2 = some Rx ∧ pX9_seen w_shelfMany w_shelfHas p1 p2 = some Rm ∧ Rx = Rm ∧ INV v_now v_stepsToRoot v_packing_first v_packing_tally_counts v_packing_tally_reach v_packing_leasts_row v_packing_leasts_size v_packing_remainderSets v_copies_0 v_copies_1 v_copies_2 v_kept v_shelves_0_there v_shelves_0_sort v_shelves_0_size v_shelves_0_bends v_shelves_0_filled v_shelves_1_there v_shelves_1_sort v_shelves_1_size v_shelves_1_bends v_shelves_1_filled v_shelves_2_there v_shelves_2_sort v_shelves_2_size v_shelves_2_bends v_shelves_2_filled w_bends w_isKept w_copies w_shelfMany w_shelfSort w_shelfHas := by
  obtain ⟨hR, hP, hC, S0, S1, S2⟩ := id hI
  rcases k3 p1 with ⟨-, -, e1, e2⟩ | ⟨-, -, e1, e2, h⟩
  · refine ⟨_, _, by rw [pX8_seen, e1, Option.bind_some, if_pos rfl], by rw [pX9_seen, e2, Option.bind_some, if_pos rfl], ?_, ?_⟩
    · rfl
    · exact hI
  rcases h with rfl | rfl | rfl
  · obtain ⟨r, l1, l2⟩ := seen_core (t := 0) (by omega) S0 p2
    refine ⟨_, _, by rw [pX8_seen, e1, Option.bind_some, if_neg (by decide), if_pos rfl, l1, Option.bind_some], by rw [pX9_seen, e2, Option.bind_some, if_neg (by decide)]; exact l2, ?_, ?_⟩
    · rfl
    · exact hI
  · obtain ⟨r, l1, l2⟩ := seen_core (t := 1) (by omega) S1 p2
    refine ⟨_, _, by rw [pX8_seen, e1, Option.bind_some, if_neg (by decide), if_neg (by decide), if_pos rfl, l1, Option.bind_some], by rw [pX9_seen, e2, Option.bind_some, if_neg (by decide)]; exact l2, ?_, ?_⟩
    · rfl
    · exact hI
  · obtain ⟨r, l1, l2⟩ := seen_core (t := 2) (by omega) S2 p2
    refine ⟨_, _, by rw [pX8_seen, e1, Option.bind_some, if_neg (by decide), if_neg (by decide), if_neg (by decide), if_pos rfl, l1, Option.bind_some], by rw [pX9_seen, e2, Option.bind_some, if_neg (by decide)]; exact l2, ?_, ?_⟩
    · rfl
    · exact hI
