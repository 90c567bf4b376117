theorem sim_many (n : Nat) (hn : FU ≤ n) (v_packing_first : (Nat → Int64)) (v_kept : (Nat → Int32)) (v_shelves_0_there : Int32) (v_shelves_0_filled : (Nat → Int32)) (v_shelves_1_there : Int32) (v_shelves_1_filled : (Nat → Int32)) (v_shelves_2_there : Int32) (v_shelves_2_filled : (Nat → Int32)) (v_now : (Nat → Int64)) (v_stepsToRoot : Int32) (v_packing_tally_counts : (Nat → Int32)) (v_packing_tally_reach : Int32) (v_packing_leasts_row : (Nat → Int64)) (v_packing_leasts_size : Int32) (v_packing_remainderSets : (Nat → Int32)) (v_copies_0 : (Nat → Int64)) (v_copies_1 : (Nat → Int64)) (v_copies_2 : (Nat → Int64)) (v_shelves_0_sort : Int32) (v_shelves_0_size : Int32) (v_shelves_0_bends : (Nat → Int64)) (v_shelves_1_sort : Int32) (v_shelves_1_size : Int32) (v_shelves_1_bends : (Nat → Int64)) (v_shelves_2_sort : Int32) (v_shelves_2_size : Int32) (v_shelves_2_bends : (Nat → Int64)) (w_stepAt : Int32) (w_bends : (Nat → Int64)) (w_rootAt : (Nat → Int64)) (w_isKept : (Nat → Int32)) (w_shelfMany : (Nat → Int32)) (w_shelfHas : (Nat → Int64)) (w_copies : (Nat → Int64)) (w_shelfSort : (Nat → Int32)) (p1 : Int32) (hI : INV v_now v_stepsToRoot v_packing_first v_packing_tally_counts v_packing_tally_reach v_packing_leasts_row v_packing_leasts_size v_packing_remainderSets v_copies_0 v_copies_1 v_copies_2 v_kept v_shelves_0_there v_shelves_0_sort v_shelves_0_size v_shelves_0_bends v_shelves_0_filled v_shelves_1_there v_shelves_1_sort v_shelves_1_size v_shelves_1_bends v_shelves_1_filled v_shelves_2_there v_shelves_2_sort v_shelves_2_size v_shelves_2_bends v_shelves_2_filled w_bends w_isKept w_copies w_shelfMany w_shelfSort w_shelfHas) : ∃ (Rx : Int32) (Rm : Int32 × Int32 × (Nat → Int64)), pX8_many n v_packing_first v_kept v_shelves_0_there v_shelves_0_filled v_shelves_1_there v_shelves_1_filled v_shelves_2_there v_shelves_2_filled p1 = some Rx ∧ pX9_many n w_stepAt w_bends w_rootAt w_isKept w_shelfMany w_shelfHas p1 = some Rm ∧ Rx = Rm.1 ∧ INV v_now v_stepsToRoot v_packing_first v_packing_tally_counts v_packing_tally_reach v_packing_leasts_row v_packing_leasts_size v_packing_remainderSets v_copies_0 v_copies_1 v_copies_2 v_kept v_shelves_0_there v_shelves_0_sort v_shelves_0_size v_shelves_0_bends v_shelves_0_filled v_shelves_1_there v_shelves_1_sort v_shelves_1_size v_shelves_1_bends v_shelves_1_filled v_shelves_2_there v_shelves_2_sort v_shelves_2_size v_shelves_2_bends v_shelves_2_filled w_bends w_isKept w_copies w_shelfMany w_shelfSort w_shelfHas := by
  obtain ⟨hR, hP, ⟨⟨c0, -⟩, ⟨c1, -⟩, ⟨c2, -⟩⟩, S0, S1, S2⟩ := id hI
  have hn5 := fu1 hn
  obtain ⟨b, w, z, b1, b2, -, -⟩ := bnd hn hR w_rootAt
  obtain ⟨m, rfl⟩ : ∃ m, n = m + 11 := ⟨n - 11, by omega⟩
  by_cases h0 : p1 = 0
  · obtain ⟨r, e1, e2⟩ := csh (sh_th S0) (sh_th S1) (sh_th S2) (m + 7)
    refine ⟨_, _, by rw [pX8_many, if_pos h0, e1, Option.bind_some], by rw [pX9_many, if_pos h0, e2, Option.bind_some], ?_, ?_⟩
    · rfl
    · exact hI
  by_cases h1 : p1 = 1
  · obtain ⟨r, e1, e2⟩ := ccx c0 c1 c2 (m + 7)
    refine ⟨_, _, by rw [pX8_many, if_neg h0, if_pos h1, e1, Option.bind_some], by rw [pX9_many, if_neg h0, if_pos h1, e2], ?_, ?_⟩
    · rfl
    · exact hI
  by_cases h2 : p1 = 2
  · obtain ⟨r0, x0, y0⟩ := sh_lie (t := 0) (by omega) S0
    obtain ⟨r1, x1, y1⟩ := sh_lie (t := 1) (by omega) S1
    obtain ⟨r2, x2, y2⟩ := sh_lie (t := 2) (by omega) S2
    refine ⟨_, _, by rw [pX8_many, if_neg h0, if_neg h1, if_pos h2, clx m x0 x1 x2, Option.bind_some], by rw [pX9_many, if_neg h0, if_neg h1, if_pos h2, clm m y0 y1 y2, Option.bind_some], ?_, ?_⟩
    · rfl
    · exact hI
  by_cases h3 : p1 = 3
  · by_cases q : b = 0
    · refine ⟨_, _, by rw [pX8_many, if_neg h0, if_neg h1, if_neg h2, if_pos h3, b2, Option.bind_some, if_pos q], by rw [pX9_many, if_neg h0, if_neg h1, if_neg h2, if_pos h3, b1, Option.bind_some, if_pos q], ?_, ?_⟩
      · rfl
      · exact hI
    · refine ⟨_, _, by rw [pX8_many, if_neg h0, if_neg h1, if_neg h2, if_pos h3, b2, Option.bind_some, if_neg q], by rw [pX9_many, if_neg h0, if_neg h1, if_neg h2, if_pos h3, b1, Option.bind_some, if_neg q], ?_, ?_⟩
      · rfl
      · exact hI
  refine ⟨_, _, by rw [pX8_many, if_neg h0, if_neg h1, if_neg h2, if_neg h3], by rw [pX9_many, if_neg h0, if_neg h1, if_neg h2, if_neg h3], ?_, ?_⟩
  · rfl
  · exact hI
