theorem sim_upTo (n : Nat) (hn : FU ≤ n) (v_packing_first : (Nat → Int64)) (v_packing_walk_depth : Int32) (v_packing_walk_row : (Nat → Int32)) (v_packing_walk_four : (Nat → Int64)) (v_packing_tally_reach : Int32) (v_packing_tally_counts : (Nat → Int32)) (v_now : (Nat → Int64)) (v_stepsToRoot : Int32) (v_packing_leasts_row : (Nat → Int64)) (v_packing_leasts_size : Int32) (v_packing_remainderSets : (Nat → Int32)) (v_copies_0 : (Nat → Int64)) (v_copies_1 : (Nat → Int64)) (v_copies_2 : (Nat → Int64)) (v_kept : (Nat → Int32)) (v_shelves_0_there : Int32) (v_shelves_0_sort : Int32) (v_shelves_0_size : Int32) (v_shelves_0_bends : (Nat → Int64)) (v_shelves_0_filled : (Nat → Int32)) (v_shelves_1_there : Int32) (v_shelves_1_sort : Int32) (v_shelves_1_size : Int32) (v_shelves_1_bends : (Nat → Int64)) (v_shelves_1_filled : (Nat → Int32)) (v_shelves_2_there : Int32) (v_shelves_2_sort : Int32) (v_shelves_2_size : Int32) (v_shelves_2_bends : (Nat → Int64)) (v_shelves_2_filled : (Nat → Int32)) (w_stepAt : Int32) (w_justMany : Int32) (w_bends : (Nat → Int64)) (w_rootAt : (Nat → Int64)) (w_pile : (Nat → Int64)) (w_lastAt : (Nat → Int32)) (w_nextAt : (Nat → Int32)) (w_hasBend : (Nat → Int32)) (w_isKept : (Nat → Int32)) (w_copies : (Nat → Int64)) (w_shelfMany : (Nat → Int32)) (w_shelfSort : (Nat → Int32)) (w_shelfHas : (Nat → Int64)) (p1 : Int32) (hI : INV v_now v_stepsToRoot v_packing_first v_packing_tally_counts v_packing_tally_reach v_packing_leasts_row v_packing_leasts_size v_packing_remainderSets v_copies_0 v_copies_1 v_copies_2 v_kept v_shelves_0_there v_shelves_0_sort v_shelves_0_size v_shelves_0_bends v_shelves_0_filled v_shelves_1_there v_shelves_1_sort v_shelves_1_size v_shelves_1_bends v_shelves_1_filled v_shelves_2_there v_shelves_2_sort v_shelves_2_size v_shelves_2_bends v_shelves_2_filled w_bends w_isKept w_copies w_shelfMany w_shelfSort w_shelfHas) : ∃ (Rx : Int32 × Int32 × (Nat → Int32) × (Nat → Int64) × Int32 × (Nat → Int32)) (Rm : Int32 × Int32 × Int32 × (Nat → Int64) × (Nat → Int64) × (Nat → Int32) × (Nat → Int32) × (Nat → Int32)), pX8_upTo n v_packing_first v_packing_walk_depth v_packing_walk_row v_packing_walk_four v_packing_tally_reach v_packing_tally_counts p1 = some Rx ∧ pX9_upTo n w_stepAt w_justMany w_bends w_rootAt w_pile w_lastAt w_nextAt w_hasBend p1 = some Rm ∧ Rx.1 = Rm.1 ∧ INV v_now v_stepsToRoot v_packing_first Rx.2.2.2.2.2 Rx.2.2.2.2.1 v_packing_leasts_row v_packing_leasts_size v_packing_remainderSets v_copies_0 v_copies_1 v_copies_2 v_kept v_shelves_0_there v_shelves_0_sort v_shelves_0_size v_shelves_0_bends v_shelves_0_filled v_shelves_1_there v_shelves_1_sort v_shelves_1_size v_shelves_1_bends v_shelves_1_filled v_shelves_2_there v_shelves_2_sort v_shelves_2_size v_shelves_2_bends v_shelves_2_filled w_bends w_isKept w_copies w_shelfMany w_shelfSort w_shelfHas := by
  obtain ⟨hR, hP, hC, hS⟩ := id hI
  obtain ⟨b, w, z, b1, b2, b3, b4⟩ := bnd hn hR w_rootAt
  obtain ⟨hg, he, k, hk, hr, hst⟩ := id hR
  rcases ask_cases p1 with ⟨a1, a2⟩ | ⟨a1, a2, a3, a4⟩
  · refine ⟨_, _, by rw [pX8_upTo, a1, Option.bind_some, if_pos rfl], by rw [pX9_upTo, a2, Option.bind_some, if_pos rfl], ?_, ?_⟩
    · rfl
    · exact hI
  rcases b4 with ⟨b5, b6⟩ | ⟨b5, b6⟩
  · refine ⟨_, _, by rw [pX8_upTo, a1, Option.bind_some, if_neg (by decide), b2, Option.bind_some, if_pos b5], by rw [pX9_upTo, a2, Option.bind_some, if_neg (by decide), b1, Option.bind_some, if_pos b5], ?_, ?_⟩
    · rfl
    · exact hI
  · have hne : ¬ b = 0 := by rw [b5]; decide
    have hb := br_of hg hr b6
    obtain ⟨d, w', f, re', cnt', c1, c2⟩ := cu_eq hn hb hP v_packing_walk_depth v_packing_walk_row v_packing_walk_four a4
    obtain ⟨jm, pi, la, ne, hh, m1, m2⟩ := au_eq hn hb b3 a4 (p4 := -9223372036854775808) w_pile w_lastAt w_nextAt w_hasBend
    refine ⟨_, _, by rw [pX8_upTo, a1, Option.bind_some, if_neg (by decide), b2, Option.bind_some, if_neg hne, c1, Option.bind_some], by rw [pX9_upTo, a2, Option.bind_some, if_neg (by decide), b1, Option.bind_some, if_neg hne, m1, Option.bind_some], ?_, ?_⟩
    · rfl
    · exact ⟨hR, c2, hC, hS⟩
theorem sim_just (n : Nat) (hn : FU ≤ n) (v_packing_first : (Nat → Int64)) (v_packing_walk_depth : Int32) (v_packing_walk_row : (Nat → Int32)) (v_packing_walk_four : (Nat → Int64)) (v_packing_tally_reach : Int32) (v_packing_tally_counts : (Nat → Int32)) (v_now : (Nat → Int64)) (v_stepsToRoot : Int32) (v_packing_leasts_row : (Nat → Int64)) (v_packing_leasts_size : Int32) (v_packing_remainderSets : (Nat → Int32)) (v_copies_0 : (Nat → Int64)) (v_copies_1 : (Nat → Int64)) (v_copies_2 : (Nat → Int64)) (v_kept : (Nat → Int32)) (v_shelves_0_there : Int32) (v_shelves_0_sort : Int32) (v_shelves_0_size : Int32) (v_shelves_0_bends : (Nat → Int64)) (v_shelves_0_filled : (Nat → Int32)) (v_shelves_1_there : Int32) (v_shelves_1_sort : Int32) (v_shelves_1_size : Int32) (v_shelves_1_bends : (Nat → Int64)) (v_shelves_1_filled : (Nat → Int32)) (v_shelves_2_there : Int32) (v_shelves_2_sort : Int32) (v_shelves_2_size : Int32) (v_shelves_2_bends : (Nat → Int64)) (v_shelves_2_filled : (Nat → Int32)) (w_stepAt : Int32) (w_justMany : Int32) (w_bends : (Nat → Int64)) (w_rootAt : (Nat → Int64)) (w_pile : (Nat → Int64)) (w_lastAt : (Nat → Int32)) (w_nextAt : (Nat → Int32)) (w_hasBend : (Nat → Int32)) (w_isKept : (Nat → Int32)) (w_copies : (Nat → Int64)) (w_shelfMany : (Nat → Int32)) (w_shelfSort : (Nat → Int32)) (w_shelfHas : (Nat → Int64)) (p1 : Int32) (hI : INV v_now v_stepsToRoot v_packing_first v_packing_tally_counts v_packing_tally_reach v_packing_leasts_row v_packing_leasts_size v_packing_remainderSets v_copies_0 v_copies_1 v_copies_2 v_kept v_shelves_0_there v_shelves_0_sort v_shelves_0_size v_shelves_0_bends v_shelves_0_filled v_shelves_1_there v_shelves_1_sort v_shelves_1_size v_shelves_1_bends v_shelves_1_filled v_shelves_2_there v_shelves_2_sort v_shelves_2_size v_shelves_2_bends v_shelves_2_filled w_bends w_isKept w_copies w_shelfMany w_shelfSort w_shelfHas) : ∃ (Rx : Int32 × Int32 × (Nat → Int32) × (Nat → Int64) × Int32 × (Nat → Int32)) (Rm : Int32 × Int32 × Int32 × (Nat → Int64) × (Nat → Int64) × (Nat → Int32) × (Nat → Int32) × (Nat → Int32)), pX8_just n v_packing_first v_packing_walk_depth v_packing_walk_row v_packing_walk_four v_packing_tally_reach v_packing_tally_counts p1 = some Rx ∧ pX9_just n w_stepAt w_justMany w_bends w_rootAt w_pile w_lastAt w_nextAt w_hasBend p1 = some Rm ∧ Rx.1 = Rm.1 ∧ INV v_now v_stepsToRoot v_packing_first Rx.2.2.2.2.2 Rx.2.2.2.2.1 v_packing_leasts_row v_packing_leasts_size v_packing_remainderSets v_copies_0 v_copies_1 v_copies_2 v_kept v_shelves_0_there v_shelves_0_sort v_shelves_0_size v_shelves_0_bends v_shelves_0_filled v_shelves_1_there v_shelves_1_sort v_shelves_1_size v_shelves_1_bends v_shelves_1_filled v_shelves_2_there v_shelves_2_sort v_shelves_2_size v_shelves_2_bends v_shelves_2_filled w_bends w_isKept w_copies w_shelfMany w_shelfSort w_shelfHas := by
  obtain ⟨hR, hP, hC, hS⟩ := id hI
  obtain ⟨b, w, z, b1, b2, b3, b4⟩ := bnd hn hR w_rootAt
  obtain ⟨hg, he, k, hk, hr, hst⟩ := id hR
  rcases ask_cases p1 with ⟨a1, a2⟩ | ⟨a1, a2, a3, a4⟩
  · refine ⟨_, _, by rw [pX8_just, a1, Option.bind_some, if_pos rfl], by rw [pX9_just, a2, Option.bind_some, if_pos rfl], ?_, ?_⟩
    · rfl
    · exact hI
  rcases b4 with ⟨b5, b6⟩ | ⟨b5, b6⟩
  · refine ⟨_, _, by rw [pX8_just, a1, Option.bind_some, if_neg (by decide), b2, Option.bind_some, if_pos b5], by rw [pX9_just, a2, Option.bind_some, if_neg (by decide), b1, Option.bind_some, if_pos b5], ?_, ?_⟩
    · rfl
    · exact hI
  · have hne : ¬ b = 0 := by rw [b5]; decide
    have hb := br_of hg hr b6
    have e1 : (1 : Int32).toInt = 1 := rfl
    have es := i32_sub (a := p1) (b := 1) (by rw [e1]; omega) (by rw [e1]; omega)
    rw [e1] at es
    obtain ⟨d, w', f, re', cnt', c1, c2⟩ := cu_eq hn hb hP v_packing_walk_depth v_packing_walk_row v_packing_walk_four a4
    obtain ⟨d2, w2, f2, re2, cnt2, c3, c4⟩ := cu_eq hn hb c2 d w' f (p1 := p1 - 1) (by omega)
    obtain ⟨jm, pi, la, ne, hh, m1, m2⟩ := au_eq hn hb b3 a4 (p4 := p1.toInt64) w_pile w_lastAt w_nextAt w_hasBend
    refine ⟨_, _, by rw [pX8_just, a1, Option.bind_some, if_neg (by decide), b2, Option.bind_some, if_neg hne, c1, Option.bind_some, c3, Option.bind_some], by rw [pX9_just, a2, Option.bind_some, if_neg (by decide), b1, Option.bind_some, if_neg hne, m1, Option.bind_some], ?_, ?_⟩
    · have hj := just_eq hb.ro p1.toInt
      have hjm := m2.1
      rw [i64_of32] at hjm
      show nI (NC (zq v_packing_first) p1.toInt) - nI (NC (zq v_packing_first) (p1 - 1).toInt) = jm
      rw [es, hjm, ← hj, pk_sub (by omega)]
      congr 1
      omega
    · exact ⟨hR, c4, hC, hS⟩
