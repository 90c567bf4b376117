theorem sim_least (n : Nat) (hn : FU ≤ n) (v_packing_first : (Nat → Int64)) (v_packing_walk_depth : Int32) (v_packing_walk_row : (Nat → Int32)) (v_packing_walk_four : (Nat → Int64)) (v_packing_leasts_size : Int32) (v_packing_leasts_wanted : Int32) (v_packing_leasts_row : (Nat → Int64)) (v_now : (Nat → Int64)) (v_stepsToRoot : Int32) (v_packing_tally_counts : (Nat → Int32)) (v_packing_tally_reach : Int32) (v_packing_remainderSets : (Nat → Int32)) (v_copies_0 : (Nat → Int64)) (v_copies_1 : (Nat → Int64)) (v_copies_2 : (Nat → Int64)) (v_kept : (Nat → Int32)) (v_shelves_0_there : Int32) (v_shelves_0_sort : Int32) (v_shelves_0_size : Int32) (v_shelves_0_bends : (Nat → Int64)) (v_shelves_0_filled : (Nat → Int32)) (v_shelves_1_there : Int32) (v_shelves_1_sort : Int32) (v_shelves_1_size : Int32) (v_shelves_1_bends : (Nat → Int64)) (v_shelves_1_filled : (Nat → Int32)) (v_shelves_2_there : Int32) (v_shelves_2_sort : Int32) (v_shelves_2_size : Int32) (v_shelves_2_bends : (Nat → Int64)) (v_shelves_2_filled : (Nat → Int32)) (w_stepAt : Int32) (w_justMany : Int32) (w_bends : (Nat → Int64)) (w_rootAt : (Nat → Int64)) (w_pile : (Nat → Int64)) (w_lastAt : (Nat → Int32)) (w_nextAt : (Nat → Int32)) (w_hasBend : (Nat → Int32)) (w_isKept : (Nat → Int32)) (w_copies : (Nat → Int64)) (w_shelfMany : (Nat → Int32)) (w_shelfSort : (Nat → Int32)) (w_shelfHas : (Nat → Int64)) (p1 : Int32) (hI : INV v_now v_stepsToRoot v_packing_first v_packing_tally_counts v_packing_tally_reach v_packing_leasts_row v_packing_leasts_size v_packing_remainderSets v_copies_0 v_copies_1 v_copies_2 v_kept v_shelves_0_there v_shelves_0_sort v_shelves_0_size v_shelves_0_bends v_shelves_0_filled v_shelves_1_there v_shelves_1_sort v_shelves_1_size v_shelves_1_bends v_shelves_1_filled v_shelves_2_there v_shelves_2_sort v_shelves_2_size v_shelves_2_bends v_shelves_2_filled w_bends w_isKept w_copies w_shelfMany w_shelfSort w_shelfHas) : ∃ (Rx : Int64 × Int32 × (Nat → Int32) × (Nat → Int64) × Int32 × Int32 × (Nat → Int64)) (Rm : Int64 × Int32 × Int32 × (Nat → Int64) × (Nat → Int64) × (Nat → Int32) × (Nat → Int32) × (Nat → Int32)), pX8_least n v_packing_first v_packing_walk_depth v_packing_walk_row v_packing_walk_four v_packing_leasts_size v_packing_leasts_wanted v_packing_leasts_row p1 = some Rx ∧ pX9_least n w_stepAt w_justMany w_bends w_rootAt w_pile w_lastAt w_nextAt w_hasBend p1 = some Rm ∧ Rx.1 = Rm.1 ∧ INV v_now v_stepsToRoot v_packing_first v_packing_tally_counts v_packing_tally_reach Rx.2.2.2.2.2.2 Rx.2.2.2.2.1 v_packing_remainderSets v_copies_0 v_copies_1 v_copies_2 v_kept v_shelves_0_there v_shelves_0_sort v_shelves_0_size v_shelves_0_bends v_shelves_0_filled v_shelves_1_there v_shelves_1_sort v_shelves_1_size v_shelves_1_bends v_shelves_1_filled v_shelves_2_there v_shelves_2_sort v_shelves_2_size v_shelves_2_bends v_shelves_2_filled w_bends w_isKept w_copies w_shelfMany w_shelfSort w_shelfHas := by
  obtain ⟨hR, hP, hC, hS⟩ := id hI
  obtain ⟨b, w, z, b1, b2, b3, b4⟩ := bnd hn hR w_rootAt
  obtain ⟨hg, he, k, hk, hr, hst⟩ := id hR
  rcases lq_cases p1 with ⟨a1, a2⟩ | ⟨a0, a1, a2⟩ | ⟨a0, a1, a2, a4⟩
  · refine ⟨_, _, by rw [pX8_least, if_pos a1], by rw [pX9_least, a2, Option.bind_some, if_pos rfl], ?_, ?_⟩
    · rfl
    · exact hI
  · refine ⟨_, _, by rw [pX8_least, if_neg a0, if_pos a1], by rw [pX9_least, a2, Option.bind_some, if_pos rfl], ?_, ?_⟩
    · rfl
    · exact hI
  rcases b4 with ⟨b5, b6⟩ | ⟨b5, b6⟩
  · refine ⟨_, _, by rw [pX8_least, if_neg a0, if_neg a1, b2, Option.bind_some, if_pos b5], by rw [pX9_least, a2, Option.bind_some, if_neg (by decide), b1, Option.bind_some, if_pos b5], ?_, ?_⟩
    · rfl
    · exact hI
  · have hne : ¬ b = 0 := by rw [b5]; decide
    have hb := br_of hg hr b6
    obtain ⟨hg2, -, s0, s1, s2⟩ := rt_facts hg hr
    have hF := fw_of (rf_of hb hg2 s0 s1 s2)
    have b9 : zq v_packing_first 3 ≤ 1000000000 := by
      have := hg2.2.at (show 3 < 4 by omega)
      unfold zq; omega
    obtain ⟨ls', wt', lr', d, w', f, c1, c2, c3⟩ := lr_eq hn hb s0 s1 s2 b9 hF hP v_packing_leasts_wanted v_packing_walk_depth v_packing_walk_row v_packing_walk_four a4
    obtain ⟨kp, hkp, hkp2, hkp3⟩ : ∃ k : Nat, p1 = nI k ∧ k ≤ 2000 ∧ p1.toInt = k := ⟨p1.toInt.toNat, by rw [i32_eq, nI_toInt (by omega)]; omega, by omega, by omega⟩
    obtain ⟨v, jm', pi, la, ne, hh, m1, m2, m3⟩ := lm_eq hn hb hg2 s0 s1 s2 b3 hkp2 w w_justMany w_pile w_lastAt w_nextAt w_hasBend
    rw [← hkp] at m1
    have hat : pX1_at ls' lr' p1 = some (lr' kp) := by
      rw [pX1_at, if_neg a0, if_neg (by rw [i32_le]; omega), hkp, ck_t (ix_nI (show kp < 2001 by omega) (by omega)), nI_clamp (by omega)]
    have hlo : pX3_leastOf n v_packing_first v_packing_walk_depth v_packing_walk_row v_packing_walk_four v_packing_leasts_size v_packing_leasts_wanted v_packing_leasts_row p1 = some (lr' kp, d, w', f, ls', wt', lr') := by
      rw [pX3_leastOf, c1, Option.bind_some]
      dsimp only
      rw [hat, Option.bind_some]
    have hm : pX9_least n w_stepAt w_justMany w_bends w_rootAt w_pile w_lastAt w_nextAt w_hasBend p1 = some (v, w, jm', z, pi, la, ne, hh) := by
      rw [pX9_least, a2, Option.bind_some, if_neg (by decide), b1, Option.bind_some, if_neg hne]
      exact m1
    refine ⟨_, _, by rw [pX8_least, if_neg a0, if_neg a1, b2, Option.bind_some, if_neg hne, hlo, Option.bind_some], hm, ?_, ?_⟩
    · show lr' kp = v
      have hq := (c3.2.2.2.1 (by omega)).2 kp (by omega)
      rw [i64_eq]
      exact nc_uniq hb.ro hq.1 hq.2 m2 m3
    · exact ⟨hR, c3, hC, hS⟩
