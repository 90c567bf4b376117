theorem sim_bend (n : Nat) (hn : FU ≤ n) (v_now : (Nat → Int64)) (v_stepsToRoot : Int32) (v_packing_first : (Nat → Int64)) (v_packing_tally_counts : (Nat → Int32)) (v_packing_tally_reach : Int32) (v_packing_leasts_row : (Nat → Int64)) (v_packing_leasts_size : Int32) (v_packing_remainderSets : (Nat → Int32)) (v_copies_0 : (Nat → Int64)) (v_copies_1 : (Nat → Int64)) (v_copies_2 : (Nat → Int64)) (v_kept : (Nat → Int32)) (v_shelves_0_there : Int32) (v_shelves_0_sort : Int32) (v_shelves_0_size : Int32) (v_shelves_0_bends : (Nat → Int64)) (v_shelves_0_filled : (Nat → Int32)) (v_shelves_1_there : Int32) (v_shelves_1_sort : Int32) (v_shelves_1_size : Int32) (v_shelves_1_bends : (Nat → Int64)) (v_shelves_1_filled : (Nat → Int32)) (v_shelves_2_there : Int32) (v_shelves_2_sort : Int32) (v_shelves_2_size : Int32) (v_shelves_2_bends : (Nat → Int64)) (v_shelves_2_filled : (Nat → Int32)) (w_bends : (Nat → Int64)) (w_isKept : (Nat → Int32)) (w_copies : (Nat → Int64)) (w_shelfMany : (Nat → Int32)) (w_shelfSort : (Nat → Int32)) (w_shelfHas : (Nat → Int64)) (p1 : Int32) (hI : INV v_now v_stepsToRoot v_packing_first v_packing_tally_counts v_packing_tally_reach v_packing_leasts_row v_packing_leasts_size v_packing_remainderSets v_copies_0 v_copies_1 v_copies_2 v_kept v_shelves_0_there v_shelves_0_sort v_shelves_0_size v_shelves_0_bends v_shelves_0_filled v_shelves_1_there v_shelves_1_sort v_shelves_1_size v_shelves_1_bends v_shelves_1_filled v_shelves_2_there v_shelves_2_sort v_shelves_2_size v_shelves_2_bends v_shelves_2_filled w_bends w_isKept w_copies w_shelfMany w_shelfSort w_shelfHas) : ∃ (Rx : Int64) (Rm : Int64), pX8_bend v_now p1 = some Rx ∧ pX9_bend w_bends p1 = some Rm ∧ Rx = Rm ∧ INV v_now v_stepsToRoot v_packing_first v_packing_tally_counts v_packing_tally_reach v_packing_leasts_row v_packing_leasts_size v_packing_remainderSets v_copies_0 v_copies_1 v_copies_2 v_kept v_shelves_0_there v_shelves_0_sort v_shelves_0_size v_shelves_0_bends v_shelves_0_filled v_shelves_1_there v_shelves_1_sort v_shelves_1_size v_shelves_1_bends v_shelves_1_filled v_shelves_2_there v_shelves_2_sort v_shelves_2_size v_shelves_2_bends v_shelves_2_filled w_bends w_isKept w_copies w_shelfMany w_shelfSort w_shelfHas := by
  obtain ⟨⟨hg, he, hk⟩, hP, hC, hS⟩ := id hI
  rcases pl_cases p1 with ⟨e1, e2⟩ | ⟨e1, e2, i, hi, e3, -⟩
  · refine ⟨_, _, by rw [pX8_bend, e1, Option.bind_some, if_pos rfl], by rw [pX9_bend, e2, Option.bind_some, if_pos rfl], ?_, ?_⟩
    · rfl
    · exact hI
  · exact ⟨_, _, by rw [pX8_bend, e1, Option.bind_some, if_neg (by decide), e3, ck_t (ix_nI hi (by omega)), nI_clamp (by omega)], by rw [pX9_bend, e2, Option.bind_some, if_neg (by decide), e3, ck_t (ix_nI hi (by omega)), nI_clamp (by omega)], he.at hi, hI⟩
theorem sim_steps (n : Nat) (hn : FU ≤ n) (v_stepsToRoot : Int32) (v_now : (Nat → Int64)) (v_packing_first : (Nat → Int64)) (v_packing_tally_counts : (Nat → Int32)) (v_packing_tally_reach : Int32) (v_packing_leasts_row : (Nat → Int64)) (v_packing_leasts_size : Int32) (v_packing_remainderSets : (Nat → Int32)) (v_copies_0 : (Nat → Int64)) (v_copies_1 : (Nat → Int64)) (v_copies_2 : (Nat → Int64)) (v_kept : (Nat → Int32)) (v_shelves_0_there : Int32) (v_shelves_0_sort : Int32) (v_shelves_0_size : Int32) (v_shelves_0_bends : (Nat → Int64)) (v_shelves_0_filled : (Nat → Int32)) (v_shelves_1_there : Int32) (v_shelves_1_sort : Int32) (v_shelves_1_size : Int32) (v_shelves_1_bends : (Nat → Int64)) (v_shelves_1_filled : (Nat → Int32)) (v_shelves_2_there : Int32) (v_shelves_2_sort : Int32) (v_shelves_2_size : Int32) (v_shelves_2_bends : (Nat → Int64)) (v_shelves_2_filled : (Nat → Int32)) (w_bends : (Nat → Int64)) (w_rootAt : (Nat → Int64)) (w_isKept : (Nat → Int32)) (w_copies : (Nat → Int64)) (w_shelfMany : (Nat → Int32)) (w_shelfSort : (Nat → Int32)) (w_shelfHas : (Nat → Int64)) (hI : INV v_now v_stepsToRoot v_packing_first v_packing_tally_counts v_packing_tally_reach v_packing_leasts_row v_packing_leasts_size v_packing_remainderSets v_copies_0 v_copies_1 v_copies_2 v_kept v_shelves_0_there v_shelves_0_sort v_shelves_0_size v_shelves_0_bends v_shelves_0_filled v_shelves_1_there v_shelves_1_sort v_shelves_1_size v_shelves_1_bends v_shelves_1_filled v_shelves_2_there v_shelves_2_sort v_shelves_2_size v_shelves_2_bends v_shelves_2_filled w_bends w_isKept w_copies w_shelfMany w_shelfSort w_shelfHas) : ∃ (Rx : Int32) (Rm : Int32 × Int32 × (Nat → Int64)), pX8_steps v_stepsToRoot = some Rx ∧ pX9_steps n w_bends w_rootAt = some Rm ∧ Rx = Rm.1 ∧ INV v_now v_stepsToRoot v_packing_first v_packing_tally_counts v_packing_tally_reach v_packing_leasts_row v_packing_leasts_size v_packing_remainderSets v_copies_0 v_copies_1 v_copies_2 v_kept v_shelves_0_there v_shelves_0_sort v_shelves_0_size v_shelves_0_bends v_shelves_0_filled v_shelves_1_there v_shelves_1_sort v_shelves_1_size v_shelves_1_bends v_shelves_1_filled v_shelves_2_there v_shelves_2_sort v_shelves_2_size v_shelves_2_bends v_shelves_2_filled w_bends w_isKept w_copies w_shelfMany w_shelfSort w_shelfHas := by
  obtain ⟨⟨hg, he, k, hk, hr, hst⟩, hP, hC, hS⟩ := id hI
  obtain ⟨z, e1, e2⟩ := frm (fu1 hn) (ra := w_rootAt) (w := (-9)) (hr.cong he) hk
  exact ⟨_, _, rfl, by rw [pX9_steps, e1, Option.bind_some], hst, hI⟩
theorem sim_root (n : Nat) (hn : FU ≤ n) (v_packing_first : (Nat → Int64)) (v_now : (Nat → Int64)) (v_stepsToRoot : Int32) (v_packing_tally_counts : (Nat → Int32)) (v_packing_tally_reach : Int32) (v_packing_leasts_row : (Nat → Int64)) (v_packing_leasts_size : Int32) (v_packing_remainderSets : (Nat → Int32)) (v_copies_0 : (Nat → Int64)) (v_copies_1 : (Nat → Int64)) (v_copies_2 : (Nat → Int64)) (v_kept : (Nat → Int32)) (v_shelves_0_there : Int32) (v_shelves_0_sort : Int32) (v_shelves_0_size : Int32) (v_shelves_0_bends : (Nat → Int64)) (v_shelves_0_filled : (Nat → Int32)) (v_shelves_1_there : Int32) (v_shelves_1_sort : Int32) (v_shelves_1_size : Int32) (v_shelves_1_bends : (Nat → Int64)) (v_shelves_1_filled : (Nat → Int32)) (v_shelves_2_there : Int32) (v_shelves_2_sort : Int32) (v_shelves_2_size : Int32) (v_shelves_2_bends : (Nat → Int64)) (v_shelves_2_filled : (Nat → Int32)) (w_stepAt : Int32) (w_bends : (Nat → Int64)) (w_rootAt : (Nat → Int64)) (w_isKept : (Nat → Int32)) (w_copies : (Nat → Int64)) (w_shelfMany : (Nat → Int32)) (w_shelfSort : (Nat → Int32)) (w_shelfHas : (Nat → Int64)) (p1 : Int32) (hI : INV v_now v_stepsToRoot v_packing_first v_packing_tally_counts v_packing_tally_reach v_packing_leasts_row v_packing_leasts_size v_packing_remainderSets v_copies_0 v_copies_1 v_copies_2 v_kept v_shelves_0_there v_shelves_0_sort v_shelves_0_size v_shelves_0_bends v_shelves_0_filled v_shelves_1_there v_shelves_1_sort v_shelves_1_size v_shelves_1_bends v_shelves_1_filled v_shelves_2_there v_shelves_2_sort v_shelves_2_size v_shelves_2_bends v_shelves_2_filled w_bends w_isKept w_copies w_shelfMany w_shelfSort w_shelfHas) : ∃ (Rx : Int64) (Rm : Int64 × Int32 × (Nat → Int64)), pX8_root v_packing_first p1 = some Rx ∧ pX9_root n w_stepAt w_bends w_rootAt p1 = some Rm ∧ Rx = Rm.1 ∧ INV v_now v_stepsToRoot v_packing_first v_packing_tally_counts v_packing_tally_reach v_packing_leasts_row v_packing_leasts_size v_packing_remainderSets v_copies_0 v_copies_1 v_copies_2 v_kept v_shelves_0_there v_shelves_0_sort v_shelves_0_size v_shelves_0_bends v_shelves_0_filled v_shelves_1_there v_shelves_1_sort v_shelves_1_size v_shelves_1_bends v_shelves_1_filled v_shelves_2_there v_shelves_2_sort v_shelves_2_size v_shelves_2_bends v_shelves_2_filled w_bends w_isKept w_copies w_shelfMany w_shelfSort w_shelfHas := by
  obtain ⟨⟨hg, he, k, hk, hr, hst⟩, hP, hC, hS⟩ := id hI
  obtain ⟨z, e1, e2⟩ := frm (fu1 hn) (ra := w_rootAt) (w := (-9)) (hr.cong he) hk
  rcases rg_cases p1 (N := 4) (by omega) with h | ⟨h, h2⟩ | ⟨h, h2, i, hi, rfl⟩
  · refine ⟨_, _, by rw [pX8_root, pX8_isIndex, if_pos h, Option.bind_some, if_pos rfl], by rw [pX9_root, pX9_within, if_pos h, Option.bind_some, if_pos rfl], ?_, ?_⟩
    · rfl
    · exact hI
  · have h2 : (4 : Int32) ≤ p1 := h2
    have h3 : (3 : Int32) < p1 := by rw [i32_lt]; rw [i32_le] at h2; exact h2
    refine ⟨_, _, by rw [pX8_root, pX8_isIndex, if_neg h, if_pos h2, Option.bind_some, if_pos rfl], by rw [pX9_root, pX9_within, if_neg h, if_pos h3, Option.bind_some, if_pos rfl], ?_, ?_⟩
    · rfl
    · exact hI
  · have h2 : ¬ (4 : Int32) ≤ nI i := h2
    have h3 : ¬ (3 : Int32) < nI i := by rw [show (3 : Int32) = nI 3 from rfl, nI_ltI (by omega) (by omega)]; omega
    refine ⟨_, _, by rw [pX8_root, pX8_isIndex, if_neg h, if_neg h2, Option.bind_some, if_neg (by decide), ck_t (ix_nI hi (by omega)), nI_clamp (by omega)], by rw [pX9_root, pX9_within, if_neg h, if_neg h3, Option.bind_some, if_neg (by decide), e1, Option.bind_some, ck_t (ix_nI hi (by omega)), nI_clamp (by omega)], ?_, ?_⟩
    rotate_left
    · exact hI
    exact (e2.at hi).symm
theorem sim_step (n : Nat) (hn : FU ≤ n) (v_stepsToRoot : Int32) (v_now : (Nat → Int64)) (v_descent_made : Int32) (v_descent_last : Int32) (v_descent_four : (Nat → Int64)) (v_packing_first : (Nat → Int64)) (v_packing_tally_counts : (Nat → Int32)) (v_packing_tally_reach : Int32) (v_packing_leasts_row : (Nat → Int64)) (v_packing_leasts_size : Int32) (v_packing_remainderSets : (Nat → Int32)) (v_copies_0 : (Nat → Int64)) (v_copies_1 : (Nat → Int64)) (v_copies_2 : (Nat → Int64)) (v_kept : (Nat → Int32)) (v_shelves_0_there : Int32) (v_shelves_0_sort : Int32) (v_shelves_0_size : Int32) (v_shelves_0_bends : (Nat → Int64)) (v_shelves_0_filled : (Nat → Int32)) (v_shelves_1_there : Int32) (v_shelves_1_sort : Int32) (v_shelves_1_size : Int32) (v_shelves_1_bends : (Nat → Int64)) (v_shelves_1_filled : (Nat → Int32)) (v_shelves_2_there : Int32) (v_shelves_2_sort : Int32) (v_shelves_2_size : Int32) (v_shelves_2_bends : (Nat → Int64)) (v_shelves_2_filled : (Nat → Int32)) (w_stepAt : Int32) (w_bends : (Nat → Int64)) (w_rootAt : (Nat → Int64)) (w_isKept : (Nat → Int32)) (w_copies : (Nat → Int64)) (w_shelfMany : (Nat → Int32)) (w_shelfSort : (Nat → Int32)) (w_shelfHas : (Nat → Int64)) (p1 : Int32) (hI : INV v_now v_stepsToRoot v_packing_first v_packing_tally_counts v_packing_tally_reach v_packing_leasts_row v_packing_leasts_size v_packing_remainderSets v_copies_0 v_copies_1 v_copies_2 v_kept v_shelves_0_there v_shelves_0_sort v_shelves_0_size v_shelves_0_bends v_shelves_0_filled v_shelves_1_there v_shelves_1_sort v_shelves_1_size v_shelves_1_bends v_shelves_1_filled v_shelves_2_there v_shelves_2_sort v_shelves_2_size v_shelves_2_bends v_shelves_2_filled w_bends w_isKept w_copies w_shelfMany w_shelfSort w_shelfHas) : ∃ (Rx : Int32 × Int32 × Int32 × (Nat → Int64)) (Rm : Int32 × Int32 × (Nat → Int64)), pX8_step n v_stepsToRoot v_now v_descent_made v_descent_last v_descent_four p1 = some Rx ∧ pX9_step n w_stepAt w_bends w_rootAt p1 = some Rm ∧ Rx.1 = Rm.1 ∧ INV v_now v_stepsToRoot v_packing_first v_packing_tally_counts v_packing_tally_reach v_packing_leasts_row v_packing_leasts_size v_packing_remainderSets v_copies_0 v_copies_1 v_copies_2 v_kept v_shelves_0_there v_shelves_0_sort v_shelves_0_size v_shelves_0_bends v_shelves_0_filled v_shelves_1_there v_shelves_1_sort v_shelves_1_size v_shelves_1_bends v_shelves_1_filled v_shelves_2_there v_shelves_2_sort v_shelves_2_size v_shelves_2_bends v_shelves_2_filled w_bends w_isKept w_copies w_shelfMany w_shelfSort w_shelfHas := by
  obtain ⟨⟨hg, he, k, hk, hr, hst⟩, hP, hC, hS⟩ := id hI
  obtain ⟨z, e1, e2⟩ := frm (fu1 hn) (ra := w_rootAt) (w := p1) (hr.cong he) hk
  by_cases h : 0 ≤ p1
  · have h0 : 0 ≤ p1.toInt := i32_le.mp h
    by_cases h2 : p1 < v_stepsToRoot
    · obtain ⟨i, hi, rfl⟩ : ∃ i : Nat, i < k ∧ p1 = nI i := by
        rw [hst, i32_lt, nI_toInt (by omega)] at h2
        exact ⟨p1.toInt.toNat, by omega, by rw [i32_eq, nI_toInt (by omega)]; omega⟩
      obtain ⟨g, d1, d2⟩ := hr
      obtain ⟨c, e3, e4⟩ := cx_eq (n := n) (by have := fu1 hn; omega) v_now v_descent_four
      obtain ⟨g', d3, d4⟩ := e4.sym.dn d1
      obtain ⟨y, e5⟩ := go_part (r := i + 1) (n := n) (M := i + 1) (j := 0) (m0 := 0) (la := nI 0) (K := fun (y3_7 : Int32) (u7_made : Int32) (u7_last : Int32) (u7_four : Nat → Int64) => some (u7_made, u7_last, u7_four)) d3 (by omega) (by have := fu1 hn; omega) (by omega) (by omega)
      have e6 : pX0_go n v_descent_four v_now (nI i + 1) = some (nI (0 + (i + 1)), (if i + 1 = 0 then nI 0 else nI (sp (i + 1 - 1) c)), y) := by
        unfold pX0_go
        rw [e3, Option.bind_some, nI_1, show (0 : Int32) = nI 0 from rfl]
        exact e5
      refine ⟨_, _, by rw [pX8_step, if_pos h, if_pos h2, e6, Option.bind_some], by rw [pX9_step, if_pos h, e1, Option.bind_some], ?_, ?_⟩
      rotate_left
      · exact hI
      show (if i + 1 = 0 then nI 0 else nI (sp (i + 1 - 1) c)) + 1 = if ∃ j, j < k ∧ nI i = nI j then nI (sp (nI i).toInt.toNat w_bends + 1) else -9
      rw [if_neg (by omega), if_pos ⟨i, hi, rfl⟩, nI_toInt (by omega), nI_1, Nat.add_sub_cancel, (e4.tr he).sp]
      rfl
    · refine ⟨_, _, by rw [pX8_step, if_pos h, if_neg h2], by rw [pX9_step, if_pos h, e1, Option.bind_some], ?_, ?_⟩
      rotate_left
      · exact hI
      show (-9 : Int32) = if ∃ j, j < k ∧ p1 = nI j then nI (sp p1.toInt.toNat w_bends + 1) else -9
      rw [if_neg]
      rintro ⟨j, hj, rfl⟩
      apply h2
      rw [hst, nI_ltI (by omega) (by omega)]
      exact hj
  · refine ⟨_, _, by rw [pX8_step, if_neg h], by rw [pX9_step, if_neg h], ?_, ?_⟩
    · rfl
    · exact hI
theorem sim_turn (n : Nat) (hn : FU ≤ n) (v_stepsToRoot : Int32) (v_now : (Nat → Int64)) (v_descent_made : Int32) (v_descent_last : Int32) (v_descent_four : (Nat → Int64)) (v_packing_first : (Nat → Int64)) (v_packing_tally_reach : Int32) (v_packing_leasts_size : Int32) (v_packing_remainderSets : (Nat → Int32)) (v_packing_tally_counts : (Nat → Int32)) (v_packing_leasts_row : (Nat → Int64)) (v_copies_0 : (Nat → Int64)) (v_copies_1 : (Nat → Int64)) (v_copies_2 : (Nat → Int64)) (v_kept : (Nat → Int32)) (v_shelves_0_there : Int32) (v_shelves_0_sort : Int32) (v_shelves_0_size : Int32) (v_shelves_0_bends : (Nat → Int64)) (v_shelves_0_filled : (Nat → Int32)) (v_shelves_1_there : Int32) (v_shelves_1_sort : Int32) (v_shelves_1_size : Int32) (v_shelves_1_bends : (Nat → Int64)) (v_shelves_1_filled : (Nat → Int32)) (v_shelves_2_there : Int32) (v_shelves_2_sort : Int32) (v_shelves_2_size : Int32) (v_shelves_2_bends : (Nat → Int64)) (v_shelves_2_filled : (Nat → Int32)) (w_bends : (Nat → Int64)) (w_isKept : (Nat → Int32)) (w_copies : (Nat → Int64)) (w_shelfMany : (Nat → Int32)) (w_shelfSort : (Nat → Int32)) (w_shelfHas : (Nat → Int64)) (p1 : Int32) (hI : INV v_now v_stepsToRoot v_packing_first v_packing_tally_counts v_packing_tally_reach v_packing_leasts_row v_packing_leasts_size v_packing_remainderSets v_copies_0 v_copies_1 v_copies_2 v_kept v_shelves_0_there v_shelves_0_sort v_shelves_0_size v_shelves_0_bends v_shelves_0_filled v_shelves_1_there v_shelves_1_sort v_shelves_1_size v_shelves_1_bends v_shelves_1_filled v_shelves_2_there v_shelves_2_sort v_shelves_2_size v_shelves_2_bends v_shelves_2_filled w_bends w_isKept w_copies w_shelfMany w_shelfSort w_shelfHas) : ∃ (Rx : Int32 × Int32 × (Nat → Int64) × Int32 × Int32 × (Nat → Int64) × (Nat → Int64) × Int32 × Int32 × (Nat → Int32)) (Rm : Int32 × (Nat → Int64)), pX8_turn n v_stepsToRoot v_now v_descent_made v_descent_last v_descent_four v_packing_first v_packing_tally_reach v_packing_leasts_size v_packing_remainderSets p1 = some Rx ∧ pX9_turn w_bends p1 = some Rm ∧ Rx.1 = Rm.1 ∧ INV Rx.2.2.1 Rx.2.1 Rx.2.2.2.2.2.2.1 v_packing_tally_counts Rx.2.2.2.2.2.2.2.1 v_packing_leasts_row Rx.2.2.2.2.2.2.2.2.1 Rx.2.2.2.2.2.2.2.2.2 v_copies_0 v_copies_1 v_copies_2 v_kept v_shelves_0_there v_shelves_0_sort v_shelves_0_size v_shelves_0_bends v_shelves_0_filled v_shelves_1_there v_shelves_1_sort v_shelves_1_size v_shelves_1_bends v_shelves_1_filled v_shelves_2_there v_shelves_2_sort v_shelves_2_size v_shelves_2_bends v_shelves_2_filled Rm.2 w_isKept w_copies w_shelfMany w_shelfSort w_shelfHas := by
  obtain ⟨⟨hg, he, k, hk, hr, hst⟩, hP, hC, hS⟩ := id hI
  rcases pl_cases p1 with ⟨e1, e2⟩ | ⟨e1, e2, i, hi, e3, -⟩
  · refine ⟨_, _, by rw [pX8_turn, e1, Option.bind_some, if_pos rfl], by rw [pX9_turn, e2, Option.bind_some, if_pos rfl], ?_, ?_⟩
    · rfl
    · exact hI
  · have t1 := tx_eq v_now hi
    have t2 := tm_eq w_bends hi
    rw [← he.tv hi] at t2
    by_cases h1 : (1000000000 : Int64) < tv v_now i
    · refine ⟨_, _, by rw [pX8_turn, e1, Option.bind_some, if_neg (by decide), e3, t1, Option.bind_some, if_pos h1], by rw [pX9_turn, e2, Option.bind_some, if_neg (by decide), e3, t2, Option.bind_some, if_pos h1], ?_, ?_⟩
      · rfl
      · exact hI
    · by_cases h2 : (-1000000000 : Int64) ≤ tv v_now i
      · have hb : GB (vp_updL v_now i (tv v_now i)) := by
          refine tn_b hg hi ?_
          rw [i64_lt] at h1; rw [i64_le] at h2
          have q1 : (1000000000 : Int64).toInt = 1000000000 := rfl
          have q2 : (-1000000000 : Int64).toInt = -1000000000 := rfl
          omega
        obtain ⟨k', R, f1, f2, f3, f4⟩ := frx (fu1 hn) (four := v_descent_four) (first := v_packing_first) (re := v_packing_tally_reach) (ls := v_packing_leasts_size) (rs := v_packing_remainderSets) hb
        obtain ⟨k2, r2, d1, d2⟩ := RT.ex hb
        have hk' : k' < 45000 := by rw [(f3.det d1).1]; exact d2
        refine ⟨_, _, by rw [pX8_turn, e1, Option.bind_some, if_neg (by decide), e3, t1, Option.bind_some, if_neg h1, if_pos h2, ck_t (ix_nI hi (by omega)), nI_clamp (by omega), f1, Option.bind_some], by rw [pX9_turn, e2, Option.bind_some, if_neg (by decide), e3, t2, Option.bind_some, if_neg h1, if_pos h2, ck_t (ix_nI hi (by omega)), nI_clamp (by omega)], ?_, ?_⟩
        · rfl
        refine ⟨⟨hb, he.up _ _, k', hk', f3, f2⟩, ?_, hC, hS⟩
        rcases f4 with ⟨g1, g2, g3, g4⟩ | ⟨g2, g3, g4⟩
        · show PK R.2.2.2.2.1 _ R.2.2.2.2.2.1 _ R.2.2.2.2.2.2.1 R.2.2.2.2.2.2.2
          rw [g1, g2, g3, g4]; exact hP
        · exact pk_reset _ _ _ g2 g3 g4
      · refine ⟨_, _, by rw [pX8_turn, e1, Option.bind_some, if_neg (by decide), e3, t1, Option.bind_some, if_neg h1, if_neg h2], by rw [pX9_turn, e2, Option.bind_some, if_neg (by decide), e3, t2, Option.bind_some, if_neg h1, if_neg h2], ?_, ?_⟩
        · rfl
        · exact hI
