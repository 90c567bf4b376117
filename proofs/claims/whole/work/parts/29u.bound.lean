theorem pre_dp : ∀ (F : Nat) {n : Nat} {q : Nat → Int} {l : Nat} {T : Int}, ND n q l → T < (((n + F + 1) * (n + F + 1) : Nat) : Int) → pre F q l T = PR q l T := by
  intro F
  induction F with
  | zero =>
    intro n q l T h hT
    rw [PR_fr h.1]
    have hn : ∀ j, j < 4 → bk q l T j = [] := fun j hj => by
      unfold bk
      rw [if_neg]
      intro c
      have s := (h.step hj c.1).2.2
      rw [uq_at, if_pos rfl] at s
      have e : (n + 0 + 1) * (n + 0 + 1) = (n + 1) * (n + 1) := rfl
      rw [e] at hT
      have := c.2
      omega
    show [] = bk q l T 0 ++ (bk q l T 1 ++ (bk q l T 2 ++ bk q l T 3))
    rw [hn 0 (by omega), hn 1 (by omega), hn 2 (by omega), hn 3 (by omega)]
    rfl
  | succ F ih =>
    intro n q l T h hT
    rw [PR_fr h.1, pre]
    have hb : ∀ j, j < 4 → (if j ≠ l ∧ tq q j ≤ T then tq q j :: pre F (uq q j) j T else []) = bk q l T j := fun j hj => by
      unfold bk
      by_cases c : j ≠ l ∧ tq q j ≤ T
      · rw [if_pos c, if_pos c, ih (h.step hj c.1) (by rw [show n + 1 + F + 1 = n + (F + 1) + 1 by omega]; exact hT)]
      · rw [if_neg c, if_neg c]
    rw [hb 0 (by omega), hb 1 (by omega), hb 2 (by omega), hb 3 (by omega)]
    rfl
theorem blk_few {r : Nat → Int} (hr : RO r) (h3 : 1 ≤ r 3) {i : Nat} (hi : i < 4) {a b c d M : Nat} (h : DM (uq r i) i (kf a b c d) M) (hc : cN 5000 72 i a b c d M ≤ 200000) : (bk r 4 5000 i).length ≤ 200001 := by
  unfold bk
  by_cases q : i ≠ 4 ∧ tq r i ≤ 5000
  · rw [if_pos q, List.length_cons, ← pre_dp 72 (ND.ofRoot hr h3 hi) (by decide)]
    have := dm_le 5000 72 hi h
    have e : ((5000 : Nat) : Int) = 5000 := rfl
    rw [e] at this
    omega
  · rw [if_neg q]; exact Nat.zero_le _
theorem root_few {r : Nat → Int} (hr : RO r) (h3 : 1 ≤ r 3) (e0 : 8 ≤ ev r 0) (e1 : 2 ≤ ev r 1) (e2 : 2 ≤ ev r 2) (e3 : 0 ≤ ev r 3) : (fr r 4 5000 0).length < 900000 := by
  have f0 : ev r 0 = sq r - 2 * r 0 := rfl
  have f1 : ev r 1 = sq r - 2 * r 1 := rfl
  have f2 : ev r 2 = sq r - 2 * r 2 := rfl
  have f3 : ev r 3 = sq r - 2 * r 3 := rfl
  have fs : sq r = r 0 + r 1 + r 2 + r 3 := rfl
  have t0 := tq_ev r 0; have t1 := tq_ev r 1; have t2 := tq_ev r 2; have t3 := tq_ev r 3
  have key : ∀ {i a b c d M : Nat}, i < 4 → (∀ j, j < 4 → j ≠ i → kf a b c d i ≤ kf a b c d j) → 2 * (kf a b c d i : Int) ≤ ev r i → (∀ j, j < 4 → j ≠ i → 2 * (kf a b c d j : Int) ≤ ev r j + ev r i + 2 * (kf a b c d i : Int)) → (M : Int) ≤ tq r i → DM (uq r i) i (kf a b c d) M := by
    intro i a b c d M hi g1 g2 g3 g4
    refine ⟨g1, ?_, fun j hj hji => ?_, by rw [uq_at, if_pos rfl]; exact g4⟩
    · rw [ev_same r hi]; omega
    · rw [ev_same r hi, ev_other r hi hji]
      have := g3 j hj hji
      omega
  have d0 : DM (uq r 0) 0 (kf 4 9 9 8) 15 := key (by omega) (fun j hj hji => by
      match j, hj with
      | 0, _ => decide
      | 1, _ => decide
      | 2, _ => decide
      | 3, _ => decide) (by show 2 * ((4 : Nat) : Int) ≤ _; omega) (fun j hj hji => by
      match j, hj with
      | 0, _ => exact absurd rfl hji
      | 1, _ => show 2 * ((9 : Nat) : Int) ≤ ev r 1 + ev r 0 + 2 * ((4 : Nat) : Int); omega
      | 2, _ => show 2 * ((9 : Nat) : Int) ≤ ev r 2 + ev r 0 + 2 * ((4 : Nat) : Int); omega
      | 3, _ => show 2 * ((8 : Nat) : Int) ≤ ev r 3 + ev r 0 + 2 * ((4 : Nat) : Int); omega) (by omega)
  have d1 : DM (uq r 1) 1 (kf 6 1 3 2) 6 := key (by omega) (fun j hj hji => by
      match j, hj with
      | 0, _ => decide
      | 1, _ => decide
      | 2, _ => decide
      | 3, _ => decide) (by show 2 * ((1 : Nat) : Int) ≤ _; omega) (fun j hj hji => by
      match j, hj with
      | 0, _ => show 2 * ((6 : Nat) : Int) ≤ ev r 0 + ev r 1 + 2 * ((1 : Nat) : Int); omega
      | 1, _ => exact absurd rfl hji
      | 2, _ => show 2 * ((3 : Nat) : Int) ≤ ev r 2 + ev r 1 + 2 * ((1 : Nat) : Int); omega
      | 3, _ => show 2 * ((2 : Nat) : Int) ≤ ev r 3 + ev r 1 + 2 * ((1 : Nat) : Int); omega) (by omega)
  have d2 : DM (uq r 2) 2 (kf 6 3 1 2) 6 := key (by omega) (fun j hj hji => by
      match j, hj with
      | 0, _ => decide
      | 1, _ => decide
      | 2, _ => decide
      | 3, _ => decide) (by show 2 * ((1 : Nat) : Int) ≤ _; omega) (fun j hj hji => by
      match j, hj with
      | 0, _ => show 2 * ((6 : Nat) : Int) ≤ ev r 0 + ev r 2 + 2 * ((1 : Nat) : Int); omega
      | 1, _ => show 2 * ((3 : Nat) : Int) ≤ ev r 1 + ev r 2 + 2 * ((1 : Nat) : Int); omega
      | 2, _ => exact absurd rfl hji
      | 3, _ => show 2 * ((2 : Nat) : Int) ≤ ev r 3 + ev r 2 + 2 * ((1 : Nat) : Int); omega) (by omega)
  have d3 : DM (uq r 3) 3 (kf 4 1 1 0) 3 := key (by omega) (fun j hj hji => by
      match j, hj with
      | 0, _ => decide
      | 1, _ => decide
      | 2, _ => decide
      | 3, _ => decide) (by show 2 * ((0 : Nat) : Int) ≤ _; omega) (fun j hj hji => by
      match j, hj with
      | 0, _ => show 2 * ((4 : Nat) : Int) ≤ ev r 0 + ev r 3 + 2 * ((0 : Nat) : Int); omega
      | 1, _ => show 2 * ((1 : Nat) : Int) ≤ ev r 1 + ev r 3 + 2 * ((0 : Nat) : Int); omega
      | 2, _ => show 2 * ((1 : Nat) : Int) ≤ ev r 2 + ev r 3 + 2 * ((0 : Nat) : Int); omega
      | 3, _ => exact absurd rfl hji) (by omega)
  have l0 := blk_few hr h3 (by omega) d0 few0
  have l1 := blk_few hr h3 (by omega) d1 few1
  have l2 := blk_few hr h3 (by omega) d2 few2
  have l3 := blk_few hr h3 (by omega) d3 few3
  show (bk r 4 5000 0 ++ (bk r 4 5000 1 ++ (bk r 4 5000 2 ++ bk r 4 5000 3))).length < 900000
  rw [List.length_append, List.length_append, List.length_append]
  omega
theorem br_of {f first : Nat → Int64} {k : Nat} (h : GB f) (hr : RT f k first) (hn : zq first 0 < 0) : BR first := by
  obtain ⟨hg, he, s0, s1, s2⟩ := rt_facts h hr
  have hev : ∀ j, ev (zq first) j = SI first - 2 * (first j).toInt := fun j => rfl
  have heven := gq_even hg.1
  have hsum := (gq_sum hg.1).1
  have hpair := gq_pair hg.1.1
  unfold zq at hn
  have hpos : 0 < (first 0).toInt + (first 1).toInt := by
    by_cases q : 0 < (first 0).toInt + (first 1).toInt
    · exact q
    · have z : (first 0).toInt + (first 1).toInt = 0 := by omega
      rw [z, Int.zero_mul] at hpair
      have p1 := Int.mul_pos_of_neg_of_neg (a := (first 0).toInt - (first 1).toInt) (b := (first 0).toInt - (first 1).toInt) (by omega) (by omega)
      have p2 := sq_nn ((first 2).toInt - (first 3).toInt)
      omega
  have g0 := he 0 (by omega); have g1 := he 1 (by omega); have g2 := he 2 (by omega); have g3 := he 3 (by omega)
  have hSI : SI first = (first 0).toInt + (first 1).toInt + (first 2).toInt + (first 3).toInt := rfl
  have E0 : 8 ≤ ev (zq first) 0 := by rw [hev]; omega
  have E1 : 2 ≤ ev (zq first) 1 := by rw [hev]; omega
  have E2 : 2 ≤ ev (zq first) 2 := by rw [hev]; omega
  have E3 : 0 ≤ ev (zq first) 3 := by rw [hev]; omega
  have hro : RO (zq first) := by
    refine ⟨fun j hj => he j hj, fun i j hi hj hij => ?_⟩
    match i, hi, j, hj with
    | 0, _, 0, _ => exact absurd rfl hij
    | 0, _, 1, _ => omega
    | 0, _, 2, _ => omega
    | 0, _, 3, _ => omega
    | 1, _, 0, _ => omega
    | 1, _, 1, _ => exact absurd rfl hij
    | 1, _, 2, _ => omega
    | 1, _, 3, _ => omega
    | 2, _, 0, _ => omega
    | 2, _, 1, _ => omega
    | 2, _, 2, _ => exact absurd rfl hij
    | 2, _, 3, _ => omega
    | 3, _, 0, _ => omega
    | 3, _, 1, _ => omega
    | 3, _, 2, _ => omega
    | 3, _, 3, _ => exact absurd rfl hij
  have h3 : 1 ≤ zq first 3 := by unfold zq; omega
  refine ⟨hro, h3, fun j hj => ?_, hn, fun j h1 h2 => ?_, root_few hro h3 E0 E1 E2 E3⟩
  · have := hg.2.at hj; unfold zq; omega
  · unfold zq
    match j, h1, h2 with
    | 1, _, _ => omega
    | 2, _, _ => omega
    | 3, _, _ => omega
