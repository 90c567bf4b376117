/-! the counts: what is needed of the numbers -/
theorem rt_lj {r : Nat → Int} (h : RF r) {l j : Nat} (hlj : LJ l j) : NI (uq r l) l ∧ ev (uq r l) l + ev (uq r l) j = ev r 2 + ev r 3 ∧ r 3 ≤ uq r l l ∧ 2 * uq r l l = 2 * r 3 + ev r 3 + 3 * ev r l ∧ ev (uq r l) l = -ev r l ∧ ev (uq r l) 0 + ev (uq r l) l = ev r 0 + ev r l ∧ ev (uq r l) 1 + ev (uq r l) l = ev r 1 + ev r l := by
  obtain ⟨h1, h2, h3, h4, h5, h6, h7⟩ := hlj.l4
  have hro := h.1
  have hs := ev_same r h1
  have hj := ev_other r h1 h3
  have h0 := ev_other r h1 (fun e => h4 e.symm) (j := 0)
  have h1' := ev_other r h1 (fun e => h5 e.symm) (j := 1)
  have hq : uq r l l = tq r l := by rw [uq_at, if_pos rfl]
  have f1 : ev r l = sq r - 2 * r l := rfl
  have f2 : ev r 3 = sq r - 2 * r 3 := rfl
  have f3 := tq_ev r l
  have g1 := hro.1 l h1
  have g2 := hro.1 3 (by omega)
  have hD : ev r l + ev r j = ev r 2 + ev r 3 := by
    rcases hlj with ⟨rfl, rfl⟩ | ⟨rfl, rfl⟩
    · rfl
    · exact Int.add_comm _ _
  refine ⟨NI.ofRoot hro h1, by omega, by omega, by omega, by omega, by omega, by omega⟩
theorem up_gen {r : Nat → Int} (h : RF r) {A P T F Dt n1 n2 k1 k0' k1' M' s1 s2 : Nat} (hT : T = A * P) (hA : 9 ≤ A) (hP : 1 ≤ P) (hk : 9 * k1 ≤ 2 * A) (hk1 : 1 ≤ k1) (g0 : 2 * k0' ≤ 2 * A + n1 * n1 * Dt) (g0' : 1 ≤ k0') (g1 : 18 * k1' ≤ 4 * A + 9 * (n1 * n1 * Dt)) (g1' : 1 ≤ k1') (gM : 2 * M' ≤ 2 * A + n1 * n1 * Dt + 2 * (n1 * Dt)) (hF : T ≤ F) (gend : 2 * (A * P) < 2 * A + n1 * n1 * Dt + n2 * n2 * Dt + 2 * (n1 * n2 * Dt) + 2 * (n1 * Dt) + 2 * (n2 * Dt)) (c12 : cB T F 2 A k1 0 0 A 0 + cB T F 2 A k1 0 0 A 1 ≤ s1) (c13 : cB T F 3 A k1 0 0 A 0 + cB T F 3 A k1 0 0 A 1 ≤ s1) (c22 : cB T F 2 k0' k1' 0 0 M' 0 + cB T F 2 k0' k1' 0 0 M' 1 ≤ s2) (c23 : cB T F 3 k0' k1' 0 0 M' 0 + cB T F 3 k0' k1' 0 0 M' 1 ≤ s2) (tot : s1 + 2 * (1 + (n1 * (1 + s1) + n2 * (1 + s2))) < 1000000) (hDt : (Dt : Int) * r 3 ≤ (A : Int) * (ev r 2 + ev r 3)) : (fr r 4 ((P : Int) * r 3) 0).length < 1000000 := by
  obtain ⟨hro, hd1, hd9, e0, e1, -, -, -, -, -, hmx⟩ := id h
  have hd : 0 < r 3 := by omega
  have hAi : (0 : Int) ≤ (A : Int) := by omega
  have hA0 : (0 : Int) < (A : Int) := by omega
  have hTi : (A : Int) * ((P : Int) * r 3) ≤ r 3 * (T : Int) := by
    rw [hT, Int.natCast_mul]
    exact Int.le_of_eq (by grind)
  have hD0 : 0 ≤ ev r 2 + ev r 3 := by
    have := hro.1 2 (by omega); have := hro.1 3 (by omega); omega
  generalize hDD : ev r 2 + ev r 3 = D at *
  -- products with A
  have mono : ∀ {x y : Int}, x ≤ y → (A : Int) * x ≤ (A : Int) * y := fun h => Int.mul_le_mul_of_nonneg_left h hAi
  have hE0 : 2 * (r 3 * (A : Int)) ≤ (A : Int) * ev r 0 := by
    have := mono e0
    rw [show (A : Int) * (2 * r 3) = 2 * (r 3 * (A : Int)) by grind] at this
    exact this
  have hE1 : 4 * (r 3 * (A : Int)) ≤ 9 * ((A : Int) * ev r 1) := by
    have := mono e1
    rw [show (A : Int) * (4 * r 3) = 4 * (r 3 * (A : Int)) by grind, show (A : Int) * (9 * ev r 1) = 9 * ((A : Int) * ev r 1) by grind] at this
    exact this
  have hE1' : 2 * (r 3 * (k1 : Int)) ≤ (A : Int) * ev r 1 := by
    have := Int.mul_le_mul_of_nonneg_left (show (9 * (k1 : Int)) ≤ 2 * (A : Int) by omega) (show 0 ≤ r 3 by omega)
    rw [show r 3 * (9 * (k1 : Int)) = 9 * (r 3 * (k1 : Int)) by grind, show r 3 * (2 * (A : Int)) = 2 * (r 3 * (A : Int)) by grind] at this
    omega
  have hroot := side_root (T := T) (F := F) hd hAi hTi (show 1 ≤ A by omega) hk1 hF hro (M := A) (Int.le_of_eq (Int.mul_comm _ _)) hE0 hE1'
  -- n1 * n1 * D and n * D, with A
  have hnn : r 3 * ((n1 * n1 * Dt : Nat) : Int) ≤ (A : Int) * ((n1 : Int) * n1 * D) := by
    have := Int.mul_le_mul_of_nonneg_left hDt (show (0 : Int) ≤ (n1 : Int) * n1 from Int.mul_nonneg (by omega) (by omega))
    rw [show (A : Int) * ((n1 : Int) * n1 * D) = (n1 : Int) * n1 * ((A : Int) * D) by grind, Int.natCast_mul, Int.natCast_mul, show r 3 * ((n1 : Int) * n1 * (Dt : Int)) = (n1 : Int) * n1 * ((Dt : Int) * r 3) by grind]
    exact this
  have hn : ∀ n : Nat, r 3 * ((n * Dt : Nat) : Int) ≤ (A : Int) * ((n : Int) * D) := fun n => by
    have := Int.mul_le_mul_of_nonneg_left hDt (show (0 : Int) ≤ (n : Int) by omega)
    rw [show (A : Int) * ((n : Int) * D) = (n : Int) * ((A : Int) * D) by grind, Int.natCast_mul, show r 3 * ((n : Int) * (Dt : Int)) = (n : Int) * ((Dt : Int) * r 3) by grind]
    exact this
  have hmm : ∀ m n : Nat, r 3 * ((m * n * Dt : Nat) : Int) ≤ (A : Int) * ((m : Int) * n * D) := fun m n => by
    have := Int.mul_le_mul_of_nonneg_left hDt (show (0 : Int) ≤ (m : Int) * n from Int.mul_nonneg (by omega) (by omega))
    rw [show (A : Int) * ((m : Int) * n * D) = (m : Int) * n * ((A : Int) * D) by grind, Int.natCast_mul, Int.natCast_mul, show r 3 * ((m : Int) * n * (Dt : Int)) = (m : Int) * n * ((Dt : Int) * r 3) by grind]
    exact this
  have hchain : ∀ l j, LJ l j → (bk r 4 ((P : Int) * r 3) l).length ≤ 1 + (n1 * (1 + s1) + n2 * (1 + s2)) := fun l j hlj => by
    obtain ⟨t1, t2, t3, t4, t5, t6, t7⟩ := rt_lj h hlj
    rw [hDD] at t2
    obtain ⟨hl4, -, -, -⟩ := hlj.l4
    have gl := hro.1 l hl4
    have hq : uq r l l = tq r l := by rw [uq_at, if_pos rfl]
    unfold bk
    by_cases c : l ≠ 4 ∧ tq r l ≤ (P : Int) * r 3
    · rw [if_pos c, List.length_cons]
      have := chain_two (T := (P : Int) * r 3) (n1 := n1) (n2 := n2) (s1 := s1) (s2 := s2) hD0 t1 hlj t2 (by rw [hq]; exact c.2) (fun q' l' j' a1 a2 a3 a4 a5 a6 => by
        have b1 : r 3 * (A : Int) ≤ (A : Int) * q' l' := by
          rw [Int.mul_comm]; exact mono (by omega)
        have b2 : (A : Int) * ev r 0 ≤ (A : Int) * (ev q' 0 + ev q' l') := mono (by omega)
        have b3 : (A : Int) * ev r 1 ≤ (A : Int) * (ev q' 1 + ev q' l') := mono (by omega)
        have := side_up (T := T) (F := F) hd hAi hTi (show 1 ≤ A by omega) hk1 hF a1 a2 (by omega) b1 (by omega) (by omega)
        rcases a2 with ⟨rfl, rfl⟩ | ⟨rfl, rfl⟩
        · omega
        · omega) (fun q' l' j' a1 a2 a3 a4 a5 a6 => by
        have b1 : (A : Int) * (2 * r 3 + (n1 : Int) * n1 * D + 2 * ((n1 : Int) * D)) ≤ (A : Int) * (2 * q' l') := mono (by omega)
        have b2 : (A : Int) * (ev r 0 + (n1 : Int) * n1 * D) ≤ (A : Int) * (ev q' 0 + ev q' l') := mono (by omega)
        have b3 : (A : Int) * (ev r 1 + (n1 : Int) * n1 * D) ≤ (A : Int) * (ev q' 1 + ev q' l') := mono (by omega)
        rw [show (A : Int) * (2 * r 3 + (n1 : Int) * n1 * D + 2 * ((n1 : Int) * D)) = 2 * (r 3 * (A : Int)) + (A : Int) * ((n1 : Int) * n1 * D) + 2 * ((A : Int) * ((n1 : Int) * D)) by grind, show (A : Int) * (2 * q' l') = 2 * ((A : Int) * q' l') by grind] at b1
        rw [Int.mul_add] at b2 b3
        have n1' := hn n1
        have u1 := Int.mul_le_mul_of_nonneg_left (show (2 * (M' : Int)) ≤ 2 * (A : Int) + ((n1 * n1 * Dt : Nat) : Int) + 2 * ((n1 * Dt : Nat) : Int) by omega) (show 0 ≤ r 3 by omega)
        have u2 := Int.mul_le_mul_of_nonneg_left (show (2 * (k0' : Int)) ≤ 2 * (A : Int) + ((n1 * n1 * Dt : Nat) : Int) by omega) (show 0 ≤ r 3 by omega)
        have u3 := Int.mul_le_mul_of_nonneg_left (show (18 * (k1' : Int)) ≤ 4 * (A : Int) + 9 * ((n1 * n1 * Dt : Nat) : Int) by omega) (show 0 ≤ r 3 by omega)
        rw [show r 3 * (2 * (M' : Int)) = 2 * (r 3 * (M' : Int)) by grind, show r 3 * (2 * (A : Int) + ((n1 * n1 * Dt : Nat) : Int) + 2 * ((n1 * Dt : Nat) : Int)) = 2 * (r 3 * (A : Int)) + r 3 * ((n1 * n1 * Dt : Nat) : Int) + 2 * (r 3 * ((n1 * Dt : Nat) : Int)) by grind] at u1
        rw [show r 3 * (2 * (k0' : Int)) = 2 * (r 3 * (k0' : Int)) by grind, show r 3 * (2 * (A : Int) + ((n1 * n1 * Dt : Nat) : Int)) = 2 * (r 3 * (A : Int)) + r 3 * ((n1 * n1 * Dt : Nat) : Int) by grind] at u2
        rw [show r 3 * (18 * (k1' : Int)) = 18 * (r 3 * (k1' : Int)) by grind, show r 3 * (4 * (A : Int) + 9 * ((n1 * n1 * Dt : Nat) : Int)) = 4 * (r 3 * (A : Int)) + 9 * (r 3 * ((n1 * n1 * Dt : Nat) : Int)) by grind] at u3
        have := side_up (T := T) (F := F) (M := M') hd hAi hTi g0' g1' hF a1 a2 (by omega) (by omega) (by omega) (by omega)
        rcases a2 with ⟨rfl, rfl⟩ | ⟨rfl, rfl⟩
        · omega
        · omega) (by
        have v1 := hmm n1 n1; have v2 := hmm n2 n2; have v3 := hmm n1 n2; have v4 := hn n1; have v5 := hn n2
        have u1 := Int.mul_lt_mul_of_pos_left (show (2 * ((A * P : Nat) : Int)) < 2 * (A : Int) + ((n1 * n1 * Dt : Nat) : Int) + ((n2 * n2 * Dt : Nat) : Int) + 2 * ((n1 * n2 * Dt : Nat) : Int) + 2 * ((n1 * Dt : Nat) : Int) + 2 * ((n2 * Dt : Nat) : Int) by omega) hd
        rw [show r 3 * (2 * (A : Int) + ((n1 * n1 * Dt : Nat) : Int) + ((n2 * n2 * Dt : Nat) : Int) + 2 * ((n1 * n2 * Dt : Nat) : Int) + 2 * ((n1 * Dt : Nat) : Int) + 2 * ((n2 * Dt : Nat) : Int)) = 2 * (r 3 * (A : Int)) + r 3 * ((n1 * n1 * Dt : Nat) : Int) + r 3 * ((n2 * n2 * Dt : Nat) : Int) + 2 * (r 3 * ((n1 * n2 * Dt : Nat) : Int)) + 2 * (r 3 * ((n1 * Dt : Nat) : Int)) + 2 * (r 3 * ((n2 * Dt : Nat) : Int)) by grind, show r 3 * (2 * ((A * P : Nat) : Int)) = (A : Int) * (2 * ((P : Int) * r 3)) by rw [Int.natCast_mul]; grind] at u1
        have u2 : (A : Int) * (2 * ((P : Int) * r 3)) < (A : Int) * (2 * r 3 + (n1 : Int) * n1 * D + (n2 : Int) * n2 * D + 2 * ((n1 : Int) * n2 * D) + 2 * ((n1 : Int) * D) + 2 * ((n2 : Int) * D)) := by
          rw [show (A : Int) * (2 * r 3 + (n1 : Int) * n1 * D + (n2 : Int) * n2 * D + 2 * ((n1 : Int) * n2 * D) + 2 * ((n1 : Int) * D) + 2 * ((n2 : Int) * D)) = 2 * (r 3 * (A : Int)) + (A : Int) * ((n1 : Int) * n1 * D) + (A : Int) * ((n2 : Int) * n2 * D) + 2 * ((A : Int) * ((n1 : Int) * n2 * D)) + 2 * ((A : Int) * ((n1 : Int) * D)) + 2 * ((A : Int) * ((n2 : Int) * D)) by grind]
          omega
        have u3 := Int.lt_of_mul_lt_mul_left u2 hAi
        omega)
      omega
    · rw [if_neg c]; exact Nat.zero_le _
  have c2 := hchain 2 3 (Or.inl ⟨rfl, rfl⟩)
  have c3 := hchain 3 2 (Or.inr ⟨rfl, rfl⟩)
  show (bk r 4 ((P : Int) * r 3) 0 ++ (bk r 4 ((P : Int) * r 3) 1 ++ (bk r 4 ((P : Int) * r 3) 2 ++ bk r 4 ((P : Int) * r 3) 3))).length < 1000000
  rw [List.length_append, List.length_append, List.length_append]
  omega
theorem nc_bk {r : Nat → Int} (hr : RO r) {T : Int} : (bk r 4 T 2).length + (bk r 4 T 3).length ≤ NC r T := by
  rw [NC, cir_eq hr, List.length_append]
  show _ ≤ _ + (bk r 4 T 0 ++ (bk r 4 T 1 ++ (bk r 4 T 2 ++ bk r 4 T 3))).length
  rw [List.length_append, List.length_append, List.length_append]
  omega
theorem lo_gen {r : Nat → Int} (h : RF r) {A P T F Dt n s z K0 K1 K2 X : Nat} (hT : T = A * P) (hA : 1 ≤ A) (hX1 : 1 ≤ X) (hX : X ≤ P) (gX : (n * n + 3 * n + 2) * Dt + 2 * A ≤ 2 * (A * X)) (gz : (n + 1) * Dt ≤ 2 * z) (gK0 : A * X + A + z ≤ K0) (gK1 : A * X + z ≤ K1) (gK2 : Dt + 2 * z ≤ 2 * K2) (c2 : s ≤ cB T F 2 K0 K1 z K2 (A * X) 0 + cB T F 2 K0 K1 z K2 (A * X) 1) (c3 : s ≤ cB T F 3 K0 K1 K2 z (A * X) 0 + cB T F 3 K0 K1 K2 z (A * X) 1) (tot : 2000 ≤ n * (1 + s)) (hDt : (A : Int) * (ev r 2 + ev r 3) ≤ (Dt : Int) * r 3) : 2000 < NC r ((P : Int) * r 3) := by
  obtain ⟨hro, hd1, hd9, -, -, e0, e1, e2, e3, e4, hmx⟩ := id h
  have hd : 0 < r 3 := by omega
  have hAi : (0 : Int) ≤ (A : Int) := by omega
  have hA0 : (0 : Int) < (A : Int) := by omega
  have hTi : r 3 * (T : Int) ≤ (A : Int) * ((P : Int) * r 3) := by
    rw [hT, Int.natCast_mul]
    exact Int.le_of_eq (by grind)
  have g3 := hro.1 3 (by omega)
  have hD0 : 0 ≤ ev r 2 + ev r 3 := by omega
  have h32 : 2 * ev r 3 ≤ ev r 2 + ev r 3 := by omega
  generalize hDD : ev r 2 + ev r 3 = D at *
  have mono : ∀ {x y : Int}, x ≤ y → (A : Int) * x ≤ (A : Int) * y := fun h => Int.mul_le_mul_of_nonneg_left h hAi
  obtain ⟨t1, t2, t3, t4, t5, t6, t7⟩ := rt_lj h (l := 3) (j := 2) (Or.inr ⟨rfl, rfl⟩)
  rw [hDD] at t2
  have hXP : (X : Int) * r 3 ≤ (P : Int) * r 3 := Int.mul_le_mul_of_nonneg_right (by omega) (by omega)
  have hAX : (A : Int) * ((X : Int) * r 3) = r 3 * ((A * X : Nat) : Int) := by rw [Int.natCast_mul]; grind
  -- (n + 1) * D, with A
  have hz1 : (A : Int) * (((n : Int) + 1) * D) ≤ 2 * (r 3 * (z : Int)) := by
    have u1 := Int.mul_le_mul_of_nonneg_left hDt (show (0 : Int) ≤ (n : Int) + 1 by omega)
    have u2 := Int.mul_le_mul_of_nonneg_left (show (((n + 1) * Dt : Nat) : Int) ≤ 2 * (z : Int) by omega) (show 0 ≤ r 3 by omega)
    rw [show (A : Int) * (((n : Int) + 1) * D) = ((n : Int) + 1) * ((A : Int) * D) by grind]
    rw [Int.natCast_mul, show ((n + 1 : Nat) : Int) = (n : Int) + 1 from rfl, show r 3 * (((n : Int) + 1) * (Dt : Int)) = ((n : Int) + 1) * ((Dt : Int) * r 3) by grind, show r 3 * (2 * (z : Int)) = 2 * (r 3 * (z : Int)) by grind] at u2
    omega
  have hbig : 2 * uq r 3 3 + (n : Int) * n * D + 2 * ((n : Int) * D) - 2 * ((n : Int) * ev (uq r 3) 3) ≤ 2 * ((X : Int) * r 3) := by
    have u1 := Int.mul_le_mul_of_nonneg_left hDt (show (0 : Int) ≤ (n : Int) * n + 3 * n + 2 from by have := Int.mul_nonneg (show (0 : Int) ≤ (n : Int) by omega) (show (0 : Int) ≤ (n : Int) by omega); omega)
    have u2 := Int.mul_le_mul_of_nonneg_left (show (((n * n + 3 * n + 2) * Dt : Nat) : Int) + 2 * (A : Int) ≤ 2 * ((A * X : Nat) : Int) by omega) (show 0 ≤ r 3 by omega)
    rw [Int.natCast_mul, show ((n * n + 3 * n + 2 : Nat) : Int) = (n : Int) * n + 3 * n + 2 from rfl, show r 3 * (((n : Int) * n + 3 * n + 2) * (Dt : Int) + 2 * (A : Int)) = ((n : Int) * n + 3 * n + 2) * ((Dt : Int) * r 3) + (A : Int) * (2 * r 3) by grind, show r 3 * (2 * ((A * X : Nat) : Int)) = (A : Int) * (2 * ((X : Int) * r 3)) by rw [Int.natCast_mul]; grind] at u2
    have u3 : (A : Int) * (((n : Int) * n + 3 * n + 2) * D + 2 * r 3) ≤ (A : Int) * (2 * ((X : Int) * r 3)) := by
      rw [show (A : Int) * (((n : Int) * n + 3 * n + 2) * D + 2 * r 3) = ((n : Int) * n + 3 * n + 2) * ((A : Int) * D) + (A : Int) * (2 * r 3) by grind]
      omega
    have u4 := Int.le_of_mul_le_mul_left u3 hA0
    rw [show ((n : Int) * n + 3 * n + 2) * D = (n : Int) * n * D + 3 * ((n : Int) * D) + 2 * D by grind] at u4
    have u5 := Int.mul_le_mul_of_nonneg_left h32 (show (0 : Int) ≤ (n : Int) by omega)
    rw [show (n : Int) * (2 * ev r 3) = 2 * ((n : Int) * ev r 3) by grind] at u5
    have u6 : (n : Int) * ev (uq r 3) 3 = -((n : Int) * ev r 3) := by rw [t5]; grind
    rw [u6]
    omega
  have hnn : 0 ≤ (n : Int) * n * D := Int.mul_nonneg (Int.mul_nonneg (by omega) (by omega)) hD0
  have hn1 : 0 ≤ (n : Int) * D := Int.mul_nonneg (by omega) hD0
  have hnE : (n : Int) * ev (uq r 3) 3 ≤ 0 := by
    have := Int.mul_nonneg (show (0 : Int) ≤ (n : Int) by omega) g3
    rw [t5, Int.mul_neg]; omega
  have hcl := chain_lo (T := (P : Int) * r 3) (X := (X : Int) * r 3) (Z := ((n : Int) + 1) * D) (s := s) hD0 hXP n t1 (Or.inr ⟨rfl, rfl⟩) t2 (fun q' l' j' a1 a2 a3 a4 a5 a6 a7 => by
    have b1 : (A : Int) * q' l' ≤ r 3 * ((A * X : Nat) : Int) := by rw [← hAX]; exact mono a4
    have b2 : (A : Int) * -ev q' l' ≤ 2 * (r 3 * (z : Int)) := Int.le_trans (mono a5) hz1
    have w0 := Int.mul_le_mul_of_nonneg_left (show ((A * X : Nat) : Int) + (A : Int) + (z : Int) ≤ (K0 : Int) by omega) (show 0 ≤ r 3 by omega)
    have w1 := Int.mul_le_mul_of_nonneg_left (show ((A * X : Nat) : Int) + (z : Int) ≤ (K1 : Int) by omega) (show 0 ≤ r 3 by omega)
    have w2 := Int.mul_le_mul_of_nonneg_left (show (Dt : Int) + 2 * (z : Int) ≤ 2 * (K2 : Int) by omega) (show 0 ≤ r 3 by omega)
    rw [Int.mul_add, Int.mul_add] at w0
    rw [Int.mul_add] at w1
    rw [show r 3 * ((Dt : Int) + 2 * (z : Int)) = (Dt : Int) * r 3 + 2 * (r 3 * (z : Int)) by grind, show r 3 * (2 * (K2 : Int)) = 2 * (r 3 * (K2 : Int)) by grind] at w2
    have b3 : (A : Int) * (ev q' 0 + ev q' l') ≤ 2 * (r 3 * ((A * X : Nat) : Int)) + 2 * (r 3 * (A : Int)) := by
      rw [← hAX]
      have := mono (show ev q' 0 + ev q' l' ≤ 2 * ((X : Int) * r 3) + 2 * r 3 by omega)
      rw [show (A : Int) * (2 * ((X : Int) * r 3) + 2 * r 3) = 2 * ((A : Int) * ((X : Int) * r 3)) + 2 * (r 3 * (A : Int)) by grind] at this
      exact this
    have b4 : (A : Int) * (ev q' 1 + ev q' l') ≤ 2 * (r 3 * ((A * X : Nat) : Int)) := by
      rw [← hAX]
      have := mono (show ev q' 1 + ev q' l' ≤ 2 * ((X : Int) * r 3) by omega)
      rw [show (A : Int) * (2 * ((X : Int) * r 3)) = 2 * ((A : Int) * ((X : Int) * r 3)) by grind] at this
      exact this
    have b5 : (A : Int) * (ev q' j' + ev q' l') ≤ (Dt : Int) * r 3 := by rw [show ev q' j' + ev q' l' = D by omega]; exact hDt
    rcases a2 with ⟨rfl, rfl⟩ | ⟨rfl, rfl⟩
    · exact Nat.le_trans c2 (side_dn hd hA0 hTi (by omega) (by omega) (by omega) a1 (Or.inl ⟨rfl, rfl⟩) (Or.inl ⟨rfl, rfl, rfl⟩) b1 b2 (by omega) (by omega) (by omega))
    · exact Nat.le_trans c3 (side_dn hd hA0 hTi (by omega) (by omega) (by omega) a1 (Or.inr ⟨rfl, rfl⟩) (Or.inr ⟨rfl, rfl, rfl⟩) b1 b2 (by omega) (by omega) (by omega))) hbig (by
    rw [show ((n : Int) + 1) * D = (n : Int) * D + D by grind]
    omega)
  have hq : uq r 3 3 = tq r 3 := by rw [uq_at, if_pos rfl]
  have hb : (bk r 4 ((P : Int) * r 3) 3).length = (PR (uq r 3) 3 ((P : Int) * r 3)).length + 1 := by
    unfold bk; rw [if_pos ⟨by omega, by omega⟩, List.length_cons]
  have := nc_bk hro (T := (P : Int) * r 3)
  omega
theorem lo_root {r : Nat → Int} (h : RF r) {P F : Nat} (c2 : 2000 ≤ cN (2 * P) F 2 6 4 1 3 6 + cN (2 * P) F 3 6 4 3 1 6) (hP : 3 ≤ P) : 2000 < NC r ((P : Int) * r 3) := by
  obtain ⟨hro, hd1, hd9, -, -, e0, e1, e2, e3, e4, hmx⟩ := id h
  have hd : 0 < r 3 := by omega
  have hTi : r 3 * ((2 * P : Nat) : Int) ≤ 2 * ((P : Int) * r 3) := by
    rw [Int.natCast_mul]
    exact Int.le_of_eq (by grind)
  have g3 := hro.1 3 (by omega)
  have g2 := hro.1 2 (by omega)
  have hP3 : 3 * r 3 ≤ (P : Int) * r 3 := Int.mul_le_mul_of_nonneg_right (by omega) (by omega)
  have f2 : ev r 2 = sq r - 2 * r 2 := rfl
  have f3 : ev r 3 = sq r - 2 * r 3 := rfl
  have q2 : uq r 2 2 = tq r 2 := by rw [uq_at, if_pos rfl]
  have q3 : uq r 3 3 = tq r 3 := by rw [uq_at, if_pos rfl]
  have t2 := tq_ev r 2
  have t3 := tq_ev r 3
  have hb2 : (bk r 4 ((P : Int) * r 3) 2).length = (PR (uq r 2) 2 ((P : Int) * r 3)).length + 1 := by
    unfold bk; rw [if_pos ⟨by omega, by omega⟩, List.length_cons]
  have hb3 : (bk r 4 ((P : Int) * r 3) 3).length = (PR (uq r 3) 3 ((P : Int) * r 3)).length + 1 := by
    unfold bk; rw [if_pos ⟨by omega, by omega⟩, List.length_cons]
  have u2 := us_le (A := 2) hd (by decide) hTi F (NI.ofRoot hro (show 2 < 4 by omega)) (a := 6) (b := 4) (c := 1) (d := 3) (M := 6) ⟨fun j hj hjl => by
      match j, hj with
      | 0, _ => decide
      | 1, _ => decide
      | 2, _ => decide
      | 3, _ => decide, by
      show 0 ≤ 2 * ev (uq r 2) 2 + 2 * (r 3 * ((1 : Nat) : Int))
      rw [ev_same r (by omega)]; omega, fun j hj hjl => by
      rw [ev_same r (show 2 < 4 by omega), ev_other r (show 2 < 4 by omega) hjl]
      match j, hj with
      | 0, _ => show 2 * -ev r 2 + 2 * (r 3 * ((1 : Nat) : Int)) ≤ 2 * (r 3 * ((6 : Nat) : Int)) - 2 * (ev r 0 + 2 * ev r 2); omega
      | 1, _ => show 2 * -ev r 2 + 2 * (r 3 * ((1 : Nat) : Int)) ≤ 2 * (r 3 * ((4 : Nat) : Int)) - 2 * (ev r 1 + 2 * ev r 2); omega
      | 2, _ => exact absurd rfl hjl
      | 3, _ => show 2 * -ev r 2 + 2 * (r 3 * ((1 : Nat) : Int)) ≤ 2 * (r 3 * ((3 : Nat) : Int)) - 2 * (ev r 3 + 2 * ev r 2); omega, by
      show 2 * uq r 2 2 ≤ r 3 * ((6 : Nat) : Int)
      omega⟩
  have u3 := us_le (A := 2) hd (by decide) hTi F (NI.ofRoot hro (show 3 < 4 by omega)) (a := 6) (b := 4) (c := 3) (d := 1) (M := 6) ⟨fun j hj hjl => by
      match j, hj with
      | 0, _ => decide
      | 1, _ => decide
      | 2, _ => decide
      | 3, _ => decide, by
      show 0 ≤ 2 * ev (uq r 3) 3 + 2 * (r 3 * ((1 : Nat) : Int))
      rw [ev_same r (by omega)]; omega, fun j hj hjl => by
      rw [ev_same r (show 3 < 4 by omega), ev_other r (show 3 < 4 by omega) hjl]
      match j, hj with
      | 0, _ => show 2 * -ev r 3 + 2 * (r 3 * ((1 : Nat) : Int)) ≤ 2 * (r 3 * ((6 : Nat) : Int)) - 2 * (ev r 0 + 2 * ev r 3); omega
      | 1, _ => show 2 * -ev r 3 + 2 * (r 3 * ((1 : Nat) : Int)) ≤ 2 * (r 3 * ((4 : Nat) : Int)) - 2 * (ev r 1 + 2 * ev r 3); omega
      | 2, _ => show 2 * -ev r 3 + 2 * (r 3 * ((1 : Nat) : Int)) ≤ 2 * (r 3 * ((3 : Nat) : Int)) - 2 * (ev r 2 + 2 * ev r 3); omega
      | 3, _ => exact absurd rfl hjl, by
      show 2 * uq r 3 3 ≤ r 3 * ((6 : Nat) : Int)
      omega⟩
  have := nc_bk hro (T := (P : Int) * r 3)
  omega
