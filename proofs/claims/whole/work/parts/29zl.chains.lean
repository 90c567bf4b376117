/-! chains around two circles, with what stands at their sides -/
def LJ (l j : Nat) : Prop := (l = 2 ∧ j = 3) ∨ (l = 3 ∧ j = 2)
theorem LJ.sym {l j : Nat} (h : LJ l j) : LJ j l := by unfold LJ at *; omega
theorem LJ.l4 {l j : Nat} (h : LJ l j) : l < 4 ∧ j < 4 ∧ j ≠ l ∧ l ≠ 0 ∧ l ≠ 1 ∧ j ≠ 0 ∧ j ≠ 1 := by unfold LJ at h; omega
theorem pr_lj {q : Nat → Int} {l j : Nat} {T : Int} (h : NI q l) (hlj : LJ l j) : (PR q l T).length = (bk q l T 0).length + (bk q l T 1).length + (bk q l T j).length := by
  rw [PR_fr h]
  show (bk q l T 0 ++ (bk q l T 1 ++ (bk q l T 2 ++ bk q l T 3))).length = _
  rw [List.length_append, List.length_append, List.length_append]
  have e : bk q l T l = [] := by unfold bk; rw [if_neg (fun h => h.1 rfl)]
  have e2 : (bk q l T l).length = 0 := by rw [e]; rfl
  rcases hlj with ⟨rfl, rfl⟩ | ⟨rfl, rfl⟩
  · omega
  · omega
theorem lj_step {q : Nat → Int} {l j : Nat} {D : Int} (hlj : LJ l j) (hD : ev q l + ev q j = D) : ev (uq q j) j + ev (uq q j) l = D ∧ ev (uq q j) j = ev q l - D ∧ 2 * uq q j j = 2 * q l + 3 * D - 2 * ev q l ∧ ev (uq q j) 0 + ev (uq q j) j = ev q 0 + ev q l + D - 2 * ev q l ∧ ev (uq q j) 1 + ev (uq q j) j = ev q 1 + ev q l + D - 2 * ev q l := by
  obtain ⟨h1, h2, h3, h4, h5, h6, h7⟩ := hlj.l4
  have hs := ev_same q h2
  have hl := ev_other q h2 (fun e => h3 e.symm) (j := l)
  have h0 := ev_other q h2 (fun e => h6 e.symm) (j := 0)
  have h1' := ev_other q h2 (fun e => h7 e.symm) (j := 1)
  have hq : uq q j j = tq q j := by rw [uq_at, if_pos rfl]
  have f1 : ev q j = sq q - 2 * q j := rfl
  have f2 : ev q l = sq q - 2 * q l := rfl
  have f3 := tq_ev q j
  refine ⟨by omega, by omega, by omega, by omega, by omega⟩
theorem chain_lo {T D X Z : Int} {s : Nat} (hD0 : 0 ≤ D) (hX : X ≤ T) : ∀ (n : Nat) {q : Nat → Int} {l j : Nat}, NI q l → LJ l j → ev q l + ev q j = D → (∀ q' l' j', NI q' l' → LJ l' j' → ev q' l' + ev q' j' = D → q' l' ≤ X → -ev q' l' ≤ Z → ev q' 0 + ev q' l' - 2 * q' l' ≤ ev q 0 + ev q l - 2 * q l → ev q' 1 + ev q' l' - 2 * q' l' ≤ ev q 1 + ev q l - 2 * q l → s ≤ (bk q' l' T 0).length + (bk q' l' T 1).length) → 2 * q l + (n : Int) * n * D + 2 * ((n : Int) * D) - 2 * ((n : Int) * ev q l) ≤ 2 * X → -ev q l + (n : Int) * D ≤ Z → n * (1 + s) ≤ (PR q l T).length := by
  intro n
  induction n with
  | zero => intro q l j _ _ _ _ _ _; rw [Nat.zero_mul]; exact Nat.zero_le _
  | succ n ih =>
    intro q l j hn hlj hD hside h1 h2
    obtain ⟨s1, s2, s3, s4, s5⟩ := lj_step hlj hD
    obtain ⟨hl4, hj4, hjl, -⟩ := hlj.l4
    have e1 : ((n + 1 : Nat) : Int) * ((n + 1 : Nat) : Int) * D = (n : Int) * n * D + 2 * ((n : Int) * D) + D := by
      simp only [Int.natCast_add]; grind
    have e2 : ((n + 1 : Nat) : Int) * D = (n : Int) * D + D := by simp only [Int.natCast_add]; grind
    have e3 : ((n + 1 : Nat) : Int) * ev q l = (n : Int) * ev q l + ev q l := by simp only [Int.natCast_add]; grind
    have e4 : (n : Int) * ev (uq q j) j = (n : Int) * ev q l - (n : Int) * D := by rw [s2]; grind
    rw [e1, e2, e3] at h1
    rw [e2] at h2
    have nD : 0 ≤ (n : Int) * D := Int.mul_nonneg (by omega) hD0
    have nnD : 0 ≤ (n : Int) * n * D := Int.mul_nonneg (Int.mul_nonneg (by omega) (by omega)) hD0
    have hel := hn.2.1
    have nE : (n : Int) * ev q l ≤ 0 := by
      have := Int.mul_nonneg (show (0 : Int) ≤ (n : Int) by omega) (show 0 ≤ -ev q l by omega)
      rw [Int.mul_neg] at this; omega
    have hs := hside q l j hn hlj hD (by omega) (by omega) (Int.le_refl _) (Int.le_refl _)
    have hq : uq q j j = tq q j := by rw [uq_at, if_pos rfl]
    have ht : tq q j ≤ T := by omega
    have hi := ih (hn.step hj4 hjl) hlj.sym s1 (fun q' l' j' a1 a2 a3 a4 a5 a6 a7 => hside q' l' j' a1 a2 a3 a4 a5 (by omega) (by omega)) (by rw [e4]; omega) (by omega)
    have hb : (bk q l T j).length = (PR (uq q j) j T).length + 1 := by
      unfold bk; rw [if_pos ⟨hjl, ht⟩, List.length_cons]
    rw [pr_lj hn hlj, hb, Nat.add_mul]
    omega
theorem chain_up {T D : Int} {s : Nat} (hD0 : 0 ≤ D) : ∀ (n : Nat) {q : Nat → Int} {l j : Nat}, NI q l → LJ l j → ev q l + ev q j = D → q l ≤ T → (∀ q' l' j', NI q' l' → LJ l' j' → ev q' l' + ev q' j' = D → q l ≤ q' l' → ev q 0 + ev q l ≤ ev q' 0 + ev q' l' → ev q 1 + ev q l ≤ ev q' 1 + ev q' l' → (bk q' l' T 0).length + (bk q' l' T 1).length ≤ s) → (PR q l T).length ≤ n * (1 + s) ∨ ∃ q' l' j', NI q' l' ∧ LJ l' j' ∧ ev q' l' + ev q' j' = D ∧ q' l' ≤ T ∧ ev q' l' = ev q l - (n : Int) * D ∧ 2 * q' l' = 2 * q l + (n : Int) * n * D + 2 * ((n : Int) * D) - 2 * ((n : Int) * ev q l) ∧ ev q' 0 + ev q' l' = ev q 0 + ev q l + (n : Int) * n * D - 2 * ((n : Int) * ev q l) ∧ ev q' 1 + ev q' l' = ev q 1 + ev q l + (n : Int) * n * D - 2 * ((n : Int) * ev q l) ∧ (PR q l T).length ≤ n * (1 + s) + (PR q' l' T).length := by
  intro n
  induction n with
  | zero =>
    intro q l j hn hlj hD hT _
    refine Or.inr ⟨q, l, j, hn, hlj, hD, hT, ?_, ?_, ?_, ?_, by omega⟩
    · have : ((0 : Nat) : Int) * D = 0 := Int.zero_mul _
      omega
    · have a1 : ((0 : Nat) : Int) * D = 0 := Int.zero_mul _
      have a2 : ((0 : Nat) : Int) * ((0 : Nat) : Int) * D = 0 := Int.zero_mul _
      have a3 : ((0 : Nat) : Int) * ev q l = 0 := Int.zero_mul _
      omega
    · have a2 : ((0 : Nat) : Int) * ((0 : Nat) : Int) * D = 0 := Int.zero_mul _
      have a3 : ((0 : Nat) : Int) * ev q l = 0 := Int.zero_mul _
      omega
    · have a2 : ((0 : Nat) : Int) * ((0 : Nat) : Int) * D = 0 := Int.zero_mul _
      have a3 : ((0 : Nat) : Int) * ev q l = 0 := Int.zero_mul _
      omega
  | succ n ih =>
    intro q l j hn hlj hD hT hside
    obtain ⟨s1, s2, s3, s4, s5⟩ := lj_step hlj hD
    obtain ⟨hl4, hj4, hjl, -⟩ := hlj.l4
    have hel := hn.2.1
    have hs := hside q l j hn hlj hD (Int.le_refl _) (Int.le_refl _) (Int.le_refl _)
    have hq : uq q j j = tq q j := by rw [uq_at, if_pos rfl]
    have hm : (n + 1) * (1 + s) = n * (1 + s) + 1 + s := by rw [Nat.add_mul]; omega
    rw [pr_lj hn hlj, hm]
    by_cases ht : tq q j ≤ T
    · have hb : (bk q l T j).length = (PR (uq q j) j T).length + 1 := by
        unfold bk; rw [if_pos ⟨hjl, ht⟩, List.length_cons]
      rw [hb]
      rcases ih (hn.step hj4 hjl) hlj.sym s1 (by omega) (fun q' l' j' a1 a2 a3 a4 a5 a6 => hside q' l' j' a1 a2 a3 (by omega) (by omega) (by omega)) with i1 | ⟨q', l', j', i1, i2, i3, i4, i5, i6, i7, i8, i9⟩
      · left; omega
      · right
        have e1 : ((n + 1 : Nat) : Int) * ((n + 1 : Nat) : Int) * D = (n : Int) * n * D + 2 * ((n : Int) * D) + D := by
          simp only [Int.natCast_add]; grind
        have e2 : ((n + 1 : Nat) : Int) * D = (n : Int) * D + D := by simp only [Int.natCast_add]; grind
        have e3 : ((n + 1 : Nat) : Int) * ev q l = (n : Int) * ev q l + ev q l := by simp only [Int.natCast_add]; grind
        have e4 : (n : Int) * ev (uq q j) j = (n : Int) * ev q l - (n : Int) * D := by rw [s2]; grind
        rw [e4] at i6 i7 i8
        rw [e1, e2, e3]
        exact ⟨q', l', j', i1, i2, i3, i4, by omega, by omega, by omega, by omega, by omega⟩
    · have hb : (bk q l T j).length = 0 := by
        unfold bk; rw [if_neg (fun c => ht c.2)]; rfl
      left; omega
/-- two stretches of a chain -/
theorem chain_two {T D : Int} (hD0 : 0 ≤ D) {n1 n2 s1 s2 : Nat} {q : Nat → Int} {l j : Nat} (hn : NI q l) (hlj : LJ l j) (hD : ev q l + ev q j = D) (hT : q l ≤ T)
    (hs1 : ∀ q' l' j', NI q' l' → LJ l' j' → ev q' l' + ev q' j' = D → q l ≤ q' l' → ev q 0 + ev q l ≤ ev q' 0 + ev q' l' → ev q 1 + ev q l ≤ ev q' 1 + ev q' l' → (bk q' l' T 0).length + (bk q' l' T 1).length ≤ s1)
    (hs2 : ∀ q' l' j', NI q' l' → LJ l' j' → ev q' l' + ev q' j' = D → 2 * q l + (n1 : Int) * n1 * D + 2 * ((n1 : Int) * D) ≤ 2 * q' l' → ev q 0 + ev q l + (n1 : Int) * n1 * D ≤ ev q' 0 + ev q' l' → ev q 1 + ev q l + (n1 : Int) * n1 * D ≤ ev q' 1 + ev q' l' → (bk q' l' T 0).length + (bk q' l' T 1).length ≤ s2)
    (hend : 2 * T < 2 * q l + (n1 : Int) * n1 * D + (n2 : Int) * n2 * D + 2 * ((n1 : Int) * n2 * D) + 2 * ((n1 : Int) * D) + 2 * ((n2 : Int) * D)) : (PR q l T).length ≤ n1 * (1 + s1) + n2 * (1 + s2) := by
  have hel := hn.2.1
  have nE : ∀ n : Nat, (n : Int) * ev q l ≤ 0 := fun n => by
    have := Int.mul_nonneg (show (0 : Int) ≤ (n : Int) by omega) (show 0 ≤ -ev q l by omega)
    rw [Int.mul_neg] at this; omega
  have n1E := nE n1; have n2E := nE n2
  rcases chain_up hD0 n1 hn hlj hD hT hs1 with h | ⟨q1, l1, j1, a1, a2, a3, a4, a5, a6, a7, a8, a9⟩
  · omega
  · rcases chain_up (s := s2) hD0 n2 a1 a2 a3 a4 (fun q' l' j' b1 b2 b3 b4 b5 b6 => hs2 q' l' j' b1 b2 b3 (by omega) (by omega) (by omega)) with h | ⟨q2, l2, j2, b1, b2, b3, b4, b5, b6, b7, b8, b9⟩
    · omega
    · have e : (n2 : Int) * ev q1 l1 = (n2 : Int) * ev q l - (n1 : Int) * n2 * D := by rw [a5]; grind
      rw [e] at b6
      omega
