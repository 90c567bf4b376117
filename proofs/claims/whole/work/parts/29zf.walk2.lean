/-! x's walk with a lower limit T, seen against the circles up to L -/
theorem PR_gt : ∀ (F : Nat) {q : Nat → Int} {l : Nat} {T : Int}, NI q l → T - q l ≤ F → ∀ x, x ∈ PR q l T → q l < x := by
  intro F
  induction F with
  | zero => intro q l T h h1 x hx; rw [PR_nil (by omega)] at hx; exact absurd hx (by simp)
  | succ F ih =>
    intro q l T h h1 x hx
    rw [PR_fr h] at hx
    have hb : ∀ i, i < 4 → x ∈ bk q l T i → q l < x := fun i hi hm => by
      unfold bk at hm
      by_cases c : i ≠ l ∧ tq q i ≤ T
      · rw [if_pos c, List.mem_cons] at hm
        have hu := h.up hi c.1
        have he := h.2.1
        rcases hm with hm | hm
        · omega
        · have hq : uq q i i = tq q i := by rw [uq_at, if_pos rfl]
          have := ih (h.step hi c.1) (by rw [hq]; omega) x hm
          omega
      · rw [if_neg c] at hm; exact absurd hm (by simp)
    have hx : x ∈ bk q l T 0 ++ (bk q l T 1 ++ (bk q l T 2 ++ bk q l T 3)) := hx
    rw [List.mem_append, List.mem_append, List.mem_append] at hx
    rcases hx with hx | hx | hx | hx
    · exact hb 0 (by omega) hx
    · exact hb 1 (by omega) hx
    · exact hb 2 (by omega) hx
    · exact hb 3 (by omega) hx
theorem bk_gt {q : Nat → Int} {l p : Nat} {T L : Int} (hni : NI (uq q p) p) (hc : ¬ (p ≠ l ∧ tq q p ≤ T)) : ∀ x, x ∈ bk q l L p → T < x := by
  intro x hx
  unfold bk at hx
  by_cases c : p ≠ l ∧ tq q p ≤ L
  · rw [if_pos c, List.mem_cons] at hx
    have ht : T < tq q p := by
      by_cases c2 : tq q p ≤ T
      · exact absurd ⟨c.1, c2⟩ hc
      · omega
    rcases hx with hx | hx
    · omega
    · have := PR_gt (L - uq q p p).toNat hni (by omega) x hx
      rw [uq_at, if_pos rfl] at this
      omega
  · rw [if_neg c] at hx; exact absurd hx (by simp)
theorem vp_kid {r : Nat → Int} (hr : RO r) (h3 : 1 ≤ r 3) {L : Int} {ps : List Nat} (h : VP r L ps) {p : Nat} (hp : p < 4) (hpl : p ≠ lst ps) : NI (uq (nq r ps) p) p := by
  cases ps with
  | nil => exact NI.ofRoot hr hp
  | cons i ps => exact (vp_ni hr h3 h (by simp)).step hp hpl
