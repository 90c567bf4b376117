/-! there are enough circles: a chain around two of them -/
theorem len_bk {q : Nat → Int} {l : Nat} {T : Int} (h : NI q l) {j : Nat} (hj : j < 4) (hjl : j ≠ l) (ht : tq q j ≤ T) : 1 + (PR (uq q j) j T).length ≤ (PR q l T).length := by
  rw [PR_fr h]
  have e : bk q l T j = tq q j :: PR (uq q j) j T := by unfold bk; rw [if_pos ⟨hjl, ht⟩]
  have hl : (bk q l T j).length = (PR (uq q j) j T).length + 1 := by rw [e, List.length_cons]
  show _ ≤ (bk q l T 0 ++ (bk q l T 1 ++ (bk q l T 2 ++ bk q l T 3))).length
  rw [List.length_append, List.length_append, List.length_append]
  match j, hj with
  | 0, _ => omega
  | 1, _ => omega
  | 2, _ => omega
  | 3, _ => omega
theorem chain {T D : Int} (hD : 0 ≤ D) : ∀ (n : Nat) {q : Nat → Int} {l j : Nat}, NI q l → j < 4 → j ≠ l → ev q j + ev q l = D → 2 * q l + (n : Int) * (3 * D - 2 * ev q l) + ((n * n : Nat) : Int) * D ≤ 2 * T → n ≤ (PR q l T).length := by
  intro n
  induction n with
  | zero => intro q l j _ _ _ _ _; exact Nat.zero_le _
  | succ n ih =>
    intro q l j h hj hjl hd hb
    have hl := h.1
    have h5 : ev q j = sq q - 2 * q j := rfl
    have h6 : ev q l = sq q - 2 * q l := rfl
    have h7 := tq_ev q j
    have h2 := h.2.1
    have e1 : (((n + 1) * (n + 1) : Nat) : Int) * D = ((n * n : Nat) : Int) * D + 2 * ((n : Int) * D) + D := by
      rw [show (n + 1) * (n + 1) = n * n + 2 * n + 1 by grind]
      simp only [Int.natCast_add, Int.natCast_mul]
      grind
    have e2 : ((n + 1 : Nat) : Int) * (3 * D - 2 * ev q l) = (n : Int) * (3 * D - 2 * ev q l) + (3 * D - 2 * ev q l) := by
      simp only [Int.natCast_add]
      grind
    rw [e1, e2] at hb
    have nD : 0 ≤ (n : Int) * D := Int.mul_nonneg (by omega) hD
    have nnD : 0 ≤ ((n * n : Nat) : Int) * D := Int.mul_nonneg (by omega) hD
    have nA : 0 ≤ (n : Int) * (3 * D - 2 * ev q l) := Int.mul_nonneg (by omega) (by omega)
    have ht : tq q j ≤ T := by omega
    have hq : uq q j j = tq q j := by rw [uq_at, if_pos rfl]
    have s1 := ev_same q hj
    have s2 := ev_other q hj (fun e => hjl e.symm) (j := l)
    have e3 : (n : Int) * (3 * D - 2 * ev (uq q j) j) = (n : Int) * (3 * D - 2 * ev q l) + 2 * ((n : Int) * D) := by
      rw [s1, show ev q j = D - ev q l by omega]
      grind
    have := ih (h.step hj hjl) hl (fun e => hjl e.symm) (j := l) (by rw [s1, s2]; omega) (by rw [hq, e3]; omega)
    have hk := len_bk h hj hjl ht
    omega
theorem grow {first : Nat → Int64} (hb : BR first) (s0 : zq first 0 ≤ zq first 1) (s1 : zq first 1 ≤ zq first 2) (s2 : zq first 2 ≤ zq first 3) : 2000 < NC (zq first) (4194304 * zq first 3) := by
  have hn := hb.neg
  have f2 : ev (zq first) 2 = sq (zq first) - 2 * zq first 2 := rfl
  have f3 : ev (zq first) 3 = sq (zq first) - 2 * zq first 3 := rfl
  have fs : sq (zq first) = zq first 0 + zq first 1 + zq first 2 + zq first 3 := rfl
  have t3 := tq_ev (zq first) 3
  have g2 := hb.ro.1 2 (by omega)
  have g3 := hb.ro.1 3 (by omega)
  have hni := NI.ofRoot hb.ro (show 3 < 4 by omega)
  have a1 := ev_same (zq first) (show 3 < 4 by omega)
  have a2 := ev_other (zq first) (show 3 < 4 by omega) (show 2 ≠ 3 by omega)
  have hq : uq (zq first) 3 3 = tq (zq first) 3 := by rw [uq_at, if_pos rfl]
  have hc := chain (T := 4194304 * zq first 3) (D := ev (zq first) 2 + ev (zq first) 3) (by omega) 2001 hni (show 2 < 4 by omega) (show 2 ≠ 3 by omega) (by rw [a1, a2]; omega) (by
    rw [hq, a1]
    show 2 * tq (zq first) 3 + (2001 : Int) * (3 * (ev (zq first) 2 + ev (zq first) 3) - 2 * -ev (zq first) 3) + (4004001 : Int) * (ev (zq first) 2 + ev (zq first) 3) ≤ _
    omega)
  have e : bk (zq first) 4 (4194304 * zq first 3) 3 = tq (zq first) 3 :: PR (uq (zq first) 3) 3 (4194304 * zq first 3) := by
    unfold bk; rw [if_pos ⟨by omega, by omega⟩]
  have hl : (bk (zq first) 4 (4194304 * zq first 3) 3).length = (PR (uq (zq first) 3) 3 (4194304 * zq first 3)).length + 1 := by rw [e, List.length_cons]
  rw [NC, cir_eq hb.ro, List.length_append]
  have hf : (fr (zq first) 4 (4194304 * zq first 3) 0).length = (bk (zq first) 4 (4194304 * zq first 3) 0).length + ((bk (zq first) 4 (4194304 * zq first 3) 1).length + ((bk (zq first) 4 (4194304 * zq first 3) 2).length + (bk (zq first) 4 (4194304 * zq first 3) 3).length)) := by
    show (bk (zq first) 4 (4194304 * zq first 3) 0 ++ (bk (zq first) 4 (4194304 * zq first 3) 1 ++ (bk (zq first) 4 (4194304 * zq first 3) 2 ++ bk (zq first) 4 (4194304 * zq first 3) 3))).length = _
    rw [List.length_append, List.length_append, List.length_append]
  omega
