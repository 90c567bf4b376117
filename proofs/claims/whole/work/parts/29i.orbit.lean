/-! remainders: how many codes an orbit has -/
def I4c (m c : Nat) : Prop := I4 m (dg m c 0) (dg m c 1) (dg m c 2) (dg m c 3)
def GC (m c0 c : Nat) : Prop := c < m ^ 4 ∧ I4c m c ∧ (m = 11 → (c = 0 ↔ c0 = 0)) ∧ (m = 12 → c % 4 = c0 % 4)
theorem tw_0 (m c : Nat) : tw m c 0 = (2 * (dg m c 1 + dg m c 2 + dg m c 3) + m - dg m c 0) % m := by
  unfold tw; rw [show dg m c 0 + dg m c 1 + dg m c 2 + dg m c 3 - dg m c 0 = dg m c 1 + dg m c 2 + dg m c 3 by omega]
theorem tw_1 (m c : Nat) : tw m c 1 = (2 * (dg m c 0 + dg m c 2 + dg m c 3) + m - dg m c 1) % m := by
  unfold tw; rw [show dg m c 0 + dg m c 1 + dg m c 2 + dg m c 3 - dg m c 1 = dg m c 0 + dg m c 2 + dg m c 3 by omega]
theorem tw_2 (m c : Nat) : tw m c 2 = (2 * (dg m c 1 + dg m c 0 + dg m c 3) + m - dg m c 2) % m := by
  unfold tw; rw [show dg m c 0 + dg m c 1 + dg m c 2 + dg m c 3 - dg m c 2 = dg m c 1 + dg m c 0 + dg m c 3 by omega]
theorem tw_3 (m c : Nat) : tw m c 3 = (2 * (dg m c 1 + dg m c 2 + dg m c 0) + m - dg m c 3) % m := by
  unfold tw; rw [show dg m c 0 + dg m c 1 + dg m c 2 + dg m c 3 - dg m c 3 = dg m c 1 + dg m c 2 + dg m c 0 by omega]
theorem I4c_tc {m c p : Nat} (hm : 0 < m) (h : c < m ^ 4) (hp : p < 4) (hi : I4c m c) : I4c m (tc m c p) := by
  rw [tc_st hm h hp]
  have ht := tw_lt hm c p
  obtain ⟨a, b, d, e⟩ := st_dg hm c p ht
  unfold I4c
  rw [a, b, d, e]
  have l0 := dg_lt hm c 0; have l1 := dg_lt hm c 1; have l2 := dg_lt hm c 2; have l3 := dg_lt hm c 3
  match p, hp with
  | 0, _ => rw [if_pos rfl, if_neg (by decide), if_neg (by decide), if_neg (by decide), tw_0]; exact I4.turn l0 hi
  | 1, _ => rw [if_neg (by decide), if_pos rfl, if_neg (by decide), if_neg (by decide), tw_1]; exact (I4.turn l1 hi.s1).s1
  | 2, _ => rw [if_neg (by decide), if_neg (by decide), if_pos rfl, if_neg (by decide), tw_2]; exact (I4.turn l2 hi.s2).s2
  | 3, _ => rw [if_neg (by decide), if_neg (by decide), if_neg (by decide), if_pos rfl, tw_3]; exact (I4.turn l3 hi.s3).s3
theorem even12 {a b c d : Nat} (h : I4 12 a b c d) : (a + b + c + d) % 2 = 0 := by
  unfold I4 at h
  have h1 := Nat.mul_mod (a + b + c + d) (a + b + c + d) 2
  generalize (a + b + c + d) * (a + b + c + d) = Y at h h1
  generalize a * a + b * b + c * c + d * d = X at h
  generalize a + b + c + d = S at h1 ⊢
  have h2 : Y % 2 = 0 := by omega
  have h3 : S % 2 = 0 ∨ S % 2 = 1 := by omega
  rcases h3 with h3 | h3
  · exact h3
  · rw [h2, h3] at h1; exact absurd h1 (by decide)
theorem tc_lt {m c p : Nat} (hm : 0 < m) (h : c < m ^ 4) (hp : p < 4) : tc m c p < m ^ 4 := by
  rw [tc_st hm h hp]; exact st_lt hm c p (tw_lt hm c p)
theorem gc11 {c p : Nat} (h : c < 11 ^ 4) (hp : p < 4) : tc 11 c p = 0 ↔ c = 0 := by
  rw [tc_st (by decide) h hp]
  have h1 := cd_eq (m := 11) (by decide) h
  have l0 := dg_lt (m := 11) (by decide) c 0; have l1 := dg_lt (m := 11) (by decide) c 1; have l2 := dg_lt (m := 11) (by decide) c 2; have l3 := dg_lt (m := 11) (by decide) c 3
  unfold st4
  unfold pk4 at h1 ⊢
  match p, hp with
  | 0, _ =>
    rw [if_pos rfl, if_neg (by decide), if_neg (by decide), if_neg (by decide), tw_0]
    generalize dg 11 c 0 = a, dg 11 c 1 = b, dg 11 c 2 = d, dg 11 c 3 = e at *
    omega
  | 1, _ =>
    rw [if_neg (by decide), if_pos rfl, if_neg (by decide), if_neg (by decide), tw_1]
    generalize dg 11 c 0 = a, dg 11 c 1 = b, dg 11 c 2 = d, dg 11 c 3 = e at *
    omega
  | 2, _ =>
    rw [if_neg (by decide), if_neg (by decide), if_pos rfl, if_neg (by decide), tw_2]
    generalize dg 11 c 0 = a, dg 11 c 1 = b, dg 11 c 2 = d, dg 11 c 3 = e at *
    omega
  | 3, _ =>
    rw [if_neg (by decide), if_neg (by decide), if_neg (by decide), if_pos rfl, tw_3]
    generalize dg 11 c 0 = a, dg 11 c 1 = b, dg 11 c 2 = d, dg 11 c 3 = e at *
    omega
theorem gc12 {c p : Nat} (h : c < 12 ^ 4) (hp : p < 4) (hi : I4c 12 c) : tc 12 c p % 4 = c % 4 := by
  rw [tc_st (by decide) h hp]
  have h1 := cd_eq (m := 12) (by decide) h
  have hev := even12 hi
  have l0 := dg_lt (m := 12) (by decide) c 0
  unfold st4
  unfold pk4 at h1 ⊢
  match p, hp with
  | 0, _ =>
    rw [if_pos rfl, if_neg (by decide), if_neg (by decide), if_neg (by decide), tw_0]
    generalize dg 12 c 0 = a, dg 12 c 1 = b, dg 12 c 2 = d, dg 12 c 3 = e at *
    omega
  | 1, _ =>
    rw [if_neg (by decide), if_pos rfl, if_neg (by decide), if_neg (by decide)]
    generalize dg 12 c 0 = a, dg 12 c 1 = b, dg 12 c 2 = d, dg 12 c 3 = e at *
    omega
  | 2, _ =>
    rw [if_neg (by decide), if_neg (by decide), if_pos rfl, if_neg (by decide)]
    generalize dg 12 c 0 = a, dg 12 c 1 = b, dg 12 c 2 = d, dg 12 c 3 = e at *
    omega
  | 3, _ =>
    rw [if_neg (by decide), if_neg (by decide), if_neg (by decide), if_pos rfl]
    generalize dg 12 c 0 = a, dg 12 c 1 = b, dg 12 c 2 = d, dg 12 c 3 = e at *
    omega
theorem GC.tc {m c0 c p : Nat} (hm : 0 < m) (h : GC m c0 c) (hp : p < 4) : GC m c0 (tc m c p) := by
  obtain ⟨h1, h2, h3, h4⟩ := h
  refine ⟨tc_lt hm h1 hp, I4c_tc hm h1 hp h2, fun h => ?_, fun h => ?_⟩
  · subst h; exact (gc11 h1 hp).trans (h3 rfl)
  · subst h; exact (gc12 h1 hp h2).trans (h4 rfl)
/-- counting by halves -/
def cntB (P : Nat → Bool) : Nat → Nat → Nat
  | 0, lo => if P lo then 1 else 0
  | k + 1, lo => cntB P k lo + cntB P k (lo + 2 ^ k)
theorem cnt_le (P : Nat → Bool) : ∀ (k lo : Nat) (l : List Nat), l.Nodup → (∀ x, x ∈ l → lo ≤ x ∧ x < lo + 2 ^ k ∧ P x = true) → l.length ≤ cntB P k lo := by
  intro k
  induction k with
  | zero =>
    intro lo l hn h
    match l, hn, h with
    | [], _, _ => exact Nat.zero_le _
    | [a], _, h =>
      obtain ⟨h1, h2, h3⟩ := h a (List.mem_singleton.mpr rfl)
      obtain rfl : a = lo := by omega
      rw [cntB, if_pos h3]; exact Nat.le_refl 1
    | a :: b :: r, hn, h =>
      obtain ⟨h1, h2, -⟩ := h a (by simp)
      obtain ⟨h3, h4, -⟩ := h b (by simp)
      have : a ≠ b := by
        have := hn
        simp only [List.nodup_cons, List.mem_cons, not_or] at this
        exact this.1.1
      omega
  | succ k ih =>
    intro lo l hn h
    have e := List.length_eq_countP_add_countP (p := fun x => decide (x < lo + 2 ^ k)) (l := l)
    rw [List.countP_eq_length_filter, List.countP_eq_length_filter] at e
    have a := ih lo (l.filter (fun x => decide (x < lo + 2 ^ k))) (List.Pairwise.filter _ hn) (fun x hx => by
      rw [List.mem_filter] at hx
      obtain ⟨h1, h2, h3⟩ := h x hx.1
      exact ⟨h1, of_decide_eq_true hx.2, h3⟩)
    have b := ih (lo + 2 ^ k) (l.filter (fun x => decide (¬ decide (x < lo + 2 ^ k) = true))) (List.Pairwise.filter _ hn) (fun x hx => by
      rw [List.mem_filter] at hx
      obtain ⟨h1, h2, h3⟩ := h x hx.1
      have h4 := hx.2
      simp only [decide_eq_true_eq] at h4
      rw [Nat.pow_succ] at h2
      exact ⟨by omega, by omega, h3⟩)
    rw [cntB]
    omega
def pB (m c : Nat) : Bool := decide (c < m ^ 4) && decide ((2 * (dg m c 0 * dg m c 0 + dg m c 1 * dg m c 1 + dg m c 2 * dg m c 2 + dg m c 3 * dg m c 3)) % m = ((dg m c 0 + dg m c 1 + dg m c 2 + dg m c 3) * (dg m c 0 + dg m c 1 + dg m c 2 + dg m c 3)) % m)
theorem pB_of {m c0 c : Nat} (h : GC m c0 c) : pB m c = true := by
  unfold pB
  rw [decide_eq_true h.1, decide_eq_true (show _ = _ from h.2.1)]
  rfl
theorem cn2 : cntB (pB 2) 4 0 ≤ 1220 := by decide +kernel
theorem cn3 : cntB (pB 3) 7 0 ≤ 1220 := by decide +kernel
theorem cn4 : cntB (pB 4) 8 0 ≤ 1220 := by decide +kernel
theorem cn5 : cntB (pB 5) 10 0 ≤ 1220 := by decide +kernel
theorem cn6 : cntB (pB 6) 11 0 ≤ 1220 := by decide +kernel
theorem cn7 : cntB (pB 7) 12 0 ≤ 1220 := by decide +kernel
theorem cn8 : cntB (pB 8) 12 0 ≤ 1220 := by decide +kernel
theorem cn9 : cntB (pB 9) 13 0 ≤ 1220 := by decide +kernel
theorem cn10 : cntB (pB 10) 14 0 ≤ 1220 := by decide +kernel
theorem cn11 : cntB (fun c => pB 11 c && decide (c ≠ 0)) 14 0 ≤ 1220 := by decide +kernel
theorem cn12 : ∀ r : Fin 4, cntB (fun c => decide (c % 4 = r.val) && pB 12 c) 15 0 ≤ 1220 := by decide +kernel
