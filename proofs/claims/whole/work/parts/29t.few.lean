/-! no bound root has more circles up to 5000 than (-1, 2, 2, 3) -/
def kf (a b c d : Nat) : Nat → Nat
  | 0 => a
  | 1 => b
  | 2 => c
  | _ => d
def cj (a b c d l i j : Nat) : Nat := if j = i then kf a b c d i else if j = l then 2 * kf a b c d i - kf a b c d l else kf a b c d j + 2 * kf a b c d i
def cN (T : Nat) : Nat → Nat → Nat → Nat → Nat → Nat → Nat → Nat
  | 0, _, _, _, _, _, _ => 0
  | F + 1, l, a, b, c, d, M =>
    (if 0 = l then 0 else if M + 3 * a - kf a b c d l ≤ T then 1 + cN T F 0 (cj a b c d l 0 0) (cj a b c d l 0 1) (cj a b c d l 0 2) (cj a b c d l 0 3) (M + 3 * a - kf a b c d l) else 0) +
    ((if 1 = l then 0 else if M + 3 * b - kf a b c d l ≤ T then 1 + cN T F 1 (cj a b c d l 1 0) (cj a b c d l 1 1) (cj a b c d l 1 2) (cj a b c d l 1 3) (M + 3 * b - kf a b c d l) else 0) +
    ((if 2 = l then 0 else if M + 3 * c - kf a b c d l ≤ T then 1 + cN T F 2 (cj a b c d l 2 0) (cj a b c d l 2 1) (cj a b c d l 2 2) (cj a b c d l 2 3) (M + 3 * c - kf a b c d l) else 0) +
    (if 3 = l then 0 else if M + 3 * d - kf a b c d l ≤ T then 1 + cN T F 3 (cj a b c d l 3 0) (cj a b c d l 3 1) (cj a b c d l 3 2) (cj a b c d l 3 3) (M + 3 * d - kf a b c d l) else 0)))
/-- (q, l) lies above the numbers k -/
def DM (q : Nat → Int) (l : Nat) (k : Nat → Nat) (M : Nat) : Prop := (∀ j, j < 4 → j ≠ l → k l ≤ k j) ∧ ev q l + 2 * (k l : Int) ≤ 0 ∧ (∀ j, j < 4 → j ≠ l → -(ev q l + 2 * (k l : Int)) ≤ ev q j - 2 * (k j : Int)) ∧ (M : Int) ≤ q l
theorem DM.step {q : Nat → Int} {l : Nat} {k : Nat → Nat} {M : Nat} (hl : l < 4) (h : DM q l k M) {i : Nat} (hi : i < 4) (hil : i ≠ l) {k' : Nat → Nat} (hk : ∀ j, j < 4 → k' j = if j = i then k i else if j = l then 2 * k i - k l else k j + 2 * k i) : DM (uq q i) i k' (M + 3 * k i - k l) ∧ ((M + 3 * k i - k l : Nat) : Int) ≤ tq q i := by
  obtain ⟨h1, h2, h3, h4⟩ := h
  have a1 := h1 i hi hil
  have a3 := h3 i hi hil
  have hki : k' i = k i := by rw [hk i hi, if_pos rfl]
  have hM : ((M + 3 * k i - k l : Nat) : Int) ≤ tq q i := by
    have h5 : ev q i = sq q - 2 * q i := rfl
    have h6 : ev q l = sq q - 2 * q l := rfl
    have h7 := tq_ev q i
    omega
  refine ⟨⟨fun j hj hji => ?_, ?_, fun j hj hji => ?_, by rw [uq_at, if_pos rfl]; exact hM⟩, hM⟩
  · rw [hki, hk j hj, if_neg hji]
    by_cases e : j = l
    · rw [if_pos e]; omega
    · rw [if_neg e]; omega
  · rw [hki, ev_same q hi]; omega
  · rw [hki, ev_same q hi, ev_other q hi hji, hk j hj, if_neg hji]
    by_cases e : j = l
    · rw [if_pos e, e]; omega
    · rw [if_neg e]
      have := h3 j hj e
      omega
theorem kf_cj (a b c d l i : Nat) : ∀ j, j < 4 → kf (cj a b c d l i 0) (cj a b c d l i 1) (cj a b c d l i 2) (cj a b c d l i 3) j = if j = i then kf a b c d i else if j = l then 2 * kf a b c d i - kf a b c d l else kf a b c d j + 2 * kf a b c d i := fun j hj => by
  match j, hj with
  | 0, _ => rfl
  | 1, _ => rfl
  | 2, _ => rfl
  | 3, _ => rfl
theorem dm_le (T : Nat) : ∀ (F : Nat) {q : Nat → Int} {l a b c d M : Nat}, l < 4 → DM q l (kf a b c d) M → (pre F q l (T : Int)).length ≤ cN T F l a b c d M := by
  intro F
  induction F with
  | zero => intro q l a b c d M _ _; exact Nat.zero_le _
  | succ F ih =>
    intro q l a b c d M hl h
    have hb : ∀ i, i < 4 → (if i ≠ l ∧ tq q i ≤ (T : Int) then tq q i :: pre F (uq q i) i T else []).length ≤ (if i = l then 0 else if M + 3 * kf a b c d i - kf a b c d l ≤ T then 1 + cN T F i (cj a b c d l i 0) (cj a b c d l i 1) (cj a b c d l i 2) (cj a b c d l i 3) (M + 3 * kf a b c d i - kf a b c d l) else 0) := fun i hi => by
      by_cases e : i = l
      · rw [if_pos e, if_neg (fun h => h.1 e)]; exact Nat.le_refl _
      · rw [if_neg e]
        obtain ⟨s1, s2⟩ := h.step hl hi e (kf_cj a b c d l i)
        by_cases c2 : tq q i ≤ (T : Int)
        · rw [if_pos ⟨e, c2⟩, if_pos (by omega), List.length_cons]
          have := ih hi s1
          omega
        · rw [if_neg (fun h => c2 h.2)]; exact Nat.zero_le _
    have b0 := hb 0 (by omega); have b1 := hb 1 (by omega); have b2 := hb 2 (by omega); have b3 := hb 3 (by omega)
    rw [pre, cN, List.length_append, List.length_append, List.length_append]
    exact Nat.add_le_add b0 (Nat.add_le_add b1 (Nat.add_le_add b2 b3))
theorem few0 : cN 5000 72 0 4 9 9 8 15 ≤ 200000 := by decide +kernel
theorem few1 : cN 5000 72 1 6 1 3 2 6 ≤ 200000 := by decide +kernel
theorem few2 : cN 5000 72 2 6 3 1 2 6 ≤ 200000 := by decide +kernel
theorem few3 : cN 5000 72 3 4 1 1 0 3 ≤ 200000 := by decide +kernel
