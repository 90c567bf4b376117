/-! domination with a scale, from below and from above -/
/-- A times (q, l) lies above B times the numbers k -/
def DS (A B : Int) (q : Nat → Int) (l : Nat) (k : Nat → Nat) (M : Nat) : Prop := (∀ j, j < 4 → j ≠ l → k l ≤ k j) ∧ A * ev q l + 2 * (B * (k l : Int)) ≤ 0 ∧ (∀ j, j < 4 → j ≠ l → -(A * ev q l + 2 * (B * (k l : Int))) ≤ A * ev q j - 2 * (B * (k j : Int))) ∧ B * (M : Int) ≤ A * q l
/-- A times (q, l) lies below B times the numbers k -/
def US (A B : Int) (q : Nat → Int) (l : Nat) (k : Nat → Nat) (M : Nat) : Prop := (∀ j, j < 4 → j ≠ l → k l ≤ k j) ∧ 0 ≤ A * ev q l + 2 * (B * (k l : Int)) ∧ (∀ j, j < 4 → j ≠ l → A * ev q l + 2 * (B * (k l : Int)) ≤ 2 * (B * (k j : Int)) - A * ev q j) ∧ A * q l ≤ B * (M : Int)
theorem A_tq (A : Int) (q : Nat → Int) (i l : Nat) : 2 * (A * tq q i) = 2 * (A * q l) + A * ev q l + 3 * (A * ev q i) := by
  have h5 : ev q i = sq q - 2 * q i := rfl
  have h6 : ev q l = sq q - 2 * q l := rfl
  have h7 := tq_ev q i
  rw [h7, h6, h5]
  grind
theorem A_same (A : Int) (q : Nat → Int) {i : Nat} (hi : i < 4) : A * ev (uq q i) i = -(A * ev q i) := by rw [ev_same q hi]; grind
theorem A_other (A : Int) (q : Nat → Int) {i j : Nat} (hi : i < 4) (hj : j ≠ i) : A * ev (uq q i) j = A * ev q j + 2 * (A * ev q i) := by rw [ev_other q hi hj]; grind
theorem B_new {B : Int} {k l i : Nat} (h : l ≤ 2 * i) (h3 : l ≤ k + 3 * i) : B * ((2 * i - l : Nat) : Int) = 2 * (B * (i : Int)) - B * (l : Int) ∧ B * ((k + 3 * i - l : Nat) : Int) = B * (k : Int) + 3 * (B * (i : Int)) - B * (l : Int) ∧ B * ((k + 2 * i : Nat) : Int) = B * (k : Int) + 2 * (B * (i : Int)) := by
  refine ⟨?_, ?_, ?_⟩
  · rw [show ((2 * i - l : Nat) : Int) = 2 * (i : Int) - (l : Int) by omega]; grind
  · rw [show ((k + 3 * i - l : Nat) : Int) = (k : Int) + 3 * (i : Int) - (l : Int) by omega]; grind
  · rw [show ((k + 2 * i : Nat) : Int) = (k : Int) + 2 * (i : Int) by omega]; grind
theorem B_le {B : Int} (hB : 0 < B) {a b : Nat} (h : a ≤ b) : B * (a : Int) ≤ B * (b : Int) := Int.mul_le_mul_of_nonneg_left (by omega) (by omega)
theorem DS.step {A B : Int} (hB : 0 < B) {q : Nat → Int} {l : Nat} {k : Nat → Nat} {M : Nat} (h : DS A B q l k M) {i : Nat} (hi : i < 4) (hil : i ≠ l) {k' : Nat → Nat} (hk : ∀ j, j < 4 → k' j = if j = i then k i else if j = l then 2 * k i - k l else k j + 2 * k i) : DS A B (uq q i) i k' (M + 3 * k i - k l) ∧ B * ((M + 3 * k i - k l : Nat) : Int) ≤ A * tq q i := by
  obtain ⟨h1, h2, h3, h4⟩ := h
  have a1 := h1 i hi hil
  have a3 := h3 i hi hil
  have hki : k' i = k i := by rw [hk i hi, if_pos rfl]
  obtain ⟨b1, b2, -⟩ := B_new (B := B) (k := M) (l := k l) (i := k i) (by omega) (by omega)
  have hM : B * ((M + 3 * k i - k l : Nat) : Int) ≤ A * tq q i := by
    have h7 := A_tq A q i l
    rw [b2]; omega
  refine ⟨⟨fun j hj hji => ?_, ?_, fun j hj hji => ?_, by rw [uq_at, if_pos rfl]; exact hM⟩, hM⟩
  · rw [hki, hk j hj, if_neg hji]
    by_cases e : j = l
    · rw [if_pos e]; omega
    · rw [if_neg e]; omega
  · rw [hki, A_same A q hi]; omega
  · rw [hki, A_same A q hi, A_other A q hi hji, hk j hj, if_neg hji]
    by_cases e : j = l
    · rw [if_pos e, e, b1]; omega
    · rw [if_neg e, (B_new (B := B) (k := k j) (l := k l) (i := k i) (by omega) (by omega)).2.2]
      have := h3 j hj e
      omega
theorem US.step {A B : Int} (hB : 0 < B) {q : Nat → Int} {l : Nat} {k : Nat → Nat} {M : Nat} (h : US A B q l k M) {i : Nat} (hi : i < 4) (hil : i ≠ l) {k' : Nat → Nat} (hk : ∀ j, j < 4 → k' j = if j = i then k i else if j = l then 2 * k i - k l else k j + 2 * k i) : US A B (uq q i) i k' (M + 3 * k i - k l) ∧ A * tq q i ≤ B * ((M + 3 * k i - k l : Nat) : Int) := by
  obtain ⟨h1, h2, h3, h4⟩ := h
  have a1 := h1 i hi hil
  have a3 := h3 i hi hil
  have hki : k' i = k i := by rw [hk i hi, if_pos rfl]
  obtain ⟨b1, b2, -⟩ := B_new (B := B) (k := M) (l := k l) (i := k i) (by omega) (by omega)
  have hM : A * tq q i ≤ B * ((M + 3 * k i - k l : Nat) : Int) := by
    have h7 := A_tq A q i l
    rw [b2]; omega
  refine ⟨⟨fun j hj hji => ?_, ?_, fun j hj hji => ?_, by rw [uq_at, if_pos rfl]; exact hM⟩, hM⟩
  · rw [hki, hk j hj, if_neg hji]
    by_cases e : j = l
    · rw [if_pos e]; omega
    · rw [if_neg e]; omega
  · rw [hki, A_same A q hi]; omega
  · rw [hki, A_same A q hi, A_other A q hi hji, hk j hj, if_neg hji]
    by_cases e : j = l
    · rw [if_pos e, e, b1]; omega
    · rw [if_neg e, (B_new (B := B) (k := k j) (l := k l) (i := k i) (by omega) (by omega)).2.2]
      have := h3 j hj e
      omega
/-- one block of the count -/
def cB (T F l a b c d M i : Nat) : Nat := if M + 3 * kf a b c d i - kf a b c d l ≤ T then 1 + cN T F i (cj a b c d l i 0) (cj a b c d l i 1) (cj a b c d l i 2) (cj a b c d l i 3) (M + 3 * kf a b c d i - kf a b c d l) else 0
theorem cN_st (T F l a b c d M : Nat) : cN T (F + 1) l a b c d M = (if 0 = l then 0 else cB T F l a b c d M 0) + ((if 1 = l then 0 else cB T F l a b c d M 1) + ((if 2 = l then 0 else cB T F l a b c d M 2) + (if 3 = l then 0 else cB T F l a b c d M 3))) := rfl
theorem bk_up {A B : Int} (hB : 0 < B) (hA : 0 ≤ A) {T F : Nat} {TT : Int} (hT : A * TT ≤ B * (T : Int)) {q : Nat → Int} {l a b c d M : Nat} (h : DS A B q l (kf a b c d) M) {i : Nat} (hi : i < 4) (hil : i ≠ l) (ih : DS A B (uq q i) i (kf (cj a b c d l i 0) (cj a b c d l i 1) (cj a b c d l i 2) (cj a b c d l i 3)) (M + 3 * kf a b c d i - kf a b c d l) → (PR (uq q i) i TT).length ≤ cN T F i (cj a b c d l i 0) (cj a b c d l i 1) (cj a b c d l i 2) (cj a b c d l i 3) (M + 3 * kf a b c d i - kf a b c d l)) : (bk q l TT i).length ≤ cB T F l a b c d M i := by
  obtain ⟨s1, s2⟩ := h.step hB hi hil (kf_cj a b c d l i)
  unfold bk cB
  by_cases c2 : tq q i ≤ TT
  · have h1 : A * tq q i ≤ A * TT := Int.mul_le_mul_of_nonneg_left c2 hA
    have h2 : M + 3 * kf a b c d i - kf a b c d l ≤ T := by
      have := Int.le_of_mul_le_mul_left (show B * ((M + 3 * kf a b c d i - kf a b c d l : Nat) : Int) ≤ B * (T : Int) by omega) hB
      omega
    rw [if_pos ⟨hil, c2⟩, if_pos h2, List.length_cons]
    have := ih s1
    omega
  · rw [if_neg (fun h => c2 h.2)]; exact Nat.zero_le _
theorem ds_le {A B : Int} (hB : 0 < B) (hA : 0 ≤ A) {T : Nat} {TT : Int} (hT : A * TT ≤ B * (T : Int)) : ∀ (F : Nat) {q : Nat → Int} {l a b c d M : Nat}, NI q l → DS A B q l (kf a b c d) M → (∀ j, j < 4 → j ≠ l → 1 ≤ kf a b c d j) → T ≤ M + F → (PR q l TT).length ≤ cN T F l a b c d M := by
  intro F
  induction F with
  | zero =>
    intro q l a b c d M hn h hk hF
    rw [PR_fr hn]
    have hz : ∀ i, i < 4 → bk q l TT i = [] := fun i hi => by
      unfold bk
      rw [if_neg]
      intro cc
      obtain ⟨s1, s2⟩ := h.step hB hi cc.1 (kf_cj a b c d l i)
      have h1 : A * tq q i ≤ A * TT := Int.mul_le_mul_of_nonneg_left cc.2 hA
      have h2 := Int.le_of_mul_le_mul_left (show B * ((M + 3 * kf a b c d i - kf a b c d l : Nat) : Int) ≤ B * (T : Int) by omega) hB
      have h3 := hk i hi cc.1
      have h4 := h.1 i hi cc.1
      omega
    show (bk q l TT 0 ++ (bk q l TT 1 ++ (bk q l TT 2 ++ bk q l TT 3))).length ≤ _
    rw [hz 0 (by omega), hz 1 (by omega), hz 2 (by omega), hz 3 (by omega)]
    exact Nat.zero_le _
  | succ F ih =>
    intro q l a b c d M hn h hk hF
    have hb : ∀ i, i < 4 → (bk q l TT i).length ≤ (if i = l then 0 else cB T F l a b c d M i) := fun i hi => by
      by_cases e : i = l
      · have e2 : bk q l TT i = [] := by unfold bk; rw [if_neg (fun h => h.1 e)]
        rw [if_pos e, e2]; exact Nat.le_refl _
      · rw [if_neg e]
        refine bk_up hB hA hT h hi e (fun s1 => ih (hn.step hi e) s1 (fun j hj hji => ?_) ?_)
        · rw [kf_cj a b c d l i j hj, if_neg hji]
          have h3 := hk i hi e
          have h4 := h.1 i hi e
          by_cases e2 : j = l
          · rw [if_pos e2]; omega
          · rw [if_neg e2]; omega
        · have h3 := hk i hi e
          have h4 := h.1 i hi e
          omega
    have b0 := hb 0 (by omega); have b1 := hb 1 (by omega); have b2 := hb 2 (by omega); have b3 := hb 3 (by omega)
    rw [PR_fr hn, cN_st]
    show (bk q l TT 0 ++ (bk q l TT 1 ++ (bk q l TT 2 ++ bk q l TT 3))).length ≤ _
    rw [List.length_append, List.length_append, List.length_append]
    exact Nat.add_le_add b0 (Nat.add_le_add b1 (Nat.add_le_add b2 b3))
theorem bk_dn {A B : Int} (hB : 0 < B) (hA : 0 < A) {T F : Nat} {TT : Int} (hT : B * (T : Int) ≤ A * TT) {q : Nat → Int} {l a b c d M : Nat} (h : US A B q l (kf a b c d) M) {i : Nat} (hi : i < 4) (hil : i ≠ l) (ih : US A B (uq q i) i (kf (cj a b c d l i 0) (cj a b c d l i 1) (cj a b c d l i 2) (cj a b c d l i 3)) (M + 3 * kf a b c d i - kf a b c d l) → cN T F i (cj a b c d l i 0) (cj a b c d l i 1) (cj a b c d l i 2) (cj a b c d l i 3) (M + 3 * kf a b c d i - kf a b c d l) ≤ (PR (uq q i) i TT).length) : cB T F l a b c d M i ≤ (bk q l TT i).length := by
  obtain ⟨s1, s2⟩ := h.step hB hi hil (kf_cj a b c d l i)
  unfold bk cB
  by_cases c2 : M + 3 * kf a b c d i - kf a b c d l ≤ T
  · have h1 := B_le hB c2
    have h2 : tq q i ≤ TT := Int.le_of_mul_le_mul_left (show A * tq q i ≤ A * TT by omega) hA
    rw [if_pos c2, if_pos (show i ≠ l ∧ tq q i ≤ TT from ⟨hil, h2⟩), List.length_cons]
    have := ih s1
    omega
  · rw [if_neg c2]; exact Nat.zero_le _
theorem us_le {A B : Int} (hB : 0 < B) (hA : 0 < A) {T : Nat} {TT : Int} (hT : B * (T : Int) ≤ A * TT) : ∀ (F : Nat) {q : Nat → Int} {l a b c d M : Nat}, NI q l → US A B q l (kf a b c d) M → cN T F l a b c d M ≤ (PR q l TT).length := by
  intro F
  induction F with
  | zero => intro q l a b c d M _ _; exact Nat.zero_le _
  | succ F ih =>
    intro q l a b c d M hn h
    have hb : ∀ i, i < 4 → (if i = l then 0 else cB T F l a b c d M i) ≤ (bk q l TT i).length := fun i hi => by
      by_cases e : i = l
      · rw [if_pos e]; exact Nat.zero_le _
      · rw [if_neg e]
        exact bk_dn hB hA hT h hi e (fun s1 => ih (hn.step hi e) s1)
    have b0 := hb 0 (by omega); have b1 := hb 1 (by omega); have b2 := hb 2 (by omega); have b3 := hb 3 (by omega)
    rw [PR_fr hn, cN_st]
    show _ ≤ (bk q l TT 0 ++ (bk q l TT 1 ++ (bk q l TT 2 ++ bk q l TT 3))).length
    rw [List.length_append, List.length_append, List.length_append]
    exact Nat.add_le_add b0 (Nat.add_le_add b1 (Nat.add_le_add b2 b3))
