/-! x's heap: how many of the first s are v at most -/
def cn (f : Nat → Int64) (v : Int) : Nat → Nat
  | 0 => 0
  | s + 1 => cn f v s + (if (f s).toInt ≤ v then 1 else 0)
theorem cn_le (f : Nat → Int64) (v : Int) : ∀ s, cn f v s ≤ s := by
  intro s
  induction s with
  | zero => exact Nat.le_refl _
  | succ s ih =>
    rw [cn]
    by_cases c : (f s).toInt ≤ v
    · rw [if_pos c]; omega
    · rw [if_neg c]; omega
theorem cn_congr {f g : Nat → Int64} {v : Int} : ∀ {s : Nat}, (∀ i, i < s → f i = g i) → cn f v s = cn g v s := by
  intro s
  induction s with
  | zero => intro _; rfl
  | succ s ih => intro h; rw [cn, cn, ih (fun i hi => h i (by omega)), h s (by omega)]
theorem cn_up {f : Nat → Int64} {v : Int} {x : Int64} : ∀ {s i : Nat}, i < s → cn (vp_updL f i x) v s + (if (f i).toInt ≤ v then 1 else 0) = cn f v s + (if x.toInt ≤ v then 1 else 0) := by
  intro s
  induction s with
  | zero => intro i h; exact absurd h (by omega)
  | succ s ih =>
    intro i h
    rw [cn, cn]
    by_cases e : i = s
    · subst e
      have hs : vp_updL f i x i = x := by rw [updL_at, if_pos rfl]
      rw [hs, cn_congr (g := f) (fun j hj => by rw [updL_at, if_neg (by omega)])]
      omega
    · have hs : vp_updL f i x s = f s := by rw [updL_at, if_neg (fun h => e h.symm)]
      rw [hs]
      have := ih (i := i) (by omega)
      omega
theorem cn_swap {f : Nat → Int64} {v : Int} {s i j : Nat} (hi : i < s) (hj : j < s) (hij : i ≠ j) : cn (vp_updL (vp_updL f i (f j)) j (f i)) v s = cn f v s := by
  have h1 := cn_up (f := f) (v := v) (x := f j) hi
  have h2 := cn_up (f := vp_updL f i (f j)) (v := v) (x := f i) hj
  have hs : vp_updL f i (f j) j = f j := by rw [updL_at, if_neg (fun h => hij h.symm)]
  rw [hs] at h2
  omega
theorem cn_all {f : Nat → Int64} {v : Int} : ∀ {s : Nat}, (∀ i, i < s → (f i).toInt ≤ v) → cn f v s = s := by
  intro s
  induction s with
  | zero => intro _; rfl
  | succ s ih => intro h; rw [cn, ih (fun i hi => h i (by omega)), if_pos (h s (by omega))]
theorem cn_part {f : Nat → Int64} {v : Int} {j : Nat} : ∀ {s : Nat}, (∀ i, j ≤ i → i < s → v < (f i).toInt) → cn f v s ≤ j := by
  intro s
  induction s with
  | zero => intro _; exact Nat.zero_le _
  | succ s ih =>
    intro h
    rw [cn]
    by_cases c : j ≤ s
    · have := h s c (by omega)
      rw [if_neg (by omega)]
      exact ih (fun i h1 h2 => h i h1 (by omega))
    · have := cn_le f v s
      by_cases c2 : (f s).toInt ≤ v
      · rw [if_pos c2]; omega
      · rw [if_neg c2]; omega
theorem cn_first {f : Nat → Int64} {v : Int} {j : Nat} : ∀ {s : Nat}, j ≤ s → (∀ i, i < j → (f i).toInt ≤ v) → j ≤ cn f v s := by
  intro s
  induction s with
  | zero => intro h _; omega
  | succ s ih =>
    intro h h2
    rw [cn]
    by_cases c : j ≤ s
    · have := ih c h2
      omega
    · have e : j = s + 1 := by omega
      subst e
      rw [cn_all (fun i hi => h2 i (by omega)), if_pos (h2 s (by omega))]
      exact Nat.le_refl _
/-- the parent is never less -/
def HP (s : Nat) (f : Nat → Int64) : Prop := ∀ i, 0 < i → i < s → (f i).toInt ≤ (f ((i - 1) / 2)).toInt
theorem HP.top {s : Nat} {f : Nat → Int64} (h : HP s f) : ∀ i, i < s → (f i).toInt ≤ (f 0).toInt := by
  intro i
  induction i using Nat.strongRecOn with
  | _ i ih =>
    intro hi
    by_cases e : i = 0
    · subst e; exact Int.le_refl _
    · have a := h i (by omega) hi
      have b := ih ((i - 1) / 2) (by omega) (by omega)
      omega
theorem sw_eq {f : Nat → Int64} {i j : Nat} (hi : i < 2001) (hj : j < 2001) : pX1_swap f (nI i) (nI j) = some (vp_updL (vp_updL f i (f j)) j (f i)) := by
  rw [pX1_swap, ck_t (ix_nI hi (by omega)), ck_t (ix_nI hj (by omega)), nI_clamp (by omega), nI_clamp (by omega)]
/-- the heap but for x, which may be too great -/
def HR (s x : Nat) (f : Nat → Int64) : Prop := (∀ i, 0 < i → i < s → i ≠ x → (f i).toInt ≤ (f ((i - 1) / 2)).toInt) ∧ (0 < x → ∀ i, 0 < i → i < s → (i - 1) / 2 = x → (f i).toInt ≤ (f ((x - 1) / 2)).toInt)
theorem ri_eq {s : Nat} (hs : s ≤ 2001) (k : Nat) (kk : Int32 → (Nat → Int64) → Option (Nat → Int64)) : ∀ (d x : Nat) (f : Nat → Int64), x ≤ d → x < s → HR s x f → ∃ y z, pX1_rise_L2 (k + d + 1) (nI x) f kk = kk y z ∧ HP s z ∧ ∀ v, cn z v s = cn f v s := by
  intro d
  induction d with
  | zero =>
    intro x f hx hxs h
    obtain rfl : x = 0 := by omega
    refine ⟨nI 0, f, ?_, fun i h1 h2 => h.1 i h1 h2 (by omega), fun _ => rfl⟩
    rw [pX1_rise_L2, if_pos (by decide)]
  | succ d ih =>
    intro x f hx hxs h
    rw [show k + (d + 1) + 1 = k + d + 1 + 1 by omega, pX1_rise_L2]
    by_cases e : x = 0
    · subst e
      refine ⟨nI 0, f, ?_, fun i h1 h2 => h.1 i h1 h2 (by omega), fun _ => rfl⟩
      rw [if_pos (by decide)]
    · have hpar : (nI x - 1) / 2 = nI ((x - 1) / 2) := by
        rw [show nI x - 1 = nI (x - 1) from pk_sub (a := x) (b := 1) (by omega), show (2 : Int32) = nI 2 from rfl, pk_div (by omega) (by decide) (by decide)]
      rw [if_neg (by rw [show (0 : Int32) = nI 0 from rfl, nI_leI (by omega) (by omega)]; omega), ck_t (ix_nI (show x < 2001 by omega) (by omega)), hpar, ck_t (ix_nI (show (x - 1) / 2 < 2001 by omega) (by omega)), nI_clamp (show x < 2 ^ 31 by omega), nI_clamp (show (x - 1) / 2 < 2 ^ 31 by omega)]
      by_cases c : f x ≤ f ((x - 1) / 2)
      · rw [if_pos c]
        rw [i64_le] at c
        refine ⟨nI x, f, rfl, fun i h1 h2 => ?_, fun _ => rfl⟩
        by_cases e2 : i = x
        · rw [e2]; exact c
        · exact h.1 i h1 h2 e2
      · rw [if_neg c, sw_eq (by omega) (by omega), Option.bind_some]
        rw [i64_le] at c
        have hx0 : (x - 1) / 2 < x := by omega
        obtain ⟨y, z, i1, i2, i3⟩ := ih ((x - 1) / 2) (vp_updL (vp_updL f x (f ((x - 1) / 2))) ((x - 1) / 2) (f x)) (by omega) (by omega) (by
          refine ⟨fun i h1 h2 h3' => ?_, fun hp0 i h1 h2 h3' => ?_⟩
          · simp only [updL_at]
            rw [if_neg h3']
            by_cases e2 : i = x
            · subst e2
              rw [if_pos rfl, if_pos rfl]; omega
            · rw [if_neg e2]
              by_cases e3 : (i - 1) / 2 = (x - 1) / 2
              · rw [if_pos e3]
                have := h.1 i h1 h2 e2
                rw [e3] at this; omega
              · rw [if_neg e3]
                by_cases e4 : (i - 1) / 2 = x
                · rw [if_pos e4]; exact h.2 (by omega) i h1 h2 e4
                · rw [if_neg e4]; exact h.1 i h1 h2 e2
          · have hpp := h.1 ((x - 1) / 2) hp0 (by omega) (by omega)
            simp only [updL_at]
            rw [if_neg (show ¬ i = (x - 1) / 2 by omega), if_neg (show ¬ ((x - 1) / 2 - 1) / 2 = (x - 1) / 2 by omega), if_neg (show ¬ ((x - 1) / 2 - 1) / 2 = x by omega)]
            by_cases e2 : i = x
            · rw [if_pos e2]; exact hpp
            · rw [if_neg e2]
              have := h.1 i h1 h2 e2
              rw [h3'] at this; omega)
        exact ⟨y, z, i1, i2, fun v => (i3 v).trans (cn_swap hxs (by omega) (by omega))⟩
