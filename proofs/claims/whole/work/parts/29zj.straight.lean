/-! x's heap: straighten -/
theorem cn_ext {f g : Nat → Int64} {v : Int} {m : Nat} (h : cn f v m = cn g v m) (h2 : ∀ i, m ≤ i → f i = g i) : ∀ d, cn f v (m + d) = cn g v (m + d) := by
  intro d
  induction d with
  | zero => exact h
  | succ d ih => rw [← Nat.add_assoc, cn, cn, ih, h2 (m + d) (by omega)]
theorem cn_inv {f : Nat → Int64} {v : Int} : ∀ {s : Nat}, cn f v s = s → ∀ i, i < s → (f i).toInt ≤ v := by
  intro s
  induction s with
  | zero => intro _ i hi; omega
  | succ s ih =>
    intro h i hi
    rw [cn] at h
    have hle := cn_le f v s
    by_cases c : (f s).toInt ≤ v
    · rw [if_pos c] at h
      by_cases e : i = s
      · rw [e]; exact c
      · exact ih (by omega) i (by omega)
    · rw [if_neg c] at h; omega
theorem stl_eq {s k : Nat} (hs : s ≤ 2001) (hk : 3000 ≤ k) : ∀ (m : Nat) (f : Nat → Int64), m < s → HP (m + 1) f → (∀ i j, i ≤ j → m + 1 ≤ j → j < s → (f i).toInt ≤ (f j).toInt) → ∃ z, pX1_straighten_L7 (k + m + 1) (nI m) f (fun (y1_4 : Int32) (u4_row : (Nat → Int64)) => some u4_row) = some z ∧ (∀ i j, i ≤ j → j < s → (z i).toInt ≤ (z j).toInt) ∧ ∀ v, cn z v s = cn f v s := by
  intro m
  induction m with
  | zero =>
    intro f hm hp hso
    rw [pX1_straighten_L7, if_pos (by decide)]
    refine ⟨f, rfl, fun i j hij hj => ?_, fun _ => rfl⟩
    by_cases e : j = 0
    · rw [show i = j by omega]; exact Int.le_refl _
    · exact hso i j hij (by omega) hj
  | succ m ih =>
    intro f hm hp hso
    rw [show k + (m + 1) + 1 = k + m + 1 + 1 by omega, pX1_straighten_L7, if_neg (by rw [show (0 : Int32) = nI 0 from rfl, nI_leI (by omega) (by omega)]; omega), show (0 : Int32) = nI 0 from rfl, sw_eq (by omega) (by omega), Option.bind_some]
    have hf : ∀ i, vp_updL (vp_updL f 0 (f (m + 1))) (m + 1) (f 0) i = if i = m + 1 then f 0 else if i = 0 then f (m + 1) else f i := fun i => by rw [updL_at, updL_at]
    obtain ⟨z, z1, z2, z3, z4⟩ := sk_eq (n := k + m + 1) (s := m + 1) (f := vp_updL (vp_updL f 0 (f (m + 1))) (m + 1) (f 0)) (by omega) (by omega) ⟨fun i h1 h2 h3 => by
      rw [hf, hf, if_neg (by omega), if_neg (by omega), if_neg (by omega), if_neg h3]
      exact hp i h1 (by omega), fun q => absurd q (by omega)⟩
    rw [z1, Option.bind_some, pk_m1]
    have htop : ∀ i, i < m + 1 → (z i).toInt ≤ (f 0).toInt := by
      refine cn_inv ?_
      rw [z3]
      refine cn_all (fun i hi => ?_)
      rw [hf, if_neg (by omega)]
      by_cases e : i = 0
      · rw [if_pos e]; exact hp.top (m + 1) (by omega)
      · rw [if_neg e]; exact hp.top i (by omega)
    have hzm : z (m + 1) = f 0 := by rw [z4 (m + 1) (Nat.le_refl _), hf, if_pos rfl]
    have hzr : ∀ i, m + 2 ≤ i → z i = f i := fun i hi => by rw [z4 i (by omega), hf, if_neg (by omega), if_neg (by omega)]
    obtain ⟨y, y1, y2, y3⟩ := ih z (by omega) z2 (fun i j hij hj hjs => by
      have hi0 : i ≤ m + 1 → (z i).toInt ≤ (f 0).toInt := fun h => by
        by_cases e : i = m + 1
        · rw [e, hzm]; exact Int.le_refl _
        · exact htop i (by omega)
      by_cases e : j = m + 1
      · rw [e, hzm]; exact hi0 (by omega)
      · rw [hzr j (by omega)]
        by_cases e2 : i ≤ m + 1
        · have := hso 0 j (by omega) (by omega) hjs
          have := hi0 e2
          omega
        · rw [hzr i (by omega)]; exact hso i j hij (by omega) hjs)
    refine ⟨y, y1, y2, fun v => ?_⟩
    obtain ⟨d, hd⟩ : ∃ d, s = m + 1 + d := ⟨s - (m + 1), by omega⟩
    rw [y3 v, hd, cn_ext (z3 v) (fun i hi => z4 i hi) d, ← hd]
    exact cn_swap (by omega) hm (by omega)
theorem sr_eq {s n : Nat} (hs : s ≤ 2001) (hs1 : 1 ≤ s) (hn : 6000 ≤ n) {f : Nat → Int64} (h : HP s f) : ∃ z, pX1_straighten n (nI s) f = some z ∧ (∀ i j, i ≤ j → j < s → (z i).toInt ≤ (z j).toInt) ∧ ∀ v, cn z v s = cn f v s := by
  rw [pX1_straighten, show nI s - 1 = nI (s - 1) from pk_sub (a := s) (b := 1) (by omega)]
  obtain ⟨k, rfl⟩ : ∃ k, n = k + (s - 1) + 1 := ⟨n - s, by omega⟩
  exact stl_eq hs (by omega) (s - 1) f (by omega) (by rw [show s - 1 + 1 = s by omega]; exact h) (fun i j _ h1 h2 => by omega)
