/-! x's heap: sink, offer, straighten -/
/-- the heap but for x, which may be too small -/
def HS (s x : Nat) (f : Nat → Int64) : Prop := (∀ i, 0 < i → i < s → (i - 1) / 2 ≠ x → (f i).toInt ≤ (f ((i - 1) / 2)).toInt) ∧ (0 < x → ∀ i, 0 < i → i < s → (i - 1) / 2 = x → (f i).toInt ≤ (f ((x - 1) / 2)).toInt)
theorem HS.stop {s x : Nat} {f : Nat → Int64} (h : HS s x f) (hc : ∀ i, 0 < i → i < s → (i - 1) / 2 = x → (f i).toInt ≤ (f x).toInt) : HP s f := by
  intro i h1 h2
  by_cases e : (i - 1) / 2 = x
  · rw [e]; exact hc i h1 h2 e
  · exact h.1 i h1 h2 e
theorem HS.step {s x c : Nat} {f : Nat → Int64} (h : HS s x f) (hc0 : 0 < c) (hcs : c < s) (hcx : (c - 1) / 2 = x) (hm : ∀ i, 0 < i → i < s → (i - 1) / 2 = x → (f i).toInt ≤ (f c).toInt) (hlt : (f x).toInt < (f c).toInt) : HS s c (vp_updL (vp_updL f x (f c)) c (f x)) := by
  have hxc : x < c := by omega
  refine ⟨fun i h1 h2 h3 => ?_, fun _ i h1 h2 h3 => ?_⟩
  · simp only [updL_at]
    rw [if_neg h3]
    by_cases e1 : i = c
    · rw [if_pos e1, e1, hcx, if_pos rfl]; omega
    · rw [if_neg e1]
      by_cases e2 : i = x
      · rw [if_pos e2, if_neg (by omega), e2]
        exact h.2 (by omega) c hc0 hcs hcx
      · rw [if_neg e2]
        by_cases e3 : (i - 1) / 2 = x
        · rw [if_pos e3]; exact hm i h1 h2 e3
        · rw [if_neg e3]; exact h.1 i h1 h2 e3
  · have := h.1 i h1 h2 (by omega)
    simp only [updL_at]
    rw [if_neg (show ¬ i = c by omega), if_neg (show ¬ i = x by omega), hcx, if_neg (show ¬ x = c by omega), if_pos rfl]
    rw [h3] at this; exact this
theorem si_eq {s : Nat} (hs : s ≤ 2001) (k : Nat) : ∀ (d x : Nat) (f : Nat → Int64), s ≤ x + d → x < 2001 → HS s x f → ∃ z, pX1_sink_L4 (nI s) (k + d + 1) (nI x) (nI (2 * x + 1)) f (fun (y2_16 : Int32) (y3_16 : Int32) (u16_row : (Nat → Int64)) => some u16_row) = some z ∧ HP s z ∧ (∀ v, cn z v s = cn f v s) ∧ ∀ i, s ≤ i → z i = f i := by
  intro d
  induction d with
  | zero =>
    intro x f hx hx2 h
    rw [pX1_sink_L4, if_pos (by rw [nI_leI (by omega) (by omega)]; omega)]
    exact ⟨f, rfl, h.stop (fun i h1 h2 h3 => by omega), fun _ => rfl, fun _ _ => rfl⟩
  | succ d ih =>
    intro x f hx hx2 h
    rw [show k + (d + 1) + 1 = k + d + 1 + 1 by omega, pX1_sink_L4]
    have go : ∀ c, 0 < c → c < s → (c - 1) / 2 = x → (∀ i, 0 < i → i < s → (i - 1) / 2 = x → (f i).toInt ≤ (f c).toInt) → ∃ z, (ck (ix (nI x) 2001) (if (f x) < (f c) then Option.bind (pX1_swap f (nI x) (nI c)) (fun r6 => pX1_sink_L4 (nI s) (k + d + 1) (nI c) (((2 : Int32) * (nI c)) + (1 : Int32)) r6 (fun (y2_16 : Int32) (y3_16 : Int32) (u16_row : (Nat → Int64)) => some u16_row)) else some f)) = some z ∧ HP s z ∧ (∀ v, cn z v s = cn f v s) ∧ ∀ i, s ≤ i → z i = f i := by
      intro c hc0 hcs hcx hm
      rw [ck_t (ix_nI (show x < 2001 by omega) (by omega))]
      by_cases q : f x < f c
      · rw [if_pos q, sw_eq (by omega) (by omega), Option.bind_some, show (2 : Int32) * nI c + 1 = nI (2 * c + 1) by
          rw [show (2 : Int32) = nI 2 from rfl, pk_mul, show (1 : Int32) = nI 1 from rfl, nI_add]]
        rw [i64_lt] at q
        obtain ⟨z, z1, z2, z3, z4⟩ := ih c _ (by omega) (by omega) (h.step hc0 hcs hcx hm q)
        exact ⟨z, z1, z2, fun v => (z3 v).trans (cn_swap (by omega) hcs (by omega)), fun i hi => (z4 i hi).trans (by rw [updL_at, if_neg (by omega), updL_at, if_neg (by omega)])⟩
      · rw [if_neg q]
        rw [i64_lt] at q
        exact ⟨f, rfl, h.stop (fun i h1 h2 h3 => by have := hm i h1 h2 h3; omega), fun _ => rfl, fun _ _ => rfl⟩
    by_cases c1 : s ≤ 2 * x + 1
    · rw [if_pos (by rw [nI_leI (by omega) (by omega)]; exact c1)]
      exact ⟨f, rfl, h.stop (fun i h1 h2 h3 => by omega), fun _ => rfl, fun _ _ => rfl⟩
    · rw [if_neg (by rw [nI_leI (by omega) (by omega)]; exact c1), show nI (2 * x + 1) + 1 = nI (2 * x + 1 + 1) from nI_add _ 1]
      by_cases c2 : s ≤ 2 * x + 1 + 1
      · rw [if_pos (by rw [nI_leI (by omega) (by omega)]; exact c2), ck_t (ix_nI (show 2 * x + 1 < 2001 by omega) (by omega)), nI_clamp (show x < 2 ^ 31 by omega), nI_clamp (show 2 * x + 1 < 2 ^ 31 by omega)]
        exact go (2 * x + 1) (by omega) (by omega) (by omega) (fun i h1 h2 h3 => by rw [show i = 2 * x + 1 by omega]; exact Int.le_refl _)
      · rw [if_neg (by rw [nI_leI (by omega) (by omega)]; exact c2), ck_t (ix_nI (show 2 * x + 1 + 1 < 2001 by omega) (by omega)), ck_t (ix_nI (show 2 * x + 1 < 2001 by omega) (by omega)), nI_clamp (show x < 2 ^ 31 by omega), nI_clamp (show 2 * x + 1 < 2 ^ 31 by omega), nI_clamp (show 2 * x + 1 + 1 < 2 ^ 31 by omega)]
        by_cases c3 : f (2 * x + 1 + 1) ≤ f (2 * x + 1)
        · rw [if_pos c3]
          rw [i64_le] at c3
          exact go (2 * x + 1) (by omega) (by omega) (by omega) (fun i h1 h2 h3 => by
            rcases (show i = 2 * x + 1 ∨ i = 2 * x + 1 + 1 by omega) with e | e
            · rw [e]; exact Int.le_refl _
            · rw [e]; exact c3)
        · rw [if_neg c3]
          rw [i64_le] at c3
          exact go (2 * x + 1 + 1) (by omega) (by omega) (by omega) (fun i h1 h2 h3 => by
            rcases (show i = 2 * x + 1 ∨ i = 2 * x + 1 + 1 by omega) with e | e
            · rw [e]; omega
            · rw [e]; exact Int.le_refl _)
theorem sk_eq {n s : Nat} (hn : 3000 ≤ n) (hs : s ≤ 2001) {f : Nat → Int64} (h : HS s 0 f) : ∃ z, pX1_sink n f (nI s) = some z ∧ HP s z ∧ (∀ v, cn z v s = cn f v s) ∧ ∀ i, s ≤ i → z i = f i := by
  obtain ⟨k, rfl⟩ : ∃ k, n = k + s + 1 := ⟨n - s - 1, by omega⟩
  exact si_eq hs k s 0 f (by omega) (by omega) h
theorem rs_eq {n s : Nat} (hn : 3000 ≤ n) (hs : s ≤ 2001) {f : Nat → Int64} {x : Nat} (hx : x < s) (h : HR s x f) : ∃ z, pX1_rise n f (nI x) = some z ∧ HP s z ∧ (∀ v, cn z v s = cn f v s) := by
  obtain ⟨k, rfl⟩ : ∃ k, n = k + x + 1 := ⟨n - x - 1, by omega⟩
  obtain ⟨y, z, h1, h2, h3⟩ := ri_eq hs k (fun (y2_6 : Int32) (u6_row : (Nat → Int64)) => some u6_row) x x f (Nat.le_refl _) hx h
  exact ⟨z, h1, h2, h3⟩
/-- one offer: of the least w alone one more is kept -/
theorem of_eq {n s w : Nat} (hn : 3000 ≤ n) (hw : w ≤ 2001) (hw1 : 1 ≤ w) (hs : s ≤ w) {f : Nat → Int64} (h : HP s f) (x : Int64) : ∃ s' z, pX1_offer n (nI s) (nI w) f x = some (nI s', z) ∧ HP s' z ∧ s' = min w (s + 1) ∧ ∀ v, cn z v s' = min w (cn f v s + (if x.toInt ≤ v then 1 else 0)) := by
  rw [pX1_offer]
  by_cases c1 : w ≤ s
  · obtain rfl : w = s := by omega
    have e0 : (0 : Int32).toNatClampNeg = 0 := rfl
    rw [if_pos (by rw [nI_leI (by omega) (by omega)]; exact c1), e0]
    by_cases c2 : f 0 ≤ x
    · rw [if_pos c2]
      rw [i64_le] at c2
      refine ⟨w, f, rfl, h, by omega, fun v => ?_⟩
      have hle := cn_le f v w
      by_cases c3 : x.toInt ≤ v
      · rw [if_pos c3, cn_all (fun i hi => by have := h.top i hi; omega)]; omega
      · rw [if_neg c3]; omega
    · rw [if_neg c2]
      rw [i64_le] at c2
      obtain ⟨z, z1, z2, z3, z4⟩ := sk_eq (n := n) (f := vp_updL f 0 x) hn hw (s := w) ⟨fun i h1 h2 h3 => by
        rw [updL_at, if_neg (by omega), updL_at, if_neg h3]; exact h i h1 h2, fun q => absurd q (by omega)⟩
      rw [z1, Option.bind_some]
      refine ⟨w, z, rfl, z2, by omega, fun v => ?_⟩
      rw [z3 v]
      have hu := cn_up (f := f) (v := v) (x := x) (s := w) (i := 0) (by omega)
      have hle := cn_le f v w
      have hle2 := cn_le (vp_updL f 0 x) v w
      by_cases c4 : (f 0).toInt ≤ v
      · rw [if_pos c4, if_pos (by omega)] at hu
        rw [if_pos (by omega)]
        have ha : cn f v w = w := cn_all (fun i hi => by have := h.top i hi; omega)
        omega
      · rw [if_neg c4] at hu
        omega
  · rw [if_neg (by rw [nI_leI (by omega) (by omega)]; exact c1), ck_t (ix_nI (show s < 2001 by omega) (by omega)), nI_clamp (show s < 2 ^ 31 by omega), show nI s + 1 = nI (s + 1) from nI_add s 1, show nI (s + 1) - 1 = nI s from pk_sub (a := s + 1) (b := 1) (by omega)]
    obtain ⟨z, z1, z2, z3⟩ := rs_eq (n := n) (f := vp_updL f s x) hn (show s + 1 ≤ 2001 by omega) (x := s) (by omega) ⟨fun i h1 h2 h3 => by
      rw [updL_at, if_neg h3, updL_at, if_neg (by omega)]; exact h i h1 (by omega), fun q i h1 h2 h3 => by omega⟩
    rw [z1, Option.bind_some]
    refine ⟨s + 1, z, rfl, z2, by omega, fun v => ?_⟩
    have hs1 : vp_updL f s x s = x := by rw [updL_at, if_pos rfl]
    have hle := cn_le f v s
    rw [z3 v, cn, hs1, cn_congr (g := f) (fun i hi => by rw [updL_at, if_neg (by omega)])]
    by_cases c4 : x.toInt ≤ v
    · rw [if_pos c4]; omega
    · rw [if_neg c4]; omega
