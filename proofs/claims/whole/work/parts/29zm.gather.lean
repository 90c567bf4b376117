/-! x's gather -/
def lc (v : Int) (xs : List Int) : Nat := xs.countP (fun x => decide (x ≤ v))
theorem lc_app (v : Int) (xs ys : List Int) : lc v (xs ++ ys) = lc v xs + lc v ys := by unfold lc; rw [List.countP_append]
theorem lc_cons (v x : Int) (xs : List Int) : lc v (x :: xs) = lc v xs + (if x ≤ v then 1 else 0) := by
  unfold lc
  rw [List.countP_cons]
  by_cases c : x ≤ v
  · rw [if_pos c, if_pos (by simp [c])]
  · rw [if_neg c, if_neg (by simp [c])]
theorem lc_zero {v : Int} {xs : List Int} (h : ∀ x, x ∈ xs → v < x) : lc v xs = 0 := by
  unfold lc
  rw [List.countP_eq_zero]
  intro x hx
  have := h x hx
  simp; omega
theorem cn_mono {f : Nat → Int64} {a b : Int} (h : a ≤ b) : ∀ s, cn f a s ≤ cn f b s := by
  intro s
  induction s with
  | zero => exact Nat.le_refl _
  | succ s ih =>
    rw [cn, cn]
    by_cases c : (f s).toInt ≤ a
    · rw [if_pos c, if_pos (by omega)]; omega
    · rw [if_neg c]; omega
theorem cn_none {f : Nat → Int64} {v : Int} : ∀ {s : Nat}, cn f v s = 0 → ∀ i, i < s → v < (f i).toInt := by
  intro s
  induction s with
  | zero => intro _ i hi; omega
  | succ s ih =>
    intro h i hi
    rw [cn] at h
    by_cases c : (f s).toInt ≤ v
    · rw [if_pos c] at h; omega
    · by_cases e : i = s
      · rw [e]; omega
      · exact ih (by omega) i (by omega)
theorem fd2_eq {r : Nat → Int} {ps : List Nat} (hne : ps ≠ []) (hp : ∀ i ps', ps = i :: ps' → i < 4) (hl : ps.length ≤ 2001) {depth : Int32} {row : Nat → Int32} {four : Nat → Int64} (hW : WX r ps depth row four) : ∃ v, pX7_found depth row four = some v ∧ v.toInt = nq r ps (lst ps) := by
  obtain ⟨w1, w2, w3⟩ := hW
  cases ps with
  | nil => exact absurd rfl hne
  | cons i ps =>
    have hi := hp i ps rfl
    rw [List.length_cons] at hl w1
    refine ⟨four i, ?_, w3 i hi⟩
    rw [pX7_found, w1, if_neg (by rw [show (0 : Int32) = nI 0 from rfl, nI_leI (by omega) (by omega)]; omega), show nI (ps.length + 1) - 1 = nI ps.length from pk_sub (a := ps.length + 1) (b := 1) (by omega), ck_t (ix_nI (show ps.length < 2001 by omega) (by omega)), nI_clamp (show ps.length < 2 ^ 31 by omega), w2.1, ck_t (ix_nI hi (by omega)), nI_clamp (by omega)]
/-- the limit that x's walk takes -/
theorem ul_eq {w s : Nat} (hw1 : 1 ≤ w) (hw : w ≤ 2001) (hs : s ≤ w) {f : Nat → Int64} (hp : HP s f) {L : Int} {lim : Int64} (hlim : lim.toInt = L) (hf : cn f L s = s) (hf2 : cn f (-10000000000000001) s = 0) : ∃ u T, pX1_usefulLimit (nI s) (nI w) f lim = some u ∧ u.toInt = T ∧ T ≤ L ∧ (∀ v, v ≤ L → T < v → cn f v s = w) ∧ ∀ v, w ≤ cn f v s → T < v := by
  rw [pX1_usefulLimit]
  by_cases c : w ≤ s
  · obtain rfl : w = s := by omega
    have h0 := cn_inv hf 0 (by omega)
    have h1 := cn_none hf2 0 (by omega)
    have b := Int64.toInt_lt lim
    have e0 : (0 : Int32).toNatClampNeg = 0 := rfl
    have es : (f 0 - 1).toInt = (f 0).toInt - 1 := by
      rw [Int64.toInt_sub, show (1 : Int64).toInt = 1 from rfl, Int.bmod_eq_of_le (by omega) (by omega)]
    rw [if_pos (by rw [nI_leI (by omega) (by omega)]; exact c), e0, if_pos (by rw [i64_lt, es]; omega)]
    refine ⟨_, _, rfl, es, by omega, fun v _ h => cn_all (fun i hi => ?_), fun v h => ?_⟩
    · have := hp.top i hi; omega
    · have hle := cn_le f v w
      have := cn_inv (show cn f v w = w by omega) 0 (by omega)
      omega
  · rw [if_neg (by rw [nI_leI (by omega) (by omega)]; exact c)]
    refine ⟨_, _, rfl, hlim, Int.le_refl _, fun v h1 h2 => by omega, fun v h => ?_⟩
    have hle := cn_le f v s
    omega
theorem ga_eq {r : Nat → Int} (hr : RO r) (h3 : 1 ≤ r 3) (hB : ∀ j, j < 4 → -10000000000000000 ≤ r j ∧ r j ≤ 10000000000000000) {L : Int} (hL : L ≤ 10000000000000000) {lim : Int64} (hlim : lim.toInt = L) {w : Nat} (hw1 : 1 ≤ w) (hw : w ≤ 2001) (kk : Int32 → Int32 → (Nat → Int64) → Int32 → (Nat → Int32) → (Nat → Int64) → Option (Int32 × (Nat → Int64) × Int32 × (Nat → Int32) × (Nat → Int64))) : ∀ (d t n s : Nat) (f : Nat → Int64) (ps : List Nat) (depth : Int32) (row : Nat → Int32) (four : Nat → Int64), (rem r L ps 0).length ≤ d → t + d < 1000000 → 30000 + d ≤ n → VP r L ps → ps.length ≤ 2001 → WX r ps depth row four → HP s f → s ≤ w → (∀ v, v ≤ L → min w (cn f v s + lc v (rem r L ps 0)) = min w (NC r v)) → cn f L s = s → cn f (-10000000000000001) s = 0 → (∀ u qs, ps = u ++ qs → qs ≠ [] → min w qs.length ≤ cn f (nq r qs (lst qs)) s) →
    ∃ t' s' f' dep' row' four', pX1_gather_L37 lim (nI w) n (nI t) (nI s) f depth row four kk = kk t' (nI s') f' dep' row' four' ∧ HP s' f' ∧ s' ≤ w ∧ (∀ v, v ≤ L → cn f' v s' = min w (NC r v)) ∧ cn f' L s' = s' := by
  intro d
  induction d with
  | zero =>
    intro t n s f ps depth row four hd ht hn hv hl hW hp hs hi2 hi3 hi5 hi4
    obtain ⟨m, rfl⟩ : ∃ m, n = m + 1 := ⟨n - 1, by omega⟩
    obtain ⟨u, T, u1, u2, u3, u4, u5⟩ := ul_eq hw1 hw hs hp hlim hi3 hi5
    rw [pX1_gather_L37, if_neg (by rw [show (1000000 : Int32) = nI 1000000 from rfl, nI_leI (by omega) (by omega)]; omega), u1, Option.bind_some]
    have hdep : ps.length = 2001 → T < nq r ps (lst ps) := fun e => by
      refine u5 _ ?_
      have := hi4 [] ps rfl (fun e2 => by rw [e2] at e; exact absurd e (by decide))
      omega
    rcases ad2_eq hr h3 u3 hL hB u2 (fun (y3_12 : Int32) (y4_12 : Int32) (u12_depth : Int32) (u12_four : (Nat → Int64)) => some ((0 : Int32), u12_depth, row, u12_four)) row 10009 0 m 0 ps depth four (by omega) (by omega) (by omega) (by omega) hv hl hdep hW with ⟨a1, z, a2⟩ | ⟨A, ps', dep', row', four', a1, a2, a3⟩
    · have hadv : pX7_advance m depth row four u = some (0, 0, row, z) := a2
      rw [hadv, Option.bind_some]
      dsimp only
      rw [if_pos rfl]
      refine ⟨nI t, s, f, 0, row, z, rfl, hp, hs, fun v hvL => ?_, hi3⟩
      have h1 := hi2 v hvL
      have h2 := cn_le f v s
      by_cases c : v ≤ T
      · rw [lc_zero (fun x hx => by have := a1 x hx; omega)] at h1
        omega
      · have := u4 v hvL (by omega)
        omega
    · rw [a1, List.length_append, List.length_cons] at hd
      omega
  | succ d ih =>
    intro t n s f ps depth row four hd ht hn hv hl hW hp hs hi2 hi3 hi5 hi4
    obtain ⟨m, rfl⟩ : ∃ m, n = m + 1 := ⟨n - 1, by omega⟩
    obtain ⟨u, T, u1, u2, u3, u4, u5⟩ := ul_eq hw1 hw hs hp hlim hi3 hi5
    rw [pX1_gather_L37, if_neg (by rw [show (1000000 : Int32) = nI 1000000 from rfl, nI_leI (by omega) (by omega)]; omega), u1, Option.bind_some]
    have hdep : ps.length = 2001 → T < nq r ps (lst ps) := fun e => by
      refine u5 _ ?_
      have := hi4 [] ps rfl (fun e2 => by rw [e2] at e; exact absurd e (by decide))
      omega
    rcases ad2_eq hr h3 u3 hL hB u2 (fun (y3_12 : Int32) (y4_12 : Int32) (u12_depth : Int32) (u12_four : (Nat → Int64)) => some ((0 : Int32), u12_depth, row, u12_four)) row 10009 0 m 0 ps depth four (by omega) (by omega) (by omega) (by omega) hv hl hdep hW with ⟨a1, z, a2⟩ | ⟨A, ps', dep', row', four', a1, a2, a3, ⟨ut, p', qs, a4, a5⟩, a6, a7, a8, a9⟩
    · have hadv : pX7_advance m depth row four u = some (0, 0, row, z) := a2
      rw [hadv, Option.bind_some]
      dsimp only
      rw [if_pos rfl]
      refine ⟨nI t, s, f, 0, row, z, rfl, hp, hs, fun v hvL => ?_, hi3⟩
      have h1 := hi2 v hvL
      have h2 := cn_le f v s
      by_cases c : v ≤ T
      · rw [lc_zero (fun x hx => by have := a1 x hx; omega)] at h1
        omega
      · have := u4 v hvL (by omega)
        omega
    · have hadv : pX7_advance m depth row four u = some (1, dep', row', four') := a8
      have hne : ps' ≠ [] := by rw [a4]; simp
      obtain ⟨x, x1, x2⟩ := fd2_eq hne (fun i qs' e => by rw [e] at a3; exact a3.1) a6 a9
      obtain ⟨s', z, o1, o2, o3, o4⟩ := of_eq (n := m) (by omega) hw hw1 hs hp x
      rw [hadv, Option.bind_some]
      dsimp only
      rw [if_neg (by decide), x1, Option.bind_some, o1, Option.bind_some, show nI t + 1 = nI (t + 1) from nI_add t 1]
      rw [a1, List.length_append, List.length_cons] at hd
      have hx : x.toInt ≤ L := by omega
      have hbd := vp_bd hr h3 hB hL a3
      have hx2 : -10000000000000000 ≤ x.toInt := by
        rw [x2]
        exact (hbd _ (by rw [a4]; rw [a4] at a3; exact a3.1)).1
      refine ih (t + 1) m s' z ps' dep' row' four' (by omega) (by omega) (by omega) a3 a6 a9 o2 (by omega) (fun v hvL => ?_) ?_ ?_ (fun u2' qs2 e1 e2 => ?_)
      · rw [← hi2 v hvL, o4 v, a1, lc_app, lc_cons, ← x2]
        by_cases c : v ≤ T
        · rw [lc_zero (xs := A) (fun y hy => by have := a2 y hy; omega)]
          omega
        · have := u4 v hvL (by omega)
          omega
      · rw [o4, if_pos hx, hi3]; omega
      · rw [o4, if_neg (by omega), hi5]; omega
      · have hold : ∀ v, cn f v s ≤ cn z v s' := fun v => by
          have := cn_le f v s
          rw [o4]; omega
        rw [a4] at e1
        cases u2' with
        | cons y ys =>
          have e3 : qs = ys ++ qs2 := by
            have := List.cons.inj e1; exact this.2
          have := hi4 (ut ++ ys) qs2 (by rw [a5, e3, List.append_assoc]) e2
          have := hold (nq r qs2 (lst qs2))
          omega
        | nil =>
          have e3 : qs2 = ps' := by rw [a4]; exact e1.symm
          rw [e3, ← x2, o4, if_pos (Int.le_refl _), a4, List.length_cons]
          by_cases eq : qs = []
          · rw [eq, List.length_nil]; omega
          · have h1 := hi4 ut qs a5 eq
            have h2 : nq r qs (lst qs) ≤ x.toInt := by
              rw [a4] at a3
              have hv2 := a3.2.2.2
              have hni := vp_ni hr h3 hv2 eq
              have := hni.up a3.1 a3.2.1
              have := hni.2.1
              have e5 : nq r ps' (lst ps') = tq (nq r qs) p' := by rw [a4]; show uq (nq r qs) p' p' = _; rw [uq_at, if_pos rfl]
              omega
            have h3' := cn_mono (f := f) h2 s
            omega
