theorem ad2_eq {r : Nat → Int} (hr : RO r) (h3 : 1 ≤ r 3) {T L : Int} (hTL : T ≤ L) (hT : L ≤ 10000000000000000) (hB : ∀ j, j < 4 → -10000000000000000 ≤ r j ∧ r j ≤ 10000000000000000) {lim : Int64} (hL : lim.toInt = T) (kk : Int32 → Int32 → Int32 → (Nat → Int64) → Option (Int32 × Int32 × (Nat → Int32) × (Nat → Int64))) (row : Nat → Int32) : ∀ (d c n p : Nat) (ps : List Nat) (depth : Int32) (four : Nat → Int64), 5 * ps.length + (4 - p) ≤ d → p ≤ 4 → c + d < 1000000 → d + 1 ≤ n → VP r L ps → ps.length ≤ 2001 → (ps.length = 2001 → T < nq r ps (lst ps)) → WX r ps depth row four →
    ((∀ x, x ∈ rem r L ps p → T < x) ∧ ∃ z, pX7_advance_L5 lim row n (nI p) (nI c) depth four kk = some (0, 0, row, z)) ∨ (∃ A ps' depth' row' four', rem r L ps p = A ++ nq r ps' (lst ps') :: rem r L ps' 0 ∧ (∀ x, x ∈ A → T < x) ∧ VP r L ps' ∧ (∃ u p' qs, ps' = p' :: qs ∧ ps = u ++ qs) ∧ ps'.length ≤ 2001 ∧ nq r ps' (lst ps') ≤ T ∧ pX7_advance_L5 lim row n (nI p) (nI c) depth four kk = some (1, depth', row', four') ∧ WX r ps' depth' row' four') := by
  intro d
  induction d with
  | zero =>
    intro c n p ps depth four h1 hp hc hn hv hlen hmx hW
    obtain ⟨m, rfl⟩ : ∃ m, n = m + 1 := ⟨n - 1, by omega⟩
    have hp4 : p = 4 := by omega
    subst hp4
    have hps : ps = [] := by
      cases ps with
      | nil => rfl
      | cons i ps => rw [List.length_cons] at h1; omega
    subst hps
    refine Or.inl ⟨fun x hx => absurd hx (by show ¬ x ∈ []; simp), four, ?_⟩
    obtain ⟨w1, w2, w3⟩ := hW
    rw [pX7_advance_L5, if_neg (by rw [show (1000000 : Int32) = nI 1000000 from rfl, nI_leI (by omega) (by omega)]; omega), if_pos (by decide), if_pos (by decide), w1, if_pos (by decide)]
    rfl
  | succ d ih =>
    intro c n p ps depth four h1 hp hc hn hv hlen hmx hW
    obtain ⟨m, rfl⟩ : ∃ m, n = m + 1 := ⟨n - 1, by omega⟩
    obtain ⟨w1, w2, w3⟩ := id hW
    have hb := vp_bd hr h3 hB hT hv
    rw [pX7_advance_L5, if_neg (by rw [show (1000000 : Int32) = nI 1000000 from rfl, nI_leI (by omega) (by omega)]; omega)]
    by_cases hp4 : p = 4
    · subst hp4
      rw [if_pos (by decide), if_pos (by decide)]
      cases ps with
      | nil =>
        refine Or.inl ⟨fun x hx => absurd hx (by show ¬ x ∈ []; simp), four, ?_⟩
        rw [w1, if_pos (by decide)]
        rfl
      | cons i ps =>
        obtain ⟨v1, v2, v3, v4⟩ := id hv
        rw [List.length_cons] at h1 hlen hmx w1
        have ht := wx_tv w3 hb v1
        rw [w1, if_neg (by rw [show (0 : Int32) = nI 0 from rfl, nI_leI (by omega) (by omega)]; omega), pX7_goUp, show nI (ps.length + 1) - 1 = nI ps.length from pk_sub (a := ps.length + 1) (b := 1) (by omega), ck_t (ix_nI (show ps.length < 2001 by omega) (by omega)), nI_clamp (show ps.length < 2 ^ 31 by omega), w2.1, tx_eq four v1, Option.bind_some, ck_t (ix_nI v1 (by omega)), nI_clamp (show i < 2 ^ 31 by omega), Option.bind_some]
        have hres := ih (c + 1) m (i + 1) ps (nI ps.length) (vp_updL four i (tv four i)) (by omega) (by omega) (by omega) (by omega) v4 (by omega) (fun h => by omega) ⟨rfl, w2.2, up_four w3 ht (fun j hj => (uq_back (nq r ps) v1 j).symm)⟩
        rw [show nI i + 1 = nI (i + 1) from nI_add i 1, show nI c + 1 = nI (c + 1) from nI_add c 1]
        rcases hres with h | ⟨A, ps', d', row', f', i1, i2, i3, ⟨u, p', qs, i4, i5⟩, i6⟩
        · exact Or.inl h
        · exact Or.inr ⟨A, ps', d', row', f', i1, i2, i3, ⟨i :: u, p', qs, i4, by rw [i5]; rfl⟩, i6⟩
    · have hp' : p < 4 := by omega
      have hn4 : ¬ (4 : Int32) ≤ nI p := by rw [show (4 : Int32) = nI 4 from rfl, nI_leI (by omega) (by omega)]; omega
      rw [if_neg hn4, rem_st r L ps hp']
      have hmay : pX7_mayGo depth row four (nI p) lim = some (if p ≠ lst ps ∧ tq (nq r ps) p ≤ T then 1 else 0) := by
        by_cases h2001 : ps.length ≤ 2000
        · exact mg_eq hW hb h2001 (fun i ps' e => by subst e; exact hv.1) hL hp'
        · have h2 : ps.length = 2001 := by omega
          have hm := hmx h2
          have hne : ps ≠ [] := fun e => by rw [e] at h2; exact absurd h2 (by decide)
          have hni := vp_ni hr h3 hv hne
          rw [pX7_mayGo, w1, if_pos (by rw [h2]; decide), if_neg]
          intro c
          have := hni.up hp' c.1
          have := hni.2.1
          have := c.2
          omega
      rw [hmay, Option.bind_some]
      by_cases q : p ≠ lst ps ∧ tq (nq r ps) p ≤ T
      · rw [if_pos q, if_neg (by decide)]
        have hv' : VP r L (p :: ps) := ⟨hp', q.1, by have := q.2; omega, hv⟩
        have hl2 : ps.length ≤ 2000 := by
          by_cases h2001 : ps.length ≤ 2000
          · exact h2001
          · have h2 : ps.length = 2001 := by omega
            have hm := hmx h2
            have hne : ps ≠ [] := fun e => by rw [e] at h2; exact absurd h2 (by decide)
            have hni := vp_ni hr h3 hv hne
            have := hni.up hp' q.1
            have := hni.2.1
            have := q.2
            omega
        have ht := wx_tv w3 hb hp'
        refine Or.inr ⟨[], p :: ps, nI (ps.length + 1), upd row ps.length (nI p), vp_updL four p (tv four p), ?_, fun x hx => absurd hx (by simp), hv', ⟨[], p, ps, rfl, rfl⟩, by rw [List.length_cons]; omega, ?_, ?_, rfl, ⟨by rw [pk_us], w2.up (Nat.le_refl _)⟩, up_four w3 ht (fun j hj => rfl)⟩
        · have hni := vp_ni hr h3 hv' (by simp)
          have e1 : bk (nq r ps) (lst ps) L p = tq (nq r ps) p :: PR (uq (nq r ps) p) p L := by unfold bk; rw [if_pos ⟨q.1, by have := q.2; omega⟩]
          have e2 : PR (uq (nq r ps) p) p L = fr (uq (nq r ps) p) p L 0 := PR_fr hni
          have e3 : nq r (p :: ps) (lst (p :: ps)) = tq (nq r ps) p := by show uq (nq r ps) p p = _; rw [uq_at, if_pos rfl]
          rw [e1, e2, e3]
          rfl
        · show uq (nq r ps) p p ≤ T
          rw [uq_at, if_pos rfl]; exact q.2
        · rw [pX7_goDown, tx_eq four hp', Option.bind_some, ck_t (ix_nI hp' (by omega)), w1, ck_t (ix_nI (show ps.length < 2001 by omega) (by omega)), nI_clamp (show ps.length < 2 ^ 31 by omega), nI_clamp (show p < 2 ^ 31 by omega), Option.bind_some, show nI ps.length + 1 = nI (ps.length + 1) from nI_add _ 1]
      · rw [if_neg q, if_pos rfl, if_neg hn4]
        have eb : ∀ x, x ∈ bk (nq r ps) (lst ps) L p → T < x := by
          by_cases el : p = lst ps
          · intro x hx
            unfold bk at hx
            rw [if_neg (fun h => h.1 el)] at hx
            exact absurd hx (by simp)
          · exact bk_gt (vp_kid hr h3 hv hp' el) q
        rw [show nI p + 1 = nI (p + 1) from nI_add p 1, show nI c + 1 = nI (c + 1) from nI_add c 1]
        rcases ih (c + 1) m (p + 1) ps depth four (by omega) (by omega) (by omega) (by omega) hv hlen hmx hW with ⟨i1, i2⟩ | ⟨A, ps', d', row', f', i1, i2, i3⟩
        · refine Or.inl ⟨fun x hx => ?_, i2⟩
          rw [List.mem_append] at hx
          rcases hx with hx | hx
          · exact eb x hx
          · exact i1 x hx
        · refine Or.inr ⟨bk (nq r ps) (lst ps) L p ++ A, ps', d', row', f', by rw [i1, List.append_assoc], fun x hx => ?_, i3⟩
          rw [List.mem_append] at hx
          rcases hx with hx | hx
          · exact eb x hx
          · exact i2 x hx
