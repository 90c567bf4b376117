/-! least: the model's walk with a limit -/
theorem cb_any (jm : Int32) (hb : Nat → Int32) (v p3 : Int64) : ∃ jm' hb', pX9_countsBend jm hb v p3 = some (jm', hb') := by
  have e0 : (0 : Int64).toInt = 0 := rfl
  have e5 : (5000 : Int64).toInt = 5000 := rfl
  have hv : ¬ v < (0 : Int64) → ¬ (5000 : Int64) < v → ix v.toInt32 5001 := fun a b => by
    rw [i64_lt, e0] at a; rw [i64_lt, e5] at b
    have this : v = lN v.toInt.toNat := by rw [i64_eq, pk_lT (by omega)]; omega
    have t := congrArg (fun x => Int64.toInt32 x) this
    simp only [lN_i] at t
    rw [t]
    exact ix_nI (by omega) (by omega)
  rw [pX9_countsBend]
  by_cases q : v = p3
  · rw [if_pos q]
    by_cases a : v < (0 : Int64)
    · rw [if_pos a]; exact ⟨_, _, rfl⟩
    · rw [if_neg a]
      by_cases b : (5000 : Int64) < v
      · rw [if_pos b]; exact ⟨_, _, rfl⟩
      · rw [if_neg b, ck_t (hv a b)]; exact ⟨_, _, rfl⟩
  · rw [if_neg q]
    by_cases a : v < (0 : Int64)
    · rw [if_pos a]; exact ⟨_, _, rfl⟩
    · rw [if_neg a]
      by_cases b : (5000 : Int64) < v
      · rw [if_pos b]; exact ⟨_, _, rfl⟩
      · rw [if_neg b, ck_t (hv a b)]; exact ⟨_, _, rfl⟩
theorem gl2_eq {r : Nat → Int} (hr : RO r) (h3 : 1 ≤ r 3) {T : Int} (hT : T ≤ 10000000000000000) (hB : ∀ j, j < 4 → -10000000000000000 ≤ r j ∧ r j ≤ 10000000000000000) {lim : Int64} (hL : lim.toInt = T) {L : Nat} (hL2 : L ≤ 2590) {p4 : Int64} (root : Nat → Int64) (kk : Int32 → Int32 → Int32 → (Nat → Int64) → (Nat → Int32) → (Nat → Int32) → (Nat → Int32) → Option (Int32 × Int32 × (Nat → Int64) × (Nat → Int32) × (Nat → Int32) × (Nat → Int32))) : ∀ (N : Nat) (rest : List Int) (ps : List Nat) (p c n : Nat) (jm : Int32) (pile : Nat → Int64) (last next hb : Nat → Int32), 5 * min rest.length (L - c) + W5 ps p ≤ N → rem r T ps p = rest → VP r T ps → p ≤ 4 → ML r ps p pile last next → ps.length ≤ c → c < 2147483000 → N + 10 ≤ n →
    ∃ y y7 jm' pile' last' next' hb', pX9_goesUpTo_L62 lim (nI L) p4 root n (nI c) (nI ps.length) jm pile last next hb kk = kk (nI y) y7 jm' pile' last' next' hb' ∧ (y ≤ c ∨ y ≤ L) ∧ (y = c + rest.length ∨ (L ≤ y ∧ y ≤ c + rest.length)) := by
  intro N
  induction N with
  | zero =>
    intro rest ps p c n jm pile last next hb h1 _ _ hp _ _ _ _
    have : 1 ≤ W5 ps p := by
      cases ps with
      | nil => show 1 ≤ 5 - p; omega
      | cons i ps => show 1 ≤ (5 - p) + W5 ps (i + 1); omega
    omega
  | succ N ih =>
    intro rest ps p c n jm pile last next hb h1 hrem hv hp hM hC hc hn
    obtain ⟨m, rfl⟩ : ∃ m, n = m + 1 := ⟨n - 1, by omega⟩
    have hbd := vp_bd hr h3 hB hT hv
    obtain ⟨t1, t2, t3⟩ := hM.top (fun i ps' e => by subst e; exact hv.1)
    rw [pX9_goesUpTo_L62, if_neg (by rw [show (0 : Int32) = nI 0 from rfl, nI_ltI (by omega) (by omega)]; omega)]
    by_cases hstop : L ≤ c
    · rw [if_pos (by rw [nI_leI (by omega) (by omega)]; exact hstop)]
      exact ⟨c, _, jm, pile, last, next, hb, rfl, Or.inl (Nat.le_refl _), Or.inr ⟨hstop, by omega⟩⟩
    have hlen : ps.length ≤ 2589 := by omega
    rw [if_neg (by rw [nI_leI (by omega) (by omega)]; exact hstop), ck_t (ix_nI (show ps.length < 2600 by omega) (by omega)), nI_clamp (show ps.length < 2 ^ 31 by omega), t2]
    by_cases hp4 : p = 4
    · subst hp4
      rw [if_pos (show nI 4 = 4 from rfl)]
      cases ps with
      | nil =>
        have hr0 : rest = [] := by rw [← hrem]; rfl
        subst hr0
        obtain ⟨m', rfl⟩ : ∃ m', m = m' + 1 := ⟨m - 1, by omega⟩
        rw [pX9_goesUpTo_L62, if_pos (by rw [List.length_nil]; decide)]
        exact ⟨c, _, jm, pile, last, _, hb, rfl, Or.inl (Nat.le_refl _), Or.inl (by rw [List.length_nil]; omega)⟩
      | cons i ps =>
        obtain ⟨v1, v2, v3, v4⟩ := id hv
        have e1 : nI (i :: ps).length + -1 = nI ps.length := by
          rw [List.length_cons, i32_eq, i32_add (by rw [nI_toInt (by rw [List.length_cons] at hlen; omega)]; show -2147483648 ≤ ((ps.length + 1 : Nat) : Int) + -1; omega) (by rw [nI_toInt (by rw [List.length_cons] at hlen; omega)]; show ((ps.length + 1 : Nat) : Int) + -1 < 2147483648; rw [List.length_cons] at hlen; omega), nI_toInt (by rw [List.length_cons] at hlen; omega), nI_toInt (by rw [List.length_cons] at hlen; omega)]
          show ((ps.length + 1 : Nat) : Int) + -1 = _
          omega
        rw [e1]
        have hw5 : W5 (i :: ps) 4 = 1 + W5 ps (i + 1) := rfl
        exact ih rest ps (i + 1) c m jm pile last _ hb (by omega) (by rw [← hrem]; rfl) v4 (by omega) (hM.2.2.2.frame (fun _ _ => rfl) (fun _ _ => rfl) (fun x hx => by rw [pk_un (by rw [List.length_cons]; omega)])) (by rw [List.length_cons] at hC; omega) hc (by omega)
    · have hp' : p < 4 := by omega
      have hne : ¬ nI p = 4 := by rw [show (4 : Int32) = nI 4 from rfl, nI_eq (by omega) (by omega)]; exact hp4
      have hstp := W5_st ps hp'
      rw [rem_st r T ps hp'] at hrem
      rw [if_neg hne, show nI p + 1 = nI (p + 1) from nI_add p 1]
      by_cases el : p = lst ps
      · rw [if_pos ((t3 hp').mpr el)]
        have eb : bk (nq r ps) (lst ps) T p = [] := by unfold bk; rw [if_neg (fun h => h.1 el)]
        rw [eb, List.nil_append] at hrem
        exact ih rest ps (p + 1) c m jm pile last _ hb (by omega) hrem hv (by omega) hM.next hC hc (by omega)
      · rw [if_neg (fun h => el ((t3 hp').mp h))]
        obtain ⟨m', rfl⟩ : ∃ m', m = m' + 5 := ⟨m - 5, by omega⟩
        obtain ⟨v, o1, o2⟩ := to_eq m' (show ps.length < 2600 by omega) hp' t1 hbd
        rw [o1, Option.bind_some]
        by_cases ct : lim < v
        · rw [if_pos ct]
          rw [i64_lt, hL, o2] at ct
          have eb : bk (nq r ps) (lst ps) T p = [] := by unfold bk; rw [if_neg (fun h => by have := h.2; omega)]
          rw [eb, List.nil_append] at hrem
          exact ih rest ps (p + 1) c (m' + 5) jm pile last _ hb (by omega) hrem hv (by omega) hM.next hC hc (by omega)
        · rw [if_neg ct]
          rw [i64_lt, hL, o2] at ct
          have hq : p ≠ lst ps ∧ tq (nq r ps) p ≤ T := ⟨el, by omega⟩
          have hv' : VP r T (p :: ps) := ⟨hp', el, hq.2, hv⟩
          have eb : bk (nq r ps) (lst ps) T p = tq (nq r ps) p :: PR (uq (nq r ps) p) p T := by unfold bk; rw [if_pos hq]
          have e2 : PR (uq (nq r ps) p) p T = fr (uq (nq r ps) p) p T 0 := PR_fr (vp_ni hr h3 hv' (by simp))
          rw [eb, e2] at hrem
          obtain ⟨jm', hb', b1⟩ := cb_any jm hb v p4
          rw [b1, Option.bind_some, show nI ps.length + 1 = nI (ps.length + 1) from nI_add _ 1, show nI c + 1 = nI (c + 1) from nI_add c 1]
          obtain ⟨z, l1, l2, l3⟩ := la_eq m' (show ps.length + 1 < 2600 by omega) hp' v root pile last (upd next ps.length (nI (p + 1)))
          rw [l1, Option.bind_some]
          obtain ⟨rest', hrest⟩ : ∃ rest', rest = tq (nq r ps) p :: rest' := ⟨_, hrem.symm⟩
          have hrem' : rem r T (p :: ps) 0 = rest' := by
            rw [hrest] at hrem
            injection hrem
          rw [hrest, List.length_cons] at h1 ⊢
          have hw5 : W5 (p :: ps) 0 = 5 + W5 ps (p + 1) := rfl
          have hML : ML r (p :: ps) 0 z (upd last (ps.length + 1) (nI p)) (upd (upd next ps.length (nI (p + 1))) (ps.length + 1) 0) := by
            refine ⟨fun j hj => ?_, by rw [pk_us], by rw [pk_us]; rfl, ?_⟩
            · rw [l2 j hj]
              show _ = uq (nq r ps) p j
              rw [uq_at]
              by_cases e : j = p
              · rw [if_pos e, if_pos e]; exact o2
              · rw [if_neg e, if_neg e]; exact t1 j hj
            · exact (hM.next (p' := p + 1)).frame l3 (fun x hx => by rw [pk_un (by omega)]) (fun x hx => by rw [pk_un (by omega)])
          obtain ⟨y, y7, jm2, pile2, last2, next2, hb2, i1, i0, i2⟩ := ih rest' (p :: ps) 0 (c + 1) (m' + 5) jm' z _ _ hb' (by omega) hrem' hv' (by omega) hML (by rw [List.length_cons]; omega) (by omega) (by omega)
          refine ⟨y, y7, jm2, pile2, last2, next2, hb2, i1, by omega, ?_⟩
          rcases i2 with k1 | ⟨k1, k2⟩
          · exact Or.inl (by omega)
          · exact Or.inr ⟨k1, by omega⟩
