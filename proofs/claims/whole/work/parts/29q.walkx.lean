/-! x's walk -/
def nq (r : Nat → Int) : List Nat → Nat → Int
  | [] => r
  | i :: ps => uq (nq r ps) i
def lst : List Nat → Nat
  | [] => 4
  | i :: _ => i
/-- a path whose circles are all within T -/
def VP (r : Nat → Int) (T : Int) : List Nat → Prop
  | [] => True
  | i :: ps => i < 4 ∧ i ≠ lst ps ∧ tq (nq r ps) i ≤ T ∧ VP r T ps
/-- what is still to come -/
def rem (r : Nat → Int) (T : Int) : List Nat → Nat → List Int
  | [], p => fr r 4 T p
  | i :: ps, p => fr (nq r (i :: ps)) i T p ++ rem r T ps (i + 1)
theorem rem_eq (r : Nat → Int) (T : Int) (ps : List Nat) (p : Nat) : rem r T ps p = fr (nq r ps) (lst ps) T p ++ rem r T ps 4 := by
  cases ps with
  | nil => exact (List.append_nil _).symm
  | cons i ps => rfl
theorem rem_st (r : Nat → Int) (T : Int) (ps : List Nat) {p : Nat} (hp : p < 4) : rem r T ps p = bk (nq r ps) (lst ps) T p ++ rem r T ps (p + 1) := by
  rw [rem_eq r T ps p, rem_eq r T ps (p + 1), fr_st _ _ _ hp, List.append_assoc]
theorem vp_nd {r : Nat → Int} (hr : RO r) (h3 : 1 ≤ r 3) {T : Int} : ∀ {ps : List Nat}, VP r T ps → ps ≠ [] → ND ps.length (nq r ps) (lst ps) := by
  intro ps
  induction ps with
  | nil => intro _ h; exact absurd rfl h
  | cons i ps ih =>
    intro h _
    obtain ⟨h1, h2, h4, h5⟩ := h
    cases ps with
    | nil => exact ND.ofRoot hr h3 h1
    | cons j ps => exact (ih h5 (by simp)).step h1 h2
theorem vp_le {r : Nat → Int} {T : Int} {ps : List Nat} (h : VP r T ps) (hne : ps ≠ []) : nq r ps (lst ps) ≤ T := by
  cases ps with
  | nil => exact absurd rfl hne
  | cons i ps => show uq (nq r ps) i i ≤ T; rw [uq_at, if_pos rfl]; exact h.2.2.1
theorem vp_ni {r : Nat → Int} (hr : RO r) (h3 : 1 ≤ r 3) {T : Int} {ps : List Nat} (h : VP r T ps) (hne : ps ≠ []) : NI (nq r ps) (lst ps) := (vp_nd hr h3 h hne).1
theorem vp_bd {r : Nat → Int} (hr : RO r) (h3 : 1 ≤ r 3) {T B : Int} (hB : ∀ j, j < 4 → -B ≤ r j ∧ r j ≤ B) (hT : T ≤ B) : ∀ {ps : List Nat}, VP r T ps → ∀ j, j < 4 → -B ≤ nq r ps j ∧ nq r ps j ≤ B := by
  intro ps
  induction ps with
  | nil => intro _ j hj; exact hB j hj
  | cons i ps ih =>
    intro h j hj
    have h5 := h.2.2.2
    have a := ih h5 j hj
    have b := (vp_ni hr h3 h (by simp)).mx hj
    have c := vp_le h (by simp)
    refine ⟨?_, by omega⟩
    show -B ≤ uq (nq r ps) i j
    rw [uq_at]
    by_cases e : j = i
    · rw [if_pos e]
      subst e
      have : nq r ps j ≤ tq (nq r ps) j := by
        cases ps with
        | nil => exact hr.up hj hj
        | cons k ps =>
          have n := vp_ni hr h3 h5 (by simp)
          have u := n.up hj h.2.1
          have v := n.mx hj
          have w := n.2.1
          omega
      omega
    · rw [if_neg e]; exact a.1
theorem uq_back (q : Nat → Int) {i : Nat} (hi : i < 4) (j : Nat) : uq (uq q i) i j = q j := by
  rw [uq_at]
  by_cases e : j = i
  · subst e
    rw [if_pos rfl, tq_ev, ev_same q hi, uq_at, if_pos rfl, tq_ev]; omega
  · rw [if_neg e, uq_at, if_neg e]
def WR : List Nat → (Nat → Int32) → Prop
  | [], _ => True
  | i :: ps, row => row ps.length = nI i ∧ WR ps row
theorem WR.up {ps : List Nat} : ∀ {row : Nat → Int32} {k : Nat} {v : Int32}, WR ps row → ps.length ≤ k → WR ps (upd row k v) := by
  induction ps with
  | nil => intro _ _ _ _ _; exact trivial
  | cons i ps ih =>
    intro row k v h hk
    rw [List.length_cons] at hk
    exact ⟨by rw [pk_un (by omega)]; exact h.1, ih h.2 (by omega)⟩
/-- x's walk stands at the end of the path ps -/
def WX (r : Nat → Int) (ps : List Nat) (depth : Int32) (row : Nat → Int32) (four : Nat → Int64) : Prop := depth = nI ps.length ∧ WR ps row ∧ ∀ j, j < 4 → (four j).toInt = nq r ps j
theorem wx_tv {r : Nat → Int} {ps : List Nat} {four : Nat → Int64} (h4 : ∀ j, j < 4 → (four j).toInt = nq r ps j) (hb : ∀ j, j < 4 → -10000000000000000 ≤ nq r ps j ∧ nq r ps j ≤ 10000000000000000) {i : Nat} (hi : i < 4) : (tv four i).toInt = tq (nq r ps) i := by
  have b0 := hb 0 (by omega); have b1 := hb 1 (by omega); have b2 := hb 2 (by omega); have b3 := hb 3 (by omega)
  have e0 := h4 0 (by omega); have e1 := h4 1 (by omega); have e2 := h4 2 (by omega); have e3 := h4 3 (by omega)
  rw [tv_int (by unfold Bd; omega) hi]
  unfold SI tq sq
  rw [h4 i hi]; omega
theorem up_four {r : Nat → Int} {ps : List Nat} {four : Nat → Int64} {i : Nat} {q' : Nat → Int} {x : Int64} (h4 : ∀ j, j < 4 → (four j).toInt = nq r ps j) (hx : x.toInt = tq (nq r ps) i) (hq : ∀ j, j < 4 → q' j = uq (nq r ps) i j) : ∀ j, j < 4 → (vp_updL four i x j).toInt = q' j := fun j hj => by
  rw [updL_at, hq j hj, uq_at]
  by_cases e : j = i
  · rw [if_pos e, if_pos e]; exact hx
  · rw [if_neg e, if_neg e]; exact h4 j hj
theorem mg_eq {r : Nat → Int} {T : Int} {ps : List Nat} {depth : Int32} {row : Nat → Int32} {four : Nat → Int64} (hW : WX r ps depth row four) (hb : ∀ j, j < 4 → -10000000000000000 ≤ nq r ps j ∧ nq r ps j ≤ 10000000000000000) (hl : ps.length ≤ 2000) (hps : ∀ i ps', ps = i :: ps' → i < 4) {lim : Int64} (hT : lim.toInt = T) {p : Nat} (hp : p < 4) : pX7_mayGo depth row four (nI p) lim = some (if p ≠ lst ps ∧ tq (nq r ps) p ≤ T then 1 else 0) := by
  obtain ⟨h1, h2, h3⟩ := hW
  have ht := wx_tv h3 hb hp
  rw [pX7_mayGo, h1, if_neg (by rw [show (2001 : Int32) = nI 2001 from rfl, nI_leI (by omega) (by omega)]; omega), tx_eq four hp, Option.bind_some]
  by_cases c : lim < tv four p
  · rw [if_pos c]
    rw [i64_lt, hT, ht] at c
    rw [if_neg (fun h => by omega)]
  · rw [if_neg c, pX7_isTwiceRunning]
    rw [i64_lt, hT, ht] at c
    cases ps with
    | nil =>
      rw [if_pos (by decide), Option.bind_some, if_pos rfl, if_pos ⟨by show p ≠ 4; omega, by omega⟩]
    | cons i ps' =>
      have hi := hps i ps' rfl
      rw [List.length_cons] at hl ⊢
      rw [if_neg (by rw [show (0 : Int32) = nI 0 from rfl, nI_leI (by omega) (by omega)]; omega), show nI (ps'.length + 1) - 1 = nI ps'.length from pk_sub (a := ps'.length + 1) (b := 1) (by omega), ck_t (ix_nI (show ps'.length < 2001 by omega) (by omega)), nI_clamp (by omega), h2.1]
      by_cases e : i = p
      · rw [if_pos (by rw [e]), Option.bind_some, if_neg (by decide), if_neg (fun h => h.1 (by rw [← e]; rfl))]
      · rw [if_neg (by rw [nI_eq (by omega) (by omega)]; exact e), Option.bind_some, if_pos rfl, if_pos ⟨fun h => e h.symm, by omega⟩]
theorem ad_eq {r : Nat → Int} (hr : RO r) (h3 : 1 ≤ r 3) {T : Int} (hT : T ≤ 10000000000000000) (hB : ∀ j, j < 4 → -10000000000000000 ≤ r j ∧ r j ≤ 10000000000000000) (HD : ∀ ps, VP r T ps → ps.length ≤ 2000) {lim : Int64} (hL : lim.toInt = T) (kk : Int32 → Int32 → Int32 → (Nat → Int64) → Option (Int32 × Int32 × (Nat → Int32) × (Nat → Int64))) (row : Nat → Int32) : ∀ (d c n p : Nat) (ps : List Nat) (depth : Int32) (four : Nat → Int64), 5 * ps.length + (4 - p) ≤ d → p ≤ 4 → c + d < 1000000 → d + 1 ≤ n → VP r T ps → WX r ps depth row four →
    (rem r T ps p = [] ∧ ∃ z, pX7_advance_L5 lim row n (nI p) (nI c) depth four kk = some (0, 0, row, z)) ∨ (∃ ps' rest depth' row' four', rem r T ps p = nq r ps' (lst ps') :: rest ∧ rem r T ps' 0 = rest ∧ VP r T ps' ∧ ps' ≠ [] ∧ pX7_advance_L5 lim row n (nI p) (nI c) depth four kk = some (1, depth', row', four') ∧ WX r ps' depth' row' four') := by
  intro d
  induction d with
  | zero =>
    intro c n p ps depth four h1 hp hc hn hv hW
    obtain ⟨m, rfl⟩ : ∃ m, n = m + 1 := ⟨n - 1, by omega⟩
    have hp4 : p = 4 := by omega
    subst hp4
    have hps : ps = [] := by
      cases ps with
      | nil => rfl
      | cons i ps => rw [List.length_cons] at h1; omega
    subst hps
    refine Or.inl ⟨rfl, four, ?_⟩
    obtain ⟨w1, w2, w3⟩ := hW
    rw [pX7_advance_L5, if_neg (by rw [show (1000000 : Int32) = nI 1000000 from rfl, nI_leI (by omega) (by omega)]; omega), if_pos (by decide), if_pos (by decide), w1, if_pos (by decide)]
    rfl
  | succ d ih =>
    intro c n p ps depth four h1 hp hc hn hv hW
    obtain ⟨m, rfl⟩ : ∃ m, n = m + 1 := ⟨n - 1, by omega⟩
    obtain ⟨w1, w2, w3⟩ := id hW
    have hb := vp_bd hr h3 hB hT hv
    have hlen := HD ps hv
    rw [pX7_advance_L5, if_neg (by rw [show (1000000 : Int32) = nI 1000000 from rfl, nI_leI (by omega) (by omega)]; omega)]
    by_cases hp4 : p = 4
    · subst hp4
      rw [if_pos (by decide), if_pos (by decide)]
      cases ps with
      | nil =>
        refine Or.inl ⟨rfl, four, ?_⟩
        rw [w1, if_pos (by decide)]
        rfl
      | cons i ps =>
        obtain ⟨v1, v2, v3, v4⟩ := id hv
        rw [List.length_cons] at h1 hlen w1
        have ht := wx_tv w3 hb v1
        rw [w1, if_neg (by rw [show (0 : Int32) = nI 0 from rfl, nI_leI (by omega) (by omega)]; omega), pX7_goUp, show nI (ps.length + 1) - 1 = nI ps.length from pk_sub (a := ps.length + 1) (b := 1) (by omega), ck_t (ix_nI (show ps.length < 2001 by omega) (by omega)), nI_clamp (show ps.length < 2 ^ 31 by omega), w2.1, tx_eq four v1, Option.bind_some, ck_t (ix_nI v1 (by omega)), nI_clamp (show i < 2 ^ 31 by omega), Option.bind_some]
        have hres := ih (c + 1) m (i + 1) ps (nI ps.length) (vp_updL four i (tv four i)) (by omega) (by omega) (by omega) (by omega) v4 ⟨rfl, w2.2, up_four w3 ht (fun j hj => (uq_back (nq r ps) v1 j).symm)⟩
        rw [show nI i + 1 = nI (i + 1) from nI_add i 1, show nI c + 1 = nI (c + 1) from nI_add c 1]
        exact hres
    · have hp' : p < 4 := by omega
      have hn4 : ¬ (4 : Int32) ≤ nI p := by rw [show (4 : Int32) = nI 4 from rfl, nI_leI (by omega) (by omega)]; omega
      rw [if_neg hn4, mg_eq hW hb hlen (fun i ps' e => by subst e; exact hv.1) hL hp', Option.bind_some, rem_st r T ps hp']
      by_cases q : p ≠ lst ps ∧ tq (nq r ps) p ≤ T
      · rw [if_pos q, if_neg (by decide)]
        have hv' : VP r T (p :: ps) := ⟨hp', q.1, q.2, hv⟩
        have hl' := HD _ hv'
        rw [List.length_cons] at hl'
        have ht := wx_tv w3 hb hp'
        refine Or.inr ⟨p :: ps, rem r T (p :: ps) 0, nI (ps.length + 1), upd row ps.length (nI p), vp_updL four p (tv four p), ?_, rfl, hv', by simp, ?_, rfl, ⟨by rw [pk_us], w2.up (Nat.le_refl _)⟩, up_four w3 ht (fun j hj => rfl)⟩
        · have hni := vp_ni hr h3 hv' (by simp)
          have e1 : bk (nq r ps) (lst ps) T p = tq (nq r ps) p :: PR (uq (nq r ps) p) p T := by unfold bk; rw [if_pos q]
          have e2 : PR (uq (nq r ps) p) p T = fr (uq (nq r ps) p) p T 0 := PR_fr hni
          have e3 : nq r (p :: ps) (lst (p :: ps)) = tq (nq r ps) p := by show uq (nq r ps) p p = _; rw [uq_at, if_pos rfl]
          rw [e1, e2, e3]
          rfl
        · rw [pX7_goDown, tx_eq four hp', Option.bind_some, ck_t (ix_nI hp' (by omega)), w1, ck_t (ix_nI (show ps.length < 2001 by omega) (by omega)), nI_clamp (show ps.length < 2 ^ 31 by omega), nI_clamp (show p < 2 ^ 31 by omega), Option.bind_some, show nI ps.length + 1 = nI (ps.length + 1) from nI_add _ 1]
      · rw [if_neg q, if_pos rfl, if_neg hn4]
        have e1 : bk (nq r ps) (lst ps) T p = [] := by unfold bk; rw [if_neg q]
        rw [e1, List.nil_append, show nI p + 1 = nI (p + 1) from nI_add p 1, show nI c + 1 = nI (c + 1) from nI_add c 1]
        exact ih (c + 1) m (p + 1) ps depth four (by omega) (by omega) (by omega) (by omega) hv hW
