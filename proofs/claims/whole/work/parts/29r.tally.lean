/-! x's tally -/
theorem PR_nil {q : Nat → Int} {l : Nat} {T : Int} (h : T ≤ q l) : PR q l T = [] := by
  unfold PR
  rw [show (T - q l).toNat = 0 by omega]
  rfl
theorem fr_flt {q : Nat → Int} {l : Nat} {R m : Int} (hm : m ≤ R) (h : ∀ i, i < 4 → i ≠ l → tq q i ≤ R → (PR (uq q i) i R).filter (fun x => decide (x ≤ m)) = PR (uq q i) i m) : (fr q l R 0).filter (fun x => decide (x ≤ m)) = fr q l m 0 := by
  have hb : ∀ i, i < 4 → (bk q l R i).filter (fun x => decide (x ≤ m)) = bk q l m i := fun i hi => by
    unfold bk
    by_cases c : i ≠ l ∧ tq q i ≤ R
    · rw [if_pos c, List.filter_cons, h i hi c.1 c.2]
      by_cases c2 : tq q i ≤ m
      · rw [if_pos (decide_eq_true c2), if_pos ⟨c.1, c2⟩]
      · rw [if_neg (by simpa using c2), if_neg (fun h => c2 h.2)]
        exact PR_nil (by rw [uq_at, if_pos rfl]; omega)
    · rw [if_neg c, if_neg (fun h => c ⟨h.1, by omega⟩)]
      rfl
  show (bk q l R 0 ++ (bk q l R 1 ++ (bk q l R 2 ++ bk q l R 3))).filter (fun x => decide (x ≤ m)) = bk q l m 0 ++ (bk q l m 1 ++ (bk q l m 2 ++ bk q l m 3))
  rw [List.filter_append, List.filter_append, List.filter_append, hb 0 (by omega), hb 1 (by omega), hb 2 (by omega), hb 3 (by omega)]
theorem PR_flt : ∀ (F : Nat) {q : Nat → Int} {l : Nat} {R m : Int}, NI q l → R - q l ≤ F → m ≤ R → (PR q l R).filter (fun x => decide (x ≤ m)) = PR q l m := by
  intro F
  induction F with
  | zero => intro q l R m h h1 h2; rw [PR_nil (by omega), PR_nil (by omega)]; rfl
  | succ F ih =>
    intro q l R m h h1 h2
    rw [PR_fr h, PR_fr h]
    refine fr_flt h2 (fun i hi hl ht => ih (h.step hi hl) ?_ h2)
    rw [uq_at, if_pos rfl]
    have := h.up hi hl; have := h.2.1; omega
theorem root_flt {r : Nat → Int} (hr : RO r) {R m : Int} (hm : m ≤ R) : (fr r 4 R 0).filter (fun x => decide (x ≤ m)) = fr r 4 m 0 :=
  fr_flt hm (fun i hi _ _ => PR_flt (R - uq r i i).toNat (NI.ofRoot hr hi) (by omega) hm)
theorem cir_eq {r : Nat → Int} (hr : RO r) (T : Int) : cir r T = [r 0, r 1, r 2, r 3].filter (fun x => decide (x ≤ T)) ++ fr r 4 T 0 := by
  unfold cir; rw [pre_root hr]
theorem cir_flt {r : Nat → Int} (hr : RO r) {R m : Int} (hm : m ≤ R) : (cir r R).filter (fun x => decide (x ≤ m)) = cir r m := by
  rw [cir_eq hr, cir_eq hr, List.filter_append, root_flt hr hm, List.filter_filter]
  congr 1
  apply List.filter_congr
  intro x _
  by_cases c : x ≤ m
  · simp [c]; omega
  · simp [c]
/-- the numbers of circles by bend, the negative ones with 0 -/
def HC (L : List Int) (R : Nat) (counts : Nat → Int32) : Prop := ∀ j, j ≤ R → counts j = nI (L.countP (fun v => v.toNat == j))
theorem ct_eq {L : List Int} {R : Nat} {counts : Nat → Int32} (h : HC L R counts) (hR : R ≤ 5000) {v : Int64} (hv : -10000000000000000 ≤ v.toInt) : ∃ z, pX6_count (nI R) counts v = some z ∧ HC (L ++ [v.toInt].filter (fun x => decide (x ≤ (R : Int)))) R z := by
  have e0 : (0 : Int64).toInt = 0 := rfl
  rw [pX6_count, nI_l (by omega)]
  by_cases c : lN R < v
  · rw [if_pos c]
    rw [i64_lt, pk_lT (by omega)] at c
    refine ⟨counts, rfl, ?_⟩
    rw [List.filter_cons, if_neg (by simp; omega)]
    simpa using h
  · rw [if_neg c]
    rw [i64_lt, pk_lT (by omega)] at c
    have e : (if (0 : Int64) < v then v else (0 : Int64)) = lN v.toInt.toNat := by
      by_cases q : (0 : Int64) < v
      · rw [if_pos q, i64_eq, pk_lT (by omega)]; rw [i64_lt, e0] at q; omega
      · rw [if_neg q, i64_eq, pk_lT (by omega), e0]; rw [i64_lt, e0] at q; omega
    rw [e, lN_i, ck_t (ix_nI (show v.toInt.toNat < 5001 by omega) (by omega)), nI_clamp (by omega)]
    refine ⟨_, rfl, fun j hj => ?_⟩
    rw [List.filter_cons, if_pos (by simp; omega), List.countP_append]
    by_cases q : j = v.toInt.toNat
    · subst q
      rw [pk_us, h _ hj, show (1 : Int32) = nI 1 from rfl, nI_add]
      simp
    · rw [pk_un q, h j hj]
      generalize v.toInt = w at q
      have hw : (w.toNat == j) = false := by simp; omega
      simp [hw]
theorem z32 (R : Nat) (hR : R ≤ 5000) (k : Nat) (kk : Int32 → (Nat → Int32) → Option (Int32 × (Nat → Int32) × Int32 × (Nat → Int32) × (Nat → Int64))) : ∀ (d i : Nat) (counts : Nat → Int32), i + d = R + 1 → (∀ j, j < i → counts j = 0) → ∃ z, pX6_reachTo_L32 (nI R) (k + d + 1) (nI i) counts kk = kk (nI (R + 1)) z ∧ HC [] R z := by
  intro d
  induction d with
  | zero =>
    intro i counts h h2
    obtain rfl : i = R + 1 := by omega
    refine ⟨counts, ?_, fun j hj => h2 j (by omega)⟩
    rw [pX6_reachTo_L32, if_pos (by rw [nI_ltI (by omega) (by omega)]; omega)]
  | succ d ih =>
    intro i counts h h2
    rw [show k + (d + 1) + 1 = k + d + 1 + 1 by omega, pX6_reachTo_L32, if_neg (by rw [nI_ltI (by omega) (by omega)]; omega), ck_t (ix_nI (show i < 5001 by omega) (by omega)), nI_clamp (by omega), show nI i + 1 = nI (i + 1) from nI_add i 1]
    refine ih (i + 1) (upd counts i 0) (by omega) (fun j hj => ?_)
    by_cases q : j = i
    · rw [q, pk_us]
    · rw [pk_un q]; exact h2 j (by omega)
theorem z58 {R : Nat} (hR : R ≤ 5000) (k : Nat) {a : Nat → Int64} (ha : ∀ j, j < 4 → -10000000000000000 ≤ (a j).toInt) {counts : Nat → Int32} (h : HC [] R counts) (kk : Int32 → (Nat → Int32) → Option (Int32 × (Nat → Int32) × Int32 × (Nat → Int32) × (Nat → Int64))) : ∃ z, pX6_reachTo_L58 (nI R) a (k + 5) 0 counts kk = kk 4 z ∧ HC ([(a 0).toInt, (a 1).toInt, (a 2).toInt, (a 3).toInt].filter (fun x => decide (x ≤ (R : Int)))) R z := by
  obtain ⟨z0, a1, a2⟩ := ct_eq h hR (ha 0 (by omega))
  obtain ⟨z1, b1, b2⟩ := ct_eq a2 hR (ha 1 (by omega))
  obtain ⟨z2, c1, c2⟩ := ct_eq b2 hR (ha 2 (by omega))
  obtain ⟨z3, d1, d2⟩ := ct_eq c2 hR (ha 3 (by omega))
  refine ⟨z3, ?_, ?_⟩
  · have i1 : (0 + 1 : Int32).toNatClampNeg = 1 := rfl
    have i2 : (0 + 1 + 1 : Int32).toNatClampNeg = 2 := rfl
    have i3 : (0 + 1 + 1 + 1 : Int32).toNatClampNeg = 3 := rfl
    rw [pX6_reachTo_L58, if_neg (by decide), ck_t (by decide), tn_0, a1, Option.bind_some, pX6_reachTo_L58, if_neg (by decide), ck_t (by decide), i1, b1, Option.bind_some, pX6_reachTo_L58, if_neg (by decide), ck_t (by decide), i2, c1, Option.bind_some, pX6_reachTo_L58, if_neg (by decide), ck_t (by decide), i3, d1, Option.bind_some, pX6_reachTo_L58, if_pos (by decide)]
    rfl
  · rw [List.nil_append, ← List.filter_append, ← List.filter_append, ← List.filter_append] at d2
    exact d2
theorem fd_eq {r : Nat → Int} {ps : List Nat} (hne : ps ≠ []) (hp : ∀ i ps', ps = i :: ps' → i < 4) (hl : ps.length ≤ 2000) {depth : Int32} {row : Nat → Int32} {four : Nat → Int64} (hW : WX r ps depth row four) : ∃ v, pX7_found depth row four = some v ∧ v.toInt = nq r ps (lst ps) := by
  obtain ⟨w1, w2, w3⟩ := hW
  cases ps with
  | nil => exact absurd rfl hne
  | cons i ps =>
    have hi := hp i ps rfl
    rw [List.length_cons] at hl w1
    refine ⟨four i, ?_, w3 i hi⟩
    rw [pX7_found, w1, if_neg (by rw [show (0 : Int32) = nI 0 from rfl, nI_leI (by omega) (by omega)]; omega), show nI (ps.length + 1) - 1 = nI ps.length from pk_sub (a := ps.length + 1) (b := 1) (by omega), ck_t (ix_nI (show ps.length < 2001 by omega) (by omega)), nI_clamp (show ps.length < 2 ^ 31 by omega), w2.1, ck_t (ix_nI hi (by omega)), nI_clamp (by omega)]
theorem adv_eq {r : Nat → Int} (hr : RO r) (h3 : 1 ≤ r 3) {T : Int} (hT : T ≤ 10000000000000000) (hB : ∀ j, j < 4 → -10000000000000000 ≤ r j ∧ r j ≤ 10000000000000000) (HD : ∀ ps, VP r T ps → ps.length ≤ 2000) {lim : Int64} (hL : lim.toInt = T) {n : Nat} (hn : 20000 ≤ n) {row : Nat → Int32} {ps : List Nat} {depth : Int32} {four : Nat → Int64} (hv : VP r T ps) (hW : WX r ps depth row four) :
    (rem r T ps 0 = [] ∧ ∃ z, pX7_advance n depth row four lim = some (0, 0, row, z)) ∨ (∃ ps' rest depth' row' four', rem r T ps 0 = nq r ps' (lst ps') :: rest ∧ rem r T ps' 0 = rest ∧ VP r T ps' ∧ ps' ≠ [] ∧ pX7_advance n depth row four lim = some (1, depth', row', four') ∧ WX r ps' depth' row' four') := by
  have hl := HD ps hv
  exact ad_eq hr h3 hT hB HD hL (fun (y3_12 : Int32) (y4_12 : Int32) (u12_depth : Int32) (u12_four : (Nat → Int64)) => some ((0 : Int32), u12_depth, row, u12_four)) row 10004 0 n 0 ps depth four (by omega) (by omega) (by omega) (by omega) hv hW
theorem z86 {r : Nat → Int} (hr : RO r) (h3 : 1 ≤ r 3) (hB : ∀ j, j < 4 → -10000000000000000 ≤ r j ∧ r j ≤ 10000000000000000) {R : Nat} (hR : R ≤ 5000) (HD : ∀ ps, VP r (R : Int) ps → ps.length ≤ 2000) (k : Nat) (kk : Int32 → (Nat → Int32) → Int32 → (Nat → Int32) → (Nat → Int64) → Option (Int32 × (Nat → Int32) × Int32 × (Nat → Int32) × (Nat → Int64))) : ∀ (rest : List Int) (L : List Int) (ps : List Nat) (c : Nat) (counts : Nat → Int32) (depth : Int32) (row : Nat → Int32) (four : Nat → Int64), rem r (R : Int) ps 0 = rest → VP r (R : Int) ps → WX r ps depth row four → HC L R counts → c + rest.length < 1000000 → ∃ y z d2 w2 f2, pX6_reachTo_L86 (nI R) (k + 20000 + rest.length + 1) (nI c) counts depth row four kk = kk y z d2 w2 f2 ∧ HC (L ++ rest) R z := by
  intro rest
  induction rest with
  | nil =>
    intro L ps c counts depth row four h1 hv hW hH hc
    rw [List.length_nil] at hc ⊢
    rw [pX6_reachTo_L86, if_neg (by rw [show (1000000 : Int32) = nI 1000000 from rfl, nI_leI (by omega) (by omega)]; omega)]
    rcases adv_eq hr h3 (by omega) hB HD (lim := (nI R).toInt64) (by rw [nI_l (by omega), pk_lT (by omega)]) (n := k + 20000 + 0) (by omega) hv hW with ⟨e1, z, e2⟩ | ⟨ps', rest', d', row', f', e1, -, -, -, -, -⟩
    · rw [e2, Option.bind_some, if_pos rfl]
      exact ⟨_, _, _, _, _, rfl, by rw [List.append_nil]; exact hH⟩
    · rw [h1] at e1; exact absurd e1 (by simp)
  | cons v rest ih =>
    intro L ps c counts depth row four h1 hv hW hH hc
    rw [List.length_cons] at hc ⊢
    rw [pX6_reachTo_L86, if_neg (by rw [show (1000000 : Int32) = nI 1000000 from rfl, nI_leI (by omega) (by omega)]; omega)]
    rcases adv_eq hr h3 (by omega) hB HD (lim := (nI R).toInt64) (by rw [nI_l (by omega), pk_lT (by omega)]) (n := k + 20000 + (rest.length + 1)) (by omega) hv hW with ⟨e1, z, e2⟩ | ⟨ps', rest', d', row', f', e1, e2, e3, e4, e5, e6⟩
    · rw [h1] at e1; exact absurd e1 (by simp)
    · rw [h1] at e1
      injection e1 with e7 e8
      obtain ⟨u, f1, f2⟩ := fd_eq e4 (fun i ps'' e => by subst e; exact e3.1) (HD _ e3) e6
      have hub := (vp_bd hr h3 hB (show (R : Int) ≤ 10000000000000000 by omega) e3)
      have hle := vp_le e3 e4
      have hge : -10000000000000000 ≤ u.toInt := by
        rw [f2]
        have hl4 : lst ps' < 4 := (vp_ni hr h3 e3 e4).1
        exact (hub _ hl4).1
      obtain ⟨z, g1, g2⟩ := ct_eq hH hR hge
      rw [e5, Option.bind_some, if_neg ne10, f1, Option.bind_some, g1, Option.bind_some, show nI c + 1 = nI (c + 1) from nI_add c 1]
      rw [f2, List.filter_cons, if_pos (decide_eq_true hle), List.filter_nil, ← e7] at g2
      obtain ⟨y, z2, d2, w2, f2', i1, i2⟩ := ih (L ++ [v]) ps' (c + 1) z d' row' f' (e2.trans e8.symm) e3 e6 g2 (by omega)
      refine ⟨y, z2, d2, w2, f2', i1, ?_⟩
      rw [List.append_assoc] at i2
      exact i2
/-- the sums -/
theorem z122 (R : Nat) (hR : R ≤ 5000) (k : Nat) (g : Nat → Nat) (kk : Int32 → (Nat → Int32) → Option (Int32 × (Nat → Int32) × Int32 × (Nat → Int32) × (Nat → Int64))) : ∀ (d i : Nat) (counts : Nat → Int32) (S : Nat → Nat), i + d = R + 1 → 1 ≤ i → S 0 = g 0 → (∀ j, S (j + 1) = S j + g (j + 1)) → (∀ j, j < i → counts j = nI (S j)) → (∀ j, i ≤ j → j ≤ R → counts j = nI (g j)) → ∃ z, pX6_reachTo_L122 (nI R) (k + d + 1) (nI i) counts kk = kk (nI (R + 1)) z ∧ ∀ j, j ≤ R → z j = nI (S j) := by
  intro d
  induction d with
  | zero =>
    intro i counts S h _ _ _ h2 _
    obtain rfl : i = R + 1 := by omega
    refine ⟨counts, ?_, fun j hj => h2 j (by omega)⟩
    rw [pX6_reachTo_L122, if_pos (by rw [nI_ltI (by omega) (by omega)]; omega)]
  | succ d ih =>
    intro i counts S h hi s0 s1 h2 h3
    rw [show k + (d + 1) + 1 = k + d + 1 + 1 by omega, pX6_reachTo_L122, if_neg (by rw [nI_ltI (by omega) (by omega)]; omega), ck_t (ix_nI (show i < 5001 by omega) (by omega)), show nI i - 1 = nI (i - 1) from pk_sub (a := i) (b := 1) hi, ck_t (ix_nI (show i - 1 < 5001 by omega) (by omega)), nI_clamp (show i < 2 ^ 31 by omega), nI_clamp (show i - 1 < 2 ^ 31 by omega), show nI i + 1 = nI (i + 1) from nI_add i 1, h3 i (by omega) (by omega), h2 (i - 1) (by omega), nI_add]
    refine ih (i + 1) _ S (by omega) (by omega) s0 s1 (fun j hj => ?_) (fun j h4 h5 => ?_)
    · by_cases q : j = i
      · rw [q, pk_us]
        have := s1 (i - 1)
        rw [show i - 1 + 1 = i by omega] at this
        rw [this, Nat.add_comm]
      · rw [pk_un q]; exact h2 j (by omega)
    · rw [pk_un (by omega)]; exact h3 j (by omega) h5
