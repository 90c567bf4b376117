/-! the tree of turns -/
def ev (q : Nat → Int) (i : Nat) : Int := sq q - 2 * q i
theorem uq_at (q : Nat → Int) (i j : Nat) : uq q i j = if j = i then tq q i else q j := rfl
theorem tq_ev (q : Nat → Int) (i : Nat) : tq q i = q i + 2 * ev q i := by unfold tq ev; omega
theorem sq_uq (q : Nat → Int) {i : Nat} (hi : i < 4) : sq (uq q i) = sq q + 2 * ev q i := by
  have h := tq_ev q i
  unfold sq at *
  rw [uq_at, uq_at, uq_at, uq_at]
  match i, hi with
  | 0, _ => rw [if_pos rfl, if_neg (by decide), if_neg (by decide), if_neg (by decide)]; omega
  | 1, _ => rw [if_neg (by decide), if_pos rfl, if_neg (by decide), if_neg (by decide)]; omega
  | 2, _ => rw [if_neg (by decide), if_neg (by decide), if_pos rfl, if_neg (by decide)]; omega
  | 3, _ => rw [if_neg (by decide), if_neg (by decide), if_neg (by decide), if_pos rfl]; omega
theorem ev_same (q : Nat → Int) {i : Nat} (hi : i < 4) : ev (uq q i) i = - ev q i := by
  have h1 := sq_uq q hi
  have h2 := tq_ev q i
  have h3 : uq q i i = tq q i := by rw [uq_at, if_pos rfl]
  have h4 : ev (uq q i) i = sq (uq q i) - 2 * uq q i i := rfl
  have h5 : ev q i = sq q - 2 * q i := rfl
  omega
theorem ev_other (q : Nat → Int) {i j : Nat} (hi : i < 4) (hj : j ≠ i) : ev (uq q i) j = ev q j + 2 * ev q i := by
  have h1 := sq_uq q hi
  have h3 : uq q i j = q j := by rw [uq_at, if_neg hj]
  have h4 : ev (uq q i) j = sq (uq q i) - 2 * uq q i j := rfl
  have h5 : ev q j = sq q - 2 * q j := rfl
  omega
/-- a circle that was turned to at l -/
def NI (q : Nat → Int) (l : Nat) : Prop := l < 4 ∧ ev q l ≤ 0 ∧ ∀ j, j < 4 → j ≠ l → 2 - ev q l ≤ ev q j
/-- a root -/
def RO (q : Nat → Int) : Prop := (∀ j, j < 4 → 0 ≤ ev q j) ∧ ∀ i j, i < 4 → j < 4 → i ≠ j → 2 ≤ ev q i + ev q j
theorem NI.ofRoot {q : Nat → Int} (h : RO q) {i : Nat} (hi : i < 4) : NI (uq q i) i := by
  refine ⟨hi, ?_, fun j hj hji => ?_⟩
  · rw [ev_same q hi]; have := h.1 i hi; omega
  · rw [ev_same q hi, ev_other q hi hji]; have := h.2 i j hi hj (fun e => hji e.symm); omega
theorem NI.step {q : Nat → Int} {l : Nat} (h : NI q l) {i : Nat} (hi : i < 4) (hil : i ≠ l) : NI (uq q i) i := by
  obtain ⟨h1, h2, h3⟩ := h
  have h4 := h3 i hi hil
  refine ⟨hi, ?_, fun j hj hji => ?_⟩
  · rw [ev_same q hi]; omega
  · rw [ev_same q hi, ev_other q hi hji]
    by_cases e : j = l
    · subst e; omega
    · have := h3 j hj e; omega
theorem NI.mx {q : Nat → Int} {l : Nat} (h : NI q l) {j : Nat} (hj : j < 4) : q j ≤ q l := by
  obtain ⟨h1, h2, h3⟩ := h
  by_cases e : j = l
  · subst e; omega
  · have h4 := h3 j hj e
    have h5 : ev q j = sq q - 2 * q j := rfl
    have h6 : ev q l = sq q - 2 * q l := rfl
    omega
theorem NI.up {q : Nat → Int} {l : Nat} (h : NI q l) {j : Nat} (hj : j < 4) (hjl : j ≠ l) : q l + 3 - ev q l ≤ tq q j := by
  obtain ⟨h1, h2, h3⟩ := h
  have h4 := h3 j hj hjl
  have h5 : ev q j = sq q - 2 * q j := rfl
  have h6 : ev q l = sq q - 2 * q l := rfl
  have h7 := tq_ev q j
  omega
theorem RO.up {q : Nat → Int} (h : RO q) {i j : Nat} (hi : i < 4) (hj : j < 4) : q j ≤ tq q i := by
  have h1 := h.1 i hi
  have h2 := h.1 j hj
  have h5 : ev q j = sq q - 2 * q j := rfl
  have h6 : ev q i = sq q - 2 * q i := rfl
  have h7 := tq_ev q i
  omega
/-- at depth n -/
def ND (n : Nat) (q : Nat → Int) (l : Nat) : Prop := NI q l ∧ 2 * (n : Int) ≤ 2 - ev q l ∧ ((n * n : Nat) : Int) ≤ q l
theorem ND.ofRoot {q : Nat → Int} (h : RO q) (h3 : 1 ≤ q 3) {i : Nat} (hi : i < 4) : ND 1 (uq q i) i := by
  refine ⟨NI.ofRoot h hi, ?_, ?_⟩
  · rw [ev_same q hi]; have := h.1 i hi; omega
  · rw [uq_at, if_pos rfl]; have := h.up hi (show 3 < 4 by omega); omega
theorem ND.step {n : Nat} {q : Nat → Int} {l : Nat} (h : ND n q l) {i : Nat} (hi : i < 4) (hil : i ≠ l) : ND (n + 1) (uq q i) i := by
  obtain ⟨h1, h2, h3⟩ := h
  have h4 := h1.2.2 i hi hil
  have h5 := h1.up hi hil
  refine ⟨h1.step hi hil, ?_, ?_⟩
  · rw [ev_same q hi]; omega
  · rw [uq_at, if_pos rfl]
    have e : ((n + 1) * (n + 1) : Nat) = n * n + 2 * n + 1 := by grind
    rw [e]; omega
/-- enough fuel: pre does not depend on it -/
theorem pre_st : ∀ (F F' : Nat) {q : Nat → Int} {l : Nat} {T : Int}, NI q l → T - q l ≤ F → T - q l ≤ F' → pre F q l T = pre F' q l T := by
  have key : ∀ (F' : Nat) {q : Nat → Int} {l : Nat} {T : Int}, NI q l → T - q l ≤ 0 → pre F' q l T = [] := by
    intro F' q l T h h2
    cases F' with
    | zero => rfl
    | succ F' =>
      have hn : ∀ j, j < 4 → ¬ (j ≠ l ∧ tq q j ≤ T) := fun j hj hh => by
        have := h.up hj hh.1; have := h.2.1; omega
      rw [pre, if_neg (hn 0 (by omega)), if_neg (hn 1 (by omega)), if_neg (hn 2 (by omega)), if_neg (hn 3 (by omega))]
      rfl
  intro F
  induction F with
  | zero => intro F' q l T h h1 _; rw [key 0 h (by omega), key F' h (by omega)]
  | succ F ih =>
    intro F' q l T h h1 h2
    cases F' with
    | zero => rw [key 0 h (by omega), key (F + 1) h (by omega)]
    | succ F' =>
      have hb : ∀ j, j < 4 → (if j ≠ l ∧ tq q j ≤ T then tq q j :: pre F (uq q j) j T else []) = (if j ≠ l ∧ tq q j ≤ T then tq q j :: pre F' (uq q j) j T else []) := fun j hj => by
        by_cases c : j ≠ l ∧ tq q j ≤ T
        · rw [if_pos c, if_pos c]
          have hu := h.up hj c.1
          have he := h.2.1
          have hq : uq q j j = tq q j := by rw [uq_at, if_pos rfl]
          rw [ih F' (h.step hj c.1) (by rw [hq]; omega) (by rw [hq]; omega)]
        · rw [if_neg c, if_neg c]
      rw [pre, pre, hb 0 (by omega), hb 1 (by omega), hb 2 (by omega), hb 3 (by omega)]
/-- the circles behind (q, l) up to T, without fuel -/
def PR (q : Nat → Int) (l : Nat) (T : Int) : List Int := pre (T - q l).toNat q l T
def bk (q : Nat → Int) (l : Nat) (T : Int) (i : Nat) : List Int := if i ≠ l ∧ tq q i ≤ T then tq q i :: PR (uq q i) i T else []
/-- from the place p on -/
def fr (q : Nat → Int) (l : Nat) (T : Int) : Nat → List Int
  | 0 => bk q l T 0 ++ (bk q l T 1 ++ (bk q l T 2 ++ bk q l T 3))
  | 1 => bk q l T 1 ++ (bk q l T 2 ++ bk q l T 3)
  | 2 => bk q l T 2 ++ bk q l T 3
  | 3 => bk q l T 3
  | _ => []
theorem fr_st (q : Nat → Int) (l : Nat) (T : Int) {p : Nat} (hp : p < 4) : fr q l T p = bk q l T p ++ fr q l T (p + 1) := by
  match p, hp with
  | 0, _ => rfl
  | 1, _ => rfl
  | 2, _ => rfl
  | 3, _ => exact (List.append_nil _).symm
theorem PR_fr {q : Nat → Int} {l : Nat} {T : Int} (h : NI q l) : PR q l T = fr q l T 0 := by
  unfold PR
  rw [pre_st _ ((T - q l).toNat + 1) h (by omega) (by omega), pre]
  have hb : ∀ j, j < 4 → (if j ≠ l ∧ tq q j ≤ T then tq q j :: pre (T - q l).toNat (uq q j) j T else []) = bk q l T j := fun j hj => by
    unfold bk
    by_cases c : j ≠ l ∧ tq q j ≤ T
    · rw [if_pos c, if_pos c]
      have hu := h.up hj c.1
      have he := h.2.1
      have hq : uq q j j = tq q j := by rw [uq_at, if_pos rfl]
      unfold PR
      rw [pre_st _ (T - uq q j j).toNat (h.step hj c.1) (by rw [hq]; omega) (by omega)]
    · rw [if_neg c, if_neg c]
  rw [hb 0 (by omega), hb 1 (by omega), hb 2 (by omega), hb 3 (by omega)]
  rfl
theorem pre_root {q : Nat → Int} {T : Int} (h : RO q) : pre (T - q 3 + 1).toNat q 4 T = fr q 4 T 0 := by
  by_cases hT : T - q 3 + 1 ≤ 0
  · have hn : ∀ j, j < 4 → ¬ (j ≠ 4 ∧ tq q j ≤ T) := fun j hj hh => by
      have := h.up hj (show 3 < 4 by omega); omega
    have e : (T - q 3 + 1).toNat = 0 := by omega
    rw [e]
    unfold fr bk
    rw [if_neg (hn 0 (by omega)), if_neg (hn 1 (by omega)), if_neg (hn 2 (by omega)), if_neg (hn 3 (by omega))]
    rfl
  · obtain ⟨F, hF⟩ : ∃ F, (T - q 3 + 1).toNat = F + 1 := ⟨(T - q 3).toNat, by omega⟩
    rw [hF, pre]
    have hb : ∀ j, j < 4 → (if j ≠ 4 ∧ tq q j ≤ T then tq q j :: pre F (uq q j) j T else []) = bk q 4 T j := fun j hj => by
      unfold bk
      by_cases c : j ≠ 4 ∧ tq q j ≤ T
      · rw [if_pos c, if_pos c]
        have hu := h.up hj (show 3 < 4 by omega)
        have hq : uq q j j = tq q j := by rw [uq_at, if_pos rfl]
        unfold PR
        rw [pre_st F (T - uq q j j).toNat (NI.ofRoot h hj) (by rw [hq]; omega) (by omega)]
      · rw [if_neg c, if_neg c]
    rw [hb 0 (by omega), hb 1 (by omega), hb 2 (by omega), hb 3 (by omega)]
    rfl
