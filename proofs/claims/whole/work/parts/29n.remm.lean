/-! remainders: the model -/
theorem mne {m : Nat} (h2 : 2 ≤ m) (h12 : m ≤ 12) : ¬ nI m = 0 := by rw [show (0 : Int32) = nI 0 from rfl, nI_eq (by omega) (by omega)]; omega
theorem dgm (k : Nat) {m c p : Nat} (h2 : 2 ≤ m) (h12 : m ≤ 12) (hc : c < 20736) (hp : p < 4) : pX9_digit (k + 5) (nI c) (nI p) (nI m) = some (nI (dg m c p)) := by
  have hne := mne h2 h12
  have e1 := pk_div (a := c) (d := m) (by omega) (by omega) (by omega)
  have l1 : c / m < 2 ^ 31 := Nat.lt_of_le_of_lt (Nat.div_le_self _ _) (by omega)
  have l2 : c / m / m < 2 ^ 31 := Nat.lt_of_le_of_lt (Nat.div_le_self _ _) l1
  have l3 : c / m / m / m < 2 ^ 31 := Nat.lt_of_le_of_lt (Nat.div_le_self _ _) l2
  have e2 := pk_div (a := c / m) (d := m) l1 (by omega) (by omega)
  have e3 := pk_div (a := c / m / m) (d := m) l2 (by omega) (by omega)
  have r0 := pk_rem (a := c) (d := m) (by omega) (by omega) (by omega)
  have r1 := pk_rem (a := c / m) (d := m) l1 (by omega) (by omega)
  have r2 := pk_rem (a := c / m / m) (d := m) l2 (by omega) (by omega)
  have r3 := pk_rem (a := c / m / m / m) (d := m) l3 (by omega) (by omega)
  match p, hp with
  | 0, _ =>
    rw [pX9_digit, pX9_digit_L5, if_pos (by decide), ck_t hne, r0]
    unfold dg; rw [dv0]
  | 1, _ =>
    rw [pX9_digit, pX9_digit_L5, if_neg (by decide), ck_t hne, e1, pX9_digit_L5, if_pos (by decide), ck_t hne, r1]
    unfold dg; rw [dv1]
  | 2, _ =>
    rw [pX9_digit, pX9_digit_L5, if_neg (by decide), ck_t hne, e1, pX9_digit_L5, if_neg (by decide), ck_t hne, e2, pX9_digit_L5, if_pos (by decide), ck_t hne, r2]
    unfold dg; rw [dv2]
  | 3, _ =>
    rw [pX9_digit, pX9_digit_L5, if_neg (by decide), ck_t hne, e1, pX9_digit_L5, if_neg (by decide), ck_t hne, e2, pX9_digit_L5, if_neg (by decide), ck_t hne, e3, pX9_digit_L5, if_pos (by decide), ck_t hne, r3]
    unfold dg; rw [dv3]
theorem pwm (k m : Nat) {p : Nat} (hp : p < 4) : pX9_power (k + 5) (nI m) (nI p) = some (nI (m ^ p)) := by
  match p, hp with
  | 0, _ => rfl
  | 1, _ =>
    rw [pX9_power, pX9_power_L4, if_neg (by decide), pX9_power_L4, if_pos (by decide), show (1 : Int32) = nI 1 from rfl, pk_mul, Nat.pow_one, Nat.one_mul]
  | 2, _ =>
    rw [pX9_power, pX9_power_L4, if_neg (by decide), pX9_power_L4, if_neg (by decide), pX9_power_L4, if_pos (by decide), show (1 : Int32) = nI 1 from rfl, pk_mul, pk_mul, Nat.pow_two, Nat.one_mul]
  | 3, _ =>
    rw [pX9_power, pX9_power_L4, if_neg (by decide), pX9_power_L4, if_neg (by decide), pX9_power_L4, if_neg (by decide), pX9_power_L4, if_pos (by decide), show (1 : Int32) = nI 1 from rfl, pk_mul, pk_mul, pk_mul, Nat.pow_succ, Nat.pow_two, Nat.one_mul]
theorem ar_1 (a b c : Int32) : a - b + c = a + c - b := by grind
theorem ar_2 (a b c d : Int32) : a + (b - c) * d = a - c * d + b * d := by grind
theorem tbm (k : Nat) {m c p : Nat} (h2 : 2 ≤ m) (h12 : m ≤ 12) (hc : c < m ^ 4) (hp : p < 4) : pX9_turnedBy (k + 10) (nI c) (nI p) (nI m) = some (nI (tc m c p)) := by
  have hc20 := Nat.lt_of_lt_of_le hc (pw12 h12)
  have l0 := dg_lt (show 0 < m by omega) c 0; have l1 := dg_lt (show 0 < m by omega) c 1; have l2 := dg_lt (show 0 < m by omega) c 2; have l3 := dg_lt (show 0 < m by omega) c 3
  have lp := dg_lt (show 0 < m by omega) c p
  have hle : dg m c p ≤ dg m c 0 + dg m c 1 + dg m c 2 + dg m c 3 := by
    match p, hp with
    | 0, _ => omega
    | 1, _ => omega
    | 2, _ => omega
    | 3, _ => omega
  have d0 := dgm (k + 4) h2 h12 hc20 (show 0 < 4 by omega)
  have d1 := dgm (k + 3) h2 h12 hc20 (show 1 < 4 by omega)
  have d2 := dgm (k + 2) h2 h12 hc20 (show 2 < 4 by omega)
  have d3 := dgm (k + 1) h2 h12 hc20 (show 3 < 4 by omega)
  have dp := dgm (k + 5) h2 h12 hc20 hp
  have pp := pwm (k + 5) m hp
  rw [pX9_turnedBy, pX9_turnedBy_L5, if_neg (by decide)]
  refine (show Option.bind (pX9_digit (k + 4 + 5) (nI c) (nI 0) (nI m)) _ = _ from ?_)
  rw [d0, Option.bind_some, pX9_turnedBy_L5, if_neg (by decide)]
  refine (show Option.bind (pX9_digit (k + 3 + 5) (nI c) (nI 1) (nI m)) _ = _ from ?_)
  rw [d1, Option.bind_some, pX9_turnedBy_L5, if_neg (by decide)]
  refine (show Option.bind (pX9_digit (k + 2 + 5) (nI c) (nI 2) (nI m)) _ = _ from ?_)
  rw [d2, Option.bind_some, pX9_turnedBy_L5, if_neg (by decide)]
  refine (show Option.bind (pX9_digit (k + 1 + 5) (nI c) (nI 3) (nI m)) _ = _ from ?_)
  rw [d3, Option.bind_some, pX9_turnedBy_L5, if_pos (by decide)]
  refine (show Option.bind (pX9_digit (k + 5 + 5) (nI c) (nI p) (nI m)) _ = _ from ?_)
  rw [dp, Option.bind_some, ck_t (mne h2 h12)]
  refine (show Option.bind (pX9_power (k + 5 + 5) (nI m) (nI p)) _ = _ from ?_)
  rw [pp, Option.bind_some, show (0 : Int32) = nI 0 from rfl, nI_add, nI_add, nI_add, nI_add, Nat.zero_add, pk_sub hle, show (2 : Int32) = nI 2 from rfl, pk_mul, ar_1, nI_add, pk_sub (by omega), pk_rem (by omega) (by omega) (by omega)]
  obtain ⟨s1, s2⟩ := st_eq (show 0 < m by omega) hc p (tw m c p) hp
  rw [show (2 * (dg m c 0 + dg m c 1 + dg m c 2 + dg m c 3 - dg m c p) + m - dg m c p) % m = tw m c p from rfl, ar_2, pk_mul, pk_mul, pk_sub s2, nI_add]
  rfl
def QM (Q : List Nat) (size : Int32) (met queue : Nat → Int32) : Prop := size = nI Q.length ∧ (∀ i c, Q[i]? = some c → queue i = nI c) ∧ ∀ c, c < 20736 → met c = if c ∈ Q then 1 else 0
theorem qm_add {Q : List Nat} {size : Int32} {met queue : Nat → Int32} (hQ : QM Q size met queue) {w : Nat} (hw : w ∉ Q) : QM (addq Q w) (size + 1) (upd met w 1) (upd queue Q.length (nI w)) := by
  obtain ⟨q1, q2, q3⟩ := hQ
  unfold addq; rw [if_neg hw]
  refine ⟨by rw [List.length_append, q1]; exact nI_add _ 1, fun i c hi => ?_, fun c hc' => ?_⟩
  · by_cases q : i < Q.length
    · rw [List.getElem?_append_left q] at hi
      rw [pk_un (by omega)]; exact q2 i c hi
    · rw [List.getElem?_append_right (by omega)] at hi
      have : i - Q.length = 0 := by
        by_cases q' : i - Q.length = 0
        · exact q'
        · rw [List.getElem?_eq_none (by simp; omega)] at hi; exact absurd hi (by simp)
      rw [this] at hi
      simp only [List.getElem?_cons_zero, Option.some.injEq] at hi
      obtain rfl : i = Q.length := by omega
      rw [pk_us, hi]
  · by_cases q : c = w
    · subst q; rw [pk_us, if_pos (by simp)]
    · rw [pk_un q, q3 c hc']
      simp [q]
theorem sm_eq (k : Nat) {m c0 c p s x : Nat} (h2 : 2 ≤ m) (h12 : m ≤ 12) (hc : GC m c0 c) (hp : p < 4) (hx : x < 20736) {Q : List Nat} (ho : OQ m c0 Q) (hQx : Q[x]? = some c) {size : Int32} {met queue : Nat → Int32} (hQ : QM Q size met queue) (kk : Int32 → Int32 → Int32 → (Nat → Int32) → (Nat → Int32) → Option (Int32 × (Nat → Int32) × (Nat → Int32))) : ∃ s2 m2 q2, pX9_findRemainders_L88 (nI m) (nI x) (k + 10 + 1) size (nI s) (nI p) met queue kk = pX9_findRemainders_L88 (nI m) (nI x) (k + 10) s2 (nI (s ||| 2 ^ dg m c p)) (nI (p + 1)) m2 q2 kk ∧ QM (addq Q (tc m c p)) s2 m2 q2 := by
  have hd := dg_lt (show 0 < m by omega) c p
  have hc20 := Nat.lt_of_lt_of_le hc.1 (pw12 h12)
  have ht20 := Nat.lt_of_lt_of_le (tc_lt (show 0 < m by omega) hc.1 hp) (pw12 h12)
  have hl := orb_le h2 h12 ho.1 ho.2
  have d1 := dgm (k + 5) h2 h12 hc20 hp
  have t1 := tbm k h2 h12 hc.1 hp
  rw [pX9_findRemainders_L88, if_neg (by rw [show (4 : Int32) = nI 4 from rfl, nI_leI (by omega) (by omega)]; omega), ck_t (ix_nI hx (by omega)), nI_clamp (show x < 2 ^ 31 by omega), hQ.2.1 x c hQx]
  refine (show ∃ s2 m2 q2, Option.bind (pX9_digit (k + 5 + 5) (nI c) (nI p) (nI m)) _ = _ ∧ _ from ?_)
  rw [d1, Option.bind_some, t1, Option.bind_some, ck_t (ix_nI ht20 (by omega)), nI_clamp (show tc m c p < 2 ^ 31 by omega), or_d s (by omega), show nI p + 1 = nI (p + 1) from nI_add p 1, hQ.2.2 _ ht20]
  by_cases q : tc m c p ∈ Q
  · refine ⟨size, met, queue, ?_, ?_⟩
    · rw [if_pos q, if_neg (by decide)]
    · unfold addq; rw [if_pos q]; exact hQ
  · refine ⟨size + 1, upd met (tc m c p) 1, upd queue Q.length (nI (tc m c p)), ?_, qm_add hQ q⟩
    rw [if_neg q, if_pos rfl, hQ.1, ck_t (ix_nI (show Q.length < 20736 by omega) (by omega)), nI_clamp (by omega)]
theorem addq_at {Q : List Nat} {w x c : Nat} (h : Q[x]? = some c) : (addq Q w)[x]? = some c := by
  unfold addq
  by_cases q : w ∈ Q
  · rw [if_pos q]; exact h
  · rw [if_neg q, List.getElem?_append_left]
    · exact h
    · obtain ⟨h1, -⟩ := List.getElem?_eq_some_iff.mp h; exact h1
theorem m4_eq (k : Nat) {m c0 c s x : Nat} (h2 : 2 ≤ m) (h12 : m ≤ 12) (hc : GC m c0 c) (hx : x < 20736) {Q : List Nat} (ho : OQ m c0 Q) (hQx : Q[x]? = some c) {size : Int32} {met queue : Nat → Int32} (hQ : QM Q size met queue) (kk : Int32 → Int32 → Int32 → (Nat → Int32) → (Nat → Int32) → Option (Int32 × (Nat → Int32) × (Nat → Int32))) : ∃ s2 m2 q2, pX9_findRemainders_L88 (nI m) (nI x) (k + 14) size (nI s) 0 met queue kk = kk s2 (nI (bfs m c s)) 4 m2 q2 ∧ QM (bfq m c Q) s2 m2 q2 := by
  have hm : 0 < m := by omega
  obtain ⟨s1, m1, q1, a1, a2⟩ := sm_eq (k + 3) (s := s) (p := 0) h2 h12 hc (by omega) hx ho hQx hQ kk
  obtain ⟨s2, m2, q2, b1, b2⟩ := sm_eq (k + 2) (s := s ||| 2 ^ dg m c 0) (p := 1) h2 h12 hc (by omega) hx (ho.add hm hc (p := 0) (by omega)) (addq_at hQx) a2 kk
  obtain ⟨s3, m3, q3, c1, c2⟩ := sm_eq (k + 1) (s := s ||| 2 ^ dg m c 0 ||| 2 ^ dg m c 1) (p := 2) h2 h12 hc (by omega) hx ((ho.add hm hc (p := 0) (by omega)).add hm hc (p := 1) (by omega)) (addq_at (addq_at hQx)) b2 kk
  obtain ⟨s4, m4, q4, d1, d2⟩ := sm_eq k (s := s ||| 2 ^ dg m c 0 ||| 2 ^ dg m c 1 ||| 2 ^ dg m c 2) (p := 3) h2 h12 hc (by omega) hx (((ho.add hm hc (p := 0) (by omega)).add hm hc (p := 1) (by omega)).add hm hc (p := 2) (by omega)) (addq_at (addq_at (addq_at hQx))) c2 kk
  refine ⟨s4, m4, q4, ?_, d2⟩
  refine a1.trans (b1.trans (c1.trans (d1.trans ?_)))
  rw [pX9_findRemainders_L88, if_pos (by decide)]
  rfl
theorem ml2_eq (K : Nat) {m c0 : Nat} (h2 : 2 ≤ m) (h12 : m ≤ 12) (kk : Int32 → Int32 → Int32 → (Nat → Int32) → (Nat → Int32) → Option (Int32 × (Nat → Int32) × (Nat → Int32))) : ∀ (d F x s : Nat) (Q : List Nat) (size : Int32) (met queue : Nat → Int32), 1220 ≤ x + d → d ≤ F → x ≤ 1220 → OQ m c0 Q → QM Q size met queue → ∃ y3 y5 m2 q2, pX9_findRemainders_L79 (nI m) (K + 14 + d + 1) size (nI s) (nI x) met queue kk = kk y3 (nI (bf m F Q x s)) y5 m2 q2 := by
  intro d
  induction d with
  | zero =>
    intro F x s Q size met queue h1 hF hx ho hQ
    have hl := orb_le h2 h12 ho.1 ho.2
    refine ⟨size, nI x, met, queue, ?_⟩
    rw [pX9_findRemainders_L79, if_pos (by rw [hQ.1, nI_leI (by omega) (by omega)]; omega), bf_none (by omega)]
  | succ d ih =>
    intro F x s Q size met queue h1 hF hx ho hQ
    have hl := orb_le h2 h12 ho.1 ho.2
    rw [show K + 14 + (d + 1) + 1 = K + 14 + d + 1 + 1 by omega, pX9_findRemainders_L79]
    by_cases q : Q.length ≤ x
    · refine ⟨size, nI x, met, queue, ?_⟩
      rw [if_pos (by rw [hQ.1, nI_leI (by omega) (by omega)]; exact q), bf_none q]
    · rw [if_neg (by rw [hQ.1, nI_leI (by omega) (by omega)]; exact q)]
      obtain ⟨c, hc⟩ : ∃ c, Q[x]? = some c := ⟨Q[x]'(by omega), List.getElem?_eq_getElem (by omega)⟩
      have hg := ho.2 c (List.mem_of_getElem? hc)
      obtain ⟨s2, m2, q2', v1, v2⟩ := m4_eq (K + d + 1) (s := s) h2 h12 hg (show x < 20736 by omega) ho hc hQ (fun (y3_17 : Int32) (y4_17 : Int32) (y6_17 : Int32) (u17_isMet : (Nat → Int32)) (u17_queue : (Nat → Int32)) => pX9_findRemainders_L79 (nI m) (K + 14 + d + 1) y3_17 y4_17 (nI x + (1 : Int32)) u17_isMet u17_queue kk)
      rw [show K + d + 1 + 14 = K + 14 + d + 1 by omega] at v1
      obtain ⟨F', rfl⟩ : ∃ F', F = F' + 1 := ⟨F - 1, by omega⟩
      rw [bf_some hc]
      obtain ⟨y3, y5, m3, q3, w1⟩ := ih F' (x + 1) (bfs m c s) (bfq m c Q) s2 m2 q2' (by omega) (by omega) (by omega) (ho.bfq (by omega) hg) v2
      refine ⟨y3, y5, m3, q3, v1.trans ?_⟩
      rw [show nI x + 1 = nI (x + 1) from nI_add x 1]
      exact w1
theorem mf_eq (k : Nat) (kk : Int32 → (Nat → Int32) → Option (Int32 × (Nat → Int32) × (Nat → Int32))) : ∀ (d i : Nat) (met : Nat → Int32), i + d = 20736 → ∃ z, pX9_findRemainders_L2 (k + d + 1) (nI i) met kk = kk (nI 20736) z ∧ (∀ j, i ≤ j → j < 20736 → z j = 0) ∧ ∀ j, j < i → z j = met j := by
  intro d
  induction d with
  | zero =>
    intro i met h
    obtain rfl : i = 20736 := by omega
    refine ⟨met, ?_, fun j h1 h2 => absurd h2 (by omega), fun _ _ => rfl⟩
    rw [pX9_findRemainders_L2, if_pos (by decide)]
  | succ d ih =>
    intro i met h
    rw [show k + (d + 1) + 1 = k + d + 1 + 1 by omega, pX9_findRemainders_L2, if_neg (by rw [show (20736 : Int32) = nI 20736 from rfl, nI_leI (by omega) (by omega)]; omega), ck_t (ix_nI (show i < 20736 by omega) (by omega)), nI_clamp (by omega), show nI i + 1 = nI (i + 1) from nI_add i 1]
    obtain ⟨z, e1, e2, e3⟩ := ih (i + 1) (upd met i 0) (by omega)
    refine ⟨z, e1, fun j h1 h2 => ?_, fun j h1 => ?_⟩
    · by_cases q : j = i
      · rw [e3 j (by omega), q, pk_us]
      · exact e2 j (by omega) h2
    · rw [e3 j (by omega), pk_un (by omega)]
theorem mr_1 {a : Int64} (ha : -1000000000 ≤ a.toInt ∧ a.toInt ≤ 1000000000) {m : Nat} (h2 : 2 ≤ m) (h12 : m ≤ 12) : ((((a - a / lN m * lN m) + lN m) - ((a - a / lN m * lN m) + lN m) / lN m * lN m)).toInt32 = nI ((a.toInt % (m : Int)).toNat) := by
  have e := mm64 (a := a) (b := lN m) (m := (m : Int)) (pk_lT (by omega)) (by omega) (by omega) (by omega) (by omega)
  have hl := em_lt a.toInt (show 0 < m by omega)
  have hr : ((((a - a / lN m * lN m) + lN m) - ((a - a / lN m * lN m) + lN m) / lN m * lN m)) = lN (a.toInt % (m : Int)).toNat := by rw [i64_eq, pk_lT (by omega), e, hl.2]
  rw [hr, lN_i]
theorem qm_1 {z queue : Nat → Int32} (hz : ∀ j, j < 20736 → z j = 0) (w : Nat) : QM [w] (nI 1) (upd z w 1) (upd queue 0 (nI w)) := by
  have h0 : QM [] (nI 0) z queue := ⟨rfl, fun i c h => absurd h (by simp), fun c hc => by rw [hz c hc]; simp⟩
  have h1 := qm_add h0 (w := w) (by simp)
  rw [show addq [] w = [w] by unfold addq; rw [if_neg (by simp)]; rfl, show nI 0 + 1 = nI 1 from nI_add 0 1, List.length_nil] at h1
  exact h1
theorem m26_eq (k : Nat) {root : Nat → Int64} (hb : Bd 1000000000 root) {m : Nat} (h2 : 2 ≤ m) (h12 : m ≤ 12) (kk : Int32 → Int32 → Option (Int32 × (Nat → Int32) × (Nat → Int32))) : ∃ y, pX9_findRemainders_L26 (nI m) root (k + 5) (0 : Int32) (3 : Int32) kk = kk (nI (rcode (zq root) m)) y := by
  have i3 : (3 : Int32).toNatClampNeg = 3 := rfl
  have i2 : (3 + -1 : Int32).toNatClampNeg = 2 := rfl
  have i1 : (3 + -1 + -1 : Int32).toNatClampNeg = 1 := rfl
  have i0 : (3 + -1 + -1 + -1 : Int32).toNatClampNeg = 0 := rfl
  have hl0 : ¬ lN m = 0 := by rw [show (0 : Int64) = lN 0 from rfl, pk_lEQ (by omega) (by decide)]; omega
  have hcode : (((nI 0 * nI m + nI (((root 3).toInt % (m : Int)).toNat)) * nI m + nI (((root 2).toInt % (m : Int)).toNat)) * nI m + nI (((root 1).toInt % (m : Int)).toNat)) * nI m + nI (((root 0).toInt % (m : Int)).toNat) = nI (rcode (zq root) m) := by
    simp only [pk_mul, nI_add]
    have hp : rcode (zq root) m = pk4 m ((root 0).toInt % (m : Int)).toNat ((root 1).toInt % (m : Int)).toNat ((root 2).toInt % (m : Int)).toNat ((root 3).toInt % (m : Int)).toNat := rfl
    rw [hp]
    generalize ((root 0).toInt % (m : Int)).toNat = a0, ((root 1).toInt % (m : Int)).toNat = a1, ((root 2).toInt % (m : Int)).toNat = a2, ((root 3).toInt % (m : Int)).toNat = a3
    rw [show (((0 * m + a3) * m + a2) * m + a1) * m + a0 = pk4 m a0 a1 a2 a3 by unfold pk4; grind]
  refine ⟨3 + -1 + -1 + -1 + -1, ?_⟩
  rw [pX9_findRemainders_L26, if_neg (by decide), ck_t (by decide), nI_l (by omega), ck_t hl0, i3, mr_1 (hb.at (by omega)) h2 h12, pX9_findRemainders_L26, if_neg (by decide), ck_t (by decide), nI_l (by omega), ck_t hl0, i2, mr_1 (hb.at (by omega)) h2 h12, pX9_findRemainders_L26, if_neg (by decide), ck_t (by decide), nI_l (by omega), ck_t hl0, i1, mr_1 (hb.at (by omega)) h2 h12, pX9_findRemainders_L26, if_neg (by decide), ck_t (by decide), nI_l (by omega), ck_t hl0, i0, mr_1 (hb.at (by omega)) h2 h12, pX9_findRemainders_L26, if_pos (by decide), show (0 : Int32) = nI 0 from rfl, hcode]
theorem rm_eq {n : Nat} (hn : FU ≤ n) {root : Nat → Int64} (hg : GB root) {m : Nat} (h2 : 2 ≤ m) (h12 : m ≤ 12) (met queue : Nat → Int32) : ∃ R, pX9_findRemainders n root met queue (nI m) = some R ∧ R.1 = RM (zq root) m := by
  have hn5 := fu1 hn
  have hs := gc_start (q := zq root) (m := m) hg.1 (by omega)
  have h20 := Nat.lt_of_lt_of_le hs.1 (pw12 h12)
  obtain ⟨k1, hk1⟩ : ∃ k, n = k + 20736 + 1 := ⟨n - 20737, by omega⟩
  obtain ⟨k2, hk2⟩ : ∃ k, n = k + 5 := ⟨n - 5, by omega⟩
  obtain ⟨k3, hk3⟩ : ∃ k, n = k + 14 + 1220 + 1 := ⟨n - 1235, by omega⟩
  obtain ⟨z, f1, f2, -⟩ := mf_eq k1 (fun (y2_3 : Int32) (u3_isMet : (Nat → Int32)) => pX9_findRemainders_L26 (nI m) root n (0 : Int32) (3 : Int32) (fun (y2_7 : Int32) (y3_7 : Int32) => ck (ix y2_7 20736) (pX9_findRemainders_L79 (nI m) n (1 : Int32) (0 : Int32) (0 : Int32) (upd u3_isMet y2_7.toNatClampNeg (1 : Int32)) (upd queue (0 : Int32).toNatClampNeg y2_7) (fun (y3_18 : Int32) (y4_18 : Int32) (y5_18 : Int32) (u18_isMet : (Nat → Int32)) (u18_queue : (Nat → Int32)) => some (y4_18, u18_isMet, u18_queue))))) 20736 0 met rfl
  rw [← hk1] at f1
  obtain ⟨y, g1⟩ := m26_eq k2 hg.2 h2 h12 (fun (y2_7 : Int32) (y3_7 : Int32) => ck (ix y2_7 20736) (pX9_findRemainders_L79 (nI m) n (1 : Int32) (0 : Int32) (0 : Int32) (upd z y2_7.toNatClampNeg (1 : Int32)) (upd queue (0 : Int32).toNatClampNeg y2_7) (fun (y3_18 : Int32) (y4_18 : Int32) (y5_18 : Int32) (u18_isMet : (Nat → Int32)) (u18_queue : (Nat → Int32)) => some (y4_18, u18_isMet, u18_queue))))
  rw [← hk2] at g1
  have hQ1 := qm_1 (queue := queue) (fun j hj => f2 j (by omega) hj) (rcode (zq root) m)
  obtain ⟨y3, y5, m2, q2, w⟩ := ml2_eq k3 (c0 := rcode (zq root) m) h2 h12 (fun (y3_18 : Int32) (y4_18 : Int32) (y5_18 : Int32) (u18_isMet : (Nat → Int32)) (u18_queue : (Nat → Int32)) => some (y4_18, u18_isMet, u18_queue)) 1220 20737 0 0 [rcode (zq root) m] (nI 1) (upd z (rcode (zq root) m) 1) (upd queue 0 (nI (rcode (zq root) m))) (by omega) (by omega) (by omega) ⟨by simp, fun x hx => by rw [List.mem_singleton] at hx; rw [hx]; exact hs⟩ hQ1
  rw [← hk3] at w
  refine ⟨(nI (bf m 20737 [rcode (zq root) m] 0 0), m2, q2), ?_, rfl⟩
  rw [pX9_findRemainders]
  refine f1.trans (g1.trans ?_)
  rw [ck_t (ix_nI h20 (by omega)), nI_clamp (by omega), tn_0]
  exact w
