theorem addq_nd {Q : List Nat} {c : Nat} (h : Q.Nodup) : (addq Q c).Nodup := by
  unfold addq
  by_cases q : c ∈ Q
  · rw [if_pos q]; exact h
  · rw [if_neg q, List.nodup_append]
    refine ⟨h, by simp, fun a ha b hb => ?_⟩
    rw [List.mem_singleton] at hb
    subst hb
    exact fun e => q (e ▸ ha)
theorem addq_mem {Q : List Nat} {c x : Nat} (h : x ∈ addq Q c) : x ∈ Q ∨ x = c := by
  unfold addq at h
  by_cases q : c ∈ Q
  · rw [if_pos q] at h; exact Or.inl h
  · rw [if_neg q, List.mem_append, List.mem_singleton] at h; exact h
/-- a queue of codes, each once, all of one orbit -/
def OQ (m c0 : Nat) (Q : List Nat) : Prop := Q.Nodup ∧ ∀ x, x ∈ Q → GC m c0 x
theorem OQ.add {m c0 c p : Nat} {Q : List Nat} (hm : 0 < m) (h : OQ m c0 Q) (hc : GC m c0 c) (hp : p < 4) : OQ m c0 (addq Q (tc m c p)) := by
  refine ⟨addq_nd h.1, fun x hx => ?_⟩
  rcases addq_mem hx with h1 | h1
  · exact h.2 x h1
  · rw [h1]; exact hc.tc hm hp
theorem OQ.room {m c0 c p : Nat} {Q : List Nat} (h2 : 2 ≤ m) (h12 : m ≤ 12) (h : OQ m c0 Q) (hc : GC m c0 c) (hp : p < 4) (hn : tc m c p ∉ Q) : Q.length < 1220 := by
  have h3 := h.add (by omega) hc hp
  have h4 := orb_le h2 h12 h3.1 h3.2
  unfold addq at h4
  rw [if_neg hn, List.length_append] at h4
  simp only [List.length_cons, List.length_nil] at h4
  omega
theorem OQ.bfq {m c0 c : Nat} {Q : List Nat} (hm : 0 < m) (h : OQ m c0 Q) (hc : GC m c0 c) : OQ m c0 (bfq m c Q) := (((h.add hm hc (p := 0) (by omega)).add hm hc (p := 1) (by omega)).add hm hc (p := 2) (by omega)).add hm hc (p := 3) (by omega)
theorem sx_eq (k : Nat) {m c0 c p s : Nat} (h2 : 2 ≤ m) (h12 : m ≤ 12) (hc : GC m c0 c) (hp : p < 4) {f : Nat → Int32} (hf : FD m c f) {Q : List Nat} (ho : OQ m c0 Q) {size : Int32} {met : Nat → Int64} {queue : Nat → Int32} (hQ : QX Q size met queue) (kk : Int32 → Int32 → Int32 → (Nat → Int64) → (Nat → Int32) → (Nat → Int32) → Option (Int32 × Int32 × (Nat → Int64) × (Nat → Int32) × (Nat → Int32))) : ∃ s2 m2 q2 f2, pX2_remaindersOf_L79 (nI m) (k + 5 + 1) (nI s) (nI p) size met queue f kk = pX2_remaindersOf_L79 (nI m) (k + 5) (nI (s ||| 2 ^ dg m c p)) (nI (p + 1)) s2 m2 q2 f2 kk ∧ QX (addq Q (tc m c p)) s2 m2 q2 ∧ FD m c f2 := by
  obtain ⟨s2, m2, q2, f2, e1, e2, e3⟩ := mt_eq k h2 h12 hc.1 hp hf hQ (ho.room h2 h12 hc hp)
  refine ⟨s2, m2, q2, f2, ?_, e2, e3⟩
  have hd := dg_lt (show 0 < m by omega) c p
  rw [pX2_remaindersOf_L79, if_neg (by rw [show (4 : Int32) = nI 4 from rfl, nI_leI (by omega) (by omega)]; omega), ck_t (ix_nI hp (by omega)), e1, Option.bind_some, nI_clamp (by omega), hf p hp, or_d s (by omega), show nI p + 1 = nI (p + 1) from nI_add p 1]
theorem s4_eq (k : Nat) {m c0 c s : Nat} (h2 : 2 ≤ m) (h12 : m ≤ 12) (hc : GC m c0 c) {f : Nat → Int32} (hf : FD m c f) {Q : List Nat} (ho : OQ m c0 Q) {size : Int32} {met : Nat → Int64} {queue : Nat → Int32} (hQ : QX Q size met queue) (kk : Int32 → Int32 → Int32 → (Nat → Int64) → (Nat → Int32) → (Nat → Int32) → Option (Int32 × Int32 × (Nat → Int64) × (Nat → Int32) × (Nat → Int32))) : ∃ s2 m2 q2 f2, pX2_remaindersOf_L79 (nI m) (k + 9) (nI s) 0 size met queue f kk = kk (nI (bfs m c s)) 4 s2 m2 q2 f2 ∧ QX (bfq m c Q) s2 m2 q2 := by
  have hm : 0 < m := by omega
  obtain ⟨s1, m1, q1, f1, a1, a2, a3⟩ := sx_eq (k + 3) (s := s) (p := 0) h2 h12 hc (by omega) hf ho hQ kk
  obtain ⟨s2, m2, q2, f2, b1, b2, b3⟩ := sx_eq (k + 2) (s := s ||| 2 ^ dg m c 0) (p := 1) h2 h12 hc (by omega) a3 (ho.add hm hc (p := 0) (by omega)) a2 kk
  obtain ⟨s3, m3, q3, f3, c1, c2, c3⟩ := sx_eq (k + 1) (s := s ||| 2 ^ dg m c 0 ||| 2 ^ dg m c 1) (p := 2) h2 h12 hc (by omega) b3 ((ho.add hm hc (p := 0) (by omega)).add hm hc (p := 1) (by omega)) b2 kk
  obtain ⟨s4, m4, q4, f4, d1, d2, d3⟩ := sx_eq k (s := s ||| 2 ^ dg m c 0 ||| 2 ^ dg m c 1 ||| 2 ^ dg m c 2) (p := 3) h2 h12 hc (by omega) c3 (((ho.add hm hc (p := 0) (by omega)).add hm hc (p := 1) (by omega)).add hm hc (p := 2) (by omega)) c2 kk
  refine ⟨s4, m4, q4, f4, ?_, d2⟩
  refine a1.trans (b1.trans (c1.trans (d1.trans ?_)))
  rw [pX2_remaindersOf_L79, if_pos (by decide)]
  rfl
theorem un_eq (k m c : Nat) (h2 : 2 ≤ m) (h12 : m ≤ 12) (hc : c < 20736) (f : Nat → Int32) : ∃ z, pX2_unpack (k + 5) f (nI c) (nI m) = some z ∧ FD m c z := by
  have hne : ¬ nI m = 0 := by rw [show (0 : Int32) = nI 0 from rfl, nI_eq (by omega) (by omega)]; omega
  have e1 := pk_div (a := c) (d := m) (by omega) (by omega) (by omega)
  have l1 : c / m < 2 ^ 31 := Nat.lt_of_le_of_lt (Nat.div_le_self _ _) (by omega)
  have l2 : c / m / m < 2 ^ 31 := Nat.lt_of_le_of_lt (Nat.div_le_self _ _) l1
  have l3 : c / m / m / m < 2 ^ 31 := Nat.lt_of_le_of_lt (Nat.div_le_self _ _) l2
  have e2 := pk_div (a := c / m) (d := m) l1 (by omega) (by omega)
  have e3 := pk_div (a := c / m / m) (d := m) l2 (by omega) (by omega)
  have r0 := pk_rem (a := c) (d := m) (by omega) (by omega) (by omega)
  have r1 := pk_rem (a := c / m) (d := m) l1 (by omega) (by omega)
  have r2 := pk_rem (a := c / m / m) (d := m) l2 (by omega) (by omega)
  have r3 := pk_rem (a := c / m / m / m) (d := m) l3 (by omega) (by omega)
  refine ⟨upd (upd (upd (upd f 0 (nI (c % m))) 1 (nI (c / m % m))) 2 (nI (c / m / m % m))) 3 (nI (c / m / m / m % m)), ?_, ?_⟩
  · rw [pX2_unpack, pX2_unpack_L5, if_neg (by decide), ck_t hne, ck_t (by decide), r0, e1, pX2_unpack_L5, if_neg (by decide), ck_t hne, ck_t (by decide), r1, e2, pX2_unpack_L5, if_neg (by decide), ck_t hne, ck_t (by decide), r2, e3, pX2_unpack_L5, if_neg (by decide), ck_t hne, ck_t (by decide), r3, pX2_unpack_L5, if_pos (by decide)]
    rfl
  · intro q hq
    match q, hq with
    | 0, _ => show nI (c % m) = _; unfold dg; rw [dv0]
    | 1, _ => show nI (c / m % m) = _; unfold dg; rw [dv1]
    | 2, _ => show nI (c / m / m % m) = _; unfold dg; rw [dv2]
    | 3, _ => show nI (c / m / m / m % m) = _; unfold dg; rw [dv3]
theorem bfs_lt {m c s : Nat} (hm : 0 < m) (hs : s < 2 ^ m) : bfs m c s < 2 ^ m := by
  have h : ∀ p, 2 ^ dg m c p < 2 ^ m := fun p => Nat.pow_lt_pow_right (by decide) (dg_lt hm c p)
  exact Nat.or_lt_two_pow (Nat.or_lt_two_pow (Nat.or_lt_two_pow (Nat.or_lt_two_pow hs (h 0)) (h 1)) (h 2)) (h 3)
theorem or_all : ∀ m : Fin 13, ∀ d : Fin 12, d.val < m.val → (2 ^ m.val - 1) ||| 2 ^ d.val = 2 ^ m.val - 1 := by decide +kernel
theorem bfs_all {m : Nat} (hm : 0 < m) (h12 : m ≤ 12) (c : Nat) : bfs m c (2 ^ m - 1) = 2 ^ m - 1 := by
  have h : ∀ p, (2 ^ m - 1) ||| 2 ^ dg m c p = 2 ^ m - 1 := fun p => or_all ⟨m, by omega⟩ ⟨dg m c p, by have := dg_lt hm c p; omega⟩ (dg_lt hm c p)
  unfold bfs
  rw [h, h, h, h]
theorem bf_all {m : Nat} (hm : 0 < m) (h12 : m ≤ 12) : ∀ (F : Nat) (Q : List Nat) (x : Nat), bf m F Q x (2 ^ m - 1) = 2 ^ m - 1 := by
  intro F
  induction F with
  | zero => intro Q x; rfl
  | succ F ih =>
    intro Q x
    unfold bf
    cases h : Q[x]? with
    | none => rfl
    | some c => show bf m F (bfq m c Q) (x + 1) (bfs m c (2 ^ m - 1)) = _; rw [bfs_all hm h12]; exact ih _ _
theorem bf_none {m F x s : Nat} {Q : List Nat} (h : Q.length ≤ x) : bf m F Q x s = s := by
  cases F with
  | zero => rfl
  | succ F => unfold bf; rw [List.getElem?_eq_none h]
theorem bf_some {m F x s c : Nat} {Q : List Nat} (h : Q[x]? = some c) : bf m (F + 1) Q x s = bf m F (bfq m c Q) (x + 1) (bfs m c s) := by
  rw [bf, h]
theorem xl_eq (K : Nat) {m c0 : Nat} (h2 : 2 ≤ m) (h12 : m ≤ 12) (kk : Int32 → Int32 → Int32 → (Nat → Int64) → (Nat → Int32) → (Nat → Int32) → Option (Int32 × Int32 × (Nat → Int64) × (Nat → Int32) × (Nat → Int32))) : ∀ (d F x s : Nat) (Q : List Nat) (size : Int32) (met : Nat → Int64) (queue f : Nat → Int32), 1220 ≤ x + d → d ≤ F → x ≤ 1220 → s < 2 ^ m → OQ m c0 Q → QX Q size met queue → ∃ y5 s2 m2 q2 f2, pX2_remaindersOf_L49 (nI m) (nI (2 ^ m - 1)) (K + 9 + d + 1) (nI s) (nI x) size met queue f kk = kk (nI (bf m F Q x s)) y5 s2 m2 q2 f2 := by
  intro d
  induction d with
  | zero =>
    intro F x s Q size met queue f h1 hF hx hs ho hQ
    have hl := orb_le h2 h12 ho.1 ho.2
    refine ⟨nI x, size, met, queue, f, ?_⟩
    rw [pX2_remaindersOf_L49, hQ.1, if_pos (by rw [nI_leI (by omega) (by omega)]; omega), bf_none (by omega)]
  | succ d ih =>
    intro F x s Q size met queue f h1 hF hx hs ho hQ
    have hl := orb_le h2 h12 ho.1 ho.2
    have hp : 2 ^ m ≤ 4096 := Nat.le_trans (Nat.pow_le_pow_right (by decide) h12) (by decide)
    rw [show K + 9 + (d + 1) + 1 = K + 9 + d + 1 + 1 by omega, pX2_remaindersOf_L49]
    by_cases q : Q.length ≤ x
    · refine ⟨nI x, size, met, queue, f, ?_⟩
      rw [hQ.1, if_pos (by rw [nI_leI (by omega) (by omega)]; exact q), bf_none q]
    · rw [if_neg (by rw [hQ.1, nI_leI (by omega) (by omega)]; exact q)]
      by_cases q2 : s = 2 ^ m - 1
      · refine ⟨nI x, size, met, queue, f, ?_⟩
        rw [if_pos (by rw [q2]), q2, bf_all (by omega) h12]
      · rw [if_neg (by rw [nI_eq (by omega) (by omega)]; exact q2), ck_t (ix_nI (show x < 1220 by omega) (by omega)), nI_clamp (by omega)]
        obtain ⟨c, hc⟩ : ∃ c, Q[x]? = some c := ⟨Q[x]'(by omega), List.getElem?_eq_getElem (by omega)⟩
        have hg := ho.2 c (List.mem_of_getElem? hc)
        have hc20 := Nat.lt_of_lt_of_le hg.1 (pw12 h12)
        rw [hQ.2.1 x c hc]
        obtain ⟨z, u1, u2⟩ := un_eq (K + 5 + d) m c h2 h12 hc20 f
        rw [show K + 5 + d + 5 = K + 9 + d + 1 by omega] at u1
        rw [u1, Option.bind_some]
        obtain ⟨s2, m2, q2', f2, v1, v2⟩ := s4_eq (K + d + 1) (s := s) h2 h12 hg u2 ho hQ (fun (y4_14 : Int32) (y6_14 : Int32) (u14_size : Int32) (u14_met : (Nat → Int64)) (u14_queue : (Nat → Int32)) (u14_four : (Nat → Int32)) => pX2_remaindersOf_L49 (nI m) (nI (2 ^ m - 1)) (K + 9 + d + 1) y4_14 (nI x + (1 : Int32)) u14_size u14_met u14_queue u14_four kk)
        rw [show K + d + 1 + 9 = K + 9 + d + 1 by omega] at v1
        obtain ⟨F', rfl⟩ : ∃ F', F = F' + 1 := ⟨F - 1, by omega⟩
        rw [bf_some hc]
        obtain ⟨y5, s3, m3, q3, f3, w1⟩ := ih F' (x + 1) (bfs m c s) (bfq m c Q) s2 m2 q2' f2 (by omega) (by omega) (by omega) (bfs_lt (by omega) hs) (ho.bfq (by omega) hg) v2
        refine ⟨y5, s3, m3, q3, f3, v1.trans ?_⟩
        rw [show nI x + 1 = nI (x + 1) from nI_add x 1]
        exact w1
