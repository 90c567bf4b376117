theorem dn_end {k : Nat} : ∀ {f g : Nat → Int64}, Dn k f g → ¬ tv g (gN g) < g (gN g) := by
  induction k with
  | zero => intro f g h; obtain ⟨h1, h2⟩ := h; subst h1; exact h2
  | succ k ih => intro f g h; exact ih h.2
def PG (f : Nat → Int64) : Prop := GB f ∧ ∀ j, j < 4 → 0 ≤ SI f - 2 * (f j).toInt
theorem ce_pg {f : Nat → Int64} (h : PG f) {i : Nat} (hi : i < 3) : PG (ce i f) := by
  unfold ce
  by_cases q : f i ≤ f (i + 1)
  · rw [if_pos q]; exact h
  · rw [if_neg q]
    obtain ⟨⟨h1, b0, b1, b2, b3⟩, h2⟩ := h
    have e0 := h2 0 (by omega); have e1 := h2 1 (by omega); have e2 := h2 2 (by omega); have e3 := h2 3 (by omega)
    unfold SI at e0 e1 e2 e3
    match i, hi with
    | 0, _ =>
      refine ⟨⟨gq_12 h1, b1, b0, b2, b3⟩, fun j hj => ?_⟩
      match j, hj with
      | 0, _ => show 0 ≤ (f 1).toInt + (f 0).toInt + (f 2).toInt + (f 3).toInt - 2 * (f 1).toInt; omega
      | 1, _ => show 0 ≤ (f 1).toInt + (f 0).toInt + (f 2).toInt + (f 3).toInt - 2 * (f 0).toInt; omega
      | 2, _ => show 0 ≤ (f 1).toInt + (f 0).toInt + (f 2).toInt + (f 3).toInt - 2 * (f 2).toInt; omega
      | 3, _ => show 0 ≤ (f 1).toInt + (f 0).toInt + (f 2).toInt + (f 3).toInt - 2 * (f 3).toInt; omega
    | 1, _ =>
      refine ⟨⟨gq_23 h1, b0, b2, b1, b3⟩, fun j hj => ?_⟩
      match j, hj with
      | 0, _ => show 0 ≤ (f 0).toInt + (f 2).toInt + (f 1).toInt + (f 3).toInt - 2 * (f 0).toInt; omega
      | 1, _ => show 0 ≤ (f 0).toInt + (f 2).toInt + (f 1).toInt + (f 3).toInt - 2 * (f 2).toInt; omega
      | 2, _ => show 0 ≤ (f 0).toInt + (f 2).toInt + (f 1).toInt + (f 3).toInt - 2 * (f 1).toInt; omega
      | 3, _ => show 0 ≤ (f 0).toInt + (f 2).toInt + (f 1).toInt + (f 3).toInt - 2 * (f 3).toInt; omega
    | 2, _ =>
      refine ⟨⟨gq_34 h1, b0, b1, b3, b2⟩, fun j hj => ?_⟩
      match j, hj with
      | 0, _ => show 0 ≤ (f 0).toInt + (f 1).toInt + (f 3).toInt + (f 2).toInt - 2 * (f 0).toInt; omega
      | 1, _ => show 0 ≤ (f 0).toInt + (f 1).toInt + (f 3).toInt + (f 2).toInt - 2 * (f 1).toInt; omega
      | 2, _ => show 0 ≤ (f 0).toInt + (f 1).toInt + (f 3).toInt + (f 2).toInt - 2 * (f 3).toInt; omega
      | 3, _ => show 0 ≤ (f 0).toInt + (f 1).toInt + (f 3).toInt + (f 2).toInt - 2 * (f 2).toInt; omega
/-- what a root is: good, in order, and no turn makes it less -/
theorem rt_facts {f r : Nat → Int64} {k : Nat} (h : GB f) (hr : RT f k r) : GB r ∧ (∀ j, j < 4 → 0 ≤ SI r - 2 * (r j).toInt) ∧ (r 0).toInt ≤ (r 1).toInt ∧ (r 1).toInt ≤ (r 2).toInt ∧ (r 2).toInt ≤ (r 3).toInt := by
  obtain ⟨g, h1, h2⟩ := hr
  obtain ⟨k', g', h3, h4⟩ := dn_ex (SI f).toNat h (by have := h.1.2; unfold SI; omega)
  obtain ⟨-, rfl⟩ := Dn.det h1 h3
  have hpg : PG g := ⟨h4, fun j hj => root_e h4 (dn_end h1) hj⟩
  have hs : PG (srt g) := ce_pg (ce_pg (ce_pg (ce_pg (ce_pg (ce_pg hpg (by omega)) (by omega)) (by omega)) (by omega)) (by omega)) (by omega)
  have ho := (srt_facts g).1
  refine ⟨h2.sym.gb hs.1, fun j hj => ?_, ?_⟩
  · have := hs.2 j hj
    unfold SI at this ⊢
    rw [h2.1, h2.2.1, h2.2.2.1, h2.2.2.2, h2.at hj]; exact this
  · rw [h2.1, h2.2.1, h2.2.2.1, h2.2.2.2]; exact ho
theorem orb_le {m c0 : Nat} (h2 : 2 ≤ m) (h12 : m ≤ 12) {l : List Nat} (hn : l.Nodup) (h : ∀ x, x ∈ l → GC m c0 x) : l.length ≤ 1220 := by
  match m, h2, h12 with
  | 2, _, _ => exact Nat.le_trans (cnt_le _ 4 0 l hn (fun x hx => ⟨Nat.zero_le _, by have := (h x hx).1; omega, pB_of (h x hx)⟩)) cn2
  | 3, _, _ => exact Nat.le_trans (cnt_le _ 7 0 l hn (fun x hx => ⟨Nat.zero_le _, by have := (h x hx).1; omega, pB_of (h x hx)⟩)) cn3
  | 4, _, _ => exact Nat.le_trans (cnt_le _ 8 0 l hn (fun x hx => ⟨Nat.zero_le _, by have := (h x hx).1; omega, pB_of (h x hx)⟩)) cn4
  | 5, _, _ => exact Nat.le_trans (cnt_le _ 10 0 l hn (fun x hx => ⟨Nat.zero_le _, by have := (h x hx).1; omega, pB_of (h x hx)⟩)) cn5
  | 6, _, _ => exact Nat.le_trans (cnt_le _ 11 0 l hn (fun x hx => ⟨Nat.zero_le _, by have := (h x hx).1; omega, pB_of (h x hx)⟩)) cn6
  | 7, _, _ => exact Nat.le_trans (cnt_le _ 12 0 l hn (fun x hx => ⟨Nat.zero_le _, by have := (h x hx).1; omega, pB_of (h x hx)⟩)) cn7
  | 8, _, _ => exact Nat.le_trans (cnt_le _ 12 0 l hn (fun x hx => ⟨Nat.zero_le _, by have := (h x hx).1; omega, pB_of (h x hx)⟩)) cn8
  | 9, _, _ => exact Nat.le_trans (cnt_le _ 13 0 l hn (fun x hx => ⟨Nat.zero_le _, by have := (h x hx).1; omega, pB_of (h x hx)⟩)) cn9
  | 10, _, _ => exact Nat.le_trans (cnt_le _ 14 0 l hn (fun x hx => ⟨Nat.zero_le _, by have := (h x hx).1; omega, pB_of (h x hx)⟩)) cn10
  | 11, _, _ =>
    by_cases q : c0 = 0
    · exact Nat.le_trans (cnt_le (fun c => decide (c = 0)) 0 0 l hn (fun x hx => by
        have := ((h x hx).2.2.1 rfl).mpr q
        exact ⟨Nat.zero_le _, by omega, decide_eq_true this⟩)) (by decide)
    · exact Nat.le_trans (cnt_le _ 14 0 l hn (fun x hx => ⟨Nat.zero_le _, by have := (h x hx).1; omega, by
        have := (h x hx).2.2.1 rfl
        have hx0 : x ≠ 0 := fun h => q (this.mp h)
        rw [pB_of (h x hx), decide_eq_true hx0]; rfl⟩)) cn11
  | 12, _, _ =>
    exact Nat.le_trans (cnt_le _ 15 0 l hn (fun x hx => ⟨Nat.zero_le _, by have := (h x hx).1; omega, by
      have := (h x hx).2.2.2 rfl
      rw [pB_of (h x hx), decide_eq_true this]; rfl⟩)) (cn12 ⟨c0 % 4, Nat.mod_lt _ (by decide)⟩)
theorem em_lt (a : Int) {m : Nat} (hm : 0 < m) : (a % (m : Int)).toNat < m ∧ ((a % (m : Int)).toNat : Int) = a % m := by
  have h2 := Int.emod_nonneg a (show (m : Int) ≠ 0 by omega)
  have h3 := Int.emod_lt_of_pos a (show (0 : Int) < m by omega)
  omega
theorem gc_start {q : Nat → Int} (hq : GQ (q 0) (q 1) (q 2) (q 3)) {m : Nat} (hm : 0 < m) : GC m (rcode q m) (rcode q m) := by
  have l0 := em_lt (q 0) hm; have l1 := em_lt (q 1) hm; have l2 := em_lt (q 2) hm; have l3 := em_lt (q 3) hm
  have hp : rcode q m = pk4 m (q 0 % m).toNat (q 1 % m).toNat (q 2 % m).toNat (q 3 % m).toNat := rfl
  refine ⟨by rw [hp]; exact pk4_lt l0.1 l1.1 l2.1 l3.1, ?_, fun _ => Iff.rfl, fun _ => rfl⟩
  obtain ⟨a, b, c, d⟩ := pk4_dg l0.1 l1.1 l2.1 l3.1
  unfold I4c
  rw [hp, a, b, c, d]
  refine I4.ofz ?_
  rw [l0.2, l1.2, l2.2, l3.2]
  have k0 := Int.emod_def (q 0) m; have k1 := Int.emod_def (q 1) m; have k2 := Int.emod_def (q 2) m; have k3 := Int.emod_def (q 3) m
  have f0 : q 0 % (m : Int) = q 0 + m * (-(q 0 / m)) := by rw [k0, Int.mul_neg]; omega
  have f1 : q 1 % (m : Int) = q 1 + m * (-(q 1 / m)) := by rw [k1, Int.mul_neg]; omega
  have f2 : q 2 % (m : Int) = q 2 + m * (-(q 2 / m)) := by rw [k2, Int.mul_neg]; omega
  have f3 : q 3 % (m : Int) = q 3 + m * (-(q 3 / m)) := by rw [k3, Int.mul_neg]; omega
  have g0 := hq.1
  generalize q 0 % (m : Int) = r0 at f0 ⊢
  generalize q 1 % (m : Int) = r1 at f1 ⊢
  generalize q 2 % (m : Int) = r2 at f2 ⊢
  generalize q 3 % (m : Int) = r3 at f3 ⊢
  have s0 := isoS (m := m) (j := 0) (R := q 1 * q 1 + q 2 * q 2 + q 3 * q 3) (T := q 1 + q 2 + q 3) (a := q 0) (t := r0) (by grind) f0
  generalize hj0 : (0 + -(q 0 / (m : Int)) * (r0 + q 0) - 2 * (q 1 + q 2 + q 3) * -(q 0 / (m : Int))) = j0 at s0
  have s1 := isoS (m := m) (j := j0) (R := r0 * r0 + q 2 * q 2 + q 3 * q 3) (T := r0 + q 2 + q 3) (a := q 1) (t := r1) (by grind) f1
  generalize (j0 + -(q 1 / (m : Int)) * (r1 + q 1) - 2 * (r0 + q 2 + q 3) * -(q 1 / (m : Int))) = j1 at s1
  have s2 := isoS (m := m) (j := j1) (R := r0 * r0 + r1 * r1 + q 3 * q 3) (T := r0 + r1 + q 3) (a := q 2) (t := r2) (by grind) f2
  generalize (j1 + -(q 2 / (m : Int)) * (r2 + q 2) - 2 * (r0 + r1 + q 3) * -(q 2 / (m : Int))) = j2 at s2
  have s3 := isoS (m := m) (j := j2) (R := r0 * r0 + r1 * r1 + r2 * r2) (T := r0 + r1 + r2) (a := q 3) (t := r3) (by grind) f3
  exact ⟨_, by rw [← s3]⟩
