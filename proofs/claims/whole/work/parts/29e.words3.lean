theorem ne10 : ¬ (1 : Int32) = 0 := by decide
def dot4 (f g : Nat → Int64) : Int64 := 0 + f 0 * g 0 + f 1 * g 1 + f 2 * g 2 + f 3 * g 3
def sum4 (f : Nat → Int64) : Int64 := 0 + f 0 + f 1 + f 2 + f 3
def pr4 (f g : Nat → Int64) : Int64 := 2 * dot4 f g - sum4 f * sum4 g
theorem pr4_comm (f g : Nat → Int64) : pr4 f g = pr4 g f := by
  unfold pr4 dot4
  rw [Int64.mul_comm (f 0), Int64.mul_comm (f 1), Int64.mul_comm (f 2), Int64.mul_comm (f 3), Int64.mul_comm (sum4 f)]
theorem dot4_c {f g f' g' : Nat → Int64} (h : eq4 f f') (h2 : eq4 g g') : dot4 f g = dot4 f' g' := by
  unfold dot4
  rw [h.1, h.2.1, h.2.2.1, h.2.2.2, h2.1, h2.2.1, h2.2.2.1, h2.2.2.2]
theorem sum4_c {f f' : Nat → Int64} (h : eq4 f f') : sum4 f = sum4 f' := by
  unfold sum4
  rw [h.1, h.2.1, h.2.2.1, h.2.2.2]
theorem pr4_c {f g f' g' : Nat → Int64} (h : eq4 f f') (h2 : eq4 g g') : pr4 f g = pr4 f' g' := by
  unfold pr4
  rw [dot4_c h h2, sum4_c h, sum4_c h2]
def sel (r0 r1 r2 r3 : Nat → Int64) : Nat → (Nat → Int64)
  | 0 => r0
  | 1 => r1
  | 2 => r2
  | _ => r3
theorem RX.row {r0 r1 r2 r3 : Nat → Int64} {M : MX} (h : RX r0 r1 r2 r3 M) {i : Nat} (hi : i < 4) : eq4 (sel r0 r1 r2 r3 i) (M i) := by
  obtain ⟨a0, b0, c0, d0⟩ := h 0 (by omega)
  obtain ⟨a1, b1, c1, d1⟩ := h 1 (by omega)
  obtain ⟨a2, b2, c2, d2⟩ := h 2 (by omega)
  obtain ⟨a3, b3, c3, d3⟩ := h 3 (by omega)
  match i, hi with
  | 0, _ => exact ⟨a0, a1, a2, a3⟩
  | 1, _ => exact ⟨b0, b1, b2, b3⟩
  | 2, _ => exact ⟨c0, c1, c2, c3⟩
  | 3, _ => exact ⟨d0, d1, d2, d3⟩
theorem RS.row {S : Nat → Int64} {M : MX} (h : RS S M) {i : Nat} (hi : i < 4) : eq4 (fun j => S (4 * i + j)) (M i) := by
  obtain ⟨a0, b0, c0, d0⟩ := h 0 (by omega)
  obtain ⟨a1, b1, c1, d1⟩ := h 1 (by omega)
  obtain ⟨a2, b2, c2, d2⟩ := h 2 (by omega)
  obtain ⟨a3, b3, c3, d3⟩ := h 3 (by omega)
  match i, hi with
  | 0, _ => exact ⟨a0, a1, a2, a3⟩
  | 1, _ => exact ⟨b0, b1, b2, b3⟩
  | 2, _ => exact ⟨c0, c1, c2, c3⟩
  | 3, _ => exact ⟨d0, d1, d2, d3⟩
theorem wx (m : Nat) (r0 r1 r2 r3 a : Nat → Int64) {i : Nat} (hi : i < 4) : pX5_weigh (m + 5) r0 r1 r2 r3 a (nI i) = some (dot4 (sel r0 r1 r2 r3 i) a) := by
  match i, hi with
  | 0, _ => rfl
  | 1, _ => rfl
  | 2, _ => rfl
  | 3, _ => rfl
theorem wm (m : Nat) (R S : Nat → Int64) {i : Nat} (hi : i < 4) (k : Int64 → Int32 → Option (Int64 × Int32 × (Nat → Int64) × (Nat → Int64))) : pX9_bendOf_L35 (nI (i + 1)) R S (m + 5) 0 0 k = k (dot4 (fun j => S (4 * i + j)) R) 4 := by
  match i, hi with
  | 0, _ => rfl
  | 1, _ => rfl
  | 2, _ => rfl
  | 3, _ => rfl
theorem px_eq (m : Nat) (f g : Nat → Int64) : pX8_productOf (m + 5) f g = some (pr4 f g) := rfl
theorem pm_eq (m : Nat) (S K : Nat → Int64) {i : Nat} (hi : i < 4) : pX9_productWith (m + 5) S K (nI i) = some (pr4 K (fun j => S (4 * i + j))) := by
  match i, hi with
  | 0, _ => rfl
  | 1, _ => rfl
  | 2, _ => rfl
  | 3, _ => rfl
theorem ks_eq (m : Nat) (S K : Nat → Int64) {i : Nat} (hi : i < 4) : ∃ z, pX9_keeps (m + 5) S K (nI i) = some z ∧ eq4 z (fun j => S (4 * i + j)) := by
  match i, hi with
  | 0, _ => exact ⟨_, rfl, rfl, rfl, rfl, rfl⟩
  | 1, _ => exact ⟨_, rfl, rfl, rfl, rfl, rfl⟩
  | 2, _ => exact ⟨_, rfl, rfl, rfl, rfl, rfl⟩
  | 3, _ => exact ⟨_, rfl, rfl, rfl, rfl, rfl⟩
theorem bo_core {n : Nat} (hn : FU ≤ n) {now first bends : Nat → Int64} {st : Int32} (h : IR now st first bends) (ra S r0 r1 r2 r3 : Nat → Int64) (sa p1 p2 : Int32) : ∃ Rx Rm, pX8_bendOf n first r0 r1 r2 r3 p1 p2 = some Rx ∧ pX9_bendOf n sa bends ra S p1 p2 = some Rm ∧ Rx.1 = Rm.1 := by
  have hn5 := fu1 hn
  obtain ⟨hg, he, k, hk, hr, hst⟩ := h
  obtain ⟨z, e1, e2⟩ := frm (fu1 hn) (ra := ra) (w := (-9)) (hr.cong he) hk
  rcases pl_cases p2 with ⟨d1, d2⟩ | ⟨d1, d2, i, hi, d3, d4⟩
  · refine ⟨_, _, by rw [pX8_bendOf, d1, Option.bind_some, if_pos rfl], by rw [pX9_bendOf, d2, Option.bind_some, if_pos rfl], ?_⟩
    rfl
  rcases word hn p1 with ⟨w1, w2⟩ | ⟨M, w1, w2, w3⟩
  · obtain ⟨z0, z1, z2, z3, w1⟩ := w1 r0 r1 r2 r3
    refine ⟨_, _, by rw [pX8_bendOf, d1, Option.bind_some, if_neg (by decide), w1, Option.bind_some, if_pos rfl], by rw [pX9_bendOf, d2, Option.bind_some, if_neg (by decide), w2, Option.bind_some, if_pos rfl], ?_⟩
    rfl
  · obtain ⟨z0, z1, z2, z3, w1, hx⟩ := w1 r0 r1 r2 r3
    obtain ⟨S', w3, hs⟩ := w3 S
    obtain ⟨m, rfl⟩ : ∃ m, n = m + 5 := ⟨n - 5, by omega⟩
    have hx2 : pX8_bendOf (m + 5) first r0 r1 r2 r3 p1 p2 = some (dot4 (sel z0 z1 z2 z3 i) first, z0, z1, z2, z3) := by rw [pX8_bendOf, d1, Option.bind_some, if_neg (by decide), w1, Option.bind_some, if_neg ne10, d3, wx m _ _ _ _ _ hi, Option.bind_some]
    obtain ⟨w9, hm2⟩ : ∃ w9, pX9_bendOf (m + 5) sa bends ra S p1 p2 = some (dot4 (fun j => S' (4 * i + j)) z, w9, z, S') := ⟨_, by rw [pX9_bendOf, d2, Option.bind_some, if_neg (by decide), w2, Option.bind_some, if_neg (by decide), e1, Option.bind_some, w3, Option.bind_some, d4, wm m _ _ hi]⟩
    have a1 := (hx.row hi).tr (hs.row hi).sym
    have a2 : eq4 first z := e2.sym
    have a3 := dot4_c a1 a2
    refine ⟨(dot4 (sel z0 z1 z2 z3 i) first, z0, z1, z2, z3), (dot4 (fun j => S' (4 * i + j)) z, w9, z, S'), hx2, hm2, ?_⟩
    exact a3
theorem ti_core {n : Nat} (hn : FU ≤ n) (S r0 r1 r2 r3 : Nat → Int64) (p1 p2 p3 : Int32) : ∃ Rx Rm, pX8_times n r0 r1 r2 r3 p1 p2 p3 = some Rx ∧ pX9_times n S p1 p2 p3 = some Rm ∧ Rx.1 = Rm.1 := by
  rcases pl_cases p2 with ⟨d1, d2⟩ | ⟨d1, d2, i, hi, d3, d4⟩
  · refine ⟨_, _, by rw [pX8_times, d1, Option.bind_some, if_pos rfl], by rw [pX9_times, d2, Option.bind_some, if_pos rfl], ?_⟩
    rfl
  have hidx : (pX8_isIndex p3 = some 0 ∧ pX9_within p3 0 3 = some 0) ∨ (pX8_isIndex p3 = some 1 ∧ pX9_within p3 0 3 = some 1 ∧ ∃ j : Nat, j < 4 ∧ p3 = nI j) := by
    rcases rg_cases p3 (N := 4) (by omega) with h | ⟨h, h2⟩ | ⟨h, h2, i, hi, rfl⟩
    · exact Or.inl ⟨by rw [pX8_isIndex, if_pos h], by rw [pX9_within, if_pos h]⟩
    · have h2 : (4 : Int32) ≤ p3 := h2
      have h3 : (3 : Int32) < p3 := by rw [i32_lt]; rw [i32_le] at h2; exact h2
      exact Or.inl ⟨by rw [pX8_isIndex, if_neg h, if_pos h2], by rw [pX9_within, if_neg h, if_pos h3]⟩
    · have h2 : ¬ (4 : Int32) ≤ nI i := h2
      have h3 : ¬ (3 : Int32) < nI i := by rw [show (3 : Int32) = nI 3 from rfl, nI_ltI (by omega) (by omega)]; omega
      exact Or.inr ⟨by rw [pX8_isIndex, if_neg h, if_neg h2], by rw [pX9_within, if_neg h, if_neg h3], i, hi, rfl⟩
  rcases word hn p1 with ⟨w1, w2⟩ | ⟨M, w1, w2, w3⟩
  · obtain ⟨z0, z1, z2, z3, w1⟩ := w1 r0 r1 r2 r3
    rcases hidx with ⟨x1, x2⟩ | ⟨x1, x2, j, hj, x3⟩
    · refine ⟨_, _, by rw [pX8_times, d1, Option.bind_some, if_neg (by decide), x1, Option.bind_some, if_pos rfl], by rw [pX9_times, d2, Option.bind_some, if_neg (by decide), w2, Option.bind_some, if_pos rfl], ?_⟩
      rfl
    · refine ⟨_, _, by rw [pX8_times, d1, Option.bind_some, if_neg (by decide), x1, Option.bind_some, if_neg (by decide), w1, Option.bind_some, if_pos rfl], by rw [pX9_times, d2, Option.bind_some, if_neg (by decide), w2, Option.bind_some, if_pos rfl], ?_⟩
      rfl
  · obtain ⟨z0, z1, z2, z3, w1, hx⟩ := w1 r0 r1 r2 r3
    obtain ⟨S', w3, hs⟩ := w3 S
    rcases hidx with ⟨x1, x2⟩ | ⟨x1, x2, j, hj, x3⟩
    · refine ⟨_, _, by rw [pX8_times, d1, Option.bind_some, if_neg (by decide), x1, Option.bind_some, if_pos rfl], by rw [pX9_times, d2, Option.bind_some, if_neg (by decide), w2, Option.bind_some, if_neg (by decide), x2, Option.bind_some, if_pos rfl], ?_⟩
      rfl
    · refine ⟨(sel z0 z1 z2 z3 i j, z0, z1, z2, z3), (S' (4 * i + j), S'), ?_, ?_, ?_⟩
      · rw [pX8_times, d1, Option.bind_some, if_neg (by decide), x1, Option.bind_some, if_neg (by decide), w1, Option.bind_some, if_neg ne10, d3, x3]
        match i, hi with
        | 0, _ => rw [if_pos (by decide), ck_t (ix_nI hj (by omega)), nI_clamp (by omega)]; rfl
        | 1, _ => rw [if_neg (by decide), if_pos (by decide), ck_t (ix_nI hj (by omega)), nI_clamp (by omega)]; rfl
        | 2, _ => rw [if_neg (by decide), if_neg (by decide), if_pos (by decide), ck_t (ix_nI hj (by omega)), nI_clamp (by omega)]; rfl
        | 3, _ => rw [if_neg (by decide), if_neg (by decide), if_neg (by decide), if_pos (by decide), ck_t (ix_nI hj (by omega)), nI_clamp (by omega)]; rfl
      · rw [pX9_times, d2, Option.bind_some, if_neg (by decide), w2, Option.bind_some, if_neg (by decide), x2, Option.bind_some, if_neg (by decide), w3, Option.bind_some, d3, x3, show (4 : Int32) * nI i + nI j = nI (4 * i + j) by rw [show (4 : Int32) = nI 4 from rfl, pk_mul, nI_add], ck_t (ix_nI (show 4 * i + j < 16 by omega) (by omega)), nI_clamp (by omega)]
      · exact ((hx.row hi).at hj).trans ((hs.row hi).at hj).symm
theorem pc_core {n : Nat} (hn : FU ≤ n) (S K r0 r1 r2 r3 o0 o1 o2 o3 : Nat → Int64) (p1 p2 p3 p4 : Int32) : ∃ Rx Rm, pX8_product n r0 r1 r2 r3 o0 o1 o2 o3 p1 p2 p3 p4 = some Rx ∧ pX9_product n S K p1 p2 p3 p4 = some Rm ∧ Rx.1 = Rm.1 := by
  have hn5 := fu1 hn
  rcases pl_cases p2 with ⟨d1, d2⟩ | ⟨d1, d2, i, hi, d3, d4⟩
  · refine ⟨_, _, by rw [pX8_product, d1, Option.bind_some, if_pos rfl], by rw [pX9_product, d2, Option.bind_some, if_pos rfl], ?_⟩
    rfl
  rcases pl_cases p4 with ⟨f1, f2⟩ | ⟨f1, f2, j, hj, f3, f4⟩
  · refine ⟨_, _, by rw [pX8_product, d1, Option.bind_some, if_neg (by decide), f1, Option.bind_some, if_pos rfl], by rw [pX9_product, d2, Option.bind_some, if_neg (by decide), f2, Option.bind_some, if_pos rfl], ?_⟩
    rfl
  rcases word hn p1 with ⟨w1, w2⟩ | ⟨M, w1, w2, w3⟩
  · obtain ⟨z0, z1, z2, z3, w1⟩ := w1 r0 r1 r2 r3
    refine ⟨_, _, by rw [pX8_product, d1, Option.bind_some, if_neg (by decide), f1, Option.bind_some, if_neg (by decide), w1, Option.bind_some, if_pos rfl], by rw [pX9_product, d2, Option.bind_some, if_neg (by decide), f2, Option.bind_some, if_neg (by decide), w2, Option.bind_some, if_pos rfl], ?_⟩
    rfl
  obtain ⟨z0, z1, z2, z3, w1, hx⟩ := w1 r0 r1 r2 r3
  obtain ⟨S', w3, hs⟩ := w3 S
  rcases word hn p3 with ⟨v1, v2⟩ | ⟨M', v1, v2, v3⟩
  · obtain ⟨y0, y1, y2, y3, v1⟩ := v1 o0 o1 o2 o3
    refine ⟨_, _, by rw [pX8_product, d1, Option.bind_some, if_neg (by decide), f1, Option.bind_some, if_neg (by decide), w1, Option.bind_some, if_neg ne10, v1, Option.bind_some, if_pos rfl], by rw [pX9_product, d2, Option.bind_some, if_neg (by decide), f2, Option.bind_some, if_neg (by decide), w2, Option.bind_some, if_neg (by decide), v2, Option.bind_some, if_pos rfl], ?_⟩
    rfl
  obtain ⟨y0, y1, y2, y3, v1, hy⟩ := v1 o0 o1 o2 o3
  obtain ⟨S2, v3, ht⟩ := v3 S'
  obtain ⟨m, rfl⟩ : ∃ m, n = m + 5 := ⟨n - 5, by omega⟩
  obtain ⟨K', k1, k2⟩ := ks_eq m S' K hi
  refine ⟨(pr4 (sel z0 z1 z2 z3 i) (sel y0 y1 y2 y3 j), z0, z1, z2, z3, y0, y1, y2, y3), (pr4 K' (fun k => S2 (4 * j + k)), S2, K'), ?_, ?_, ?_⟩
  · rw [pX8_product, d1, Option.bind_some, if_neg (by decide), f1, Option.bind_some, if_neg (by decide), w1, Option.bind_some, if_neg ne10, v1, Option.bind_some, if_neg ne10, d3, f3]
    match i, hi, j, hj with
    | 0, _, 0, _ => rfl
    | 0, _, 1, _ => rfl
    | 0, _, 2, _ => rfl
    | 0, _, 3, _ => rfl
    | 1, _, 0, _ => rfl
    | 1, _, 1, _ => rfl
    | 1, _, 2, _ => rfl
    | 1, _, 3, _ => rfl
    | 2, _, 0, _ => rfl
    | 2, _, 1, _ => rfl
    | 2, _, 2, _ => rfl
    | 2, _, 3, _ => rfl
    | 3, _, 0, _ => rfl
    | 3, _, 1, _ => rfl
    | 3, _, 2, _ => rfl
    | 3, _, 3, _ => rfl
  · rw [pX9_product, d2, Option.bind_some, if_neg (by decide), f2, Option.bind_some, if_neg (by decide), w2, Option.bind_some, if_neg (by decide), v2, Option.bind_some, if_neg (by decide), w3, Option.bind_some, d3, k1, Option.bind_some, v3, Option.bind_some, f3, pm_eq m _ _ hj, Option.bind_some]
  · exact pr4_c ((hx.row hi).tr ((hs.row hi).sym.tr k2.sym)) ((hy.row hj).tr (ht.row hj).sym)
theorem tx_st (m : Nat) (r0 r1 r2 r3 o0 o1 o2 o3 : Nat → Int64) {a i : Nat} (ha : a < 4) (hi : i < 4) (x4 : Int32) (k : Int32 → Int32 → Option (Int32 × (Nat → Int64) × (Nat → Int64) × (Nat → Int64) × (Nat → Int64) × (Nat → Int64) × (Nat → Int64) × (Nat → Int64) × (Nat → Int64))) : pX8_touching_L40 (nI (i + 1)) r0 r1 r2 r3 o0 o1 o2 o3 (m + 5 + 1) x4 (nI a) k = if pr4 (sel r0 r1 r2 r3 a) (sel o0 o1 o2 o3 i) = -1 then pX8_touching_L40 (nI (i + 1)) r0 r1 r2 r3 o0 o1 o2 o3 (m + 5) (x4 + 1) (nI (a + 1)) k else pX8_touching_L40 (nI (i + 1)) r0 r1 r2 r3 o0 o1 o2 o3 (m + 5) x4 (nI (a + 1)) k := by
  match a, ha, i, hi with
  | 0, _, 0, _ => rfl
  | 0, _, 1, _ => rfl
  | 0, _, 2, _ => rfl
  | 0, _, 3, _ => rfl
  | 1, _, 0, _ => rfl
  | 1, _, 1, _ => rfl
  | 1, _, 2, _ => rfl
  | 1, _, 3, _ => rfl
  | 2, _, 0, _ => rfl
  | 2, _, 1, _ => rfl
  | 2, _, 2, _ => rfl
  | 2, _, 3, _ => rfl
  | 3, _, 0, _ => rfl
  | 3, _, 1, _ => rfl
  | 3, _, 2, _ => rfl
  | 3, _, 3, _ => rfl
theorem tc_eq {r0 r1 r2 r3 o0 o1 o2 o3 S K : Nat → Int64} {i : Nat} (hi : i < 4) (h : ∀ a, a < 4 → pr4 (sel r0 r1 r2 r3 a) (sel o0 o1 o2 o3 i) = pr4 K (fun k => S (4 * a + k))) (m : Nat) (kx : Int32 → Int32 → Option (Int32 × (Nat → Int64) × (Nat → Int64) × (Nat → Int64) × (Nat → Int64) × (Nat → Int64) × (Nat → Int64) × (Nat → Int64) × (Nat → Int64))) (km : Int32 → Int32 → Option (Int32 × (Nat → Int64) × (Nat → Int64))) : ∀ (d a : Nat) (c : Int32), a + d = 4 → ∃ c', pX8_touching_L40 (nI (i + 1)) r0 r1 r2 r3 o0 o1 o2 o3 (m + d + 5) c (nI a) kx = kx c' 4 ∧ pX9_touching_L49 S K (m + d + 5) c (nI a) km = km c' 4 := by
  intro d
  induction d with
  | zero =>
    intro a c ha
    obtain rfl : a = 4 := by omega
    refine ⟨c, ?_, ?_⟩
    · rw [pX8_touching_L40, if_pos (by decide)]; rfl
    · rw [pX9_touching_L49, if_pos (by decide)]; rfl
  | succ d ih =>
    intro a c ha
    rw [show m + (d + 1) + 5 = m + d + 5 + 1 by omega, tx_st (m + d) _ _ _ _ _ _ _ _ (show a < 4 by omega) hi, pX9_touching_L49, if_neg (show ¬ (4 : Int32) ≤ nI a by rw [show (4 : Int32) = nI 4 from rfl, nI_leI (by omega) (by omega)]; omega), pm_eq (m + d) S K (show a < 4 by omega), Option.bind_some, h a (by omega), show nI a + 1 = nI (a + 1) from nI_add a 1, Int32.add_zero]
    by_cases q : pr4 K (fun k => S (4 * a + k)) = -1
    · rw [if_pos q, if_pos q]; exact ih (a + 1) (c + 1) (by omega)
    · rw [if_neg q, if_neg q]; exact ih (a + 1) c (by omega)
theorem to_core {n : Nat} (hn : FU ≤ n) (S K r0 r1 r2 r3 o0 o1 o2 o3 : Nat → Int64) (p1 p2 p3 : Int32) : ∃ Rx Rm, pX8_touching n r0 r1 r2 r3 o0 o1 o2 o3 p1 p2 p3 = some Rx ∧ pX9_touching n S K p1 p2 p3 = some Rm ∧ Rx.1 = Rm.1 := by
  have hn5 := fu1 hn
  rcases pl_cases p3 with ⟨d1, d2⟩ | ⟨d1, d2, i, hi, d3, d4⟩
  · refine ⟨_, _, by rw [pX8_touching, d1, Option.bind_some, if_pos rfl], by rw [pX9_touching, d2, Option.bind_some, if_pos rfl], ?_⟩
    rfl
  rcases word hn p1 with ⟨w1, w2⟩ | ⟨M, w1, w2, w3⟩
  · obtain ⟨z0, z1, z2, z3, w1⟩ := w1 r0 r1 r2 r3
    refine ⟨_, _, by rw [pX8_touching, d1, Option.bind_some, if_neg (by decide), w1, Option.bind_some, if_pos rfl], by rw [pX9_touching, d2, Option.bind_some, if_neg (by decide), w2, Option.bind_some, if_pos rfl], ?_⟩
    rfl
  obtain ⟨z0, z1, z2, z3, w1, hx⟩ := w1 r0 r1 r2 r3
  rcases word hn p2 with ⟨v1, v2⟩ | ⟨M', v1, v2, v3⟩
  · obtain ⟨y0, y1, y2, y3, v1⟩ := v1 o0 o1 o2 o3
    refine ⟨_, _, by rw [pX8_touching, d1, Option.bind_some, if_neg (by decide), w1, Option.bind_some, if_neg ne10, v1, Option.bind_some, if_pos rfl], by rw [pX9_touching, d2, Option.bind_some, if_neg (by decide), w2, Option.bind_some, if_neg (by decide), v2, Option.bind_some, if_pos rfl], ?_⟩
    rfl
  obtain ⟨y0, y1, y2, y3, v1, hy⟩ := v1 o0 o1 o2 o3
  obtain ⟨S1, v3, ht⟩ := v3 S
  obtain ⟨S2, w3, hs⟩ := w3 S1
  obtain ⟨m, rfl⟩ : ∃ m, n = m + 4 + 5 := ⟨n - 9, by omega⟩
  obtain ⟨K', k1, k2⟩ := ks_eq (m + 4) S1 K hi
  obtain ⟨c', t1, t2⟩ := tc_eq (r0 := z0) (r1 := z1) (r2 := z2) (r3 := z3) (o0 := y0) (o1 := y1) (o2 := y2) (o3 := y3) (S := S2) (K := K') hi (fun a ha => by
    rw [pr4_comm]
    exact pr4_c ((hy.row hi).tr ((ht.row hi).sym.tr k2.sym)) ((hx.row ha).tr (hs.row ha).sym)) m (fun (y4_45 : Int32) (y5_45 : Int32) => some (y4_45, z0, z1, z2, z3, y0, y1, y2, y3)) (fun (y4_13 : Int32) (y5_13 : Int32) => some (y4_13, S2, K')) 4 0 0 rfl
  refine ⟨(c', z0, z1, z2, z3, y0, y1, y2, y3), (c', S2, K'), ?_, ?_, rfl⟩
  · rw [pX8_touching, d1, Option.bind_some, if_neg (by decide), w1, Option.bind_some, if_neg ne10, v1, Option.bind_some, if_neg ne10, d4]
    exact t1
  · rw [pX9_touching, d2, Option.bind_some, if_neg (by decide), w2, Option.bind_some, if_neg (by decide), v2, Option.bind_some, if_neg (by decide), v3, Option.bind_some, d3, k1, Option.bind_some, w3, Option.bind_some]
    exact t2
