/-! the mathematical values, and what holds between the two objects after every call -/
def FU : Nat := 100000000
def zq (f : Nat → Int64) (j : Nat) : Int := (f j).toInt
def sq (q : Nat → Int) : Int := q 0 + q 1 + q 2 + q 3
def tq (q : Nat → Int) (i : Nat) : Int := 2 * (sq q - q i) - q i
def uq (q : Nat → Int) (i : Nat) : Nat → Int := fun j => if j = i then tq q i else q j
/-- the bends of the circles up to T behind q (l: the place turned last), in the order in which they are gone through -/
def pre : Nat → (Nat → Int) → Nat → Int → List Int
  | 0, _, _, _ => []
  | F + 1, q, l, T => (if 0 ≠ l ∧ tq q 0 ≤ T then tq q 0 :: pre F (uq q 0) 0 T else []) ++ ((if 1 ≠ l ∧ tq q 1 ≤ T then tq q 1 :: pre F (uq q 1) 1 T else []) ++ ((if 2 ≠ l ∧ tq q 2 ≤ T then tq q 2 :: pre F (uq q 2) 2 T else []) ++ (if 3 ≠ l ∧ tq q 3 ≤ T then tq q 3 :: pre F (uq q 3) 3 T else [])))
/-- all circles' bends up to T of the packing whose root is q (in order) -/
def cir (q : Nat → Int) (T : Int) : List Int := [q 0, q 1, q 2, q 3].filter (fun x => decide (x ≤ T)) ++ pre (T - q 3 + 1).toNat q 4 T
/-- how many circles have a bend of T at most -/
def NC (q : Nat → Int) (T : Int) : Nat := (cir q T).length
/-- remainders: four of them as one number -/
def dg (m c p : Nat) : Nat := c / m ^ p % m
def tw (m c p : Nat) : Nat := (2 * (dg m c 0 + dg m c 1 + dg m c 2 + dg m c 3 - dg m c p) + m - dg m c p) % m
def tc (m c p : Nat) : Nat := c - dg m c p * m ^ p + tw m c p * m ^ p
def addq (Q : List Nat) (c : Nat) : List Nat := if c ∈ Q then Q else Q ++ [c]
def bfq (m c : Nat) (Q : List Nat) : List Nat := addq (addq (addq (addq Q (tc m c 0)) (tc m c 1)) (tc m c 2)) (tc m c 3)
def bfs (m c s : Nat) : Nat := s ||| 2 ^ dg m c 0 ||| 2 ^ dg m c 1 ||| 2 ^ dg m c 2 ||| 2 ^ dg m c 3
def bf (m : Nat) : Nat → List Nat → Nat → Nat → Nat
  | 0, _, _, s => s
  | F + 1, Q, x, s => match Q[x]? with
    | none => s
    | some c => bf m F (bfq m c Q) (x + 1) (bfs m c s)
def rcode (q : Nat → Int) (m : Nat) : Nat := (q 0 % m).toNat + m * ((q 1 % m).toNat + m * ((q 2 % m).toNat + m * (q 3 % m).toNat))
def RM (q : Nat → Int) (m : Nat) : Int32 := nI (bf m 20737 [rcode q m] 0 0)
/-- what a packing has found out -/
def PK (first : Nat → Int64) (cnt : Nat → Int32) (re : Int32) (lr : Nat → Int64) (ls : Int32) (rs : Nat → Int32) : Prop :=
  (-1 ≤ re.toInt ∧ re.toInt ≤ 5000) ∧ (0 ≤ re.toInt → zq first 0 < 0 ∧ ∀ m : Nat, (m : Int) ≤ re.toInt → (cnt m).toInt = NC (zq first) m) ∧
  (0 ≤ ls.toInt ∧ ls.toInt ≤ 2001) ∧ (0 < ls.toInt → zq first 0 < 0 ∧ ∀ j : Nat, (j : Int) < ls.toInt → NC (zq first) ((lr j).toInt - 1) ≤ j ∧ j < NC (zq first) (lr j).toInt) ∧
  ∀ m : Nat, 2 ≤ m → m ≤ 12 → rs m = 0 ∨ rs m = RM (zq first) m
theorem pk_reset (first : Nat → Int64) (cnt : Nat → Int32) (lr : Nat → Int64) {rs : Nat → Int32} {re ls : Int32} (h1 : re = -1) (h2 : ls = 0) (h3 : ∀ j, j < 13 → rs j = 0) : PK first cnt re lr ls rs := by
  subst h1; subst h2
  refine ⟨by decide, fun h => absurd h (by decide), by decide, fun h => absurd h (by decide), fun m h4 h5 => Or.inl (h3 m (by omega))⟩
def IR (now : Nat → Int64) (st : Int32) (first bends : Nat → Int64) : Prop := GB now ∧ eq4 now bends ∧ ∃ k, k < 45000 ∧ RT now k first ∧ st = nI k
def CPi (c : Nat) (copy : Nat → Int64) (kept isKept : Nat → Int32) (mc : Nat → Int64) : Prop := kept c = isKept c ∧ (kept c = 0 ∨ kept c = 1) ∧ (kept c = 1 → GB copy ∧ eq4 copy (fun j => mc (4 * c + j)))
def CP (c0 c1 c2 : Nat → Int64) (kept isKept : Nat → Int32) (mc : Nat → Int64) : Prop := CPi 0 c0 kept isKept mc ∧ CPi 1 c1 kept isKept mc ∧ CPi 2 c2 kept isKept mc
def SH (t : Nat) (th so sz : Int32) (be : Nat → Int64) (fi : Nat → Int32) (many sort : Nat → Int32) (has : Nat → Int64) : Prop :=
  (th = 0 ∧ many t = -9 ∧ ∀ i, i < 6 → fi i = 0) ∨
  (th = 1 ∧ many t = sz ∧ sort t = so ∧ (0 ≤ so.toInt ∧ so.toInt ≤ 3) ∧ (0 ≤ sz.toInt ∧ sz.toInt ≤ 6) ∧ ∀ i : Nat, i < 6 → (fi i = 0 ∧ has (6 * t + i) = -9223372036854775808) ∨ (fi i = 1 ∧ has (6 * t + i) = be i ∧ be i ≠ -9223372036854775808 ∧ (i : Int) < sz.toInt))
def INV (now : Nat → Int64) (st : Int32) (first : Nat → Int64) (cnt : Nat → Int32) (re : Int32) (lr : Nat → Int64) (ls : Int32) (rs : Nat → Int32) (c0 c1 c2 : Nat → Int64) (kept : Nat → Int32) (t0 s0 z0 : Int32) (b0 : Nat → Int64) (f0 : Nat → Int32) (t1 s1 z1 : Int32) (b1 : Nat → Int64) (f1 : Nat → Int32) (t2 s2 z2 : Int32) (b2 : Nat → Int64) (f2 : Nat → Int32) (bends : Nat → Int64) (isKept : Nat → Int32) (mc : Nat → Int64) (many sort : Nat → Int32) (has : Nat → Int64) : Prop :=
  IR now st first bends ∧ PK first cnt re lr ls rs ∧ CP c0 c1 c2 kept isKept mc ∧ SH 0 t0 s0 z0 b0 f0 many sort has ∧ SH 1 t1 s1 z1 b1 f1 many sort has ∧ SH 2 t2 s2 z2 b2 f2 many sort has
/-- a place, on either side: 1 .. 4 -/
theorem pl_cases (p : Int32) : (pX8_isPlace p = some 0 ∧ pX9_isPlace p = some 0) ∨ (pX8_isPlace p = some 1 ∧ pX9_isPlace p = some 1 ∧ ∃ i : Nat, i < 4 ∧ p - 1 = nI i ∧ p = nI (i + 1)) := by
  unfold pX8_isPlace pX9_isPlace pX9_within
  by_cases h1 : p < 1
  · left; simp only [if_pos h1, Option.bind_some]; exact ⟨trivial, rfl⟩
  · by_cases h2 : (4 : Int32) < p
    · left; simp only [if_neg h1, if_pos h2, Option.bind_some]; exact ⟨trivial, rfl⟩
    · right
      simp only [if_neg h1, if_neg h2, Option.bind_some]
      refine ⟨trivial, rfl, ?_⟩
      rw [i32_lt] at h1 h2
      have e1 : (1 : Int32).toInt = 1 := rfl
      have e4 : (4 : Int32).toInt = 4 := rfl
      rw [e1] at h1; rw [e4] at h2
      refine ⟨(p.toInt - 1).toNat, by omega, ?_, ?_⟩
      · rw [i32_eq, nI_toInt (by omega), i32_sub (by rw [e1]; omega) (by rw [e1]; omega), e1]; omega
      · rw [i32_eq, nI_toInt (by omega)]; omega
/-- numbers 0 .. N - 1 -/
theorem rg_cases (p : Int32) {N : Nat} (hN : N < 2147483648) : p < 0 ∨ (¬ p < 0 ∧ nI N ≤ p) ∨ (¬ p < 0 ∧ ¬ nI N ≤ p ∧ ∃ i : Nat, i < N ∧ p = nI i) := by
  by_cases h1 : p < 0
  · exact Or.inl h1
  · by_cases h2 : nI N ≤ p
    · exact Or.inr (Or.inl ⟨h1, h2⟩)
    · refine Or.inr (Or.inr ⟨h1, h2, ?_⟩)
      rw [i32_lt] at h1; rw [i32_le, nI_toInt (by omega)] at h2
      have e0 : (0 : Int32).toInt = 0 := rfl
      rw [e0] at h1
      exact ⟨p.toInt.toNat, by omega, by rw [i32_eq, nI_toInt (by omega)]; omega⟩
theorem fu1 {n : Nat} (h : FU ≤ n) : 50000 ≤ n := Nat.le_trans (by decide) h
