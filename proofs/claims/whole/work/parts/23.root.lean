/-! THE ROOT: both sides make the same steps; sorting; the numbers behind -/
/-- where the greatest of four stands -/
def gN (f : Nat → Int64) : Nat := if f 1 ≤ f 0 then (if f 2 ≤ f 0 then (if f 3 ≤ f 0 then 0 else 3) else (if f 3 ≤ f 2 then 2 else 3)) else (if f 2 ≤ f 1 then (if f 3 ≤ f 1 then 1 else 3) else (if f 3 ≤ f 2 then 2 else 3))
theorem gN_lt (f : Nat → Int64) : gN f < 4 := by
  unfold gN
  repeat (first | omega | split)
theorem ix_nI {i N : Nat} (h : i < N) (hN : N < 2147483648) : ix (nI i) N := by
  show 0 ≤ (nI i).toInt ∧ (nI i).toInt < (N : Int)
  rw [nI_toInt (by omega)]
  omega
theorem gx_L (f : Nat → Int64) (n : Nat) {a i : Nat} (ha : a < 4) (hi : i < 4) (k : Int32 → Int32 → Option Int32) : pX0_greatest_L4 f (n + 1) (nI a) (nI i) k = if f i ≤ f a then pX0_greatest_L4 f n (nI a) (nI (i + 1)) k else pX0_greatest_L4 f n (nI i) (nI (i + 1)) k := by
  rw [pX0_greatest_L4, if_neg (by rw [show (4 : Int32) = nI 4 from rfl, nI_leI (by omega) (by omega)]; omega), ck_t (ix_nI hi (by omega)), ck_t (ix_nI ha (by omega)), nI_clamp (by omega), nI_clamp (by omega), nI_1]
theorem gx_E (f : Nat → Int64) (n a : Nat) (k : Int32 → Int32 → Option Int32) : pX0_greatest_L4 f (n + 1) (nI a) (nI 4) k = k (nI a) (nI 4) := by
  rw [pX0_greatest_L4, if_pos (by rw [show (4 : Int32) = nI 4 from rfl, nI_leI (by omega) (by omega)]; omega)]
theorem gx_eq (m : Nat) (f : Nat → Int64) : pX0_greatest (m + 4) f = some (nI (gN f)) := by
  unfold pX0_greatest
  rw [show (0 : Int32) = nI 0 from rfl, show (1 : Int32) = nI 1 from rfl, gx_L f (m + 3) (a := 0) (i := 1) (by omega) (by omega), gx_L f (m + 2) (a := 0) (i := 2) (by omega) (by omega), gx_L f (m + 2) (a := 1) (i := 2) (by omega) (by omega), gx_L f (m + 1) (a := 0) (i := 3) (by omega) (by omega), gx_L f (m + 1) (a := 1) (i := 3) (by omega) (by omega), gx_L f (m + 1) (a := 2) (i := 3) (by omega) (by omega)]
  simp only [Nat.reduceAdd, gx_E]
  unfold gN
  by_cases h1 : f 1 ≤ f 0 <;> by_cases h2 : f 2 ≤ f 0 <;> by_cases h3 : f 3 ≤ f 0 <;> by_cases h4 : f 3 ≤ f 2 <;> by_cases h5 : f 2 ≤ f 1 <;> by_cases h6 : f 3 ≤ f 1 <;> simp [h1, h2, h3, h4, h5, h6]
theorem gm_L (f : Nat → Int64) (n : Nat) {a i : Nat} (ha : a < 4) (hi : i < 4) (k : Int32 → Int32 → Option Int32) : pX9_greatestIn_L4 f (n + 1) (nI a) (nI i) k = if f i ≤ f a then pX9_greatestIn_L4 f n (nI a) (nI (i + 1)) k else pX9_greatestIn_L4 f n (nI i) (nI (i + 1)) k := by
  rw [pX9_greatestIn_L4, if_neg (by rw [show (4 : Int32) = nI 4 from rfl, nI_leI (by omega) (by omega)]; omega), ck_t (ix_nI hi (by omega)), ck_t (ix_nI ha (by omega)), nI_clamp (by omega), nI_clamp (by omega), nI_1]
theorem gm_E (f : Nat → Int64) (n a : Nat) (k : Int32 → Int32 → Option Int32) : pX9_greatestIn_L4 f (n + 1) (nI a) (nI 4) k = k (nI a) (nI 4) := by
  rw [pX9_greatestIn_L4, if_pos (by rw [show (4 : Int32) = nI 4 from rfl, nI_leI (by omega) (by omega)]; omega)]
theorem gm_eq (m : Nat) (f : Nat → Int64) : pX9_greatestIn (m + 4) f = some (nI (gN f)) := by
  unfold pX9_greatestIn
  rw [show (0 : Int32) = nI 0 from rfl, show (1 : Int32) = nI 1 from rfl, gm_L f (m + 3) (a := 0) (i := 1) (by omega) (by omega), gm_L f (m + 2) (a := 0) (i := 2) (by omega) (by omega), gm_L f (m + 2) (a := 1) (i := 2) (by omega) (by omega), gm_L f (m + 1) (a := 0) (i := 3) (by omega) (by omega), gm_L f (m + 1) (a := 1) (i := 3) (by omega) (by omega), gm_L f (m + 1) (a := 2) (i := 3) (by omega) (by omega)]
  simp only [Nat.reduceAdd, gm_E]
  unfold gN
  by_cases h1 : f 1 ≤ f 0 <;> by_cases h2 : f 2 ≤ f 0 <;> by_cases h3 : f 3 ≤ f 0 <;> by_cases h4 : f 3 ≤ f 2 <;> by_cases h5 : f 2 ≤ f 1 <;> by_cases h6 : f 3 ≤ f 1 <;> simp [h1, h2, h3, h4, h5, h6]
theorem tn_0 : (0 : Int32).toNatClampNeg = 0 := rfl
theorem tn_1 : (1 : Int32).toNatClampNeg = 1 := rfl
theorem tn_2 : (2 : Int32).toNatClampNeg = 2 := rfl
theorem tn_3 : (3 : Int32).toNatClampNeg = 3 := rfl
/-- turned at i -/
def tv (f : Nat → Int64) (i : Nat) : Int64 := 2 * (((f 0 + f 1) + f 2) + f 3 - f i) - f i
theorem tx_eq (f : Nat → Int64) {i : Nat} (h : i < 4) : pX8_turnedOver f (nI i) = some (tv f i) := by
  unfold pX8_turnedOver
  rw [ck_t (ix_nI h (by omega)), nI_clamp (by omega), tn_0, tn_1, tn_2, tn_3, tv]
theorem tm_eq (f : Nat → Int64) {i : Nat} (h : i < 4) : pX9_turnedIn f (nI i) = some (tv f i) := by
  unfold pX9_turnedIn
  rw [ck_t (ix_nI h (by omega)), nI_clamp (by omega), tn_0, tn_1, tn_2, tn_3, tv]
/-- one step -/
def nx (f : Nat → Int64) : Nat → Int64 := vp_updL f (gN f) (tv f (gN f))
def Dn : Nat → (Nat → Int64) → (Nat → Int64) → Prop
  | 0, f, g => g = f ∧ ¬ tv f (gN f) < f (gN f)
  | k + 1, f, g => tv f (gN f) < f (gN f) ∧ Dn k (nx f) g
/-- the place of the k-th step -/
def sp : Nat → (Nat → Int64) → Nat
  | 0, f => gN f
  | k + 1, f => sp k (nx f)
theorem nI_lt_iff {a b : Nat} (ha : a < 2147483648) (hb : b < 2147483648) : nI a < nI b ↔ a < b := nI_ltI (by omega) (by omega)
theorem nI_le_iff {a b : Nat} (ha : a < 2147483648) (hb : b < 2147483648) : nI a ≤ nI b ↔ a ≤ b := nI_leI (by omega) (by omega)
