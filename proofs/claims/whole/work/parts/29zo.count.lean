/-! how many circles a root has, by its chains -/
theorem bk_up0 {A B : Int} (hB : 0 < B) (hA : 0 ≤ A) {T F : Nat} {TT : Int} (hT : A * TT ≤ B * (T : Int)) {q : Nat → Int} {l' l a b c d M i : Nat} (s2 : B * ((M + 3 * kf a b c d i - kf a b c d l : Nat) : Int) ≤ A * tq q i) (ih : (PR (uq q i) i TT).length ≤ cN T F i (cj a b c d l i 0) (cj a b c d l i 1) (cj a b c d l i 2) (cj a b c d l i 3) (M + 3 * kf a b c d i - kf a b c d l)) : (bk q l' TT i).length ≤ cB T F l a b c d M i := by
  unfold bk cB
  by_cases c2 : i ≠ l' ∧ tq q i ≤ TT
  · have h1 : A * tq q i ≤ A * TT := Int.mul_le_mul_of_nonneg_left c2.2 hA
    have h2 : M + 3 * kf a b c d i - kf a b c d l ≤ T := by
      have := Int.le_of_mul_le_mul_left (show B * ((M + 3 * kf a b c d i - kf a b c d l : Nat) : Int) ≤ B * (T : Int) by omega) hB
      omega
    rw [if_pos c2, if_pos h2, List.length_cons]
    omega
  · rw [if_neg c2]; exact Nat.zero_le _
theorem side_up {A d : Int} (hd : 0 < d) (hA : 0 ≤ A) {T F k0 k1 M : Nat} {L : Int} (hT : A * L ≤ d * (T : Int)) (hk0 : 1 ≤ k0) (hk1 : 1 ≤ k1) (hF : T ≤ F) {q : Nat → Int} {l j : Nat} (hn : NI q l) (hlj : LJ l j) (hD : 0 ≤ ev q l + ev q j) (hM : d * (M : Int) ≤ A * q l) (h0 : 2 * (d * (k0 : Int)) ≤ A * (ev q 0 + ev q l)) (h1 : 2 * (d * (k1 : Int)) ≤ A * (ev q 1 + ev q l)) : (bk q l L 0).length + (bk q l L 1).length ≤ cB T F l k0 k1 0 0 M 0 + cB T F l k0 k1 0 0 M 1 := by
  have hAD : 0 ≤ A * (ev q l + ev q j) := Int.mul_nonneg hA hD
  have hel := hn.2.1
  have hAl : A * ev q l ≤ 0 := by
    have := Int.mul_nonneg hA (show 0 ≤ -ev q l by omega)
    rw [Int.mul_neg] at this; omega
  rw [Int.mul_add] at h0 h1 hAD
  have z0 : d * ((0 : Nat) : Int) = 0 := Int.mul_zero d
  have hkl : kf k0 k1 0 0 l = 0 := by rcases hlj with ⟨rfl, rfl⟩ | ⟨rfl, rfl⟩ <;> rfl
  have hkj : kf k0 k1 0 0 j = 0 := by rcases hlj with ⟨rfl, rfl⟩ | ⟨rfl, rfl⟩ <;> rfl
  have hDS : DS A d q l (kf k0 k1 0 0) M := by
    refine ⟨fun j' _ _ => by rw [hkl]; exact Nat.zero_le _, by rw [hkl, z0]; omega, fun j' hj' hjl' => ?_, hM⟩
    rw [hkl, z0]
    by_cases e0 : j' = 0
    · subst e0
      show _ ≤ A * ev q 0 - 2 * (d * (k0 : Int))
      omega
    · by_cases e1 : j' = 1
      · subst e1
        show _ ≤ A * ev q 1 - 2 * (d * (k1 : Int))
        omega
      · obtain rfl : j' = j := by unfold LJ at hlj; omega
        rw [hkj, z0]; omega
  have hl := hlj.l4
  have key : ∀ i, i < 4 → i ≠ l → 1 ≤ kf k0 k1 0 0 i → (bk q l L i).length ≤ cB T F l k0 k1 0 0 M i := fun i hi hil hki => by
    refine bk_up hd hA hT hDS hi hil (fun s1 => ds_le hd hA hT F (hn.step hi hil) s1 (fun j' hj' hji => ?_) (by omega))
    rw [kf_cj k0 k1 0 0 l i j' hj', if_neg hji, hkl]
    by_cases e2 : j' = l
    · rw [if_pos e2]; omega
    · rw [if_neg e2]; omega
  exact Nat.add_le_add (key 0 (by omega) (by omega) hk0) (key 1 (by omega) (by omega) hk1)
theorem side_root {A d : Int} (hd : 0 < d) (hA : 0 ≤ A) {T F k0 k1 M : Nat} {L : Int} (hT : A * L ≤ d * (T : Int)) (hk0 : 1 ≤ k0) (hk1 : 1 ≤ k1) (hF : T ≤ F) {r : Nat → Int} (hr : RO r) (hM : d * (M : Int) ≤ A * r 3) (h0 : 2 * (d * (k0 : Int)) ≤ A * ev r 0) (h1 : 2 * (d * (k1 : Int)) ≤ A * ev r 1) : (bk r 4 L 0).length + (bk r 4 L 1).length ≤ cB T F 3 k0 k1 0 0 M 0 + cB T F 3 k0 k1 0 0 M 1 := by
  have z0 : d * ((0 : Nat) : Int) = 0 := Int.mul_zero d
  have a2 : 0 ≤ A * ev r 2 := Int.mul_nonneg hA (hr.1 2 (by omega))
  have a3 : 0 ≤ A * ev r 3 := Int.mul_nonneg hA (hr.1 3 (by omega))
  have hall : ∀ j, j < 4 → 2 * (d * ((kf k0 k1 0 0 j : Nat) : Int)) ≤ A * ev r j := fun j hj => by
    match j, hj with
    | 0, _ => exact h0
    | 1, _ => exact h1
    | 2, _ => show 2 * (d * ((0 : Nat) : Int)) ≤ _; rw [z0]; exact a2
    | 3, _ => show 2 * (d * ((0 : Nat) : Int)) ≤ _; rw [z0]; exact a3
  have key : ∀ i, i < 4 → i ≠ 3 → 1 ≤ kf k0 k1 0 0 i → (bk r 4 L i).length ≤ cB T F 3 k0 k1 0 0 M i := fun i hi hi3 hki => by
    have hkl : kf k0 k1 0 0 3 = 0 := rfl
    have hi' := hall i hi
    obtain ⟨-, b2, -⟩ := B_new (B := d) (k := M) (l := 0) (i := kf k0 k1 0 0 i) (by omega) (by omega)
    have s2 : d * ((M + 3 * kf k0 k1 0 0 i - kf k0 k1 0 0 3 : Nat) : Int) ≤ A * tq r i := by
      have := A_tq A r i 3
      rw [hkl, b2, z0]; omega
    refine bk_up0 hd hA hT s2 (ds_le hd hA hT F (NI.ofRoot hr hi) ⟨fun j hj hji => ?_, ?_, fun j hj hji => ?_, by rw [uq_at, if_pos rfl]; exact s2⟩ (fun j hj hji => ?_) (by omega))
    · rw [kf_cj _ _ _ _ _ _ i hi, if_pos rfl, kf_cj _ _ _ _ _ _ j hj, if_neg hji, hkl]
      by_cases e : j = 3
      · rw [if_pos e]; omega
      · rw [if_neg e]; omega
    · rw [kf_cj _ _ _ _ _ _ i hi, if_pos rfl, A_same A r hi]; omega
    · rw [kf_cj _ _ _ _ _ _ i hi, if_pos rfl, A_same A r hi, A_other A r hi hji, kf_cj _ _ _ _ _ _ j hj, if_neg hji, hkl]
      have hj' := hall j hj
      by_cases e : j = 3
      · rw [if_pos e, (B_new (B := d) (k := 0) (l := 0) (i := kf k0 k1 0 0 i) (by omega) (by omega)).1, z0]
        have : 0 ≤ A * ev r j := Int.mul_nonneg hA (hr.1 j hj)
        omega
      · rw [if_neg e, (B_new (B := d) (k := kf k0 k1 0 0 j) (l := 0) (i := kf k0 k1 0 0 i) (by omega) (by omega)).2.2]
        omega
    · rw [kf_cj _ _ _ _ _ _ j hj, if_neg hji, hkl]
      by_cases e : j = 3
      · rw [if_pos e]; omega
      · rw [if_neg e]; omega
  exact Nat.add_le_add (key 0 (by omega) (by omega) hk0) (key 1 (by omega) (by omega) hk1)
theorem side_dn {A d : Int} (hd : 0 < d) (hA : 0 < A) {T F z K0 K1 K2 M : Nat} {L : Int} (hT : d * (T : Int) ≤ A * L) (hz0 : z ≤ K0) (hz1 : z ≤ K1) (hz2 : z ≤ K2) {q : Nat → Int} {l j a b : Nat} (hn : NI q l) (hlj : LJ l j) (hab : (l = 2 ∧ a = z ∧ b = K2) ∨ (l = 3 ∧ a = K2 ∧ b = z)) (hM : A * q l ≤ d * (M : Int)) (hz : A * -ev q l ≤ 2 * (d * (z : Int))) (h0 : A * (ev q 0 + ev q l) + 2 * (d * (z : Int)) ≤ 2 * (d * (K0 : Int))) (h1 : A * (ev q 1 + ev q l) + 2 * (d * (z : Int)) ≤ 2 * (d * (K1 : Int))) (h2 : A * (ev q j + ev q l) + 2 * (d * (z : Int)) ≤ 2 * (d * (K2 : Int))) : cB T F l K0 K1 a b M 0 + cB T F l K0 K1 a b M 1 ≤ (bk q l L 0).length + (bk q l L 1).length := by
  rw [Int.mul_add] at h0 h1 h2
  rw [Int.mul_neg] at hz
  have hkl : kf K0 K1 a b l = z := by
    rcases hab with ⟨rfl, rfl, rfl⟩ | ⟨rfl, rfl, rfl⟩ <;> rfl
  have hkj : kf K0 K1 a b j = K2 := by
    unfold LJ at hlj
    rcases hab with ⟨rfl, rfl, rfl⟩ | ⟨rfl, rfl, rfl⟩
    · rw [show j = 3 by omega]; rfl
    · rw [show j = 2 by omega]; rfl
  have hl := hlj.l4
  have hUS : US A d q l (kf K0 K1 a b) M := by
    refine ⟨fun j' hj' hjl' => ?_, by rw [hkl]; omega, fun j' hj' hjl' => ?_, hM⟩
    · rw [hkl]
      by_cases e0 : j' = 0
      · subst e0; exact hz0
      · by_cases e1 : j' = 1
        · subst e1; exact hz1
        · obtain rfl : j' = j := by unfold LJ at hlj; omega
          rw [hkj]; exact hz2
    · rw [hkl]
      by_cases e0 : j' = 0
      · subst e0
        show _ ≤ 2 * (d * (K0 : Int)) - A * ev q 0
        omega
      · by_cases e1 : j' = 1
        · subst e1
          show _ ≤ 2 * (d * (K1 : Int)) - A * ev q 1
          omega
        · obtain rfl : j' = j := by unfold LJ at hlj; omega
          rw [hkj]; omega
  have key : ∀ i, i < 4 → i ≠ l → cB T F l K0 K1 a b M i ≤ (bk q l L i).length := fun i hi hil =>
    bk_dn hd hA hT hUS hi hil (fun s1 => us_le hd hA hT F (hn.step hi hil) s1)
  exact Nat.add_le_add (key 0 (by omega) (by omega)) (key 1 (by omega) (by omega))
/-- a root of a bound packing, by its numbers -/
def RF (r : Nat → Int) : Prop := RO r ∧ 1 ≤ r 3 ∧ r 3 ≤ 1000000000 ∧ 2 * r 3 ≤ ev r 0 ∧ 4 * r 3 ≤ 9 * ev r 1 ∧ ev r 0 ≤ 4 * r 3 ∧ ev r 1 ≤ 2 * r 3 ∧ ev r 2 ≤ r 3 ∧ ev r 3 ≤ ev r 2 ∧ 2 ≤ ev r 2 + ev r 3 ∧ ∀ j, j < 4 → r j ≤ r 3
theorem rf_of {first : Nat → Int64} (hb : BR first) (hg : GB first) (s0 : zq first 0 ≤ zq first 1) (s1 : zq first 1 ≤ zq first 2) (s2 : zq first 2 ≤ zq first 3) : RF (zq first) := by
  have b3 := hg.2.at (show 3 < 4 by omega)
  have hn := hb.neg
  have hd : 2 * (zq first 0 * zq first 0 + zq first 1 * zq first 1 + zq first 2 * zq first 2 + zq first 3 * zq first 3) = (zq first 0 + zq first 1 + zq first 2 + zq first 3) * (zq first 0 + zq first 1 + zq first 2 + zq first 3) := hg.1.1
  have g3 := hb.g3
  have hro := hb.ro
  have q3 : (first 3).toInt = zq first 3 := rfl
  have f0 : ev (zq first) 0 = sq (zq first) - 2 * zq first 0 := rfl
  have f1 : ev (zq first) 1 = sq (zq first) - 2 * zq first 1 := rfl
  have f2 : ev (zq first) 2 = sq (zq first) - 2 * zq first 2 := rfl
  have f3 : ev (zq first) 3 = sq (zq first) - 2 * zq first 3 := rfl
  have fs : sq (zq first) = zq first 0 + zq first 1 + zq first 2 + zq first 3 := rfl
  have p0 := hro.1 0 (by omega); have p1 := hro.1 1 (by omega); have p2 := hro.1 2 (by omega); have p3 := hro.1 3 (by omega)
  have pp := hro.2 2 3 (by omega) (by omega) (by omega)
  have h1 : 4 * zq first 3 ≤ 9 * ev (zq first) 1 := by
    by_cases c : 4 * zq first 3 ≤ 9 * ev (zq first) 1
    · exact c
    · exfalso
      have e : 4 * (zq first 0 * zq first 0) = ev (zq first) 1 * ev (zq first) 2 + ev (zq first) 1 * ev (zq first) 3 + ev (zq first) 2 * ev (zq first) 3 := by
        rw [f1, f2, f3, fs]
        grind
      have m1 : ev (zq first) 1 * ev (zq first) 2 ≤ ev (zq first) 1 * ev (zq first) 1 := Int.mul_le_mul_of_nonneg_left (by omega) p1
      have m2 : ev (zq first) 1 * ev (zq first) 3 ≤ ev (zq first) 1 * ev (zq first) 1 := Int.mul_le_mul_of_nonneg_left (by omega) p1
      have m3 : ev (zq first) 2 * ev (zq first) 3 ≤ ev (zq first) 1 * ev (zq first) 1 := Int.mul_le_mul (by omega) (by omega) p3 p1
      have x : ev (zq first) 1 + 1 ≤ -zq first 0 := by omega
      have m4 : (ev (zq first) 1 + 1) * (ev (zq first) 1 + 1) ≤ -zq first 0 * -zq first 0 := Int.mul_le_mul x x (by omega) (by omega)
      rw [Int.neg_mul_neg] at m4
      have m5 : (ev (zq first) 1 + 1) * (ev (zq first) 1 + 1) = ev (zq first) 1 * ev (zq first) 1 + 2 * ev (zq first) 1 + 1 := by grind
      rw [m5] at m4
      have m6 := sq_nn (zq first 0)
      omega
  refine ⟨hro, g3, by omega, by omega, h1, by omega, by omega, by omega, by omega, by omega, fun j hj => ?_⟩
  match j, hj with
  | 0, _ => omega
  | 1, _ => omega
  | 2, _ => omega
  | 3, _ => omega
