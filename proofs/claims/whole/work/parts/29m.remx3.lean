theorem fg_eq (k : Nat) (kk : Int32 → (Nat → Int64) → Option (Int32 × (Nat → Int64))) : ∀ (d i : Nat) (met : Nat → Int64), i + d = 324 → ∃ z, pX2_forget_L2 (k + d + 1) (nI i) met kk = kk (nI 324) z ∧ (∀ j, i ≤ j → j < 324 → z j = 0) ∧ ∀ j, j < i → z j = met j := by
  intro d
  induction d with
  | zero =>
    intro i met h
    obtain rfl : i = 324 := by omega
    refine ⟨met, ?_, fun j h1 h2 => absurd h2 (by omega), fun _ _ => rfl⟩
    rw [pX2_forget_L2, if_pos (by decide)]
  | succ d ih =>
    intro i met h
    rw [show k + (d + 1) + 1 = k + d + 1 + 1 by omega, pX2_forget_L2, if_neg (by rw [show (324 : Int32) = nI 324 from rfl, nI_leI (by omega) (by omega)]; omega), ck_t (ix_nI (show i < 324 by omega) (by omega)), nI_clamp (by omega), show nI i + 1 = nI (i + 1) from nI_add i 1]
    obtain ⟨z, e1, e2, e3⟩ := ih (i + 1) (vp_updL met i 0) (by omega)
    refine ⟨z, e1, fun j h1 h2 => ?_, fun j h1 => ?_⟩
    · by_cases q : j = i
      · rw [e3 j (by omega), updL_at, if_pos q]
      · exact e2 j (by omega) h2
    · rw [e3 j (by omega), updL_at, if_neg (by omega)]
theorem r6_st (k : Nat) {m i : Nat} (h2 : 2 ≤ m) (h12 : m ≤ 12) (hi : i < 4) {a : Nat → Int64} (ha : -1000000000 ≤ (a i).toInt ∧ (a i).toInt ≤ 1000000000) (f : Nat → Int32) (kk : Int32 → (Nat → Int32) → Option (Int32 × Int32 × (Nat → Int64) × (Nat → Int32) × (Nat → Int32))) : pX2_remaindersOf_L6 (nI m) a (k + 1) (nI i) f kk = pX2_remaindersOf_L6 (nI m) a k (nI (i + 1)) (upd f i (nI (((a i).toInt % (m : Int)).toNat))) kk := by
  obtain ⟨r, e1, e2⟩ := fm64 (a := a i) (b := lN m) (m := (m : Int)) (pk_lT (by omega)) (by omega) (by omega) (by omega) (by omega)
  have hl := em_lt (a i).toInt (show 0 < m by omega)
  have hr : r = lN ((a i).toInt % (m : Int)).toNat := by rw [i64_eq, pk_lT (by omega), e2, hl.2]
  rw [pX2_remaindersOf_L6, if_neg (by rw [show (4 : Int32) = nI 4 from rfl, nI_leI (by omega) (by omega)]; omega), ck_t (ix_nI hi (by omega)), nI_clamp (by omega), nI_l (by omega), e1, Option.bind_some, hr, lN_i, show nI i + 1 = nI (i + 1) from nI_add i 1]
theorem all_m : ∀ m : Fin 13, (((1 : Int32) <<< (nI m.val &&& 31)) - (1 : Int32)) = nI (2 ^ m.val - 1) := by decide +kernel
theorem rx_eq {n : Nat} (hn : FU ≤ n) {first : Nat → Int64} (hg : GB first) {m : Nat} (h2 : 2 ≤ m) (h12 : m ≤ 12) (met : Nat → Int64) (queue four : Nat → Int32) : ∃ R, pX2_remaindersOf n met queue four first (nI m) = some R ∧ R.1 = RM (zq first) m := by
  have hn5 := fu1 hn
  obtain ⟨k, rfl⟩ : ∃ k, n = k + 2000 := ⟨n - 2000, by omega⟩
  obtain ⟨z, f1, f2, -⟩ := fg_eq (k + 1675) (fun (y1_3 : Int32) (u3_met : (Nat → Int64)) => some ((0 : Int32), u3_met)) 324 0 met rfl
  have f1' : pX2_forget (k + 2000) met = some (0, z) := f1
  rw [pX2_remaindersOf, f1', Option.bind_some, show (0 : Int32) = nI 0 from rfl]
  rw [show k + 2000 = k + 1996 + 1 + 1 + 1 + 1 by omega, r6_st _ h2 h12 (show 0 < 4 by omega) (hg.2.at (by omega)), r6_st _ h2 h12 (show 0 + 1 < 4 by omega) (hg.2.at (by omega)), r6_st _ h2 h12 (show 0 + 1 + 1 < 4 by omega) (hg.2.at (by omega)), r6_st _ h2 h12 (show 0 + 1 + 1 + 1 < 4 by omega) (hg.2.at (by omega)), show k + 1996 = k + 1995 + 1 by omega, pX2_remaindersOf_L6, if_pos (by decide)]
  have hs := gc_start (q := zq first) (m := m) hg.1 (by omega)
  have h20 := Nat.lt_of_lt_of_le hs.1 (pw12 h12)
  have hQ0 : QX [] 0 z queue := ⟨rfl, fun i c h => absurd h (by simp), fun c hc => by
    rw [f2 (c / 64) (by omega) (by omega)]
    show (0#64).getLsbD (c % 64) = decide (c ∈ [])
    rw [BitVec.getLsbD_zero]; simp⟩
  obtain ⟨s1, m1, q1, e1, e2⟩ := me_eq (k + 1995) m (zq first 0 % (m : Int)).toNat (zq first 1 % (m : Int)).toNat (zq first 2 % (m : Int)).toNat (zq first 3 % (m : Int)).toNat (f := upd (upd (upd (upd four 0 (nI (((first 0).toInt % (m : Int)).toNat))) (0 + 1) (nI (((first (0 + 1)).toInt % (m : Int)).toNat))) (0 + 1 + 1) (nI (((first (0 + 1 + 1)).toInt % (m : Int)).toNat))) (0 + 1 + 1 + 1) (nI (((first (0 + 1 + 1 + 1)).toInt % (m : Int)).toNat))) rfl rfl rfl rfl h20 hQ0 (fun _ => by decide)
  rw [show k + 1995 + 1 + 1 + 1 + 1 + 1 = k + 1995 + 5 by omega]
  refine (show ∃ R, Option.bind (pX2_meet (k + 1995 + 5) 0 z queue (upd (upd (upd (upd four 0 (nI (((first 0).toInt % (m : Int)).toNat))) (0 + 1) (nI (((first (0 + 1)).toInt % (m : Int)).toNat))) (0 + 1 + 1) (nI (((first (0 + 1 + 1)).toInt % (m : Int)).toNat))) (0 + 1 + 1 + 1) (nI (((first (0 + 1 + 1 + 1)).toInt % (m : Int)).toNat))) (nI m)) _ = some R ∧ _ from ?_)
  rw [e1, Option.bind_some, all_m ⟨m, by omega⟩]
  have hq1 : addq [] (pk4 m (zq first 0 % (m : Int)).toNat (zq first 1 % (m : Int)).toNat (zq first 2 % (m : Int)).toNat (zq first 3 % (m : Int)).toNat) = [rcode (zq first) m] := rfl
  rw [hq1] at e2
  obtain ⟨y5, s2, m2, q2, f2', w⟩ := xl_eq (k + 770) (c0 := rcode (zq first) m) h2 h12 (fun (y4_15 : Int32) (y5_15 : Int32) (u15_size : Int32) (u15_met : (Nat → Int64)) (u15_queue : (Nat → Int32)) (u15_four : (Nat → Int32)) => some (y4_15, u15_size, u15_met, u15_queue, u15_four)) 1220 20737 0 0 [rcode (zq first) m] s1 m1 q1 (upd (upd (upd (upd four 0 (nI (((first 0).toInt % (m : Int)).toNat))) (0 + 1) (nI (((first (0 + 1)).toInt % (m : Int)).toNat))) (0 + 1 + 1) (nI (((first (0 + 1 + 1)).toInt % (m : Int)).toNat))) (0 + 1 + 1 + 1) (nI (((first (0 + 1 + 1 + 1)).toInt % (m : Int)).toNat))) (by omega) (by omega) (by omega) (Nat.pow_pos (by decide)) ⟨by simp, fun x hx => by rw [List.mem_singleton] at hx; rw [hx]; exact hs⟩ e2
  rw [show k + 770 + 9 + 1220 + 1 = k + 1995 + 5 by omega] at w
  exact ⟨_, w, rfl⟩
