def pX9_digit_L5 (x1 : Int32) (x2 : Int32) : Nat → Int32 → Int32 → (Int32 → Int32 → Option (Int32)) → Option (Int32)
  | 0, _, _, _ => none
  | n + 1, x3, x4, k => if x1 ≤ x4 then k x3 x4 else ck (¬ x2 = 0) (pX9_digit_L5 x1 x2 n (x3 / x2) (x4 + (1 : Int32)) k)
def pX9_digit (n : Nat) (p0 : Int32) (p1 : Int32) (p2 : Int32) : Option (Int32) := pX9_digit_L5 p1 p2 n p0 (0 : Int32) (fun (y3_3 : Int32) (y4_3 : Int32) => ck (¬ p2 = 0) (some (y3_3 - y3_3 / p2 * p2)))
def rmX9_digit : Room := { frames := 0, cells := 0, slots := 0, locals := 0 }
set_option maxRecDepth 100000 in
set_option maxHeartbeats 4000000 in
theorem kX9_digit {l : Launch} {G : va_G} {cI cJ cZ cS cG : ClassId} (n : Nat) (p0 : Int32) (p1 : Int32) (p2 : Int32) (R : Int32) (hf : pX9_digit n p0 p1 p2 = some R) : CTi l yX9_digit wsX9_digit rmX9_digit G cI cJ cZ cS cG [.int p0, .int p1, .int p2] [] [] R := by
  refine Met.ofE (Qc := fun A => QRi G A [] R) (cc := cX9_digit) (nL := 5) (ret := some .int) (plainFor_of_name (by decide +kernel)) rfl (Nat.le_of_ble_eq_true rfl) ?_
  intro p e s m below meth c A ls hx hb hml hr hlk hts hown hK hA hP hD hS hl
  have hown : s.vm.findClass RX9 = some m.cls := hown
  have hl : lv_has ls 5 [(0, .int p0), (1, .int p1), (2, .int p2)] := hl
  generalize hQ : MQ below (QRi G A [] R) ([.int p0, .int p1, .int p2] : List Value).toArray s 0 0 A = QQ
  unfold pX9_digit at hf
  have hL5 : ∀ (x0 : Int32) (x1 : Int32) (x2 : Int32) (k : Int32 → Int32 → Option (Int32)), (∀ (x3 : Int32) (x4 : Int32) (H : Heap) (locs : List Loc) (ls : Array Slot), k x3 x4 = some R → va_P G vwCl [] H → va_D A [] → va_S A s.heap H locs → lv_has ls 5 [(0, .int x0), (1, .int x1), (2, .int x2), (3, .int x3), (4, .int x4)] → W p l e rmX9_digit s m ([.int p0, .int p1, .int p2] : List Value).toArray below meth c H locs 0 0 QQ (F0 m 21 ls [])) → ∀ (n : Nat) (x3 : Int32) (x4 : Int32) (H : Heap) (locs : List Loc) (ls : Array Slot), pX9_digit_L5 x1 x2 n x3 x4 k = some R → va_P G vwCl [] H → va_D A [] → va_S A s.heap H locs → lv_has ls 5 [(0, .int x0), (1, .int x1), (2, .int x2), (3, .int x3), (4, .int x4)] → W p l e rmX9_digit s m ([.int p0, .int p1, .int p2] : List Value).toArray below meth c H locs 0 0 QQ (F0 m 5 ls []) := by
    intro x0 x1 x2 k hk n
    induction n with
    | zero =>
      intro x3 x4 H locs ls hf
      cases hf
    | succ n ih =>
      intro x3 x4 H locs ls hf hP hD hS hl
      unfold pX9_digit_L5 at hf
      refine lv_iload hx hb dX9_digit_5 (lv_at hl 4 rfl) ?_
      refine lv_iload_n hx hb dX9_digit_7 rfl (lv_at hl 1 rfl) ?_
      refine lv_icmp_ge (tgt := 21) hx hb dX9_digit_8 (by decide) (fun c1 => ?_) (fun c1 => ?_)
      · have hf := if_s hf c1
        exact hk x3 x4 _ _ _ hf hP hD hS (lv_sub hl [0, 1, 2, 3, 4] rfl)
      · have hf := if_n hf c1
        refine lv_iload_n hx hb dX9_digit_11 rfl (lv_at hl 3 rfl) ?_
        refine lv_iload_n hx hb dX9_digit_12 rfl (lv_at hl 2 rfl) ?_
        obtain ⟨z2, hf⟩ := ck_s hf
        refine lv_idiv hx hb dX9_digit_13 z2 ?_
        refine lv_istore_n (lv' := [(3, .int (x3 / x2)), (0, .int x0), (1, .int x1), (2, .int x2), (4, .int x4)]) hx hb dX9_digit_14 rfl hl (by decide) rfl (fun ls hl => ?_)
        refine lv_iinc (v := x4 + (1 : Int32)) (lv' := [(4, .int (x4 + (1 : Int32))), (3, .int (x3 / x2)), (0, .int x0), (1, .int x1), (2, .int x2)]) hx hb dX9_digit_15 hl (k := 4) rfl rfl (by decide) rfl (fun ls hl => ?_)
        refine lv_goto (tgt := 5) hx hb dX9_digit_18 (by decide) ?_
        exact ih (x3 / x2) (x4 + (1 : Int32)) _ _ _ hf hP hD hS (lv_sub hl [2, 3, 4, 1, 0] rfl)
  refine lv_iload_n hx hb dX9_digit_0 rfl (lv_at hl 0 rfl) ?_
  refine lv_istore_n (lv' := [(3, .int p0), (0, .int p0), (1, .int p1), (2, .int p2)]) hx hb dX9_digit_1 rfl hl (by decide) rfl (fun ls hl => ?_)
  refine lv_iconst (v := 0) hx hb dX9_digit_2 (by decide) ?_
  refine lv_istore (lv' := [(4, .int (0 : Int32)), (3, .int p0), (0, .int p0), (1, .int p1), (2, .int p2)]) hx hb dX9_digit_3 hl (by decide) rfl (fun ls hl => ?_)
  refine hL5 p0 p1 p2 _ (fun y3_3 y4_3 H locs ls hf hP hD hS hl => ?_) n p0 (0 : Int32) _ _ _ hf hP hD hS (lv_sub hl [2, 3, 4, 1, 0] rfl)
  have hP : va_P G vwCl [] H := hP
  have hD : va_D A [] := hD
  refine lv_iload_n hx hb dX9_digit_21 rfl (lv_at hl 3 rfl) ?_
  refine lv_iload_n hx hb dX9_digit_22 rfl (lv_at hl 2 rfl) ?_
  obtain ⟨z4, hf⟩ := ck_s hf
  refine lv_irem hx hb dX9_digit_23 z4 ?_
  cases hf
  rw [← hQ]
  exact rt_i hx hb hr hlk hP hD hS rfl dX9_digit_24
def pX9_power_L4 (x0 : Int32) (x1 : Int32) : Nat → Int32 → Int32 → (Int32 → Int32 → Option (Int32)) → Option (Int32)
  | 0, _, _, _ => none
  | n + 1, x2, x3, k => if x1 ≤ x3 then k x2 x3 else pX9_power_L4 x0 x1 n (x2 * x0) (x3 + (1 : Int32)) k
def pX9_power (n : Nat) (p0 : Int32) (p1 : Int32) : Option (Int32) := pX9_power_L4 p0 p1 n (1 : Int32) (0 : Int32) (fun (y2_2 : Int32) (y3_2 : Int32) => some y2_2)
def rmX9_power : Room := { frames := 0, cells := 0, slots := 0, locals := 0 }
set_option maxRecDepth 100000 in
set_option maxHeartbeats 4000000 in
theorem kX9_power {l : Launch} {G : va_G} {cI cJ cZ cS cG : ClassId} (n : Nat) (p0 : Int32) (p1 : Int32) (R : Int32) (hf : pX9_power n p0 p1 = some R) : CTi l yX9_power wsX9_power rmX9_power G cI cJ cZ cS cG [.int p0, .int p1] [] [] R := by
  refine Met.ofE (Qc := fun A => QRi G A [] R) (cc := cX9_power) (nL := 4) (ret := some .int) (plainFor_of_name (by decide +kernel)) rfl (Nat.le_of_ble_eq_true rfl) ?_
  intro p e s m below meth c A ls hx hb hml hr hlk hts hown hK hA hP hD hS hl
  have hown : s.vm.findClass RX9 = some m.cls := hown
  have hl : lv_has ls 4 [(0, .int p0), (1, .int p1)] := hl
  generalize hQ : MQ below (QRi G A [] R) ([.int p0, .int p1] : List Value).toArray s 0 0 A = QQ
  unfold pX9_power at hf
  have hL4 : ∀ (x0 : Int32) (x1 : Int32) (k : Int32 → Int32 → Option (Int32)), (∀ (x2 : Int32) (x3 : Int32) (H : Heap) (locs : List Loc) (ls : Array Slot), k x2 x3 = some R → va_P G vwCl [] H → va_D A [] → va_S A s.heap H locs → lv_has ls 4 [(0, .int x0), (1, .int x1), (2, .int x2), (3, .int x3)] → W p l e rmX9_power s m ([.int p0, .int p1] : List Value).toArray below meth c H locs 0 0 QQ (F0 m 19 ls [])) → ∀ (n : Nat) (x2 : Int32) (x3 : Int32) (H : Heap) (locs : List Loc) (ls : Array Slot), pX9_power_L4 x0 x1 n x2 x3 k = some R → va_P G vwCl [] H → va_D A [] → va_S A s.heap H locs → lv_has ls 4 [(0, .int x0), (1, .int x1), (2, .int x2), (3, .int x3)] → W p l e rmX9_power s m ([.int p0, .int p1] : List Value).toArray below meth c H locs 0 0 QQ (F0 m 4 ls []) := by
    intro x0 x1 k hk n
    induction n with
    | zero =>
      intro x2 x3 H locs ls hf
      cases hf
    | succ n ih =>
      intro x2 x3 H locs ls hf hP hD hS hl
      unfold pX9_power_L4 at hf
      refine lv_iload_n hx hb dX9_power_4 rfl (lv_at hl 3 rfl) ?_
      refine lv_iload_n hx hb dX9_power_5 rfl (lv_at hl 1 rfl) ?_
      refine lv_icmp_ge (tgt := 19) hx hb dX9_power_6 (by decide) (fun c1 => ?_) (fun c1 => ?_)
      · have hf := if_s hf c1
        exact hk x2 x3 _ _ _ hf hP hD hS (lv_sub hl [0, 1, 2, 3] rfl)
      · have hf := if_n hf c1
        refine lv_iload_n hx hb dX9_power_9 rfl (lv_at hl 2 rfl) ?_
        refine lv_iload_n hx hb dX9_power_10 rfl (lv_at hl 0 rfl) ?_
        refine lv_imul hx hb dX9_power_11 ?_
        refine lv_istore_n (lv' := [(2, .int (x2 * x0)), (0, .int x0), (1, .int x1), (3, .int x3)]) hx hb dX9_power_12 rfl hl (by decide) rfl (fun ls hl => ?_)
        refine lv_iinc (v := x3 + (1 : Int32)) (lv' := [(3, .int (x3 + (1 : Int32))), (2, .int (x2 * x0)), (0, .int x0), (1, .int x1)]) hx hb dX9_power_13 hl (k := 3) rfl rfl (by decide) rfl (fun ls hl => ?_)
        refine lv_goto (tgt := 4) hx hb dX9_power_16 (by decide) ?_
        exact ih (x2 * x0) (x3 + (1 : Int32)) _ _ _ hf hP hD hS (lv_sub hl [2, 3, 1, 0] rfl)
  refine lv_iconst (v := 1) hx hb dX9_power_0 (by decide) ?_
  refine lv_istore_n (lv' := [(2, .int (1 : Int32)), (0, .int p0), (1, .int p1)]) hx hb dX9_power_1 rfl hl (by decide) rfl (fun ls hl => ?_)
  refine lv_iconst (v := 0) hx hb dX9_power_2 (by decide) ?_
  refine lv_istore_n (lv' := [(3, .int (0 : Int32)), (2, .int (1 : Int32)), (0, .int p0), (1, .int p1)]) hx hb dX9_power_3 rfl hl (by decide) rfl (fun ls hl => ?_)
  refine hL4 p0 p1 _ (fun y2_2 y3_2 H locs ls hf hP hD hS hl => ?_) n (1 : Int32) (0 : Int32) _ _ _ hf hP hD hS (lv_sub hl [2, 3, 1, 0] rfl)
  have hP : va_P G vwCl [] H := hP
  have hD : va_D A [] := hD
  refine lv_iload_n hx hb dX9_power_19 rfl (lv_at hl 2 rfl) ?_
  cases hf
  rw [← hQ]
  exact rt_i hx hb hr hlk hP hD hS rfl dX9_power_20
def pX9_turnedBy_L5 (x0 : Int32) (x2 : Int32) : Nat → Int32 → Int32 → (Int32 → Int32 → Option (Int32)) → Option (Int32)
  | 0, _, _, _ => none
  | n + 1, x3, x4, k => if (4 : Int32) ≤ x4 then k x3 x4 else Option.bind (pX9_digit n x0 x4 x2) (fun r2 => pX9_turnedBy_L5 x0 x2 n (x3 + r2) (x4 + (1 : Int32)) k)
def pX9_turnedBy (n : Nat) (p0 : Int32) (p1 : Int32) (p2 : Int32) : Option (Int32) := pX9_turnedBy_L5 p0 p2 n (0 : Int32) (0 : Int32) (fun (y3_3 : Int32) (y4_3 : Int32) => Option.bind (pX9_digit n p0 p1 p2) (fun r4 => ck (¬ p2 = 0) (Option.bind (pX9_power n p2 p1) (fun r6 => some (p0 + (((((((2 : Int32) * (y3_3 - r4)) - r4) + p2) - ((((2 : Int32) * (y3_3 - r4)) - r4) + p2) / p2 * p2) - r4) * r6))))))
def rmX9_turnedBy : Room := { frames := 1, cells := 0, slots := 0, locals := 24 }
set_option maxRecDepth 100000 in
set_option maxHeartbeats 4000000 in
theorem kX9_turnedBy {l : Launch} {G : va_G} {cI cJ cZ cS cG : ClassId} (n : Nat) (p0 : Int32) (p1 : Int32) (p2 : Int32) (R : Int32) (hf : pX9_turnedBy n p0 p1 p2 = some R) : CTi l yX9_turnedBy wsX9_turnedBy rmX9_turnedBy G cI cJ cZ cS cG [.int p0, .int p1, .int p2] [] [] R := by
  refine Met.ofE (Qc := fun A => QRi G A [] R) (cc := cX9_turnedBy) (nL := 6) (ret := some .int) (plainFor_of_name (by decide +kernel)) rfl (Nat.le_of_ble_eq_true rfl) ?_
  intro p e s m below meth c A ls hx hb hml hr hlk hts hown hK hA hP hD hS hl
  have hown : s.vm.findClass RX9 = some m.cls := hown
  have hl : lv_has ls 6 [(0, .int p0), (1, .int p1), (2, .int p2)] := hl
  generalize hQ : MQ below (QRi G A [] R) ([.int p0, .int p1, .int p2] : List Value).toArray s 0 0 A = QQ
  unfold pX9_turnedBy at hf
  have hL5 : ∀ (x0 : Int32) (x1 : Int32) (x2 : Int32) (k : Int32 → Int32 → Option (Int32)), (∀ (x3 : Int32) (x4 : Int32) (H : Heap) (locs : List Loc) (ls : Array Slot), k x3 x4 = some R → va_P G vwCl [] H → va_D A [] → va_S A s.heap H locs → lv_has ls 6 [(0, .int x0), (1, .int x1), (2, .int x2), (3, .int x3), (4, .int x4)] → W p l e rmX9_turnedBy s m ([.int p0, .int p1, .int p2] : List Value).toArray below meth c H locs 0 0 QQ (F0 m 27 ls [])) → ∀ (n : Nat) (x3 : Int32) (x4 : Int32) (H : Heap) (locs : List Loc) (ls : Array Slot), pX9_turnedBy_L5 x0 x2 n x3 x4 k = some R → va_P G vwCl [] H → va_D A [] → va_S A s.heap H locs → lv_has ls 6 [(0, .int x0), (1, .int x1), (2, .int x2), (3, .int x3), (4, .int x4)] → W p l e rmX9_turnedBy s m ([.int p0, .int p1, .int p2] : List Value).toArray below meth c H locs 0 0 QQ (F0 m 5 ls []) := by
    intro x0 x1 x2 k hk n
    induction n with
    | zero =>
      intro x3 x4 H locs ls hf
      cases hf
    | succ n ih =>
      intro x3 x4 H locs ls hf hP hD hS hl
      unfold pX9_turnedBy_L5 at hf
      refine lv_iload hx hb dX9_turnedBy_5 (lv_at hl 4 rfl) ?_
      refine lv_iconst (v := 4) hx hb dX9_turnedBy_7 (by decide) ?_
      refine lv_icmp_ge (tgt := 27) hx hb dX9_turnedBy_8 (by decide) (fun c1 => ?_) (fun c1 => ?_)
      · have hf := if_s hf c1
        exact hk x3 x4 _ _ _ hf hP hD hS (lv_sub hl [0, 1, 2, 3, 4] rfl)
      · have hf := if_n hf c1
        refine lv_iload_n hx hb dX9_turnedBy_11 rfl (lv_at hl 3 rfl) ?_
        refine lv_iload_n hx hb dX9_turnedBy_12 rfl (lv_at hl 0 rfl) ?_
        refine lv_iload hx hb dX9_turnedBy_13 (lv_at hl 4 rfl) ?_
        refine lv_iload_n hx hb dX9_turnedBy_15 rfl (lv_at hl 2 rfl) ?_
        obtain ⟨r2, hc2, hf⟩ := ob_s hf
        refine bk_i (wc := []) (wc2 := []) (wr := []) (ws2 := []) (r := r2) (va_runS (As := [.int x0, .int x4, .int x2]) (rest := [.int x3]) ⟨hx, hb, hml, hown, hts⟩ (kX9_digit (l := l) (G := G) (cI := cI) (cJ := cJ) (cZ := cZ) (cS := cS) (cG := cG) n x0 x4 x2 _ hc2 _) (va_cwS 3 hts gX9_turnedBy_X9_digit rfl rfl rfl (by decide +kernel) ⟨Nat.le_of_ble_eq_true rfl, Nat.le_of_ble_eq_true rfl⟩) (cut_S hK hP hD [] rfl rfl) rfl rfl hl.1 rfl (lv_room (Nat.le_of_ble_eq_true rfl)) dX9_turnedBy_16 ⟨Nat.zero_le _, Nat.zero_le _⟩) hP hD hS hA [] [] [] rfl rfl rfl rfl rfl rfl (fun H locs hP hD hS => ?_)
        refine lv_iadd hx hb dX9_turnedBy_19 ?_
        refine lv_istore_n (lv' := [(3, .int (x3 + r2)), (0, .int x0), (1, .int x1), (2, .int x2), (4, .int x4)]) hx hb dX9_turnedBy_20 rfl hl (by decide) rfl (fun ls hl => ?_)
        refine lv_iinc (v := x4 + (1 : Int32)) (lv' := [(4, .int (x4 + (1 : Int32))), (3, .int (x3 + r2)), (0, .int x0), (1, .int x1), (2, .int x2)]) hx hb dX9_turnedBy_21 hl (k := 4) rfl rfl (by decide) rfl (fun ls hl => ?_)
        refine lv_goto (tgt := 5) hx hb dX9_turnedBy_24 (by decide) ?_
        exact ih (x3 + r2) (x4 + (1 : Int32)) _ _ _ hf hP hD hS (lv_sub hl [2, 3, 4, 1, 0] rfl)
  refine lv_iconst (v := 0) hx hb dX9_turnedBy_0 (by decide) ?_
  refine lv_istore_n (lv' := [(3, .int (0 : Int32)), (0, .int p0), (1, .int p1), (2, .int p2)]) hx hb dX9_turnedBy_1 rfl hl (by decide) rfl (fun ls hl => ?_)
  refine lv_iconst (v := 0) hx hb dX9_turnedBy_2 (by decide) ?_
  refine lv_istore (lv' := [(4, .int (0 : Int32)), (3, .int (0 : Int32)), (0, .int p0), (1, .int p1), (2, .int p2)]) hx hb dX9_turnedBy_3 hl (by decide) rfl (fun ls hl => ?_)
  refine hL5 p0 p1 p2 _ (fun y3_3 y4_3 H locs ls hf hP hD hS hl => ?_) n (0 : Int32) (0 : Int32) _ _ _ hf hP hD hS (lv_sub hl [2, 3, 4, 1, 0] rfl)
  have hP : va_P G vwCl [] H := hP
  have hD : va_D A [] := hD
  refine lv_iload_n hx hb dX9_turnedBy_27 rfl (lv_at hl 0 rfl) ?_
  refine lv_iload_n hx hb dX9_turnedBy_28 rfl (lv_at hl 1 rfl) ?_
  refine lv_iload_n hx hb dX9_turnedBy_29 rfl (lv_at hl 2 rfl) ?_
  obtain ⟨r4, hc4, hf⟩ := ob_s hf
  refine bk_i (wc := []) (wc2 := []) (wr := []) (ws2 := []) (r := r4) (va_runS (As := [.int p0, .int p1, .int p2]) (rest := []) ⟨hx, hb, hml, hown, hts⟩ (kX9_digit (l := l) (G := G) (cI := cI) (cJ := cJ) (cZ := cZ) (cS := cS) (cG := cG) n p0 p1 p2 _ hc4 _) (va_cwS 3 hts gX9_turnedBy_X9_digit rfl rfl rfl (by decide +kernel) ⟨Nat.le_of_ble_eq_true rfl, Nat.le_of_ble_eq_true rfl⟩) (cut_S hK hP hD [] rfl rfl) rfl rfl hl.1 rfl (lv_room (Nat.le_of_ble_eq_true rfl)) dX9_turnedBy_30 ⟨Nat.zero_le _, Nat.zero_le _⟩) hP hD hS hA [] [] [] rfl rfl rfl rfl rfl rfl (fun H locs hP hD hS => ?_)
  refine lv_istore (lv' := [(4, .int r4), (0, .int p0), (1, .int p1), (2, .int p2), (3, .int y3_3)]) hx hb dX9_turnedBy_33 hl (by decide) rfl (fun ls hl => ?_)
  refine lv_iconst (v := 2) hx hb dX9_turnedBy_35 (by decide) ?_
  refine lv_iload_n hx hb dX9_turnedBy_36 rfl (lv_at hl 4 rfl) ?_
  refine lv_iload hx hb dX9_turnedBy_37 (lv_at hl 0 rfl) ?_
  refine lv_isub hx hb dX9_turnedBy_39 ?_
  refine lv_imul hx hb dX9_turnedBy_40 ?_
  refine lv_iload hx hb dX9_turnedBy_41 (lv_at hl 0 rfl) ?_
  refine lv_isub hx hb dX9_turnedBy_43 ?_
  refine lv_iload_n hx hb dX9_turnedBy_44 rfl (lv_at hl 3 rfl) ?_
  refine lv_iadd hx hb dX9_turnedBy_45 ?_
  refine lv_iload_n hx hb dX9_turnedBy_46 rfl (lv_at hl 3 rfl) ?_
  obtain ⟨z5, hf⟩ := ck_s hf
  refine lv_irem hx hb dX9_turnedBy_47 z5 ?_
  refine lv_istore (lv' := [(5, .int (((((2 : Int32) * (y3_3 - r4)) - r4) + p2) - ((((2 : Int32) * (y3_3 - r4)) - r4) + p2) / p2 * p2)), (4, .int r4), (0, .int p0), (1, .int p1), (2, .int p2), (3, .int y3_3)]) hx hb dX9_turnedBy_48 hl (by decide) rfl (fun ls hl => ?_)
  refine lv_iload_n hx hb dX9_turnedBy_50 rfl (lv_at hl 2 rfl) ?_
  refine lv_iload hx hb dX9_turnedBy_51 (lv_at hl 0 rfl) ?_
  refine lv_iload hx hb dX9_turnedBy_53 (lv_at hl 1 rfl) ?_
  refine lv_isub hx hb dX9_turnedBy_55 ?_
  refine lv_iload_n hx hb dX9_turnedBy_56 rfl (lv_at hl 4 rfl) ?_
  refine lv_iload_n hx hb dX9_turnedBy_57 rfl (lv_at hl 3 rfl) ?_
  obtain ⟨r6, hc6, hf⟩ := ob_s hf
  refine bk_i (wc := []) (wc2 := []) (wr := []) (ws2 := []) (r := r6) (va_runS (As := [.int p2, .int p1]) (rest := [.int ((((((2 : Int32) * (y3_3 - r4)) - r4) + p2) - ((((2 : Int32) * (y3_3 - r4)) - r4) + p2) / p2 * p2) - r4), .int p0]) ⟨hx, hb, hml, hown, hts⟩ (kX9_power (l := l) (G := G) (cI := cI) (cJ := cJ) (cZ := cZ) (cS := cS) (cG := cG) n p2 p1 _ hc6 _) (va_cwS 2 hts gX9_turnedBy_X9_power rfl rfl rfl (by decide +kernel) ⟨Nat.le_of_ble_eq_true rfl, Nat.le_of_ble_eq_true rfl⟩) (cut_S hK hP hD [] rfl rfl) rfl rfl hl.1 rfl (lv_room (Nat.le_of_ble_eq_true rfl)) dX9_turnedBy_58 ⟨Nat.zero_le _, Nat.zero_le _⟩) hP hD hS hA [] [] [] rfl rfl rfl rfl rfl rfl (fun H locs hP hD hS => ?_)
  refine lv_imul hx hb dX9_turnedBy_61 ?_
  refine lv_iadd hx hb dX9_turnedBy_62 ?_
  cases hf
  rw [← hQ]
  exact rt_i hx hb hr hlk hP hD hS rfl dX9_turnedBy_63
def pX9_findRemainders_L2 : Nat → Int32 → (Nat → Int32) → (Int32 → (Nat → Int32) → Option (Int32 × (Nat → Int32) × (Nat → Int32))) → Option (Int32 × (Nat → Int32) × (Nat → Int32))
  | 0, _, _, _ => none
  | n + 1, x2, v_isMet, k => if (20736 : Int32) ≤ x2 then k x2 v_isMet else ck (ix x2 20736) (pX9_findRemainders_L2 n (x2 + (1 : Int32)) (upd v_isMet x2.toNatClampNeg (0 : Int32)) k)
def pX9_findRemainders_L26 (x1 : Int32) (v_rootAt : (Nat → Int64)) : Nat → Int32 → Int32 → (Int32 → Int32 → Option (Int32 × (Nat → Int32) × (Nat → Int32))) → Option (Int32 × (Nat → Int32) × (Nat → Int32))
  | 0, _, _, _ => none
  | n + 1, x2, x3, k => if x3 < 0 then k x2 x3 else ck (ix x3 4) (ck (¬ x1.toInt64 = 0) (pX9_findRemainders_L26 x1 v_rootAt n ((x2 * x1) + (((((v_rootAt x3.toNatClampNeg) - (v_rootAt x3.toNatClampNeg) / x1.toInt64 * x1.toInt64) + x1.toInt64) - (((v_rootAt x3.toNatClampNeg) - (v_rootAt x3.toNatClampNeg) / x1.toInt64 * x1.toInt64) + x1.toInt64) / x1.toInt64 * x1.toInt64).toInt32)) (x3 + (-1 : Int32)) k))
def pX9_findRemainders_L88 (x1 : Int32) (x5 : Int32) : Nat → Int32 → Int32 → Int32 → (Nat → Int32) → (Nat → Int32) → (Int32 → Int32 → Int32 → (Nat → Int32) → (Nat → Int32) → Option (Int32 × (Nat → Int32) × (Nat → Int32))) → Option (Int32 × (Nat → Int32) × (Nat → Int32))
  | 0, _, _, _, _, _, _ => none
  | n + 1, x3, x4, x6, v_isMet, v_queue, k => if (4 : Int32) ≤ x6 then k x3 x4 x6 v_isMet v_queue else ck (ix x5 20736) (Option.bind (pX9_digit n (v_queue x5.toNatClampNeg) x6 x1) (fun r12 => Option.bind (pX9_turnedBy n (v_queue x5.toNatClampNeg) x6 x1) (fun r13 => ck (ix r13 20736) (if (v_isMet r13.toNatClampNeg) = 0 then ck (ix x3 20736) (pX9_findRemainders_L88 x1 x5 n (x3 + (1 : Int32)) (x4 ||| ((1 : Int32) <<< (r12 &&& 31))) (x6 + (1 : Int32)) (upd v_isMet r13.toNatClampNeg (1 : Int32)) (upd v_queue x3.toNatClampNeg r13) k) else pX9_findRemainders_L88 x1 x5 n x3 (x4 ||| ((1 : Int32) <<< (r12 &&& 31))) (x6 + (1 : Int32)) v_isMet v_queue k))))
def pX9_findRemainders_L79 (x1 : Int32) : Nat → Int32 → Int32 → Int32 → (Nat → Int32) → (Nat → Int32) → (Int32 → Int32 → Int32 → (Nat → Int32) → (Nat → Int32) → Option (Int32 × (Nat → Int32) × (Nat → Int32))) → Option (Int32 × (Nat → Int32) × (Nat → Int32))
  | 0, _, _, _, _, _, _ => none
  | n + 1, x3, x4, x5, v_isMet, v_queue, k => if x3 ≤ x5 then k x3 x4 x5 v_isMet v_queue else pX9_findRemainders_L88 x1 x5 n x3 x4 (0 : Int32) v_isMet v_queue (fun (y3_17 : Int32) (y4_17 : Int32) (y6_17 : Int32) (u17_isMet : (Nat → Int32)) (u17_queue : (Nat → Int32)) => pX9_findRemainders_L79 x1 n y3_17 y4_17 (x5 + (1 : Int32)) u17_isMet u17_queue k)
def pX9_findRemainders (n : Nat) (v_rootAt : (Nat → Int64)) (v_isMet : (Nat → Int32)) (v_queue : (Nat → Int32)) (p1 : Int32) : Option (Int32 × (Nat → Int32) × (Nat → Int32)) := pX9_findRemainders_L2 n (0 : Int32) v_isMet (fun (y2_3 : Int32) (u3_isMet : (Nat → Int32)) => pX9_findRemainders_L26 p1 v_rootAt n (0 : Int32) (3 : Int32) (fun (y2_7 : Int32) (y3_7 : Int32) => ck (ix y2_7 20736) (pX9_findRemainders_L79 p1 n (1 : Int32) (0 : Int32) (0 : Int32) (upd u3_isMet y2_7.toNatClampNeg (1 : Int32)) (upd v_queue (0 : Int32).toNatClampNeg y2_7) (fun (y3_18 : Int32) (y4_18 : Int32) (y5_18 : Int32) (u18_isMet : (Nat → Int32)) (u18_queue : (Nat → Int32)) => some (y4_18, u18_isMet, u18_queue)))))
def rmX9_findRemainders : Room := { frames := 2, cells := 0, slots := 0, locals := 49 }
theorem hiX9_findRemainders_X9 : ∀ w ∈ u_ws RX9 TX9 17, w ∈ wsX9_findRemainders := fun _ h => List.mem_cons_of_mem _ (List.mem_append_right _ h)
set_option maxRecDepth 100000 in
set_option maxHeartbeats 4000000 in
theorem kX9_findRemainders {l : Launch} {G : va_G} {cI cJ cZ cS cG : ClassId} (n : Nat) (q q_bends q_rootAt q_pile q_lastAt q_nextAt q_hasBend q_isMet q_queue q_sums q_kept q_isKept q_copies q_shelfMany q_shelfSort q_shelfHas : Nat) (v_stepAt : Int32) (v_justMany : Int32) (v_rootAt : (Nat → Int64)) (v_isMet : (Nat → Int32)) (v_queue : (Nat → Int32)) (p1 : Int32) (R : Int32 × (Nat → Int32) × (Nat → Int32)) (hf : pX9_findRemainders n v_rootAt v_isMet v_queue p1 = some R) : CTi l yX9_findRemainders wsX9_findRemainders rmX9_findRemainders G cI cJ cZ cS cG [.ref q, .int p1] [(q, .inr (9, [.ref q_bends, .ref q_rootAt, .int v_stepAt, .ref q_pile, .ref q_lastAt, .ref q_nextAt, .ref q_hasBend, .int v_justMany, .ref q_isMet, .ref q_queue, .ref q_sums, .ref q_kept, .ref q_isKept, .ref q_copies, .ref q_shelfMany, .ref q_shelfSort, .ref q_shelfHas])), (q_rootAt, .inl (cJ, 4, .inr (.inl v_rootAt))), (q_isMet, .inl (cZ, 20736, .inl v_isMet)), (q_queue, .inl (cI, 20736, .inl v_queue))] [(q, .inr (9, [.ref q_bends, .ref q_rootAt, .int v_stepAt, .ref q_pile, .ref q_lastAt, .ref q_nextAt, .ref q_hasBend, .int v_justMany, .ref q_isMet, .ref q_queue, .ref q_sums, .ref q_kept, .ref q_isKept, .ref q_copies, .ref q_shelfMany, .ref q_shelfSort, .ref q_shelfHas])), (q_rootAt, .inl (cJ, 4, .inr (.inl v_rootAt))), (q_isMet, .inl (cZ, 20736, .inl R.2.1)), (q_queue, .inl (cI, 20736, .inl R.2.2))] R.1 := by
  refine Met.ofE (Qc := fun A => QRi G A [(q, .inr (9, [.ref q_bends, .ref q_rootAt, .int v_stepAt, .ref q_pile, .ref q_lastAt, .ref q_nextAt, .ref q_hasBend, .int v_justMany, .ref q_isMet, .ref q_queue, .ref q_sums, .ref q_kept, .ref q_isKept, .ref q_copies, .ref q_shelfMany, .ref q_shelfSort, .ref q_shelfHas])), (q_rootAt, .inl (cJ, 4, .inr (.inl v_rootAt))), (q_isMet, .inl (cZ, 20736, .inl R.2.1)), (q_queue, .inl (cI, 20736, .inl R.2.2))] R.1) (cc := cX9_findRemainders) (nL := 8) (ret := some .int) (plainFor_of_name (by decide +kernel)) rfl (Nat.le_of_ble_eq_true rfl) ?_
  intro p e s m below meth c A ls hx hb hml hr hlk hts hown hK hA hP hD hS hl
  have hown : s.vm.findClass RX9 = some m.cls := hown
  have hl : lv_has ls 8 [(0, .ref q), (1, .int p1)] := hl
  generalize hQ : MQ below (QRi G A [(q, .inr (9, [.ref q_bends, .ref q_rootAt, .int v_stepAt, .ref q_pile, .ref q_lastAt, .ref q_nextAt, .ref q_hasBend, .int v_justMany, .ref q_isMet, .ref q_queue, .ref q_sums, .ref q_kept, .ref q_isKept, .ref q_copies, .ref q_shelfMany, .ref q_shelfSort, .ref q_shelfHas])), (q_rootAt, .inl (cJ, 4, .inr (.inl v_rootAt))), (q_isMet, .inl (cZ, 20736, .inl R.2.1)), (q_queue, .inl (cI, 20736, .inl R.2.2))] R.1) ([.ref q, .int p1] : List Value).toArray s 0 0 A = QQ
  unfold pX9_findRemainders at hf
  have hL2 : ∀ (x1 : Int32) (v_queue : (Nat → Int32)) (k : Int32 → (Nat → Int32) → Option (Int32 × (Nat → Int32) × (Nat → Int32))), (∀ (x2 : Int32) (v_isMet : (Nat → Int32)) (H : Heap) (locs : List Loc) (ls : Array Slot), k x2 v_isMet = some R → va_P G vwCl [(q, .inr (9, [.ref q_bends, .ref q_rootAt, .int v_stepAt, .ref q_pile, .ref q_lastAt, .ref q_nextAt, .ref q_hasBend, .int v_justMany, .ref q_isMet, .ref q_queue, .ref q_sums, .ref q_kept, .ref q_isKept, .ref q_copies, .ref q_shelfMany, .ref q_shelfSort, .ref q_shelfHas])), (q_rootAt, .inl (cJ, 4, .inr (.inl v_rootAt))), (q_isMet, .inl (cZ, 20736, .inl v_isMet)), (q_queue, .inl (cI, 20736, .inl v_queue))] H → va_D A [(q, .inr (9, [.ref q_bends, .ref q_rootAt, .int v_stepAt, .ref q_pile, .ref q_lastAt, .ref q_nextAt, .ref q_hasBend, .int v_justMany, .ref q_isMet, .ref q_queue, .ref q_sums, .ref q_kept, .ref q_isKept, .ref q_copies, .ref q_shelfMany, .ref q_shelfSort, .ref q_shelfHas])), (q_rootAt, .inl (cJ, 4, .inr (.inl v_rootAt))), (q_isMet, .inl (cZ, 20736, .inl v_isMet)), (q_queue, .inl (cI, 20736, .inl v_queue))] → va_S A s.heap H locs → lv_has ls 8 [(0, .ref q), (1, .int x1), (2, .int x2)] → W p l e rmX9_findRemainders s m ([.ref q, .int p1] : List Value).toArray below meth c H locs 0 0 QQ (F0 m 22 ls [])) → ∀ (n : Nat) (x2 : Int32) (v_isMet : (Nat → Int32)) (H : Heap) (locs : List Loc) (ls : Array Slot), pX9_findRemainders_L2 n x2 v_isMet k = some R → va_P G vwCl [(q, .inr (9, [.ref q_bends, .ref q_rootAt, .int v_stepAt, .ref q_pile, .ref q_lastAt, .ref q_nextAt, .ref q_hasBend, .int v_justMany, .ref q_isMet, .ref q_queue, .ref q_sums, .ref q_kept, .ref q_isKept, .ref q_copies, .ref q_shelfMany, .ref q_shelfSort, .ref q_shelfHas])), (q_rootAt, .inl (cJ, 4, .inr (.inl v_rootAt))), (q_isMet, .inl (cZ, 20736, .inl v_isMet)), (q_queue, .inl (cI, 20736, .inl v_queue))] H → va_D A [(q, .inr (9, [.ref q_bends, .ref q_rootAt, .int v_stepAt, .ref q_pile, .ref q_lastAt, .ref q_nextAt, .ref q_hasBend, .int v_justMany, .ref q_isMet, .ref q_queue, .ref q_sums, .ref q_kept, .ref q_isKept, .ref q_copies, .ref q_shelfMany, .ref q_shelfSort, .ref q_shelfHas])), (q_rootAt, .inl (cJ, 4, .inr (.inl v_rootAt))), (q_isMet, .inl (cZ, 20736, .inl v_isMet)), (q_queue, .inl (cI, 20736, .inl v_queue))] → va_S A s.heap H locs → lv_has ls 8 [(0, .ref q), (1, .int x1), (2, .int x2)] → W p l e rmX9_findRemainders s m ([.ref q, .int p1] : List Value).toArray below meth c H locs 0 0 QQ (F0 m 2 ls []) := by
    intro x1 v_queue k hk n
    induction n with
    | zero =>
      intro x2 v_isMet H locs ls hf
      cases hf
    | succ n ih =>
      intro x2 v_isMet H locs ls hf hP hD hS hl
      unfold pX9_findRemainders_L2 at hf
      refine lv_iload_n hx hb dX9_findRemainders_2 rfl (lv_at hl 2 rfl) ?_
      refine lv_sipush (v := 20736) hx hb dX9_findRemainders_3 (by decide) ?_
      refine lv_icmp_ge (tgt := 22) hx hb dX9_findRemainders_6 (by decide) (fun c1 => ?_) (fun c1 => ?_)
      · have hf := if_s hf c1
        exact hk x2 v_isMet _ _ _ hf hP hD hS (lv_sub hl [0, 1, 2] rfl)
      · have hf := if_n hf c1
        refine lv_aload_n hx hb dX9_findRemainders_9 rfl (lv_at hl 0 rfl) ?_
        refine va_get (D := G) (ci := 9) (v := .ref q_isMet) (C := RX9) (T := TX9) (N := 17) hx hb hts hiX9_findRemainders_X9 hown hK.1 hP 0 rfl rfl 8 (by decide) (hts (.fieldLink RX9 30 "PackedBendsModel" "isMet" "[Z") (List.mem_of_getElem? (i := 1) rfl)) (fun _ h9 => h9) rfl dX9_findRemainders_10 ?_
        refine lv_iload_n hx hb dX9_findRemainders_13 rfl (lv_at hl 2 rfl) ?_
        refine lv_iconst (v := 0) hx hb dX9_findRemainders_14 (by decide) ?_
        obtain ⟨z2, hf⟩ := ck_s hf
        refine va_zast hx hb hK.1 hP hD hS 2 2 rfl rfl (vp_in_iff.mpr z2) dX9_findRemainders_15 (fun H locs hP hD hS => ?_)
        rw [vz0] at hP hD
        have hP : va_P G vwCl [(q, .inr (9, [.ref q_bends, .ref q_rootAt, .int v_stepAt, .ref q_pile, .ref q_lastAt, .ref q_nextAt, .ref q_hasBend, .int v_justMany, .ref q_isMet, .ref q_queue, .ref q_sums, .ref q_kept, .ref q_isKept, .ref q_copies, .ref q_shelfMany, .ref q_shelfSort, .ref q_shelfHas])), (q_rootAt, .inl (cJ, 4, .inr (.inl v_rootAt))), (q_isMet, .inl (cZ, 20736, .inl (upd v_isMet x2.toNatClampNeg (0 : Int32)))), (q_queue, .inl (cI, 20736, .inl v_queue))] H := hP
        have hD : va_D A [(q, .inr (9, [.ref q_bends, .ref q_rootAt, .int v_stepAt, .ref q_pile, .ref q_lastAt, .ref q_nextAt, .ref q_hasBend, .int v_justMany, .ref q_isMet, .ref q_queue, .ref q_sums, .ref q_kept, .ref q_isKept, .ref q_copies, .ref q_shelfMany, .ref q_shelfSort, .ref q_shelfHas])), (q_rootAt, .inl (cJ, 4, .inr (.inl v_rootAt))), (q_isMet, .inl (cZ, 20736, .inl (upd v_isMet x2.toNatClampNeg (0 : Int32)))), (q_queue, .inl (cI, 20736, .inl v_queue))] := hD
        refine lv_iinc (v := x2 + (1 : Int32)) (lv' := [(2, .int (x2 + (1 : Int32))), (0, .ref q), (1, .int x1)]) hx hb dX9_findRemainders_16 hl (k := 2) rfl rfl (by decide) rfl (fun ls hl => ?_)
        refine lv_goto (tgt := 2) hx hb dX9_findRemainders_19 (by decide) ?_
        exact ih (x2 + (1 : Int32)) (upd v_isMet x2.toNatClampNeg (0 : Int32)) _ _ _ hf hP hD hS (lv_sub hl [1, 2, 0] rfl)
  have hL26 : ∀ (x1 : Int32) (v_isMet : (Nat → Int32)) (v_queue : (Nat → Int32)) (k : Int32 → Int32 → Option (Int32 × (Nat → Int32) × (Nat → Int32))), (∀ (x2 : Int32) (x3 : Int32) (H : Heap) (locs : List Loc) (ls : Array Slot), k x2 x3 = some R → va_P G vwCl [(q, .inr (9, [.ref q_bends, .ref q_rootAt, .int v_stepAt, .ref q_pile, .ref q_lastAt, .ref q_nextAt, .ref q_hasBend, .int v_justMany, .ref q_isMet, .ref q_queue, .ref q_sums, .ref q_kept, .ref q_isKept, .ref q_copies, .ref q_shelfMany, .ref q_shelfSort, .ref q_shelfHas])), (q_rootAt, .inl (cJ, 4, .inr (.inl v_rootAt))), (q_isMet, .inl (cZ, 20736, .inl v_isMet)), (q_queue, .inl (cI, 20736, .inl v_queue))] H → va_D A [(q, .inr (9, [.ref q_bends, .ref q_rootAt, .int v_stepAt, .ref q_pile, .ref q_lastAt, .ref q_nextAt, .ref q_hasBend, .int v_justMany, .ref q_isMet, .ref q_queue, .ref q_sums, .ref q_kept, .ref q_isKept, .ref q_copies, .ref q_shelfMany, .ref q_shelfSort, .ref q_shelfHas])), (q_rootAt, .inl (cJ, 4, .inr (.inl v_rootAt))), (q_isMet, .inl (cZ, 20736, .inl v_isMet)), (q_queue, .inl (cI, 20736, .inl v_queue))] → va_S A s.heap H locs → lv_has ls 8 [(0, .ref q), (1, .int x1), (2, .int x2), (3, .int x3)] → W p l e rmX9_findRemainders s m ([.ref q, .int p1] : List Value).toArray below meth c H locs 0 0 QQ (F0 m 57 ls [])) → ∀ (n : Nat) (x2 : Int32) (x3 : Int32) (H : Heap) (locs : List Loc) (ls : Array Slot), pX9_findRemainders_L26 x1 v_rootAt n x2 x3 k = some R → va_P G vwCl [(q, .inr (9, [.ref q_bends, .ref q_rootAt, .int v_stepAt, .ref q_pile, .ref q_lastAt, .ref q_nextAt, .ref q_hasBend, .int v_justMany, .ref q_isMet, .ref q_queue, .ref q_sums, .ref q_kept, .ref q_isKept, .ref q_copies, .ref q_shelfMany, .ref q_shelfSort, .ref q_shelfHas])), (q_rootAt, .inl (cJ, 4, .inr (.inl v_rootAt))), (q_isMet, .inl (cZ, 20736, .inl v_isMet)), (q_queue, .inl (cI, 20736, .inl v_queue))] H → va_D A [(q, .inr (9, [.ref q_bends, .ref q_rootAt, .int v_stepAt, .ref q_pile, .ref q_lastAt, .ref q_nextAt, .ref q_hasBend, .int v_justMany, .ref q_isMet, .ref q_queue, .ref q_sums, .ref q_kept, .ref q_isKept, .ref q_copies, .ref q_shelfMany, .ref q_shelfSort, .ref q_shelfHas])), (q_rootAt, .inl (cJ, 4, .inr (.inl v_rootAt))), (q_isMet, .inl (cZ, 20736, .inl v_isMet)), (q_queue, .inl (cI, 20736, .inl v_queue))] → va_S A s.heap H locs → lv_has ls 8 [(0, .ref q), (1, .int x1), (2, .int x2), (3, .int x3)] → W p l e rmX9_findRemainders s m ([.ref q, .int p1] : List Value).toArray below meth c H locs 0 0 QQ (F0 m 26 ls []) := by
    intro x1 v_isMet v_queue k hk n
    induction n with
    | zero =>
      intro x2 x3 H locs ls hf
      cases hf
    | succ n ih =>
      intro x2 x3 H locs ls hf hP hD hS hl
      unfold pX9_findRemainders_L26 at hf
      refine lv_iload_n hx hb dX9_findRemainders_26 rfl (lv_at hl 3 rfl) ?_
      refine lv_if_lt (tgt := 57) hx hb dX9_findRemainders_27 (by decide) (fun c4 => ?_) (fun c4 => ?_)
      · have hf := if_s hf c4
        exact hk x2 x3 _ _ _ hf hP hD hS (lv_sub hl [0, 1, 2, 3] rfl)
      · have hf := if_n hf c4
        refine lv_iload_n hx hb dX9_findRemainders_30 rfl (lv_at hl 2 rfl) ?_
        refine lv_iload_n hx hb dX9_findRemainders_31 rfl (lv_at hl 1 rfl) ?_
        refine lv_imul hx hb dX9_findRemainders_32 ?_
        refine lv_aload_n hx hb dX9_findRemainders_33 rfl (lv_at hl 0 rfl) ?_
        refine va_get (D := G) (ci := 9) (v := .ref q_rootAt) (C := RX9) (T := TX9) (N := 17) hx hb hts hiX9_findRemainders_X9 hown hK.1 hP 0 rfl rfl 1 (by decide) (hts (.fieldLink RX9 13 "PackedBendsModel" "rootAt" "[J") (List.mem_of_getElem? (i := 2) rfl)) (fun _ h9 => h9) rfl dX9_findRemainders_34 ?_
        refine lv_iload_n hx hb dX9_findRemainders_37 rfl (lv_at hl 3 rfl) ?_
        obtain ⟨z5, hf⟩ := ck_s hf
        refine va_lald hx hb hK.1 hP 1 1 rfl rfl (vp_in_iff.mpr z5) dX9_findRemainders_38 ?_
        refine lv_iload_n hx hb dX9_findRemainders_39 rfl (lv_at hl 1 rfl) ?_
        refine lv_i2l hx hb dX9_findRemainders_40 rfl ?_
        obtain ⟨z6, hf⟩ := ck_s hf
        refine lv_lrem hx hb dX9_findRemainders_41 z6 ?_
        refine lv_iload_n hx hb dX9_findRemainders_42 rfl (lv_at hl 1 rfl) ?_
        refine lv_i2l hx hb dX9_findRemainders_43 rfl ?_
        refine lv_ladd hx hb dX9_findRemainders_44 ?_
        refine lv_iload_n hx hb dX9_findRemainders_45 rfl (lv_at hl 1 rfl) ?_
        refine lv_i2l hx hb dX9_findRemainders_46 rfl ?_
        refine lv_lrem hx hb dX9_findRemainders_47 z6 ?_
        refine lv_l2i hx hb dX9_findRemainders_48 rfl ?_
        refine lv_iadd hx hb dX9_findRemainders_49 ?_
        refine lv_istore_n (lv' := [(2, .int ((x2 * x1) + (((((v_rootAt x3.toNatClampNeg) - (v_rootAt x3.toNatClampNeg) / x1.toInt64 * x1.toInt64) + x1.toInt64) - (((v_rootAt x3.toNatClampNeg) - (v_rootAt x3.toNatClampNeg) / x1.toInt64 * x1.toInt64) + x1.toInt64) / x1.toInt64 * x1.toInt64).toInt32))), (0, .ref q), (1, .int x1), (3, .int x3)]) hx hb dX9_findRemainders_50 rfl hl (by decide) rfl (fun ls hl => ?_)
        refine lv_iinc (v := x3 + (-1 : Int32)) (lv' := [(3, .int (x3 + (-1 : Int32))), (2, .int ((x2 * x1) + (((((v_rootAt x3.toNatClampNeg) - (v_rootAt x3.toNatClampNeg) / x1.toInt64 * x1.toInt64) + x1.toInt64) - (((v_rootAt x3.toNatClampNeg) - (v_rootAt x3.toNatClampNeg) / x1.toInt64 * x1.toInt64) + x1.toInt64) / x1.toInt64 * x1.toInt64).toInt32))), (0, .ref q), (1, .int x1)]) hx hb dX9_findRemainders_51 hl (k := 3) rfl rfl (by decide) rfl (fun ls hl => ?_)
        refine lv_goto (tgt := 26) hx hb dX9_findRemainders_54 (by decide) ?_
        exact ih ((x2 * x1) + (((((v_rootAt x3.toNatClampNeg) - (v_rootAt x3.toNatClampNeg) / x1.toInt64 * x1.toInt64) + x1.toInt64) - (((v_rootAt x3.toNatClampNeg) - (v_rootAt x3.toNatClampNeg) / x1.toInt64 * x1.toInt64) + x1.toInt64) / x1.toInt64 * x1.toInt64).toInt32)) (x3 + (-1 : Int32)) _ _ _ hf hP hD hS (lv_sub hl [2, 3, 1, 0] rfl)
  have hL88 : ∀ (x1 : Int32) (x2 : Int32) (x5 : Int32) (k : Int32 → Int32 → Int32 → (Nat → Int32) → (Nat → Int32) → Option (Int32 × (Nat → Int32) × (Nat → Int32))), (∀ (x3 : Int32) (x4 : Int32) (x6 : Int32) (v_isMet : (Nat → Int32)) (v_queue : (Nat → Int32)) (H : Heap) (locs : List Loc) (ls : Array Slot), k x3 x4 x6 v_isMet v_queue = some R → va_P G vwCl [(q, .inr (9, [.ref q_bends, .ref q_rootAt, .int v_stepAt, .ref q_pile, .ref q_lastAt, .ref q_nextAt, .ref q_hasBend, .int v_justMany, .ref q_isMet, .ref q_queue, .ref q_sums, .ref q_kept, .ref q_isKept, .ref q_copies, .ref q_shelfMany, .ref q_shelfSort, .ref q_shelfHas])), (q_rootAt, .inl (cJ, 4, .inr (.inl v_rootAt))), (q_isMet, .inl (cZ, 20736, .inl v_isMet)), (q_queue, .inl (cI, 20736, .inl v_queue))] H → va_D A [(q, .inr (9, [.ref q_bends, .ref q_rootAt, .int v_stepAt, .ref q_pile, .ref q_lastAt, .ref q_nextAt, .ref q_hasBend, .int v_justMany, .ref q_isMet, .ref q_queue, .ref q_sums, .ref q_kept, .ref q_isKept, .ref q_copies, .ref q_shelfMany, .ref q_shelfSort, .ref q_shelfHas])), (q_rootAt, .inl (cJ, 4, .inr (.inl v_rootAt))), (q_isMet, .inl (cZ, 20736, .inl v_isMet)), (q_queue, .inl (cI, 20736, .inl v_queue))] → va_S A s.heap H locs → lv_has ls 8 [(0, .ref q), (1, .int x1), (2, .int x2), (3, .int x3), (4, .int x4), (5, .int x5), (6, .int x6)] → W p l e rmX9_findRemainders s m ([.ref q, .int p1] : List Value).toArray below meth c H locs 0 0 QQ (F0 m 164 ls [])) → ∀ (n : Nat) (x3 : Int32) (x4 : Int32) (x6 : Int32) (v_isMet : (Nat → Int32)) (v_queue : (Nat → Int32)) (H : Heap) (locs : List Loc) (ls : Array Slot), pX9_findRemainders_L88 x1 x5 n x3 x4 x6 v_isMet v_queue k = some R → va_P G vwCl [(q, .inr (9, [.ref q_bends, .ref q_rootAt, .int v_stepAt, .ref q_pile, .ref q_lastAt, .ref q_nextAt, .ref q_hasBend, .int v_justMany, .ref q_isMet, .ref q_queue, .ref q_sums, .ref q_kept, .ref q_isKept, .ref q_copies, .ref q_shelfMany, .ref q_shelfSort, .ref q_shelfHas])), (q_rootAt, .inl (cJ, 4, .inr (.inl v_rootAt))), (q_isMet, .inl (cZ, 20736, .inl v_isMet)), (q_queue, .inl (cI, 20736, .inl v_queue))] H → va_D A [(q, .inr (9, [.ref q_bends, .ref q_rootAt, .int v_stepAt, .ref q_pile, .ref q_lastAt, .ref q_nextAt, .ref q_hasBend, .int v_justMany, .ref q_isMet, .ref q_queue, .ref q_sums, .ref q_kept, .ref q_isKept, .ref q_copies, .ref q_shelfMany, .ref q_shelfSort, .ref q_shelfHas])), (q_rootAt, .inl (cJ, 4, .inr (.inl v_rootAt))), (q_isMet, .inl (cZ, 20736, .inl v_isMet)), (q_queue, .inl (cI, 20736, .inl v_queue))] → va_S A s.heap H locs → lv_has ls 8 [(0, .ref q), (1, .int x1), (2, .int x2), (3, .int x3), (4, .int x4), (5, .int x5), (6, .int x6)] → W p l e rmX9_findRemainders s m ([.ref q, .int p1] : List Value).toArray below meth c H locs 0 0 QQ (F0 m 88 ls []) := by
    intro x1 x2 x5 k hk n
    induction n with
    | zero =>
      intro x3 x4 x6 v_isMet v_queue H locs ls hf
      cases hf
    | succ n ih =>
      intro x3 x4 x6 v_isMet v_queue H locs ls hf hP hD hS hl
      unfold pX9_findRemainders_L88 at hf
      refine lv_iload hx hb dX9_findRemainders_88 (lv_at hl 6 rfl) ?_
      refine lv_iconst (v := 4) hx hb dX9_findRemainders_90 (by decide) ?_
      refine lv_icmp_ge (tgt := 164) hx hb dX9_findRemainders_91 (by decide) (fun c10 => ?_) (fun c10 => ?_)
      · have hf := if_s hf c10
        exact hk x3 x4 x6 v_isMet v_queue _ _ _ hf hP hD hS (lv_sub hl [0, 1, 2, 3, 4, 5, 6] rfl)
      · have hf := if_n hf c10
        refine lv_iload hx hb dX9_findRemainders_94 (lv_at hl 4 rfl) ?_
        refine lv_iconst (v := 1) hx hb dX9_findRemainders_96 (by decide) ?_
        refine lv_aload_n hx hb dX9_findRemainders_97 rfl (lv_at hl 0 rfl) ?_
        refine va_get (D := G) (ci := 9) (v := .ref q_queue) (C := RX9) (T := TX9) (N := 17) hx hb hts hiX9_findRemainders_X9 hown hK.1 hP 0 rfl rfl 9 (by decide) (hts (.fieldLink RX9 33 "PackedBendsModel" "queue" "[I") (List.mem_of_getElem? (i := 3) rfl)) (fun _ h9 => h9) rfl dX9_findRemainders_98 ?_
        refine lv_iload hx hb dX9_findRemainders_101 (lv_at hl 5 rfl) ?_
        obtain ⟨z11, hf⟩ := ck_s hf
        refine va_iald hx hb hK.1 hP 3 0 rfl rfl (vp_in_iff.mpr z11) dX9_findRemainders_103 ?_
        refine lv_iload hx hb dX9_findRemainders_104 (lv_at hl 6 rfl) ?_
        refine lv_iload_n hx hb dX9_findRemainders_106 rfl (lv_at hl 1 rfl) ?_
        obtain ⟨r12, hc12, hf⟩ := ob_s hf
        refine bk_i (wc := []) (wc2 := []) (wr := [(q, .inr (9, [.ref q_bends, .ref q_rootAt, .int v_stepAt, .ref q_pile, .ref q_lastAt, .ref q_nextAt, .ref q_hasBend, .int v_justMany, .ref q_isMet, .ref q_queue, .ref q_sums, .ref q_kept, .ref q_isKept, .ref q_copies, .ref q_shelfMany, .ref q_shelfSort, .ref q_shelfHas])), (q_rootAt, .inl (cJ, 4, .inr (.inl v_rootAt))), (q_isMet, .inl (cZ, 20736, .inl v_isMet)), (q_queue, .inl (cI, 20736, .inl v_queue))]) (ws2 := [(q, .inr (9, [.ref q_bends, .ref q_rootAt, .int v_stepAt, .ref q_pile, .ref q_lastAt, .ref q_nextAt, .ref q_hasBend, .int v_justMany, .ref q_isMet, .ref q_queue, .ref q_sums, .ref q_kept, .ref q_isKept, .ref q_copies, .ref q_shelfMany, .ref q_shelfSort, .ref q_shelfHas])), (q_rootAt, .inl (cJ, 4, .inr (.inl v_rootAt))), (q_isMet, .inl (cZ, 20736, .inl v_isMet)), (q_queue, .inl (cI, 20736, .inl v_queue))]) (r := r12) (va_runS (As := [.int (v_queue x5.toNatClampNeg), .int x6, .int x1]) (rest := [.int (1 : Int32), .int x4]) ⟨hx, hb, hml, hown, hts⟩ (kX9_digit (l := l) (G := G) (cI := cI) (cJ := cJ) (cZ := cZ) (cS := cS) (cG := cG) n (v_queue x5.toNatClampNeg) x6 x1 _ hc12 _) (va_cwS 3 hts gX9_findRemainders_X9_digit rfl rfl rfl (by decide +kernel) ⟨Nat.le_of_ble_eq_true rfl, Nat.le_of_ble_eq_true rfl⟩) (cut_S hK hP hD [] rfl rfl) rfl rfl hl.1 rfl (lv_room (Nat.le_of_ble_eq_true rfl)) dX9_findRemainders_107 ⟨Nat.zero_le _, Nat.zero_le _⟩) hP hD hS hA [] [0, 1, 2, 3] [0, 1, 2, 3] rfl rfl rfl rfl rfl rfl (fun H locs hP hD hS => ?_)
        refine lv_ishl hx hb dX9_findRemainders_110 ?_
        refine lv_ior hx hb dX9_findRemainders_111 ?_
        refine lv_istore (lv' := [(4, .int (x4 ||| ((1 : Int32) <<< (r12 &&& 31)))), (0, .ref q), (1, .int x1), (2, .int x2), (3, .int x3), (5, .int x5), (6, .int x6)]) hx hb dX9_findRemainders_112 hl (by decide) rfl (fun ls hl => ?_)
        refine lv_aload_n hx hb dX9_findRemainders_114 rfl (lv_at hl 1 rfl) ?_
        refine va_get (D := G) (ci := 9) (v := .ref q_queue) (C := RX9) (T := TX9) (N := 17) hx hb hts hiX9_findRemainders_X9 hown hK.1 hP 0 rfl rfl 9 (by decide) (hts (.fieldLink RX9 33 "PackedBendsModel" "queue" "[I") (List.mem_of_getElem? (i := 3) rfl)) (fun _ h9 => h9) rfl dX9_findRemainders_115 ?_
        refine lv_iload hx hb dX9_findRemainders_118 (lv_at hl 5 rfl) ?_
        refine va_iald hx hb hK.1 hP 3 0 rfl rfl (vp_in_iff.mpr z11) dX9_findRemainders_120 ?_
        refine lv_iload hx hb dX9_findRemainders_121 (lv_at hl 6 rfl) ?_
        refine lv_iload_n hx hb dX9_findRemainders_123 rfl (lv_at hl 2 rfl) ?_
        obtain ⟨r13, hc13, hf⟩ := ob_s hf
        refine bk_i (wc := []) (wc2 := []) (wr := [(q, .inr (9, [.ref q_bends, .ref q_rootAt, .int v_stepAt, .ref q_pile, .ref q_lastAt, .ref q_nextAt, .ref q_hasBend, .int v_justMany, .ref q_isMet, .ref q_queue, .ref q_sums, .ref q_kept, .ref q_isKept, .ref q_copies, .ref q_shelfMany, .ref q_shelfSort, .ref q_shelfHas])), (q_rootAt, .inl (cJ, 4, .inr (.inl v_rootAt))), (q_isMet, .inl (cZ, 20736, .inl v_isMet)), (q_queue, .inl (cI, 20736, .inl v_queue))]) (ws2 := [(q, .inr (9, [.ref q_bends, .ref q_rootAt, .int v_stepAt, .ref q_pile, .ref q_lastAt, .ref q_nextAt, .ref q_hasBend, .int v_justMany, .ref q_isMet, .ref q_queue, .ref q_sums, .ref q_kept, .ref q_isKept, .ref q_copies, .ref q_shelfMany, .ref q_shelfSort, .ref q_shelfHas])), (q_rootAt, .inl (cJ, 4, .inr (.inl v_rootAt))), (q_isMet, .inl (cZ, 20736, .inl v_isMet)), (q_queue, .inl (cI, 20736, .inl v_queue))]) (r := r13) (va_runS (As := [.int (v_queue x5.toNatClampNeg), .int x6, .int x1]) (rest := []) ⟨hx, hb, hml, hown, hts⟩ (kX9_turnedBy (l := l) (G := G) (cI := cI) (cJ := cJ) (cZ := cZ) (cS := cS) (cG := cG) n (v_queue x5.toNatClampNeg) x6 x1 _ hc13 _) (va_cwS 3 hts gX9_findRemainders_X9_turnedBy rfl rfl rfl (by decide +kernel) ⟨Nat.le_of_ble_eq_true rfl, Nat.le_of_ble_eq_true rfl⟩) (cut_S hK hP hD [] rfl rfl) rfl rfl hl.1 rfl (lv_room (Nat.le_of_ble_eq_true rfl)) dX9_findRemainders_124 ⟨Nat.zero_le _, Nat.zero_le _⟩) hP hD hS hA [] [0, 1, 2, 3] [0, 1, 2, 3] rfl rfl rfl rfl rfl rfl (fun H locs hP hD hS => ?_)
        refine lv_istore (lv' := [(7, .int r13), (4, .int (x4 ||| ((1 : Int32) <<< (r12 &&& 31)))), (0, .ref q), (1, .int x1), (2, .int x2), (3, .int x3), (5, .int x5), (6, .int x6)]) hx hb dX9_findRemainders_127 hl (by decide) rfl (fun ls hl => ?_)
        refine lv_aload_n hx hb dX9_findRemainders_129 rfl (lv_at hl 2 rfl) ?_
        refine va_get (D := G) (ci := 9) (v := .ref q_isMet) (C := RX9) (T := TX9) (N := 17) hx hb hts hiX9_findRemainders_X9 hown hK.1 hP 0 rfl rfl 8 (by decide) (hts (.fieldLink RX9 30 "PackedBendsModel" "isMet" "[Z") (List.mem_of_getElem? (i := 1) rfl)) (fun _ h9 => h9) rfl dX9_findRemainders_130 ?_
        refine lv_iload hx hb dX9_findRemainders_133 (lv_at hl 0 rfl) ?_
        obtain ⟨z14, hf⟩ := ck_s hf
        refine va_zald hx hb hK.1 hP 2 2 rfl rfl (vp_in_iff.mpr z14) dX9_findRemainders_135 ?_
        refine lv_if_ne (tgt := 158) hx hb dX9_findRemainders_136 (by decide) (fun c15 => ?_) (fun c15 => ?_)
        · have hf := if_n hf c15
          refine lv_iinc (v := x6 + (1 : Int32)) (lv' := [(6, .int (x6 + (1 : Int32))), (7, .int r13), (4, .int (x4 ||| ((1 : Int32) <<< (r12 &&& 31)))), (0, .ref q), (1, .int x1), (2, .int x2), (3, .int x3), (5, .int x5)]) hx hb dX9_findRemainders_158 hl (k := 7) rfl rfl (by decide) rfl (fun ls hl => ?_)
          refine lv_goto (tgt := 88) hx hb dX9_findRemainders_161 (by decide) ?_
          exact ih x3 (x4 ||| ((1 : Int32) <<< (r12 &&& 31))) (x6 + (1 : Int32)) v_isMet v_queue _ _ _ hf hP hD hS (lv_sub hl [3, 4, 5, 6, 2, 7, 0] rfl)
        · have hf := if_s hf c15
          refine lv_aload_n hx hb dX9_findRemainders_139 rfl (lv_at hl 2 rfl) ?_
          refine va_get (D := G) (ci := 9) (v := .ref q_isMet) (C := RX9) (T := TX9) (N := 17) hx hb hts hiX9_findRemainders_X9 hown hK.1 hP 0 rfl rfl 8 (by decide) (hts (.fieldLink RX9 30 "PackedBendsModel" "isMet" "[Z") (List.mem_of_getElem? (i := 1) rfl)) (fun _ h9 => h9) rfl dX9_findRemainders_140 ?_
          refine lv_iload hx hb dX9_findRemainders_143 (lv_at hl 0 rfl) ?_
          refine lv_iconst (v := 1) hx hb dX9_findRemainders_145 (by decide) ?_
          refine va_zast hx hb hK.1 hP hD hS 2 2 rfl rfl (vp_in_iff.mpr z14) dX9_findRemainders_146 (fun H locs hP hD hS => ?_)
          rw [vz1] at hP hD
          have hP : va_P G vwCl [(q, .inr (9, [.ref q_bends, .ref q_rootAt, .int v_stepAt, .ref q_pile, .ref q_lastAt, .ref q_nextAt, .ref q_hasBend, .int v_justMany, .ref q_isMet, .ref q_queue, .ref q_sums, .ref q_kept, .ref q_isKept, .ref q_copies, .ref q_shelfMany, .ref q_shelfSort, .ref q_shelfHas])), (q_rootAt, .inl (cJ, 4, .inr (.inl v_rootAt))), (q_isMet, .inl (cZ, 20736, .inl (upd v_isMet r13.toNatClampNeg (1 : Int32)))), (q_queue, .inl (cI, 20736, .inl v_queue))] H := hP
          have hD : va_D A [(q, .inr (9, [.ref q_bends, .ref q_rootAt, .int v_stepAt, .ref q_pile, .ref q_lastAt, .ref q_nextAt, .ref q_hasBend, .int v_justMany, .ref q_isMet, .ref q_queue, .ref q_sums, .ref q_kept, .ref q_isKept, .ref q_copies, .ref q_shelfMany, .ref q_shelfSort, .ref q_shelfHas])), (q_rootAt, .inl (cJ, 4, .inr (.inl v_rootAt))), (q_isMet, .inl (cZ, 20736, .inl (upd v_isMet r13.toNatClampNeg (1 : Int32)))), (q_queue, .inl (cI, 20736, .inl v_queue))] := hD
          refine lv_aload_n hx hb dX9_findRemainders_147 rfl (lv_at hl 2 rfl) ?_
          refine va_get (D := G) (ci := 9) (v := .ref q_queue) (C := RX9) (T := TX9) (N := 17) hx hb hts hiX9_findRemainders_X9 hown hK.1 hP 0 rfl rfl 9 (by decide) (hts (.fieldLink RX9 33 "PackedBendsModel" "queue" "[I") (List.mem_of_getElem? (i := 3) rfl)) (fun _ h9 => h9) rfl dX9_findRemainders_148 ?_
          refine lv_iload_n hx hb dX9_findRemainders_151 rfl (lv_at hl 5 rfl) ?_
          refine lv_iload hx hb dX9_findRemainders_152 (lv_at hl 0 rfl) ?_
          obtain ⟨z16, hf⟩ := ck_s hf
          refine va_iast hx hb hK.1 hP hD hS 3 0 rfl rfl (vp_in_iff.mpr z16) dX9_findRemainders_154 (fun H locs hP hD hS => ?_)
          have hP : va_P G vwCl [(q, .inr (9, [.ref q_bends, .ref q_rootAt, .int v_stepAt, .ref q_pile, .ref q_lastAt, .ref q_nextAt, .ref q_hasBend, .int v_justMany, .ref q_isMet, .ref q_queue, .ref q_sums, .ref q_kept, .ref q_isKept, .ref q_copies, .ref q_shelfMany, .ref q_shelfSort, .ref q_shelfHas])), (q_rootAt, .inl (cJ, 4, .inr (.inl v_rootAt))), (q_isMet, .inl (cZ, 20736, .inl (upd v_isMet r13.toNatClampNeg (1 : Int32)))), (q_queue, .inl (cI, 20736, .inl (upd v_queue x3.toNatClampNeg r13)))] H := hP
          have hD : va_D A [(q, .inr (9, [.ref q_bends, .ref q_rootAt, .int v_stepAt, .ref q_pile, .ref q_lastAt, .ref q_nextAt, .ref q_hasBend, .int v_justMany, .ref q_isMet, .ref q_queue, .ref q_sums, .ref q_kept, .ref q_isKept, .ref q_copies, .ref q_shelfMany, .ref q_shelfSort, .ref q_shelfHas])), (q_rootAt, .inl (cJ, 4, .inr (.inl v_rootAt))), (q_isMet, .inl (cZ, 20736, .inl (upd v_isMet r13.toNatClampNeg (1 : Int32)))), (q_queue, .inl (cI, 20736, .inl (upd v_queue x3.toNatClampNeg r13)))] := hD
          refine lv_iinc (v := x3 + (1 : Int32)) (lv' := [(3, .int (x3 + (1 : Int32))), (7, .int r13), (4, .int (x4 ||| ((1 : Int32) <<< (r12 &&& 31)))), (0, .ref q), (1, .int x1), (2, .int x2), (5, .int x5), (6, .int x6)]) hx hb dX9_findRemainders_155 hl (k := 5) rfl rfl (by decide) rfl (fun ls hl => ?_)
          refine lv_iinc (v := x6 + (1 : Int32)) (lv' := [(6, .int (x6 + (1 : Int32))), (3, .int (x3 + (1 : Int32))), (7, .int r13), (4, .int (x4 ||| ((1 : Int32) <<< (r12 &&& 31)))), (0, .ref q), (1, .int x1), (2, .int x2), (5, .int x5)]) hx hb dX9_findRemainders_158 hl (k := 7) rfl rfl (by decide) rfl (fun ls hl => ?_)
          refine lv_goto (tgt := 88) hx hb dX9_findRemainders_161 (by decide) ?_
          exact ih (x3 + (1 : Int32)) (x4 ||| ((1 : Int32) <<< (r12 &&& 31))) (x6 + (1 : Int32)) (upd v_isMet r13.toNatClampNeg (1 : Int32)) (upd v_queue x3.toNatClampNeg r13) _ _ _ hf hP hD hS (lv_sub hl [4, 5, 6, 1, 3, 7, 0] rfl)
  have hL79 : ∀ (x1 : Int32) (x2 : Int32) (k : Int32 → Int32 → Int32 → (Nat → Int32) → (Nat → Int32) → Option (Int32 × (Nat → Int32) × (Nat → Int32))), (∀ (x3 : Int32) (x4 : Int32) (x5 : Int32) (v_isMet : (Nat → Int32)) (v_queue : (Nat → Int32)) (H : Heap) (locs : List Loc) (ls : Array Slot), k x3 x4 x5 v_isMet v_queue = some R → va_P G vwCl [(q, .inr (9, [.ref q_bends, .ref q_rootAt, .int v_stepAt, .ref q_pile, .ref q_lastAt, .ref q_nextAt, .ref q_hasBend, .int v_justMany, .ref q_isMet, .ref q_queue, .ref q_sums, .ref q_kept, .ref q_isKept, .ref q_copies, .ref q_shelfMany, .ref q_shelfSort, .ref q_shelfHas])), (q_rootAt, .inl (cJ, 4, .inr (.inl v_rootAt))), (q_isMet, .inl (cZ, 20736, .inl v_isMet)), (q_queue, .inl (cI, 20736, .inl v_queue))] H → va_D A [(q, .inr (9, [.ref q_bends, .ref q_rootAt, .int v_stepAt, .ref q_pile, .ref q_lastAt, .ref q_nextAt, .ref q_hasBend, .int v_justMany, .ref q_isMet, .ref q_queue, .ref q_sums, .ref q_kept, .ref q_isKept, .ref q_copies, .ref q_shelfMany, .ref q_shelfSort, .ref q_shelfHas])), (q_rootAt, .inl (cJ, 4, .inr (.inl v_rootAt))), (q_isMet, .inl (cZ, 20736, .inl v_isMet)), (q_queue, .inl (cI, 20736, .inl v_queue))] → va_S A s.heap H locs → lv_has ls 8 [(0, .ref q), (1, .int x1), (2, .int x2), (3, .int x3), (4, .int x4), (5, .int x5)] → W p l e rmX9_findRemainders s m ([.ref q, .int p1] : List Value).toArray below meth c H locs 0 0 QQ (F0 m 170 ls [])) → ∀ (n : Nat) (x3 : Int32) (x4 : Int32) (x5 : Int32) (v_isMet : (Nat → Int32)) (v_queue : (Nat → Int32)) (H : Heap) (locs : List Loc) (ls : Array Slot), pX9_findRemainders_L79 x1 n x3 x4 x5 v_isMet v_queue k = some R → va_P G vwCl [(q, .inr (9, [.ref q_bends, .ref q_rootAt, .int v_stepAt, .ref q_pile, .ref q_lastAt, .ref q_nextAt, .ref q_hasBend, .int v_justMany, .ref q_isMet, .ref q_queue, .ref q_sums, .ref q_kept, .ref q_isKept, .ref q_copies, .ref q_shelfMany, .ref q_shelfSort, .ref q_shelfHas])), (q_rootAt, .inl (cJ, 4, .inr (.inl v_rootAt))), (q_isMet, .inl (cZ, 20736, .inl v_isMet)), (q_queue, .inl (cI, 20736, .inl v_queue))] H → va_D A [(q, .inr (9, [.ref q_bends, .ref q_rootAt, .int v_stepAt, .ref q_pile, .ref q_lastAt, .ref q_nextAt, .ref q_hasBend, .int v_justMany, .ref q_isMet, .ref q_queue, .ref q_sums, .ref q_kept, .ref q_isKept, .ref q_copies, .ref q_shelfMany, .ref q_shelfSort, .ref q_shelfHas])), (q_rootAt, .inl (cJ, 4, .inr (.inl v_rootAt))), (q_isMet, .inl (cZ, 20736, .inl v_isMet)), (q_queue, .inl (cI, 20736, .inl v_queue))] → va_S A s.heap H locs → lv_has ls 8 [(0, .ref q), (1, .int x1), (2, .int x2), (3, .int x3), (4, .int x4), (5, .int x5)] → W p l e rmX9_findRemainders s m ([.ref q, .int p1] : List Value).toArray below meth c H locs 0 0 QQ (F0 m 79 ls []) := by
    intro x1 x2 k hk n
    induction n with
    | zero =>
      intro x3 x4 x5 v_isMet v_queue H locs ls hf
      cases hf
    | succ n ih =>
      intro x3 x4 x5 v_isMet v_queue H locs ls hf hP hD hS hl
      unfold pX9_findRemainders_L79 at hf
      refine lv_iload hx hb dX9_findRemainders_79 (lv_at hl 5 rfl) ?_
      refine lv_iload_n hx hb dX9_findRemainders_81 rfl (lv_at hl 3 rfl) ?_
      refine lv_icmp_ge (tgt := 170) hx hb dX9_findRemainders_82 (by decide) (fun c9 => ?_) (fun c9 => ?_)
      · have hf := if_s hf c9
        exact hk x3 x4 x5 v_isMet v_queue _ _ _ hf hP hD hS (lv_sub hl [0, 1, 2, 3, 4, 5] rfl)
      · have hf := if_n hf c9
        refine lv_iconst (v := 0) hx hb dX9_findRemainders_85 (by decide) ?_
        refine lv_istore (lv' := [(6, .int (0 : Int32)), (0, .ref q), (1, .int x1), (2, .int x2), (3, .int x3), (4, .int x4), (5, .int x5)]) hx hb dX9_findRemainders_86 hl (by decide) rfl (fun ls hl => ?_)
        refine hL88 x1 x2 x5 _ (fun y3_17 y4_17 y6_17 u17_isMet u17_queue H locs ls hf hP hD hS hl => ?_) n x3 x4 (0 : Int32) v_isMet v_queue _ _ _ hf hP hD hS (lv_sub hl [1, 2, 3, 4, 5, 6, 0] rfl)
        have hP : va_P G vwCl [(q, .inr (9, [.ref q_bends, .ref q_rootAt, .int v_stepAt, .ref q_pile, .ref q_lastAt, .ref q_nextAt, .ref q_hasBend, .int v_justMany, .ref q_isMet, .ref q_queue, .ref q_sums, .ref q_kept, .ref q_isKept, .ref q_copies, .ref q_shelfMany, .ref q_shelfSort, .ref q_shelfHas])), (q_rootAt, .inl (cJ, 4, .inr (.inl v_rootAt))), (q_isMet, .inl (cZ, 20736, .inl u17_isMet)), (q_queue, .inl (cI, 20736, .inl u17_queue))] H := hP
        have hD : va_D A [(q, .inr (9, [.ref q_bends, .ref q_rootAt, .int v_stepAt, .ref q_pile, .ref q_lastAt, .ref q_nextAt, .ref q_hasBend, .int v_justMany, .ref q_isMet, .ref q_queue, .ref q_sums, .ref q_kept, .ref q_isKept, .ref q_copies, .ref q_shelfMany, .ref q_shelfSort, .ref q_shelfHas])), (q_rootAt, .inl (cJ, 4, .inr (.inl v_rootAt))), (q_isMet, .inl (cZ, 20736, .inl u17_isMet)), (q_queue, .inl (cI, 20736, .inl u17_queue))] := hD
        refine lv_iinc (v := x5 + (1 : Int32)) (lv' := [(5, .int (x5 + (1 : Int32))), (0, .ref q), (1, .int x1), (2, .int x2), (3, .int y3_17), (4, .int y4_17), (6, .int y6_17)]) hx hb dX9_findRemainders_164 hl (k := 5) rfl rfl (by decide) rfl (fun ls hl => ?_)
        refine lv_goto (tgt := 79) hx hb dX9_findRemainders_167 (by decide) ?_
        exact ih y3_17 y4_17 (x5 + (1 : Int32)) u17_isMet u17_queue _ _ _ hf hP hD hS (lv_sub hl [1, 2, 3, 4, 5, 0] rfl)
  refine lv_iconst (v := 0) hx hb dX9_findRemainders_0 (by decide) ?_
  refine lv_istore_n (lv' := [(2, .int (0 : Int32)), (0, .ref q), (1, .int p1)]) hx hb dX9_findRemainders_1 rfl hl (by decide) rfl (fun ls hl => ?_)
  refine hL2 p1 v_queue _ (fun y2_3 u3_isMet H locs ls hf hP hD hS hl => ?_) n (0 : Int32) v_isMet _ _ _ hf hP hD hS (lv_sub hl [1, 2, 0] rfl)
  have hP : va_P G vwCl [(q, .inr (9, [.ref q_bends, .ref q_rootAt, .int v_stepAt, .ref q_pile, .ref q_lastAt, .ref q_nextAt, .ref q_hasBend, .int v_justMany, .ref q_isMet, .ref q_queue, .ref q_sums, .ref q_kept, .ref q_isKept, .ref q_copies, .ref q_shelfMany, .ref q_shelfSort, .ref q_shelfHas])), (q_rootAt, .inl (cJ, 4, .inr (.inl v_rootAt))), (q_isMet, .inl (cZ, 20736, .inl u3_isMet)), (q_queue, .inl (cI, 20736, .inl v_queue))] H := hP
  have hD : va_D A [(q, .inr (9, [.ref q_bends, .ref q_rootAt, .int v_stepAt, .ref q_pile, .ref q_lastAt, .ref q_nextAt, .ref q_hasBend, .int v_justMany, .ref q_isMet, .ref q_queue, .ref q_sums, .ref q_kept, .ref q_isKept, .ref q_copies, .ref q_shelfMany, .ref q_shelfSort, .ref q_shelfHas])), (q_rootAt, .inl (cJ, 4, .inr (.inl v_rootAt))), (q_isMet, .inl (cZ, 20736, .inl u3_isMet)), (q_queue, .inl (cI, 20736, .inl v_queue))] := hD
  refine lv_iconst (v := 0) hx hb dX9_findRemainders_22 (by decide) ?_
  refine lv_istore_n (lv' := [(2, .int (0 : Int32)), (0, .ref q), (1, .int p1)]) hx hb dX9_findRemainders_23 rfl hl (by decide) rfl (fun ls hl => ?_)
  refine lv_iconst (v := 3) hx hb dX9_findRemainders_24 (by decide) ?_
  refine lv_istore_n (lv' := [(3, .int (3 : Int32)), (2, .int (0 : Int32)), (0, .ref q), (1, .int p1)]) hx hb dX9_findRemainders_25 rfl hl (by decide) rfl (fun ls hl => ?_)
  refine hL26 p1 u3_isMet v_queue _ (fun y2_7 y3_7 H locs ls hf hP hD hS hl => ?_) n (0 : Int32) (3 : Int32) _ _ _ hf hP hD hS (lv_sub hl [2, 3, 1, 0] rfl)
  have hP : va_P G vwCl [(q, .inr (9, [.ref q_bends, .ref q_rootAt, .int v_stepAt, .ref q_pile, .ref q_lastAt, .ref q_nextAt, .ref q_hasBend, .int v_justMany, .ref q_isMet, .ref q_queue, .ref q_sums, .ref q_kept, .ref q_isKept, .ref q_copies, .ref q_shelfMany, .ref q_shelfSort, .ref q_shelfHas])), (q_rootAt, .inl (cJ, 4, .inr (.inl v_rootAt))), (q_isMet, .inl (cZ, 20736, .inl u3_isMet)), (q_queue, .inl (cI, 20736, .inl v_queue))] H := hP
  have hD : va_D A [(q, .inr (9, [.ref q_bends, .ref q_rootAt, .int v_stepAt, .ref q_pile, .ref q_lastAt, .ref q_nextAt, .ref q_hasBend, .int v_justMany, .ref q_isMet, .ref q_queue, .ref q_sums, .ref q_kept, .ref q_isKept, .ref q_copies, .ref q_shelfMany, .ref q_shelfSort, .ref q_shelfHas])), (q_rootAt, .inl (cJ, 4, .inr (.inl v_rootAt))), (q_isMet, .inl (cZ, 20736, .inl u3_isMet)), (q_queue, .inl (cI, 20736, .inl v_queue))] := hD
  refine lv_aload_n hx hb dX9_findRemainders_57 rfl (lv_at hl 0 rfl) ?_
  refine va_get (D := G) (ci := 9) (v := .ref q_queue) (C := RX9) (T := TX9) (N := 17) hx hb hts hiX9_findRemainders_X9 hown hK.1 hP 0 rfl rfl 9 (by decide) (hts (.fieldLink RX9 33 "PackedBendsModel" "queue" "[I") (List.mem_of_getElem? (i := 3) rfl)) (fun _ h9 => h9) rfl dX9_findRemainders_58 ?_
  refine lv_iconst (v := 0) hx hb dX9_findRemainders_61 (by decide) ?_
  refine lv_iload_n hx hb dX9_findRemainders_62 rfl (lv_at hl 2 rfl) ?_
  refine va_iast hx hb hK.1 hP hD hS 3 0 rfl rfl (vp_in_iff.mpr (by decide)) dX9_findRemainders_63 (fun H locs hP hD hS => ?_)
  have hP : va_P G vwCl [(q, .inr (9, [.ref q_bends, .ref q_rootAt, .int v_stepAt, .ref q_pile, .ref q_lastAt, .ref q_nextAt, .ref q_hasBend, .int v_justMany, .ref q_isMet, .ref q_queue, .ref q_sums, .ref q_kept, .ref q_isKept, .ref q_copies, .ref q_shelfMany, .ref q_shelfSort, .ref q_shelfHas])), (q_rootAt, .inl (cJ, 4, .inr (.inl v_rootAt))), (q_isMet, .inl (cZ, 20736, .inl u3_isMet)), (q_queue, .inl (cI, 20736, .inl (upd v_queue (0 : Int32).toNatClampNeg y2_7)))] H := hP
  have hD : va_D A [(q, .inr (9, [.ref q_bends, .ref q_rootAt, .int v_stepAt, .ref q_pile, .ref q_lastAt, .ref q_nextAt, .ref q_hasBend, .int v_justMany, .ref q_isMet, .ref q_queue, .ref q_sums, .ref q_kept, .ref q_isKept, .ref q_copies, .ref q_shelfMany, .ref q_shelfSort, .ref q_shelfHas])), (q_rootAt, .inl (cJ, 4, .inr (.inl v_rootAt))), (q_isMet, .inl (cZ, 20736, .inl u3_isMet)), (q_queue, .inl (cI, 20736, .inl (upd v_queue (0 : Int32).toNatClampNeg y2_7)))] := hD
  refine lv_aload_n hx hb dX9_findRemainders_64 rfl (lv_at hl 0 rfl) ?_
  refine va_get (D := G) (ci := 9) (v := .ref q_isMet) (C := RX9) (T := TX9) (N := 17) hx hb hts hiX9_findRemainders_X9 hown hK.1 hP 0 rfl rfl 8 (by decide) (hts (.fieldLink RX9 30 "PackedBendsModel" "isMet" "[Z") (List.mem_of_getElem? (i := 1) rfl)) (fun _ h9 => h9) rfl dX9_findRemainders_65 ?_
  refine lv_iload_n hx hb dX9_findRemainders_68 rfl (lv_at hl 2 rfl) ?_
  refine lv_iconst (v := 1) hx hb dX9_findRemainders_69 (by decide) ?_
  obtain ⟨z8, hf⟩ := ck_s hf
  refine va_zast hx hb hK.1 hP hD hS 2 2 rfl rfl (vp_in_iff.mpr z8) dX9_findRemainders_70 (fun H locs hP hD hS => ?_)
  rw [vz1] at hP hD
  have hP : va_P G vwCl [(q, .inr (9, [.ref q_bends, .ref q_rootAt, .int v_stepAt, .ref q_pile, .ref q_lastAt, .ref q_nextAt, .ref q_hasBend, .int v_justMany, .ref q_isMet, .ref q_queue, .ref q_sums, .ref q_kept, .ref q_isKept, .ref q_copies, .ref q_shelfMany, .ref q_shelfSort, .ref q_shelfHas])), (q_rootAt, .inl (cJ, 4, .inr (.inl v_rootAt))), (q_isMet, .inl (cZ, 20736, .inl (upd u3_isMet y2_7.toNatClampNeg (1 : Int32)))), (q_queue, .inl (cI, 20736, .inl (upd v_queue (0 : Int32).toNatClampNeg y2_7)))] H := hP
  have hD : va_D A [(q, .inr (9, [.ref q_bends, .ref q_rootAt, .int v_stepAt, .ref q_pile, .ref q_lastAt, .ref q_nextAt, .ref q_hasBend, .int v_justMany, .ref q_isMet, .ref q_queue, .ref q_sums, .ref q_kept, .ref q_isKept, .ref q_copies, .ref q_shelfMany, .ref q_shelfSort, .ref q_shelfHas])), (q_rootAt, .inl (cJ, 4, .inr (.inl v_rootAt))), (q_isMet, .inl (cZ, 20736, .inl (upd u3_isMet y2_7.toNatClampNeg (1 : Int32)))), (q_queue, .inl (cI, 20736, .inl (upd v_queue (0 : Int32).toNatClampNeg y2_7)))] := hD
  refine lv_iconst (v := 1) hx hb dX9_findRemainders_71 (by decide) ?_
  refine lv_istore_n (lv' := [(3, .int (1 : Int32)), (0, .ref q), (1, .int p1), (2, .int y2_7)]) hx hb dX9_findRemainders_72 rfl hl (by decide) rfl (fun ls hl => ?_)
  refine lv_iconst (v := 0) hx hb dX9_findRemainders_73 (by decide) ?_
  refine lv_istore (lv' := [(4, .int (0 : Int32)), (3, .int (1 : Int32)), (0, .ref q), (1, .int p1), (2, .int y2_7)]) hx hb dX9_findRemainders_74 hl (by decide) rfl (fun ls hl => ?_)
  refine lv_iconst (v := 0) hx hb dX9_findRemainders_76 (by decide) ?_
  refine lv_istore (lv' := [(5, .int (0 : Int32)), (4, .int (0 : Int32)), (3, .int (1 : Int32)), (0, .ref q), (1, .int p1), (2, .int y2_7)]) hx hb dX9_findRemainders_77 hl (by decide) rfl (fun ls hl => ?_)
  refine hL79 p1 y2_7 _ (fun y3_18 y4_18 y5_18 u18_isMet u18_queue H locs ls hf hP hD hS hl => ?_) n (1 : Int32) (0 : Int32) (0 : Int32) (upd u3_isMet y2_7.toNatClampNeg (1 : Int32)) (upd v_queue (0 : Int32).toNatClampNeg y2_7) _ _ _ hf hP hD hS (lv_sub hl [3, 4, 5, 2, 1, 0] rfl)
  have hP : va_P G vwCl [(q, .inr (9, [.ref q_bends, .ref q_rootAt, .int v_stepAt, .ref q_pile, .ref q_lastAt, .ref q_nextAt, .ref q_hasBend, .int v_justMany, .ref q_isMet, .ref q_queue, .ref q_sums, .ref q_kept, .ref q_isKept, .ref q_copies, .ref q_shelfMany, .ref q_shelfSort, .ref q_shelfHas])), (q_rootAt, .inl (cJ, 4, .inr (.inl v_rootAt))), (q_isMet, .inl (cZ, 20736, .inl u18_isMet)), (q_queue, .inl (cI, 20736, .inl u18_queue))] H := hP
  have hD : va_D A [(q, .inr (9, [.ref q_bends, .ref q_rootAt, .int v_stepAt, .ref q_pile, .ref q_lastAt, .ref q_nextAt, .ref q_hasBend, .int v_justMany, .ref q_isMet, .ref q_queue, .ref q_sums, .ref q_kept, .ref q_isKept, .ref q_copies, .ref q_shelfMany, .ref q_shelfSort, .ref q_shelfHas])), (q_rootAt, .inl (cJ, 4, .inr (.inl v_rootAt))), (q_isMet, .inl (cZ, 20736, .inl u18_isMet)), (q_queue, .inl (cI, 20736, .inl u18_queue))] := hD
  refine lv_iload hx hb dX9_findRemainders_170 (lv_at hl 4 rfl) ?_
  cases hf
  rw [← hQ]
  exact rt_i hx hb hr hlk hP hD hS rfl dX9_findRemainders_172
def pX9_remainders (n : Nat) (v_stepAt : Int32) (v_bends : (Nat → Int64)) (v_rootAt : (Nat → Int64)) (v_isMet : (Nat → Int32)) (v_queue : (Nat → Int32)) (p1 : Int32) : Option (Int32 × Int32 × (Nat → Int64) × (Nat → Int32) × (Nat → Int32)) := Option.bind (pX9_within p1 (2 : Int32) (12 : Int32)) (fun r1 => if r1 = 0 then some ((-2 : Int32), v_stepAt, v_rootAt, v_isMet, v_queue) else Option.bind (pX9_findRoot n v_bends v_rootAt (-9 : Int32)) (fun r3 => Option.bind (pX9_findRemainders n r3.2.2 v_isMet v_queue p1) (fun r4 => some (r4.1, r3.2.1, r3.2.2, r4.2.1, r4.2.2))))
def rmX9_remainders : Room := { frames := 3, cells := 0, slots := 0, locals := 76 }
set_option maxRecDepth 100000 in
set_option maxHeartbeats 4000000 in
theorem kX9_remainders {l : Launch} {G : va_G} {cI cJ cZ cS cG : ClassId} (n : Nat) (q q_bends q_rootAt q_pile q_lastAt q_nextAt q_hasBend q_isMet q_queue q_sums q_kept q_isKept q_copies q_shelfMany q_shelfSort q_shelfHas : Nat) (v_stepAt : Int32) (v_justMany : Int32) (v_bends : (Nat → Int64)) (v_rootAt : (Nat → Int64)) (v_isMet : (Nat → Int32)) (v_queue : (Nat → Int32)) (p1 : Int32) (R : Int32 × Int32 × (Nat → Int64) × (Nat → Int32) × (Nat → Int32)) (hf : pX9_remainders n v_stepAt v_bends v_rootAt v_isMet v_queue p1 = some R) : CTi l yX9_remainders wsX9_remainders rmX9_remainders G cI cJ cZ cS cG [.ref q, .int p1] [(q, .inr (9, [.ref q_bends, .ref q_rootAt, .int v_stepAt, .ref q_pile, .ref q_lastAt, .ref q_nextAt, .ref q_hasBend, .int v_justMany, .ref q_isMet, .ref q_queue, .ref q_sums, .ref q_kept, .ref q_isKept, .ref q_copies, .ref q_shelfMany, .ref q_shelfSort, .ref q_shelfHas])), (q_bends, .inl (cJ, 4, .inr (.inl v_bends))), (q_rootAt, .inl (cJ, 4, .inr (.inl v_rootAt))), (q_isMet, .inl (cZ, 20736, .inl v_isMet)), (q_queue, .inl (cI, 20736, .inl v_queue))] [(q, .inr (9, [.ref q_bends, .ref q_rootAt, .int R.2.1, .ref q_pile, .ref q_lastAt, .ref q_nextAt, .ref q_hasBend, .int v_justMany, .ref q_isMet, .ref q_queue, .ref q_sums, .ref q_kept, .ref q_isKept, .ref q_copies, .ref q_shelfMany, .ref q_shelfSort, .ref q_shelfHas])), (q_bends, .inl (cJ, 4, .inr (.inl v_bends))), (q_rootAt, .inl (cJ, 4, .inr (.inl R.2.2.1))), (q_isMet, .inl (cZ, 20736, .inl R.2.2.2.1)), (q_queue, .inl (cI, 20736, .inl R.2.2.2.2))] R.1 := by
  refine Met.ofE (Qc := fun A => QRi G A [(q, .inr (9, [.ref q_bends, .ref q_rootAt, .int R.2.1, .ref q_pile, .ref q_lastAt, .ref q_nextAt, .ref q_hasBend, .int v_justMany, .ref q_isMet, .ref q_queue, .ref q_sums, .ref q_kept, .ref q_isKept, .ref q_copies, .ref q_shelfMany, .ref q_shelfSort, .ref q_shelfHas])), (q_bends, .inl (cJ, 4, .inr (.inl v_bends))), (q_rootAt, .inl (cJ, 4, .inr (.inl R.2.2.1))), (q_isMet, .inl (cZ, 20736, .inl R.2.2.2.1)), (q_queue, .inl (cI, 20736, .inl R.2.2.2.2))] R.1) (cc := cX9_remainders) (nL := 2) (ret := some .int) (plainFor_of_name (by decide +kernel)) rfl (Nat.le_of_ble_eq_true rfl) ?_
  intro p e s m below meth c A ls hx hb hml hr hlk hts hown hK hA hP hD hS hl
  have hown : s.vm.findClass RX9 = some m.cls := hown
  have hl : lv_has ls 2 [(0, .ref q), (1, .int p1)] := hl
  generalize hQ : MQ below (QRi G A [(q, .inr (9, [.ref q_bends, .ref q_rootAt, .int R.2.1, .ref q_pile, .ref q_lastAt, .ref q_nextAt, .ref q_hasBend, .int v_justMany, .ref q_isMet, .ref q_queue, .ref q_sums, .ref q_kept, .ref q_isKept, .ref q_copies, .ref q_shelfMany, .ref q_shelfSort, .ref q_shelfHas])), (q_bends, .inl (cJ, 4, .inr (.inl v_bends))), (q_rootAt, .inl (cJ, 4, .inr (.inl R.2.2.1))), (q_isMet, .inl (cZ, 20736, .inl R.2.2.2.1)), (q_queue, .inl (cI, 20736, .inl R.2.2.2.2))] R.1) ([.ref q, .int p1] : List Value).toArray s 0 0 A = QQ
  unfold pX9_remainders at hf
  refine lv_iload_n hx hb dX9_remainders_0 rfl (lv_at hl 1 rfl) ?_
  refine lv_iconst (v := 2) hx hb dX9_remainders_1 (by decide) ?_
  refine lv_bipush (v := 12) hx hb dX9_remainders_2 (by decide) ?_
  obtain ⟨r1, hc1, hf⟩ := ob_s hf
  refine bk_i (wc := []) (wc2 := []) (wr := [(q, .inr (9, [.ref q_bends, .ref q_rootAt, .int v_stepAt, .ref q_pile, .ref q_lastAt, .ref q_nextAt, .ref q_hasBend, .int v_justMany, .ref q_isMet, .ref q_queue, .ref q_sums, .ref q_kept, .ref q_isKept, .ref q_copies, .ref q_shelfMany, .ref q_shelfSort, .ref q_shelfHas])), (q_bends, .inl (cJ, 4, .inr (.inl v_bends))), (q_rootAt, .inl (cJ, 4, .inr (.inl v_rootAt))), (q_isMet, .inl (cZ, 20736, .inl v_isMet)), (q_queue, .inl (cI, 20736, .inl v_queue))]) (ws2 := [(q, .inr (9, [.ref q_bends, .ref q_rootAt, .int v_stepAt, .ref q_pile, .ref q_lastAt, .ref q_nextAt, .ref q_hasBend, .int v_justMany, .ref q_isMet, .ref q_queue, .ref q_sums, .ref q_kept, .ref q_isKept, .ref q_copies, .ref q_shelfMany, .ref q_shelfSort, .ref q_shelfHas])), (q_bends, .inl (cJ, 4, .inr (.inl v_bends))), (q_rootAt, .inl (cJ, 4, .inr (.inl v_rootAt))), (q_isMet, .inl (cZ, 20736, .inl v_isMet)), (q_queue, .inl (cI, 20736, .inl v_queue))]) (r := r1) (va_runS (As := [.int p1, .int (2 : Int32), .int (12 : Int32)]) (rest := []) ⟨hx, hb, hml, hown, hts⟩ (kX9_within (l := l) (G := G) (cI := cI) (cJ := cJ) (cZ := cZ) (cS := cS) (cG := cG) p1 (2 : Int32) (12 : Int32) _ hc1 _) (va_cwS 3 hts gX9_remainders_X9_within rfl rfl rfl (by decide +kernel) ⟨Nat.le_of_ble_eq_true rfl, Nat.le_of_ble_eq_true rfl⟩) (cut_S hK hP hD [] rfl rfl) rfl rfl hl.1 rfl (lv_room (Nat.le_of_ble_eq_true rfl)) dX9_remainders_4 ⟨Nat.zero_le _, Nat.zero_le _⟩) hP hD hS hA [] [0, 1, 2, 3, 4] [0, 1, 2, 3, 4] rfl rfl rfl rfl rfl rfl (fun H locs hP hD hS => ?_)
  refine lv_if_ne (tgt := 13) hx hb dX9_remainders_7 (by decide) (fun c2 => ?_) (fun c2 => ?_)
  · have hf := if_n hf c2
    refine lv_aload_n hx hb dX9_remainders_13 rfl (lv_at hl 0 rfl) ?_
    refine lv_bipush (v := (-9)) hx hb dX9_remainders_14 (by decide) ?_
    obtain ⟨r3, hc3, hf⟩ := ob_s hf
    refine bk_i (wc := [(q, .inr (9, [.ref q_bends, .ref q_rootAt, .int v_stepAt, .ref q_pile, .ref q_lastAt, .ref q_nextAt, .ref q_hasBend, .int v_justMany, .ref q_isMet, .ref q_queue, .ref q_sums, .ref q_kept, .ref q_isKept, .ref q_copies, .ref q_shelfMany, .ref q_shelfSort, .ref q_shelfHas])), (q_bends, .inl (cJ, 4, .inr (.inl v_bends))), (q_rootAt, .inl (cJ, 4, .inr (.inl v_rootAt)))]) (wc2 := [(q, .inr (9, [.ref q_bends, .ref q_rootAt, .int r3.2.1, .ref q_pile, .ref q_lastAt, .ref q_nextAt, .ref q_hasBend, .int v_justMany, .ref q_isMet, .ref q_queue, .ref q_sums, .ref q_kept, .ref q_isKept, .ref q_copies, .ref q_shelfMany, .ref q_shelfSort, .ref q_shelfHas])), (q_bends, .inl (cJ, 4, .inr (.inl v_bends))), (q_rootAt, .inl (cJ, 4, .inr (.inl r3.2.2)))]) (wr := [(q_isMet, .inl (cZ, 20736, .inl v_isMet)), (q_queue, .inl (cI, 20736, .inl v_queue))]) (ws2 := [(q, .inr (9, [.ref q_bends, .ref q_rootAt, .int r3.2.1, .ref q_pile, .ref q_lastAt, .ref q_nextAt, .ref q_hasBend, .int v_justMany, .ref q_isMet, .ref q_queue, .ref q_sums, .ref q_kept, .ref q_isKept, .ref q_copies, .ref q_shelfMany, .ref q_shelfSort, .ref q_shelfHas])), (q_bends, .inl (cJ, 4, .inr (.inl v_bends))), (q_rootAt, .inl (cJ, 4, .inr (.inl r3.2.2))), (q_isMet, .inl (cZ, 20736, .inl v_isMet)), (q_queue, .inl (cI, 20736, .inl v_queue))]) (r := r3.1) (va_runV (As := [.int (-9 : Int32)]) (rest := []) ⟨hx, hb, hml, hown, hts⟩ (kX9_findRoot (l := l) (G := G) (cI := cI) (cJ := cJ) (cZ := cZ) (cS := cS) (cG := cG) n q q_bends q_rootAt q_pile q_lastAt q_nextAt q_hasBend q_isMet q_queue q_sums q_kept q_isKept q_copies q_shelfMany q_shelfSort q_shelfHas v_stepAt v_justMany v_bends v_rootAt (-9 : Int32) _ hc3 _) (cwV 1 hts gX9_remainders_X9_findRoot rfl rfl rfl (by decide +kernel) ⟨Nat.le_of_ble_eq_true rfl, Nat.le_of_ble_eq_true rfl⟩) (cut_V hK hP hD [0, 1, 2] rfl rfl (ci := 9) (q0 := 0) rfl rfl) rfl rfl hl.1 rfl (lv_room (Nat.le_of_ble_eq_true rfl)) dX9_remainders_16 ⟨Nat.zero_le _, Nat.zero_le _⟩) hP hD hS hA [0, 1, 2] [3, 4] [2, 3, 4, 0, 1] rfl rfl rfl rfl rfl rfl (fun H locs hP hD hS => ?_)
    refine lv_pop hx hb dX9_remainders_19 rfl ?_
    refine lv_aload_n hx hb dX9_remainders_20 rfl (lv_at hl 0 rfl) ?_
    refine lv_iload_n hx hb dX9_remainders_21 rfl (lv_at hl 1 rfl) ?_
    obtain ⟨r4, hc4, hf⟩ := ob_s hf
    refine bk_i (wc := [(q, .inr (9, [.ref q_bends, .ref q_rootAt, .int r3.2.1, .ref q_pile, .ref q_lastAt, .ref q_nextAt, .ref q_hasBend, .int v_justMany, .ref q_isMet, .ref q_queue, .ref q_sums, .ref q_kept, .ref q_isKept, .ref q_copies, .ref q_shelfMany, .ref q_shelfSort, .ref q_shelfHas])), (q_rootAt, .inl (cJ, 4, .inr (.inl r3.2.2))), (q_isMet, .inl (cZ, 20736, .inl v_isMet)), (q_queue, .inl (cI, 20736, .inl v_queue))]) (wc2 := [(q, .inr (9, [.ref q_bends, .ref q_rootAt, .int r3.2.1, .ref q_pile, .ref q_lastAt, .ref q_nextAt, .ref q_hasBend, .int v_justMany, .ref q_isMet, .ref q_queue, .ref q_sums, .ref q_kept, .ref q_isKept, .ref q_copies, .ref q_shelfMany, .ref q_shelfSort, .ref q_shelfHas])), (q_rootAt, .inl (cJ, 4, .inr (.inl r3.2.2))), (q_isMet, .inl (cZ, 20736, .inl r4.2.1)), (q_queue, .inl (cI, 20736, .inl r4.2.2))]) (wr := [(q_bends, .inl (cJ, 4, .inr (.inl v_bends)))]) (ws2 := [(q, .inr (9, [.ref q_bends, .ref q_rootAt, .int r3.2.1, .ref q_pile, .ref q_lastAt, .ref q_nextAt, .ref q_hasBend, .int v_justMany, .ref q_isMet, .ref q_queue, .ref q_sums, .ref q_kept, .ref q_isKept, .ref q_copies, .ref q_shelfMany, .ref q_shelfSort, .ref q_shelfHas])), (q_bends, .inl (cJ, 4, .inr (.inl v_bends))), (q_rootAt, .inl (cJ, 4, .inr (.inl r3.2.2))), (q_isMet, .inl (cZ, 20736, .inl r4.2.1)), (q_queue, .inl (cI, 20736, .inl r4.2.2))]) (r := r4.1) (va_runV (As := [.int p1]) (rest := []) ⟨hx, hb, hml, hown, hts⟩ (kX9_findRemainders (l := l) (G := G) (cI := cI) (cJ := cJ) (cZ := cZ) (cS := cS) (cG := cG) n q q_bends q_rootAt q_pile q_lastAt q_nextAt q_hasBend q_isMet q_queue q_sums q_kept q_isKept q_copies q_shelfMany q_shelfSort q_shelfHas r3.2.1 v_justMany r3.2.2 v_isMet v_queue p1 _ hc4 _) (cwV 1 hts gX9_remainders_X9_findRemainders rfl rfl rfl (by decide +kernel) ⟨Nat.le_of_ble_eq_true rfl, Nat.le_of_ble_eq_true rfl⟩) (cut_V hK hP hD [0, 2, 3, 4] rfl rfl (ci := 9) (q0 := 0) rfl rfl) rfl rfl hl.1 rfl (lv_room (Nat.le_of_ble_eq_true rfl)) dX9_remainders_22 ⟨Nat.zero_le _, Nat.zero_le _⟩) hP hD hS hA [0, 2, 3, 4] [1] [1, 0, 2, 3, 4] rfl rfl rfl rfl rfl rfl (fun H locs hP hD hS => ?_)
    cases hf
    rw [← hQ]
    exact rt_i hx hb hr hlk hP hD hS rfl dX9_remainders_25
  · have hf := if_s hf c2
    refine lv_bipush (v := (-2)) hx hb dX9_remainders_10 (by decide) ?_
    cases hf
    rw [← hQ]
    exact rt_i hx hb hr hlk hP hD hS rfl dX9_remainders_12
def pX9_gap_L57 (x1 : Int32) (x2 : Int32) (x3 : Int32) (v_stepAt : Int32) (v_justMany : Int32) (v_rootAt : (Nat → Int64)) (v_pile : (Nat → Int64)) (v_lastAt : (Nat → Int32)) (v_nextAt : (Nat → Int32)) (v_hasBend : (Nat → Int32)) (v_isMet : (Nat → Int32)) (v_queue : (Nat → Int32)) : Nat → Int32 → Int32 → (Int32 → Int32 → Option (Int32 × Int32 × Int32 × (Nat → Int64) × (Nat → Int64) × (Nat → Int32) × (Nat → Int32) × (Nat → Int32) × (Nat → Int32) × (Nat → Int32))) → Option (Int32 × Int32 × Int32 × (Nat → Int64) × (Nat → Int64) × (Nat → Int32) × (Nat → Int32) × (Nat → Int32) × (Nat → Int32) × (Nat → Int32))
  | 0, _, _, _ => none
  | n + 1, x4, x5, k => if x1 < x5 then k x4 x5 else ck (ix x5 5001) (if (v_hasBend x5.toNatClampNeg) = 0 then if ((x3 >>> ((x5 - x5 / (12 : Int32) * (12 : Int32)) &&& 31)) &&& (1 : Int32)) = (1 : Int32) then if x4 = x2 then some (x5, v_stepAt, v_justMany, v_rootAt, v_pile, v_lastAt, v_nextAt, v_hasBend, v_isMet, v_queue) else pX9_gap_L57 x1 x2 x3 v_stepAt v_justMany v_rootAt v_pile v_lastAt v_nextAt v_hasBend v_isMet v_queue n (x4 + (1 : Int32)) (x5 + (1 : Int32)) k else pX9_gap_L57 x1 x2 x3 v_stepAt v_justMany v_rootAt v_pile v_lastAt v_nextAt v_hasBend v_isMet v_queue n x4 (x5 + (1 : Int32)) k else pX9_gap_L57 x1 x2 x3 v_stepAt v_justMany v_rootAt v_pile v_lastAt v_nextAt v_hasBend v_isMet v_queue n x4 (x5 + (1 : Int32)) k)
def pX9_gap (n : Nat) (v_stepAt : Int32) (v_justMany : Int32) (v_bends : (Nat → Int64)) (v_rootAt : (Nat → Int64)) (v_pile : (Nat → Int64)) (v_lastAt : (Nat → Int32)) (v_nextAt : (Nat → Int32)) (v_hasBend : (Nat → Int32)) (v_isMet : (Nat → Int32)) (v_queue : (Nat → Int32)) (p1 : Int32) (p2 : Int32) : Option (Int32 × Int32 × Int32 × (Nat → Int64) × (Nat → Int64) × (Nat → Int32) × (Nat → Int32) × (Nat → Int32) × (Nat → Int32) × (Nat → Int32)) := Option.bind (pX9_within p1 (1 : Int32) (5000 : Int32)) (fun r1 => if r1 = 0 then some ((-2 : Int32), v_stepAt, v_justMany, v_rootAt, v_pile, v_lastAt, v_nextAt, v_hasBend, v_isMet, v_queue) else Option.bind (pX9_within p2 (-1 : Int32) (5000 : Int32)) (fun r3 => if r3 = 0 then some ((-2 : Int32), v_stepAt, v_justMany, v_rootAt, v_pile, v_lastAt, v_nextAt, v_hasBend, v_isMet, v_queue) else Option.bind (pX9_isBound n v_bends v_rootAt) (fun r5 => if r5.1 = 0 then some ((-3 : Int32), r5.2.1, v_justMany, r5.2.2, v_pile, v_lastAt, v_nextAt, v_hasBend, v_isMet, v_queue) else Option.bind (pX9_findRemainders n r5.2.2 v_isMet v_queue (12 : Int32)) (fun r7 => Option.bind (pX9_allUpTo n r5.2.2 v_pile v_lastAt v_nextAt v_hasBend p1 (-9223372036854775808 : Int64)) (fun r8 => pX9_gap_L57 p1 p2 r7.1 r5.2.1 r8.2.1 r5.2.2 r8.2.2.1 r8.2.2.2.1 r8.2.2.2.2.1 r8.2.2.2.2.2 r7.2.1 r7.2.2 n (0 : Int32) (1 : Int32) (fun (y4_14 : Int32) (y5_14 : Int32) => if 0 ≤ p2 then some ((-9 : Int32), r5.2.1, r8.2.1, r5.2.2, r8.2.2.1, r8.2.2.2.1, r8.2.2.2.2.1, r8.2.2.2.2.2, r7.2.1, r7.2.2) else some (y4_14, r5.2.1, r8.2.1, r5.2.2, r8.2.2.1, r8.2.2.2.1, r8.2.2.2.2.1, r8.2.2.2.2.2, r7.2.1, r7.2.2)))))))
def rmX9_gap : Room := { frames := 3, cells := 0, slots := 0, locals := 79 }
theorem hiX9_gap_X9 : ∀ w ∈ u_ws RX9 TX9 17, w ∈ wsX9_gap := fun _ h => List.mem_cons_of_mem _ (List.mem_append_right _ h)
set_option maxRecDepth 100000 in
set_option maxHeartbeats 4000000 in
theorem kX9_gap {l : Launch} {G : va_G} {cI cJ cZ cS cG : ClassId} (n : Nat) (q q_bends q_rootAt q_pile q_lastAt q_nextAt q_hasBend q_isMet q_queue q_sums q_kept q_isKept q_copies q_shelfMany q_shelfSort q_shelfHas : Nat) (v_stepAt : Int32) (v_justMany : Int32) (v_bends : (Nat → Int64)) (v_rootAt : (Nat → Int64)) (v_pile : (Nat → Int64)) (v_lastAt : (Nat → Int32)) (v_nextAt : (Nat → Int32)) (v_hasBend : (Nat → Int32)) (v_isMet : (Nat → Int32)) (v_queue : (Nat → Int32)) (p1 : Int32) (p2 : Int32) (R : Int32 × Int32 × Int32 × (Nat → Int64) × (Nat → Int64) × (Nat → Int32) × (Nat → Int32) × (Nat → Int32) × (Nat → Int32) × (Nat → Int32)) (hf : pX9_gap n v_stepAt v_justMany v_bends v_rootAt v_pile v_lastAt v_nextAt v_hasBend v_isMet v_queue p1 p2 = some R) : CTi l yX9_gap wsX9_gap rmX9_gap G cI cJ cZ cS cG [.ref q, .int p1, .int p2] [(q, .inr (9, [.ref q_bends, .ref q_rootAt, .int v_stepAt, .ref q_pile, .ref q_lastAt, .ref q_nextAt, .ref q_hasBend, .int v_justMany, .ref q_isMet, .ref q_queue, .ref q_sums, .ref q_kept, .ref q_isKept, .ref q_copies, .ref q_shelfMany, .ref q_shelfSort, .ref q_shelfHas])), (q_bends, .inl (cJ, 4, .inr (.inl v_bends))), (q_rootAt, .inl (cJ, 4, .inr (.inl v_rootAt))), (q_pile, .inl (cJ, 10400, .inr (.inl v_pile))), (q_lastAt, .inl (cI, 2600, .inl v_lastAt)), (q_nextAt, .inl (cI, 2600, .inl v_nextAt)), (q_hasBend, .inl (cZ, 5001, .inl v_hasBend)), (q_isMet, .inl (cZ, 20736, .inl v_isMet)), (q_queue, .inl (cI, 20736, .inl v_queue))] [(q, .inr (9, [.ref q_bends, .ref q_rootAt, .int R.2.1, .ref q_pile, .ref q_lastAt, .ref q_nextAt, .ref q_hasBend, .int R.2.2.1, .ref q_isMet, .ref q_queue, .ref q_sums, .ref q_kept, .ref q_isKept, .ref q_copies, .ref q_shelfMany, .ref q_shelfSort, .ref q_shelfHas])), (q_bends, .inl (cJ, 4, .inr (.inl v_bends))), (q_rootAt, .inl (cJ, 4, .inr (.inl R.2.2.2.1))), (q_pile, .inl (cJ, 10400, .inr (.inl R.2.2.2.2.1))), (q_lastAt, .inl (cI, 2600, .inl R.2.2.2.2.2.1)), (q_nextAt, .inl (cI, 2600, .inl R.2.2.2.2.2.2.1)), (q_hasBend, .inl (cZ, 5001, .inl R.2.2.2.2.2.2.2.1)), (q_isMet, .inl (cZ, 20736, .inl R.2.2.2.2.2.2.2.2.1)), (q_queue, .inl (cI, 20736, .inl R.2.2.2.2.2.2.2.2.2))] R.1 := by
  refine Met.ofE (Qc := fun A => QRi G A [(q, .inr (9, [.ref q_bends, .ref q_rootAt, .int R.2.1, .ref q_pile, .ref q_lastAt, .ref q_nextAt, .ref q_hasBend, .int R.2.2.1, .ref q_isMet, .ref q_queue, .ref q_sums, .ref q_kept, .ref q_isKept, .ref q_copies, .ref q_shelfMany, .ref q_shelfSort, .ref q_shelfHas])), (q_bends, .inl (cJ, 4, .inr (.inl v_bends))), (q_rootAt, .inl (cJ, 4, .inr (.inl R.2.2.2.1))), (q_pile, .inl (cJ, 10400, .inr (.inl R.2.2.2.2.1))), (q_lastAt, .inl (cI, 2600, .inl R.2.2.2.2.2.1)), (q_nextAt, .inl (cI, 2600, .inl R.2.2.2.2.2.2.1)), (q_hasBend, .inl (cZ, 5001, .inl R.2.2.2.2.2.2.2.1)), (q_isMet, .inl (cZ, 20736, .inl R.2.2.2.2.2.2.2.2.1)), (q_queue, .inl (cI, 20736, .inl R.2.2.2.2.2.2.2.2.2))] R.1) (cc := cX9_gap) (nL := 6) (ret := some .int) (plainFor_of_name (by decide +kernel)) rfl (Nat.le_of_ble_eq_true rfl) ?_
  intro p e s m below meth c A ls hx hb hml hr hlk hts hown hK hA hP hD hS hl
  have hown : s.vm.findClass RX9 = some m.cls := hown
  have hl : lv_has ls 6 [(0, .ref q), (1, .int p1), (2, .int p2)] := hl
  generalize hQ : MQ below (QRi G A [(q, .inr (9, [.ref q_bends, .ref q_rootAt, .int R.2.1, .ref q_pile, .ref q_lastAt, .ref q_nextAt, .ref q_hasBend, .int R.2.2.1, .ref q_isMet, .ref q_queue, .ref q_sums, .ref q_kept, .ref q_isKept, .ref q_copies, .ref q_shelfMany, .ref q_shelfSort, .ref q_shelfHas])), (q_bends, .inl (cJ, 4, .inr (.inl v_bends))), (q_rootAt, .inl (cJ, 4, .inr (.inl R.2.2.2.1))), (q_pile, .inl (cJ, 10400, .inr (.inl R.2.2.2.2.1))), (q_lastAt, .inl (cI, 2600, .inl R.2.2.2.2.2.1)), (q_nextAt, .inl (cI, 2600, .inl R.2.2.2.2.2.2.1)), (q_hasBend, .inl (cZ, 5001, .inl R.2.2.2.2.2.2.2.1)), (q_isMet, .inl (cZ, 20736, .inl R.2.2.2.2.2.2.2.2.1)), (q_queue, .inl (cI, 20736, .inl R.2.2.2.2.2.2.2.2.2))] R.1) ([.ref q, .int p1, .int p2] : List Value).toArray s 0 0 A = QQ
  unfold pX9_gap at hf
  have hL57 : ∀ (x1 : Int32) (x2 : Int32) (x3 : Int32) (v_stepAt : Int32) (v_justMany : Int32) (v_rootAt : (Nat → Int64)) (v_pile : (Nat → Int64)) (v_lastAt : (Nat → Int32)) (v_nextAt : (Nat → Int32)) (v_hasBend : (Nat → Int32)) (v_isMet : (Nat → Int32)) (v_queue : (Nat → Int32)) (k : Int32 → Int32 → Option (Int32 × Int32 × Int32 × (Nat → Int64) × (Nat → Int64) × (Nat → Int32) × (Nat → Int32) × (Nat → Int32) × (Nat → Int32) × (Nat → Int32))), (∀ (x4 : Int32) (x5 : Int32) (H : Heap) (locs : List Loc) (ls : Array Slot), k x4 x5 = some R → va_P G vwCl [(q, .inr (9, [.ref q_bends, .ref q_rootAt, .int v_stepAt, .ref q_pile, .ref q_lastAt, .ref q_nextAt, .ref q_hasBend, .int v_justMany, .ref q_isMet, .ref q_queue, .ref q_sums, .ref q_kept, .ref q_isKept, .ref q_copies, .ref q_shelfMany, .ref q_shelfSort, .ref q_shelfHas])), (q_bends, .inl (cJ, 4, .inr (.inl v_bends))), (q_rootAt, .inl (cJ, 4, .inr (.inl v_rootAt))), (q_pile, .inl (cJ, 10400, .inr (.inl v_pile))), (q_lastAt, .inl (cI, 2600, .inl v_lastAt)), (q_nextAt, .inl (cI, 2600, .inl v_nextAt)), (q_hasBend, .inl (cZ, 5001, .inl v_hasBend)), (q_isMet, .inl (cZ, 20736, .inl v_isMet)), (q_queue, .inl (cI, 20736, .inl v_queue))] H → va_D A [(q, .inr (9, [.ref q_bends, .ref q_rootAt, .int v_stepAt, .ref q_pile, .ref q_lastAt, .ref q_nextAt, .ref q_hasBend, .int v_justMany, .ref q_isMet, .ref q_queue, .ref q_sums, .ref q_kept, .ref q_isKept, .ref q_copies, .ref q_shelfMany, .ref q_shelfSort, .ref q_shelfHas])), (q_bends, .inl (cJ, 4, .inr (.inl v_bends))), (q_rootAt, .inl (cJ, 4, .inr (.inl v_rootAt))), (q_pile, .inl (cJ, 10400, .inr (.inl v_pile))), (q_lastAt, .inl (cI, 2600, .inl v_lastAt)), (q_nextAt, .inl (cI, 2600, .inl v_nextAt)), (q_hasBend, .inl (cZ, 5001, .inl v_hasBend)), (q_isMet, .inl (cZ, 20736, .inl v_isMet)), (q_queue, .inl (cI, 20736, .inl v_queue))] → va_S A s.heap H locs → lv_has ls 6 [(0, .ref q), (1, .int x1), (2, .int x2), (3, .int x3), (4, .int x4), (5, .int x5)] → W p l e rmX9_gap s m ([.ref q, .int p1, .int p2] : List Value).toArray below meth c H locs 0 0 QQ (F0 m 104 ls [])) → ∀ (n : Nat) (x4 : Int32) (x5 : Int32) (H : Heap) (locs : List Loc) (ls : Array Slot), pX9_gap_L57 x1 x2 x3 v_stepAt v_justMany v_rootAt v_pile v_lastAt v_nextAt v_hasBend v_isMet v_queue n x4 x5 k = some R → va_P G vwCl [(q, .inr (9, [.ref q_bends, .ref q_rootAt, .int v_stepAt, .ref q_pile, .ref q_lastAt, .ref q_nextAt, .ref q_hasBend, .int v_justMany, .ref q_isMet, .ref q_queue, .ref q_sums, .ref q_kept, .ref q_isKept, .ref q_copies, .ref q_shelfMany, .ref q_shelfSort, .ref q_shelfHas])), (q_bends, .inl (cJ, 4, .inr (.inl v_bends))), (q_rootAt, .inl (cJ, 4, .inr (.inl v_rootAt))), (q_pile, .inl (cJ, 10400, .inr (.inl v_pile))), (q_lastAt, .inl (cI, 2600, .inl v_lastAt)), (q_nextAt, .inl (cI, 2600, .inl v_nextAt)), (q_hasBend, .inl (cZ, 5001, .inl v_hasBend)), (q_isMet, .inl (cZ, 20736, .inl v_isMet)), (q_queue, .inl (cI, 20736, .inl v_queue))] H → va_D A [(q, .inr (9, [.ref q_bends, .ref q_rootAt, .int v_stepAt, .ref q_pile, .ref q_lastAt, .ref q_nextAt, .ref q_hasBend, .int v_justMany, .ref q_isMet, .ref q_queue, .ref q_sums, .ref q_kept, .ref q_isKept, .ref q_copies, .ref q_shelfMany, .ref q_shelfSort, .ref q_shelfHas])), (q_bends, .inl (cJ, 4, .inr (.inl v_bends))), (q_rootAt, .inl (cJ, 4, .inr (.inl v_rootAt))), (q_pile, .inl (cJ, 10400, .inr (.inl v_pile))), (q_lastAt, .inl (cI, 2600, .inl v_lastAt)), (q_nextAt, .inl (cI, 2600, .inl v_nextAt)), (q_hasBend, .inl (cZ, 5001, .inl v_hasBend)), (q_isMet, .inl (cZ, 20736, .inl v_isMet)), (q_queue, .inl (cI, 20736, .inl v_queue))] → va_S A s.heap H locs → lv_has ls 6 [(0, .ref q), (1, .int x1), (2, .int x2), (3, .int x3), (4, .int x4), (5, .int x5)] → W p l e rmX9_gap s m ([.ref q, .int p1, .int p2] : List Value).toArray below meth c H locs 0 0 QQ (F0 m 57 ls []) := by
    intro x1 x2 x3 v_stepAt v_justMany v_rootAt v_pile v_lastAt v_nextAt v_hasBend v_isMet v_queue k hk n
    induction n with
    | zero =>
      intro x4 x5 H locs ls hf
      cases hf
    | succ n ih =>
      intro x4 x5 H locs ls hf hP hD hS hl
      unfold pX9_gap_L57 at hf
      refine lv_iload hx hb dX9_gap_57 (lv_at hl 5 rfl) ?_
      refine lv_iload_n hx hb dX9_gap_59 rfl (lv_at hl 1 rfl) ?_
      refine lv_icmp_gt (tgt := 104) hx hb dX9_gap_60 (by decide) (fun c9 => ?_) (fun c9 => ?_)
      · have hf := if_s hf c9
        exact hk x4 x5 _ _ _ hf hP hD hS (lv_sub hl [0, 1, 2, 3, 4, 5] rfl)
      · have hf := if_n hf c9
        refine lv_aload_n hx hb dX9_gap_63 rfl (lv_at hl 0 rfl) ?_
        refine va_get (D := G) (ci := 9) (v := .ref q_hasBend) (C := RX9) (T := TX9) (N := 17) hx hb hts hiX9_gap_X9 hown hK.1 hP 0 rfl rfl 6 (by decide) (hts (.fieldLink RX9 26 "PackedBendsModel" "hasBend" "[Z") (List.mem_of_getElem? (i := 2) rfl)) (fun _ h9 => h9) rfl dX9_gap_64 ?_
        refine lv_iload hx hb dX9_gap_67 (lv_at hl 5 rfl) ?_
        obtain ⟨z10, hf⟩ := ck_s hf
        refine va_zald hx hb hK.1 hP 6 2 rfl rfl (vp_in_iff.mpr z10) dX9_gap_69 ?_
        refine lv_if_ne (tgt := 98) hx hb dX9_gap_70 (by decide) (fun c11 => ?_) (fun c11 => ?_)
        · have hf := if_n hf c11
          refine lv_iinc (v := x5 + (1 : Int32)) (lv' := [(5, .int (x5 + (1 : Int32))), (0, .ref q), (1, .int x1), (2, .int x2), (3, .int x3), (4, .int x4)]) hx hb dX9_gap_98 hl (k := 5) rfl rfl (by decide) rfl (fun ls hl => ?_)
          refine lv_goto (tgt := 57) hx hb dX9_gap_101 (by decide) ?_
          exact ih x4 (x5 + (1 : Int32)) _ _ _ hf hP hD hS (lv_sub hl [1, 2, 3, 4, 5, 0] rfl)
        · have hf := if_s hf c11
          refine lv_iload_n hx hb dX9_gap_73 rfl (lv_at hl 3 rfl) ?_
          refine lv_iload hx hb dX9_gap_74 (lv_at hl 5 rfl) ?_
          refine lv_bipush (v := 12) hx hb dX9_gap_76 (by decide) ?_
          refine lv_irem hx hb dX9_gap_78 (by decide) ?_
          refine lv_ishr hx hb dX9_gap_79 ?_
          refine lv_iconst (v := 1) hx hb dX9_gap_80 (by decide) ?_
          refine lv_iand hx hb dX9_gap_81 ?_
          refine lv_iconst (v := 1) hx hb dX9_gap_82 (by decide) ?_
          refine lv_icmp_ne (tgt := 98) hx hb dX9_gap_83 (by decide) (fun c12 => ?_) (fun c12 => ?_)
          · have hf := if_n hf c12
            refine lv_iinc (v := x5 + (1 : Int32)) (lv' := [(5, .int (x5 + (1 : Int32))), (0, .ref q), (1, .int x1), (2, .int x2), (3, .int x3), (4, .int x4)]) hx hb dX9_gap_98 hl (k := 5) rfl rfl (by decide) rfl (fun ls hl => ?_)
            refine lv_goto (tgt := 57) hx hb dX9_gap_101 (by decide) ?_
            exact ih x4 (x5 + (1 : Int32)) _ _ _ hf hP hD hS (lv_sub hl [1, 2, 3, 4, 5, 0] rfl)
          · have hf := if_s hf c12
            refine lv_iload hx hb dX9_gap_86 (lv_at hl 4 rfl) ?_
            refine lv_iload_n hx hb dX9_gap_88 rfl (lv_at hl 2 rfl) ?_
            refine lv_icmp_ne (tgt := 95) hx hb dX9_gap_89 (by decide) (fun c13 => ?_) (fun c13 => ?_)
            · have hf := if_n hf c13
              refine lv_iinc (v := x4 + (1 : Int32)) (lv' := [(4, .int (x4 + (1 : Int32))), (0, .ref q), (1, .int x1), (2, .int x2), (3, .int x3), (5, .int x5)]) hx hb dX9_gap_95 hl (k := 4) rfl rfl (by decide) rfl (fun ls hl => ?_)
              refine lv_iinc (v := x5 + (1 : Int32)) (lv' := [(5, .int (x5 + (1 : Int32))), (4, .int (x4 + (1 : Int32))), (0, .ref q), (1, .int x1), (2, .int x2), (3, .int x3)]) hx hb dX9_gap_98 hl (k := 5) rfl rfl (by decide) rfl (fun ls hl => ?_)
              refine lv_goto (tgt := 57) hx hb dX9_gap_101 (by decide) ?_
              exact ih (x4 + (1 : Int32)) (x5 + (1 : Int32)) _ _ _ hf hP hD hS (lv_sub hl [2, 3, 4, 5, 1, 0] rfl)
            · have hf := if_s hf c13
              refine lv_iload hx hb dX9_gap_92 (lv_at hl 5 rfl) ?_
              cases hf
              rw [← hQ]
              exact rt_i hx hb hr hlk hP hD hS rfl dX9_gap_94
  refine lv_iload_n hx hb dX9_gap_0 rfl (lv_at hl 1 rfl) ?_
  refine lv_iconst (v := 1) hx hb dX9_gap_1 (by decide) ?_
  refine lv_sipush (v := 5000) hx hb dX9_gap_2 (by decide) ?_
  obtain ⟨r1, hc1, hf⟩ := ob_s hf
  refine bk_i (wc := []) (wc2 := []) (wr := [(q, .inr (9, [.ref q_bends, .ref q_rootAt, .int v_stepAt, .ref q_pile, .ref q_lastAt, .ref q_nextAt, .ref q_hasBend, .int v_justMany, .ref q_isMet, .ref q_queue, .ref q_sums, .ref q_kept, .ref q_isKept, .ref q_copies, .ref q_shelfMany, .ref q_shelfSort, .ref q_shelfHas])), (q_bends, .inl (cJ, 4, .inr (.inl v_bends))), (q_rootAt, .inl (cJ, 4, .inr (.inl v_rootAt))), (q_pile, .inl (cJ, 10400, .inr (.inl v_pile))), (q_lastAt, .inl (cI, 2600, .inl v_lastAt)), (q_nextAt, .inl (cI, 2600, .inl v_nextAt)), (q_hasBend, .inl (cZ, 5001, .inl v_hasBend)), (q_isMet, .inl (cZ, 20736, .inl v_isMet)), (q_queue, .inl (cI, 20736, .inl v_queue))]) (ws2 := [(q, .inr (9, [.ref q_bends, .ref q_rootAt, .int v_stepAt, .ref q_pile, .ref q_lastAt, .ref q_nextAt, .ref q_hasBend, .int v_justMany, .ref q_isMet, .ref q_queue, .ref q_sums, .ref q_kept, .ref q_isKept, .ref q_copies, .ref q_shelfMany, .ref q_shelfSort, .ref q_shelfHas])), (q_bends, .inl (cJ, 4, .inr (.inl v_bends))), (q_rootAt, .inl (cJ, 4, .inr (.inl v_rootAt))), (q_pile, .inl (cJ, 10400, .inr (.inl v_pile))), (q_lastAt, .inl (cI, 2600, .inl v_lastAt)), (q_nextAt, .inl (cI, 2600, .inl v_nextAt)), (q_hasBend, .inl (cZ, 5001, .inl v_hasBend)), (q_isMet, .inl (cZ, 20736, .inl v_isMet)), (q_queue, .inl (cI, 20736, .inl v_queue))]) (r := r1) (va_runS (As := [.int p1, .int (1 : Int32), .int (5000 : Int32)]) (rest := []) ⟨hx, hb, hml, hown, hts⟩ (kX9_within (l := l) (G := G) (cI := cI) (cJ := cJ) (cZ := cZ) (cS := cS) (cG := cG) p1 (1 : Int32) (5000 : Int32) _ hc1 _) (va_cwS 3 hts gX9_gap_X9_within rfl rfl rfl (by decide +kernel) ⟨Nat.le_of_ble_eq_true rfl, Nat.le_of_ble_eq_true rfl⟩) (cut_S hK hP hD [] rfl rfl) rfl rfl hl.1 rfl (lv_room (Nat.le_of_ble_eq_true rfl)) dX9_gap_5 ⟨Nat.zero_le _, Nat.zero_le _⟩) hP hD hS hA [] [0, 1, 2, 3, 4, 5, 6, 7, 8] [0, 1, 2, 3, 4, 5, 6, 7, 8] rfl rfl rfl rfl rfl rfl (fun H locs hP hD hS => ?_)
  refine lv_if_eq (tgt := 22) hx hb dX9_gap_8 (by decide) (fun c2 => ?_) (fun c2 => ?_)
  · have hf := if_s hf c2
    refine lv_bipush (v := (-2)) hx hb dX9_gap_22 (by decide) ?_
    cases hf
    rw [← hQ]
    exact rt_i hx hb hr hlk hP hD hS rfl dX9_gap_24
  · have hf := if_n hf c2
    refine lv_iload_n hx hb dX9_gap_11 rfl (lv_at hl 2 rfl) ?_
    refine lv_iconst (v := (-1)) hx hb dX9_gap_12 (by decide) ?_
    refine lv_sipush (v := 5000) hx hb dX9_gap_13 (by decide) ?_
    obtain ⟨r3, hc3, hf⟩ := ob_s hf
    refine bk_i (wc := []) (wc2 := []) (wr := [(q, .inr (9, [.ref q_bends, .ref q_rootAt, .int v_stepAt, .ref q_pile, .ref q_lastAt, .ref q_nextAt, .ref q_hasBend, .int v_justMany, .ref q_isMet, .ref q_queue, .ref q_sums, .ref q_kept, .ref q_isKept, .ref q_copies, .ref q_shelfMany, .ref q_shelfSort, .ref q_shelfHas])), (q_bends, .inl (cJ, 4, .inr (.inl v_bends))), (q_rootAt, .inl (cJ, 4, .inr (.inl v_rootAt))), (q_pile, .inl (cJ, 10400, .inr (.inl v_pile))), (q_lastAt, .inl (cI, 2600, .inl v_lastAt)), (q_nextAt, .inl (cI, 2600, .inl v_nextAt)), (q_hasBend, .inl (cZ, 5001, .inl v_hasBend)), (q_isMet, .inl (cZ, 20736, .inl v_isMet)), (q_queue, .inl (cI, 20736, .inl v_queue))]) (ws2 := [(q, .inr (9, [.ref q_bends, .ref q_rootAt, .int v_stepAt, .ref q_pile, .ref q_lastAt, .ref q_nextAt, .ref q_hasBend, .int v_justMany, .ref q_isMet, .ref q_queue, .ref q_sums, .ref q_kept, .ref q_isKept, .ref q_copies, .ref q_shelfMany, .ref q_shelfSort, .ref q_shelfHas])), (q_bends, .inl (cJ, 4, .inr (.inl v_bends))), (q_rootAt, .inl (cJ, 4, .inr (.inl v_rootAt))), (q_pile, .inl (cJ, 10400, .inr (.inl v_pile))), (q_lastAt, .inl (cI, 2600, .inl v_lastAt)), (q_nextAt, .inl (cI, 2600, .inl v_nextAt)), (q_hasBend, .inl (cZ, 5001, .inl v_hasBend)), (q_isMet, .inl (cZ, 20736, .inl v_isMet)), (q_queue, .inl (cI, 20736, .inl v_queue))]) (r := r3) (va_runS (As := [.int p2, .int (-1 : Int32), .int (5000 : Int32)]) (rest := []) ⟨hx, hb, hml, hown, hts⟩ (kX9_within (l := l) (G := G) (cI := cI) (cJ := cJ) (cZ := cZ) (cS := cS) (cG := cG) p2 (-1 : Int32) (5000 : Int32) _ hc3 _) (va_cwS 3 hts gX9_gap_X9_within rfl rfl rfl (by decide +kernel) ⟨Nat.le_of_ble_eq_true rfl, Nat.le_of_ble_eq_true rfl⟩) (cut_S hK hP hD [] rfl rfl) rfl rfl hl.1 rfl (lv_room (Nat.le_of_ble_eq_true rfl)) dX9_gap_16 ⟨Nat.zero_le _, Nat.zero_le _⟩) hP hD hS hA [] [0, 1, 2, 3, 4, 5, 6, 7, 8] [0, 1, 2, 3, 4, 5, 6, 7, 8] rfl rfl rfl rfl rfl rfl (fun H locs hP hD hS => ?_)
    refine lv_if_ne (tgt := 25) hx hb dX9_gap_19 (by decide) (fun c4 => ?_) (fun c4 => ?_)
    · have hf := if_n hf c4
      refine lv_aload_n hx hb dX9_gap_25 rfl (lv_at hl 0 rfl) ?_
      obtain ⟨r5, hc5, hf⟩ := ob_s hf
      refine bk_i (wc := [(q, .inr (9, [.ref q_bends, .ref q_rootAt, .int v_stepAt, .ref q_pile, .ref q_lastAt, .ref q_nextAt, .ref q_hasBend, .int v_justMany, .ref q_isMet, .ref q_queue, .ref q_sums, .ref q_kept, .ref q_isKept, .ref q_copies, .ref q_shelfMany, .ref q_shelfSort, .ref q_shelfHas])), (q_bends, .inl (cJ, 4, .inr (.inl v_bends))), (q_rootAt, .inl (cJ, 4, .inr (.inl v_rootAt)))]) (wc2 := [(q, .inr (9, [.ref q_bends, .ref q_rootAt, .int r5.2.1, .ref q_pile, .ref q_lastAt, .ref q_nextAt, .ref q_hasBend, .int v_justMany, .ref q_isMet, .ref q_queue, .ref q_sums, .ref q_kept, .ref q_isKept, .ref q_copies, .ref q_shelfMany, .ref q_shelfSort, .ref q_shelfHas])), (q_bends, .inl (cJ, 4, .inr (.inl v_bends))), (q_rootAt, .inl (cJ, 4, .inr (.inl r5.2.2)))]) (wr := [(q_pile, .inl (cJ, 10400, .inr (.inl v_pile))), (q_lastAt, .inl (cI, 2600, .inl v_lastAt)), (q_nextAt, .inl (cI, 2600, .inl v_nextAt)), (q_hasBend, .inl (cZ, 5001, .inl v_hasBend)), (q_isMet, .inl (cZ, 20736, .inl v_isMet)), (q_queue, .inl (cI, 20736, .inl v_queue))]) (ws2 := [(q, .inr (9, [.ref q_bends, .ref q_rootAt, .int r5.2.1, .ref q_pile, .ref q_lastAt, .ref q_nextAt, .ref q_hasBend, .int v_justMany, .ref q_isMet, .ref q_queue, .ref q_sums, .ref q_kept, .ref q_isKept, .ref q_copies, .ref q_shelfMany, .ref q_shelfSort, .ref q_shelfHas])), (q_bends, .inl (cJ, 4, .inr (.inl v_bends))), (q_rootAt, .inl (cJ, 4, .inr (.inl r5.2.2))), (q_pile, .inl (cJ, 10400, .inr (.inl v_pile))), (q_lastAt, .inl (cI, 2600, .inl v_lastAt)), (q_nextAt, .inl (cI, 2600, .inl v_nextAt)), (q_hasBend, .inl (cZ, 5001, .inl v_hasBend)), (q_isMet, .inl (cZ, 20736, .inl v_isMet)), (q_queue, .inl (cI, 20736, .inl v_queue))]) (r := r5.1) (va_runV (As := []) (rest := []) ⟨hx, hb, hml, hown, hts⟩ (kX9_isBound (l := l) (G := G) (cI := cI) (cJ := cJ) (cZ := cZ) (cS := cS) (cG := cG) n q q_bends q_rootAt q_pile q_lastAt q_nextAt q_hasBend q_isMet q_queue q_sums q_kept q_isKept q_copies q_shelfMany q_shelfSort q_shelfHas v_stepAt v_justMany v_bends v_rootAt _ hc5 _) (cwV 0 hts gX9_gap_X9_isBound rfl rfl rfl (by decide +kernel) ⟨Nat.le_of_ble_eq_true rfl, Nat.le_of_ble_eq_true rfl⟩) (cut_V hK hP hD [0, 1, 2] rfl rfl (ci := 9) (q0 := 0) rfl rfl) rfl rfl hl.1 rfl (lv_room (Nat.le_of_ble_eq_true rfl)) dX9_gap_26 ⟨Nat.zero_le _, Nat.zero_le _⟩) hP hD hS hA [0, 1, 2] [3, 4, 5, 6, 7, 8] [6, 7, 8, 0, 1, 2, 3, 4, 5] rfl rfl rfl rfl rfl rfl (fun H locs hP hD hS => ?_)
      refine lv_if_ne (tgt := 35) hx hb dX9_gap_29 (by decide) (fun c6 => ?_) (fun c6 => ?_)
      · have hf := if_n hf c6
        refine lv_aload_n hx hb dX9_gap_35 rfl (lv_at hl 0 rfl) ?_
        refine lv_bipush (v := 12) hx hb dX9_gap_36 (by decide) ?_
        obtain ⟨r7, hc7, hf⟩ := ob_s hf
        refine bk_i (wc := [(q, .inr (9, [.ref q_bends, .ref q_rootAt, .int r5.2.1, .ref q_pile, .ref q_lastAt, .ref q_nextAt, .ref q_hasBend, .int v_justMany, .ref q_isMet, .ref q_queue, .ref q_sums, .ref q_kept, .ref q_isKept, .ref q_copies, .ref q_shelfMany, .ref q_shelfSort, .ref q_shelfHas])), (q_rootAt, .inl (cJ, 4, .inr (.inl r5.2.2))), (q_isMet, .inl (cZ, 20736, .inl v_isMet)), (q_queue, .inl (cI, 20736, .inl v_queue))]) (wc2 := [(q, .inr (9, [.ref q_bends, .ref q_rootAt, .int r5.2.1, .ref q_pile, .ref q_lastAt, .ref q_nextAt, .ref q_hasBend, .int v_justMany, .ref q_isMet, .ref q_queue, .ref q_sums, .ref q_kept, .ref q_isKept, .ref q_copies, .ref q_shelfMany, .ref q_shelfSort, .ref q_shelfHas])), (q_rootAt, .inl (cJ, 4, .inr (.inl r5.2.2))), (q_isMet, .inl (cZ, 20736, .inl r7.2.1)), (q_queue, .inl (cI, 20736, .inl r7.2.2))]) (wr := [(q_bends, .inl (cJ, 4, .inr (.inl v_bends))), (q_pile, .inl (cJ, 10400, .inr (.inl v_pile))), (q_lastAt, .inl (cI, 2600, .inl v_lastAt)), (q_nextAt, .inl (cI, 2600, .inl v_nextAt)), (q_hasBend, .inl (cZ, 5001, .inl v_hasBend))]) (ws2 := [(q, .inr (9, [.ref q_bends, .ref q_rootAt, .int r5.2.1, .ref q_pile, .ref q_lastAt, .ref q_nextAt, .ref q_hasBend, .int v_justMany, .ref q_isMet, .ref q_queue, .ref q_sums, .ref q_kept, .ref q_isKept, .ref q_copies, .ref q_shelfMany, .ref q_shelfSort, .ref q_shelfHas])), (q_bends, .inl (cJ, 4, .inr (.inl v_bends))), (q_rootAt, .inl (cJ, 4, .inr (.inl r5.2.2))), (q_pile, .inl (cJ, 10400, .inr (.inl v_pile))), (q_lastAt, .inl (cI, 2600, .inl v_lastAt)), (q_nextAt, .inl (cI, 2600, .inl v_nextAt)), (q_hasBend, .inl (cZ, 5001, .inl v_hasBend)), (q_isMet, .inl (cZ, 20736, .inl r7.2.1)), (q_queue, .inl (cI, 20736, .inl r7.2.2))]) (r := r7.1) (va_runV (As := [.int (12 : Int32)]) (rest := []) ⟨hx, hb, hml, hown, hts⟩ (kX9_findRemainders (l := l) (G := G) (cI := cI) (cJ := cJ) (cZ := cZ) (cS := cS) (cG := cG) n q q_bends q_rootAt q_pile q_lastAt q_nextAt q_hasBend q_isMet q_queue q_sums q_kept q_isKept q_copies q_shelfMany q_shelfSort q_shelfHas r5.2.1 v_justMany r5.2.2 v_isMet v_queue (12 : Int32) _ hc7 _) (cwV 1 hts gX9_gap_X9_findRemainders rfl rfl rfl (by decide +kernel) ⟨Nat.le_of_ble_eq_true rfl, Nat.le_of_ble_eq_true rfl⟩) (cut_V hK hP hD [0, 2, 7, 8] rfl rfl (ci := 9) (q0 := 0) rfl rfl) rfl rfl hl.1 rfl (lv_room (Nat.le_of_ble_eq_true rfl)) dX9_gap_38 ⟨Nat.zero_le _, Nat.zero_le _⟩) hP hD hS hA [0, 2, 7, 8] [1, 3, 4, 5, 6] [5, 0, 6, 1, 2, 3, 4, 7, 8] rfl rfl rfl rfl rfl rfl (fun H locs hP hD hS => ?_)
        refine lv_istore_n (lv' := [(3, .int r7.1), (0, .ref q), (1, .int p1), (2, .int p2)]) hx hb dX9_gap_41 rfl hl (by decide) rfl (fun ls hl => ?_)
        refine lv_aload_n hx hb dX9_gap_42 rfl (lv_at hl 1 rfl) ?_
        refine lv_iload_n hx hb dX9_gap_43 rfl (lv_at hl 2 rfl) ?_
        refine lv_ldc2 (v := (-9223372036854775808)) hx hb hown (hts (.constantLong RX9 80 (-9223372036854775808)) (List.mem_of_getElem? (i := 1) rfl)) dX9_gap_44 ?_
        obtain ⟨r8, hc8, hf⟩ := ob_s hf
        refine bk_i (wc := [(q, .inr (9, [.ref q_bends, .ref q_rootAt, .int r5.2.1, .ref q_pile, .ref q_lastAt, .ref q_nextAt, .ref q_hasBend, .int v_justMany, .ref q_isMet, .ref q_queue, .ref q_sums, .ref q_kept, .ref q_isKept, .ref q_copies, .ref q_shelfMany, .ref q_shelfSort, .ref q_shelfHas])), (q_rootAt, .inl (cJ, 4, .inr (.inl r5.2.2))), (q_pile, .inl (cJ, 10400, .inr (.inl v_pile))), (q_lastAt, .inl (cI, 2600, .inl v_lastAt)), (q_nextAt, .inl (cI, 2600, .inl v_nextAt)), (q_hasBend, .inl (cZ, 5001, .inl v_hasBend))]) (wc2 := [(q, .inr (9, [.ref q_bends, .ref q_rootAt, .int r5.2.1, .ref q_pile, .ref q_lastAt, .ref q_nextAt, .ref q_hasBend, .int r8.2.1, .ref q_isMet, .ref q_queue, .ref q_sums, .ref q_kept, .ref q_isKept, .ref q_copies, .ref q_shelfMany, .ref q_shelfSort, .ref q_shelfHas])), (q_rootAt, .inl (cJ, 4, .inr (.inl r5.2.2))), (q_pile, .inl (cJ, 10400, .inr (.inl r8.2.2.1))), (q_lastAt, .inl (cI, 2600, .inl r8.2.2.2.1)), (q_nextAt, .inl (cI, 2600, .inl r8.2.2.2.2.1)), (q_hasBend, .inl (cZ, 5001, .inl r8.2.2.2.2.2))]) (wr := [(q_bends, .inl (cJ, 4, .inr (.inl v_bends))), (q_isMet, .inl (cZ, 20736, .inl r7.2.1)), (q_queue, .inl (cI, 20736, .inl r7.2.2))]) (ws2 := [(q, .inr (9, [.ref q_bends, .ref q_rootAt, .int r5.2.1, .ref q_pile, .ref q_lastAt, .ref q_nextAt, .ref q_hasBend, .int r8.2.1, .ref q_isMet, .ref q_queue, .ref q_sums, .ref q_kept, .ref q_isKept, .ref q_copies, .ref q_shelfMany, .ref q_shelfSort, .ref q_shelfHas])), (q_bends, .inl (cJ, 4, .inr (.inl v_bends))), (q_rootAt, .inl (cJ, 4, .inr (.inl r5.2.2))), (q_pile, .inl (cJ, 10400, .inr (.inl r8.2.2.1))), (q_lastAt, .inl (cI, 2600, .inl r8.2.2.2.1)), (q_nextAt, .inl (cI, 2600, .inl r8.2.2.2.2.1)), (q_hasBend, .inl (cZ, 5001, .inl r8.2.2.2.2.2)), (q_isMet, .inl (cZ, 20736, .inl r7.2.1)), (q_queue, .inl (cI, 20736, .inl r7.2.2))]) (r := r8.1) (va_runV (As := [.int p1, .long (-9223372036854775808 : Int64)]) (rest := []) ⟨hx, hb, hml, hown, hts⟩ (kX9_allUpTo (l := l) (G := G) (cI := cI) (cJ := cJ) (cZ := cZ) (cS := cS) (cG := cG) n q q_bends q_rootAt q_pile q_lastAt q_nextAt q_hasBend q_isMet q_queue q_sums q_kept q_isKept q_copies q_shelfMany q_shelfSort q_shelfHas r5.2.1 v_justMany r5.2.2 v_pile v_lastAt v_nextAt v_hasBend p1 (-9223372036854775808 : Int64) _ hc8 _) (cwV 2 hts gX9_gap_X9_allUpTo rfl rfl rfl (by decide +kernel) ⟨Nat.le_of_ble_eq_true rfl, Nat.le_of_ble_eq_true rfl⟩) (cut_V hK hP hD [0, 2, 3, 4, 5, 6] rfl rfl (ci := 9) (q0 := 0) rfl rfl) rfl rfl hl.1 rfl (lv_room (Nat.le_of_ble_eq_true rfl)) dX9_gap_47 ⟨Nat.zero_le _, Nat.zero_le _⟩) hP hD hS hA [0, 2, 3, 4, 5, 6] [1, 7, 8] [3, 0, 4, 5, 6, 7, 8, 1, 2] rfl rfl rfl rfl rfl rfl (fun H locs hP hD hS => ?_)
        refine lv_pop hx hb dX9_gap_50 rfl ?_
        refine lv_iconst (v := 0) hx hb dX9_gap_51 (by decide) ?_
        refine lv_istore (lv' := [(4, .int (0 : Int32)), (3, .int r7.1), (0, .ref q), (1, .int p1), (2, .int p2)]) hx hb dX9_gap_52 hl (by decide) rfl (fun ls hl => ?_)
        refine lv_iconst (v := 1) hx hb dX9_gap_54 (by decide) ?_
        refine lv_istore (lv' := [(5, .int (1 : Int32)), (4, .int (0 : Int32)), (3, .int r7.1), (0, .ref q), (1, .int p1), (2, .int p2)]) hx hb dX9_gap_55 hl (by decide) rfl (fun ls hl => ?_)
        refine hL57 p1 p2 r7.1 r5.2.1 r8.2.1 r5.2.2 r8.2.2.1 r8.2.2.2.1 r8.2.2.2.2.1 r8.2.2.2.2.2 r7.2.1 r7.2.2 _ (fun y4_14 y5_14 H locs ls hf hP hD hS hl => ?_) n (0 : Int32) (1 : Int32) _ _ _ hf hP hD hS (lv_sub hl [3, 4, 5, 2, 1, 0] rfl)
        have hP : va_P G vwCl [(q, .inr (9, [.ref q_bends, .ref q_rootAt, .int r5.2.1, .ref q_pile, .ref q_lastAt, .ref q_nextAt, .ref q_hasBend, .int r8.2.1, .ref q_isMet, .ref q_queue, .ref q_sums, .ref q_kept, .ref q_isKept, .ref q_copies, .ref q_shelfMany, .ref q_shelfSort, .ref q_shelfHas])), (q_bends, .inl (cJ, 4, .inr (.inl v_bends))), (q_rootAt, .inl (cJ, 4, .inr (.inl r5.2.2))), (q_pile, .inl (cJ, 10400, .inr (.inl r8.2.2.1))), (q_lastAt, .inl (cI, 2600, .inl r8.2.2.2.1)), (q_nextAt, .inl (cI, 2600, .inl r8.2.2.2.2.1)), (q_hasBend, .inl (cZ, 5001, .inl r8.2.2.2.2.2)), (q_isMet, .inl (cZ, 20736, .inl r7.2.1)), (q_queue, .inl (cI, 20736, .inl r7.2.2))] H := hP
        have hD : va_D A [(q, .inr (9, [.ref q_bends, .ref q_rootAt, .int r5.2.1, .ref q_pile, .ref q_lastAt, .ref q_nextAt, .ref q_hasBend, .int r8.2.1, .ref q_isMet, .ref q_queue, .ref q_sums, .ref q_kept, .ref q_isKept, .ref q_copies, .ref q_shelfMany, .ref q_shelfSort, .ref q_shelfHas])), (q_bends, .inl (cJ, 4, .inr (.inl v_bends))), (q_rootAt, .inl (cJ, 4, .inr (.inl r5.2.2))), (q_pile, .inl (cJ, 10400, .inr (.inl r8.2.2.1))), (q_lastAt, .inl (cI, 2600, .inl r8.2.2.2.1)), (q_nextAt, .inl (cI, 2600, .inl r8.2.2.2.2.1)), (q_hasBend, .inl (cZ, 5001, .inl r8.2.2.2.2.2)), (q_isMet, .inl (cZ, 20736, .inl r7.2.1)), (q_queue, .inl (cI, 20736, .inl r7.2.2))] := hD
        refine lv_iload_n hx hb dX9_gap_104 rfl (lv_at hl 2 rfl) ?_
        refine lv_if_ge (tgt := 113) hx hb dX9_gap_105 (by decide) (fun c15 => ?_) (fun c15 => ?_)
        · have hf := if_s hf c15
          refine lv_bipush (v := (-9)) hx hb dX9_gap_113 (by decide) ?_
          cases hf
          rw [← hQ]
          exact rt_i hx hb hr hlk hP hD hS rfl dX9_gap_115
        · have hf := if_n hf c15
          refine lv_iload hx hb dX9_gap_108 (lv_at hl 4 rfl) ?_
          refine lv_goto (tgt := 115) hx hb dX9_gap_110 (by decide) ?_
          cases hf
          rw [← hQ]
          exact rt_i hx hb hr hlk hP hD hS rfl dX9_gap_115
      · have hf := if_s hf c6
        refine lv_bipush (v := (-3)) hx hb dX9_gap_32 (by decide) ?_
        cases hf
        rw [← hQ]
        exact rt_i hx hb hr hlk hP hD hS rfl dX9_gap_34
    · have hf := if_s hf c4
      refine lv_bipush (v := (-2)) hx hb dX9_gap_22 (by decide) ?_
      cases hf
      rw [← hQ]
      exact rt_i hx hb hr hlk hP hD hS rfl dX9_gap_24
def pX9_isWord_L18 : Nat → Int32 → Int32 → Int32 → (Int32 → Int32 → Int32 → Option (Int32)) → Option (Int32)
  | 0, _, _, _, _ => none
  | n + 1, x1, x2, x3, k => if x3 ≤ 0 then k x1 x2 x3 else if x1 = 0 then pX9_isWord_L18 n (0 : Int32) (x3 - x3 / (10 : Int32) * (10 : Int32)) (x3 / (10 : Int32)) k else Option.bind (pX9_isPlace (x3 - x3 / (10 : Int32) * (10 : Int32))) (fun r5 => if r5 = 0 then pX9_isWord_L18 n (0 : Int32) (x3 - x3 / (10 : Int32) * (10 : Int32)) (x3 / (10 : Int32)) k else if (x3 - x3 / (10 : Int32) * (10 : Int32)) = x2 then pX9_isWord_L18 n (0 : Int32) (x3 - x3 / (10 : Int32) * (10 : Int32)) (x3 / (10 : Int32)) k else pX9_isWord_L18 n (1 : Int32) (x3 - x3 / (10 : Int32) * (10 : Int32)) (x3 / (10 : Int32)) k)
def pX9_isWord (n : Nat) (p0 : Int32) : Option (Int32) := if p0 < 0 then some (0 : Int32) else if p0 ≤ (444444444 : Int32) then pX9_isWord_L18 n (1 : Int32) (0 : Int32) p0 (fun (y1_8 : Int32) (y2_8 : Int32) (y3_8 : Int32) => ck (y1_8 = 0 ∨ y1_8 = 1) (some y1_8)) else some (0 : Int32)
def rmX9_isWord : Room := { frames := 2, cells := 0, slots := 0, locals := 42 }
set_option maxRecDepth 100000 in
set_option maxHeartbeats 4000000 in
theorem kX9_isWord {l : Launch} {G : va_G} {cI cJ cZ cS cG : ClassId} (n : Nat) (p0 : Int32) (R : Int32) (hf : pX9_isWord n p0 = some R) : CTi l yX9_isWord wsX9_isWord rmX9_isWord G cI cJ cZ cS cG [.int p0] [] [] R := by
  refine Met.ofE (Qc := fun A => QRi G A [] R) (cc := cX9_isWord) (nL := 5) (ret := some .boolean) (plainFor_of_name (by decide +kernel)) rfl (Nat.le_of_ble_eq_true rfl) ?_
  intro p e s m below meth c A ls hx hb hml hr hlk hts hown hK hA hP hD hS hl
  have hown : s.vm.findClass RX9 = some m.cls := hown
  have hl : lv_has ls 5 [(0, .int p0)] := hl
  generalize hQ : MQ below (QRi G A [] R) ([.int p0] : List Value).toArray s 0 0 A = QQ
  unfold pX9_isWord at hf
  have hL18 : ∀ (x0 : Int32) (k : Int32 → Int32 → Int32 → Option (Int32)), (∀ (x1 : Int32) (x2 : Int32) (x3 : Int32) (H : Heap) (locs : List Loc) (ls : Array Slot), k x1 x2 x3 = some R → va_P G vwCl [] H → va_D A [] → va_S A s.heap H locs → lv_has ls 5 [(0, .int x0), (1, .int x1), (2, .int x2), (3, .int x3)] → W p l e rmX9_isWord s m ([.int p0] : List Value).toArray below meth c H locs 0 0 QQ (F0 m 63 ls [])) → ∀ (n : Nat) (x1 : Int32) (x2 : Int32) (x3 : Int32) (H : Heap) (locs : List Loc) (ls : Array Slot), pX9_isWord_L18 n x1 x2 x3 k = some R → va_P G vwCl [] H → va_D A [] → va_S A s.heap H locs → lv_has ls 5 [(0, .int x0), (1, .int x1), (2, .int x2), (3, .int x3)] → W p l e rmX9_isWord s m ([.int p0] : List Value).toArray below meth c H locs 0 0 QQ (F0 m 18 ls []) := by
    intro x0 k hk n
    induction n with
    | zero =>
      intro x1 x2 x3 H locs ls hf
      cases hf
    | succ n ih =>
      intro x1 x2 x3 H locs ls hf hP hD hS hl
      unfold pX9_isWord_L18 at hf
      refine lv_iload_n hx hb dX9_isWord_18 rfl (lv_at hl 3 rfl) ?_
      refine lv_if_le (tgt := 63) hx hb dX9_isWord_19 (by decide) (fun c3 => ?_) (fun c3 => ?_)
      · have hf := if_s hf c3
        exact hk x1 x2 x3 _ _ _ hf hP hD hS (lv_sub hl [0, 1, 2, 3] rfl)
      · have hf := if_n hf c3
        refine lv_iload_n hx hb dX9_isWord_22 rfl (lv_at hl 3 rfl) ?_
        refine lv_bipush (v := 10) hx hb dX9_isWord_23 (by decide) ?_
        refine lv_irem hx hb dX9_isWord_25 (by decide) ?_
        refine lv_istore (lv' := [(4, .int (x3 - x3 / (10 : Int32) * (10 : Int32))), (0, .int x0), (1, .int x1), (2, .int x2), (3, .int x3)]) hx hb dX9_isWord_26 hl (by decide) rfl (fun ls hl => ?_)
        refine lv_iload_n hx hb dX9_isWord_28 rfl (lv_at hl 2 rfl) ?_
        refine lv_if_eq (tgt := 50) hx hb dX9_isWord_29 (by decide) (fun c4 => ?_) (fun c4 => ?_)
        · have hf := if_s hf c4
          refine lv_iconst (v := 0) hx hb dX9_isWord_50 (by decide) ?_
          refine lv_istore_n (lv' := [(1, .int (0 : Int32)), (4, .int (x3 - x3 / (10 : Int32) * (10 : Int32))), (0, .int x0), (2, .int x2), (3, .int x3)]) hx hb dX9_isWord_51 rfl hl (by decide) rfl (fun ls hl => ?_)
          refine lv_iload hx hb dX9_isWord_52 (lv_at hl 1 rfl) ?_
          refine lv_istore_n (lv' := [(2, .int (x3 - x3 / (10 : Int32) * (10 : Int32))), (1, .int (0 : Int32)), (4, .int (x3 - x3 / (10 : Int32) * (10 : Int32))), (0, .int x0), (3, .int x3)]) hx hb dX9_isWord_54 rfl hl (by decide) rfl (fun ls hl => ?_)
          refine lv_iload_n hx hb dX9_isWord_55 rfl (lv_at hl 4 rfl) ?_
          refine lv_bipush (v := 10) hx hb dX9_isWord_56 (by decide) ?_
          refine lv_idiv hx hb dX9_isWord_58 (by decide) ?_
          refine lv_istore_n (lv' := [(3, .int (x3 / (10 : Int32))), (2, .int (x3 - x3 / (10 : Int32) * (10 : Int32))), (1, .int (0 : Int32)), (4, .int (x3 - x3 / (10 : Int32) * (10 : Int32))), (0, .int x0)]) hx hb dX9_isWord_59 rfl hl (by decide) rfl (fun ls hl => ?_)
          refine lv_goto (tgt := 18) hx hb dX9_isWord_60 (by decide) ?_
          exact ih (0 : Int32) (x3 - x3 / (10 : Int32) * (10 : Int32)) (x3 / (10 : Int32)) _ _ _ hf hP hD hS (lv_sub hl [4, 2, 1, 0] rfl)
        · have hf := if_n hf c4
          refine lv_iload hx hb dX9_isWord_32 (lv_at hl 0 rfl) ?_
          obtain ⟨r5, hc5, hf⟩ := ob_s hf
          refine bk_i (wc := []) (wc2 := []) (wr := []) (ws2 := []) (r := r5) (va_runS (As := [.int (x3 - x3 / (10 : Int32) * (10 : Int32))]) (rest := []) ⟨hx, hb, hml, hown, hts⟩ (kX9_isPlace (l := l) (G := G) (cI := cI) (cJ := cJ) (cZ := cZ) (cS := cS) (cG := cG) (x3 - x3 / (10 : Int32) * (10 : Int32)) _ hc5 _) (va_cwS 1 hts gX9_isWord_X9_isPlace rfl rfl rfl (by decide +kernel) ⟨Nat.le_of_ble_eq_true rfl, Nat.le_of_ble_eq_true rfl⟩) (cut_S hK hP hD [] rfl rfl) rfl rfl hl.1 rfl (lv_room (Nat.le_of_ble_eq_true rfl)) dX9_isWord_34 ⟨Nat.zero_le _, Nat.zero_le _⟩) hP hD hS hA [] [] [] rfl rfl rfl rfl rfl rfl (fun H locs hP hD hS => ?_)
          refine lv_if_eq (tgt := 50) hx hb dX9_isWord_37 (by decide) (fun c6 => ?_) (fun c6 => ?_)
          · have hf := if_s hf c6
            refine lv_iconst (v := 0) hx hb dX9_isWord_50 (by decide) ?_
            refine lv_istore_n (lv' := [(1, .int (0 : Int32)), (4, .int (x3 - x3 / (10 : Int32) * (10 : Int32))), (0, .int x0), (2, .int x2), (3, .int x3)]) hx hb dX9_isWord_51 rfl hl (by decide) rfl (fun ls hl => ?_)
            refine lv_iload hx hb dX9_isWord_52 (lv_at hl 1 rfl) ?_
            refine lv_istore_n (lv' := [(2, .int (x3 - x3 / (10 : Int32) * (10 : Int32))), (1, .int (0 : Int32)), (4, .int (x3 - x3 / (10 : Int32) * (10 : Int32))), (0, .int x0), (3, .int x3)]) hx hb dX9_isWord_54 rfl hl (by decide) rfl (fun ls hl => ?_)
            refine lv_iload_n hx hb dX9_isWord_55 rfl (lv_at hl 4 rfl) ?_
            refine lv_bipush (v := 10) hx hb dX9_isWord_56 (by decide) ?_
            refine lv_idiv hx hb dX9_isWord_58 (by decide) ?_
            refine lv_istore_n (lv' := [(3, .int (x3 / (10 : Int32))), (2, .int (x3 - x3 / (10 : Int32) * (10 : Int32))), (1, .int (0 : Int32)), (4, .int (x3 - x3 / (10 : Int32) * (10 : Int32))), (0, .int x0)]) hx hb dX9_isWord_59 rfl hl (by decide) rfl (fun ls hl => ?_)
            refine lv_goto (tgt := 18) hx hb dX9_isWord_60 (by decide) ?_
            exact ih (0 : Int32) (x3 - x3 / (10 : Int32) * (10 : Int32)) (x3 / (10 : Int32)) _ _ _ hf hP hD hS (lv_sub hl [4, 2, 1, 0] rfl)
          · have hf := if_n hf c6
            refine lv_iload hx hb dX9_isWord_40 (lv_at hl 0 rfl) ?_
            refine lv_iload_n hx hb dX9_isWord_42 rfl (lv_at hl 3 rfl) ?_
            refine lv_icmp_eq (tgt := 50) hx hb dX9_isWord_43 (by decide) (fun c7 => ?_) (fun c7 => ?_)
            · have hf := if_s hf c7
              refine lv_iconst (v := 0) hx hb dX9_isWord_50 (by decide) ?_
              refine lv_istore_n (lv' := [(1, .int (0 : Int32)), (4, .int (x3 - x3 / (10 : Int32) * (10 : Int32))), (0, .int x0), (2, .int x2), (3, .int x3)]) hx hb dX9_isWord_51 rfl hl (by decide) rfl (fun ls hl => ?_)
              refine lv_iload hx hb dX9_isWord_52 (lv_at hl 1 rfl) ?_
              refine lv_istore_n (lv' := [(2, .int (x3 - x3 / (10 : Int32) * (10 : Int32))), (1, .int (0 : Int32)), (4, .int (x3 - x3 / (10 : Int32) * (10 : Int32))), (0, .int x0), (3, .int x3)]) hx hb dX9_isWord_54 rfl hl (by decide) rfl (fun ls hl => ?_)
              refine lv_iload_n hx hb dX9_isWord_55 rfl (lv_at hl 4 rfl) ?_
              refine lv_bipush (v := 10) hx hb dX9_isWord_56 (by decide) ?_
              refine lv_idiv hx hb dX9_isWord_58 (by decide) ?_
              refine lv_istore_n (lv' := [(3, .int (x3 / (10 : Int32))), (2, .int (x3 - x3 / (10 : Int32) * (10 : Int32))), (1, .int (0 : Int32)), (4, .int (x3 - x3 / (10 : Int32) * (10 : Int32))), (0, .int x0)]) hx hb dX9_isWord_59 rfl hl (by decide) rfl (fun ls hl => ?_)
              refine lv_goto (tgt := 18) hx hb dX9_isWord_60 (by decide) ?_
              exact ih (0 : Int32) (x3 - x3 / (10 : Int32) * (10 : Int32)) (x3 / (10 : Int32)) _ _ _ hf hP hD hS (lv_sub hl [4, 2, 1, 0] rfl)
            · have hf := if_n hf c7
              refine lv_iconst (v := 1) hx hb dX9_isWord_46 (by decide) ?_
              refine lv_goto (tgt := 51) hx hb dX9_isWord_47 (by decide) ?_
              refine lv_istore_n (lv' := [(1, .int (1 : Int32)), (4, .int (x3 - x3 / (10 : Int32) * (10 : Int32))), (0, .int x0), (2, .int x2), (3, .int x3)]) hx hb dX9_isWord_51 rfl hl (by decide) rfl (fun ls hl => ?_)
              refine lv_iload hx hb dX9_isWord_52 (lv_at hl 1 rfl) ?_
              refine lv_istore_n (lv' := [(2, .int (x3 - x3 / (10 : Int32) * (10 : Int32))), (1, .int (1 : Int32)), (4, .int (x3 - x3 / (10 : Int32) * (10 : Int32))), (0, .int x0), (3, .int x3)]) hx hb dX9_isWord_54 rfl hl (by decide) rfl (fun ls hl => ?_)
              refine lv_iload_n hx hb dX9_isWord_55 rfl (lv_at hl 4 rfl) ?_
              refine lv_bipush (v := 10) hx hb dX9_isWord_56 (by decide) ?_
              refine lv_idiv hx hb dX9_isWord_58 (by decide) ?_
              refine lv_istore_n (lv' := [(3, .int (x3 / (10 : Int32))), (2, .int (x3 - x3 / (10 : Int32) * (10 : Int32))), (1, .int (1 : Int32)), (4, .int (x3 - x3 / (10 : Int32) * (10 : Int32))), (0, .int x0)]) hx hb dX9_isWord_59 rfl hl (by decide) rfl (fun ls hl => ?_)
              refine lv_goto (tgt := 18) hx hb dX9_isWord_60 (by decide) ?_
              exact ih (1 : Int32) (x3 - x3 / (10 : Int32) * (10 : Int32)) (x3 / (10 : Int32)) _ _ _ hf hP hD hS (lv_sub hl [4, 2, 1, 0] rfl)
  refine lv_iload_n hx hb dX9_isWord_0 rfl (lv_at hl 0 rfl) ?_
  refine lv_if_lt (tgt := 10) hx hb dX9_isWord_1 (by decide) (fun c1 => ?_) (fun c1 => ?_)
  · have hf := if_s hf c1
    refine lv_iconst (v := 0) hx hb dX9_isWord_10 (by decide) ?_
    cases hf
    rw [← hQ]
    exact rt_z hx hb hr hlk rfl hP hD hS rfl dX9_isWord_11
  · have hf := if_n hf c1
    refine lv_iload_n hx hb dX9_isWord_4 rfl (lv_at hl 0 rfl) ?_
    refine lv_ldc (v := 444444444) hx hb hown (hts (.constant RX9 149 (444444444)) (List.mem_of_getElem? (i := 1) rfl)) dX9_isWord_5 ?_
    refine lv_icmp_le (tgt := 12) hx hb dX9_isWord_7 (by decide) (fun c2 => ?_) (fun c2 => ?_)
    · have hf := if_s hf c2
      refine lv_iconst (v := 1) hx hb dX9_isWord_12 (by decide) ?_
      refine lv_istore_n (lv' := [(1, .int (1 : Int32)), (0, .int p0)]) hx hb dX9_isWord_13 rfl hl (by decide) rfl (fun ls hl => ?_)
      refine lv_iconst (v := 0) hx hb dX9_isWord_14 (by decide) ?_
      refine lv_istore_n (lv' := [(2, .int (0 : Int32)), (1, .int (1 : Int32)), (0, .int p0)]) hx hb dX9_isWord_15 rfl hl (by decide) rfl (fun ls hl => ?_)
      refine lv_iload_n hx hb dX9_isWord_16 rfl (lv_at hl 2 rfl) ?_
      refine lv_istore_n (lv' := [(3, .int p0), (2, .int (0 : Int32)), (1, .int (1 : Int32)), (0, .int p0)]) hx hb dX9_isWord_17 rfl hl (by decide) rfl (fun ls hl => ?_)
      refine hL18 p0 _ (fun y1_8 y2_8 y3_8 H locs ls hf hP hD hS hl => ?_) n (1 : Int32) (0 : Int32) p0 _ _ _ hf hP hD hS (lv_sub hl [3, 2, 1, 0] rfl)
      have hP : va_P G vwCl [] H := hP
      have hD : va_D A [] := hD
      refine lv_iload_n hx hb dX9_isWord_63 rfl (lv_at hl 1 rfl) ?_
      obtain ⟨z9, hf⟩ := ck_s hf
      cases hf
      rw [← hQ]
      exact rt_z hx hb hr hlk (by rcases z9 with q | q <;> rw [q] <;> rfl) hP hD hS rfl dX9_isWord_64
    · have hf := if_n hf c2
      refine lv_iconst (v := 0) hx hb dX9_isWord_10 (by decide) ?_
      cases hf
      rw [← hQ]
      exact rt_z hx hb hr hlk rfl hP hD hS rfl dX9_isWord_11
def pX9_turnsSums_L2 (x1 : Int32) : Nat → Int32 → (Nat → Int64) → (Int32 → (Nat → Int64) → Option ((Nat → Int64))) → Option ((Nat → Int64))
  | 0, _, _, _ => none
  | n + 1, x2, v_sums, k => if (4 : Int32) ≤ x2 then k x2 v_sums else ck (ix x2 16) (ck (ix ((4 : Int32) + x2) 16) (ck (ix ((8 : Int32) + x2) 16) (ck (ix ((12 : Int32) + x2) 16) (ck (ix (((4 : Int32) * x1) + x2) 16) (pX9_turnsSums_L2 x1 n (x2 + (1 : Int32)) (vp_updL v_sums (((4 : Int32) * x1) + x2).toNatClampNeg (((2 : Int64) * (((((v_sums x2.toNatClampNeg) + (v_sums ((4 : Int32) + x2).toNatClampNeg)) + (v_sums ((8 : Int32) + x2).toNatClampNeg)) + (v_sums ((12 : Int32) + x2).toNatClampNeg)) - (v_sums (((4 : Int32) * x1) + x2).toNatClampNeg))) - (v_sums (((4 : Int32) * x1) + x2).toNatClampNeg))) k)))))
def pX9_turnsSums (n : Nat) (v_sums : (Nat → Int64)) (p1 : Int32) : Option ((Nat → Int64)) := pX9_turnsSums_L2 p1 n (0 : Int32) v_sums (fun (y2_7 : Int32) (u7_sums : (Nat → Int64)) => some u7_sums)
def rmX9_turnsSums : Room := { frames := 0, cells := 0, slots := 0, locals := 0 }
theorem hiX9_turnsSums_X9 : ∀ w ∈ u_ws RX9 TX9 17, w ∈ wsX9_turnsSums := fun _ h => List.mem_cons_of_mem _ (List.mem_append_right _ h)
set_option maxRecDepth 100000 in
set_option maxHeartbeats 4000000 in
theorem kX9_turnsSums {l : Launch} {G : va_G} {cI cJ cZ cS cG : ClassId} (n : Nat) (q q_bends q_rootAt q_pile q_lastAt q_nextAt q_hasBend q_isMet q_queue q_sums q_kept q_isKept q_copies q_shelfMany q_shelfSort q_shelfHas : Nat) (v_stepAt : Int32) (v_justMany : Int32) (v_sums : (Nat → Int64)) (p1 : Int32) (R : (Nat → Int64)) (hf : pX9_turnsSums n v_sums p1 = some R) : CTv l yX9_turnsSums wsX9_turnsSums rmX9_turnsSums G cI cJ cZ cS cG [.ref q, .int p1] [(q, .inr (9, [.ref q_bends, .ref q_rootAt, .int v_stepAt, .ref q_pile, .ref q_lastAt, .ref q_nextAt, .ref q_hasBend, .int v_justMany, .ref q_isMet, .ref q_queue, .ref q_sums, .ref q_kept, .ref q_isKept, .ref q_copies, .ref q_shelfMany, .ref q_shelfSort, .ref q_shelfHas])), (q_sums, .inl (cJ, 16, .inr (.inl v_sums)))] [(q, .inr (9, [.ref q_bends, .ref q_rootAt, .int v_stepAt, .ref q_pile, .ref q_lastAt, .ref q_nextAt, .ref q_hasBend, .int v_justMany, .ref q_isMet, .ref q_queue, .ref q_sums, .ref q_kept, .ref q_isKept, .ref q_copies, .ref q_shelfMany, .ref q_shelfSort, .ref q_shelfHas])), (q_sums, .inl (cJ, 16, .inr (.inl R)))] := by
  refine Met.ofE (Qc := fun A => QRv G A [(q, .inr (9, [.ref q_bends, .ref q_rootAt, .int v_stepAt, .ref q_pile, .ref q_lastAt, .ref q_nextAt, .ref q_hasBend, .int v_justMany, .ref q_isMet, .ref q_queue, .ref q_sums, .ref q_kept, .ref q_isKept, .ref q_copies, .ref q_shelfMany, .ref q_shelfSort, .ref q_shelfHas])), (q_sums, .inl (cJ, 16, .inr (.inl R)))]) (cc := cX9_turnsSums) (nL := 5) (ret := none) (plainFor_of_name (by decide +kernel)) rfl (Nat.le_of_ble_eq_true rfl) ?_
  intro p e s m below meth c A ls hx hb hml hr hlk hts hown hK hA hP hD hS hl
  have hown : s.vm.findClass RX9 = some m.cls := hown
  have hl : lv_has ls 5 [(0, .ref q), (1, .int p1)] := hl
  generalize hQ : MQ below (QRv G A [(q, .inr (9, [.ref q_bends, .ref q_rootAt, .int v_stepAt, .ref q_pile, .ref q_lastAt, .ref q_nextAt, .ref q_hasBend, .int v_justMany, .ref q_isMet, .ref q_queue, .ref q_sums, .ref q_kept, .ref q_isKept, .ref q_copies, .ref q_shelfMany, .ref q_shelfSort, .ref q_shelfHas])), (q_sums, .inl (cJ, 16, .inr (.inl R)))]) ([.ref q, .int p1] : List Value).toArray s 0 0 A = QQ
  unfold pX9_turnsSums at hf
  have hL2 : ∀ (x1 : Int32) (k : Int32 → (Nat → Int64) → Option ((Nat → Int64))), (∀ (x2 : Int32) (v_sums : (Nat → Int64)) (H : Heap) (locs : List Loc) (ls : Array Slot), k x2 v_sums = some R → va_P G vwCl [(q, .inr (9, [.ref q_bends, .ref q_rootAt, .int v_stepAt, .ref q_pile, .ref q_lastAt, .ref q_nextAt, .ref q_hasBend, .int v_justMany, .ref q_isMet, .ref q_queue, .ref q_sums, .ref q_kept, .ref q_isKept, .ref q_copies, .ref q_shelfMany, .ref q_shelfSort, .ref q_shelfHas])), (q_sums, .inl (cJ, 16, .inr (.inl v_sums)))] H → va_D A [(q, .inr (9, [.ref q_bends, .ref q_rootAt, .int v_stepAt, .ref q_pile, .ref q_lastAt, .ref q_nextAt, .ref q_hasBend, .int v_justMany, .ref q_isMet, .ref q_queue, .ref q_sums, .ref q_kept, .ref q_isKept, .ref q_copies, .ref q_shelfMany, .ref q_shelfSort, .ref q_shelfHas])), (q_sums, .inl (cJ, 16, .inr (.inl v_sums)))] → va_S A s.heap H locs → lv_has ls 5 [(0, .ref q), (1, .int x1), (2, .int x2)] → W p l e rmX9_turnsSums s m ([.ref q, .int p1] : List Value).toArray below meth c H locs 0 0 QQ (F0 m 86 ls [])) → ∀ (n : Nat) (x2 : Int32) (v_sums : (Nat → Int64)) (H : Heap) (locs : List Loc) (ls : Array Slot), pX9_turnsSums_L2 x1 n x2 v_sums k = some R → va_P G vwCl [(q, .inr (9, [.ref q_bends, .ref q_rootAt, .int v_stepAt, .ref q_pile, .ref q_lastAt, .ref q_nextAt, .ref q_hasBend, .int v_justMany, .ref q_isMet, .ref q_queue, .ref q_sums, .ref q_kept, .ref q_isKept, .ref q_copies, .ref q_shelfMany, .ref q_shelfSort, .ref q_shelfHas])), (q_sums, .inl (cJ, 16, .inr (.inl v_sums)))] H → va_D A [(q, .inr (9, [.ref q_bends, .ref q_rootAt, .int v_stepAt, .ref q_pile, .ref q_lastAt, .ref q_nextAt, .ref q_hasBend, .int v_justMany, .ref q_isMet, .ref q_queue, .ref q_sums, .ref q_kept, .ref q_isKept, .ref q_copies, .ref q_shelfMany, .ref q_shelfSort, .ref q_shelfHas])), (q_sums, .inl (cJ, 16, .inr (.inl v_sums)))] → va_S A s.heap H locs → lv_has ls 5 [(0, .ref q), (1, .int x1), (2, .int x2)] → W p l e rmX9_turnsSums s m ([.ref q, .int p1] : List Value).toArray below meth c H locs 0 0 QQ (F0 m 2 ls []) := by
    intro x1 k hk n
    induction n with
    | zero =>
      intro x2 v_sums H locs ls hf
      cases hf
    | succ n ih =>
      intro x2 v_sums H locs ls hf hP hD hS hl
      unfold pX9_turnsSums_L2 at hf
      refine lv_iload_n hx hb dX9_turnsSums_2 rfl (lv_at hl 2 rfl) ?_
      refine lv_iconst (v := 4) hx hb dX9_turnsSums_3 (by decide) ?_
      refine lv_icmp_ge (tgt := 86) hx hb dX9_turnsSums_4 (by decide) (fun c1 => ?_) (fun c1 => ?_)
      · have hf := if_s hf c1
        exact hk x2 v_sums _ _ _ hf hP hD hS (lv_sub hl [0, 1, 2] rfl)
      · have hf := if_n hf c1
        refine lv_aload_n hx hb dX9_turnsSums_7 rfl (lv_at hl 0 rfl) ?_
        refine va_get (D := G) (ci := 9) (v := .ref q_sums) (C := RX9) (T := TX9) (N := 17) hx hb hts hiX9_turnsSums_X9 hown hK.1 hP 0 rfl rfl 10 (by decide) (hts (.fieldLink RX9 36 "PackedBendsModel" "sums" "[J") (List.mem_of_getElem? (i := 1) rfl)) (fun _ h9 => h9) rfl dX9_turnsSums_8 ?_
        refine lv_iload_n hx hb dX9_turnsSums_11 rfl (lv_at hl 2 rfl) ?_
        obtain ⟨z2, hf⟩ := ck_s hf
        refine va_lald hx hb hK.1 hP 1 1 rfl rfl (vp_in_iff.mpr z2) dX9_turnsSums_12 ?_
        refine lv_aload_n hx hb dX9_turnsSums_13 rfl (lv_at hl 0 rfl) ?_
        refine va_get (D := G) (ci := 9) (v := .ref q_sums) (C := RX9) (T := TX9) (N := 17) hx hb hts hiX9_turnsSums_X9 hown hK.1 hP 0 rfl rfl 10 (by decide) (hts (.fieldLink RX9 36 "PackedBendsModel" "sums" "[J") (List.mem_of_getElem? (i := 1) rfl)) (fun _ h9 => h9) rfl dX9_turnsSums_14 ?_
        refine lv_iconst (v := 4) hx hb dX9_turnsSums_17 (by decide) ?_
        refine lv_iload_n hx hb dX9_turnsSums_18 rfl (lv_at hl 2 rfl) ?_
        refine lv_iadd hx hb dX9_turnsSums_19 ?_
        obtain ⟨z3, hf⟩ := ck_s hf
        refine va_lald hx hb hK.1 hP 1 1 rfl rfl (vp_in_iff.mpr z3) dX9_turnsSums_20 ?_
        refine lv_ladd hx hb dX9_turnsSums_21 ?_
        refine lv_aload_n hx hb dX9_turnsSums_22 rfl (lv_at hl 0 rfl) ?_
        refine va_get (D := G) (ci := 9) (v := .ref q_sums) (C := RX9) (T := TX9) (N := 17) hx hb hts hiX9_turnsSums_X9 hown hK.1 hP 0 rfl rfl 10 (by decide) (hts (.fieldLink RX9 36 "PackedBendsModel" "sums" "[J") (List.mem_of_getElem? (i := 1) rfl)) (fun _ h9 => h9) rfl dX9_turnsSums_23 ?_
        refine lv_bipush (v := 8) hx hb dX9_turnsSums_26 (by decide) ?_
        refine lv_iload_n hx hb dX9_turnsSums_28 rfl (lv_at hl 2 rfl) ?_
        refine lv_iadd hx hb dX9_turnsSums_29 ?_
        obtain ⟨z4, hf⟩ := ck_s hf
        refine va_lald hx hb hK.1 hP 1 1 rfl rfl (vp_in_iff.mpr z4) dX9_turnsSums_30 ?_
        refine lv_ladd hx hb dX9_turnsSums_31 ?_
        refine lv_aload_n hx hb dX9_turnsSums_32 rfl (lv_at hl 0 rfl) ?_
        refine va_get (D := G) (ci := 9) (v := .ref q_sums) (C := RX9) (T := TX9) (N := 17) hx hb hts hiX9_turnsSums_X9 hown hK.1 hP 0 rfl rfl 10 (by decide) (hts (.fieldLink RX9 36 "PackedBendsModel" "sums" "[J") (List.mem_of_getElem? (i := 1) rfl)) (fun _ h9 => h9) rfl dX9_turnsSums_33 ?_
        refine lv_bipush (v := 12) hx hb dX9_turnsSums_36 (by decide) ?_
        refine lv_iload_n hx hb dX9_turnsSums_38 rfl (lv_at hl 2 rfl) ?_
        refine lv_iadd hx hb dX9_turnsSums_39 ?_
        obtain ⟨z5, hf⟩ := ck_s hf
        refine va_lald hx hb hK.1 hP 1 1 rfl rfl (vp_in_iff.mpr z5) dX9_turnsSums_40 ?_
        refine lv_ladd hx hb dX9_turnsSums_41 ?_
        refine lv_lstore_n (lv' := [(3, .long ((((v_sums x2.toNatClampNeg) + (v_sums ((4 : Int32) + x2).toNatClampNeg)) + (v_sums ((8 : Int32) + x2).toNatClampNeg)) + (v_sums ((12 : Int32) + x2).toNatClampNeg))), (0, .ref q), (1, .int x1), (2, .int x2)]) hx hb dX9_turnsSums_42 rfl hl (by decide) rfl (fun ls hl => ?_)
        refine lv_aload_n hx hb dX9_turnsSums_43 rfl (lv_at hl 1 rfl) ?_
        refine va_get (D := G) (ci := 9) (v := .ref q_sums) (C := RX9) (T := TX9) (N := 17) hx hb hts hiX9_turnsSums_X9 hown hK.1 hP 0 rfl rfl 10 (by decide) (hts (.fieldLink RX9 36 "PackedBendsModel" "sums" "[J") (List.mem_of_getElem? (i := 1) rfl)) (fun _ h9 => h9) rfl dX9_turnsSums_44 ?_
        refine lv_iconst (v := 4) hx hb dX9_turnsSums_47 (by decide) ?_
        refine lv_iload_n hx hb dX9_turnsSums_48 rfl (lv_at hl 2 rfl) ?_
        refine lv_imul hx hb dX9_turnsSums_49 ?_
        refine lv_iload_n hx hb dX9_turnsSums_50 rfl (lv_at hl 3 rfl) ?_
        refine lv_iadd hx hb dX9_turnsSums_51 ?_
        refine lv_ldc2 (v := 2) hx hb hown (hts (.constantLong RX9 59 (2)) (List.mem_of_getElem? (i := 2) rfl)) dX9_turnsSums_52 ?_
        refine lv_lload_n hx hb dX9_turnsSums_55 rfl (lv_at hl 0 rfl) ?_
        refine lv_aload_n hx hb dX9_turnsSums_56 rfl (lv_at hl 1 rfl) ?_
        refine va_get (D := G) (ci := 9) (v := .ref q_sums) (C := RX9) (T := TX9) (N := 17) hx hb hts hiX9_turnsSums_X9 hown hK.1 hP 0 rfl rfl 10 (by decide) (hts (.fieldLink RX9 36 "PackedBendsModel" "sums" "[J") (List.mem_of_getElem? (i := 1) rfl)) (fun _ h9 => h9) rfl dX9_turnsSums_57 ?_
        refine lv_iconst (v := 4) hx hb dX9_turnsSums_60 (by decide) ?_
        refine lv_iload_n hx hb dX9_turnsSums_61 rfl (lv_at hl 2 rfl) ?_
        refine lv_imul hx hb dX9_turnsSums_62 ?_
        refine lv_iload_n hx hb dX9_turnsSums_63 rfl (lv_at hl 3 rfl) ?_
        refine lv_iadd hx hb dX9_turnsSums_64 ?_
        obtain ⟨z6, hf⟩ := ck_s hf
        refine va_lald hx hb hK.1 hP 1 1 rfl rfl (vp_in_iff.mpr z6) dX9_turnsSums_65 ?_
        refine lv_lsub hx hb dX9_turnsSums_66 ?_
        refine lv_lmul hx hb dX9_turnsSums_67 ?_
        refine lv_aload_n hx hb dX9_turnsSums_68 rfl (lv_at hl 1 rfl) ?_
        refine va_get (D := G) (ci := 9) (v := .ref q_sums) (C := RX9) (T := TX9) (N := 17) hx hb hts hiX9_turnsSums_X9 hown hK.1 hP 0 rfl rfl 10 (by decide) (hts (.fieldLink RX9 36 "PackedBendsModel" "sums" "[J") (List.mem_of_getElem? (i := 1) rfl)) (fun _ h9 => h9) rfl dX9_turnsSums_69 ?_
        refine lv_iconst (v := 4) hx hb dX9_turnsSums_72 (by decide) ?_
        refine lv_iload_n hx hb dX9_turnsSums_73 rfl (lv_at hl 2 rfl) ?_
        refine lv_imul hx hb dX9_turnsSums_74 ?_
        refine lv_iload_n hx hb dX9_turnsSums_75 rfl (lv_at hl 3 rfl) ?_
        refine lv_iadd hx hb dX9_turnsSums_76 ?_
        refine va_lald hx hb hK.1 hP 1 1 rfl rfl (vp_in_iff.mpr z6) dX9_turnsSums_77 ?_
        refine lv_lsub hx hb dX9_turnsSums_78 ?_
        refine va_last hx hb hK.1 hP hD hS 1 1 rfl rfl (vp_in_iff.mpr z6) dX9_turnsSums_79 (fun H locs hP hD hS => ?_)
        have hP : va_P G vwCl [(q, .inr (9, [.ref q_bends, .ref q_rootAt, .int v_stepAt, .ref q_pile, .ref q_lastAt, .ref q_nextAt, .ref q_hasBend, .int v_justMany, .ref q_isMet, .ref q_queue, .ref q_sums, .ref q_kept, .ref q_isKept, .ref q_copies, .ref q_shelfMany, .ref q_shelfSort, .ref q_shelfHas])), (q_sums, .inl (cJ, 16, .inr (.inl (vp_updL v_sums (((4 : Int32) * x1) + x2).toNatClampNeg (((2 : Int64) * (((((v_sums x2.toNatClampNeg) + (v_sums ((4 : Int32) + x2).toNatClampNeg)) + (v_sums ((8 : Int32) + x2).toNatClampNeg)) + (v_sums ((12 : Int32) + x2).toNatClampNeg)) - (v_sums (((4 : Int32) * x1) + x2).toNatClampNeg))) - (v_sums (((4 : Int32) * x1) + x2).toNatClampNeg))))))] H := hP
        have hD : va_D A [(q, .inr (9, [.ref q_bends, .ref q_rootAt, .int v_stepAt, .ref q_pile, .ref q_lastAt, .ref q_nextAt, .ref q_hasBend, .int v_justMany, .ref q_isMet, .ref q_queue, .ref q_sums, .ref q_kept, .ref q_isKept, .ref q_copies, .ref q_shelfMany, .ref q_shelfSort, .ref q_shelfHas])), (q_sums, .inl (cJ, 16, .inr (.inl (vp_updL v_sums (((4 : Int32) * x1) + x2).toNatClampNeg (((2 : Int64) * (((((v_sums x2.toNatClampNeg) + (v_sums ((4 : Int32) + x2).toNatClampNeg)) + (v_sums ((8 : Int32) + x2).toNatClampNeg)) + (v_sums ((12 : Int32) + x2).toNatClampNeg)) - (v_sums (((4 : Int32) * x1) + x2).toNatClampNeg))) - (v_sums (((4 : Int32) * x1) + x2).toNatClampNeg))))))] := hD
        refine lv_iinc (v := x2 + (1 : Int32)) (lv' := [(2, .int (x2 + (1 : Int32))), (3, .long ((((v_sums x2.toNatClampNeg) + (v_sums ((4 : Int32) + x2).toNatClampNeg)) + (v_sums ((8 : Int32) + x2).toNatClampNeg)) + (v_sums ((12 : Int32) + x2).toNatClampNeg))), (0, .ref q), (1, .int x1)]) hx hb dX9_turnsSums_80 hl (k := 3) rfl rfl (by decide) rfl (fun ls hl => ?_)
        refine lv_goto (tgt := 2) hx hb dX9_turnsSums_83 (by decide) ?_
        exact ih (x2 + (1 : Int32)) (vp_updL v_sums (((4 : Int32) * x1) + x2).toNatClampNeg (((2 : Int64) * (((((v_sums x2.toNatClampNeg) + (v_sums ((4 : Int32) + x2).toNatClampNeg)) + (v_sums ((8 : Int32) + x2).toNatClampNeg)) + (v_sums ((12 : Int32) + x2).toNatClampNeg)) - (v_sums (((4 : Int32) * x1) + x2).toNatClampNeg))) - (v_sums (((4 : Int32) * x1) + x2).toNatClampNeg))) _ _ _ hf hP hD hS (lv_sub hl [2, 3, 0] rfl)
  refine lv_iconst (v := 0) hx hb dX9_turnsSums_0 (by decide) ?_
  refine lv_istore_n (lv' := [(2, .int (0 : Int32)), (0, .ref q), (1, .int p1)]) hx hb dX9_turnsSums_1 rfl hl (by decide) rfl (fun ls hl => ?_)
  refine hL2 p1 _ (fun y2_7 u7_sums H locs ls hf hP hD hS hl => ?_) n (0 : Int32) v_sums _ _ _ hf hP hD hS (lv_sub hl [1, 2, 0] rfl)
  have hP : va_P G vwCl [(q, .inr (9, [.ref q_bends, .ref q_rootAt, .int v_stepAt, .ref q_pile, .ref q_lastAt, .ref q_nextAt, .ref q_hasBend, .int v_justMany, .ref q_isMet, .ref q_queue, .ref q_sums, .ref q_kept, .ref q_isKept, .ref q_copies, .ref q_shelfMany, .ref q_shelfSort, .ref q_shelfHas])), (q_sums, .inl (cJ, 16, .inr (.inl u7_sums)))] H := hP
  have hD : va_D A [(q, .inr (9, [.ref q_bends, .ref q_rootAt, .int v_stepAt, .ref q_pile, .ref q_lastAt, .ref q_nextAt, .ref q_hasBend, .int v_justMany, .ref q_isMet, .ref q_queue, .ref q_sums, .ref q_kept, .ref q_isKept, .ref q_copies, .ref q_shelfMany, .ref q_shelfSort, .ref q_shelfHas])), (q_sums, .inl (cJ, 16, .inr (.inl u7_sums)))] := hD
  cases hf
  rw [← hQ]
  exact rt_v hx hb hr hlk hP hD hS dX9_turnsSums_86
def pX9_laysWord_L2 : Nat → Int32 → (Nat → Int64) → (Int32 → (Nat → Int64) → Option ((Nat → Int64))) → Option ((Nat → Int64))
  | 0, _, _, _ => none
  | n + 1, x2, v_sums, k => if (16 : Int32) ≤ x2 then k x2 v_sums else if (x2 / (4 : Int32)) = (x2 - x2 / (4 : Int32) * (4 : Int32)) then ck (ix x2 16) (pX9_laysWord_L2 n (x2 + (1 : Int32)) (vp_updL v_sums x2.toNatClampNeg (1 : Int64)) k) else ck (ix x2 16) (pX9_laysWord_L2 n (x2 + (1 : Int32)) (vp_updL v_sums x2.toNatClampNeg (0 : Int64)) k)
def pX9_laysWord_L36 (x1 : Int32) : Nat → Int32 → (Int32 → Option ((Nat → Int64))) → Option ((Nat → Int64))
  | 0, _, _ => none
  | n + 1, x2, k => ck (¬ x2 = 0) (if (x1 / x2) ≤ (9 : Int32) then k x2 else pX9_laysWord_L36 x1 n (x2 * (10 : Int32)) k)
def pX9_laysWord_L54 (x1 : Int32) : Nat → Int32 → (Nat → Int64) → (Int32 → (Nat → Int64) → Option ((Nat → Int64))) → Option ((Nat → Int64))
  | 0, _, _, _ => none
  | n + 1, x3, v_sums, k => if x3 ≤ 0 then k x3 v_sums else if x1 ≤ 0 then k x3 v_sums else ck (¬ x3 = 0) (Option.bind (pX9_turnsSums n v_sums (((x1 / x3) - (x1 / x3) / (10 : Int32) * (10 : Int32)) - (1 : Int32))) (fun r12 => pX9_laysWord_L54 x1 n (x3 / (10 : Int32)) r12 k))
def pX9_laysWord (n : Nat) (v_sums : (Nat → Int64)) (p1 : Int32) : Option ((Nat → Int64)) := pX9_laysWord_L2 n (0 : Int32) v_sums (fun (y2_5 : Int32) (u5_sums : (Nat → Int64)) => pX9_laysWord_L36 p1 n (1 : Int32) (fun (y2_8 : Int32) => pX9_laysWord_L54 p1 n y2_8 u5_sums (fun (y3_13 : Int32) (u13_sums : (Nat → Int64)) => some u13_sums)))
def rmX9_laysWord : Room := { frames := 1, cells := 0, slots := 0, locals := 24 }
theorem hiX9_laysWord_X9 : ∀ w ∈ u_ws RX9 TX9 17, w ∈ wsX9_laysWord := fun _ h => List.mem_cons_of_mem _ (List.mem_append_right _ h)
set_option maxRecDepth 100000 in
set_option maxHeartbeats 4000000 in
theorem kX9_laysWord {l : Launch} {G : va_G} {cI cJ cZ cS cG : ClassId} (n : Nat) (q q_bends q_rootAt q_pile q_lastAt q_nextAt q_hasBend q_isMet q_queue q_sums q_kept q_isKept q_copies q_shelfMany q_shelfSort q_shelfHas : Nat) (v_stepAt : Int32) (v_justMany : Int32) (v_sums : (Nat → Int64)) (p1 : Int32) (R : (Nat → Int64)) (hf : pX9_laysWord n v_sums p1 = some R) : CTv l yX9_laysWord wsX9_laysWord rmX9_laysWord G cI cJ cZ cS cG [.ref q, .int p1] [(q, .inr (9, [.ref q_bends, .ref q_rootAt, .int v_stepAt, .ref q_pile, .ref q_lastAt, .ref q_nextAt, .ref q_hasBend, .int v_justMany, .ref q_isMet, .ref q_queue, .ref q_sums, .ref q_kept, .ref q_isKept, .ref q_copies, .ref q_shelfMany, .ref q_shelfSort, .ref q_shelfHas])), (q_sums, .inl (cJ, 16, .inr (.inl v_sums)))] [(q, .inr (9, [.ref q_bends, .ref q_rootAt, .int v_stepAt, .ref q_pile, .ref q_lastAt, .ref q_nextAt, .ref q_hasBend, .int v_justMany, .ref q_isMet, .ref q_queue, .ref q_sums, .ref q_kept, .ref q_isKept, .ref q_copies, .ref q_shelfMany, .ref q_shelfSort, .ref q_shelfHas])), (q_sums, .inl (cJ, 16, .inr (.inl R)))] := by
  refine Met.ofE (Qc := fun A => QRv G A [(q, .inr (9, [.ref q_bends, .ref q_rootAt, .int v_stepAt, .ref q_pile, .ref q_lastAt, .ref q_nextAt, .ref q_hasBend, .int v_justMany, .ref q_isMet, .ref q_queue, .ref q_sums, .ref q_kept, .ref q_isKept, .ref q_copies, .ref q_shelfMany, .ref q_shelfSort, .ref q_shelfHas])), (q_sums, .inl (cJ, 16, .inr (.inl R)))]) (cc := cX9_laysWord) (nL := 4) (ret := none) (plainFor_of_name (by decide +kernel)) rfl (Nat.le_of_ble_eq_true rfl) ?_
  intro p e s m below meth c A ls hx hb hml hr hlk hts hown hK hA hP hD hS hl
  have hown : s.vm.findClass RX9 = some m.cls := hown
  have hl : lv_has ls 4 [(0, .ref q), (1, .int p1)] := hl
  generalize hQ : MQ below (QRv G A [(q, .inr (9, [.ref q_bends, .ref q_rootAt, .int v_stepAt, .ref q_pile, .ref q_lastAt, .ref q_nextAt, .ref q_hasBend, .int v_justMany, .ref q_isMet, .ref q_queue, .ref q_sums, .ref q_kept, .ref q_isKept, .ref q_copies, .ref q_shelfMany, .ref q_shelfSort, .ref q_shelfHas])), (q_sums, .inl (cJ, 16, .inr (.inl R)))]) ([.ref q, .int p1] : List Value).toArray s 0 0 A = QQ
  unfold pX9_laysWord at hf
  have hL2 : ∀ (x1 : Int32) (k : Int32 → (Nat → Int64) → Option ((Nat → Int64))), (∀ (x2 : Int32) (v_sums : (Nat → Int64)) (H : Heap) (locs : List Loc) (ls : Array Slot), k x2 v_sums = some R → va_P G vwCl [(q, .inr (9, [.ref q_bends, .ref q_rootAt, .int v_stepAt, .ref q_pile, .ref q_lastAt, .ref q_nextAt, .ref q_hasBend, .int v_justMany, .ref q_isMet, .ref q_queue, .ref q_sums, .ref q_kept, .ref q_isKept, .ref q_copies, .ref q_shelfMany, .ref q_shelfSort, .ref q_shelfHas])), (q_sums, .inl (cJ, 16, .inr (.inl v_sums)))] H → va_D A [(q, .inr (9, [.ref q_bends, .ref q_rootAt, .int v_stepAt, .ref q_pile, .ref q_lastAt, .ref q_nextAt, .ref q_hasBend, .int v_justMany, .ref q_isMet, .ref q_queue, .ref q_sums, .ref q_kept, .ref q_isKept, .ref q_copies, .ref q_shelfMany, .ref q_shelfSort, .ref q_shelfHas])), (q_sums, .inl (cJ, 16, .inr (.inl v_sums)))] → va_S A s.heap H locs → lv_has ls 4 [(0, .ref q), (1, .int x1), (2, .int x2)] → W p l e rmX9_laysWord s m ([.ref q, .int p1] : List Value).toArray below meth c H locs 0 0 QQ (F0 m 34 ls [])) → ∀ (n : Nat) (x2 : Int32) (v_sums : (Nat → Int64)) (H : Heap) (locs : List Loc) (ls : Array Slot), pX9_laysWord_L2 n x2 v_sums k = some R → va_P G vwCl [(q, .inr (9, [.ref q_bends, .ref q_rootAt, .int v_stepAt, .ref q_pile, .ref q_lastAt, .ref q_nextAt, .ref q_hasBend, .int v_justMany, .ref q_isMet, .ref q_queue, .ref q_sums, .ref q_kept, .ref q_isKept, .ref q_copies, .ref q_shelfMany, .ref q_shelfSort, .ref q_shelfHas])), (q_sums, .inl (cJ, 16, .inr (.inl v_sums)))] H → va_D A [(q, .inr (9, [.ref q_bends, .ref q_rootAt, .int v_stepAt, .ref q_pile, .ref q_lastAt, .ref q_nextAt, .ref q_hasBend, .int v_justMany, .ref q_isMet, .ref q_queue, .ref q_sums, .ref q_kept, .ref q_isKept, .ref q_copies, .ref q_shelfMany, .ref q_shelfSort, .ref q_shelfHas])), (q_sums, .inl (cJ, 16, .inr (.inl v_sums)))] → va_S A s.heap H locs → lv_has ls 4 [(0, .ref q), (1, .int x1), (2, .int x2)] → W p l e rmX9_laysWord s m ([.ref q, .int p1] : List Value).toArray below meth c H locs 0 0 QQ (F0 m 2 ls []) := by
    intro x1 k hk n
    induction n with
    | zero =>
      intro x2 v_sums H locs ls hf
      cases hf
    | succ n ih =>
      intro x2 v_sums H locs ls hf hP hD hS hl
      unfold pX9_laysWord_L2 at hf
      refine lv_iload_n hx hb dX9_laysWord_2 rfl (lv_at hl 2 rfl) ?_
      refine lv_bipush (v := 16) hx hb dX9_laysWord_3 (by decide) ?_
      refine lv_icmp_ge (tgt := 34) hx hb dX9_laysWord_5 (by decide) (fun c1 => ?_) (fun c1 => ?_)
      · have hf := if_s hf c1
        exact hk x2 v_sums _ _ _ hf hP hD hS (lv_sub hl [0, 1, 2] rfl)
      · have hf := if_n hf c1
        refine lv_aload_n hx hb dX9_laysWord_8 rfl (lv_at hl 0 rfl) ?_
        refine va_get (D := G) (ci := 9) (v := .ref q_sums) (C := RX9) (T := TX9) (N := 17) hx hb hts hiX9_laysWord_X9 hown hK.1 hP 0 rfl rfl 10 (by decide) (hts (.fieldLink RX9 36 "PackedBendsModel" "sums" "[J") (List.mem_of_getElem? (i := 1) rfl)) (fun _ h9 => h9) rfl dX9_laysWord_9 ?_
        refine lv_iload_n hx hb dX9_laysWord_12 rfl (lv_at hl 2 rfl) ?_
        refine lv_iload_n hx hb dX9_laysWord_13 rfl (lv_at hl 2 rfl) ?_
        refine lv_iconst (v := 4) hx hb dX9_laysWord_14 (by decide) ?_
        refine lv_idiv hx hb dX9_laysWord_15 (by decide) ?_
        refine lv_iload_n hx hb dX9_laysWord_16 rfl (lv_at hl 2 rfl) ?_
        refine lv_iconst (v := 4) hx hb dX9_laysWord_17 (by decide) ?_
        refine lv_irem hx hb dX9_laysWord_18 (by decide) ?_
        refine lv_icmp_ne (tgt := 26) hx hb dX9_laysWord_19 (by decide) (fun c2 => ?_) (fun c2 => ?_)
        · have hf := if_n hf c2
          refine lv_lconst (v := 0) hx hb dX9_laysWord_26 (by decide) ?_
          obtain ⟨z3, hf⟩ := ck_s hf
          refine va_last hx hb hK.1 hP hD hS 1 1 rfl rfl (vp_in_iff.mpr z3) dX9_laysWord_27 (fun H locs hP hD hS => ?_)
          have hP : va_P G vwCl [(q, .inr (9, [.ref q_bends, .ref q_rootAt, .int v_stepAt, .ref q_pile, .ref q_lastAt, .ref q_nextAt, .ref q_hasBend, .int v_justMany, .ref q_isMet, .ref q_queue, .ref q_sums, .ref q_kept, .ref q_isKept, .ref q_copies, .ref q_shelfMany, .ref q_shelfSort, .ref q_shelfHas])), (q_sums, .inl (cJ, 16, .inr (.inl (vp_updL v_sums x2.toNatClampNeg (0 : Int64)))))] H := hP
          have hD : va_D A [(q, .inr (9, [.ref q_bends, .ref q_rootAt, .int v_stepAt, .ref q_pile, .ref q_lastAt, .ref q_nextAt, .ref q_hasBend, .int v_justMany, .ref q_isMet, .ref q_queue, .ref q_sums, .ref q_kept, .ref q_isKept, .ref q_copies, .ref q_shelfMany, .ref q_shelfSort, .ref q_shelfHas])), (q_sums, .inl (cJ, 16, .inr (.inl (vp_updL v_sums x2.toNatClampNeg (0 : Int64)))))] := hD
          refine lv_iinc (v := x2 + (1 : Int32)) (lv' := [(2, .int (x2 + (1 : Int32))), (0, .ref q), (1, .int x1)]) hx hb dX9_laysWord_28 hl (k := 2) rfl rfl (by decide) rfl (fun ls hl => ?_)
          refine lv_goto (tgt := 2) hx hb dX9_laysWord_31 (by decide) ?_
          exact ih (x2 + (1 : Int32)) (vp_updL v_sums x2.toNatClampNeg (0 : Int64)) _ _ _ hf hP hD hS (lv_sub hl [1, 2, 0] rfl)
        · have hf := if_s hf c2
          refine lv_lconst (v := 1) hx hb dX9_laysWord_22 (by decide) ?_
          refine lv_goto (tgt := 27) hx hb dX9_laysWord_23 (by decide) ?_
          obtain ⟨z4, hf⟩ := ck_s hf
          refine va_last hx hb hK.1 hP hD hS 1 1 rfl rfl (vp_in_iff.mpr z4) dX9_laysWord_27 (fun H locs hP hD hS => ?_)
          have hP : va_P G vwCl [(q, .inr (9, [.ref q_bends, .ref q_rootAt, .int v_stepAt, .ref q_pile, .ref q_lastAt, .ref q_nextAt, .ref q_hasBend, .int v_justMany, .ref q_isMet, .ref q_queue, .ref q_sums, .ref q_kept, .ref q_isKept, .ref q_copies, .ref q_shelfMany, .ref q_shelfSort, .ref q_shelfHas])), (q_sums, .inl (cJ, 16, .inr (.inl (vp_updL v_sums x2.toNatClampNeg (1 : Int64)))))] H := hP
          have hD : va_D A [(q, .inr (9, [.ref q_bends, .ref q_rootAt, .int v_stepAt, .ref q_pile, .ref q_lastAt, .ref q_nextAt, .ref q_hasBend, .int v_justMany, .ref q_isMet, .ref q_queue, .ref q_sums, .ref q_kept, .ref q_isKept, .ref q_copies, .ref q_shelfMany, .ref q_shelfSort, .ref q_shelfHas])), (q_sums, .inl (cJ, 16, .inr (.inl (vp_updL v_sums x2.toNatClampNeg (1 : Int64)))))] := hD
          refine lv_iinc (v := x2 + (1 : Int32)) (lv' := [(2, .int (x2 + (1 : Int32))), (0, .ref q), (1, .int x1)]) hx hb dX9_laysWord_28 hl (k := 2) rfl rfl (by decide) rfl (fun ls hl => ?_)
          refine lv_goto (tgt := 2) hx hb dX9_laysWord_31 (by decide) ?_
          exact ih (x2 + (1 : Int32)) (vp_updL v_sums x2.toNatClampNeg (1 : Int64)) _ _ _ hf hP hD hS (lv_sub hl [1, 2, 0] rfl)
  have hL36 : ∀ (x1 : Int32) (v_sums : (Nat → Int64)) (k : Int32 → Option ((Nat → Int64))), (∀ (x2 : Int32) (H : Heap) (locs : List Loc) (ls : Array Slot), k x2 = some R → va_P G vwCl [(q, .inr (9, [.ref q_bends, .ref q_rootAt, .int v_stepAt, .ref q_pile, .ref q_lastAt, .ref q_nextAt, .ref q_hasBend, .int v_justMany, .ref q_isMet, .ref q_queue, .ref q_sums, .ref q_kept, .ref q_isKept, .ref q_copies, .ref q_shelfMany, .ref q_shelfSort, .ref q_shelfHas])), (q_sums, .inl (cJ, 16, .inr (.inl v_sums)))] H → va_D A [(q, .inr (9, [.ref q_bends, .ref q_rootAt, .int v_stepAt, .ref q_pile, .ref q_lastAt, .ref q_nextAt, .ref q_hasBend, .int v_justMany, .ref q_isMet, .ref q_queue, .ref q_sums, .ref q_kept, .ref q_isKept, .ref q_copies, .ref q_shelfMany, .ref q_shelfSort, .ref q_shelfHas])), (q_sums, .inl (cJ, 16, .inr (.inl v_sums)))] → va_S A s.heap H locs → lv_has ls 4 [(0, .ref q), (1, .int x1), (2, .int x2)] → W p l e rmX9_laysWord s m ([.ref q, .int p1] : List Value).toArray below meth c H locs 0 0 QQ (F0 m 52 ls [])) → ∀ (n : Nat) (x2 : Int32) (H : Heap) (locs : List Loc) (ls : Array Slot), pX9_laysWord_L36 x1 n x2 k = some R → va_P G vwCl [(q, .inr (9, [.ref q_bends, .ref q_rootAt, .int v_stepAt, .ref q_pile, .ref q_lastAt, .ref q_nextAt, .ref q_hasBend, .int v_justMany, .ref q_isMet, .ref q_queue, .ref q_sums, .ref q_kept, .ref q_isKept, .ref q_copies, .ref q_shelfMany, .ref q_shelfSort, .ref q_shelfHas])), (q_sums, .inl (cJ, 16, .inr (.inl v_sums)))] H → va_D A [(q, .inr (9, [.ref q_bends, .ref q_rootAt, .int v_stepAt, .ref q_pile, .ref q_lastAt, .ref q_nextAt, .ref q_hasBend, .int v_justMany, .ref q_isMet, .ref q_queue, .ref q_sums, .ref q_kept, .ref q_isKept, .ref q_copies, .ref q_shelfMany, .ref q_shelfSort, .ref q_shelfHas])), (q_sums, .inl (cJ, 16, .inr (.inl v_sums)))] → va_S A s.heap H locs → lv_has ls 4 [(0, .ref q), (1, .int x1), (2, .int x2)] → W p l e rmX9_laysWord s m ([.ref q, .int p1] : List Value).toArray below meth c H locs 0 0 QQ (F0 m 36 ls []) := by
    intro x1 v_sums k hk n
    induction n with
    | zero =>
      intro x2 H locs ls hf
      cases hf
    | succ n ih =>
      intro x2 H locs ls hf hP hD hS hl
      unfold pX9_laysWord_L36 at hf
      refine lv_iload_n hx hb dX9_laysWord_36 rfl (lv_at hl 1 rfl) ?_
      refine lv_iload_n hx hb dX9_laysWord_37 rfl (lv_at hl 2 rfl) ?_
      obtain ⟨z6, hf⟩ := ck_s hf
      refine lv_idiv hx hb dX9_laysWord_38 z6 ?_
      refine lv_bipush (v := 9) hx hb dX9_laysWord_39 (by decide) ?_
      refine lv_icmp_le (tgt := 52) hx hb dX9_laysWord_41 (by decide) (fun c7 => ?_) (fun c7 => ?_)
      · have hf := if_s hf c7
        exact hk x2 _ _ _ hf hP hD hS (lv_sub hl [0, 1, 2] rfl)
      · have hf := if_n hf c7
        refine lv_iload_n hx hb dX9_laysWord_44 rfl (lv_at hl 2 rfl) ?_
        refine lv_bipush (v := 10) hx hb dX9_laysWord_45 (by decide) ?_
        refine lv_imul hx hb dX9_laysWord_47 ?_
        refine lv_istore_n (lv' := [(2, .int (x2 * (10 : Int32))), (0, .ref q), (1, .int x1)]) hx hb dX9_laysWord_48 rfl hl (by decide) rfl (fun ls hl => ?_)
        refine lv_goto (tgt := 36) hx hb dX9_laysWord_49 (by decide) ?_
        exact ih (x2 * (10 : Int32)) _ _ _ hf hP hD hS (lv_sub hl [1, 2, 0] rfl)
  have hL54 : ∀ (x1 : Int32) (x2 : Int32) (k : Int32 → (Nat → Int64) → Option ((Nat → Int64))), (∀ (x3 : Int32) (v_sums : (Nat → Int64)) (H : Heap) (locs : List Loc) (ls : Array Slot), k x3 v_sums = some R → va_P G vwCl [(q, .inr (9, [.ref q_bends, .ref q_rootAt, .int v_stepAt, .ref q_pile, .ref q_lastAt, .ref q_nextAt, .ref q_hasBend, .int v_justMany, .ref q_isMet, .ref q_queue, .ref q_sums, .ref q_kept, .ref q_isKept, .ref q_copies, .ref q_shelfMany, .ref q_shelfSort, .ref q_shelfHas])), (q_sums, .inl (cJ, 16, .inr (.inl v_sums)))] H → va_D A [(q, .inr (9, [.ref q_bends, .ref q_rootAt, .int v_stepAt, .ref q_pile, .ref q_lastAt, .ref q_nextAt, .ref q_hasBend, .int v_justMany, .ref q_isMet, .ref q_queue, .ref q_sums, .ref q_kept, .ref q_isKept, .ref q_copies, .ref q_shelfMany, .ref q_shelfSort, .ref q_shelfHas])), (q_sums, .inl (cJ, 16, .inr (.inl v_sums)))] → va_S A s.heap H locs → lv_has ls 4 [(0, .ref q), (1, .int x1), (2, .int x2), (3, .int x3)] → W p l e rmX9_laysWord s m ([.ref q, .int p1] : List Value).toArray below meth c H locs 0 0 QQ (F0 m 82 ls [])) → ∀ (n : Nat) (x3 : Int32) (v_sums : (Nat → Int64)) (H : Heap) (locs : List Loc) (ls : Array Slot), pX9_laysWord_L54 x1 n x3 v_sums k = some R → va_P G vwCl [(q, .inr (9, [.ref q_bends, .ref q_rootAt, .int v_stepAt, .ref q_pile, .ref q_lastAt, .ref q_nextAt, .ref q_hasBend, .int v_justMany, .ref q_isMet, .ref q_queue, .ref q_sums, .ref q_kept, .ref q_isKept, .ref q_copies, .ref q_shelfMany, .ref q_shelfSort, .ref q_shelfHas])), (q_sums, .inl (cJ, 16, .inr (.inl v_sums)))] H → va_D A [(q, .inr (9, [.ref q_bends, .ref q_rootAt, .int v_stepAt, .ref q_pile, .ref q_lastAt, .ref q_nextAt, .ref q_hasBend, .int v_justMany, .ref q_isMet, .ref q_queue, .ref q_sums, .ref q_kept, .ref q_isKept, .ref q_copies, .ref q_shelfMany, .ref q_shelfSort, .ref q_shelfHas])), (q_sums, .inl (cJ, 16, .inr (.inl v_sums)))] → va_S A s.heap H locs → lv_has ls 4 [(0, .ref q), (1, .int x1), (2, .int x2), (3, .int x3)] → W p l e rmX9_laysWord s m ([.ref q, .int p1] : List Value).toArray below meth c H locs 0 0 QQ (F0 m 54 ls []) := by
    intro x1 x2 k hk n
    induction n with
    | zero =>
      intro x3 v_sums H locs ls hf
      cases hf
    | succ n ih =>
      intro x3 v_sums H locs ls hf hP hD hS hl
      unfold pX9_laysWord_L54 at hf
      refine lv_iload_n hx hb dX9_laysWord_54 rfl (lv_at hl 3 rfl) ?_
      refine lv_if_le (tgt := 82) hx hb dX9_laysWord_55 (by decide) (fun c9 => ?_) (fun c9 => ?_)
      · have hf := if_s hf c9
        exact hk x3 v_sums _ _ _ hf hP hD hS (lv_sub hl [0, 1, 2, 3] rfl)
      · have hf := if_n hf c9
        refine lv_iload_n hx hb dX9_laysWord_58 rfl (lv_at hl 1 rfl) ?_
        refine lv_if_le (tgt := 82) hx hb dX9_laysWord_59 (by decide) (fun c10 => ?_) (fun c10 => ?_)
        · have hf := if_s hf c10
          exact hk x3 v_sums _ _ _ hf hP hD hS (lv_sub hl [0, 1, 2, 3] rfl)
        · have hf := if_n hf c10
          refine lv_aload_n hx hb dX9_laysWord_62 rfl (lv_at hl 0 rfl) ?_
          refine lv_iload_n hx hb dX9_laysWord_63 rfl (lv_at hl 1 rfl) ?_
          refine lv_iload_n hx hb dX9_laysWord_64 rfl (lv_at hl 3 rfl) ?_
          obtain ⟨z11, hf⟩ := ck_s hf
          refine lv_idiv hx hb dX9_laysWord_65 z11 ?_
          refine lv_bipush (v := 10) hx hb dX9_laysWord_66 (by decide) ?_
          refine lv_irem hx hb dX9_laysWord_68 (by decide) ?_
          refine lv_iconst (v := 1) hx hb dX9_laysWord_69 (by decide) ?_
          refine lv_isub hx hb dX9_laysWord_70 ?_
          obtain ⟨r12, hc12, hf⟩ := ob_s hf
          refine bk_v (wc := [(q, .inr (9, [.ref q_bends, .ref q_rootAt, .int v_stepAt, .ref q_pile, .ref q_lastAt, .ref q_nextAt, .ref q_hasBend, .int v_justMany, .ref q_isMet, .ref q_queue, .ref q_sums, .ref q_kept, .ref q_isKept, .ref q_copies, .ref q_shelfMany, .ref q_shelfSort, .ref q_shelfHas])), (q_sums, .inl (cJ, 16, .inr (.inl v_sums)))]) (wc2 := [(q, .inr (9, [.ref q_bends, .ref q_rootAt, .int v_stepAt, .ref q_pile, .ref q_lastAt, .ref q_nextAt, .ref q_hasBend, .int v_justMany, .ref q_isMet, .ref q_queue, .ref q_sums, .ref q_kept, .ref q_isKept, .ref q_copies, .ref q_shelfMany, .ref q_shelfSort, .ref q_shelfHas])), (q_sums, .inl (cJ, 16, .inr (.inl r12)))]) (wr := []) (ws2 := [(q, .inr (9, [.ref q_bends, .ref q_rootAt, .int v_stepAt, .ref q_pile, .ref q_lastAt, .ref q_nextAt, .ref q_hasBend, .int v_justMany, .ref q_isMet, .ref q_queue, .ref q_sums, .ref q_kept, .ref q_isKept, .ref q_copies, .ref q_shelfMany, .ref q_shelfSort, .ref q_shelfHas])), (q_sums, .inl (cJ, 16, .inr (.inl r12)))]) (va_runV (As := [.int (((x1 / x3) - (x1 / x3) / (10 : Int32) * (10 : Int32)) - (1 : Int32))]) (rest := []) ⟨hx, hb, hml, hown, hts⟩ (kX9_turnsSums (l := l) (G := G) (cI := cI) (cJ := cJ) (cZ := cZ) (cS := cS) (cG := cG) n q q_bends q_rootAt q_pile q_lastAt q_nextAt q_hasBend q_isMet q_queue q_sums q_kept q_isKept q_copies q_shelfMany q_shelfSort q_shelfHas v_stepAt v_justMany v_sums (((x1 / x3) - (x1 / x3) / (10 : Int32) * (10 : Int32)) - (1 : Int32)) _ hc12 _) (cwV 1 hts gX9_laysWord_X9_turnsSums rfl rfl rfl (by decide +kernel) ⟨Nat.le_of_ble_eq_true rfl, Nat.le_of_ble_eq_true rfl⟩) (cut_V hK hP hD [0, 1] rfl rfl (ci := 9) (q0 := 0) rfl rfl) rfl rfl hl.1 rfl (lv_room (Nat.le_of_ble_eq_true rfl)) dX9_laysWord_71 ⟨Nat.zero_le _, Nat.zero_le _⟩) hP hD hS hA [0, 1] [] [0, 1] rfl rfl rfl rfl rfl rfl (fun H locs hP hD hS => ?_)
          refine lv_iload_n hx hb dX9_laysWord_74 rfl (lv_at hl 3 rfl) ?_
          refine lv_bipush (v := 10) hx hb dX9_laysWord_75 (by decide) ?_
          refine lv_idiv hx hb dX9_laysWord_77 (by decide) ?_
          refine lv_istore_n (lv' := [(3, .int (x3 / (10 : Int32))), (0, .ref q), (1, .int x1), (2, .int x2)]) hx hb dX9_laysWord_78 rfl hl (by decide) rfl (fun ls hl => ?_)
          refine lv_goto (tgt := 54) hx hb dX9_laysWord_79 (by decide) ?_
          exact ih (x3 / (10 : Int32)) r12 _ _ _ hf hP hD hS (lv_sub hl [1, 2, 3, 0] rfl)
  refine lv_iconst (v := 0) hx hb dX9_laysWord_0 (by decide) ?_
  refine lv_istore_n (lv' := [(2, .int (0 : Int32)), (0, .ref q), (1, .int p1)]) hx hb dX9_laysWord_1 rfl hl (by decide) rfl (fun ls hl => ?_)
  refine hL2 p1 _ (fun y2_5 u5_sums H locs ls hf hP hD hS hl => ?_) n (0 : Int32) v_sums _ _ _ hf hP hD hS (lv_sub hl [1, 2, 0] rfl)
  have hP : va_P G vwCl [(q, .inr (9, [.ref q_bends, .ref q_rootAt, .int v_stepAt, .ref q_pile, .ref q_lastAt, .ref q_nextAt, .ref q_hasBend, .int v_justMany, .ref q_isMet, .ref q_queue, .ref q_sums, .ref q_kept, .ref q_isKept, .ref q_copies, .ref q_shelfMany, .ref q_shelfSort, .ref q_shelfHas])), (q_sums, .inl (cJ, 16, .inr (.inl u5_sums)))] H := hP
  have hD : va_D A [(q, .inr (9, [.ref q_bends, .ref q_rootAt, .int v_stepAt, .ref q_pile, .ref q_lastAt, .ref q_nextAt, .ref q_hasBend, .int v_justMany, .ref q_isMet, .ref q_queue, .ref q_sums, .ref q_kept, .ref q_isKept, .ref q_copies, .ref q_shelfMany, .ref q_shelfSort, .ref q_shelfHas])), (q_sums, .inl (cJ, 16, .inr (.inl u5_sums)))] := hD
  refine lv_iconst (v := 1) hx hb dX9_laysWord_34 (by decide) ?_
  refine lv_istore_n (lv' := [(2, .int (1 : Int32)), (0, .ref q), (1, .int p1)]) hx hb dX9_laysWord_35 rfl hl (by decide) rfl (fun ls hl => ?_)
  refine hL36 p1 u5_sums _ (fun y2_8 H locs ls hf hP hD hS hl => ?_) n (1 : Int32) _ _ _ hf hP hD hS (lv_sub hl [1, 2, 0] rfl)
  have hP : va_P G vwCl [(q, .inr (9, [.ref q_bends, .ref q_rootAt, .int v_stepAt, .ref q_pile, .ref q_lastAt, .ref q_nextAt, .ref q_hasBend, .int v_justMany, .ref q_isMet, .ref q_queue, .ref q_sums, .ref q_kept, .ref q_isKept, .ref q_copies, .ref q_shelfMany, .ref q_shelfSort, .ref q_shelfHas])), (q_sums, .inl (cJ, 16, .inr (.inl u5_sums)))] H := hP
  have hD : va_D A [(q, .inr (9, [.ref q_bends, .ref q_rootAt, .int v_stepAt, .ref q_pile, .ref q_lastAt, .ref q_nextAt, .ref q_hasBend, .int v_justMany, .ref q_isMet, .ref q_queue, .ref q_sums, .ref q_kept, .ref q_isKept, .ref q_copies, .ref q_shelfMany, .ref q_shelfSort, .ref q_shelfHas])), (q_sums, .inl (cJ, 16, .inr (.inl u5_sums)))] := hD
  refine lv_iload_n hx hb dX9_laysWord_52 rfl (lv_at hl 2 rfl) ?_
  refine lv_istore_n (lv' := [(3, .int y2_8), (0, .ref q), (1, .int p1), (2, .int y2_8)]) hx hb dX9_laysWord_53 rfl hl (by decide) rfl (fun ls hl => ?_)
  refine hL54 p1 y2_8 _ (fun y3_13 u13_sums H locs ls hf hP hD hS hl => ?_) n y2_8 u5_sums _ _ _ hf hP hD hS (lv_sub hl [1, 2, 3, 0] rfl)
  have hP : va_P G vwCl [(q, .inr (9, [.ref q_bends, .ref q_rootAt, .int v_stepAt, .ref q_pile, .ref q_lastAt, .ref q_nextAt, .ref q_hasBend, .int v_justMany, .ref q_isMet, .ref q_queue, .ref q_sums, .ref q_kept, .ref q_isKept, .ref q_copies, .ref q_shelfMany, .ref q_shelfSort, .ref q_shelfHas])), (q_sums, .inl (cJ, 16, .inr (.inl u13_sums)))] H := hP
  have hD : va_D A [(q, .inr (9, [.ref q_bends, .ref q_rootAt, .int v_stepAt, .ref q_pile, .ref q_lastAt, .ref q_nextAt, .ref q_hasBend, .int v_justMany, .ref q_isMet, .ref q_queue, .ref q_sums, .ref q_kept, .ref q_isKept, .ref q_copies, .ref q_shelfMany, .ref q_shelfSort, .ref q_shelfHas])), (q_sums, .inl (cJ, 16, .inr (.inl u13_sums)))] := hD
  cases hf
  rw [← hQ]
  exact rt_v hx hb hr hlk hP hD hS dX9_laysWord_82
def pX9_bendOf_L35 (x2 : Int32) (v_rootAt : (Nat → Int64)) (v_sums : (Nat → Int64)) : Nat → Int64 → Int32 → (Int64 → Int32 → Option (Int64 × Int32 × (Nat → Int64) × (Nat → Int64))) → Option (Int64 × Int32 × (Nat → Int64) × (Nat → Int64))
  | 0, _, _, _ => none
  | n + 1, x3, x5, k => if (4 : Int32) ≤ x5 then k x3 x5 else ck (ix (((4 : Int32) * (x2 - (1 : Int32))) + x5) 16) (ck (ix x5 4) (pX9_bendOf_L35 x2 v_rootAt v_sums n (x3 + ((v_sums (((4 : Int32) * (x2 - (1 : Int32))) + x5).toNatClampNeg) * (v_rootAt x5.toNatClampNeg))) (x5 + (1 : Int32)) k))
def pX9_bendOf (n : Nat) (v_stepAt : Int32) (v_bends : (Nat → Int64)) (v_rootAt : (Nat → Int64)) (v_sums : (Nat → Int64)) (p1 : Int32) (p2 : Int32) : Option (Int64 × Int32 × (Nat → Int64) × (Nat → Int64)) := Option.bind (pX9_isPlace p2) (fun r1 => if r1 = 0 then some ((-9223372036854775808 : Int64), v_stepAt, v_rootAt, v_sums) else Option.bind (pX9_isWord n p1) (fun r3 => if r3 = 0 then some ((-9223372036854775808 : Int64), v_stepAt, v_rootAt, v_sums) else Option.bind (pX9_findRoot n v_bends v_rootAt (-9 : Int32)) (fun r5 => Option.bind (pX9_laysWord n v_sums p1) (fun r6 => pX9_bendOf_L35 p2 r5.2.2 r6 n (0 : Int64) (0 : Int32) (fun (y3_10 : Int64) (y5_10 : Int32) => some (y3_10, r5.2.1, r5.2.2, r6))))))
def rmX9_bendOf : Room := { frames := 3, cells := 0, slots := 0, locals := 66 }
theorem hiX9_bendOf_X9 : ∀ w ∈ u_ws RX9 TX9 17, w ∈ wsX9_bendOf := fun _ h => List.mem_cons_of_mem _ (List.mem_append_right _ h)
set_option maxRecDepth 100000 in
set_option maxHeartbeats 4000000 in
theorem kX9_bendOf {l : Launch} {G : va_G} {cI cJ cZ cS cG : ClassId} (n : Nat) (q q_bends q_rootAt q_pile q_lastAt q_nextAt q_hasBend q_isMet q_queue q_sums q_kept q_isKept q_copies q_shelfMany q_shelfSort q_shelfHas : Nat) (v_stepAt : Int32) (v_justMany : Int32) (v_bends : (Nat → Int64)) (v_rootAt : (Nat → Int64)) (v_sums : (Nat → Int64)) (p1 : Int32) (p2 : Int32) (R : Int64 × Int32 × (Nat → Int64) × (Nat → Int64)) (hf : pX9_bendOf n v_stepAt v_bends v_rootAt v_sums p1 p2 = some R) : CTl l yX9_bendOf wsX9_bendOf rmX9_bendOf G cI cJ cZ cS cG [.ref q, .int p1, .int p2] [(q, .inr (9, [.ref q_bends, .ref q_rootAt, .int v_stepAt, .ref q_pile, .ref q_lastAt, .ref q_nextAt, .ref q_hasBend, .int v_justMany, .ref q_isMet, .ref q_queue, .ref q_sums, .ref q_kept, .ref q_isKept, .ref q_copies, .ref q_shelfMany, .ref q_shelfSort, .ref q_shelfHas])), (q_bends, .inl (cJ, 4, .inr (.inl v_bends))), (q_rootAt, .inl (cJ, 4, .inr (.inl v_rootAt))), (q_sums, .inl (cJ, 16, .inr (.inl v_sums)))] [(q, .inr (9, [.ref q_bends, .ref q_rootAt, .int R.2.1, .ref q_pile, .ref q_lastAt, .ref q_nextAt, .ref q_hasBend, .int v_justMany, .ref q_isMet, .ref q_queue, .ref q_sums, .ref q_kept, .ref q_isKept, .ref q_copies, .ref q_shelfMany, .ref q_shelfSort, .ref q_shelfHas])), (q_bends, .inl (cJ, 4, .inr (.inl v_bends))), (q_rootAt, .inl (cJ, 4, .inr (.inl R.2.2.1))), (q_sums, .inl (cJ, 16, .inr (.inl R.2.2.2)))] R.1 := by
  refine Met.ofE (Qc := fun A => QRl G A [(q, .inr (9, [.ref q_bends, .ref q_rootAt, .int R.2.1, .ref q_pile, .ref q_lastAt, .ref q_nextAt, .ref q_hasBend, .int v_justMany, .ref q_isMet, .ref q_queue, .ref q_sums, .ref q_kept, .ref q_isKept, .ref q_copies, .ref q_shelfMany, .ref q_shelfSort, .ref q_shelfHas])), (q_bends, .inl (cJ, 4, .inr (.inl v_bends))), (q_rootAt, .inl (cJ, 4, .inr (.inl R.2.2.1))), (q_sums, .inl (cJ, 16, .inr (.inl R.2.2.2)))] R.1) (cc := cX9_bendOf) (nL := 6) (ret := some .long) (plainFor_of_name (by decide +kernel)) rfl (Nat.le_of_ble_eq_true rfl) ?_
  intro p e s m below meth c A ls hx hb hml hr hlk hts hown hK hA hP hD hS hl
  have hown : s.vm.findClass RX9 = some m.cls := hown
  have hl : lv_has ls 6 [(0, .ref q), (1, .int p1), (2, .int p2)] := hl
  generalize hQ : MQ below (QRl G A [(q, .inr (9, [.ref q_bends, .ref q_rootAt, .int R.2.1, .ref q_pile, .ref q_lastAt, .ref q_nextAt, .ref q_hasBend, .int v_justMany, .ref q_isMet, .ref q_queue, .ref q_sums, .ref q_kept, .ref q_isKept, .ref q_copies, .ref q_shelfMany, .ref q_shelfSort, .ref q_shelfHas])), (q_bends, .inl (cJ, 4, .inr (.inl v_bends))), (q_rootAt, .inl (cJ, 4, .inr (.inl R.2.2.1))), (q_sums, .inl (cJ, 16, .inr (.inl R.2.2.2)))] R.1) ([.ref q, .int p1, .int p2] : List Value).toArray s 0 0 A = QQ
  unfold pX9_bendOf at hf
  have hL35 : ∀ (x1 : Int32) (x2 : Int32) (v_stepAt : Int32) (v_rootAt : (Nat → Int64)) (v_sums : (Nat → Int64)) (k : Int64 → Int32 → Option (Int64 × Int32 × (Nat → Int64) × (Nat → Int64))), (∀ (x3 : Int64) (x5 : Int32) (H : Heap) (locs : List Loc) (ls : Array Slot), k x3 x5 = some R → va_P G vwCl [(q, .inr (9, [.ref q_bends, .ref q_rootAt, .int v_stepAt, .ref q_pile, .ref q_lastAt, .ref q_nextAt, .ref q_hasBend, .int v_justMany, .ref q_isMet, .ref q_queue, .ref q_sums, .ref q_kept, .ref q_isKept, .ref q_copies, .ref q_shelfMany, .ref q_shelfSort, .ref q_shelfHas])), (q_bends, .inl (cJ, 4, .inr (.inl v_bends))), (q_rootAt, .inl (cJ, 4, .inr (.inl v_rootAt))), (q_sums, .inl (cJ, 16, .inr (.inl v_sums)))] H → va_D A [(q, .inr (9, [.ref q_bends, .ref q_rootAt, .int v_stepAt, .ref q_pile, .ref q_lastAt, .ref q_nextAt, .ref q_hasBend, .int v_justMany, .ref q_isMet, .ref q_queue, .ref q_sums, .ref q_kept, .ref q_isKept, .ref q_copies, .ref q_shelfMany, .ref q_shelfSort, .ref q_shelfHas])), (q_bends, .inl (cJ, 4, .inr (.inl v_bends))), (q_rootAt, .inl (cJ, 4, .inr (.inl v_rootAt))), (q_sums, .inl (cJ, 16, .inr (.inl v_sums)))] → va_S A s.heap H locs → lv_has ls 6 [(0, .ref q), (1, .int x1), (2, .int x2), (3, .long x3), (5, .int x5)] → W p l e rmX9_bendOf s m ([.ref q, .int p1, .int p2] : List Value).toArray below meth c H locs 0 0 QQ (F0 m 71 ls [])) → ∀ (n : Nat) (x3 : Int64) (x5 : Int32) (H : Heap) (locs : List Loc) (ls : Array Slot), pX9_bendOf_L35 x2 v_rootAt v_sums n x3 x5 k = some R → va_P G vwCl [(q, .inr (9, [.ref q_bends, .ref q_rootAt, .int v_stepAt, .ref q_pile, .ref q_lastAt, .ref q_nextAt, .ref q_hasBend, .int v_justMany, .ref q_isMet, .ref q_queue, .ref q_sums, .ref q_kept, .ref q_isKept, .ref q_copies, .ref q_shelfMany, .ref q_shelfSort, .ref q_shelfHas])), (q_bends, .inl (cJ, 4, .inr (.inl v_bends))), (q_rootAt, .inl (cJ, 4, .inr (.inl v_rootAt))), (q_sums, .inl (cJ, 16, .inr (.inl v_sums)))] H → va_D A [(q, .inr (9, [.ref q_bends, .ref q_rootAt, .int v_stepAt, .ref q_pile, .ref q_lastAt, .ref q_nextAt, .ref q_hasBend, .int v_justMany, .ref q_isMet, .ref q_queue, .ref q_sums, .ref q_kept, .ref q_isKept, .ref q_copies, .ref q_shelfMany, .ref q_shelfSort, .ref q_shelfHas])), (q_bends, .inl (cJ, 4, .inr (.inl v_bends))), (q_rootAt, .inl (cJ, 4, .inr (.inl v_rootAt))), (q_sums, .inl (cJ, 16, .inr (.inl v_sums)))] → va_S A s.heap H locs → lv_has ls 6 [(0, .ref q), (1, .int x1), (2, .int x2), (3, .long x3), (5, .int x5)] → W p l e rmX9_bendOf s m ([.ref q, .int p1, .int p2] : List Value).toArray below meth c H locs 0 0 QQ (F0 m 35 ls []) := by
    intro x1 x2 v_stepAt v_rootAt v_sums k hk n
    induction n with
    | zero =>
      intro x3 x5 H locs ls hf
      cases hf
    | succ n ih =>
      intro x3 x5 H locs ls hf hP hD hS hl
      unfold pX9_bendOf_L35 at hf
      refine lv_iload hx hb dX9_bendOf_35 (lv_at hl 4 rfl) ?_
      refine lv_iconst (v := 4) hx hb dX9_bendOf_37 (by decide) ?_
      refine lv_icmp_ge (tgt := 71) hx hb dX9_bendOf_38 (by decide) (fun c7 => ?_) (fun c7 => ?_)
      · have hf := if_s hf c7
        exact hk x3 x5 _ _ _ hf hP hD hS (lv_sub hl [0, 1, 2, 3, 4] rfl)
      · have hf := if_n hf c7
        refine lv_lload_n hx hb dX9_bendOf_41 rfl (lv_at hl 3 rfl) ?_
        refine lv_aload_n hx hb dX9_bendOf_42 rfl (lv_at hl 0 rfl) ?_
        refine va_get (D := G) (ci := 9) (v := .ref q_sums) (C := RX9) (T := TX9) (N := 17) hx hb hts hiX9_bendOf_X9 hown hK.1 hP 0 rfl rfl 10 (by decide) (hts (.fieldLink RX9 36 "PackedBendsModel" "sums" "[J") (List.mem_of_getElem? (i := 2) rfl)) (fun _ h9 => h9) rfl dX9_bendOf_43 ?_
        refine lv_iconst (v := 4) hx hb dX9_bendOf_46 (by decide) ?_
        refine lv_iload_n hx hb dX9_bendOf_47 rfl (lv_at hl 2 rfl) ?_
        refine lv_iconst (v := 1) hx hb dX9_bendOf_48 (by decide) ?_
        refine lv_isub hx hb dX9_bendOf_49 ?_
        refine lv_imul hx hb dX9_bendOf_50 ?_
        refine lv_iload hx hb dX9_bendOf_51 (lv_at hl 4 rfl) ?_
        refine lv_iadd hx hb dX9_bendOf_53 ?_
        obtain ⟨z8, hf⟩ := ck_s hf
        refine va_lald hx hb hK.1 hP 3 1 rfl rfl (vp_in_iff.mpr z8) dX9_bendOf_54 ?_
        refine lv_aload_n hx hb dX9_bendOf_55 rfl (lv_at hl 0 rfl) ?_
        refine va_get (D := G) (ci := 9) (v := .ref q_rootAt) (C := RX9) (T := TX9) (N := 17) hx hb hts hiX9_bendOf_X9 hown hK.1 hP 0 rfl rfl 1 (by decide) (hts (.fieldLink RX9 13 "PackedBendsModel" "rootAt" "[J") (List.mem_of_getElem? (i := 3) rfl)) (fun _ h9 => h9) rfl dX9_bendOf_56 ?_
        refine lv_iload hx hb dX9_bendOf_59 (lv_at hl 4 rfl) ?_
        obtain ⟨z9, hf⟩ := ck_s hf
        refine va_lald hx hb hK.1 hP 2 1 rfl rfl (vp_in_iff.mpr z9) dX9_bendOf_61 ?_
        refine lv_lmul hx hb dX9_bendOf_62 ?_
        refine lv_ladd hx hb dX9_bendOf_63 ?_
        refine lv_lstore_n (lv' := [(3, .long (x3 + ((v_sums (((4 : Int32) * (x2 - (1 : Int32))) + x5).toNatClampNeg) * (v_rootAt x5.toNatClampNeg)))), (0, .ref q), (1, .int x1), (2, .int x2), (5, .int x5)]) hx hb dX9_bendOf_64 rfl hl (by decide) rfl (fun ls hl => ?_)
        refine lv_iinc (v := x5 + (1 : Int32)) (lv' := [(5, .int (x5 + (1 : Int32))), (3, .long (x3 + ((v_sums (((4 : Int32) * (x2 - (1 : Int32))) + x5).toNatClampNeg) * (v_rootAt x5.toNatClampNeg)))), (0, .ref q), (1, .int x1), (2, .int x2)]) hx hb dX9_bendOf_65 hl (k := 4) rfl rfl (by decide) rfl (fun ls hl => ?_)
        refine lv_goto (tgt := 35) hx hb dX9_bendOf_68 (by decide) ?_
        exact ih (x3 + ((v_sums (((4 : Int32) * (x2 - (1 : Int32))) + x5).toNatClampNeg) * (v_rootAt x5.toNatClampNeg))) (x5 + (1 : Int32)) _ _ _ hf hP hD hS (lv_sub hl [2, 3, 4, 1, 0] rfl)
  refine lv_iload_n hx hb dX9_bendOf_0 rfl (lv_at hl 2 rfl) ?_
  obtain ⟨r1, hc1, hf⟩ := ob_s hf
  refine bk_i (wc := []) (wc2 := []) (wr := [(q, .inr (9, [.ref q_bends, .ref q_rootAt, .int v_stepAt, .ref q_pile, .ref q_lastAt, .ref q_nextAt, .ref q_hasBend, .int v_justMany, .ref q_isMet, .ref q_queue, .ref q_sums, .ref q_kept, .ref q_isKept, .ref q_copies, .ref q_shelfMany, .ref q_shelfSort, .ref q_shelfHas])), (q_bends, .inl (cJ, 4, .inr (.inl v_bends))), (q_rootAt, .inl (cJ, 4, .inr (.inl v_rootAt))), (q_sums, .inl (cJ, 16, .inr (.inl v_sums)))]) (ws2 := [(q, .inr (9, [.ref q_bends, .ref q_rootAt, .int v_stepAt, .ref q_pile, .ref q_lastAt, .ref q_nextAt, .ref q_hasBend, .int v_justMany, .ref q_isMet, .ref q_queue, .ref q_sums, .ref q_kept, .ref q_isKept, .ref q_copies, .ref q_shelfMany, .ref q_shelfSort, .ref q_shelfHas])), (q_bends, .inl (cJ, 4, .inr (.inl v_bends))), (q_rootAt, .inl (cJ, 4, .inr (.inl v_rootAt))), (q_sums, .inl (cJ, 16, .inr (.inl v_sums)))]) (r := r1) (va_runS (As := [.int p2]) (rest := []) ⟨hx, hb, hml, hown, hts⟩ (kX9_isPlace (l := l) (G := G) (cI := cI) (cJ := cJ) (cZ := cZ) (cS := cS) (cG := cG) p2 _ hc1 _) (va_cwS 1 hts gX9_bendOf_X9_isPlace rfl rfl rfl (by decide +kernel) ⟨Nat.le_of_ble_eq_true rfl, Nat.le_of_ble_eq_true rfl⟩) (cut_S hK hP hD [] rfl rfl) rfl rfl hl.1 rfl (lv_room (Nat.le_of_ble_eq_true rfl)) dX9_bendOf_1 ⟨Nat.zero_le _, Nat.zero_le _⟩) hP hD hS hA [] [0, 1, 2, 3] [0, 1, 2, 3] rfl rfl rfl rfl rfl rfl (fun H locs hP hD hS => ?_)
  refine lv_if_eq (tgt := 14) hx hb dX9_bendOf_4 (by decide) (fun c2 => ?_) (fun c2 => ?_)
  · have hf := if_s hf c2
    refine lv_ldc2 (v := (-9223372036854775808)) hx hb hown (hts (.constantLong RX9 80 (-9223372036854775808)) (List.mem_of_getElem? (i := 1) rfl)) dX9_bendOf_14 ?_
    cases hf
    rw [← hQ]
    exact rt_l hx hb hr hlk hP hD hS rfl dX9_bendOf_17
  · have hf := if_n hf c2
    refine lv_iload_n hx hb dX9_bendOf_7 rfl (lv_at hl 1 rfl) ?_
    obtain ⟨r3, hc3, hf⟩ := ob_s hf
    refine bk_i (wc := []) (wc2 := []) (wr := [(q, .inr (9, [.ref q_bends, .ref q_rootAt, .int v_stepAt, .ref q_pile, .ref q_lastAt, .ref q_nextAt, .ref q_hasBend, .int v_justMany, .ref q_isMet, .ref q_queue, .ref q_sums, .ref q_kept, .ref q_isKept, .ref q_copies, .ref q_shelfMany, .ref q_shelfSort, .ref q_shelfHas])), (q_bends, .inl (cJ, 4, .inr (.inl v_bends))), (q_rootAt, .inl (cJ, 4, .inr (.inl v_rootAt))), (q_sums, .inl (cJ, 16, .inr (.inl v_sums)))]) (ws2 := [(q, .inr (9, [.ref q_bends, .ref q_rootAt, .int v_stepAt, .ref q_pile, .ref q_lastAt, .ref q_nextAt, .ref q_hasBend, .int v_justMany, .ref q_isMet, .ref q_queue, .ref q_sums, .ref q_kept, .ref q_isKept, .ref q_copies, .ref q_shelfMany, .ref q_shelfSort, .ref q_shelfHas])), (q_bends, .inl (cJ, 4, .inr (.inl v_bends))), (q_rootAt, .inl (cJ, 4, .inr (.inl v_rootAt))), (q_sums, .inl (cJ, 16, .inr (.inl v_sums)))]) (r := r3) (va_runS (As := [.int p1]) (rest := []) ⟨hx, hb, hml, hown, hts⟩ (kX9_isWord (l := l) (G := G) (cI := cI) (cJ := cJ) (cZ := cZ) (cS := cS) (cG := cG) n p1 _ hc3 _) (va_cwS 1 hts gX9_bendOf_X9_isWord rfl rfl rfl (by decide +kernel) ⟨Nat.le_of_ble_eq_true rfl, Nat.le_of_ble_eq_true rfl⟩) (cut_S hK hP hD [] rfl rfl) rfl rfl hl.1 rfl (lv_room (Nat.le_of_ble_eq_true rfl)) dX9_bendOf_8 ⟨Nat.zero_le _, Nat.zero_le _⟩) hP hD hS hA [] [0, 1, 2, 3] [0, 1, 2, 3] rfl rfl rfl rfl rfl rfl (fun H locs hP hD hS => ?_)
    refine lv_if_ne (tgt := 18) hx hb dX9_bendOf_11 (by decide) (fun c4 => ?_) (fun c4 => ?_)
    · have hf := if_n hf c4
      refine lv_aload_n hx hb dX9_bendOf_18 rfl (lv_at hl 0 rfl) ?_
      refine lv_bipush (v := (-9)) hx hb dX9_bendOf_19 (by decide) ?_
      obtain ⟨r5, hc5, hf⟩ := ob_s hf
      refine bk_i (wc := [(q, .inr (9, [.ref q_bends, .ref q_rootAt, .int v_stepAt, .ref q_pile, .ref q_lastAt, .ref q_nextAt, .ref q_hasBend, .int v_justMany, .ref q_isMet, .ref q_queue, .ref q_sums, .ref q_kept, .ref q_isKept, .ref q_copies, .ref q_shelfMany, .ref q_shelfSort, .ref q_shelfHas])), (q_bends, .inl (cJ, 4, .inr (.inl v_bends))), (q_rootAt, .inl (cJ, 4, .inr (.inl v_rootAt)))]) (wc2 := [(q, .inr (9, [.ref q_bends, .ref q_rootAt, .int r5.2.1, .ref q_pile, .ref q_lastAt, .ref q_nextAt, .ref q_hasBend, .int v_justMany, .ref q_isMet, .ref q_queue, .ref q_sums, .ref q_kept, .ref q_isKept, .ref q_copies, .ref q_shelfMany, .ref q_shelfSort, .ref q_shelfHas])), (q_bends, .inl (cJ, 4, .inr (.inl v_bends))), (q_rootAt, .inl (cJ, 4, .inr (.inl r5.2.2)))]) (wr := [(q_sums, .inl (cJ, 16, .inr (.inl v_sums)))]) (ws2 := [(q, .inr (9, [.ref q_bends, .ref q_rootAt, .int r5.2.1, .ref q_pile, .ref q_lastAt, .ref q_nextAt, .ref q_hasBend, .int v_justMany, .ref q_isMet, .ref q_queue, .ref q_sums, .ref q_kept, .ref q_isKept, .ref q_copies, .ref q_shelfMany, .ref q_shelfSort, .ref q_shelfHas])), (q_bends, .inl (cJ, 4, .inr (.inl v_bends))), (q_rootAt, .inl (cJ, 4, .inr (.inl r5.2.2))), (q_sums, .inl (cJ, 16, .inr (.inl v_sums)))]) (r := r5.1) (va_runV (As := [.int (-9 : Int32)]) (rest := []) ⟨hx, hb, hml, hown, hts⟩ (kX9_findRoot (l := l) (G := G) (cI := cI) (cJ := cJ) (cZ := cZ) (cS := cS) (cG := cG) n q q_bends q_rootAt q_pile q_lastAt q_nextAt q_hasBend q_isMet q_queue q_sums q_kept q_isKept q_copies q_shelfMany q_shelfSort q_shelfHas v_stepAt v_justMany v_bends v_rootAt (-9 : Int32) _ hc5 _) (cwV 1 hts gX9_bendOf_X9_findRoot rfl rfl rfl (by decide +kernel) ⟨Nat.le_of_ble_eq_true rfl, Nat.le_of_ble_eq_true rfl⟩) (cut_V hK hP hD [0, 1, 2] rfl rfl (ci := 9) (q0 := 0) rfl rfl) rfl rfl hl.1 rfl (lv_room (Nat.le_of_ble_eq_true rfl)) dX9_bendOf_21 ⟨Nat.zero_le _, Nat.zero_le _⟩) hP hD hS hA [0, 1, 2] [3] [1, 2, 3, 0] rfl rfl rfl rfl rfl rfl (fun H locs hP hD hS => ?_)
      refine lv_pop hx hb dX9_bendOf_24 rfl ?_
      refine lv_aload_n hx hb dX9_bendOf_25 rfl (lv_at hl 0 rfl) ?_
      refine lv_iload_n hx hb dX9_bendOf_26 rfl (lv_at hl 1 rfl) ?_
      obtain ⟨r6, hc6, hf⟩ := ob_s hf
      refine bk_v (wc := [(q, .inr (9, [.ref q_bends, .ref q_rootAt, .int r5.2.1, .ref q_pile, .ref q_lastAt, .ref q_nextAt, .ref q_hasBend, .int v_justMany, .ref q_isMet, .ref q_queue, .ref q_sums, .ref q_kept, .ref q_isKept, .ref q_copies, .ref q_shelfMany, .ref q_shelfSort, .ref q_shelfHas])), (q_sums, .inl (cJ, 16, .inr (.inl v_sums)))]) (wc2 := [(q, .inr (9, [.ref q_bends, .ref q_rootAt, .int r5.2.1, .ref q_pile, .ref q_lastAt, .ref q_nextAt, .ref q_hasBend, .int v_justMany, .ref q_isMet, .ref q_queue, .ref q_sums, .ref q_kept, .ref q_isKept, .ref q_copies, .ref q_shelfMany, .ref q_shelfSort, .ref q_shelfHas])), (q_sums, .inl (cJ, 16, .inr (.inl r6)))]) (wr := [(q_bends, .inl (cJ, 4, .inr (.inl v_bends))), (q_rootAt, .inl (cJ, 4, .inr (.inl r5.2.2)))]) (ws2 := [(q, .inr (9, [.ref q_bends, .ref q_rootAt, .int r5.2.1, .ref q_pile, .ref q_lastAt, .ref q_nextAt, .ref q_hasBend, .int v_justMany, .ref q_isMet, .ref q_queue, .ref q_sums, .ref q_kept, .ref q_isKept, .ref q_copies, .ref q_shelfMany, .ref q_shelfSort, .ref q_shelfHas])), (q_bends, .inl (cJ, 4, .inr (.inl v_bends))), (q_rootAt, .inl (cJ, 4, .inr (.inl r5.2.2))), (q_sums, .inl (cJ, 16, .inr (.inl r6)))]) (va_runV (As := [.int p1]) (rest := []) ⟨hx, hb, hml, hown, hts⟩ (kX9_laysWord (l := l) (G := G) (cI := cI) (cJ := cJ) (cZ := cZ) (cS := cS) (cG := cG) n q q_bends q_rootAt q_pile q_lastAt q_nextAt q_hasBend q_isMet q_queue q_sums q_kept q_isKept q_copies q_shelfMany q_shelfSort q_shelfHas r5.2.1 v_justMany v_sums p1 _ hc6 _) (cwV 1 hts gX9_bendOf_X9_laysWord rfl rfl rfl (by decide +kernel) ⟨Nat.le_of_ble_eq_true rfl, Nat.le_of_ble_eq_true rfl⟩) (cut_V hK hP hD [0, 3] rfl rfl (ci := 9) (q0 := 0) rfl rfl) rfl rfl hl.1 rfl (lv_room (Nat.le_of_ble_eq_true rfl)) dX9_bendOf_27 ⟨Nat.zero_le _, Nat.zero_le _⟩) hP hD hS hA [0, 3] [1, 2] [2, 0, 1, 3] rfl rfl rfl rfl rfl rfl (fun H locs hP hD hS => ?_)
      refine lv_lconst (v := 0) hx hb dX9_bendOf_30 (by decide) ?_
      refine lv_lstore_n (lv' := [(3, .long (0 : Int64)), (0, .ref q), (1, .int p1), (2, .int p2)]) hx hb dX9_bendOf_31 rfl hl (by decide) rfl (fun ls hl => ?_)
      refine lv_iconst (v := 0) hx hb dX9_bendOf_32 (by decide) ?_
      refine lv_istore (lv' := [(5, .int (0 : Int32)), (3, .long (0 : Int64)), (0, .ref q), (1, .int p1), (2, .int p2)]) hx hb dX9_bendOf_33 hl (by decide) rfl (fun ls hl => ?_)
      refine hL35 p1 p2 r5.2.1 r5.2.2 r6 _ (fun y3_10 y5_10 H locs ls hf hP hD hS hl => ?_) n (0 : Int64) (0 : Int32) _ _ _ hf hP hD hS (lv_sub hl [2, 3, 4, 1, 0] rfl)
      have hP : va_P G vwCl [(q, .inr (9, [.ref q_bends, .ref q_rootAt, .int r5.2.1, .ref q_pile, .ref q_lastAt, .ref q_nextAt, .ref q_hasBend, .int v_justMany, .ref q_isMet, .ref q_queue, .ref q_sums, .ref q_kept, .ref q_isKept, .ref q_copies, .ref q_shelfMany, .ref q_shelfSort, .ref q_shelfHas])), (q_bends, .inl (cJ, 4, .inr (.inl v_bends))), (q_rootAt, .inl (cJ, 4, .inr (.inl r5.2.2))), (q_sums, .inl (cJ, 16, .inr (.inl r6)))] H := hP
      have hD : va_D A [(q, .inr (9, [.ref q_bends, .ref q_rootAt, .int r5.2.1, .ref q_pile, .ref q_lastAt, .ref q_nextAt, .ref q_hasBend, .int v_justMany, .ref q_isMet, .ref q_queue, .ref q_sums, .ref q_kept, .ref q_isKept, .ref q_copies, .ref q_shelfMany, .ref q_shelfSort, .ref q_shelfHas])), (q_bends, .inl (cJ, 4, .inr (.inl v_bends))), (q_rootAt, .inl (cJ, 4, .inr (.inl r5.2.2))), (q_sums, .inl (cJ, 16, .inr (.inl r6)))] := hD
      refine lv_lload_n hx hb dX9_bendOf_71 rfl (lv_at hl 3 rfl) ?_
      cases hf
      rw [← hQ]
      exact rt_l hx hb hr hlk hP hD hS rfl dX9_bendOf_72
    · have hf := if_s hf c4
      refine lv_ldc2 (v := (-9223372036854775808)) hx hb hown (hts (.constantLong RX9 80 (-9223372036854775808)) (List.mem_of_getElem? (i := 1) rfl)) dX9_bendOf_14 ?_
      cases hf
      rw [← hQ]
      exact rt_l hx hb hr hlk hP hD hS rfl dX9_bendOf_17
def pX9_times (n : Nat) (v_sums : (Nat → Int64)) (p1 : Int32) (p2 : Int32) (p3 : Int32) : Option (Int64 × (Nat → Int64)) := Option.bind (pX9_isPlace p2) (fun r1 => if r1 = 0 then some ((-9223372036854775808 : Int64), v_sums) else Option.bind (pX9_isWord n p1) (fun r3 => if r3 = 0 then some ((-9223372036854775808 : Int64), v_sums) else Option.bind (pX9_within p3 (0 : Int32) (3 : Int32)) (fun r5 => if r5 = 0 then some ((-9223372036854775808 : Int64), v_sums) else Option.bind (pX9_laysWord n v_sums p1) (fun r7 => ck (ix (((4 : Int32) * (p2 - (1 : Int32))) + p3) 16) (some (r7 (((4 : Int32) * (p2 - (1 : Int32))) + p3).toNatClampNeg, r7))))))
def rmX9_times : Room := { frames := 3, cells := 0, slots := 0, locals := 66 }
theorem hiX9_times_X9 : ∀ w ∈ u_ws RX9 TX9 17, w ∈ wsX9_times := fun _ h => List.mem_cons_of_mem _ (List.mem_append_right _ h)
set_option maxRecDepth 100000 in
set_option maxHeartbeats 4000000 in
theorem kX9_times {l : Launch} {G : va_G} {cI cJ cZ cS cG : ClassId} (n : Nat) (q q_bends q_rootAt q_pile q_lastAt q_nextAt q_hasBend q_isMet q_queue q_sums q_kept q_isKept q_copies q_shelfMany q_shelfSort q_shelfHas : Nat) (v_stepAt : Int32) (v_justMany : Int32) (v_sums : (Nat → Int64)) (p1 : Int32) (p2 : Int32) (p3 : Int32) (R : Int64 × (Nat → Int64)) (hf : pX9_times n v_sums p1 p2 p3 = some R) : CTl l yX9_times wsX9_times rmX9_times G cI cJ cZ cS cG [.ref q, .int p1, .int p2, .int p3] [(q, .inr (9, [.ref q_bends, .ref q_rootAt, .int v_stepAt, .ref q_pile, .ref q_lastAt, .ref q_nextAt, .ref q_hasBend, .int v_justMany, .ref q_isMet, .ref q_queue, .ref q_sums, .ref q_kept, .ref q_isKept, .ref q_copies, .ref q_shelfMany, .ref q_shelfSort, .ref q_shelfHas])), (q_sums, .inl (cJ, 16, .inr (.inl v_sums)))] [(q, .inr (9, [.ref q_bends, .ref q_rootAt, .int v_stepAt, .ref q_pile, .ref q_lastAt, .ref q_nextAt, .ref q_hasBend, .int v_justMany, .ref q_isMet, .ref q_queue, .ref q_sums, .ref q_kept, .ref q_isKept, .ref q_copies, .ref q_shelfMany, .ref q_shelfSort, .ref q_shelfHas])), (q_sums, .inl (cJ, 16, .inr (.inl R.2)))] R.1 := by
  refine Met.ofE (Qc := fun A => QRl G A [(q, .inr (9, [.ref q_bends, .ref q_rootAt, .int v_stepAt, .ref q_pile, .ref q_lastAt, .ref q_nextAt, .ref q_hasBend, .int v_justMany, .ref q_isMet, .ref q_queue, .ref q_sums, .ref q_kept, .ref q_isKept, .ref q_copies, .ref q_shelfMany, .ref q_shelfSort, .ref q_shelfHas])), (q_sums, .inl (cJ, 16, .inr (.inl R.2)))] R.1) (cc := cX9_times) (nL := 4) (ret := some .long) (plainFor_of_name (by decide +kernel)) rfl (Nat.le_of_ble_eq_true rfl) ?_
  intro p e s m below meth c A ls hx hb hml hr hlk hts hown hK hA hP hD hS hl
  have hown : s.vm.findClass RX9 = some m.cls := hown
  have hl : lv_has ls 4 [(0, .ref q), (1, .int p1), (2, .int p2), (3, .int p3)] := hl
  generalize hQ : MQ below (QRl G A [(q, .inr (9, [.ref q_bends, .ref q_rootAt, .int v_stepAt, .ref q_pile, .ref q_lastAt, .ref q_nextAt, .ref q_hasBend, .int v_justMany, .ref q_isMet, .ref q_queue, .ref q_sums, .ref q_kept, .ref q_isKept, .ref q_copies, .ref q_shelfMany, .ref q_shelfSort, .ref q_shelfHas])), (q_sums, .inl (cJ, 16, .inr (.inl R.2)))] R.1) ([.ref q, .int p1, .int p2, .int p3] : List Value).toArray s 0 0 A = QQ
  unfold pX9_times at hf
  refine lv_iload_n hx hb dX9_times_0 rfl (lv_at hl 2 rfl) ?_
  obtain ⟨r1, hc1, hf⟩ := ob_s hf
  refine bk_i (wc := []) (wc2 := []) (wr := [(q, .inr (9, [.ref q_bends, .ref q_rootAt, .int v_stepAt, .ref q_pile, .ref q_lastAt, .ref q_nextAt, .ref q_hasBend, .int v_justMany, .ref q_isMet, .ref q_queue, .ref q_sums, .ref q_kept, .ref q_isKept, .ref q_copies, .ref q_shelfMany, .ref q_shelfSort, .ref q_shelfHas])), (q_sums, .inl (cJ, 16, .inr (.inl v_sums)))]) (ws2 := [(q, .inr (9, [.ref q_bends, .ref q_rootAt, .int v_stepAt, .ref q_pile, .ref q_lastAt, .ref q_nextAt, .ref q_hasBend, .int v_justMany, .ref q_isMet, .ref q_queue, .ref q_sums, .ref q_kept, .ref q_isKept, .ref q_copies, .ref q_shelfMany, .ref q_shelfSort, .ref q_shelfHas])), (q_sums, .inl (cJ, 16, .inr (.inl v_sums)))]) (r := r1) (va_runS (As := [.int p2]) (rest := []) ⟨hx, hb, hml, hown, hts⟩ (kX9_isPlace (l := l) (G := G) (cI := cI) (cJ := cJ) (cZ := cZ) (cS := cS) (cG := cG) p2 _ hc1 _) (va_cwS 1 hts gX9_times_X9_isPlace rfl rfl rfl (by decide +kernel) ⟨Nat.le_of_ble_eq_true rfl, Nat.le_of_ble_eq_true rfl⟩) (cut_S hK hP hD [] rfl rfl) rfl rfl hl.1 rfl (lv_room (Nat.le_of_ble_eq_true rfl)) dX9_times_1 ⟨Nat.zero_le _, Nat.zero_le _⟩) hP hD hS hA [] [0, 1] [0, 1] rfl rfl rfl rfl rfl rfl (fun H locs hP hD hS => ?_)
  refine lv_if_eq (tgt := 23) hx hb dX9_times_4 (by decide) (fun c2 => ?_) (fun c2 => ?_)
  · have hf := if_s hf c2
    refine lv_ldc2 (v := (-9223372036854775808)) hx hb hown (hts (.constantLong RX9 80 (-9223372036854775808)) (List.mem_of_getElem? (i := 1) rfl)) dX9_times_23 ?_
    cases hf
    rw [← hQ]
    exact rt_l hx hb hr hlk hP hD hS rfl dX9_times_26
  · have hf := if_n hf c2
    refine lv_iload_n hx hb dX9_times_7 rfl (lv_at hl 1 rfl) ?_
    obtain ⟨r3, hc3, hf⟩ := ob_s hf
    refine bk_i (wc := []) (wc2 := []) (wr := [(q, .inr (9, [.ref q_bends, .ref q_rootAt, .int v_stepAt, .ref q_pile, .ref q_lastAt, .ref q_nextAt, .ref q_hasBend, .int v_justMany, .ref q_isMet, .ref q_queue, .ref q_sums, .ref q_kept, .ref q_isKept, .ref q_copies, .ref q_shelfMany, .ref q_shelfSort, .ref q_shelfHas])), (q_sums, .inl (cJ, 16, .inr (.inl v_sums)))]) (ws2 := [(q, .inr (9, [.ref q_bends, .ref q_rootAt, .int v_stepAt, .ref q_pile, .ref q_lastAt, .ref q_nextAt, .ref q_hasBend, .int v_justMany, .ref q_isMet, .ref q_queue, .ref q_sums, .ref q_kept, .ref q_isKept, .ref q_copies, .ref q_shelfMany, .ref q_shelfSort, .ref q_shelfHas])), (q_sums, .inl (cJ, 16, .inr (.inl v_sums)))]) (r := r3) (va_runS (As := [.int p1]) (rest := []) ⟨hx, hb, hml, hown, hts⟩ (kX9_isWord (l := l) (G := G) (cI := cI) (cJ := cJ) (cZ := cZ) (cS := cS) (cG := cG) n p1 _ hc3 _) (va_cwS 1 hts gX9_times_X9_isWord rfl rfl rfl (by decide +kernel) ⟨Nat.le_of_ble_eq_true rfl, Nat.le_of_ble_eq_true rfl⟩) (cut_S hK hP hD [] rfl rfl) rfl rfl hl.1 rfl (lv_room (Nat.le_of_ble_eq_true rfl)) dX9_times_8 ⟨Nat.zero_le _, Nat.zero_le _⟩) hP hD hS hA [] [0, 1] [0, 1] rfl rfl rfl rfl rfl rfl (fun H locs hP hD hS => ?_)
    refine lv_if_eq (tgt := 23) hx hb dX9_times_11 (by decide) (fun c4 => ?_) (fun c4 => ?_)
    · have hf := if_s hf c4
      refine lv_ldc2 (v := (-9223372036854775808)) hx hb hown (hts (.constantLong RX9 80 (-9223372036854775808)) (List.mem_of_getElem? (i := 1) rfl)) dX9_times_23 ?_
      cases hf
      rw [← hQ]
      exact rt_l hx hb hr hlk hP hD hS rfl dX9_times_26
    · have hf := if_n hf c4
      refine lv_iload_n hx hb dX9_times_14 rfl (lv_at hl 3 rfl) ?_
      refine lv_iconst (v := 0) hx hb dX9_times_15 (by decide) ?_
      refine lv_iconst (v := 3) hx hb dX9_times_16 (by decide) ?_
      obtain ⟨r5, hc5, hf⟩ := ob_s hf
      refine bk_i (wc := []) (wc2 := []) (wr := [(q, .inr (9, [.ref q_bends, .ref q_rootAt, .int v_stepAt, .ref q_pile, .ref q_lastAt, .ref q_nextAt, .ref q_hasBend, .int v_justMany, .ref q_isMet, .ref q_queue, .ref q_sums, .ref q_kept, .ref q_isKept, .ref q_copies, .ref q_shelfMany, .ref q_shelfSort, .ref q_shelfHas])), (q_sums, .inl (cJ, 16, .inr (.inl v_sums)))]) (ws2 := [(q, .inr (9, [.ref q_bends, .ref q_rootAt, .int v_stepAt, .ref q_pile, .ref q_lastAt, .ref q_nextAt, .ref q_hasBend, .int v_justMany, .ref q_isMet, .ref q_queue, .ref q_sums, .ref q_kept, .ref q_isKept, .ref q_copies, .ref q_shelfMany, .ref q_shelfSort, .ref q_shelfHas])), (q_sums, .inl (cJ, 16, .inr (.inl v_sums)))]) (r := r5) (va_runS (As := [.int p3, .int (0 : Int32), .int (3 : Int32)]) (rest := []) ⟨hx, hb, hml, hown, hts⟩ (kX9_within (l := l) (G := G) (cI := cI) (cJ := cJ) (cZ := cZ) (cS := cS) (cG := cG) p3 (0 : Int32) (3 : Int32) _ hc5 _) (va_cwS 3 hts gX9_times_X9_within rfl rfl rfl (by decide +kernel) ⟨Nat.le_of_ble_eq_true rfl, Nat.le_of_ble_eq_true rfl⟩) (cut_S hK hP hD [] rfl rfl) rfl rfl hl.1 rfl (lv_room (Nat.le_of_ble_eq_true rfl)) dX9_times_17 ⟨Nat.zero_le _, Nat.zero_le _⟩) hP hD hS hA [] [0, 1] [0, 1] rfl rfl rfl rfl rfl rfl (fun H locs hP hD hS => ?_)
      refine lv_if_ne (tgt := 27) hx hb dX9_times_20 (by decide) (fun c6 => ?_) (fun c6 => ?_)
      · have hf := if_n hf c6
        refine lv_aload_n hx hb dX9_times_27 rfl (lv_at hl 0 rfl) ?_
        refine lv_iload_n hx hb dX9_times_28 rfl (lv_at hl 1 rfl) ?_
        obtain ⟨r7, hc7, hf⟩ := ob_s hf
        refine bk_v (wc := [(q, .inr (9, [.ref q_bends, .ref q_rootAt, .int v_stepAt, .ref q_pile, .ref q_lastAt, .ref q_nextAt, .ref q_hasBend, .int v_justMany, .ref q_isMet, .ref q_queue, .ref q_sums, .ref q_kept, .ref q_isKept, .ref q_copies, .ref q_shelfMany, .ref q_shelfSort, .ref q_shelfHas])), (q_sums, .inl (cJ, 16, .inr (.inl v_sums)))]) (wc2 := [(q, .inr (9, [.ref q_bends, .ref q_rootAt, .int v_stepAt, .ref q_pile, .ref q_lastAt, .ref q_nextAt, .ref q_hasBend, .int v_justMany, .ref q_isMet, .ref q_queue, .ref q_sums, .ref q_kept, .ref q_isKept, .ref q_copies, .ref q_shelfMany, .ref q_shelfSort, .ref q_shelfHas])), (q_sums, .inl (cJ, 16, .inr (.inl r7)))]) (wr := []) (ws2 := [(q, .inr (9, [.ref q_bends, .ref q_rootAt, .int v_stepAt, .ref q_pile, .ref q_lastAt, .ref q_nextAt, .ref q_hasBend, .int v_justMany, .ref q_isMet, .ref q_queue, .ref q_sums, .ref q_kept, .ref q_isKept, .ref q_copies, .ref q_shelfMany, .ref q_shelfSort, .ref q_shelfHas])), (q_sums, .inl (cJ, 16, .inr (.inl r7)))]) (va_runV (As := [.int p1]) (rest := []) ⟨hx, hb, hml, hown, hts⟩ (kX9_laysWord (l := l) (G := G) (cI := cI) (cJ := cJ) (cZ := cZ) (cS := cS) (cG := cG) n q q_bends q_rootAt q_pile q_lastAt q_nextAt q_hasBend q_isMet q_queue q_sums q_kept q_isKept q_copies q_shelfMany q_shelfSort q_shelfHas v_stepAt v_justMany v_sums p1 _ hc7 _) (cwV 1 hts gX9_times_X9_laysWord rfl rfl rfl (by decide +kernel) ⟨Nat.le_of_ble_eq_true rfl, Nat.le_of_ble_eq_true rfl⟩) (cut_V hK hP hD [0, 1] rfl rfl (ci := 9) (q0 := 0) rfl rfl) rfl rfl hl.1 rfl (lv_room (Nat.le_of_ble_eq_true rfl)) dX9_times_29 ⟨Nat.zero_le _, Nat.zero_le _⟩) hP hD hS hA [0, 1] [] [0, 1] rfl rfl rfl rfl rfl rfl (fun H locs hP hD hS => ?_)
        refine lv_aload_n hx hb dX9_times_32 rfl (lv_at hl 0 rfl) ?_
        refine va_get (D := G) (ci := 9) (v := .ref q_sums) (C := RX9) (T := TX9) (N := 17) hx hb hts hiX9_times_X9 hown hK.1 hP 0 rfl rfl 10 (by decide) (hts (.fieldLink RX9 36 "PackedBendsModel" "sums" "[J") (List.mem_of_getElem? (i := 2) rfl)) (fun _ h9 => h9) rfl dX9_times_33 ?_
        refine lv_iconst (v := 4) hx hb dX9_times_36 (by decide) ?_
        refine lv_iload_n hx hb dX9_times_37 rfl (lv_at hl 2 rfl) ?_
        refine lv_iconst (v := 1) hx hb dX9_times_38 (by decide) ?_
        refine lv_isub hx hb dX9_times_39 ?_
        refine lv_imul hx hb dX9_times_40 ?_
        refine lv_iload_n hx hb dX9_times_41 rfl (lv_at hl 3 rfl) ?_
        refine lv_iadd hx hb dX9_times_42 ?_
        obtain ⟨z8, hf⟩ := ck_s hf
        refine va_lald hx hb hK.1 hP 1 1 rfl rfl (vp_in_iff.mpr z8) dX9_times_43 ?_
        cases hf
        rw [← hQ]
        exact rt_l hx hb hr hlk hP hD hS rfl dX9_times_44
      · have hf := if_s hf c6
        refine lv_ldc2 (v := (-9223372036854775808)) hx hb hown (hts (.constantLong RX9 80 (-9223372036854775808)) (List.mem_of_getElem? (i := 1) rfl)) dX9_times_23 ?_
        cases hf
        rw [← hQ]
        exact rt_l hx hb hr hlk hP hD hS rfl dX9_times_26
def pX9_keeps_L2 (x1 : Int32) (v_sums : (Nat → Int64)) : Nat → Int32 → (Nat → Int64) → (Int32 → (Nat → Int64) → Option ((Nat → Int64))) → Option ((Nat → Int64))
  | 0, _, _, _ => none
  | n + 1, x2, v_kept, k => if (4 : Int32) ≤ x2 then k x2 v_kept else ck (ix (((4 : Int32) * x1) + x2) 16) (ck (ix x2 4) (pX9_keeps_L2 x1 v_sums n (x2 + (1 : Int32)) (vp_updL v_kept x2.toNatClampNeg (v_sums (((4 : Int32) * x1) + x2).toNatClampNeg)) k))
def pX9_keeps (n : Nat) (v_sums : (Nat → Int64)) (v_kept : (Nat → Int64)) (p1 : Int32) : Option ((Nat → Int64)) := pX9_keeps_L2 p1 v_sums n (0 : Int32) v_kept (fun (y2_4 : Int32) (u4_kept : (Nat → Int64)) => some u4_kept)
def rmX9_keeps : Room := { frames := 0, cells := 0, slots := 0, locals := 0 }
theorem hiX9_keeps_X9 : ∀ w ∈ u_ws RX9 TX9 17, w ∈ wsX9_keeps := fun _ h => List.mem_cons_of_mem _ (List.mem_append_right _ h)
set_option maxRecDepth 100000 in
set_option maxHeartbeats 4000000 in
theorem kX9_keeps {l : Launch} {G : va_G} {cI cJ cZ cS cG : ClassId} (n : Nat) (q q_bends q_rootAt q_pile q_lastAt q_nextAt q_hasBend q_isMet q_queue q_sums q_kept q_isKept q_copies q_shelfMany q_shelfSort q_shelfHas : Nat) (v_stepAt : Int32) (v_justMany : Int32) (v_sums : (Nat → Int64)) (v_kept : (Nat → Int64)) (p1 : Int32) (R : (Nat → Int64)) (hf : pX9_keeps n v_sums v_kept p1 = some R) : CTv l yX9_keeps wsX9_keeps rmX9_keeps G cI cJ cZ cS cG [.ref q, .int p1] [(q, .inr (9, [.ref q_bends, .ref q_rootAt, .int v_stepAt, .ref q_pile, .ref q_lastAt, .ref q_nextAt, .ref q_hasBend, .int v_justMany, .ref q_isMet, .ref q_queue, .ref q_sums, .ref q_kept, .ref q_isKept, .ref q_copies, .ref q_shelfMany, .ref q_shelfSort, .ref q_shelfHas])), (q_sums, .inl (cJ, 16, .inr (.inl v_sums))), (q_kept, .inl (cJ, 4, .inr (.inl v_kept)))] [(q, .inr (9, [.ref q_bends, .ref q_rootAt, .int v_stepAt, .ref q_pile, .ref q_lastAt, .ref q_nextAt, .ref q_hasBend, .int v_justMany, .ref q_isMet, .ref q_queue, .ref q_sums, .ref q_kept, .ref q_isKept, .ref q_copies, .ref q_shelfMany, .ref q_shelfSort, .ref q_shelfHas])), (q_sums, .inl (cJ, 16, .inr (.inl v_sums))), (q_kept, .inl (cJ, 4, .inr (.inl R)))] := by
  refine Met.ofE (Qc := fun A => QRv G A [(q, .inr (9, [.ref q_bends, .ref q_rootAt, .int v_stepAt, .ref q_pile, .ref q_lastAt, .ref q_nextAt, .ref q_hasBend, .int v_justMany, .ref q_isMet, .ref q_queue, .ref q_sums, .ref q_kept, .ref q_isKept, .ref q_copies, .ref q_shelfMany, .ref q_shelfSort, .ref q_shelfHas])), (q_sums, .inl (cJ, 16, .inr (.inl v_sums))), (q_kept, .inl (cJ, 4, .inr (.inl R)))]) (cc := cX9_keeps) (nL := 3) (ret := none) (plainFor_of_name (by decide +kernel)) rfl (Nat.le_of_ble_eq_true rfl) ?_
  intro p e s m below meth c A ls hx hb hml hr hlk hts hown hK hA hP hD hS hl
  have hown : s.vm.findClass RX9 = some m.cls := hown
  have hl : lv_has ls 3 [(0, .ref q), (1, .int p1)] := hl
  generalize hQ : MQ below (QRv G A [(q, .inr (9, [.ref q_bends, .ref q_rootAt, .int v_stepAt, .ref q_pile, .ref q_lastAt, .ref q_nextAt, .ref q_hasBend, .int v_justMany, .ref q_isMet, .ref q_queue, .ref q_sums, .ref q_kept, .ref q_isKept, .ref q_copies, .ref q_shelfMany, .ref q_shelfSort, .ref q_shelfHas])), (q_sums, .inl (cJ, 16, .inr (.inl v_sums))), (q_kept, .inl (cJ, 4, .inr (.inl R)))]) ([.ref q, .int p1] : List Value).toArray s 0 0 A = QQ
  unfold pX9_keeps at hf
  have hL2 : ∀ (x1 : Int32) (k : Int32 → (Nat → Int64) → Option ((Nat → Int64))), (∀ (x2 : Int32) (v_kept : (Nat → Int64)) (H : Heap) (locs : List Loc) (ls : Array Slot), k x2 v_kept = some R → va_P G vwCl [(q, .inr (9, [.ref q_bends, .ref q_rootAt, .int v_stepAt, .ref q_pile, .ref q_lastAt, .ref q_nextAt, .ref q_hasBend, .int v_justMany, .ref q_isMet, .ref q_queue, .ref q_sums, .ref q_kept, .ref q_isKept, .ref q_copies, .ref q_shelfMany, .ref q_shelfSort, .ref q_shelfHas])), (q_sums, .inl (cJ, 16, .inr (.inl v_sums))), (q_kept, .inl (cJ, 4, .inr (.inl v_kept)))] H → va_D A [(q, .inr (9, [.ref q_bends, .ref q_rootAt, .int v_stepAt, .ref q_pile, .ref q_lastAt, .ref q_nextAt, .ref q_hasBend, .int v_justMany, .ref q_isMet, .ref q_queue, .ref q_sums, .ref q_kept, .ref q_isKept, .ref q_copies, .ref q_shelfMany, .ref q_shelfSort, .ref q_shelfHas])), (q_sums, .inl (cJ, 16, .inr (.inl v_sums))), (q_kept, .inl (cJ, 4, .inr (.inl v_kept)))] → va_S A s.heap H locs → lv_has ls 3 [(0, .ref q), (1, .int x1), (2, .int x2)] → W p l e rmX9_keeps s m ([.ref q, .int p1] : List Value).toArray below meth c H locs 0 0 QQ (F0 m 29 ls [])) → ∀ (n : Nat) (x2 : Int32) (v_kept : (Nat → Int64)) (H : Heap) (locs : List Loc) (ls : Array Slot), pX9_keeps_L2 x1 v_sums n x2 v_kept k = some R → va_P G vwCl [(q, .inr (9, [.ref q_bends, .ref q_rootAt, .int v_stepAt, .ref q_pile, .ref q_lastAt, .ref q_nextAt, .ref q_hasBend, .int v_justMany, .ref q_isMet, .ref q_queue, .ref q_sums, .ref q_kept, .ref q_isKept, .ref q_copies, .ref q_shelfMany, .ref q_shelfSort, .ref q_shelfHas])), (q_sums, .inl (cJ, 16, .inr (.inl v_sums))), (q_kept, .inl (cJ, 4, .inr (.inl v_kept)))] H → va_D A [(q, .inr (9, [.ref q_bends, .ref q_rootAt, .int v_stepAt, .ref q_pile, .ref q_lastAt, .ref q_nextAt, .ref q_hasBend, .int v_justMany, .ref q_isMet, .ref q_queue, .ref q_sums, .ref q_kept, .ref q_isKept, .ref q_copies, .ref q_shelfMany, .ref q_shelfSort, .ref q_shelfHas])), (q_sums, .inl (cJ, 16, .inr (.inl v_sums))), (q_kept, .inl (cJ, 4, .inr (.inl v_kept)))] → va_S A s.heap H locs → lv_has ls 3 [(0, .ref q), (1, .int x1), (2, .int x2)] → W p l e rmX9_keeps s m ([.ref q, .int p1] : List Value).toArray below meth c H locs 0 0 QQ (F0 m 2 ls []) := by
    intro x1 k hk n
    induction n with
    | zero =>
      intro x2 v_kept H locs ls hf
      cases hf
    | succ n ih =>
      intro x2 v_kept H locs ls hf hP hD hS hl
      unfold pX9_keeps_L2 at hf
      refine lv_iload_n hx hb dX9_keeps_2 rfl (lv_at hl 2 rfl) ?_
      refine lv_iconst (v := 4) hx hb dX9_keeps_3 (by decide) ?_
      refine lv_icmp_ge (tgt := 29) hx hb dX9_keeps_4 (by decide) (fun c1 => ?_) (fun c1 => ?_)
      · have hf := if_s hf c1
        exact hk x2 v_kept _ _ _ hf hP hD hS (lv_sub hl [0, 1, 2] rfl)
      · have hf := if_n hf c1
        refine lv_aload_n hx hb dX9_keeps_7 rfl (lv_at hl 0 rfl) ?_
        refine va_get (D := G) (ci := 9) (v := .ref q_kept) (C := RX9) (T := TX9) (N := 17) hx hb hts hiX9_keeps_X9 hown hK.1 hP 0 rfl rfl 11 (by decide) (hts (.fieldLink RX9 39 "PackedBendsModel" "kept" "[J") (List.mem_of_getElem? (i := 1) rfl)) (fun _ h9 => h9) rfl dX9_keeps_8 ?_
        refine lv_iload_n hx hb dX9_keeps_11 rfl (lv_at hl 2 rfl) ?_
        refine lv_aload_n hx hb dX9_keeps_12 rfl (lv_at hl 0 rfl) ?_
        refine va_get (D := G) (ci := 9) (v := .ref q_sums) (C := RX9) (T := TX9) (N := 17) hx hb hts hiX9_keeps_X9 hown hK.1 hP 0 rfl rfl 10 (by decide) (hts (.fieldLink RX9 36 "PackedBendsModel" "sums" "[J") (List.mem_of_getElem? (i := 2) rfl)) (fun _ h9 => h9) rfl dX9_keeps_13 ?_
        refine lv_iconst (v := 4) hx hb dX9_keeps_16 (by decide) ?_
        refine lv_iload_n hx hb dX9_keeps_17 rfl (lv_at hl 1 rfl) ?_
        refine lv_imul hx hb dX9_keeps_18 ?_
        refine lv_iload_n hx hb dX9_keeps_19 rfl (lv_at hl 2 rfl) ?_
        refine lv_iadd hx hb dX9_keeps_20 ?_
        obtain ⟨z2, hf⟩ := ck_s hf
        refine va_lald hx hb hK.1 hP 1 1 rfl rfl (vp_in_iff.mpr z2) dX9_keeps_21 ?_
        obtain ⟨z3, hf⟩ := ck_s hf
        refine va_last hx hb hK.1 hP hD hS 2 1 rfl rfl (vp_in_iff.mpr z3) dX9_keeps_22 (fun H locs hP hD hS => ?_)
        have hP : va_P G vwCl [(q, .inr (9, [.ref q_bends, .ref q_rootAt, .int v_stepAt, .ref q_pile, .ref q_lastAt, .ref q_nextAt, .ref q_hasBend, .int v_justMany, .ref q_isMet, .ref q_queue, .ref q_sums, .ref q_kept, .ref q_isKept, .ref q_copies, .ref q_shelfMany, .ref q_shelfSort, .ref q_shelfHas])), (q_sums, .inl (cJ, 16, .inr (.inl v_sums))), (q_kept, .inl (cJ, 4, .inr (.inl (vp_updL v_kept x2.toNatClampNeg (v_sums (((4 : Int32) * x1) + x2).toNatClampNeg)))))] H := hP
        have hD : va_D A [(q, .inr (9, [.ref q_bends, .ref q_rootAt, .int v_stepAt, .ref q_pile, .ref q_lastAt, .ref q_nextAt, .ref q_hasBend, .int v_justMany, .ref q_isMet, .ref q_queue, .ref q_sums, .ref q_kept, .ref q_isKept, .ref q_copies, .ref q_shelfMany, .ref q_shelfSort, .ref q_shelfHas])), (q_sums, .inl (cJ, 16, .inr (.inl v_sums))), (q_kept, .inl (cJ, 4, .inr (.inl (vp_updL v_kept x2.toNatClampNeg (v_sums (((4 : Int32) * x1) + x2).toNatClampNeg)))))] := hD
        refine lv_iinc (v := x2 + (1 : Int32)) (lv' := [(2, .int (x2 + (1 : Int32))), (0, .ref q), (1, .int x1)]) hx hb dX9_keeps_23 hl (k := 2) rfl rfl (by decide) rfl (fun ls hl => ?_)
        refine lv_goto (tgt := 2) hx hb dX9_keeps_26 (by decide) ?_
        exact ih (x2 + (1 : Int32)) (vp_updL v_kept x2.toNatClampNeg (v_sums (((4 : Int32) * x1) + x2).toNatClampNeg)) _ _ _ hf hP hD hS (lv_sub hl [1, 2, 0] rfl)
  refine lv_iconst (v := 0) hx hb dX9_keeps_0 (by decide) ?_
  refine lv_istore_n (lv' := [(2, .int (0 : Int32)), (0, .ref q), (1, .int p1)]) hx hb dX9_keeps_1 rfl hl (by decide) rfl (fun ls hl => ?_)
  refine hL2 p1 _ (fun y2_4 u4_kept H locs ls hf hP hD hS hl => ?_) n (0 : Int32) v_kept _ _ _ hf hP hD hS (lv_sub hl [1, 2, 0] rfl)
  have hP : va_P G vwCl [(q, .inr (9, [.ref q_bends, .ref q_rootAt, .int v_stepAt, .ref q_pile, .ref q_lastAt, .ref q_nextAt, .ref q_hasBend, .int v_justMany, .ref q_isMet, .ref q_queue, .ref q_sums, .ref q_kept, .ref q_isKept, .ref q_copies, .ref q_shelfMany, .ref q_shelfSort, .ref q_shelfHas])), (q_sums, .inl (cJ, 16, .inr (.inl v_sums))), (q_kept, .inl (cJ, 4, .inr (.inl u4_kept)))] H := hP
  have hD : va_D A [(q, .inr (9, [.ref q_bends, .ref q_rootAt, .int v_stepAt, .ref q_pile, .ref q_lastAt, .ref q_nextAt, .ref q_hasBend, .int v_justMany, .ref q_isMet, .ref q_queue, .ref q_sums, .ref q_kept, .ref q_isKept, .ref q_copies, .ref q_shelfMany, .ref q_shelfSort, .ref q_shelfHas])), (q_sums, .inl (cJ, 16, .inr (.inl v_sums))), (q_kept, .inl (cJ, 4, .inr (.inl u4_kept)))] := hD
  cases hf
  rw [← hQ]
  exact rt_v hx hb hr hlk hP hD hS dX9_keeps_29
def pX9_productWith_L11 (x1 : Int32) (v_sums : (Nat → Int64)) (v_kept : (Nat → Int64)) : Nat → Int64 → Int64 → Int64 → Int32 → (Int64 → Int64 → Int64 → Int32 → Option (Int64)) → Option (Int64)
  | 0, _, _, _, _, _ => none
  | n + 1, x2, x4, x6, x8, k => if (4 : Int32) ≤ x8 then k x2 x4 x6 x8 else ck (ix x8 4) (ck (ix (((4 : Int32) * x1) + x8) 16) (pX9_productWith_L11 x1 v_sums v_kept n (x2 + ((v_kept x8.toNatClampNeg) * (v_sums (((4 : Int32) * x1) + x8).toNatClampNeg))) (x4 + (v_kept x8.toNatClampNeg)) (x6 + (v_sums (((4 : Int32) * x1) + x8).toNatClampNeg)) (x8 + (1 : Int32)) k))
def pX9_productWith (n : Nat) (v_sums : (Nat → Int64)) (v_kept : (Nat → Int64)) (p1 : Int32) : Option (Int64) := pX9_productWith_L11 p1 v_sums v_kept n (0 : Int64) (0 : Int64) (0 : Int64) (0 : Int32) (fun (y2_4 : Int64) (y4_4 : Int64) (y6_4 : Int64) (y8_4 : Int32) => some (((2 : Int64) * y2_4) - (y4_4 * y6_4)))
def rmX9_productWith : Room := { frames := 0, cells := 0, slots := 0, locals := 0 }
theorem hiX9_productWith_X9 : ∀ w ∈ u_ws RX9 TX9 17, w ∈ wsX9_productWith := fun _ h => List.mem_cons_of_mem _ (List.mem_append_right _ h)
set_option maxRecDepth 100000 in
set_option maxHeartbeats 4000000 in
theorem kX9_productWith {l : Launch} {G : va_G} {cI cJ cZ cS cG : ClassId} (n : Nat) (q q_bends q_rootAt q_pile q_lastAt q_nextAt q_hasBend q_isMet q_queue q_sums q_kept q_isKept q_copies q_shelfMany q_shelfSort q_shelfHas : Nat) (v_stepAt : Int32) (v_justMany : Int32) (v_sums : (Nat → Int64)) (v_kept : (Nat → Int64)) (p1 : Int32) (R : Int64) (hf : pX9_productWith n v_sums v_kept p1 = some R) : CTl l yX9_productWith wsX9_productWith rmX9_productWith G cI cJ cZ cS cG [.ref q, .int p1] [(q, .inr (9, [.ref q_bends, .ref q_rootAt, .int v_stepAt, .ref q_pile, .ref q_lastAt, .ref q_nextAt, .ref q_hasBend, .int v_justMany, .ref q_isMet, .ref q_queue, .ref q_sums, .ref q_kept, .ref q_isKept, .ref q_copies, .ref q_shelfMany, .ref q_shelfSort, .ref q_shelfHas])), (q_sums, .inl (cJ, 16, .inr (.inl v_sums))), (q_kept, .inl (cJ, 4, .inr (.inl v_kept)))] [(q, .inr (9, [.ref q_bends, .ref q_rootAt, .int v_stepAt, .ref q_pile, .ref q_lastAt, .ref q_nextAt, .ref q_hasBend, .int v_justMany, .ref q_isMet, .ref q_queue, .ref q_sums, .ref q_kept, .ref q_isKept, .ref q_copies, .ref q_shelfMany, .ref q_shelfSort, .ref q_shelfHas])), (q_sums, .inl (cJ, 16, .inr (.inl v_sums))), (q_kept, .inl (cJ, 4, .inr (.inl v_kept)))] R := by
  refine Met.ofE (Qc := fun A => QRl G A [(q, .inr (9, [.ref q_bends, .ref q_rootAt, .int v_stepAt, .ref q_pile, .ref q_lastAt, .ref q_nextAt, .ref q_hasBend, .int v_justMany, .ref q_isMet, .ref q_queue, .ref q_sums, .ref q_kept, .ref q_isKept, .ref q_copies, .ref q_shelfMany, .ref q_shelfSort, .ref q_shelfHas])), (q_sums, .inl (cJ, 16, .inr (.inl v_sums))), (q_kept, .inl (cJ, 4, .inr (.inl v_kept)))] R) (cc := cX9_productWith) (nL := 9) (ret := some .long) (plainFor_of_name (by decide +kernel)) rfl (Nat.le_of_ble_eq_true rfl) ?_
  intro p e s m below meth c A ls hx hb hml hr hlk hts hown hK hA hP hD hS hl
  have hown : s.vm.findClass RX9 = some m.cls := hown
  have hl : lv_has ls 9 [(0, .ref q), (1, .int p1)] := hl
  generalize hQ : MQ below (QRl G A [(q, .inr (9, [.ref q_bends, .ref q_rootAt, .int v_stepAt, .ref q_pile, .ref q_lastAt, .ref q_nextAt, .ref q_hasBend, .int v_justMany, .ref q_isMet, .ref q_queue, .ref q_sums, .ref q_kept, .ref q_isKept, .ref q_copies, .ref q_shelfMany, .ref q_shelfSort, .ref q_shelfHas])), (q_sums, .inl (cJ, 16, .inr (.inl v_sums))), (q_kept, .inl (cJ, 4, .inr (.inl v_kept)))] R) ([.ref q, .int p1] : List Value).toArray s 0 0 A = QQ
  unfold pX9_productWith at hf
  have hL11 : ∀ (x1 : Int32) (k : Int64 → Int64 → Int64 → Int32 → Option (Int64)), (∀ (x2 : Int64) (x4 : Int64) (x6 : Int64) (x8 : Int32) (H : Heap) (locs : List Loc) (ls : Array Slot), k x2 x4 x6 x8 = some R → va_P G vwCl [(q, .inr (9, [.ref q_bends, .ref q_rootAt, .int v_stepAt, .ref q_pile, .ref q_lastAt, .ref q_nextAt, .ref q_hasBend, .int v_justMany, .ref q_isMet, .ref q_queue, .ref q_sums, .ref q_kept, .ref q_isKept, .ref q_copies, .ref q_shelfMany, .ref q_shelfSort, .ref q_shelfHas])), (q_sums, .inl (cJ, 16, .inr (.inl v_sums))), (q_kept, .inl (cJ, 4, .inr (.inl v_kept)))] H → va_D A [(q, .inr (9, [.ref q_bends, .ref q_rootAt, .int v_stepAt, .ref q_pile, .ref q_lastAt, .ref q_nextAt, .ref q_hasBend, .int v_justMany, .ref q_isMet, .ref q_queue, .ref q_sums, .ref q_kept, .ref q_isKept, .ref q_copies, .ref q_shelfMany, .ref q_shelfSort, .ref q_shelfHas])), (q_sums, .inl (cJ, 16, .inr (.inl v_sums))), (q_kept, .inl (cJ, 4, .inr (.inl v_kept)))] → va_S A s.heap H locs → lv_has ls 9 [(0, .ref q), (1, .int x1), (2, .long x2), (4, .long x4), (6, .long x6), (8, .int x8)] → W p l e rmX9_productWith s m ([.ref q, .int p1] : List Value).toArray below meth c H locs 0 0 QQ (F0 m 73 ls [])) → ∀ (n : Nat) (x2 : Int64) (x4 : Int64) (x6 : Int64) (x8 : Int32) (H : Heap) (locs : List Loc) (ls : Array Slot), pX9_productWith_L11 x1 v_sums v_kept n x2 x4 x6 x8 k = some R → va_P G vwCl [(q, .inr (9, [.ref q_bends, .ref q_rootAt, .int v_stepAt, .ref q_pile, .ref q_lastAt, .ref q_nextAt, .ref q_hasBend, .int v_justMany, .ref q_isMet, .ref q_queue, .ref q_sums, .ref q_kept, .ref q_isKept, .ref q_copies, .ref q_shelfMany, .ref q_shelfSort, .ref q_shelfHas])), (q_sums, .inl (cJ, 16, .inr (.inl v_sums))), (q_kept, .inl (cJ, 4, .inr (.inl v_kept)))] H → va_D A [(q, .inr (9, [.ref q_bends, .ref q_rootAt, .int v_stepAt, .ref q_pile, .ref q_lastAt, .ref q_nextAt, .ref q_hasBend, .int v_justMany, .ref q_isMet, .ref q_queue, .ref q_sums, .ref q_kept, .ref q_isKept, .ref q_copies, .ref q_shelfMany, .ref q_shelfSort, .ref q_shelfHas])), (q_sums, .inl (cJ, 16, .inr (.inl v_sums))), (q_kept, .inl (cJ, 4, .inr (.inl v_kept)))] → va_S A s.heap H locs → lv_has ls 9 [(0, .ref q), (1, .int x1), (2, .long x2), (4, .long x4), (6, .long x6), (8, .int x8)] → W p l e rmX9_productWith s m ([.ref q, .int p1] : List Value).toArray below meth c H locs 0 0 QQ (F0 m 11 ls []) := by
    intro x1 k hk n
    induction n with
    | zero =>
      intro x2 x4 x6 x8 H locs ls hf
      cases hf
    | succ n ih =>
      intro x2 x4 x6 x8 H locs ls hf hP hD hS hl
      unfold pX9_productWith_L11 at hf
      refine lv_iload hx hb dX9_productWith_11 (lv_at hl 5 rfl) ?_
      refine lv_iconst (v := 4) hx hb dX9_productWith_13 (by decide) ?_
      refine lv_icmp_ge (tgt := 73) hx hb dX9_productWith_14 (by decide) (fun c1 => ?_) (fun c1 => ?_)
      · have hf := if_s hf c1
        exact hk x2 x4 x6 x8 _ _ _ hf hP hD hS (lv_sub hl [0, 1, 2, 3, 4, 5] rfl)
      · have hf := if_n hf c1
        refine lv_lload_n hx hb dX9_productWith_17 rfl (lv_at hl 2 rfl) ?_
        refine lv_aload_n hx hb dX9_productWith_18 rfl (lv_at hl 0 rfl) ?_
        refine va_get (D := G) (ci := 9) (v := .ref q_kept) (C := RX9) (T := TX9) (N := 17) hx hb hts hiX9_productWith_X9 hown hK.1 hP 0 rfl rfl 11 (by decide) (hts (.fieldLink RX9 39 "PackedBendsModel" "kept" "[J") (List.mem_of_getElem? (i := 1) rfl)) (fun _ h9 => h9) rfl dX9_productWith_19 ?_
        refine lv_iload hx hb dX9_productWith_22 (lv_at hl 5 rfl) ?_
        obtain ⟨z2, hf⟩ := ck_s hf
        refine va_lald hx hb hK.1 hP 2 1 rfl rfl (vp_in_iff.mpr z2) dX9_productWith_24 ?_
        refine lv_aload_n hx hb dX9_productWith_25 rfl (lv_at hl 0 rfl) ?_
        refine va_get (D := G) (ci := 9) (v := .ref q_sums) (C := RX9) (T := TX9) (N := 17) hx hb hts hiX9_productWith_X9 hown hK.1 hP 0 rfl rfl 10 (by decide) (hts (.fieldLink RX9 36 "PackedBendsModel" "sums" "[J") (List.mem_of_getElem? (i := 2) rfl)) (fun _ h9 => h9) rfl dX9_productWith_26 ?_
        refine lv_iconst (v := 4) hx hb dX9_productWith_29 (by decide) ?_
        refine lv_iload_n hx hb dX9_productWith_30 rfl (lv_at hl 1 rfl) ?_
        refine lv_imul hx hb dX9_productWith_31 ?_
        refine lv_iload hx hb dX9_productWith_32 (lv_at hl 5 rfl) ?_
        refine lv_iadd hx hb dX9_productWith_34 ?_
        obtain ⟨z3, hf⟩ := ck_s hf
        refine va_lald hx hb hK.1 hP 1 1 rfl rfl (vp_in_iff.mpr z3) dX9_productWith_35 ?_
        refine lv_lmul hx hb dX9_productWith_36 ?_
        refine lv_ladd hx hb dX9_productWith_37 ?_
        refine lv_lstore_n (lv' := [(2, .long (x2 + ((v_kept x8.toNatClampNeg) * (v_sums (((4 : Int32) * x1) + x8).toNatClampNeg)))), (0, .ref q), (1, .int x1), (4, .long x4), (6, .long x6), (8, .int x8)]) hx hb dX9_productWith_38 rfl hl (by decide) rfl (fun ls hl => ?_)
        refine lv_lload hx hb dX9_productWith_39 (lv_at hl 3 rfl) ?_
        refine lv_aload_n hx hb dX9_productWith_41 rfl (lv_at hl 1 rfl) ?_
        refine va_get (D := G) (ci := 9) (v := .ref q_kept) (C := RX9) (T := TX9) (N := 17) hx hb hts hiX9_productWith_X9 hown hK.1 hP 0 rfl rfl 11 (by decide) (hts (.fieldLink RX9 39 "PackedBendsModel" "kept" "[J") (List.mem_of_getElem? (i := 1) rfl)) (fun _ h9 => h9) rfl dX9_productWith_42 ?_
        refine lv_iload hx hb dX9_productWith_45 (lv_at hl 5 rfl) ?_
        refine va_lald hx hb hK.1 hP 2 1 rfl rfl (vp_in_iff.mpr z2) dX9_productWith_47 ?_
        refine lv_ladd hx hb dX9_productWith_48 ?_
        refine lv_lstore (lv' := [(4, .long (x4 + (v_kept x8.toNatClampNeg))), (2, .long (x2 + ((v_kept x8.toNatClampNeg) * (v_sums (((4 : Int32) * x1) + x8).toNatClampNeg)))), (0, .ref q), (1, .int x1), (6, .long x6), (8, .int x8)]) hx hb dX9_productWith_49 hl (by decide) rfl (fun ls hl => ?_)
        refine lv_lload hx hb dX9_productWith_51 (lv_at hl 4 rfl) ?_
        refine lv_aload_n hx hb dX9_productWith_53 rfl (lv_at hl 2 rfl) ?_
        refine va_get (D := G) (ci := 9) (v := .ref q_sums) (C := RX9) (T := TX9) (N := 17) hx hb hts hiX9_productWith_X9 hown hK.1 hP 0 rfl rfl 10 (by decide) (hts (.fieldLink RX9 36 "PackedBendsModel" "sums" "[J") (List.mem_of_getElem? (i := 2) rfl)) (fun _ h9 => h9) rfl dX9_productWith_54 ?_
        refine lv_iconst (v := 4) hx hb dX9_productWith_57 (by decide) ?_
        refine lv_iload_n hx hb dX9_productWith_58 rfl (lv_at hl 3 rfl) ?_
        refine lv_imul hx hb dX9_productWith_59 ?_
        refine lv_iload hx hb dX9_productWith_60 (lv_at hl 5 rfl) ?_
        refine lv_iadd hx hb dX9_productWith_62 ?_
        refine va_lald hx hb hK.1 hP 1 1 rfl rfl (vp_in_iff.mpr z3) dX9_productWith_63 ?_
        refine lv_ladd hx hb dX9_productWith_64 ?_
        refine lv_lstore (lv' := [(6, .long (x6 + (v_sums (((4 : Int32) * x1) + x8).toNatClampNeg))), (4, .long (x4 + (v_kept x8.toNatClampNeg))), (2, .long (x2 + ((v_kept x8.toNatClampNeg) * (v_sums (((4 : Int32) * x1) + x8).toNatClampNeg)))), (0, .ref q), (1, .int x1), (8, .int x8)]) hx hb dX9_productWith_65 hl (by decide) rfl (fun ls hl => ?_)
        refine lv_iinc (v := x8 + (1 : Int32)) (lv' := [(8, .int (x8 + (1 : Int32))), (6, .long (x6 + (v_sums (((4 : Int32) * x1) + x8).toNatClampNeg))), (4, .long (x4 + (v_kept x8.toNatClampNeg))), (2, .long (x2 + ((v_kept x8.toNatClampNeg) * (v_sums (((4 : Int32) * x1) + x8).toNatClampNeg)))), (0, .ref q), (1, .int x1)]) hx hb dX9_productWith_67 hl (k := 5) rfl rfl (by decide) rfl (fun ls hl => ?_)
        refine lv_goto (tgt := 11) hx hb dX9_productWith_70 (by decide) ?_
        exact ih (x2 + ((v_kept x8.toNatClampNeg) * (v_sums (((4 : Int32) * x1) + x8).toNatClampNeg))) (x4 + (v_kept x8.toNatClampNeg)) (x6 + (v_sums (((4 : Int32) * x1) + x8).toNatClampNeg)) (x8 + (1 : Int32)) _ _ _ hf hP hD hS (lv_sub hl [4, 5, 3, 2, 1, 0] rfl)
  refine lv_lconst (v := 0) hx hb dX9_productWith_0 (by decide) ?_
  refine lv_lstore_n (lv' := [(2, .long (0 : Int64)), (0, .ref q), (1, .int p1)]) hx hb dX9_productWith_1 rfl hl (by decide) rfl (fun ls hl => ?_)
  refine lv_lconst (v := 0) hx hb dX9_productWith_2 (by decide) ?_
  refine lv_lstore (lv' := [(4, .long (0 : Int64)), (2, .long (0 : Int64)), (0, .ref q), (1, .int p1)]) hx hb dX9_productWith_3 hl (by decide) rfl (fun ls hl => ?_)
  refine lv_lconst (v := 0) hx hb dX9_productWith_5 (by decide) ?_
  refine lv_lstore (lv' := [(6, .long (0 : Int64)), (4, .long (0 : Int64)), (2, .long (0 : Int64)), (0, .ref q), (1, .int p1)]) hx hb dX9_productWith_6 hl (by decide) rfl (fun ls hl => ?_)
  refine lv_iconst (v := 0) hx hb dX9_productWith_8 (by decide) ?_
  refine lv_istore (lv' := [(8, .int (0 : Int32)), (6, .long (0 : Int64)), (4, .long (0 : Int64)), (2, .long (0 : Int64)), (0, .ref q), (1, .int p1)]) hx hb dX9_productWith_9 hl (by decide) rfl (fun ls hl => ?_)
  refine hL11 p1 _ (fun y2_4 y4_4 y6_4 y8_4 H locs ls hf hP hD hS hl => ?_) n (0 : Int64) (0 : Int64) (0 : Int64) (0 : Int32) _ _ _ hf hP hD hS (lv_sub hl [4, 5, 3, 2, 1, 0] rfl)
  have hP : va_P G vwCl [(q, .inr (9, [.ref q_bends, .ref q_rootAt, .int v_stepAt, .ref q_pile, .ref q_lastAt, .ref q_nextAt, .ref q_hasBend, .int v_justMany, .ref q_isMet, .ref q_queue, .ref q_sums, .ref q_kept, .ref q_isKept, .ref q_copies, .ref q_shelfMany, .ref q_shelfSort, .ref q_shelfHas])), (q_sums, .inl (cJ, 16, .inr (.inl v_sums))), (q_kept, .inl (cJ, 4, .inr (.inl v_kept)))] H := hP
  have hD : va_D A [(q, .inr (9, [.ref q_bends, .ref q_rootAt, .int v_stepAt, .ref q_pile, .ref q_lastAt, .ref q_nextAt, .ref q_hasBend, .int v_justMany, .ref q_isMet, .ref q_queue, .ref q_sums, .ref q_kept, .ref q_isKept, .ref q_copies, .ref q_shelfMany, .ref q_shelfSort, .ref q_shelfHas])), (q_sums, .inl (cJ, 16, .inr (.inl v_sums))), (q_kept, .inl (cJ, 4, .inr (.inl v_kept)))] := hD
  refine lv_ldc2 (v := 2) hx hb hown (hts (.constantLong RX9 59 (2)) (List.mem_of_getElem? (i := 3) rfl)) dX9_productWith_73 ?_
  refine lv_lload_n hx hb dX9_productWith_76 rfl (lv_at hl 2 rfl) ?_
  refine lv_lmul hx hb dX9_productWith_77 ?_
  refine lv_lload hx hb dX9_productWith_78 (lv_at hl 3 rfl) ?_
  refine lv_lload hx hb dX9_productWith_80 (lv_at hl 4 rfl) ?_
  refine lv_lmul hx hb dX9_productWith_82 ?_
  refine lv_lsub hx hb dX9_productWith_83 ?_
  cases hf
  rw [← hQ]
  exact rt_l hx hb hr hlk hP hD hS rfl dX9_productWith_84
def pX9_product (n : Nat) (v_sums : (Nat → Int64)) (v_kept : (Nat → Int64)) (p1 : Int32) (p2 : Int32) (p3 : Int32) (p4 : Int32) : Option (Int64 × (Nat → Int64) × (Nat → Int64)) := Option.bind (pX9_isPlace p2) (fun r1 => if r1 = 0 then some ((-9223372036854775808 : Int64), v_sums, v_kept) else Option.bind (pX9_isPlace p4) (fun r3 => if r3 = 0 then some ((-9223372036854775808 : Int64), v_sums, v_kept) else Option.bind (pX9_isWord n p1) (fun r5 => if r5 = 0 then some ((-9223372036854775808 : Int64), v_sums, v_kept) else Option.bind (pX9_isWord n p3) (fun r7 => if r7 = 0 then some ((-9223372036854775808 : Int64), v_sums, v_kept) else Option.bind (pX9_laysWord n v_sums p1) (fun r9 => Option.bind (pX9_keeps n r9 v_kept (p2 - (1 : Int32))) (fun r10 => Option.bind (pX9_laysWord n r9 p3) (fun r11 => Option.bind (pX9_productWith n r11 r10 (p4 - (1 : Int32))) (fun r12 => some (r12, r11, r10)))))))))
def rmX9_product : Room := { frames := 3, cells := 0, slots := 0, locals := 66 }
set_option maxRecDepth 100000 in
set_option maxHeartbeats 4000000 in
theorem kX9_product {l : Launch} {G : va_G} {cI cJ cZ cS cG : ClassId} (n : Nat) (q q_bends q_rootAt q_pile q_lastAt q_nextAt q_hasBend q_isMet q_queue q_sums q_kept q_isKept q_copies q_shelfMany q_shelfSort q_shelfHas : Nat) (v_stepAt : Int32) (v_justMany : Int32) (v_sums : (Nat → Int64)) (v_kept : (Nat → Int64)) (p1 : Int32) (p2 : Int32) (p3 : Int32) (p4 : Int32) (R : Int64 × (Nat → Int64) × (Nat → Int64)) (hf : pX9_product n v_sums v_kept p1 p2 p3 p4 = some R) : CTl l yX9_product wsX9_product rmX9_product G cI cJ cZ cS cG [.ref q, .int p1, .int p2, .int p3, .int p4] [(q, .inr (9, [.ref q_bends, .ref q_rootAt, .int v_stepAt, .ref q_pile, .ref q_lastAt, .ref q_nextAt, .ref q_hasBend, .int v_justMany, .ref q_isMet, .ref q_queue, .ref q_sums, .ref q_kept, .ref q_isKept, .ref q_copies, .ref q_shelfMany, .ref q_shelfSort, .ref q_shelfHas])), (q_sums, .inl (cJ, 16, .inr (.inl v_sums))), (q_kept, .inl (cJ, 4, .inr (.inl v_kept)))] [(q, .inr (9, [.ref q_bends, .ref q_rootAt, .int v_stepAt, .ref q_pile, .ref q_lastAt, .ref q_nextAt, .ref q_hasBend, .int v_justMany, .ref q_isMet, .ref q_queue, .ref q_sums, .ref q_kept, .ref q_isKept, .ref q_copies, .ref q_shelfMany, .ref q_shelfSort, .ref q_shelfHas])), (q_sums, .inl (cJ, 16, .inr (.inl R.2.1))), (q_kept, .inl (cJ, 4, .inr (.inl R.2.2)))] R.1 := by
  refine Met.ofE (Qc := fun A => QRl G A [(q, .inr (9, [.ref q_bends, .ref q_rootAt, .int v_stepAt, .ref q_pile, .ref q_lastAt, .ref q_nextAt, .ref q_hasBend, .int v_justMany, .ref q_isMet, .ref q_queue, .ref q_sums, .ref q_kept, .ref q_isKept, .ref q_copies, .ref q_shelfMany, .ref q_shelfSort, .ref q_shelfHas])), (q_sums, .inl (cJ, 16, .inr (.inl R.2.1))), (q_kept, .inl (cJ, 4, .inr (.inl R.2.2)))] R.1) (cc := cX9_product) (nL := 5) (ret := some .long) (plainFor_of_name (by decide +kernel)) rfl (Nat.le_of_ble_eq_true rfl) ?_
  intro p e s m below meth c A ls hx hb hml hr hlk hts hown hK hA hP hD hS hl
  have hown : s.vm.findClass RX9 = some m.cls := hown
  have hl : lv_has ls 5 [(0, .ref q), (1, .int p1), (2, .int p2), (3, .int p3), (4, .int p4)] := hl
  generalize hQ : MQ below (QRl G A [(q, .inr (9, [.ref q_bends, .ref q_rootAt, .int v_stepAt, .ref q_pile, .ref q_lastAt, .ref q_nextAt, .ref q_hasBend, .int v_justMany, .ref q_isMet, .ref q_queue, .ref q_sums, .ref q_kept, .ref q_isKept, .ref q_copies, .ref q_shelfMany, .ref q_shelfSort, .ref q_shelfHas])), (q_sums, .inl (cJ, 16, .inr (.inl R.2.1))), (q_kept, .inl (cJ, 4, .inr (.inl R.2.2)))] R.1) ([.ref q, .int p1, .int p2, .int p3, .int p4] : List Value).toArray s 0 0 A = QQ
  unfold pX9_product at hf
  refine lv_iload_n hx hb dX9_product_0 rfl (lv_at hl 2 rfl) ?_
  obtain ⟨r1, hc1, hf⟩ := ob_s hf
  refine bk_i (wc := []) (wc2 := []) (wr := [(q, .inr (9, [.ref q_bends, .ref q_rootAt, .int v_stepAt, .ref q_pile, .ref q_lastAt, .ref q_nextAt, .ref q_hasBend, .int v_justMany, .ref q_isMet, .ref q_queue, .ref q_sums, .ref q_kept, .ref q_isKept, .ref q_copies, .ref q_shelfMany, .ref q_shelfSort, .ref q_shelfHas])), (q_sums, .inl (cJ, 16, .inr (.inl v_sums))), (q_kept, .inl (cJ, 4, .inr (.inl v_kept)))]) (ws2 := [(q, .inr (9, [.ref q_bends, .ref q_rootAt, .int v_stepAt, .ref q_pile, .ref q_lastAt, .ref q_nextAt, .ref q_hasBend, .int v_justMany, .ref q_isMet, .ref q_queue, .ref q_sums, .ref q_kept, .ref q_isKept, .ref q_copies, .ref q_shelfMany, .ref q_shelfSort, .ref q_shelfHas])), (q_sums, .inl (cJ, 16, .inr (.inl v_sums))), (q_kept, .inl (cJ, 4, .inr (.inl v_kept)))]) (r := r1) (va_runS (As := [.int p2]) (rest := []) ⟨hx, hb, hml, hown, hts⟩ (kX9_isPlace (l := l) (G := G) (cI := cI) (cJ := cJ) (cZ := cZ) (cS := cS) (cG := cG) p2 _ hc1 _) (va_cwS 1 hts gX9_product_X9_isPlace rfl rfl rfl (by decide +kernel) ⟨Nat.le_of_ble_eq_true rfl, Nat.le_of_ble_eq_true rfl⟩) (cut_S hK hP hD [] rfl rfl) rfl rfl hl.1 rfl (lv_room (Nat.le_of_ble_eq_true rfl)) dX9_product_1 ⟨Nat.zero_le _, Nat.zero_le _⟩) hP hD hS hA [] [0, 1, 2] [0, 1, 2] rfl rfl rfl rfl rfl rfl (fun H locs hP hD hS => ?_)
  refine lv_if_eq (tgt := 29) hx hb dX9_product_4 (by decide) (fun c2 => ?_) (fun c2 => ?_)
  · have hf := if_s hf c2
    refine lv_ldc2 (v := (-9223372036854775808)) hx hb hown (hts (.constantLong RX9 80 (-9223372036854775808)) (List.mem_of_getElem? (i := 1) rfl)) dX9_product_29 ?_
    cases hf
    rw [← hQ]
    exact rt_l hx hb hr hlk hP hD hS rfl dX9_product_32
  · have hf := if_n hf c2
    refine lv_iload hx hb dX9_product_7 (lv_at hl 4 rfl) ?_
    obtain ⟨r3, hc3, hf⟩ := ob_s hf
    refine bk_i (wc := []) (wc2 := []) (wr := [(q, .inr (9, [.ref q_bends, .ref q_rootAt, .int v_stepAt, .ref q_pile, .ref q_lastAt, .ref q_nextAt, .ref q_hasBend, .int v_justMany, .ref q_isMet, .ref q_queue, .ref q_sums, .ref q_kept, .ref q_isKept, .ref q_copies, .ref q_shelfMany, .ref q_shelfSort, .ref q_shelfHas])), (q_sums, .inl (cJ, 16, .inr (.inl v_sums))), (q_kept, .inl (cJ, 4, .inr (.inl v_kept)))]) (ws2 := [(q, .inr (9, [.ref q_bends, .ref q_rootAt, .int v_stepAt, .ref q_pile, .ref q_lastAt, .ref q_nextAt, .ref q_hasBend, .int v_justMany, .ref q_isMet, .ref q_queue, .ref q_sums, .ref q_kept, .ref q_isKept, .ref q_copies, .ref q_shelfMany, .ref q_shelfSort, .ref q_shelfHas])), (q_sums, .inl (cJ, 16, .inr (.inl v_sums))), (q_kept, .inl (cJ, 4, .inr (.inl v_kept)))]) (r := r3) (va_runS (As := [.int p4]) (rest := []) ⟨hx, hb, hml, hown, hts⟩ (kX9_isPlace (l := l) (G := G) (cI := cI) (cJ := cJ) (cZ := cZ) (cS := cS) (cG := cG) p4 _ hc3 _) (va_cwS 1 hts gX9_product_X9_isPlace rfl rfl rfl (by decide +kernel) ⟨Nat.le_of_ble_eq_true rfl, Nat.le_of_ble_eq_true rfl⟩) (cut_S hK hP hD [] rfl rfl) rfl rfl hl.1 rfl (lv_room (Nat.le_of_ble_eq_true rfl)) dX9_product_9 ⟨Nat.zero_le _, Nat.zero_le _⟩) hP hD hS hA [] [0, 1, 2] [0, 1, 2] rfl rfl rfl rfl rfl rfl (fun H locs hP hD hS => ?_)
    refine lv_if_eq (tgt := 29) hx hb dX9_product_12 (by decide) (fun c4 => ?_) (fun c4 => ?_)
    · have hf := if_s hf c4
      refine lv_ldc2 (v := (-9223372036854775808)) hx hb hown (hts (.constantLong RX9 80 (-9223372036854775808)) (List.mem_of_getElem? (i := 1) rfl)) dX9_product_29 ?_
      cases hf
      rw [← hQ]
      exact rt_l hx hb hr hlk hP hD hS rfl dX9_product_32
    · have hf := if_n hf c4
      refine lv_iload_n hx hb dX9_product_15 rfl (lv_at hl 1 rfl) ?_
      obtain ⟨r5, hc5, hf⟩ := ob_s hf
      refine bk_i (wc := []) (wc2 := []) (wr := [(q, .inr (9, [.ref q_bends, .ref q_rootAt, .int v_stepAt, .ref q_pile, .ref q_lastAt, .ref q_nextAt, .ref q_hasBend, .int v_justMany, .ref q_isMet, .ref q_queue, .ref q_sums, .ref q_kept, .ref q_isKept, .ref q_copies, .ref q_shelfMany, .ref q_shelfSort, .ref q_shelfHas])), (q_sums, .inl (cJ, 16, .inr (.inl v_sums))), (q_kept, .inl (cJ, 4, .inr (.inl v_kept)))]) (ws2 := [(q, .inr (9, [.ref q_bends, .ref q_rootAt, .int v_stepAt, .ref q_pile, .ref q_lastAt, .ref q_nextAt, .ref q_hasBend, .int v_justMany, .ref q_isMet, .ref q_queue, .ref q_sums, .ref q_kept, .ref q_isKept, .ref q_copies, .ref q_shelfMany, .ref q_shelfSort, .ref q_shelfHas])), (q_sums, .inl (cJ, 16, .inr (.inl v_sums))), (q_kept, .inl (cJ, 4, .inr (.inl v_kept)))]) (r := r5) (va_runS (As := [.int p1]) (rest := []) ⟨hx, hb, hml, hown, hts⟩ (kX9_isWord (l := l) (G := G) (cI := cI) (cJ := cJ) (cZ := cZ) (cS := cS) (cG := cG) n p1 _ hc5 _) (va_cwS 1 hts gX9_product_X9_isWord rfl rfl rfl (by decide +kernel) ⟨Nat.le_of_ble_eq_true rfl, Nat.le_of_ble_eq_true rfl⟩) (cut_S hK hP hD [] rfl rfl) rfl rfl hl.1 rfl (lv_room (Nat.le_of_ble_eq_true rfl)) dX9_product_16 ⟨Nat.zero_le _, Nat.zero_le _⟩) hP hD hS hA [] [0, 1, 2] [0, 1, 2] rfl rfl rfl rfl rfl rfl (fun H locs hP hD hS => ?_)
      refine lv_if_eq (tgt := 29) hx hb dX9_product_19 (by decide) (fun c6 => ?_) (fun c6 => ?_)
      · have hf := if_s hf c6
        refine lv_ldc2 (v := (-9223372036854775808)) hx hb hown (hts (.constantLong RX9 80 (-9223372036854775808)) (List.mem_of_getElem? (i := 1) rfl)) dX9_product_29 ?_
        cases hf
        rw [← hQ]
        exact rt_l hx hb hr hlk hP hD hS rfl dX9_product_32
      · have hf := if_n hf c6
        refine lv_iload_n hx hb dX9_product_22 rfl (lv_at hl 3 rfl) ?_
        obtain ⟨r7, hc7, hf⟩ := ob_s hf
        refine bk_i (wc := []) (wc2 := []) (wr := [(q, .inr (9, [.ref q_bends, .ref q_rootAt, .int v_stepAt, .ref q_pile, .ref q_lastAt, .ref q_nextAt, .ref q_hasBend, .int v_justMany, .ref q_isMet, .ref q_queue, .ref q_sums, .ref q_kept, .ref q_isKept, .ref q_copies, .ref q_shelfMany, .ref q_shelfSort, .ref q_shelfHas])), (q_sums, .inl (cJ, 16, .inr (.inl v_sums))), (q_kept, .inl (cJ, 4, .inr (.inl v_kept)))]) (ws2 := [(q, .inr (9, [.ref q_bends, .ref q_rootAt, .int v_stepAt, .ref q_pile, .ref q_lastAt, .ref q_nextAt, .ref q_hasBend, .int v_justMany, .ref q_isMet, .ref q_queue, .ref q_sums, .ref q_kept, .ref q_isKept, .ref q_copies, .ref q_shelfMany, .ref q_shelfSort, .ref q_shelfHas])), (q_sums, .inl (cJ, 16, .inr (.inl v_sums))), (q_kept, .inl (cJ, 4, .inr (.inl v_kept)))]) (r := r7) (va_runS (As := [.int p3]) (rest := []) ⟨hx, hb, hml, hown, hts⟩ (kX9_isWord (l := l) (G := G) (cI := cI) (cJ := cJ) (cZ := cZ) (cS := cS) (cG := cG) n p3 _ hc7 _) (va_cwS 1 hts gX9_product_X9_isWord rfl rfl rfl (by decide +kernel) ⟨Nat.le_of_ble_eq_true rfl, Nat.le_of_ble_eq_true rfl⟩) (cut_S hK hP hD [] rfl rfl) rfl rfl hl.1 rfl (lv_room (Nat.le_of_ble_eq_true rfl)) dX9_product_23 ⟨Nat.zero_le _, Nat.zero_le _⟩) hP hD hS hA [] [0, 1, 2] [0, 1, 2] rfl rfl rfl rfl rfl rfl (fun H locs hP hD hS => ?_)
        refine lv_if_ne (tgt := 33) hx hb dX9_product_26 (by decide) (fun c8 => ?_) (fun c8 => ?_)
        · have hf := if_n hf c8
          refine lv_aload_n hx hb dX9_product_33 rfl (lv_at hl 0 rfl) ?_
          refine lv_iload_n hx hb dX9_product_34 rfl (lv_at hl 1 rfl) ?_
          obtain ⟨r9, hc9, hf⟩ := ob_s hf
          refine bk_v (wc := [(q, .inr (9, [.ref q_bends, .ref q_rootAt, .int v_stepAt, .ref q_pile, .ref q_lastAt, .ref q_nextAt, .ref q_hasBend, .int v_justMany, .ref q_isMet, .ref q_queue, .ref q_sums, .ref q_kept, .ref q_isKept, .ref q_copies, .ref q_shelfMany, .ref q_shelfSort, .ref q_shelfHas])), (q_sums, .inl (cJ, 16, .inr (.inl v_sums)))]) (wc2 := [(q, .inr (9, [.ref q_bends, .ref q_rootAt, .int v_stepAt, .ref q_pile, .ref q_lastAt, .ref q_nextAt, .ref q_hasBend, .int v_justMany, .ref q_isMet, .ref q_queue, .ref q_sums, .ref q_kept, .ref q_isKept, .ref q_copies, .ref q_shelfMany, .ref q_shelfSort, .ref q_shelfHas])), (q_sums, .inl (cJ, 16, .inr (.inl r9)))]) (wr := [(q_kept, .inl (cJ, 4, .inr (.inl v_kept)))]) (ws2 := [(q, .inr (9, [.ref q_bends, .ref q_rootAt, .int v_stepAt, .ref q_pile, .ref q_lastAt, .ref q_nextAt, .ref q_hasBend, .int v_justMany, .ref q_isMet, .ref q_queue, .ref q_sums, .ref q_kept, .ref q_isKept, .ref q_copies, .ref q_shelfMany, .ref q_shelfSort, .ref q_shelfHas])), (q_sums, .inl (cJ, 16, .inr (.inl r9))), (q_kept, .inl (cJ, 4, .inr (.inl v_kept)))]) (va_runV (As := [.int p1]) (rest := []) ⟨hx, hb, hml, hown, hts⟩ (kX9_laysWord (l := l) (G := G) (cI := cI) (cJ := cJ) (cZ := cZ) (cS := cS) (cG := cG) n q q_bends q_rootAt q_pile q_lastAt q_nextAt q_hasBend q_isMet q_queue q_sums q_kept q_isKept q_copies q_shelfMany q_shelfSort q_shelfHas v_stepAt v_justMany v_sums p1 _ hc9 _) (cwV 1 hts gX9_product_X9_laysWord rfl rfl rfl (by decide +kernel) ⟨Nat.le_of_ble_eq_true rfl, Nat.le_of_ble_eq_true rfl⟩) (cut_V hK hP hD [0, 1] rfl rfl (ci := 9) (q0 := 0) rfl rfl) rfl rfl hl.1 rfl (lv_room (Nat.le_of_ble_eq_true rfl)) dX9_product_35 ⟨Nat.zero_le _, Nat.zero_le _⟩) hP hD hS hA [0, 1] [2] [1, 2, 0] rfl rfl rfl rfl rfl rfl (fun H locs hP hD hS => ?_)
          refine lv_aload_n hx hb dX9_product_38 rfl (lv_at hl 0 rfl) ?_
          refine lv_iload_n hx hb dX9_product_39 rfl (lv_at hl 2 rfl) ?_
          refine lv_iconst (v := 1) hx hb dX9_product_40 (by decide) ?_
          refine lv_isub hx hb dX9_product_41 ?_
          obtain ⟨r10, hc10, hf⟩ := ob_s hf
          refine bk_v (wc := [(q, .inr (9, [.ref q_bends, .ref q_rootAt, .int v_stepAt, .ref q_pile, .ref q_lastAt, .ref q_nextAt, .ref q_hasBend, .int v_justMany, .ref q_isMet, .ref q_queue, .ref q_sums, .ref q_kept, .ref q_isKept, .ref q_copies, .ref q_shelfMany, .ref q_shelfSort, .ref q_shelfHas])), (q_sums, .inl (cJ, 16, .inr (.inl r9))), (q_kept, .inl (cJ, 4, .inr (.inl v_kept)))]) (wc2 := [(q, .inr (9, [.ref q_bends, .ref q_rootAt, .int v_stepAt, .ref q_pile, .ref q_lastAt, .ref q_nextAt, .ref q_hasBend, .int v_justMany, .ref q_isMet, .ref q_queue, .ref q_sums, .ref q_kept, .ref q_isKept, .ref q_copies, .ref q_shelfMany, .ref q_shelfSort, .ref q_shelfHas])), (q_sums, .inl (cJ, 16, .inr (.inl r9))), (q_kept, .inl (cJ, 4, .inr (.inl r10)))]) (wr := []) (ws2 := [(q, .inr (9, [.ref q_bends, .ref q_rootAt, .int v_stepAt, .ref q_pile, .ref q_lastAt, .ref q_nextAt, .ref q_hasBend, .int v_justMany, .ref q_isMet, .ref q_queue, .ref q_sums, .ref q_kept, .ref q_isKept, .ref q_copies, .ref q_shelfMany, .ref q_shelfSort, .ref q_shelfHas])), (q_sums, .inl (cJ, 16, .inr (.inl r9))), (q_kept, .inl (cJ, 4, .inr (.inl r10)))]) (va_runV (As := [.int (p2 - (1 : Int32))]) (rest := []) ⟨hx, hb, hml, hown, hts⟩ (kX9_keeps (l := l) (G := G) (cI := cI) (cJ := cJ) (cZ := cZ) (cS := cS) (cG := cG) n q q_bends q_rootAt q_pile q_lastAt q_nextAt q_hasBend q_isMet q_queue q_sums q_kept q_isKept q_copies q_shelfMany q_shelfSort q_shelfHas v_stepAt v_justMany r9 v_kept (p2 - (1 : Int32)) _ hc10 _) (cwV 1 hts gX9_product_X9_keeps rfl rfl rfl (by decide +kernel) ⟨Nat.le_of_ble_eq_true rfl, Nat.le_of_ble_eq_true rfl⟩) (cut_V hK hP hD [0, 1, 2] rfl rfl (ci := 9) (q0 := 0) rfl rfl) rfl rfl hl.1 rfl (lv_room (Nat.le_of_ble_eq_true rfl)) dX9_product_42 ⟨Nat.zero_le _, Nat.zero_le _⟩) hP hD hS hA [0, 1, 2] [] [0, 1, 2] rfl rfl rfl rfl rfl rfl (fun H locs hP hD hS => ?_)
          refine lv_aload_n hx hb dX9_product_45 rfl (lv_at hl 0 rfl) ?_
          refine lv_iload_n hx hb dX9_product_46 rfl (lv_at hl 3 rfl) ?_
          obtain ⟨r11, hc11, hf⟩ := ob_s hf
          refine bk_v (wc := [(q, .inr (9, [.ref q_bends, .ref q_rootAt, .int v_stepAt, .ref q_pile, .ref q_lastAt, .ref q_nextAt, .ref q_hasBend, .int v_justMany, .ref q_isMet, .ref q_queue, .ref q_sums, .ref q_kept, .ref q_isKept, .ref q_copies, .ref q_shelfMany, .ref q_shelfSort, .ref q_shelfHas])), (q_sums, .inl (cJ, 16, .inr (.inl r9)))]) (wc2 := [(q, .inr (9, [.ref q_bends, .ref q_rootAt, .int v_stepAt, .ref q_pile, .ref q_lastAt, .ref q_nextAt, .ref q_hasBend, .int v_justMany, .ref q_isMet, .ref q_queue, .ref q_sums, .ref q_kept, .ref q_isKept, .ref q_copies, .ref q_shelfMany, .ref q_shelfSort, .ref q_shelfHas])), (q_sums, .inl (cJ, 16, .inr (.inl r11)))]) (wr := [(q_kept, .inl (cJ, 4, .inr (.inl r10)))]) (ws2 := [(q, .inr (9, [.ref q_bends, .ref q_rootAt, .int v_stepAt, .ref q_pile, .ref q_lastAt, .ref q_nextAt, .ref q_hasBend, .int v_justMany, .ref q_isMet, .ref q_queue, .ref q_sums, .ref q_kept, .ref q_isKept, .ref q_copies, .ref q_shelfMany, .ref q_shelfSort, .ref q_shelfHas])), (q_sums, .inl (cJ, 16, .inr (.inl r11))), (q_kept, .inl (cJ, 4, .inr (.inl r10)))]) (va_runV (As := [.int p3]) (rest := []) ⟨hx, hb, hml, hown, hts⟩ (kX9_laysWord (l := l) (G := G) (cI := cI) (cJ := cJ) (cZ := cZ) (cS := cS) (cG := cG) n q q_bends q_rootAt q_pile q_lastAt q_nextAt q_hasBend q_isMet q_queue q_sums q_kept q_isKept q_copies q_shelfMany q_shelfSort q_shelfHas v_stepAt v_justMany r9 p3 _ hc11 _) (cwV 1 hts gX9_product_X9_laysWord rfl rfl rfl (by decide +kernel) ⟨Nat.le_of_ble_eq_true rfl, Nat.le_of_ble_eq_true rfl⟩) (cut_V hK hP hD [0, 1] rfl rfl (ci := 9) (q0 := 0) rfl rfl) rfl rfl hl.1 rfl (lv_room (Nat.le_of_ble_eq_true rfl)) dX9_product_47 ⟨Nat.zero_le _, Nat.zero_le _⟩) hP hD hS hA [0, 1] [2] [1, 2, 0] rfl rfl rfl rfl rfl rfl (fun H locs hP hD hS => ?_)
          refine lv_aload_n hx hb dX9_product_50 rfl (lv_at hl 0 rfl) ?_
          refine lv_iload hx hb dX9_product_51 (lv_at hl 4 rfl) ?_
          refine lv_iconst (v := 1) hx hb dX9_product_53 (by decide) ?_
          refine lv_isub hx hb dX9_product_54 ?_
          obtain ⟨r12, hc12, hf⟩ := ob_s hf
          refine bk_l (wc := [(q, .inr (9, [.ref q_bends, .ref q_rootAt, .int v_stepAt, .ref q_pile, .ref q_lastAt, .ref q_nextAt, .ref q_hasBend, .int v_justMany, .ref q_isMet, .ref q_queue, .ref q_sums, .ref q_kept, .ref q_isKept, .ref q_copies, .ref q_shelfMany, .ref q_shelfSort, .ref q_shelfHas])), (q_sums, .inl (cJ, 16, .inr (.inl r11))), (q_kept, .inl (cJ, 4, .inr (.inl r10)))]) (wc2 := [(q, .inr (9, [.ref q_bends, .ref q_rootAt, .int v_stepAt, .ref q_pile, .ref q_lastAt, .ref q_nextAt, .ref q_hasBend, .int v_justMany, .ref q_isMet, .ref q_queue, .ref q_sums, .ref q_kept, .ref q_isKept, .ref q_copies, .ref q_shelfMany, .ref q_shelfSort, .ref q_shelfHas])), (q_sums, .inl (cJ, 16, .inr (.inl r11))), (q_kept, .inl (cJ, 4, .inr (.inl r10)))]) (wr := []) (ws2 := [(q, .inr (9, [.ref q_bends, .ref q_rootAt, .int v_stepAt, .ref q_pile, .ref q_lastAt, .ref q_nextAt, .ref q_hasBend, .int v_justMany, .ref q_isMet, .ref q_queue, .ref q_sums, .ref q_kept, .ref q_isKept, .ref q_copies, .ref q_shelfMany, .ref q_shelfSort, .ref q_shelfHas])), (q_sums, .inl (cJ, 16, .inr (.inl r11))), (q_kept, .inl (cJ, 4, .inr (.inl r10)))]) (r := r12) (va_runV (As := [.int (p4 - (1 : Int32))]) (rest := []) ⟨hx, hb, hml, hown, hts⟩ (kX9_productWith (l := l) (G := G) (cI := cI) (cJ := cJ) (cZ := cZ) (cS := cS) (cG := cG) n q q_bends q_rootAt q_pile q_lastAt q_nextAt q_hasBend q_isMet q_queue q_sums q_kept q_isKept q_copies q_shelfMany q_shelfSort q_shelfHas v_stepAt v_justMany r11 r10 (p4 - (1 : Int32)) _ hc12 _) (cwV 1 hts gX9_product_X9_productWith rfl rfl rfl (by decide +kernel) ⟨Nat.le_of_ble_eq_true rfl, Nat.le_of_ble_eq_true rfl⟩) (cut_V hK hP hD [0, 1, 2] rfl rfl (ci := 9) (q0 := 0) rfl rfl) rfl rfl hl.1 rfl (lv_room (Nat.le_of_ble_eq_true rfl)) dX9_product_55 ⟨Nat.zero_le _, Nat.zero_le _⟩) hP hD hS hA [0, 1, 2] [] [0, 1, 2] rfl rfl rfl rfl rfl rfl (fun H locs hP hD hS => ?_)
          cases hf
          rw [← hQ]
          exact rt_l hx hb hr hlk hP hD hS rfl dX9_product_58
        · have hf := if_s hf c8
          refine lv_ldc2 (v := (-9223372036854775808)) hx hb hown (hts (.constantLong RX9 80 (-9223372036854775808)) (List.mem_of_getElem? (i := 1) rfl)) dX9_product_29 ?_
          cases hf
          rw [← hQ]
          exact rt_l hx hb hr hlk hP hD hS rfl dX9_product_32
def pX9_touching_L49 (v_sums : (Nat → Int64)) (v_kept : (Nat → Int64)) : Nat → Int32 → Int32 → (Int32 → Int32 → Option (Int32 × (Nat → Int64) × (Nat → Int64))) → Option (Int32 × (Nat → Int64) × (Nat → Int64))
  | 0, _, _, _ => none
  | n + 1, x4, x5, k => if (4 : Int32) ≤ x5 then k x4 x5 else Option.bind (pX9_productWith n v_sums v_kept x5) (fun r11 => if r11 = (-1 : Int64) then pX9_touching_L49 v_sums v_kept n (x4 + (1 : Int32)) (x5 + (1 : Int32)) k else pX9_touching_L49 v_sums v_kept n (x4 + (0 : Int32)) (x5 + (1 : Int32)) k)
def pX9_touching (n : Nat) (v_sums : (Nat → Int64)) (v_kept : (Nat → Int64)) (p1 : Int32) (p2 : Int32) (p3 : Int32) : Option (Int32 × (Nat → Int64) × (Nat → Int64)) := Option.bind (pX9_isPlace p3) (fun r1 => if r1 = 0 then some ((-1 : Int32), v_sums, v_kept) else Option.bind (pX9_isWord n p1) (fun r3 => if r3 = 0 then some ((-2 : Int32), v_sums, v_kept) else Option.bind (pX9_isWord n p2) (fun r5 => if r5 = 0 then some ((-2 : Int32), v_sums, v_kept) else Option.bind (pX9_laysWord n v_sums p2) (fun r7 => Option.bind (pX9_keeps n r7 v_kept (p3 - (1 : Int32))) (fun r8 => Option.bind (pX9_laysWord n r7 p1) (fun r9 => pX9_touching_L49 r9 r8 n (0 : Int32) (0 : Int32) (fun (y4_13 : Int32) (y5_13 : Int32) => some (y4_13, r9, r8))))))))
def rmX9_touching : Room := { frames := 3, cells := 0, slots := 0, locals := 66 }
set_option maxRecDepth 100000 in
set_option maxHeartbeats 4000000 in
theorem kX9_touching {l : Launch} {G : va_G} {cI cJ cZ cS cG : ClassId} (n : Nat) (q q_bends q_rootAt q_pile q_lastAt q_nextAt q_hasBend q_isMet q_queue q_sums q_kept q_isKept q_copies q_shelfMany q_shelfSort q_shelfHas : Nat) (v_stepAt : Int32) (v_justMany : Int32) (v_sums : (Nat → Int64)) (v_kept : (Nat → Int64)) (p1 : Int32) (p2 : Int32) (p3 : Int32) (R : Int32 × (Nat → Int64) × (Nat → Int64)) (hf : pX9_touching n v_sums v_kept p1 p2 p3 = some R) : CTi l yX9_touching wsX9_touching rmX9_touching G cI cJ cZ cS cG [.ref q, .int p1, .int p2, .int p3] [(q, .inr (9, [.ref q_bends, .ref q_rootAt, .int v_stepAt, .ref q_pile, .ref q_lastAt, .ref q_nextAt, .ref q_hasBend, .int v_justMany, .ref q_isMet, .ref q_queue, .ref q_sums, .ref q_kept, .ref q_isKept, .ref q_copies, .ref q_shelfMany, .ref q_shelfSort, .ref q_shelfHas])), (q_sums, .inl (cJ, 16, .inr (.inl v_sums))), (q_kept, .inl (cJ, 4, .inr (.inl v_kept)))] [(q, .inr (9, [.ref q_bends, .ref q_rootAt, .int v_stepAt, .ref q_pile, .ref q_lastAt, .ref q_nextAt, .ref q_hasBend, .int v_justMany, .ref q_isMet, .ref q_queue, .ref q_sums, .ref q_kept, .ref q_isKept, .ref q_copies, .ref q_shelfMany, .ref q_shelfSort, .ref q_shelfHas])), (q_sums, .inl (cJ, 16, .inr (.inl R.2.1))), (q_kept, .inl (cJ, 4, .inr (.inl R.2.2)))] R.1 := by
  refine Met.ofE (Qc := fun A => QRi G A [(q, .inr (9, [.ref q_bends, .ref q_rootAt, .int v_stepAt, .ref q_pile, .ref q_lastAt, .ref q_nextAt, .ref q_hasBend, .int v_justMany, .ref q_isMet, .ref q_queue, .ref q_sums, .ref q_kept, .ref q_isKept, .ref q_copies, .ref q_shelfMany, .ref q_shelfSort, .ref q_shelfHas])), (q_sums, .inl (cJ, 16, .inr (.inl R.2.1))), (q_kept, .inl (cJ, 4, .inr (.inl R.2.2)))] R.1) (cc := cX9_touching) (nL := 6) (ret := some .int) (plainFor_of_name (by decide +kernel)) rfl (Nat.le_of_ble_eq_true rfl) ?_
  intro p e s m below meth c A ls hx hb hml hr hlk hts hown hK hA hP hD hS hl
  have hown : s.vm.findClass RX9 = some m.cls := hown
  have hl : lv_has ls 6 [(0, .ref q), (1, .int p1), (2, .int p2), (3, .int p3)] := hl
  generalize hQ : MQ below (QRi G A [(q, .inr (9, [.ref q_bends, .ref q_rootAt, .int v_stepAt, .ref q_pile, .ref q_lastAt, .ref q_nextAt, .ref q_hasBend, .int v_justMany, .ref q_isMet, .ref q_queue, .ref q_sums, .ref q_kept, .ref q_isKept, .ref q_copies, .ref q_shelfMany, .ref q_shelfSort, .ref q_shelfHas])), (q_sums, .inl (cJ, 16, .inr (.inl R.2.1))), (q_kept, .inl (cJ, 4, .inr (.inl R.2.2)))] R.1) ([.ref q, .int p1, .int p2, .int p3] : List Value).toArray s 0 0 A = QQ
  unfold pX9_touching at hf
  have hL49 : ∀ (x1 : Int32) (x2 : Int32) (x3 : Int32) (v_sums : (Nat → Int64)) (v_kept : (Nat → Int64)) (k : Int32 → Int32 → Option (Int32 × (Nat → Int64) × (Nat → Int64))), (∀ (x4 : Int32) (x5 : Int32) (H : Heap) (locs : List Loc) (ls : Array Slot), k x4 x5 = some R → va_P G vwCl [(q, .inr (9, [.ref q_bends, .ref q_rootAt, .int v_stepAt, .ref q_pile, .ref q_lastAt, .ref q_nextAt, .ref q_hasBend, .int v_justMany, .ref q_isMet, .ref q_queue, .ref q_sums, .ref q_kept, .ref q_isKept, .ref q_copies, .ref q_shelfMany, .ref q_shelfSort, .ref q_shelfHas])), (q_sums, .inl (cJ, 16, .inr (.inl v_sums))), (q_kept, .inl (cJ, 4, .inr (.inl v_kept)))] H → va_D A [(q, .inr (9, [.ref q_bends, .ref q_rootAt, .int v_stepAt, .ref q_pile, .ref q_lastAt, .ref q_nextAt, .ref q_hasBend, .int v_justMany, .ref q_isMet, .ref q_queue, .ref q_sums, .ref q_kept, .ref q_isKept, .ref q_copies, .ref q_shelfMany, .ref q_shelfSort, .ref q_shelfHas])), (q_sums, .inl (cJ, 16, .inr (.inl v_sums))), (q_kept, .inl (cJ, 4, .inr (.inl v_kept)))] → va_S A s.heap H locs → lv_has ls 6 [(0, .ref q), (1, .int x1), (2, .int x2), (3, .int x3), (4, .int x4), (5, .int x5)] → W p l e rmX9_touching s m ([.ref q, .int p1, .int p2, .int p3] : List Value).toArray below meth c H locs 0 0 QQ (F0 m 84 ls [])) → ∀ (n : Nat) (x4 : Int32) (x5 : Int32) (H : Heap) (locs : List Loc) (ls : Array Slot), pX9_touching_L49 v_sums v_kept n x4 x5 k = some R → va_P G vwCl [(q, .inr (9, [.ref q_bends, .ref q_rootAt, .int v_stepAt, .ref q_pile, .ref q_lastAt, .ref q_nextAt, .ref q_hasBend, .int v_justMany, .ref q_isMet, .ref q_queue, .ref q_sums, .ref q_kept, .ref q_isKept, .ref q_copies, .ref q_shelfMany, .ref q_shelfSort, .ref q_shelfHas])), (q_sums, .inl (cJ, 16, .inr (.inl v_sums))), (q_kept, .inl (cJ, 4, .inr (.inl v_kept)))] H → va_D A [(q, .inr (9, [.ref q_bends, .ref q_rootAt, .int v_stepAt, .ref q_pile, .ref q_lastAt, .ref q_nextAt, .ref q_hasBend, .int v_justMany, .ref q_isMet, .ref q_queue, .ref q_sums, .ref q_kept, .ref q_isKept, .ref q_copies, .ref q_shelfMany, .ref q_shelfSort, .ref q_shelfHas])), (q_sums, .inl (cJ, 16, .inr (.inl v_sums))), (q_kept, .inl (cJ, 4, .inr (.inl v_kept)))] → va_S A s.heap H locs → lv_has ls 6 [(0, .ref q), (1, .int x1), (2, .int x2), (3, .int x3), (4, .int x4), (5, .int x5)] → W p l e rmX9_touching s m ([.ref q, .int p1, .int p2, .int p3] : List Value).toArray below meth c H locs 0 0 QQ (F0 m 49 ls []) := by
    intro x1 x2 x3 v_sums v_kept k hk n
    induction n with
    | zero =>
      intro x4 x5 H locs ls hf
      cases hf
    | succ n ih =>
      intro x4 x5 H locs ls hf hP hD hS hl
      unfold pX9_touching_L49 at hf
      refine lv_iload hx hb dX9_touching_49 (lv_at hl 5 rfl) ?_
      refine lv_iconst (v := 4) hx hb dX9_touching_51 (by decide) ?_
      refine lv_icmp_ge (tgt := 84) hx hb dX9_touching_52 (by decide) (fun c10 => ?_) (fun c10 => ?_)
      · have hf := if_s hf c10
        exact hk x4 x5 _ _ _ hf hP hD hS (lv_sub hl [0, 1, 2, 3, 4, 5] rfl)
      · have hf := if_n hf c10
        refine lv_iload hx hb dX9_touching_55 (lv_at hl 4 rfl) ?_
        refine lv_aload_n hx hb dX9_touching_57 rfl (lv_at hl 0 rfl) ?_
        refine lv_iload hx hb dX9_touching_58 (lv_at hl 5 rfl) ?_
        obtain ⟨r11, hc11, hf⟩ := ob_s hf
        refine bk_l (wc := [(q, .inr (9, [.ref q_bends, .ref q_rootAt, .int v_stepAt, .ref q_pile, .ref q_lastAt, .ref q_nextAt, .ref q_hasBend, .int v_justMany, .ref q_isMet, .ref q_queue, .ref q_sums, .ref q_kept, .ref q_isKept, .ref q_copies, .ref q_shelfMany, .ref q_shelfSort, .ref q_shelfHas])), (q_sums, .inl (cJ, 16, .inr (.inl v_sums))), (q_kept, .inl (cJ, 4, .inr (.inl v_kept)))]) (wc2 := [(q, .inr (9, [.ref q_bends, .ref q_rootAt, .int v_stepAt, .ref q_pile, .ref q_lastAt, .ref q_nextAt, .ref q_hasBend, .int v_justMany, .ref q_isMet, .ref q_queue, .ref q_sums, .ref q_kept, .ref q_isKept, .ref q_copies, .ref q_shelfMany, .ref q_shelfSort, .ref q_shelfHas])), (q_sums, .inl (cJ, 16, .inr (.inl v_sums))), (q_kept, .inl (cJ, 4, .inr (.inl v_kept)))]) (wr := []) (ws2 := [(q, .inr (9, [.ref q_bends, .ref q_rootAt, .int v_stepAt, .ref q_pile, .ref q_lastAt, .ref q_nextAt, .ref q_hasBend, .int v_justMany, .ref q_isMet, .ref q_queue, .ref q_sums, .ref q_kept, .ref q_isKept, .ref q_copies, .ref q_shelfMany, .ref q_shelfSort, .ref q_shelfHas])), (q_sums, .inl (cJ, 16, .inr (.inl v_sums))), (q_kept, .inl (cJ, 4, .inr (.inl v_kept)))]) (r := r11) (va_runV (As := [.int x5]) (rest := [.int x4]) ⟨hx, hb, hml, hown, hts⟩ (kX9_productWith (l := l) (G := G) (cI := cI) (cJ := cJ) (cZ := cZ) (cS := cS) (cG := cG) n q q_bends q_rootAt q_pile q_lastAt q_nextAt q_hasBend q_isMet q_queue q_sums q_kept q_isKept q_copies q_shelfMany q_shelfSort q_shelfHas v_stepAt v_justMany v_sums v_kept x5 _ hc11 _) (cwV 1 hts gX9_touching_X9_productWith rfl rfl rfl (by decide +kernel) ⟨Nat.le_of_ble_eq_true rfl, Nat.le_of_ble_eq_true rfl⟩) (cut_V hK hP hD [0, 1, 2] rfl rfl (ci := 9) (q0 := 0) rfl rfl) rfl rfl hl.1 rfl (lv_room (Nat.le_of_ble_eq_true rfl)) dX9_touching_60 ⟨Nat.zero_le _, Nat.zero_le _⟩) hP hD hS hA [0, 1, 2] [] [0, 1, 2] rfl rfl rfl rfl rfl rfl (fun H locs hP hD hS => ?_)
        refine lv_ldc2 (v := (-1)) hx hb hown (hts (.constantLong RX9 57 (-1)) (List.mem_of_getElem? (i := 1) rfl)) dX9_touching_63 ?_
        refine lc_ne (tgt := 74) hx hb dX9_touching_66 dX9_touching_67 (by decide) (fun c12 => ?_) (fun c12 => ?_)
        · have hf := if_n hf c12
          refine lv_iconst (v := 0) hx hb dX9_touching_74 (by decide) ?_
          refine lv_iadd hx hb dX9_touching_75 ?_
          refine lv_istore (lv' := [(4, .int (x4 + (0 : Int32))), (0, .ref q), (1, .int x1), (2, .int x2), (3, .int x3), (5, .int x5)]) hx hb dX9_touching_76 hl (by decide) rfl (fun ls hl => ?_)
          refine lv_iinc (v := x5 + (1 : Int32)) (lv' := [(5, .int (x5 + (1 : Int32))), (4, .int (x4 + (0 : Int32))), (0, .ref q), (1, .int x1), (2, .int x2), (3, .int x3)]) hx hb dX9_touching_78 hl (k := 5) rfl rfl (by decide) rfl (fun ls hl => ?_)
          refine lv_goto (tgt := 49) hx hb dX9_touching_81 (by decide) ?_
          exact ih (x4 + (0 : Int32)) (x5 + (1 : Int32)) _ _ _ hf hP hD hS (lv_sub hl [2, 3, 4, 5, 1, 0] rfl)
        · have hf := if_s hf c12
          refine lv_iconst (v := 1) hx hb dX9_touching_70 (by decide) ?_
          refine lv_goto (tgt := 75) hx hb dX9_touching_71 (by decide) ?_
          refine lv_iadd hx hb dX9_touching_75 ?_
          refine lv_istore (lv' := [(4, .int (x4 + (1 : Int32))), (0, .ref q), (1, .int x1), (2, .int x2), (3, .int x3), (5, .int x5)]) hx hb dX9_touching_76 hl (by decide) rfl (fun ls hl => ?_)
          refine lv_iinc (v := x5 + (1 : Int32)) (lv' := [(5, .int (x5 + (1 : Int32))), (4, .int (x4 + (1 : Int32))), (0, .ref q), (1, .int x1), (2, .int x2), (3, .int x3)]) hx hb dX9_touching_78 hl (k := 5) rfl rfl (by decide) rfl (fun ls hl => ?_)
          refine lv_goto (tgt := 49) hx hb dX9_touching_81 (by decide) ?_
          exact ih (x4 + (1 : Int32)) (x5 + (1 : Int32)) _ _ _ hf hP hD hS (lv_sub hl [2, 3, 4, 5, 1, 0] rfl)
  refine lv_iload_n hx hb dX9_touching_0 rfl (lv_at hl 3 rfl) ?_
  obtain ⟨r1, hc1, hf⟩ := ob_s hf
  refine bk_i (wc := []) (wc2 := []) (wr := [(q, .inr (9, [.ref q_bends, .ref q_rootAt, .int v_stepAt, .ref q_pile, .ref q_lastAt, .ref q_nextAt, .ref q_hasBend, .int v_justMany, .ref q_isMet, .ref q_queue, .ref q_sums, .ref q_kept, .ref q_isKept, .ref q_copies, .ref q_shelfMany, .ref q_shelfSort, .ref q_shelfHas])), (q_sums, .inl (cJ, 16, .inr (.inl v_sums))), (q_kept, .inl (cJ, 4, .inr (.inl v_kept)))]) (ws2 := [(q, .inr (9, [.ref q_bends, .ref q_rootAt, .int v_stepAt, .ref q_pile, .ref q_lastAt, .ref q_nextAt, .ref q_hasBend, .int v_justMany, .ref q_isMet, .ref q_queue, .ref q_sums, .ref q_kept, .ref q_isKept, .ref q_copies, .ref q_shelfMany, .ref q_shelfSort, .ref q_shelfHas])), (q_sums, .inl (cJ, 16, .inr (.inl v_sums))), (q_kept, .inl (cJ, 4, .inr (.inl v_kept)))]) (r := r1) (va_runS (As := [.int p3]) (rest := []) ⟨hx, hb, hml, hown, hts⟩ (kX9_isPlace (l := l) (G := G) (cI := cI) (cJ := cJ) (cZ := cZ) (cS := cS) (cG := cG) p3 _ hc1 _) (va_cwS 1 hts gX9_touching_X9_isPlace rfl rfl rfl (by decide +kernel) ⟨Nat.le_of_ble_eq_true rfl, Nat.le_of_ble_eq_true rfl⟩) (cut_S hK hP hD [] rfl rfl) rfl rfl hl.1 rfl (lv_room (Nat.le_of_ble_eq_true rfl)) dX9_touching_1 ⟨Nat.zero_le _, Nat.zero_le _⟩) hP hD hS hA [] [0, 1, 2] [0, 1, 2] rfl rfl rfl rfl rfl rfl (fun H locs hP hD hS => ?_)
  refine lv_if_ne (tgt := 9) hx hb dX9_touching_4 (by decide) (fun c2 => ?_) (fun c2 => ?_)
  · have hf := if_n hf c2
    refine lv_iload_n hx hb dX9_touching_9 rfl (lv_at hl 1 rfl) ?_
    obtain ⟨r3, hc3, hf⟩ := ob_s hf
    refine bk_i (wc := []) (wc2 := []) (wr := [(q, .inr (9, [.ref q_bends, .ref q_rootAt, .int v_stepAt, .ref q_pile, .ref q_lastAt, .ref q_nextAt, .ref q_hasBend, .int v_justMany, .ref q_isMet, .ref q_queue, .ref q_sums, .ref q_kept, .ref q_isKept, .ref q_copies, .ref q_shelfMany, .ref q_shelfSort, .ref q_shelfHas])), (q_sums, .inl (cJ, 16, .inr (.inl v_sums))), (q_kept, .inl (cJ, 4, .inr (.inl v_kept)))]) (ws2 := [(q, .inr (9, [.ref q_bends, .ref q_rootAt, .int v_stepAt, .ref q_pile, .ref q_lastAt, .ref q_nextAt, .ref q_hasBend, .int v_justMany, .ref q_isMet, .ref q_queue, .ref q_sums, .ref q_kept, .ref q_isKept, .ref q_copies, .ref q_shelfMany, .ref q_shelfSort, .ref q_shelfHas])), (q_sums, .inl (cJ, 16, .inr (.inl v_sums))), (q_kept, .inl (cJ, 4, .inr (.inl v_kept)))]) (r := r3) (va_runS (As := [.int p1]) (rest := []) ⟨hx, hb, hml, hown, hts⟩ (kX9_isWord (l := l) (G := G) (cI := cI) (cJ := cJ) (cZ := cZ) (cS := cS) (cG := cG) n p1 _ hc3 _) (va_cwS 1 hts gX9_touching_X9_isWord rfl rfl rfl (by decide +kernel) ⟨Nat.le_of_ble_eq_true rfl, Nat.le_of_ble_eq_true rfl⟩) (cut_S hK hP hD [] rfl rfl) rfl rfl hl.1 rfl (lv_room (Nat.le_of_ble_eq_true rfl)) dX9_touching_10 ⟨Nat.zero_le _, Nat.zero_le _⟩) hP hD hS hA [] [0, 1, 2] [0, 1, 2] rfl rfl rfl rfl rfl rfl (fun H locs hP hD hS => ?_)
    refine lv_if_eq (tgt := 23) hx hb dX9_touching_13 (by decide) (fun c4 => ?_) (fun c4 => ?_)
    · have hf := if_s hf c4
      refine lv_bipush (v := (-2)) hx hb dX9_touching_23 (by decide) ?_
      cases hf
      rw [← hQ]
      exact rt_i hx hb hr hlk hP hD hS rfl dX9_touching_25
    · have hf := if_n hf c4
      refine lv_iload_n hx hb dX9_touching_16 rfl (lv_at hl 2 rfl) ?_
      obtain ⟨r5, hc5, hf⟩ := ob_s hf
      refine bk_i (wc := []) (wc2 := []) (wr := [(q, .inr (9, [.ref q_bends, .ref q_rootAt, .int v_stepAt, .ref q_pile, .ref q_lastAt, .ref q_nextAt, .ref q_hasBend, .int v_justMany, .ref q_isMet, .ref q_queue, .ref q_sums, .ref q_kept, .ref q_isKept, .ref q_copies, .ref q_shelfMany, .ref q_shelfSort, .ref q_shelfHas])), (q_sums, .inl (cJ, 16, .inr (.inl v_sums))), (q_kept, .inl (cJ, 4, .inr (.inl v_kept)))]) (ws2 := [(q, .inr (9, [.ref q_bends, .ref q_rootAt, .int v_stepAt, .ref q_pile, .ref q_lastAt, .ref q_nextAt, .ref q_hasBend, .int v_justMany, .ref q_isMet, .ref q_queue, .ref q_sums, .ref q_kept, .ref q_isKept, .ref q_copies, .ref q_shelfMany, .ref q_shelfSort, .ref q_shelfHas])), (q_sums, .inl (cJ, 16, .inr (.inl v_sums))), (q_kept, .inl (cJ, 4, .inr (.inl v_kept)))]) (r := r5) (va_runS (As := [.int p2]) (rest := []) ⟨hx, hb, hml, hown, hts⟩ (kX9_isWord (l := l) (G := G) (cI := cI) (cJ := cJ) (cZ := cZ) (cS := cS) (cG := cG) n p2 _ hc5 _) (va_cwS 1 hts gX9_touching_X9_isWord rfl rfl rfl (by decide +kernel) ⟨Nat.le_of_ble_eq_true rfl, Nat.le_of_ble_eq_true rfl⟩) (cut_S hK hP hD [] rfl rfl) rfl rfl hl.1 rfl (lv_room (Nat.le_of_ble_eq_true rfl)) dX9_touching_17 ⟨Nat.zero_le _, Nat.zero_le _⟩) hP hD hS hA [] [0, 1, 2] [0, 1, 2] rfl rfl rfl rfl rfl rfl (fun H locs hP hD hS => ?_)
      refine lv_if_ne (tgt := 26) hx hb dX9_touching_20 (by decide) (fun c6 => ?_) (fun c6 => ?_)
      · have hf := if_n hf c6
        refine lv_aload_n hx hb dX9_touching_26 rfl (lv_at hl 0 rfl) ?_
        refine lv_iload_n hx hb dX9_touching_27 rfl (lv_at hl 2 rfl) ?_
        obtain ⟨r7, hc7, hf⟩ := ob_s hf
        refine bk_v (wc := [(q, .inr (9, [.ref q_bends, .ref q_rootAt, .int v_stepAt, .ref q_pile, .ref q_lastAt, .ref q_nextAt, .ref q_hasBend, .int v_justMany, .ref q_isMet, .ref q_queue, .ref q_sums, .ref q_kept, .ref q_isKept, .ref q_copies, .ref q_shelfMany, .ref q_shelfSort, .ref q_shelfHas])), (q_sums, .inl (cJ, 16, .inr (.inl v_sums)))]) (wc2 := [(q, .inr (9, [.ref q_bends, .ref q_rootAt, .int v_stepAt, .ref q_pile, .ref q_lastAt, .ref q_nextAt, .ref q_hasBend, .int v_justMany, .ref q_isMet, .ref q_queue, .ref q_sums, .ref q_kept, .ref q_isKept, .ref q_copies, .ref q_shelfMany, .ref q_shelfSort, .ref q_shelfHas])), (q_sums, .inl (cJ, 16, .inr (.inl r7)))]) (wr := [(q_kept, .inl (cJ, 4, .inr (.inl v_kept)))]) (ws2 := [(q, .inr (9, [.ref q_bends, .ref q_rootAt, .int v_stepAt, .ref q_pile, .ref q_lastAt, .ref q_nextAt, .ref q_hasBend, .int v_justMany, .ref q_isMet, .ref q_queue, .ref q_sums, .ref q_kept, .ref q_isKept, .ref q_copies, .ref q_shelfMany, .ref q_shelfSort, .ref q_shelfHas])), (q_sums, .inl (cJ, 16, .inr (.inl r7))), (q_kept, .inl (cJ, 4, .inr (.inl v_kept)))]) (va_runV (As := [.int p2]) (rest := []) ⟨hx, hb, hml, hown, hts⟩ (kX9_laysWord (l := l) (G := G) (cI := cI) (cJ := cJ) (cZ := cZ) (cS := cS) (cG := cG) n q q_bends q_rootAt q_pile q_lastAt q_nextAt q_hasBend q_isMet q_queue q_sums q_kept q_isKept q_copies q_shelfMany q_shelfSort q_shelfHas v_stepAt v_justMany v_sums p2 _ hc7 _) (cwV 1 hts gX9_touching_X9_laysWord rfl rfl rfl (by decide +kernel) ⟨Nat.le_of_ble_eq_true rfl, Nat.le_of_ble_eq_true rfl⟩) (cut_V hK hP hD [0, 1] rfl rfl (ci := 9) (q0 := 0) rfl rfl) rfl rfl hl.1 rfl (lv_room (Nat.le_of_ble_eq_true rfl)) dX9_touching_28 ⟨Nat.zero_le _, Nat.zero_le _⟩) hP hD hS hA [0, 1] [2] [1, 2, 0] rfl rfl rfl rfl rfl rfl (fun H locs hP hD hS => ?_)
        refine lv_aload_n hx hb dX9_touching_31 rfl (lv_at hl 0 rfl) ?_
        refine lv_iload_n hx hb dX9_touching_32 rfl (lv_at hl 3 rfl) ?_
        refine lv_iconst (v := 1) hx hb dX9_touching_33 (by decide) ?_
        refine lv_isub hx hb dX9_touching_34 ?_
        obtain ⟨r8, hc8, hf⟩ := ob_s hf
        refine bk_v (wc := [(q, .inr (9, [.ref q_bends, .ref q_rootAt, .int v_stepAt, .ref q_pile, .ref q_lastAt, .ref q_nextAt, .ref q_hasBend, .int v_justMany, .ref q_isMet, .ref q_queue, .ref q_sums, .ref q_kept, .ref q_isKept, .ref q_copies, .ref q_shelfMany, .ref q_shelfSort, .ref q_shelfHas])), (q_sums, .inl (cJ, 16, .inr (.inl r7))), (q_kept, .inl (cJ, 4, .inr (.inl v_kept)))]) (wc2 := [(q, .inr (9, [.ref q_bends, .ref q_rootAt, .int v_stepAt, .ref q_pile, .ref q_lastAt, .ref q_nextAt, .ref q_hasBend, .int v_justMany, .ref q_isMet, .ref q_queue, .ref q_sums, .ref q_kept, .ref q_isKept, .ref q_copies, .ref q_shelfMany, .ref q_shelfSort, .ref q_shelfHas])), (q_sums, .inl (cJ, 16, .inr (.inl r7))), (q_kept, .inl (cJ, 4, .inr (.inl r8)))]) (wr := []) (ws2 := [(q, .inr (9, [.ref q_bends, .ref q_rootAt, .int v_stepAt, .ref q_pile, .ref q_lastAt, .ref q_nextAt, .ref q_hasBend, .int v_justMany, .ref q_isMet, .ref q_queue, .ref q_sums, .ref q_kept, .ref q_isKept, .ref q_copies, .ref q_shelfMany, .ref q_shelfSort, .ref q_shelfHas])), (q_sums, .inl (cJ, 16, .inr (.inl r7))), (q_kept, .inl (cJ, 4, .inr (.inl r8)))]) (va_runV (As := [.int (p3 - (1 : Int32))]) (rest := []) ⟨hx, hb, hml, hown, hts⟩ (kX9_keeps (l := l) (G := G) (cI := cI) (cJ := cJ) (cZ := cZ) (cS := cS) (cG := cG) n q q_bends q_rootAt q_pile q_lastAt q_nextAt q_hasBend q_isMet q_queue q_sums q_kept q_isKept q_copies q_shelfMany q_shelfSort q_shelfHas v_stepAt v_justMany r7 v_kept (p3 - (1 : Int32)) _ hc8 _) (cwV 1 hts gX9_touching_X9_keeps rfl rfl rfl (by decide +kernel) ⟨Nat.le_of_ble_eq_true rfl, Nat.le_of_ble_eq_true rfl⟩) (cut_V hK hP hD [0, 1, 2] rfl rfl (ci := 9) (q0 := 0) rfl rfl) rfl rfl hl.1 rfl (lv_room (Nat.le_of_ble_eq_true rfl)) dX9_touching_35 ⟨Nat.zero_le _, Nat.zero_le _⟩) hP hD hS hA [0, 1, 2] [] [0, 1, 2] rfl rfl rfl rfl rfl rfl (fun H locs hP hD hS => ?_)
        refine lv_aload_n hx hb dX9_touching_38 rfl (lv_at hl 0 rfl) ?_
        refine lv_iload_n hx hb dX9_touching_39 rfl (lv_at hl 1 rfl) ?_
        obtain ⟨r9, hc9, hf⟩ := ob_s hf
        refine bk_v (wc := [(q, .inr (9, [.ref q_bends, .ref q_rootAt, .int v_stepAt, .ref q_pile, .ref q_lastAt, .ref q_nextAt, .ref q_hasBend, .int v_justMany, .ref q_isMet, .ref q_queue, .ref q_sums, .ref q_kept, .ref q_isKept, .ref q_copies, .ref q_shelfMany, .ref q_shelfSort, .ref q_shelfHas])), (q_sums, .inl (cJ, 16, .inr (.inl r7)))]) (wc2 := [(q, .inr (9, [.ref q_bends, .ref q_rootAt, .int v_stepAt, .ref q_pile, .ref q_lastAt, .ref q_nextAt, .ref q_hasBend, .int v_justMany, .ref q_isMet, .ref q_queue, .ref q_sums, .ref q_kept, .ref q_isKept, .ref q_copies, .ref q_shelfMany, .ref q_shelfSort, .ref q_shelfHas])), (q_sums, .inl (cJ, 16, .inr (.inl r9)))]) (wr := [(q_kept, .inl (cJ, 4, .inr (.inl r8)))]) (ws2 := [(q, .inr (9, [.ref q_bends, .ref q_rootAt, .int v_stepAt, .ref q_pile, .ref q_lastAt, .ref q_nextAt, .ref q_hasBend, .int v_justMany, .ref q_isMet, .ref q_queue, .ref q_sums, .ref q_kept, .ref q_isKept, .ref q_copies, .ref q_shelfMany, .ref q_shelfSort, .ref q_shelfHas])), (q_sums, .inl (cJ, 16, .inr (.inl r9))), (q_kept, .inl (cJ, 4, .inr (.inl r8)))]) (va_runV (As := [.int p1]) (rest := []) ⟨hx, hb, hml, hown, hts⟩ (kX9_laysWord (l := l) (G := G) (cI := cI) (cJ := cJ) (cZ := cZ) (cS := cS) (cG := cG) n q q_bends q_rootAt q_pile q_lastAt q_nextAt q_hasBend q_isMet q_queue q_sums q_kept q_isKept q_copies q_shelfMany q_shelfSort q_shelfHas v_stepAt v_justMany r7 p1 _ hc9 _) (cwV 1 hts gX9_touching_X9_laysWord rfl rfl rfl (by decide +kernel) ⟨Nat.le_of_ble_eq_true rfl, Nat.le_of_ble_eq_true rfl⟩) (cut_V hK hP hD [0, 1] rfl rfl (ci := 9) (q0 := 0) rfl rfl) rfl rfl hl.1 rfl (lv_room (Nat.le_of_ble_eq_true rfl)) dX9_touching_40 ⟨Nat.zero_le _, Nat.zero_le _⟩) hP hD hS hA [0, 1] [2] [1, 2, 0] rfl rfl rfl rfl rfl rfl (fun H locs hP hD hS => ?_)
        refine lv_iconst (v := 0) hx hb dX9_touching_43 (by decide) ?_
        refine lv_istore (lv' := [(4, .int (0 : Int32)), (0, .ref q), (1, .int p1), (2, .int p2), (3, .int p3)]) hx hb dX9_touching_44 hl (by decide) rfl (fun ls hl => ?_)
        refine lv_iconst (v := 0) hx hb dX9_touching_46 (by decide) ?_
        refine lv_istore (lv' := [(5, .int (0 : Int32)), (4, .int (0 : Int32)), (0, .ref q), (1, .int p1), (2, .int p2), (3, .int p3)]) hx hb dX9_touching_47 hl (by decide) rfl (fun ls hl => ?_)
        refine hL49 p1 p2 p3 r9 r8 _ (fun y4_13 y5_13 H locs ls hf hP hD hS hl => ?_) n (0 : Int32) (0 : Int32) _ _ _ hf hP hD hS (lv_sub hl [2, 3, 4, 5, 1, 0] rfl)
        have hP : va_P G vwCl [(q, .inr (9, [.ref q_bends, .ref q_rootAt, .int v_stepAt, .ref q_pile, .ref q_lastAt, .ref q_nextAt, .ref q_hasBend, .int v_justMany, .ref q_isMet, .ref q_queue, .ref q_sums, .ref q_kept, .ref q_isKept, .ref q_copies, .ref q_shelfMany, .ref q_shelfSort, .ref q_shelfHas])), (q_sums, .inl (cJ, 16, .inr (.inl r9))), (q_kept, .inl (cJ, 4, .inr (.inl r8)))] H := hP
        have hD : va_D A [(q, .inr (9, [.ref q_bends, .ref q_rootAt, .int v_stepAt, .ref q_pile, .ref q_lastAt, .ref q_nextAt, .ref q_hasBend, .int v_justMany, .ref q_isMet, .ref q_queue, .ref q_sums, .ref q_kept, .ref q_isKept, .ref q_copies, .ref q_shelfMany, .ref q_shelfSort, .ref q_shelfHas])), (q_sums, .inl (cJ, 16, .inr (.inl r9))), (q_kept, .inl (cJ, 4, .inr (.inl r8)))] := hD
        refine lv_iload hx hb dX9_touching_84 (lv_at hl 4 rfl) ?_
        cases hf
        rw [← hQ]
        exact rt_i hx hb hr hlk hP hD hS rfl dX9_touching_86
      · have hf := if_s hf c6
        refine lv_bipush (v := (-2)) hx hb dX9_touching_23 (by decide) ?_
        cases hf
        rw [← hQ]
        exact rt_i hx hb hr hlk hP hD hS rfl dX9_touching_25
  · have hf := if_s hf c2
    refine lv_iconst (v := (-1)) hx hb dX9_touching_7 (by decide) ?_
    cases hf
    rw [← hQ]
    exact rt_i hx hb hr hlk hP hD hS rfl dX9_touching_8
def pX9_keep_L20 (x1 : Int32) (v_bends : (Nat → Int64)) : Nat → Int32 → (Nat → Int64) → (Int32 → (Nat → Int64) → Option (Int32 × (Nat → Int32) × (Nat → Int64))) → Option (Int32 × (Nat → Int32) × (Nat → Int64))
  | 0, _, _, _ => none
  | n + 1, x2, v_copies, k => if (4 : Int32) ≤ x2 then k x2 v_copies else ck (ix x2 4) (ck (ix (((4 : Int32) * x1) + x2) 12) (pX9_keep_L20 x1 v_bends n (x2 + (1 : Int32)) (vp_updL v_copies (((4 : Int32) * x1) + x2).toNatClampNeg (v_bends x2.toNatClampNeg)) k))
def pX9_keep (n : Nat) (v_bends : (Nat → Int64)) (v_isKept : (Nat → Int32)) (v_copies : (Nat → Int64)) (p1 : Int32) : Option (Int32 × (Nat → Int32) × (Nat → Int64)) := Option.bind (pX9_within p1 (0 : Int32) (2 : Int32)) (fun r1 => if r1 = 0 then some ((-1 : Int32), v_isKept, v_copies) else ck (ix p1 3) (pX9_keep_L20 p1 v_bends n (0 : Int32) v_copies (fun (y2_7 : Int32) (u7_copies : (Nat → Int64)) => some ((1 : Int32), upd v_isKept p1.toNatClampNeg (1 : Int32), u7_copies))))
def rmX9_keep : Room := { frames := 1, cells := 0, slots := 0, locals := 22 }
theorem hiX9_keep_X9 : ∀ w ∈ u_ws RX9 TX9 17, w ∈ wsX9_keep := fun _ h => List.mem_cons_of_mem _ (List.mem_append_right _ h)
set_option maxRecDepth 100000 in
set_option maxHeartbeats 4000000 in
theorem kX9_keep {l : Launch} {G : va_G} {cI cJ cZ cS cG : ClassId} (n : Nat) (q q_bends q_rootAt q_pile q_lastAt q_nextAt q_hasBend q_isMet q_queue q_sums q_kept q_isKept q_copies q_shelfMany q_shelfSort q_shelfHas : Nat) (v_stepAt : Int32) (v_justMany : Int32) (v_bends : (Nat → Int64)) (v_isKept : (Nat → Int32)) (v_copies : (Nat → Int64)) (p1 : Int32) (R : Int32 × (Nat → Int32) × (Nat → Int64)) (hf : pX9_keep n v_bends v_isKept v_copies p1 = some R) : CTi l yX9_keep wsX9_keep rmX9_keep G cI cJ cZ cS cG [.ref q, .int p1] [(q, .inr (9, [.ref q_bends, .ref q_rootAt, .int v_stepAt, .ref q_pile, .ref q_lastAt, .ref q_nextAt, .ref q_hasBend, .int v_justMany, .ref q_isMet, .ref q_queue, .ref q_sums, .ref q_kept, .ref q_isKept, .ref q_copies, .ref q_shelfMany, .ref q_shelfSort, .ref q_shelfHas])), (q_bends, .inl (cJ, 4, .inr (.inl v_bends))), (q_isKept, .inl (cZ, 3, .inl v_isKept)), (q_copies, .inl (cJ, 12, .inr (.inl v_copies)))] [(q, .inr (9, [.ref q_bends, .ref q_rootAt, .int v_stepAt, .ref q_pile, .ref q_lastAt, .ref q_nextAt, .ref q_hasBend, .int v_justMany, .ref q_isMet, .ref q_queue, .ref q_sums, .ref q_kept, .ref q_isKept, .ref q_copies, .ref q_shelfMany, .ref q_shelfSort, .ref q_shelfHas])), (q_bends, .inl (cJ, 4, .inr (.inl v_bends))), (q_isKept, .inl (cZ, 3, .inl R.2.1)), (q_copies, .inl (cJ, 12, .inr (.inl R.2.2)))] R.1 := by
  refine Met.ofE (Qc := fun A => QRi G A [(q, .inr (9, [.ref q_bends, .ref q_rootAt, .int v_stepAt, .ref q_pile, .ref q_lastAt, .ref q_nextAt, .ref q_hasBend, .int v_justMany, .ref q_isMet, .ref q_queue, .ref q_sums, .ref q_kept, .ref q_isKept, .ref q_copies, .ref q_shelfMany, .ref q_shelfSort, .ref q_shelfHas])), (q_bends, .inl (cJ, 4, .inr (.inl v_bends))), (q_isKept, .inl (cZ, 3, .inl R.2.1)), (q_copies, .inl (cJ, 12, .inr (.inl R.2.2)))] R.1) (cc := cX9_keep) (nL := 3) (ret := some .int) (plainFor_of_name (by decide +kernel)) rfl (Nat.le_of_ble_eq_true rfl) ?_
  intro p e s m below meth c A ls hx hb hml hr hlk hts hown hK hA hP hD hS hl
  have hown : s.vm.findClass RX9 = some m.cls := hown
  have hl : lv_has ls 3 [(0, .ref q), (1, .int p1)] := hl
  generalize hQ : MQ below (QRi G A [(q, .inr (9, [.ref q_bends, .ref q_rootAt, .int v_stepAt, .ref q_pile, .ref q_lastAt, .ref q_nextAt, .ref q_hasBend, .int v_justMany, .ref q_isMet, .ref q_queue, .ref q_sums, .ref q_kept, .ref q_isKept, .ref q_copies, .ref q_shelfMany, .ref q_shelfSort, .ref q_shelfHas])), (q_bends, .inl (cJ, 4, .inr (.inl v_bends))), (q_isKept, .inl (cZ, 3, .inl R.2.1)), (q_copies, .inl (cJ, 12, .inr (.inl R.2.2)))] R.1) ([.ref q, .int p1] : List Value).toArray s 0 0 A = QQ
  unfold pX9_keep at hf
  have hL20 : ∀ (x1 : Int32) (v_isKept : (Nat → Int32)) (k : Int32 → (Nat → Int64) → Option (Int32 × (Nat → Int32) × (Nat → Int64))), (∀ (x2 : Int32) (v_copies : (Nat → Int64)) (H : Heap) (locs : List Loc) (ls : Array Slot), k x2 v_copies = some R → va_P G vwCl [(q, .inr (9, [.ref q_bends, .ref q_rootAt, .int v_stepAt, .ref q_pile, .ref q_lastAt, .ref q_nextAt, .ref q_hasBend, .int v_justMany, .ref q_isMet, .ref q_queue, .ref q_sums, .ref q_kept, .ref q_isKept, .ref q_copies, .ref q_shelfMany, .ref q_shelfSort, .ref q_shelfHas])), (q_bends, .inl (cJ, 4, .inr (.inl v_bends))), (q_isKept, .inl (cZ, 3, .inl v_isKept)), (q_copies, .inl (cJ, 12, .inr (.inl v_copies)))] H → va_D A [(q, .inr (9, [.ref q_bends, .ref q_rootAt, .int v_stepAt, .ref q_pile, .ref q_lastAt, .ref q_nextAt, .ref q_hasBend, .int v_justMany, .ref q_isMet, .ref q_queue, .ref q_sums, .ref q_kept, .ref q_isKept, .ref q_copies, .ref q_shelfMany, .ref q_shelfSort, .ref q_shelfHas])), (q_bends, .inl (cJ, 4, .inr (.inl v_bends))), (q_isKept, .inl (cZ, 3, .inl v_isKept)), (q_copies, .inl (cJ, 12, .inr (.inl v_copies)))] → va_S A s.heap H locs → lv_has ls 3 [(0, .ref q), (1, .int x1), (2, .int x2)] → W p l e rmX9_keep s m ([.ref q, .int p1] : List Value).toArray below meth c H locs 0 0 QQ (F0 m 47 ls [])) → ∀ (n : Nat) (x2 : Int32) (v_copies : (Nat → Int64)) (H : Heap) (locs : List Loc) (ls : Array Slot), pX9_keep_L20 x1 v_bends n x2 v_copies k = some R → va_P G vwCl [(q, .inr (9, [.ref q_bends, .ref q_rootAt, .int v_stepAt, .ref q_pile, .ref q_lastAt, .ref q_nextAt, .ref q_hasBend, .int v_justMany, .ref q_isMet, .ref q_queue, .ref q_sums, .ref q_kept, .ref q_isKept, .ref q_copies, .ref q_shelfMany, .ref q_shelfSort, .ref q_shelfHas])), (q_bends, .inl (cJ, 4, .inr (.inl v_bends))), (q_isKept, .inl (cZ, 3, .inl v_isKept)), (q_copies, .inl (cJ, 12, .inr (.inl v_copies)))] H → va_D A [(q, .inr (9, [.ref q_bends, .ref q_rootAt, .int v_stepAt, .ref q_pile, .ref q_lastAt, .ref q_nextAt, .ref q_hasBend, .int v_justMany, .ref q_isMet, .ref q_queue, .ref q_sums, .ref q_kept, .ref q_isKept, .ref q_copies, .ref q_shelfMany, .ref q_shelfSort, .ref q_shelfHas])), (q_bends, .inl (cJ, 4, .inr (.inl v_bends))), (q_isKept, .inl (cZ, 3, .inl v_isKept)), (q_copies, .inl (cJ, 12, .inr (.inl v_copies)))] → va_S A s.heap H locs → lv_has ls 3 [(0, .ref q), (1, .int x1), (2, .int x2)] → W p l e rmX9_keep s m ([.ref q, .int p1] : List Value).toArray below meth c H locs 0 0 QQ (F0 m 20 ls []) := by
    intro x1 v_isKept k hk n
    induction n with
    | zero =>
      intro x2 v_copies H locs ls hf
      cases hf
    | succ n ih =>
      intro x2 v_copies H locs ls hf hP hD hS hl
      unfold pX9_keep_L20 at hf
      refine lv_iload_n hx hb dX9_keep_20 rfl (lv_at hl 2 rfl) ?_
      refine lv_iconst (v := 4) hx hb dX9_keep_21 (by decide) ?_
      refine lv_icmp_ge (tgt := 47) hx hb dX9_keep_22 (by decide) (fun c4 => ?_) (fun c4 => ?_)
      · have hf := if_s hf c4
        exact hk x2 v_copies _ _ _ hf hP hD hS (lv_sub hl [0, 1, 2] rfl)
      · have hf := if_n hf c4
        refine lv_aload_n hx hb dX9_keep_25 rfl (lv_at hl 0 rfl) ?_
        refine va_get (D := G) (ci := 9) (v := .ref q_copies) (C := RX9) (T := TX9) (N := 17) hx hb hts hiX9_keep_X9 hown hK.1 hP 0 rfl rfl 13 (by decide) (hts (.fieldLink RX9 45 "PackedBendsModel" "copies" "[J") (List.mem_of_getElem? (i := 2) rfl)) (fun _ h9 => h9) rfl dX9_keep_26 ?_
        refine lv_iconst (v := 4) hx hb dX9_keep_29 (by decide) ?_
        refine lv_iload_n hx hb dX9_keep_30 rfl (lv_at hl 1 rfl) ?_
        refine lv_imul hx hb dX9_keep_31 ?_
        refine lv_iload_n hx hb dX9_keep_32 rfl (lv_at hl 2 rfl) ?_
        refine lv_iadd hx hb dX9_keep_33 ?_
        refine lv_aload_n hx hb dX9_keep_34 rfl (lv_at hl 0 rfl) ?_
        refine va_get (D := G) (ci := 9) (v := .ref q_bends) (C := RX9) (T := TX9) (N := 17) hx hb hts hiX9_keep_X9 hown hK.1 hP 0 rfl rfl 0 (by decide) (hts (.fieldLink RX9 7 "PackedBendsModel" "bends" "[J") (List.mem_of_getElem? (i := 3) rfl)) (fun _ h9 => h9) rfl dX9_keep_35 ?_
        refine lv_iload_n hx hb dX9_keep_38 rfl (lv_at hl 2 rfl) ?_
        obtain ⟨z5, hf⟩ := ck_s hf
        refine va_lald hx hb hK.1 hP 1 1 rfl rfl (vp_in_iff.mpr z5) dX9_keep_39 ?_
        obtain ⟨z6, hf⟩ := ck_s hf
        refine va_last hx hb hK.1 hP hD hS 3 1 rfl rfl (vp_in_iff.mpr z6) dX9_keep_40 (fun H locs hP hD hS => ?_)
        have hP : va_P G vwCl [(q, .inr (9, [.ref q_bends, .ref q_rootAt, .int v_stepAt, .ref q_pile, .ref q_lastAt, .ref q_nextAt, .ref q_hasBend, .int v_justMany, .ref q_isMet, .ref q_queue, .ref q_sums, .ref q_kept, .ref q_isKept, .ref q_copies, .ref q_shelfMany, .ref q_shelfSort, .ref q_shelfHas])), (q_bends, .inl (cJ, 4, .inr (.inl v_bends))), (q_isKept, .inl (cZ, 3, .inl v_isKept)), (q_copies, .inl (cJ, 12, .inr (.inl (vp_updL v_copies (((4 : Int32) * x1) + x2).toNatClampNeg (v_bends x2.toNatClampNeg)))))] H := hP
        have hD : va_D A [(q, .inr (9, [.ref q_bends, .ref q_rootAt, .int v_stepAt, .ref q_pile, .ref q_lastAt, .ref q_nextAt, .ref q_hasBend, .int v_justMany, .ref q_isMet, .ref q_queue, .ref q_sums, .ref q_kept, .ref q_isKept, .ref q_copies, .ref q_shelfMany, .ref q_shelfSort, .ref q_shelfHas])), (q_bends, .inl (cJ, 4, .inr (.inl v_bends))), (q_isKept, .inl (cZ, 3, .inl v_isKept)), (q_copies, .inl (cJ, 12, .inr (.inl (vp_updL v_copies (((4 : Int32) * x1) + x2).toNatClampNeg (v_bends x2.toNatClampNeg)))))] := hD
        refine lv_iinc (v := x2 + (1 : Int32)) (lv' := [(2, .int (x2 + (1 : Int32))), (0, .ref q), (1, .int x1)]) hx hb dX9_keep_41 hl (k := 2) rfl rfl (by decide) rfl (fun ls hl => ?_)
        refine lv_goto (tgt := 20) hx hb dX9_keep_44 (by decide) ?_
        exact ih (x2 + (1 : Int32)) (vp_updL v_copies (((4 : Int32) * x1) + x2).toNatClampNeg (v_bends x2.toNatClampNeg)) _ _ _ hf hP hD hS (lv_sub hl [1, 2, 0] rfl)
  refine lv_iload_n hx hb dX9_keep_0 rfl (lv_at hl 1 rfl) ?_
  refine lv_iconst (v := 0) hx hb dX9_keep_1 (by decide) ?_
  refine lv_iconst (v := 2) hx hb dX9_keep_2 (by decide) ?_
  obtain ⟨r1, hc1, hf⟩ := ob_s hf
  refine bk_i (wc := []) (wc2 := []) (wr := [(q, .inr (9, [.ref q_bends, .ref q_rootAt, .int v_stepAt, .ref q_pile, .ref q_lastAt, .ref q_nextAt, .ref q_hasBend, .int v_justMany, .ref q_isMet, .ref q_queue, .ref q_sums, .ref q_kept, .ref q_isKept, .ref q_copies, .ref q_shelfMany, .ref q_shelfSort, .ref q_shelfHas])), (q_bends, .inl (cJ, 4, .inr (.inl v_bends))), (q_isKept, .inl (cZ, 3, .inl v_isKept)), (q_copies, .inl (cJ, 12, .inr (.inl v_copies)))]) (ws2 := [(q, .inr (9, [.ref q_bends, .ref q_rootAt, .int v_stepAt, .ref q_pile, .ref q_lastAt, .ref q_nextAt, .ref q_hasBend, .int v_justMany, .ref q_isMet, .ref q_queue, .ref q_sums, .ref q_kept, .ref q_isKept, .ref q_copies, .ref q_shelfMany, .ref q_shelfSort, .ref q_shelfHas])), (q_bends, .inl (cJ, 4, .inr (.inl v_bends))), (q_isKept, .inl (cZ, 3, .inl v_isKept)), (q_copies, .inl (cJ, 12, .inr (.inl v_copies)))]) (r := r1) (va_runS (As := [.int p1, .int (0 : Int32), .int (2 : Int32)]) (rest := []) ⟨hx, hb, hml, hown, hts⟩ (kX9_within (l := l) (G := G) (cI := cI) (cJ := cJ) (cZ := cZ) (cS := cS) (cG := cG) p1 (0 : Int32) (2 : Int32) _ hc1 _) (va_cwS 3 hts gX9_keep_X9_within rfl rfl rfl (by decide +kernel) ⟨Nat.le_of_ble_eq_true rfl, Nat.le_of_ble_eq_true rfl⟩) (cut_S hK hP hD [] rfl rfl) rfl rfl hl.1 rfl (lv_room (Nat.le_of_ble_eq_true rfl)) dX9_keep_3 ⟨Nat.zero_le _, Nat.zero_le _⟩) hP hD hS hA [] [0, 1, 2, 3] [0, 1, 2, 3] rfl rfl rfl rfl rfl rfl (fun H locs hP hD hS => ?_)
  refine lv_if_ne (tgt := 11) hx hb dX9_keep_6 (by decide) (fun c2 => ?_) (fun c2 => ?_)
  · have hf := if_n hf c2
    refine lv_aload_n hx hb dX9_keep_11 rfl (lv_at hl 0 rfl) ?_
    refine va_get (D := G) (ci := 9) (v := .ref q_isKept) (C := RX9) (T := TX9) (N := 17) hx hb hts hiX9_keep_X9 hown hK.1 hP 0 rfl rfl 12 (by decide) (hts (.fieldLink RX9 42 "PackedBendsModel" "isKept" "[Z") (List.mem_of_getElem? (i := 1) rfl)) (fun _ h9 => h9) rfl dX9_keep_12 ?_
    refine lv_iload_n hx hb dX9_keep_15 rfl (lv_at hl 1 rfl) ?_
    refine lv_iconst (v := 1) hx hb dX9_keep_16 (by decide) ?_
    obtain ⟨z3, hf⟩ := ck_s hf
    refine va_zast hx hb hK.1 hP hD hS 2 2 rfl rfl (vp_in_iff.mpr z3) dX9_keep_17 (fun H locs hP hD hS => ?_)
    rw [vz1] at hP hD
    have hP : va_P G vwCl [(q, .inr (9, [.ref q_bends, .ref q_rootAt, .int v_stepAt, .ref q_pile, .ref q_lastAt, .ref q_nextAt, .ref q_hasBend, .int v_justMany, .ref q_isMet, .ref q_queue, .ref q_sums, .ref q_kept, .ref q_isKept, .ref q_copies, .ref q_shelfMany, .ref q_shelfSort, .ref q_shelfHas])), (q_bends, .inl (cJ, 4, .inr (.inl v_bends))), (q_isKept, .inl (cZ, 3, .inl (upd v_isKept p1.toNatClampNeg (1 : Int32)))), (q_copies, .inl (cJ, 12, .inr (.inl v_copies)))] H := hP
    have hD : va_D A [(q, .inr (9, [.ref q_bends, .ref q_rootAt, .int v_stepAt, .ref q_pile, .ref q_lastAt, .ref q_nextAt, .ref q_hasBend, .int v_justMany, .ref q_isMet, .ref q_queue, .ref q_sums, .ref q_kept, .ref q_isKept, .ref q_copies, .ref q_shelfMany, .ref q_shelfSort, .ref q_shelfHas])), (q_bends, .inl (cJ, 4, .inr (.inl v_bends))), (q_isKept, .inl (cZ, 3, .inl (upd v_isKept p1.toNatClampNeg (1 : Int32)))), (q_copies, .inl (cJ, 12, .inr (.inl v_copies)))] := hD
    refine lv_iconst (v := 0) hx hb dX9_keep_18 (by decide) ?_
    refine lv_istore_n (lv' := [(2, .int (0 : Int32)), (0, .ref q), (1, .int p1)]) hx hb dX9_keep_19 rfl hl (by decide) rfl (fun ls hl => ?_)
    refine hL20 p1 (upd v_isKept p1.toNatClampNeg (1 : Int32)) _ (fun y2_7 u7_copies H locs ls hf hP hD hS hl => ?_) n (0 : Int32) v_copies _ _ _ hf hP hD hS (lv_sub hl [1, 2, 0] rfl)
    have hP : va_P G vwCl [(q, .inr (9, [.ref q_bends, .ref q_rootAt, .int v_stepAt, .ref q_pile, .ref q_lastAt, .ref q_nextAt, .ref q_hasBend, .int v_justMany, .ref q_isMet, .ref q_queue, .ref q_sums, .ref q_kept, .ref q_isKept, .ref q_copies, .ref q_shelfMany, .ref q_shelfSort, .ref q_shelfHas])), (q_bends, .inl (cJ, 4, .inr (.inl v_bends))), (q_isKept, .inl (cZ, 3, .inl (upd v_isKept p1.toNatClampNeg (1 : Int32)))), (q_copies, .inl (cJ, 12, .inr (.inl u7_copies)))] H := hP
    have hD : va_D A [(q, .inr (9, [.ref q_bends, .ref q_rootAt, .int v_stepAt, .ref q_pile, .ref q_lastAt, .ref q_nextAt, .ref q_hasBend, .int v_justMany, .ref q_isMet, .ref q_queue, .ref q_sums, .ref q_kept, .ref q_isKept, .ref q_copies, .ref q_shelfMany, .ref q_shelfSort, .ref q_shelfHas])), (q_bends, .inl (cJ, 4, .inr (.inl v_bends))), (q_isKept, .inl (cZ, 3, .inl (upd v_isKept p1.toNatClampNeg (1 : Int32)))), (q_copies, .inl (cJ, 12, .inr (.inl u7_copies)))] := hD
    refine lv_iconst (v := 1) hx hb dX9_keep_47 (by decide) ?_
    cases hf
    rw [← hQ]
    exact rt_i hx hb hr hlk hP hD hS rfl dX9_keep_48
  · have hf := if_s hf c2
    refine lv_iconst (v := (-1)) hx hb dX9_keep_9 (by decide) ?_
    cases hf
    rw [← hQ]
    exact rt_i hx hb hr hlk hP hD hS rfl dX9_keep_10
def pX9_back_L25 (x1 : Int32) (v_copies : (Nat → Int64)) : Nat → Int32 → (Nat → Int64) → (Int32 → (Nat → Int64) → Option (Int32 × (Nat → Int64))) → Option (Int32 × (Nat → Int64))
  | 0, _, _, _ => none
  | n + 1, x2, v_bends, k => if (4 : Int32) ≤ x2 then k x2 v_bends else ck (ix (((4 : Int32) * x1) + x2) 12) (ck (ix x2 4) (pX9_back_L25 x1 v_copies n (x2 + (1 : Int32)) (vp_updL v_bends x2.toNatClampNeg (v_copies (((4 : Int32) * x1) + x2).toNatClampNeg)) k))
def pX9_back (n : Nat) (v_bends : (Nat → Int64)) (v_isKept : (Nat → Int32)) (v_copies : (Nat → Int64)) (p1 : Int32) : Option (Int32 × (Nat → Int64)) := Option.bind (pX9_within p1 (0 : Int32) (2 : Int32)) (fun r1 => if r1 = 0 then some ((-1 : Int32), v_bends) else ck (ix p1 3) (if (v_isKept p1.toNatClampNeg) = 0 then some ((-3 : Int32), v_bends) else pX9_back_L25 p1 v_copies n (0 : Int32) v_bends (fun (y2_8 : Int32) (u8_bends : (Nat → Int64)) => some ((1 : Int32), u8_bends))))
def rmX9_back : Room := { frames := 1, cells := 0, slots := 0, locals := 22 }
theorem hiX9_back_X9 : ∀ w ∈ u_ws RX9 TX9 17, w ∈ wsX9_back := fun _ h => List.mem_cons_of_mem _ (List.mem_append_right _ h)
set_option maxRecDepth 100000 in
set_option maxHeartbeats 4000000 in
theorem kX9_back {l : Launch} {G : va_G} {cI cJ cZ cS cG : ClassId} (n : Nat) (q q_bends q_rootAt q_pile q_lastAt q_nextAt q_hasBend q_isMet q_queue q_sums q_kept q_isKept q_copies q_shelfMany q_shelfSort q_shelfHas : Nat) (v_stepAt : Int32) (v_justMany : Int32) (v_bends : (Nat → Int64)) (v_isKept : (Nat → Int32)) (v_copies : (Nat → Int64)) (p1 : Int32) (R : Int32 × (Nat → Int64)) (hf : pX9_back n v_bends v_isKept v_copies p1 = some R) : CTi l yX9_back wsX9_back rmX9_back G cI cJ cZ cS cG [.ref q, .int p1] [(q, .inr (9, [.ref q_bends, .ref q_rootAt, .int v_stepAt, .ref q_pile, .ref q_lastAt, .ref q_nextAt, .ref q_hasBend, .int v_justMany, .ref q_isMet, .ref q_queue, .ref q_sums, .ref q_kept, .ref q_isKept, .ref q_copies, .ref q_shelfMany, .ref q_shelfSort, .ref q_shelfHas])), (q_bends, .inl (cJ, 4, .inr (.inl v_bends))), (q_isKept, .inl (cZ, 3, .inl v_isKept)), (q_copies, .inl (cJ, 12, .inr (.inl v_copies)))] [(q, .inr (9, [.ref q_bends, .ref q_rootAt, .int v_stepAt, .ref q_pile, .ref q_lastAt, .ref q_nextAt, .ref q_hasBend, .int v_justMany, .ref q_isMet, .ref q_queue, .ref q_sums, .ref q_kept, .ref q_isKept, .ref q_copies, .ref q_shelfMany, .ref q_shelfSort, .ref q_shelfHas])), (q_bends, .inl (cJ, 4, .inr (.inl R.2))), (q_isKept, .inl (cZ, 3, .inl v_isKept)), (q_copies, .inl (cJ, 12, .inr (.inl v_copies)))] R.1 := by
  refine Met.ofE (Qc := fun A => QRi G A [(q, .inr (9, [.ref q_bends, .ref q_rootAt, .int v_stepAt, .ref q_pile, .ref q_lastAt, .ref q_nextAt, .ref q_hasBend, .int v_justMany, .ref q_isMet, .ref q_queue, .ref q_sums, .ref q_kept, .ref q_isKept, .ref q_copies, .ref q_shelfMany, .ref q_shelfSort, .ref q_shelfHas])), (q_bends, .inl (cJ, 4, .inr (.inl R.2))), (q_isKept, .inl (cZ, 3, .inl v_isKept)), (q_copies, .inl (cJ, 12, .inr (.inl v_copies)))] R.1) (cc := cX9_back) (nL := 3) (ret := some .int) (plainFor_of_name (by decide +kernel)) rfl (Nat.le_of_ble_eq_true rfl) ?_
  intro p e s m below meth c A ls hx hb hml hr hlk hts hown hK hA hP hD hS hl
  have hown : s.vm.findClass RX9 = some m.cls := hown
  have hl : lv_has ls 3 [(0, .ref q), (1, .int p1)] := hl
  generalize hQ : MQ below (QRi G A [(q, .inr (9, [.ref q_bends, .ref q_rootAt, .int v_stepAt, .ref q_pile, .ref q_lastAt, .ref q_nextAt, .ref q_hasBend, .int v_justMany, .ref q_isMet, .ref q_queue, .ref q_sums, .ref q_kept, .ref q_isKept, .ref q_copies, .ref q_shelfMany, .ref q_shelfSort, .ref q_shelfHas])), (q_bends, .inl (cJ, 4, .inr (.inl R.2))), (q_isKept, .inl (cZ, 3, .inl v_isKept)), (q_copies, .inl (cJ, 12, .inr (.inl v_copies)))] R.1) ([.ref q, .int p1] : List Value).toArray s 0 0 A = QQ
  unfold pX9_back at hf
  have hL25 : ∀ (x1 : Int32) (k : Int32 → (Nat → Int64) → Option (Int32 × (Nat → Int64))), (∀ (x2 : Int32) (v_bends : (Nat → Int64)) (H : Heap) (locs : List Loc) (ls : Array Slot), k x2 v_bends = some R → va_P G vwCl [(q, .inr (9, [.ref q_bends, .ref q_rootAt, .int v_stepAt, .ref q_pile, .ref q_lastAt, .ref q_nextAt, .ref q_hasBend, .int v_justMany, .ref q_isMet, .ref q_queue, .ref q_sums, .ref q_kept, .ref q_isKept, .ref q_copies, .ref q_shelfMany, .ref q_shelfSort, .ref q_shelfHas])), (q_bends, .inl (cJ, 4, .inr (.inl v_bends))), (q_isKept, .inl (cZ, 3, .inl v_isKept)), (q_copies, .inl (cJ, 12, .inr (.inl v_copies)))] H → va_D A [(q, .inr (9, [.ref q_bends, .ref q_rootAt, .int v_stepAt, .ref q_pile, .ref q_lastAt, .ref q_nextAt, .ref q_hasBend, .int v_justMany, .ref q_isMet, .ref q_queue, .ref q_sums, .ref q_kept, .ref q_isKept, .ref q_copies, .ref q_shelfMany, .ref q_shelfSort, .ref q_shelfHas])), (q_bends, .inl (cJ, 4, .inr (.inl v_bends))), (q_isKept, .inl (cZ, 3, .inl v_isKept)), (q_copies, .inl (cJ, 12, .inr (.inl v_copies)))] → va_S A s.heap H locs → lv_has ls 3 [(0, .ref q), (1, .int x1), (2, .int x2)] → W p l e rmX9_back s m ([.ref q, .int p1] : List Value).toArray below meth c H locs 0 0 QQ (F0 m 52 ls [])) → ∀ (n : Nat) (x2 : Int32) (v_bends : (Nat → Int64)) (H : Heap) (locs : List Loc) (ls : Array Slot), pX9_back_L25 x1 v_copies n x2 v_bends k = some R → va_P G vwCl [(q, .inr (9, [.ref q_bends, .ref q_rootAt, .int v_stepAt, .ref q_pile, .ref q_lastAt, .ref q_nextAt, .ref q_hasBend, .int v_justMany, .ref q_isMet, .ref q_queue, .ref q_sums, .ref q_kept, .ref q_isKept, .ref q_copies, .ref q_shelfMany, .ref q_shelfSort, .ref q_shelfHas])), (q_bends, .inl (cJ, 4, .inr (.inl v_bends))), (q_isKept, .inl (cZ, 3, .inl v_isKept)), (q_copies, .inl (cJ, 12, .inr (.inl v_copies)))] H → va_D A [(q, .inr (9, [.ref q_bends, .ref q_rootAt, .int v_stepAt, .ref q_pile, .ref q_lastAt, .ref q_nextAt, .ref q_hasBend, .int v_justMany, .ref q_isMet, .ref q_queue, .ref q_sums, .ref q_kept, .ref q_isKept, .ref q_copies, .ref q_shelfMany, .ref q_shelfSort, .ref q_shelfHas])), (q_bends, .inl (cJ, 4, .inr (.inl v_bends))), (q_isKept, .inl (cZ, 3, .inl v_isKept)), (q_copies, .inl (cJ, 12, .inr (.inl v_copies)))] → va_S A s.heap H locs → lv_has ls 3 [(0, .ref q), (1, .int x1), (2, .int x2)] → W p l e rmX9_back s m ([.ref q, .int p1] : List Value).toArray below meth c H locs 0 0 QQ (F0 m 25 ls []) := by
    intro x1 k hk n
    induction n with
    | zero =>
      intro x2 v_bends H locs ls hf
      cases hf
    | succ n ih =>
      intro x2 v_bends H locs ls hf hP hD hS hl
      unfold pX9_back_L25 at hf
      refine lv_iload_n hx hb dX9_back_25 rfl (lv_at hl 2 rfl) ?_
      refine lv_iconst (v := 4) hx hb dX9_back_26 (by decide) ?_
      refine lv_icmp_ge (tgt := 52) hx hb dX9_back_27 (by decide) (fun c5 => ?_) (fun c5 => ?_)
      · have hf := if_s hf c5
        exact hk x2 v_bends _ _ _ hf hP hD hS (lv_sub hl [0, 1, 2] rfl)
      · have hf := if_n hf c5
        refine lv_aload_n hx hb dX9_back_30 rfl (lv_at hl 0 rfl) ?_
        refine va_get (D := G) (ci := 9) (v := .ref q_bends) (C := RX9) (T := TX9) (N := 17) hx hb hts hiX9_back_X9 hown hK.1 hP 0 rfl rfl 0 (by decide) (hts (.fieldLink RX9 7 "PackedBendsModel" "bends" "[J") (List.mem_of_getElem? (i := 2) rfl)) (fun _ h9 => h9) rfl dX9_back_31 ?_
        refine lv_iload_n hx hb dX9_back_34 rfl (lv_at hl 2 rfl) ?_
        refine lv_aload_n hx hb dX9_back_35 rfl (lv_at hl 0 rfl) ?_
        refine va_get (D := G) (ci := 9) (v := .ref q_copies) (C := RX9) (T := TX9) (N := 17) hx hb hts hiX9_back_X9 hown hK.1 hP 0 rfl rfl 13 (by decide) (hts (.fieldLink RX9 45 "PackedBendsModel" "copies" "[J") (List.mem_of_getElem? (i := 3) rfl)) (fun _ h9 => h9) rfl dX9_back_36 ?_
        refine lv_iconst (v := 4) hx hb dX9_back_39 (by decide) ?_
        refine lv_iload_n hx hb dX9_back_40 rfl (lv_at hl 1 rfl) ?_
        refine lv_imul hx hb dX9_back_41 ?_
        refine lv_iload_n hx hb dX9_back_42 rfl (lv_at hl 2 rfl) ?_
        refine lv_iadd hx hb dX9_back_43 ?_
        obtain ⟨z6, hf⟩ := ck_s hf
        refine va_lald hx hb hK.1 hP 3 1 rfl rfl (vp_in_iff.mpr z6) dX9_back_44 ?_
        obtain ⟨z7, hf⟩ := ck_s hf
        refine va_last hx hb hK.1 hP hD hS 1 1 rfl rfl (vp_in_iff.mpr z7) dX9_back_45 (fun H locs hP hD hS => ?_)
        have hP : va_P G vwCl [(q, .inr (9, [.ref q_bends, .ref q_rootAt, .int v_stepAt, .ref q_pile, .ref q_lastAt, .ref q_nextAt, .ref q_hasBend, .int v_justMany, .ref q_isMet, .ref q_queue, .ref q_sums, .ref q_kept, .ref q_isKept, .ref q_copies, .ref q_shelfMany, .ref q_shelfSort, .ref q_shelfHas])), (q_bends, .inl (cJ, 4, .inr (.inl (vp_updL v_bends x2.toNatClampNeg (v_copies (((4 : Int32) * x1) + x2).toNatClampNeg))))), (q_isKept, .inl (cZ, 3, .inl v_isKept)), (q_copies, .inl (cJ, 12, .inr (.inl v_copies)))] H := hP
        have hD : va_D A [(q, .inr (9, [.ref q_bends, .ref q_rootAt, .int v_stepAt, .ref q_pile, .ref q_lastAt, .ref q_nextAt, .ref q_hasBend, .int v_justMany, .ref q_isMet, .ref q_queue, .ref q_sums, .ref q_kept, .ref q_isKept, .ref q_copies, .ref q_shelfMany, .ref q_shelfSort, .ref q_shelfHas])), (q_bends, .inl (cJ, 4, .inr (.inl (vp_updL v_bends x2.toNatClampNeg (v_copies (((4 : Int32) * x1) + x2).toNatClampNeg))))), (q_isKept, .inl (cZ, 3, .inl v_isKept)), (q_copies, .inl (cJ, 12, .inr (.inl v_copies)))] := hD
        refine lv_iinc (v := x2 + (1 : Int32)) (lv' := [(2, .int (x2 + (1 : Int32))), (0, .ref q), (1, .int x1)]) hx hb dX9_back_46 hl (k := 2) rfl rfl (by decide) rfl (fun ls hl => ?_)
        refine lv_goto (tgt := 25) hx hb dX9_back_49 (by decide) ?_
        exact ih (x2 + (1 : Int32)) (vp_updL v_bends x2.toNatClampNeg (v_copies (((4 : Int32) * x1) + x2).toNatClampNeg)) _ _ _ hf hP hD hS (lv_sub hl [1, 2, 0] rfl)
  refine lv_iload_n hx hb dX9_back_0 rfl (lv_at hl 1 rfl) ?_
  refine lv_iconst (v := 0) hx hb dX9_back_1 (by decide) ?_
  refine lv_iconst (v := 2) hx hb dX9_back_2 (by decide) ?_
  obtain ⟨r1, hc1, hf⟩ := ob_s hf
  refine bk_i (wc := []) (wc2 := []) (wr := [(q, .inr (9, [.ref q_bends, .ref q_rootAt, .int v_stepAt, .ref q_pile, .ref q_lastAt, .ref q_nextAt, .ref q_hasBend, .int v_justMany, .ref q_isMet, .ref q_queue, .ref q_sums, .ref q_kept, .ref q_isKept, .ref q_copies, .ref q_shelfMany, .ref q_shelfSort, .ref q_shelfHas])), (q_bends, .inl (cJ, 4, .inr (.inl v_bends))), (q_isKept, .inl (cZ, 3, .inl v_isKept)), (q_copies, .inl (cJ, 12, .inr (.inl v_copies)))]) (ws2 := [(q, .inr (9, [.ref q_bends, .ref q_rootAt, .int v_stepAt, .ref q_pile, .ref q_lastAt, .ref q_nextAt, .ref q_hasBend, .int v_justMany, .ref q_isMet, .ref q_queue, .ref q_sums, .ref q_kept, .ref q_isKept, .ref q_copies, .ref q_shelfMany, .ref q_shelfSort, .ref q_shelfHas])), (q_bends, .inl (cJ, 4, .inr (.inl v_bends))), (q_isKept, .inl (cZ, 3, .inl v_isKept)), (q_copies, .inl (cJ, 12, .inr (.inl v_copies)))]) (r := r1) (va_runS (As := [.int p1, .int (0 : Int32), .int (2 : Int32)]) (rest := []) ⟨hx, hb, hml, hown, hts⟩ (kX9_within (l := l) (G := G) (cI := cI) (cJ := cJ) (cZ := cZ) (cS := cS) (cG := cG) p1 (0 : Int32) (2 : Int32) _ hc1 _) (va_cwS 3 hts gX9_back_X9_within rfl rfl rfl (by decide +kernel) ⟨Nat.le_of_ble_eq_true rfl, Nat.le_of_ble_eq_true rfl⟩) (cut_S hK hP hD [] rfl rfl) rfl rfl hl.1 rfl (lv_room (Nat.le_of_ble_eq_true rfl)) dX9_back_3 ⟨Nat.zero_le _, Nat.zero_le _⟩) hP hD hS hA [] [0, 1, 2, 3] [0, 1, 2, 3] rfl rfl rfl rfl rfl rfl (fun H locs hP hD hS => ?_)
  refine lv_if_ne (tgt := 11) hx hb dX9_back_6 (by decide) (fun c2 => ?_) (fun c2 => ?_)
  · have hf := if_n hf c2
    refine lv_aload_n hx hb dX9_back_11 rfl (lv_at hl 0 rfl) ?_
    refine va_get (D := G) (ci := 9) (v := .ref q_isKept) (C := RX9) (T := TX9) (N := 17) hx hb hts hiX9_back_X9 hown hK.1 hP 0 rfl rfl 12 (by decide) (hts (.fieldLink RX9 42 "PackedBendsModel" "isKept" "[Z") (List.mem_of_getElem? (i := 1) rfl)) (fun _ h9 => h9) rfl dX9_back_12 ?_
    refine lv_iload_n hx hb dX9_back_15 rfl (lv_at hl 1 rfl) ?_
    obtain ⟨z3, hf⟩ := ck_s hf
    refine va_zald hx hb hK.1 hP 2 2 rfl rfl (vp_in_iff.mpr z3) dX9_back_16 ?_
    refine lv_if_ne (tgt := 23) hx hb dX9_back_17 (by decide) (fun c4 => ?_) (fun c4 => ?_)
    · have hf := if_n hf c4
      refine lv_iconst (v := 0) hx hb dX9_back_23 (by decide) ?_
      refine lv_istore_n (lv' := [(2, .int (0 : Int32)), (0, .ref q), (1, .int p1)]) hx hb dX9_back_24 rfl hl (by decide) rfl (fun ls hl => ?_)
      refine hL25 p1 _ (fun y2_8 u8_bends H locs ls hf hP hD hS hl => ?_) n (0 : Int32) v_bends _ _ _ hf hP hD hS (lv_sub hl [1, 2, 0] rfl)
      have hP : va_P G vwCl [(q, .inr (9, [.ref q_bends, .ref q_rootAt, .int v_stepAt, .ref q_pile, .ref q_lastAt, .ref q_nextAt, .ref q_hasBend, .int v_justMany, .ref q_isMet, .ref q_queue, .ref q_sums, .ref q_kept, .ref q_isKept, .ref q_copies, .ref q_shelfMany, .ref q_shelfSort, .ref q_shelfHas])), (q_bends, .inl (cJ, 4, .inr (.inl u8_bends))), (q_isKept, .inl (cZ, 3, .inl v_isKept)), (q_copies, .inl (cJ, 12, .inr (.inl v_copies)))] H := hP
      have hD : va_D A [(q, .inr (9, [.ref q_bends, .ref q_rootAt, .int v_stepAt, .ref q_pile, .ref q_lastAt, .ref q_nextAt, .ref q_hasBend, .int v_justMany, .ref q_isMet, .ref q_queue, .ref q_sums, .ref q_kept, .ref q_isKept, .ref q_copies, .ref q_shelfMany, .ref q_shelfSort, .ref q_shelfHas])), (q_bends, .inl (cJ, 4, .inr (.inl u8_bends))), (q_isKept, .inl (cZ, 3, .inl v_isKept)), (q_copies, .inl (cJ, 12, .inr (.inl v_copies)))] := hD
      refine lv_iconst (v := 1) hx hb dX9_back_52 (by decide) ?_
      cases hf
      rw [← hQ]
      exact rt_i hx hb hr hlk hP hD hS rfl dX9_back_53
    · have hf := if_s hf c4
      refine lv_bipush (v := (-3)) hx hb dX9_back_20 (by decide) ?_
      cases hf
      rw [← hQ]
      exact rt_i hx hb hr hlk hP hD hS rfl dX9_back_22
  · have hf := if_s hf c2
    refine lv_iconst (v := (-1)) hx hb dX9_back_9 (by decide) ?_
    cases hf
    rw [← hQ]
    exact rt_i hx hb hr hlk hP hD hS rfl dX9_back_10
def pX9_isShelf (p0 : Int32) : Option (Int32) := Option.bind (pX9_within p0 (0 : Int32) (2 : Int32)) (fun r1 => ck (r1 = 0 ∨ r1 = 1) (some r1))
def rmX9_isShelf : Room := { frames := 1, cells := 0, slots := 0, locals := 22 }
set_option maxRecDepth 100000 in
set_option maxHeartbeats 4000000 in
theorem kX9_isShelf {l : Launch} {G : va_G} {cI cJ cZ cS cG : ClassId} (p0 : Int32) (R : Int32) (hf : pX9_isShelf p0 = some R) : CTi l yX9_isShelf wsX9_isShelf rmX9_isShelf G cI cJ cZ cS cG [.int p0] [] [] R := by
  refine Met.ofE (Qc := fun A => QRi G A [] R) (cc := cX9_isShelf) (nL := 1) (ret := some .boolean) (plainFor_of_name (by decide +kernel)) rfl (Nat.le_of_ble_eq_true rfl) ?_
  intro p e s m below meth c A ls hx hb hml hr hlk hts hown hK hA hP hD hS hl
  have hown : s.vm.findClass RX9 = some m.cls := hown
  have hl : lv_has ls 1 [(0, .int p0)] := hl
  generalize hQ : MQ below (QRi G A [] R) ([.int p0] : List Value).toArray s 0 0 A = QQ
  unfold pX9_isShelf at hf
  refine lv_iload_n hx hb dX9_isShelf_0 rfl (lv_at hl 0 rfl) ?_
  refine lv_iconst (v := 0) hx hb dX9_isShelf_1 (by decide) ?_
  refine lv_iconst (v := 2) hx hb dX9_isShelf_2 (by decide) ?_
  obtain ⟨r1, hc1, hf⟩ := ob_s hf
  refine bk_i (wc := []) (wc2 := []) (wr := []) (ws2 := []) (r := r1) (va_runS (As := [.int p0, .int (0 : Int32), .int (2 : Int32)]) (rest := []) ⟨hx, hb, hml, hown, hts⟩ (kX9_within (l := l) (G := G) (cI := cI) (cJ := cJ) (cZ := cZ) (cS := cS) (cG := cG) p0 (0 : Int32) (2 : Int32) _ hc1 _) (va_cwS 3 hts gX9_isShelf_X9_within rfl rfl rfl (by decide +kernel) ⟨Nat.le_of_ble_eq_true rfl, Nat.le_of_ble_eq_true rfl⟩) (cut_S hK hP hD [] rfl rfl) rfl rfl hl.1 rfl (lv_room (Nat.le_of_ble_eq_true rfl)) dX9_isShelf_3 ⟨Nat.zero_le _, Nat.zero_le _⟩) hP hD hS hA [] [] [] rfl rfl rfl rfl rfl rfl (fun H locs hP hD hS => ?_)
  obtain ⟨z2, hf⟩ := ck_s hf
  cases hf
  rw [← hQ]
  exact rt_z hx hb hr hlk (by rcases z2 with q | q <;> rw [q] <;> rfl) hP hD hS rfl dX9_isShelf_6
def pX9_shelf_L51 (x1 : Int32) : Nat → Int32 → (Nat → Int64) → (Int32 → (Nat → Int64) → Option (Int32 × (Nat → Int32) × (Nat → Int32) × (Nat → Int64))) → Option (Int32 × (Nat → Int32) × (Nat → Int32) × (Nat → Int64))
  | 0, _, _, _ => none
  | n + 1, x4, v_shelfHas, k => if (6 : Int32) ≤ x4 then k x4 v_shelfHas else ck (ix (((6 : Int32) * x1) + x4) 18) (pX9_shelf_L51 x1 n (x4 + (1 : Int32)) (vp_updL v_shelfHas (((6 : Int32) * x1) + x4).toNatClampNeg (-9223372036854775808 : Int64)) k)
def pX9_shelf (n : Nat) (v_shelfMany : (Nat → Int32)) (v_shelfSort : (Nat → Int32)) (v_shelfHas : (Nat → Int64)) (p1 : Int32) (p2 : Int32) (p3 : Int32) : Option (Int32 × (Nat → Int32) × (Nat → Int32) × (Nat → Int64)) := Option.bind (pX9_isShelf p1) (fun r1 => if r1 = 0 then some ((-1 : Int32), v_shelfMany, v_shelfSort, v_shelfHas) else Option.bind (pX9_within p2 (0 : Int32) (3 : Int32)) (fun r3 => if r3 = 0 then some ((-2 : Int32), v_shelfMany, v_shelfSort, v_shelfHas) else if p3 ≤ (6 : Int32) then if 0 ≤ p3 then ck (ix p1 3) (pX9_shelf_L51 p1 n (0 : Int32) v_shelfHas (fun (y4_10 : Int32) (u10_shelfHas : (Nat → Int64)) => some (p3, upd v_shelfMany p1.toNatClampNeg p3, upd v_shelfSort p1.toNatClampNeg p2, u10_shelfHas))) else some ((-14 : Int32), v_shelfMany, v_shelfSort, v_shelfHas) else some ((-2 : Int32), v_shelfMany, v_shelfSort, v_shelfHas)))
def rmX9_shelf : Room := { frames := 2, cells := 0, slots := 0, locals := 42 }
theorem hiX9_shelf_X9 : ∀ w ∈ u_ws RX9 TX9 17, w ∈ wsX9_shelf := fun _ h => List.mem_cons_of_mem _ (List.mem_append_right _ h)
set_option maxRecDepth 100000 in
set_option maxHeartbeats 4000000 in
theorem kX9_shelf {l : Launch} {G : va_G} {cI cJ cZ cS cG : ClassId} (n : Nat) (q q_bends q_rootAt q_pile q_lastAt q_nextAt q_hasBend q_isMet q_queue q_sums q_kept q_isKept q_copies q_shelfMany q_shelfSort q_shelfHas : Nat) (v_stepAt : Int32) (v_justMany : Int32) (v_shelfMany : (Nat → Int32)) (v_shelfSort : (Nat → Int32)) (v_shelfHas : (Nat → Int64)) (p1 : Int32) (p2 : Int32) (p3 : Int32) (R : Int32 × (Nat → Int32) × (Nat → Int32) × (Nat → Int64)) (hf : pX9_shelf n v_shelfMany v_shelfSort v_shelfHas p1 p2 p3 = some R) : CTi l yX9_shelf wsX9_shelf rmX9_shelf G cI cJ cZ cS cG [.ref q, .int p1, .int p2, .int p3] [(q, .inr (9, [.ref q_bends, .ref q_rootAt, .int v_stepAt, .ref q_pile, .ref q_lastAt, .ref q_nextAt, .ref q_hasBend, .int v_justMany, .ref q_isMet, .ref q_queue, .ref q_sums, .ref q_kept, .ref q_isKept, .ref q_copies, .ref q_shelfMany, .ref q_shelfSort, .ref q_shelfHas])), (q_shelfMany, .inl (cI, 3, .inl v_shelfMany)), (q_shelfSort, .inl (cI, 3, .inl v_shelfSort)), (q_shelfHas, .inl (cJ, 18, .inr (.inl v_shelfHas)))] [(q, .inr (9, [.ref q_bends, .ref q_rootAt, .int v_stepAt, .ref q_pile, .ref q_lastAt, .ref q_nextAt, .ref q_hasBend, .int v_justMany, .ref q_isMet, .ref q_queue, .ref q_sums, .ref q_kept, .ref q_isKept, .ref q_copies, .ref q_shelfMany, .ref q_shelfSort, .ref q_shelfHas])), (q_shelfMany, .inl (cI, 3, .inl R.2.1)), (q_shelfSort, .inl (cI, 3, .inl R.2.2.1)), (q_shelfHas, .inl (cJ, 18, .inr (.inl R.2.2.2)))] R.1 := by
  refine Met.ofE (Qc := fun A => QRi G A [(q, .inr (9, [.ref q_bends, .ref q_rootAt, .int v_stepAt, .ref q_pile, .ref q_lastAt, .ref q_nextAt, .ref q_hasBend, .int v_justMany, .ref q_isMet, .ref q_queue, .ref q_sums, .ref q_kept, .ref q_isKept, .ref q_copies, .ref q_shelfMany, .ref q_shelfSort, .ref q_shelfHas])), (q_shelfMany, .inl (cI, 3, .inl R.2.1)), (q_shelfSort, .inl (cI, 3, .inl R.2.2.1)), (q_shelfHas, .inl (cJ, 18, .inr (.inl R.2.2.2)))] R.1) (cc := cX9_shelf) (nL := 5) (ret := some .int) (plainFor_of_name (by decide +kernel)) rfl (Nat.le_of_ble_eq_true rfl) ?_
  intro p e s m below meth c A ls hx hb hml hr hlk hts hown hK hA hP hD hS hl
  have hown : s.vm.findClass RX9 = some m.cls := hown
  have hl : lv_has ls 5 [(0, .ref q), (1, .int p1), (2, .int p2), (3, .int p3)] := hl
  generalize hQ : MQ below (QRi G A [(q, .inr (9, [.ref q_bends, .ref q_rootAt, .int v_stepAt, .ref q_pile, .ref q_lastAt, .ref q_nextAt, .ref q_hasBend, .int v_justMany, .ref q_isMet, .ref q_queue, .ref q_sums, .ref q_kept, .ref q_isKept, .ref q_copies, .ref q_shelfMany, .ref q_shelfSort, .ref q_shelfHas])), (q_shelfMany, .inl (cI, 3, .inl R.2.1)), (q_shelfSort, .inl (cI, 3, .inl R.2.2.1)), (q_shelfHas, .inl (cJ, 18, .inr (.inl R.2.2.2)))] R.1) ([.ref q, .int p1, .int p2, .int p3] : List Value).toArray s 0 0 A = QQ
  unfold pX9_shelf at hf
  have hL51 : ∀ (x1 : Int32) (x2 : Int32) (x3 : Int32) (v_shelfMany : (Nat → Int32)) (v_shelfSort : (Nat → Int32)) (k : Int32 → (Nat → Int64) → Option (Int32 × (Nat → Int32) × (Nat → Int32) × (Nat → Int64))), (∀ (x4 : Int32) (v_shelfHas : (Nat → Int64)) (H : Heap) (locs : List Loc) (ls : Array Slot), k x4 v_shelfHas = some R → va_P G vwCl [(q, .inr (9, [.ref q_bends, .ref q_rootAt, .int v_stepAt, .ref q_pile, .ref q_lastAt, .ref q_nextAt, .ref q_hasBend, .int v_justMany, .ref q_isMet, .ref q_queue, .ref q_sums, .ref q_kept, .ref q_isKept, .ref q_copies, .ref q_shelfMany, .ref q_shelfSort, .ref q_shelfHas])), (q_shelfMany, .inl (cI, 3, .inl v_shelfMany)), (q_shelfSort, .inl (cI, 3, .inl v_shelfSort)), (q_shelfHas, .inl (cJ, 18, .inr (.inl v_shelfHas)))] H → va_D A [(q, .inr (9, [.ref q_bends, .ref q_rootAt, .int v_stepAt, .ref q_pile, .ref q_lastAt, .ref q_nextAt, .ref q_hasBend, .int v_justMany, .ref q_isMet, .ref q_queue, .ref q_sums, .ref q_kept, .ref q_isKept, .ref q_copies, .ref q_shelfMany, .ref q_shelfSort, .ref q_shelfHas])), (q_shelfMany, .inl (cI, 3, .inl v_shelfMany)), (q_shelfSort, .inl (cI, 3, .inl v_shelfSort)), (q_shelfHas, .inl (cJ, 18, .inr (.inl v_shelfHas)))] → va_S A s.heap H locs → lv_has ls 5 [(0, .ref q), (1, .int x1), (2, .int x2), (3, .int x3), (4, .int x4)] → W p l e rmX9_shelf s m ([.ref q, .int p1, .int p2, .int p3] : List Value).toArray below meth c H locs 0 0 QQ (F0 m 79 ls [])) → ∀ (n : Nat) (x4 : Int32) (v_shelfHas : (Nat → Int64)) (H : Heap) (locs : List Loc) (ls : Array Slot), pX9_shelf_L51 x1 n x4 v_shelfHas k = some R → va_P G vwCl [(q, .inr (9, [.ref q_bends, .ref q_rootAt, .int v_stepAt, .ref q_pile, .ref q_lastAt, .ref q_nextAt, .ref q_hasBend, .int v_justMany, .ref q_isMet, .ref q_queue, .ref q_sums, .ref q_kept, .ref q_isKept, .ref q_copies, .ref q_shelfMany, .ref q_shelfSort, .ref q_shelfHas])), (q_shelfMany, .inl (cI, 3, .inl v_shelfMany)), (q_shelfSort, .inl (cI, 3, .inl v_shelfSort)), (q_shelfHas, .inl (cJ, 18, .inr (.inl v_shelfHas)))] H → va_D A [(q, .inr (9, [.ref q_bends, .ref q_rootAt, .int v_stepAt, .ref q_pile, .ref q_lastAt, .ref q_nextAt, .ref q_hasBend, .int v_justMany, .ref q_isMet, .ref q_queue, .ref q_sums, .ref q_kept, .ref q_isKept, .ref q_copies, .ref q_shelfMany, .ref q_shelfSort, .ref q_shelfHas])), (q_shelfMany, .inl (cI, 3, .inl v_shelfMany)), (q_shelfSort, .inl (cI, 3, .inl v_shelfSort)), (q_shelfHas, .inl (cJ, 18, .inr (.inl v_shelfHas)))] → va_S A s.heap H locs → lv_has ls 5 [(0, .ref q), (1, .int x1), (2, .int x2), (3, .int x3), (4, .int x4)] → W p l e rmX9_shelf s m ([.ref q, .int p1, .int p2, .int p3] : List Value).toArray below meth c H locs 0 0 QQ (F0 m 51 ls []) := by
    intro x1 x2 x3 v_shelfMany v_shelfSort k hk n
    induction n with
    | zero =>
      intro x4 v_shelfHas H locs ls hf
      cases hf
    | succ n ih =>
      intro x4 v_shelfHas H locs ls hf hP hD hS hl
      unfold pX9_shelf_L51 at hf
      refine lv_iload hx hb dX9_shelf_51 (lv_at hl 4 rfl) ?_
      refine lv_bipush (v := 6) hx hb dX9_shelf_53 (by decide) ?_
      refine lv_icmp_ge (tgt := 79) hx hb dX9_shelf_55 (by decide) (fun c8 => ?_) (fun c8 => ?_)
      · have hf := if_s hf c8
        exact hk x4 v_shelfHas _ _ _ hf hP hD hS (lv_sub hl [0, 1, 2, 3, 4] rfl)
      · have hf := if_n hf c8
        refine lv_aload_n hx hb dX9_shelf_58 rfl (lv_at hl 0 rfl) ?_
        refine va_get (D := G) (ci := 9) (v := .ref q_shelfHas) (C := RX9) (T := TX9) (N := 17) hx hb hts hiX9_shelf_X9 hown hK.1 hP 0 rfl rfl 16 (by decide) (hts (.fieldLink RX9 54 "PackedBendsModel" "shelfHas" "[J") (List.mem_of_getElem? (i := 3) rfl)) (fun _ h9 => h9) rfl dX9_shelf_59 ?_
        refine lv_bipush (v := 6) hx hb dX9_shelf_62 (by decide) ?_
        refine lv_iload_n hx hb dX9_shelf_64 rfl (lv_at hl 1 rfl) ?_
        refine lv_imul hx hb dX9_shelf_65 ?_
        refine lv_iload hx hb dX9_shelf_66 (lv_at hl 4 rfl) ?_
        refine lv_iadd hx hb dX9_shelf_68 ?_
        refine lv_ldc2 (v := (-9223372036854775808)) hx hb hown (hts (.constantLong RX9 80 (-9223372036854775808)) (List.mem_of_getElem? (i := 4) rfl)) dX9_shelf_69 ?_
        obtain ⟨z9, hf⟩ := ck_s hf
        refine va_last hx hb hK.1 hP hD hS 3 1 rfl rfl (vp_in_iff.mpr z9) dX9_shelf_72 (fun H locs hP hD hS => ?_)
        have hP : va_P G vwCl [(q, .inr (9, [.ref q_bends, .ref q_rootAt, .int v_stepAt, .ref q_pile, .ref q_lastAt, .ref q_nextAt, .ref q_hasBend, .int v_justMany, .ref q_isMet, .ref q_queue, .ref q_sums, .ref q_kept, .ref q_isKept, .ref q_copies, .ref q_shelfMany, .ref q_shelfSort, .ref q_shelfHas])), (q_shelfMany, .inl (cI, 3, .inl v_shelfMany)), (q_shelfSort, .inl (cI, 3, .inl v_shelfSort)), (q_shelfHas, .inl (cJ, 18, .inr (.inl (vp_updL v_shelfHas (((6 : Int32) * x1) + x4).toNatClampNeg (-9223372036854775808 : Int64)))))] H := hP
        have hD : va_D A [(q, .inr (9, [.ref q_bends, .ref q_rootAt, .int v_stepAt, .ref q_pile, .ref q_lastAt, .ref q_nextAt, .ref q_hasBend, .int v_justMany, .ref q_isMet, .ref q_queue, .ref q_sums, .ref q_kept, .ref q_isKept, .ref q_copies, .ref q_shelfMany, .ref q_shelfSort, .ref q_shelfHas])), (q_shelfMany, .inl (cI, 3, .inl v_shelfMany)), (q_shelfSort, .inl (cI, 3, .inl v_shelfSort)), (q_shelfHas, .inl (cJ, 18, .inr (.inl (vp_updL v_shelfHas (((6 : Int32) * x1) + x4).toNatClampNeg (-9223372036854775808 : Int64)))))] := hD
        refine lv_iinc (v := x4 + (1 : Int32)) (lv' := [(4, .int (x4 + (1 : Int32))), (0, .ref q), (1, .int x1), (2, .int x2), (3, .int x3)]) hx hb dX9_shelf_73 hl (k := 4) rfl rfl (by decide) rfl (fun ls hl => ?_)
        refine lv_goto (tgt := 51) hx hb dX9_shelf_76 (by decide) ?_
        exact ih (x4 + (1 : Int32)) (vp_updL v_shelfHas (((6 : Int32) * x1) + x4).toNatClampNeg (-9223372036854775808 : Int64)) _ _ _ hf hP hD hS (lv_sub hl [1, 2, 3, 4, 0] rfl)
  refine lv_iload_n hx hb dX9_shelf_0 rfl (lv_at hl 1 rfl) ?_
  obtain ⟨r1, hc1, hf⟩ := ob_s hf
  refine bk_i (wc := []) (wc2 := []) (wr := [(q, .inr (9, [.ref q_bends, .ref q_rootAt, .int v_stepAt, .ref q_pile, .ref q_lastAt, .ref q_nextAt, .ref q_hasBend, .int v_justMany, .ref q_isMet, .ref q_queue, .ref q_sums, .ref q_kept, .ref q_isKept, .ref q_copies, .ref q_shelfMany, .ref q_shelfSort, .ref q_shelfHas])), (q_shelfMany, .inl (cI, 3, .inl v_shelfMany)), (q_shelfSort, .inl (cI, 3, .inl v_shelfSort)), (q_shelfHas, .inl (cJ, 18, .inr (.inl v_shelfHas)))]) (ws2 := [(q, .inr (9, [.ref q_bends, .ref q_rootAt, .int v_stepAt, .ref q_pile, .ref q_lastAt, .ref q_nextAt, .ref q_hasBend, .int v_justMany, .ref q_isMet, .ref q_queue, .ref q_sums, .ref q_kept, .ref q_isKept, .ref q_copies, .ref q_shelfMany, .ref q_shelfSort, .ref q_shelfHas])), (q_shelfMany, .inl (cI, 3, .inl v_shelfMany)), (q_shelfSort, .inl (cI, 3, .inl v_shelfSort)), (q_shelfHas, .inl (cJ, 18, .inr (.inl v_shelfHas)))]) (r := r1) (va_runS (As := [.int p1]) (rest := []) ⟨hx, hb, hml, hown, hts⟩ (kX9_isShelf (l := l) (G := G) (cI := cI) (cJ := cJ) (cZ := cZ) (cS := cS) (cG := cG) p1 _ hc1 _) (va_cwS 1 hts gX9_shelf_X9_isShelf rfl rfl rfl (by decide +kernel) ⟨Nat.le_of_ble_eq_true rfl, Nat.le_of_ble_eq_true rfl⟩) (cut_S hK hP hD [] rfl rfl) rfl rfl hl.1 rfl (lv_room (Nat.le_of_ble_eq_true rfl)) dX9_shelf_1 ⟨Nat.zero_le _, Nat.zero_le _⟩) hP hD hS hA [] [0, 1, 2, 3] [0, 1, 2, 3] rfl rfl rfl rfl rfl rfl (fun H locs hP hD hS => ?_)
  refine lv_if_ne (tgt := 9) hx hb dX9_shelf_4 (by decide) (fun c2 => ?_) (fun c2 => ?_)
  · have hf := if_n hf c2
    refine lv_iload_n hx hb dX9_shelf_9 rfl (lv_at hl 2 rfl) ?_
    refine lv_iconst (v := 0) hx hb dX9_shelf_10 (by decide) ?_
    refine lv_iconst (v := 3) hx hb dX9_shelf_11 (by decide) ?_
    obtain ⟨r3, hc3, hf⟩ := ob_s hf
    refine bk_i (wc := []) (wc2 := []) (wr := [(q, .inr (9, [.ref q_bends, .ref q_rootAt, .int v_stepAt, .ref q_pile, .ref q_lastAt, .ref q_nextAt, .ref q_hasBend, .int v_justMany, .ref q_isMet, .ref q_queue, .ref q_sums, .ref q_kept, .ref q_isKept, .ref q_copies, .ref q_shelfMany, .ref q_shelfSort, .ref q_shelfHas])), (q_shelfMany, .inl (cI, 3, .inl v_shelfMany)), (q_shelfSort, .inl (cI, 3, .inl v_shelfSort)), (q_shelfHas, .inl (cJ, 18, .inr (.inl v_shelfHas)))]) (ws2 := [(q, .inr (9, [.ref q_bends, .ref q_rootAt, .int v_stepAt, .ref q_pile, .ref q_lastAt, .ref q_nextAt, .ref q_hasBend, .int v_justMany, .ref q_isMet, .ref q_queue, .ref q_sums, .ref q_kept, .ref q_isKept, .ref q_copies, .ref q_shelfMany, .ref q_shelfSort, .ref q_shelfHas])), (q_shelfMany, .inl (cI, 3, .inl v_shelfMany)), (q_shelfSort, .inl (cI, 3, .inl v_shelfSort)), (q_shelfHas, .inl (cJ, 18, .inr (.inl v_shelfHas)))]) (r := r3) (va_runS (As := [.int p2, .int (0 : Int32), .int (3 : Int32)]) (rest := []) ⟨hx, hb, hml, hown, hts⟩ (kX9_within (l := l) (G := G) (cI := cI) (cJ := cJ) (cZ := cZ) (cS := cS) (cG := cG) p2 (0 : Int32) (3 : Int32) _ hc3 _) (va_cwS 3 hts gX9_shelf_X9_within rfl rfl rfl (by decide +kernel) ⟨Nat.le_of_ble_eq_true rfl, Nat.le_of_ble_eq_true rfl⟩) (cut_S hK hP hD [] rfl rfl) rfl rfl hl.1 rfl (lv_room (Nat.le_of_ble_eq_true rfl)) dX9_shelf_12 ⟨Nat.zero_le _, Nat.zero_le _⟩) hP hD hS hA [] [0, 1, 2, 3] [0, 1, 2, 3] rfl rfl rfl rfl rfl rfl (fun H locs hP hD hS => ?_)
    refine lv_if_eq (tgt := 24) hx hb dX9_shelf_15 (by decide) (fun c4 => ?_) (fun c4 => ?_)
    · have hf := if_s hf c4
      refine lv_bipush (v := (-2)) hx hb dX9_shelf_24 (by decide) ?_
      cases hf
      rw [← hQ]
      exact rt_i hx hb hr hlk hP hD hS rfl dX9_shelf_26
    · have hf := if_n hf c4
      refine lv_iload_n hx hb dX9_shelf_18 rfl (lv_at hl 3 rfl) ?_
      refine lv_bipush (v := 6) hx hb dX9_shelf_19 (by decide) ?_
      refine lv_icmp_le (tgt := 27) hx hb dX9_shelf_21 (by decide) (fun c5 => ?_) (fun c5 => ?_)
      · have hf := if_s hf c5
        refine lv_iload_n hx hb dX9_shelf_27 rfl (lv_at hl 3 rfl) ?_
        refine lv_if_ge (tgt := 34) hx hb dX9_shelf_28 (by decide) (fun c6 => ?_) (fun c6 => ?_)
        · have hf := if_s hf c6
          refine lv_aload_n hx hb dX9_shelf_34 rfl (lv_at hl 0 rfl) ?_
          refine va_get (D := G) (ci := 9) (v := .ref q_shelfMany) (C := RX9) (T := TX9) (N := 17) hx hb hts hiX9_shelf_X9 hown hK.1 hP 0 rfl rfl 14 (by decide) (hts (.fieldLink RX9 48 "PackedBendsModel" "shelfMany" "[I") (List.mem_of_getElem? (i := 1) rfl)) (fun _ h9 => h9) rfl dX9_shelf_35 ?_
          refine lv_iload_n hx hb dX9_shelf_38 rfl (lv_at hl 1 rfl) ?_
          refine lv_iload_n hx hb dX9_shelf_39 rfl (lv_at hl 3 rfl) ?_
          obtain ⟨z7, hf⟩ := ck_s hf
          refine va_iast hx hb hK.1 hP hD hS 1 0 rfl rfl (vp_in_iff.mpr z7) dX9_shelf_40 (fun H locs hP hD hS => ?_)
          have hP : va_P G vwCl [(q, .inr (9, [.ref q_bends, .ref q_rootAt, .int v_stepAt, .ref q_pile, .ref q_lastAt, .ref q_nextAt, .ref q_hasBend, .int v_justMany, .ref q_isMet, .ref q_queue, .ref q_sums, .ref q_kept, .ref q_isKept, .ref q_copies, .ref q_shelfMany, .ref q_shelfSort, .ref q_shelfHas])), (q_shelfMany, .inl (cI, 3, .inl (upd v_shelfMany p1.toNatClampNeg p3))), (q_shelfSort, .inl (cI, 3, .inl v_shelfSort)), (q_shelfHas, .inl (cJ, 18, .inr (.inl v_shelfHas)))] H := hP
          have hD : va_D A [(q, .inr (9, [.ref q_bends, .ref q_rootAt, .int v_stepAt, .ref q_pile, .ref q_lastAt, .ref q_nextAt, .ref q_hasBend, .int v_justMany, .ref q_isMet, .ref q_queue, .ref q_sums, .ref q_kept, .ref q_isKept, .ref q_copies, .ref q_shelfMany, .ref q_shelfSort, .ref q_shelfHas])), (q_shelfMany, .inl (cI, 3, .inl (upd v_shelfMany p1.toNatClampNeg p3))), (q_shelfSort, .inl (cI, 3, .inl v_shelfSort)), (q_shelfHas, .inl (cJ, 18, .inr (.inl v_shelfHas)))] := hD
          refine lv_aload_n hx hb dX9_shelf_41 rfl (lv_at hl 0 rfl) ?_
          refine va_get (D := G) (ci := 9) (v := .ref q_shelfSort) (C := RX9) (T := TX9) (N := 17) hx hb hts hiX9_shelf_X9 hown hK.1 hP 0 rfl rfl 15 (by decide) (hts (.fieldLink RX9 51 "PackedBendsModel" "shelfSort" "[I") (List.mem_of_getElem? (i := 2) rfl)) (fun _ h9 => h9) rfl dX9_shelf_42 ?_
          refine lv_iload_n hx hb dX9_shelf_45 rfl (lv_at hl 1 rfl) ?_
          refine lv_iload_n hx hb dX9_shelf_46 rfl (lv_at hl 2 rfl) ?_
          refine va_iast hx hb hK.1 hP hD hS 2 0 rfl rfl (vp_in_iff.mpr z7) dX9_shelf_47 (fun H locs hP hD hS => ?_)
          have hP : va_P G vwCl [(q, .inr (9, [.ref q_bends, .ref q_rootAt, .int v_stepAt, .ref q_pile, .ref q_lastAt, .ref q_nextAt, .ref q_hasBend, .int v_justMany, .ref q_isMet, .ref q_queue, .ref q_sums, .ref q_kept, .ref q_isKept, .ref q_copies, .ref q_shelfMany, .ref q_shelfSort, .ref q_shelfHas])), (q_shelfMany, .inl (cI, 3, .inl (upd v_shelfMany p1.toNatClampNeg p3))), (q_shelfSort, .inl (cI, 3, .inl (upd v_shelfSort p1.toNatClampNeg p2))), (q_shelfHas, .inl (cJ, 18, .inr (.inl v_shelfHas)))] H := hP
          have hD : va_D A [(q, .inr (9, [.ref q_bends, .ref q_rootAt, .int v_stepAt, .ref q_pile, .ref q_lastAt, .ref q_nextAt, .ref q_hasBend, .int v_justMany, .ref q_isMet, .ref q_queue, .ref q_sums, .ref q_kept, .ref q_isKept, .ref q_copies, .ref q_shelfMany, .ref q_shelfSort, .ref q_shelfHas])), (q_shelfMany, .inl (cI, 3, .inl (upd v_shelfMany p1.toNatClampNeg p3))), (q_shelfSort, .inl (cI, 3, .inl (upd v_shelfSort p1.toNatClampNeg p2))), (q_shelfHas, .inl (cJ, 18, .inr (.inl v_shelfHas)))] := hD
          refine lv_iconst (v := 0) hx hb dX9_shelf_48 (by decide) ?_
          refine lv_istore (lv' := [(4, .int (0 : Int32)), (0, .ref q), (1, .int p1), (2, .int p2), (3, .int p3)]) hx hb dX9_shelf_49 hl (by decide) rfl (fun ls hl => ?_)
          refine hL51 p1 p2 p3 (upd v_shelfMany p1.toNatClampNeg p3) (upd v_shelfSort p1.toNatClampNeg p2) _ (fun y4_10 u10_shelfHas H locs ls hf hP hD hS hl => ?_) n (0 : Int32) v_shelfHas _ _ _ hf hP hD hS (lv_sub hl [1, 2, 3, 4, 0] rfl)
          have hP : va_P G vwCl [(q, .inr (9, [.ref q_bends, .ref q_rootAt, .int v_stepAt, .ref q_pile, .ref q_lastAt, .ref q_nextAt, .ref q_hasBend, .int v_justMany, .ref q_isMet, .ref q_queue, .ref q_sums, .ref q_kept, .ref q_isKept, .ref q_copies, .ref q_shelfMany, .ref q_shelfSort, .ref q_shelfHas])), (q_shelfMany, .inl (cI, 3, .inl (upd v_shelfMany p1.toNatClampNeg p3))), (q_shelfSort, .inl (cI, 3, .inl (upd v_shelfSort p1.toNatClampNeg p2))), (q_shelfHas, .inl (cJ, 18, .inr (.inl u10_shelfHas)))] H := hP
          have hD : va_D A [(q, .inr (9, [.ref q_bends, .ref q_rootAt, .int v_stepAt, .ref q_pile, .ref q_lastAt, .ref q_nextAt, .ref q_hasBend, .int v_justMany, .ref q_isMet, .ref q_queue, .ref q_sums, .ref q_kept, .ref q_isKept, .ref q_copies, .ref q_shelfMany, .ref q_shelfSort, .ref q_shelfHas])), (q_shelfMany, .inl (cI, 3, .inl (upd v_shelfMany p1.toNatClampNeg p3))), (q_shelfSort, .inl (cI, 3, .inl (upd v_shelfSort p1.toNatClampNeg p2))), (q_shelfHas, .inl (cJ, 18, .inr (.inl u10_shelfHas)))] := hD
          refine lv_iload_n hx hb dX9_shelf_79 rfl (lv_at hl 3 rfl) ?_
          cases hf
          rw [← hQ]
          exact rt_i hx hb hr hlk hP hD hS rfl dX9_shelf_80
        · have hf := if_n hf c6
          refine lv_bipush (v := (-14)) hx hb dX9_shelf_31 (by decide) ?_
          cases hf
          rw [← hQ]
          exact rt_i hx hb hr hlk hP hD hS rfl dX9_shelf_33
      · have hf := if_n hf c5
        refine lv_bipush (v := (-2)) hx hb dX9_shelf_24 (by decide) ?_
        cases hf
        rw [← hQ]
        exact rt_i hx hb hr hlk hP hD hS rfl dX9_shelf_26
  · have hf := if_s hf c2
    refine lv_iconst (v := (-1)) hx hb dX9_shelf_7 (by decide) ?_
    cases hf
    rw [← hQ]
    exact rt_i hx hb hr hlk hP hD hS rfl dX9_shelf_8
def pX9_faultOf (v_shelfMany : (Nat → Int32)) (p1 : Int32) (p2 : Int32) : Option (Int32) := ck (ix p1 3) (if (v_shelfMany p1.toNatClampNeg) = (-9 : Int32) then some (-11 : Int32) else Option.bind (pX9_within p2 (0 : Int32) ((v_shelfMany p1.toNatClampNeg) - (1 : Int32))) (fun r3 => if r3 = 0 then some (-13 : Int32) else some (0 : Int32)))
def rmX9_faultOf : Room := { frames := 1, cells := 0, slots := 0, locals := 22 }
theorem hiX9_faultOf_X9 : ∀ w ∈ u_ws RX9 TX9 17, w ∈ wsX9_faultOf := fun _ h => List.mem_cons_of_mem _ (List.mem_append_right _ h)
set_option maxRecDepth 100000 in
set_option maxHeartbeats 4000000 in
theorem kX9_faultOf {l : Launch} {G : va_G} {cI cJ cZ cS cG : ClassId} (q q_bends q_rootAt q_pile q_lastAt q_nextAt q_hasBend q_isMet q_queue q_sums q_kept q_isKept q_copies q_shelfMany q_shelfSort q_shelfHas : Nat) (v_stepAt : Int32) (v_justMany : Int32) (v_shelfMany : (Nat → Int32)) (p1 : Int32) (p2 : Int32) (R : Int32) (hf : pX9_faultOf v_shelfMany p1 p2 = some R) : CTi l yX9_faultOf wsX9_faultOf rmX9_faultOf G cI cJ cZ cS cG [.ref q, .int p1, .int p2] [(q, .inr (9, [.ref q_bends, .ref q_rootAt, .int v_stepAt, .ref q_pile, .ref q_lastAt, .ref q_nextAt, .ref q_hasBend, .int v_justMany, .ref q_isMet, .ref q_queue, .ref q_sums, .ref q_kept, .ref q_isKept, .ref q_copies, .ref q_shelfMany, .ref q_shelfSort, .ref q_shelfHas])), (q_shelfMany, .inl (cI, 3, .inl v_shelfMany))] [(q, .inr (9, [.ref q_bends, .ref q_rootAt, .int v_stepAt, .ref q_pile, .ref q_lastAt, .ref q_nextAt, .ref q_hasBend, .int v_justMany, .ref q_isMet, .ref q_queue, .ref q_sums, .ref q_kept, .ref q_isKept, .ref q_copies, .ref q_shelfMany, .ref q_shelfSort, .ref q_shelfHas])), (q_shelfMany, .inl (cI, 3, .inl v_shelfMany))] R := by
  refine Met.ofE (Qc := fun A => QRi G A [(q, .inr (9, [.ref q_bends, .ref q_rootAt, .int v_stepAt, .ref q_pile, .ref q_lastAt, .ref q_nextAt, .ref q_hasBend, .int v_justMany, .ref q_isMet, .ref q_queue, .ref q_sums, .ref q_kept, .ref q_isKept, .ref q_copies, .ref q_shelfMany, .ref q_shelfSort, .ref q_shelfHas])), (q_shelfMany, .inl (cI, 3, .inl v_shelfMany))] R) (cc := cX9_faultOf) (nL := 3) (ret := some .int) (plainFor_of_name (by decide +kernel)) rfl (Nat.le_of_ble_eq_true rfl) ?_
  intro p e s m below meth c A ls hx hb hml hr hlk hts hown hK hA hP hD hS hl
  have hown : s.vm.findClass RX9 = some m.cls := hown
  have hl : lv_has ls 3 [(0, .ref q), (1, .int p1), (2, .int p2)] := hl
  generalize hQ : MQ below (QRi G A [(q, .inr (9, [.ref q_bends, .ref q_rootAt, .int v_stepAt, .ref q_pile, .ref q_lastAt, .ref q_nextAt, .ref q_hasBend, .int v_justMany, .ref q_isMet, .ref q_queue, .ref q_sums, .ref q_kept, .ref q_isKept, .ref q_copies, .ref q_shelfMany, .ref q_shelfSort, .ref q_shelfHas])), (q_shelfMany, .inl (cI, 3, .inl v_shelfMany))] R) ([.ref q, .int p1, .int p2] : List Value).toArray s 0 0 A = QQ
  unfold pX9_faultOf at hf
  refine lv_aload_n hx hb dX9_faultOf_0 rfl (lv_at hl 0 rfl) ?_
  refine va_get (D := G) (ci := 9) (v := .ref q_shelfMany) (C := RX9) (T := TX9) (N := 17) hx hb hts hiX9_faultOf_X9 hown hK.1 hP 0 rfl rfl 14 (by decide) (hts (.fieldLink RX9 48 "PackedBendsModel" "shelfMany" "[I") (List.mem_of_getElem? (i := 1) rfl)) (fun _ h9 => h9) rfl dX9_faultOf_1 ?_
  refine lv_iload_n hx hb dX9_faultOf_4 rfl (lv_at hl 1 rfl) ?_
  obtain ⟨z1, hf⟩ := ck_s hf
  refine va_iald hx hb hK.1 hP 1 0 rfl rfl (vp_in_iff.mpr z1) dX9_faultOf_5 ?_
  refine lv_bipush (v := (-9)) hx hb dX9_faultOf_6 (by decide) ?_
  refine lv_icmp_ne (tgt := 16) hx hb dX9_faultOf_8 (by decide) (fun c2 => ?_) (fun c2 => ?_)
  · have hf := if_n hf c2
    refine lv_iload_n hx hb dX9_faultOf_16 rfl (lv_at hl 2 rfl) ?_
    refine lv_iconst (v := 0) hx hb dX9_faultOf_17 (by decide) ?_
    refine lv_aload_n hx hb dX9_faultOf_18 rfl (lv_at hl 0 rfl) ?_
    refine va_get (D := G) (ci := 9) (v := .ref q_shelfMany) (C := RX9) (T := TX9) (N := 17) hx hb hts hiX9_faultOf_X9 hown hK.1 hP 0 rfl rfl 14 (by decide) (hts (.fieldLink RX9 48 "PackedBendsModel" "shelfMany" "[I") (List.mem_of_getElem? (i := 1) rfl)) (fun _ h9 => h9) rfl dX9_faultOf_19 ?_
    refine lv_iload_n hx hb dX9_faultOf_22 rfl (lv_at hl 1 rfl) ?_
    refine va_iald hx hb hK.1 hP 1 0 rfl rfl (vp_in_iff.mpr z1) dX9_faultOf_23 ?_
    refine lv_iconst (v := 1) hx hb dX9_faultOf_24 (by decide) ?_
    refine lv_isub hx hb dX9_faultOf_25 ?_
    obtain ⟨r3, hc3, hf⟩ := ob_s hf
    refine bk_i (wc := []) (wc2 := []) (wr := [(q, .inr (9, [.ref q_bends, .ref q_rootAt, .int v_stepAt, .ref q_pile, .ref q_lastAt, .ref q_nextAt, .ref q_hasBend, .int v_justMany, .ref q_isMet, .ref q_queue, .ref q_sums, .ref q_kept, .ref q_isKept, .ref q_copies, .ref q_shelfMany, .ref q_shelfSort, .ref q_shelfHas])), (q_shelfMany, .inl (cI, 3, .inl v_shelfMany))]) (ws2 := [(q, .inr (9, [.ref q_bends, .ref q_rootAt, .int v_stepAt, .ref q_pile, .ref q_lastAt, .ref q_nextAt, .ref q_hasBend, .int v_justMany, .ref q_isMet, .ref q_queue, .ref q_sums, .ref q_kept, .ref q_isKept, .ref q_copies, .ref q_shelfMany, .ref q_shelfSort, .ref q_shelfHas])), (q_shelfMany, .inl (cI, 3, .inl v_shelfMany))]) (r := r3) (va_runS (As := [.int p2, .int (0 : Int32), .int ((v_shelfMany p1.toNatClampNeg) - (1 : Int32))]) (rest := []) ⟨hx, hb, hml, hown, hts⟩ (kX9_within (l := l) (G := G) (cI := cI) (cJ := cJ) (cZ := cZ) (cS := cS) (cG := cG) p2 (0 : Int32) ((v_shelfMany p1.toNatClampNeg) - (1 : Int32)) _ hc3 _) (va_cwS 3 hts gX9_faultOf_X9_within rfl rfl rfl (by decide +kernel) ⟨Nat.le_of_ble_eq_true rfl, Nat.le_of_ble_eq_true rfl⟩) (cut_S hK hP hD [] rfl rfl) rfl rfl hl.1 rfl (lv_room (Nat.le_of_ble_eq_true rfl)) dX9_faultOf_26 ⟨Nat.zero_le _, Nat.zero_le _⟩) hP hD hS hA [] [0, 1] [0, 1] rfl rfl rfl rfl rfl rfl (fun H locs hP hD hS => ?_)
    refine lv_if_eq (tgt := 36) hx hb dX9_faultOf_29 (by decide) (fun c4 => ?_) (fun c4 => ?_)
    · have hf := if_s hf c4
      refine lv_bipush (v := (-13)) hx hb dX9_faultOf_36 (by decide) ?_
      cases hf
      rw [← hQ]
      exact rt_i hx hb hr hlk hP hD hS rfl dX9_faultOf_38
    · have hf := if_n hf c4
      refine lv_iconst (v := 0) hx hb dX9_faultOf_32 (by decide) ?_
      refine lv_goto (tgt := 38) hx hb dX9_faultOf_33 (by decide) ?_
      cases hf
      rw [← hQ]
      exact rt_i hx hb hr hlk hP hD hS rfl dX9_faultOf_38
  · have hf := if_s hf c2
    refine lv_bipush (v := (-11)) hx hb dX9_faultOf_11 (by decide) ?_
    refine lv_goto (tgt := 38) hx hb dX9_faultOf_13 (by decide) ?_
    cases hf
    rw [← hQ]
    exact rt_i hx hb hr hlk hP hD hS rfl dX9_faultOf_38
def pX9_sortOf (p0 : Int64) : Option (Int32) := if p0 ≤ (0 : Int64) then if (0 : Int64) ≤ p0 then some (2 : Int32) else some (1 : Int32) else some (0 : Int32)
def rmX9_sortOf : Room := { frames := 0, cells := 0, slots := 0, locals := 0 }
set_option maxRecDepth 100000 in
set_option maxHeartbeats 4000000 in
theorem kX9_sortOf {l : Launch} {G : va_G} {cI cJ cZ cS cG : ClassId} (p0 : Int64) (R : Int32) (hf : pX9_sortOf p0 = some R) : CTi l yX9_sortOf wsX9_sortOf rmX9_sortOf G cI cJ cZ cS cG [.long p0] [] [] R := by
  refine Met.ofE (Qc := fun A => QRi G A [] R) (cc := cX9_sortOf) (nL := 2) (ret := some .int) (plainFor_of_name (by decide +kernel)) rfl (Nat.le_of_ble_eq_true rfl) ?_
  intro p e s m below meth c A ls hx hb hml hr hlk hts hown hK hA hP hD hS hl
  have hown : s.vm.findClass RX9 = some m.cls := hown
  have hl : lv_has ls 2 [(0, .long p0)] := hl
  generalize hQ : MQ below (QRi G A [] R) ([.long p0] : List Value).toArray s 0 0 A = QQ
  unfold pX9_sortOf at hf
  refine lv_lload_n hx hb dX9_sortOf_0 rfl (lv_at hl 0 rfl) ?_
  refine lv_lconst (v := 0) hx hb dX9_sortOf_1 (by decide) ?_
  refine lc_le (tgt := 10) hx hb dX9_sortOf_2 dX9_sortOf_3 (by decide) (fun c1 => ?_) (fun c1 => ?_)
  · have hf := if_s hf c1
    refine lv_lload_n hx hb dX9_sortOf_10 rfl (lv_at hl 0 rfl) ?_
    refine lv_lconst (v := 0) hx hb dX9_sortOf_11 (by decide) ?_
    refine lc_ge (tgt := 20) hx hb dX9_sortOf_12 dX9_sortOf_13 (by decide) (fun c2 => ?_) (fun c2 => ?_)
    · have hf := if_s hf c2
      refine lv_iconst (v := 2) hx hb dX9_sortOf_20 (by decide) ?_
      cases hf
      rw [← hQ]
      exact rt_i hx hb hr hlk hP hD hS rfl dX9_sortOf_21
    · have hf := if_n hf c2
      refine lv_iconst (v := 1) hx hb dX9_sortOf_16 (by decide) ?_
      refine lv_goto (tgt := 21) hx hb dX9_sortOf_17 (by decide) ?_
      cases hf
      rw [← hQ]
      exact rt_i hx hb hr hlk hP hD hS rfl dX9_sortOf_21
  · have hf := if_n hf c1
    refine lv_iconst (v := 0) hx hb dX9_sortOf_6 (by decide) ?_
    refine lv_goto (tgt := 21) hx hb dX9_sortOf_7 (by decide) ?_
    cases hf
    rw [← hQ]
    exact rt_i hx hb hr hlk hP hD hS rfl dX9_sortOf_21
def pX9_lay (v_bends : (Nat → Int64)) (v_shelfMany : (Nat → Int32)) (v_shelfSort : (Nat → Int32)) (v_shelfHas : (Nat → Int64)) (p1 : Int32) (p2 : Int32) (p3 : Int32) : Option (Int32 × (Nat → Int64)) := Option.bind (pX9_isShelf p1) (fun r1 => if r1 = 0 then some ((-1 : Int32), v_shelfHas) else Option.bind (pX9_isPlace p3) (fun r3 => if r3 = 0 then some ((-1 : Int32), v_shelfHas) else Option.bind (pX9_faultOf v_shelfMany p1 p2) (fun r5 => if r5 = 0 then ck (ix p1 3) (if (v_shelfSort p1.toNatClampNeg) = (3 : Int32) then ck (ix (p3 - (1 : Int32)) 4) (ck (ix (((6 : Int32) * p1) + p2) 18) (some ((1 : Int32), vp_updL v_shelfHas (((6 : Int32) * p1) + p2).toNatClampNeg (v_bends (p3 - (1 : Int32)).toNatClampNeg)))) else ck (ix (p3 - (1 : Int32)) 4) (Option.bind (pX9_sortOf (v_bends (p3 - (1 : Int32)).toNatClampNeg)) (fun r12 => if (v_shelfSort p1.toNatClampNeg) = r12 then ck (ix (((6 : Int32) * p1) + p2) 18) (some ((1 : Int32), vp_updL v_shelfHas (((6 : Int32) * p1) + p2).toNatClampNeg (v_bends (p3 - (1 : Int32)).toNatClampNeg))) else some ((-15 : Int32), v_shelfHas)))) else Option.bind (pX9_faultOf v_shelfMany p1 p2) (fun r15 => some (r15, v_shelfHas)))))
def rmX9_lay : Room := { frames := 2, cells := 0, slots := 0, locals := 44 }
theorem hiX9_lay_X9 : ∀ w ∈ u_ws RX9 TX9 17, w ∈ wsX9_lay := fun _ h => List.mem_cons_of_mem _ (List.mem_append_right _ h)
set_option maxRecDepth 100000 in
set_option maxHeartbeats 4000000 in
theorem kX9_lay {l : Launch} {G : va_G} {cI cJ cZ cS cG : ClassId} (q q_bends q_rootAt q_pile q_lastAt q_nextAt q_hasBend q_isMet q_queue q_sums q_kept q_isKept q_copies q_shelfMany q_shelfSort q_shelfHas : Nat) (v_stepAt : Int32) (v_justMany : Int32) (v_bends : (Nat → Int64)) (v_shelfMany : (Nat → Int32)) (v_shelfSort : (Nat → Int32)) (v_shelfHas : (Nat → Int64)) (p1 : Int32) (p2 : Int32) (p3 : Int32) (R : Int32 × (Nat → Int64)) (hf : pX9_lay v_bends v_shelfMany v_shelfSort v_shelfHas p1 p2 p3 = some R) : CTi l yX9_lay wsX9_lay rmX9_lay G cI cJ cZ cS cG [.ref q, .int p1, .int p2, .int p3] [(q, .inr (9, [.ref q_bends, .ref q_rootAt, .int v_stepAt, .ref q_pile, .ref q_lastAt, .ref q_nextAt, .ref q_hasBend, .int v_justMany, .ref q_isMet, .ref q_queue, .ref q_sums, .ref q_kept, .ref q_isKept, .ref q_copies, .ref q_shelfMany, .ref q_shelfSort, .ref q_shelfHas])), (q_bends, .inl (cJ, 4, .inr (.inl v_bends))), (q_shelfMany, .inl (cI, 3, .inl v_shelfMany)), (q_shelfSort, .inl (cI, 3, .inl v_shelfSort)), (q_shelfHas, .inl (cJ, 18, .inr (.inl v_shelfHas)))] [(q, .inr (9, [.ref q_bends, .ref q_rootAt, .int v_stepAt, .ref q_pile, .ref q_lastAt, .ref q_nextAt, .ref q_hasBend, .int v_justMany, .ref q_isMet, .ref q_queue, .ref q_sums, .ref q_kept, .ref q_isKept, .ref q_copies, .ref q_shelfMany, .ref q_shelfSort, .ref q_shelfHas])), (q_bends, .inl (cJ, 4, .inr (.inl v_bends))), (q_shelfMany, .inl (cI, 3, .inl v_shelfMany)), (q_shelfSort, .inl (cI, 3, .inl v_shelfSort)), (q_shelfHas, .inl (cJ, 18, .inr (.inl R.2)))] R.1 := by
  refine Met.ofE (Qc := fun A => QRi G A [(q, .inr (9, [.ref q_bends, .ref q_rootAt, .int v_stepAt, .ref q_pile, .ref q_lastAt, .ref q_nextAt, .ref q_hasBend, .int v_justMany, .ref q_isMet, .ref q_queue, .ref q_sums, .ref q_kept, .ref q_isKept, .ref q_copies, .ref q_shelfMany, .ref q_shelfSort, .ref q_shelfHas])), (q_bends, .inl (cJ, 4, .inr (.inl v_bends))), (q_shelfMany, .inl (cI, 3, .inl v_shelfMany)), (q_shelfSort, .inl (cI, 3, .inl v_shelfSort)), (q_shelfHas, .inl (cJ, 18, .inr (.inl R.2)))] R.1) (cc := cX9_lay) (nL := 4) (ret := some .int) (plainFor_of_name (by decide +kernel)) rfl (Nat.le_of_ble_eq_true rfl) ?_
  intro p e s m below meth c A ls hx hb hml hr hlk hts hown hK hA hP hD hS hl
  have hown : s.vm.findClass RX9 = some m.cls := hown
  have hl : lv_has ls 4 [(0, .ref q), (1, .int p1), (2, .int p2), (3, .int p3)] := hl
  generalize hQ : MQ below (QRi G A [(q, .inr (9, [.ref q_bends, .ref q_rootAt, .int v_stepAt, .ref q_pile, .ref q_lastAt, .ref q_nextAt, .ref q_hasBend, .int v_justMany, .ref q_isMet, .ref q_queue, .ref q_sums, .ref q_kept, .ref q_isKept, .ref q_copies, .ref q_shelfMany, .ref q_shelfSort, .ref q_shelfHas])), (q_bends, .inl (cJ, 4, .inr (.inl v_bends))), (q_shelfMany, .inl (cI, 3, .inl v_shelfMany)), (q_shelfSort, .inl (cI, 3, .inl v_shelfSort)), (q_shelfHas, .inl (cJ, 18, .inr (.inl R.2)))] R.1) ([.ref q, .int p1, .int p2, .int p3] : List Value).toArray s 0 0 A = QQ
  unfold pX9_lay at hf
  refine lv_iload_n hx hb dX9_lay_0 rfl (lv_at hl 1 rfl) ?_
  obtain ⟨r1, hc1, hf⟩ := ob_s hf
  refine bk_i (wc := []) (wc2 := []) (wr := [(q, .inr (9, [.ref q_bends, .ref q_rootAt, .int v_stepAt, .ref q_pile, .ref q_lastAt, .ref q_nextAt, .ref q_hasBend, .int v_justMany, .ref q_isMet, .ref q_queue, .ref q_sums, .ref q_kept, .ref q_isKept, .ref q_copies, .ref q_shelfMany, .ref q_shelfSort, .ref q_shelfHas])), (q_bends, .inl (cJ, 4, .inr (.inl v_bends))), (q_shelfMany, .inl (cI, 3, .inl v_shelfMany)), (q_shelfSort, .inl (cI, 3, .inl v_shelfSort)), (q_shelfHas, .inl (cJ, 18, .inr (.inl v_shelfHas)))]) (ws2 := [(q, .inr (9, [.ref q_bends, .ref q_rootAt, .int v_stepAt, .ref q_pile, .ref q_lastAt, .ref q_nextAt, .ref q_hasBend, .int v_justMany, .ref q_isMet, .ref q_queue, .ref q_sums, .ref q_kept, .ref q_isKept, .ref q_copies, .ref q_shelfMany, .ref q_shelfSort, .ref q_shelfHas])), (q_bends, .inl (cJ, 4, .inr (.inl v_bends))), (q_shelfMany, .inl (cI, 3, .inl v_shelfMany)), (q_shelfSort, .inl (cI, 3, .inl v_shelfSort)), (q_shelfHas, .inl (cJ, 18, .inr (.inl v_shelfHas)))]) (r := r1) (va_runS (As := [.int p1]) (rest := []) ⟨hx, hb, hml, hown, hts⟩ (kX9_isShelf (l := l) (G := G) (cI := cI) (cJ := cJ) (cZ := cZ) (cS := cS) (cG := cG) p1 _ hc1 _) (va_cwS 1 hts gX9_lay_X9_isShelf rfl rfl rfl (by decide +kernel) ⟨Nat.le_of_ble_eq_true rfl, Nat.le_of_ble_eq_true rfl⟩) (cut_S hK hP hD [] rfl rfl) rfl rfl hl.1 rfl (lv_room (Nat.le_of_ble_eq_true rfl)) dX9_lay_1 ⟨Nat.zero_le _, Nat.zero_le _⟩) hP hD hS hA [] [0, 1, 2, 3, 4] [0, 1, 2, 3, 4] rfl rfl rfl rfl rfl rfl (fun H locs hP hD hS => ?_)
  refine lv_if_eq (tgt := 14) hx hb dX9_lay_4 (by decide) (fun c2 => ?_) (fun c2 => ?_)
  · have hf := if_s hf c2
    refine lv_iconst (v := (-1)) hx hb dX9_lay_14 (by decide) ?_
    cases hf
    rw [← hQ]
    exact rt_i hx hb hr hlk hP hD hS rfl dX9_lay_15
  · have hf := if_n hf c2
    refine lv_iload_n hx hb dX9_lay_7 rfl (lv_at hl 3 rfl) ?_
    obtain ⟨r3, hc3, hf⟩ := ob_s hf
    refine bk_i (wc := []) (wc2 := []) (wr := [(q, .inr (9, [.ref q_bends, .ref q_rootAt, .int v_stepAt, .ref q_pile, .ref q_lastAt, .ref q_nextAt, .ref q_hasBend, .int v_justMany, .ref q_isMet, .ref q_queue, .ref q_sums, .ref q_kept, .ref q_isKept, .ref q_copies, .ref q_shelfMany, .ref q_shelfSort, .ref q_shelfHas])), (q_bends, .inl (cJ, 4, .inr (.inl v_bends))), (q_shelfMany, .inl (cI, 3, .inl v_shelfMany)), (q_shelfSort, .inl (cI, 3, .inl v_shelfSort)), (q_shelfHas, .inl (cJ, 18, .inr (.inl v_shelfHas)))]) (ws2 := [(q, .inr (9, [.ref q_bends, .ref q_rootAt, .int v_stepAt, .ref q_pile, .ref q_lastAt, .ref q_nextAt, .ref q_hasBend, .int v_justMany, .ref q_isMet, .ref q_queue, .ref q_sums, .ref q_kept, .ref q_isKept, .ref q_copies, .ref q_shelfMany, .ref q_shelfSort, .ref q_shelfHas])), (q_bends, .inl (cJ, 4, .inr (.inl v_bends))), (q_shelfMany, .inl (cI, 3, .inl v_shelfMany)), (q_shelfSort, .inl (cI, 3, .inl v_shelfSort)), (q_shelfHas, .inl (cJ, 18, .inr (.inl v_shelfHas)))]) (r := r3) (va_runS (As := [.int p3]) (rest := []) ⟨hx, hb, hml, hown, hts⟩ (kX9_isPlace (l := l) (G := G) (cI := cI) (cJ := cJ) (cZ := cZ) (cS := cS) (cG := cG) p3 _ hc3 _) (va_cwS 1 hts gX9_lay_X9_isPlace rfl rfl rfl (by decide +kernel) ⟨Nat.le_of_ble_eq_true rfl, Nat.le_of_ble_eq_true rfl⟩) (cut_S hK hP hD [] rfl rfl) rfl rfl hl.1 rfl (lv_room (Nat.le_of_ble_eq_true rfl)) dX9_lay_8 ⟨Nat.zero_le _, Nat.zero_le _⟩) hP hD hS hA [] [0, 1, 2, 3, 4] [0, 1, 2, 3, 4] rfl rfl rfl rfl rfl rfl (fun H locs hP hD hS => ?_)
    refine lv_if_ne (tgt := 16) hx hb dX9_lay_11 (by decide) (fun c4 => ?_) (fun c4 => ?_)
    · have hf := if_n hf c4
      refine lv_aload_n hx hb dX9_lay_16 rfl (lv_at hl 0 rfl) ?_
      refine lv_iload_n hx hb dX9_lay_17 rfl (lv_at hl 1 rfl) ?_
      refine lv_iload_n hx hb dX9_lay_18 rfl (lv_at hl 2 rfl) ?_
      obtain ⟨r5, hc5, hf⟩ := ob_s hf
      refine bk_i (wc := [(q, .inr (9, [.ref q_bends, .ref q_rootAt, .int v_stepAt, .ref q_pile, .ref q_lastAt, .ref q_nextAt, .ref q_hasBend, .int v_justMany, .ref q_isMet, .ref q_queue, .ref q_sums, .ref q_kept, .ref q_isKept, .ref q_copies, .ref q_shelfMany, .ref q_shelfSort, .ref q_shelfHas])), (q_shelfMany, .inl (cI, 3, .inl v_shelfMany))]) (wc2 := [(q, .inr (9, [.ref q_bends, .ref q_rootAt, .int v_stepAt, .ref q_pile, .ref q_lastAt, .ref q_nextAt, .ref q_hasBend, .int v_justMany, .ref q_isMet, .ref q_queue, .ref q_sums, .ref q_kept, .ref q_isKept, .ref q_copies, .ref q_shelfMany, .ref q_shelfSort, .ref q_shelfHas])), (q_shelfMany, .inl (cI, 3, .inl v_shelfMany))]) (wr := [(q_bends, .inl (cJ, 4, .inr (.inl v_bends))), (q_shelfSort, .inl (cI, 3, .inl v_shelfSort)), (q_shelfHas, .inl (cJ, 18, .inr (.inl v_shelfHas)))]) (ws2 := [(q, .inr (9, [.ref q_bends, .ref q_rootAt, .int v_stepAt, .ref q_pile, .ref q_lastAt, .ref q_nextAt, .ref q_hasBend, .int v_justMany, .ref q_isMet, .ref q_queue, .ref q_sums, .ref q_kept, .ref q_isKept, .ref q_copies, .ref q_shelfMany, .ref q_shelfSort, .ref q_shelfHas])), (q_bends, .inl (cJ, 4, .inr (.inl v_bends))), (q_shelfMany, .inl (cI, 3, .inl v_shelfMany)), (q_shelfSort, .inl (cI, 3, .inl v_shelfSort)), (q_shelfHas, .inl (cJ, 18, .inr (.inl v_shelfHas)))]) (r := r5) (va_runV (As := [.int p1, .int p2]) (rest := []) ⟨hx, hb, hml, hown, hts⟩ (kX9_faultOf (l := l) (G := G) (cI := cI) (cJ := cJ) (cZ := cZ) (cS := cS) (cG := cG) q q_bends q_rootAt q_pile q_lastAt q_nextAt q_hasBend q_isMet q_queue q_sums q_kept q_isKept q_copies q_shelfMany q_shelfSort q_shelfHas v_stepAt v_justMany v_shelfMany p1 p2 _ hc5 _) (cwV 2 hts gX9_lay_X9_faultOf rfl rfl rfl (by decide +kernel) ⟨Nat.le_of_ble_eq_true rfl, Nat.le_of_ble_eq_true rfl⟩) (cut_V hK hP hD [0, 2] rfl rfl (ci := 9) (q0 := 0) rfl rfl) rfl rfl hl.1 rfl (lv_room (Nat.le_of_ble_eq_true rfl)) dX9_lay_19 ⟨Nat.zero_le _, Nat.zero_le _⟩) hP hD hS hA [0, 2] [1, 3, 4] [3, 0, 4, 1, 2] rfl rfl rfl rfl rfl rfl (fun H locs hP hD hS => ?_)
      refine lv_if_eq (tgt := 32) hx hb dX9_lay_22 (by decide) (fun c6 => ?_) (fun c6 => ?_)
      · have hf := if_s hf c6
        refine lv_aload_n hx hb dX9_lay_32 rfl (lv_at hl 0 rfl) ?_
        refine va_get (D := G) (ci := 9) (v := .ref q_shelfSort) (C := RX9) (T := TX9) (N := 17) hx hb hts hiX9_lay_X9 hown hK.1 hP 0 rfl rfl 15 (by decide) (hts (.fieldLink RX9 51 "PackedBendsModel" "shelfSort" "[I") (List.mem_of_getElem? (i := 1) rfl)) (fun _ h9 => h9) rfl dX9_lay_33 ?_
        refine lv_iload_n hx hb dX9_lay_36 rfl (lv_at hl 1 rfl) ?_
        obtain ⟨z7, hf⟩ := ck_s hf
        refine va_iald hx hb hK.1 hP 3 0 rfl rfl (vp_in_iff.mpr z7) dX9_lay_37 ?_
        refine lv_iconst (v := 3) hx hb dX9_lay_38 (by decide) ?_
        refine lv_icmp_eq (tgt := 65) hx hb dX9_lay_39 (by decide) (fun c8 => ?_) (fun c8 => ?_)
        · have hf := if_s hf c8
          refine lv_aload_n hx hb dX9_lay_65 rfl (lv_at hl 0 rfl) ?_
          refine va_get (D := G) (ci := 9) (v := .ref q_shelfHas) (C := RX9) (T := TX9) (N := 17) hx hb hts hiX9_lay_X9 hown hK.1 hP 0 rfl rfl 16 (by decide) (hts (.fieldLink RX9 54 "PackedBendsModel" "shelfHas" "[J") (List.mem_of_getElem? (i := 3) rfl)) (fun _ h9 => h9) rfl dX9_lay_66 ?_
          refine lv_bipush (v := 6) hx hb dX9_lay_69 (by decide) ?_
          refine lv_iload_n hx hb dX9_lay_71 rfl (lv_at hl 1 rfl) ?_
          refine lv_imul hx hb dX9_lay_72 ?_
          refine lv_iload_n hx hb dX9_lay_73 rfl (lv_at hl 2 rfl) ?_
          refine lv_iadd hx hb dX9_lay_74 ?_
          refine lv_aload_n hx hb dX9_lay_75 rfl (lv_at hl 0 rfl) ?_
          refine va_get (D := G) (ci := 9) (v := .ref q_bends) (C := RX9) (T := TX9) (N := 17) hx hb hts hiX9_lay_X9 hown hK.1 hP 0 rfl rfl 0 (by decide) (hts (.fieldLink RX9 7 "PackedBendsModel" "bends" "[J") (List.mem_of_getElem? (i := 2) rfl)) (fun _ h9 => h9) rfl dX9_lay_76 ?_
          refine lv_iload_n hx hb dX9_lay_79 rfl (lv_at hl 3 rfl) ?_
          refine lv_iconst (v := 1) hx hb dX9_lay_80 (by decide) ?_
          refine lv_isub hx hb dX9_lay_81 ?_
          obtain ⟨z9, hf⟩ := ck_s hf
          refine va_lald hx hb hK.1 hP 1 1 rfl rfl (vp_in_iff.mpr z9) dX9_lay_82 ?_
          obtain ⟨z10, hf⟩ := ck_s hf
          refine va_last hx hb hK.1 hP hD hS 4 1 rfl rfl (vp_in_iff.mpr z10) dX9_lay_83 (fun H locs hP hD hS => ?_)
          have hP : va_P G vwCl [(q, .inr (9, [.ref q_bends, .ref q_rootAt, .int v_stepAt, .ref q_pile, .ref q_lastAt, .ref q_nextAt, .ref q_hasBend, .int v_justMany, .ref q_isMet, .ref q_queue, .ref q_sums, .ref q_kept, .ref q_isKept, .ref q_copies, .ref q_shelfMany, .ref q_shelfSort, .ref q_shelfHas])), (q_bends, .inl (cJ, 4, .inr (.inl v_bends))), (q_shelfMany, .inl (cI, 3, .inl v_shelfMany)), (q_shelfSort, .inl (cI, 3, .inl v_shelfSort)), (q_shelfHas, .inl (cJ, 18, .inr (.inl (vp_updL v_shelfHas (((6 : Int32) * p1) + p2).toNatClampNeg (v_bends (p3 - (1 : Int32)).toNatClampNeg)))))] H := hP
          have hD : va_D A [(q, .inr (9, [.ref q_bends, .ref q_rootAt, .int v_stepAt, .ref q_pile, .ref q_lastAt, .ref q_nextAt, .ref q_hasBend, .int v_justMany, .ref q_isMet, .ref q_queue, .ref q_sums, .ref q_kept, .ref q_isKept, .ref q_copies, .ref q_shelfMany, .ref q_shelfSort, .ref q_shelfHas])), (q_bends, .inl (cJ, 4, .inr (.inl v_bends))), (q_shelfMany, .inl (cI, 3, .inl v_shelfMany)), (q_shelfSort, .inl (cI, 3, .inl v_shelfSort)), (q_shelfHas, .inl (cJ, 18, .inr (.inl (vp_updL v_shelfHas (((6 : Int32) * p1) + p2).toNatClampNeg (v_bends (p3 - (1 : Int32)).toNatClampNeg)))))] := hD
          refine lv_iconst (v := 1) hx hb dX9_lay_84 (by decide) ?_
          cases hf
          rw [← hQ]
          exact rt_i hx hb hr hlk hP hD hS rfl dX9_lay_85
        · have hf := if_n hf c8
          refine lv_aload_n hx hb dX9_lay_42 rfl (lv_at hl 0 rfl) ?_
          refine va_get (D := G) (ci := 9) (v := .ref q_shelfSort) (C := RX9) (T := TX9) (N := 17) hx hb hts hiX9_lay_X9 hown hK.1 hP 0 rfl rfl 15 (by decide) (hts (.fieldLink RX9 51 "PackedBendsModel" "shelfSort" "[I") (List.mem_of_getElem? (i := 1) rfl)) (fun _ h9 => h9) rfl dX9_lay_43 ?_
          refine lv_iload_n hx hb dX9_lay_46 rfl (lv_at hl 1 rfl) ?_
          refine va_iald hx hb hK.1 hP 3 0 rfl rfl (vp_in_iff.mpr z7) dX9_lay_47 ?_
          refine lv_aload_n hx hb dX9_lay_48 rfl (lv_at hl 0 rfl) ?_
          refine va_get (D := G) (ci := 9) (v := .ref q_bends) (C := RX9) (T := TX9) (N := 17) hx hb hts hiX9_lay_X9 hown hK.1 hP 0 rfl rfl 0 (by decide) (hts (.fieldLink RX9 7 "PackedBendsModel" "bends" "[J") (List.mem_of_getElem? (i := 2) rfl)) (fun _ h9 => h9) rfl dX9_lay_49 ?_
          refine lv_iload_n hx hb dX9_lay_52 rfl (lv_at hl 3 rfl) ?_
          refine lv_iconst (v := 1) hx hb dX9_lay_53 (by decide) ?_
          refine lv_isub hx hb dX9_lay_54 ?_
          obtain ⟨z11, hf⟩ := ck_s hf
          refine va_lald hx hb hK.1 hP 1 1 rfl rfl (vp_in_iff.mpr z11) dX9_lay_55 ?_
          obtain ⟨r12, hc12, hf⟩ := ob_s hf
          refine bk_i (wc := []) (wc2 := []) (wr := [(q, .inr (9, [.ref q_bends, .ref q_rootAt, .int v_stepAt, .ref q_pile, .ref q_lastAt, .ref q_nextAt, .ref q_hasBend, .int v_justMany, .ref q_isMet, .ref q_queue, .ref q_sums, .ref q_kept, .ref q_isKept, .ref q_copies, .ref q_shelfMany, .ref q_shelfSort, .ref q_shelfHas])), (q_bends, .inl (cJ, 4, .inr (.inl v_bends))), (q_shelfMany, .inl (cI, 3, .inl v_shelfMany)), (q_shelfSort, .inl (cI, 3, .inl v_shelfSort)), (q_shelfHas, .inl (cJ, 18, .inr (.inl v_shelfHas)))]) (ws2 := [(q, .inr (9, [.ref q_bends, .ref q_rootAt, .int v_stepAt, .ref q_pile, .ref q_lastAt, .ref q_nextAt, .ref q_hasBend, .int v_justMany, .ref q_isMet, .ref q_queue, .ref q_sums, .ref q_kept, .ref q_isKept, .ref q_copies, .ref q_shelfMany, .ref q_shelfSort, .ref q_shelfHas])), (q_bends, .inl (cJ, 4, .inr (.inl v_bends))), (q_shelfMany, .inl (cI, 3, .inl v_shelfMany)), (q_shelfSort, .inl (cI, 3, .inl v_shelfSort)), (q_shelfHas, .inl (cJ, 18, .inr (.inl v_shelfHas)))]) (r := r12) (va_runS (As := [.long (v_bends (p3 - (1 : Int32)).toNatClampNeg)]) (rest := [.int (v_shelfSort p1.toNatClampNeg)]) ⟨hx, hb, hml, hown, hts⟩ (kX9_sortOf (l := l) (G := G) (cI := cI) (cJ := cJ) (cZ := cZ) (cS := cS) (cG := cG) (v_bends (p3 - (1 : Int32)).toNatClampNeg) _ hc12 _) (va_cwS 1 hts gX9_lay_X9_sortOf rfl rfl rfl (by decide +kernel) ⟨Nat.le_of_ble_eq_true rfl, Nat.le_of_ble_eq_true rfl⟩) (cut_S hK hP hD [] rfl rfl) rfl rfl hl.1 rfl (lv_room (Nat.le_of_ble_eq_true rfl)) dX9_lay_56 ⟨Nat.zero_le _, Nat.zero_le _⟩) hP hD hS hA [] [0, 1, 2, 3, 4] [0, 1, 2, 3, 4] rfl rfl rfl rfl rfl rfl (fun H locs hP hD hS => ?_)
          refine lv_icmp_eq (tgt := 65) hx hb dX9_lay_59 (by decide) (fun c13 => ?_) (fun c13 => ?_)
          · have hf := if_s hf c13
            refine lv_aload_n hx hb dX9_lay_65 rfl (lv_at hl 0 rfl) ?_
            refine va_get (D := G) (ci := 9) (v := .ref q_shelfHas) (C := RX9) (T := TX9) (N := 17) hx hb hts hiX9_lay_X9 hown hK.1 hP 0 rfl rfl 16 (by decide) (hts (.fieldLink RX9 54 "PackedBendsModel" "shelfHas" "[J") (List.mem_of_getElem? (i := 3) rfl)) (fun _ h9 => h9) rfl dX9_lay_66 ?_
            refine lv_bipush (v := 6) hx hb dX9_lay_69 (by decide) ?_
            refine lv_iload_n hx hb dX9_lay_71 rfl (lv_at hl 1 rfl) ?_
            refine lv_imul hx hb dX9_lay_72 ?_
            refine lv_iload_n hx hb dX9_lay_73 rfl (lv_at hl 2 rfl) ?_
            refine lv_iadd hx hb dX9_lay_74 ?_
            refine lv_aload_n hx hb dX9_lay_75 rfl (lv_at hl 0 rfl) ?_
            refine va_get (D := G) (ci := 9) (v := .ref q_bends) (C := RX9) (T := TX9) (N := 17) hx hb hts hiX9_lay_X9 hown hK.1 hP 0 rfl rfl 0 (by decide) (hts (.fieldLink RX9 7 "PackedBendsModel" "bends" "[J") (List.mem_of_getElem? (i := 2) rfl)) (fun _ h9 => h9) rfl dX9_lay_76 ?_
            refine lv_iload_n hx hb dX9_lay_79 rfl (lv_at hl 3 rfl) ?_
            refine lv_iconst (v := 1) hx hb dX9_lay_80 (by decide) ?_
            refine lv_isub hx hb dX9_lay_81 ?_
            refine va_lald hx hb hK.1 hP 1 1 rfl rfl (vp_in_iff.mpr z11) dX9_lay_82 ?_
            obtain ⟨z14, hf⟩ := ck_s hf
            refine va_last hx hb hK.1 hP hD hS 4 1 rfl rfl (vp_in_iff.mpr z14) dX9_lay_83 (fun H locs hP hD hS => ?_)
            have hP : va_P G vwCl [(q, .inr (9, [.ref q_bends, .ref q_rootAt, .int v_stepAt, .ref q_pile, .ref q_lastAt, .ref q_nextAt, .ref q_hasBend, .int v_justMany, .ref q_isMet, .ref q_queue, .ref q_sums, .ref q_kept, .ref q_isKept, .ref q_copies, .ref q_shelfMany, .ref q_shelfSort, .ref q_shelfHas])), (q_bends, .inl (cJ, 4, .inr (.inl v_bends))), (q_shelfMany, .inl (cI, 3, .inl v_shelfMany)), (q_shelfSort, .inl (cI, 3, .inl v_shelfSort)), (q_shelfHas, .inl (cJ, 18, .inr (.inl (vp_updL v_shelfHas (((6 : Int32) * p1) + p2).toNatClampNeg (v_bends (p3 - (1 : Int32)).toNatClampNeg)))))] H := hP
            have hD : va_D A [(q, .inr (9, [.ref q_bends, .ref q_rootAt, .int v_stepAt, .ref q_pile, .ref q_lastAt, .ref q_nextAt, .ref q_hasBend, .int v_justMany, .ref q_isMet, .ref q_queue, .ref q_sums, .ref q_kept, .ref q_isKept, .ref q_copies, .ref q_shelfMany, .ref q_shelfSort, .ref q_shelfHas])), (q_bends, .inl (cJ, 4, .inr (.inl v_bends))), (q_shelfMany, .inl (cI, 3, .inl v_shelfMany)), (q_shelfSort, .inl (cI, 3, .inl v_shelfSort)), (q_shelfHas, .inl (cJ, 18, .inr (.inl (vp_updL v_shelfHas (((6 : Int32) * p1) + p2).toNatClampNeg (v_bends (p3 - (1 : Int32)).toNatClampNeg)))))] := hD
            refine lv_iconst (v := 1) hx hb dX9_lay_84 (by decide) ?_
            cases hf
            rw [← hQ]
            exact rt_i hx hb hr hlk hP hD hS rfl dX9_lay_85
          · have hf := if_n hf c13
            refine lv_bipush (v := (-15)) hx hb dX9_lay_62 (by decide) ?_
            cases hf
            rw [← hQ]
            exact rt_i hx hb hr hlk hP hD hS rfl dX9_lay_64
      · have hf := if_n hf c6
        refine lv_aload_n hx hb dX9_lay_25 rfl (lv_at hl 0 rfl) ?_
        refine lv_iload_n hx hb dX9_lay_26 rfl (lv_at hl 1 rfl) ?_
        refine lv_iload_n hx hb dX9_lay_27 rfl (lv_at hl 2 rfl) ?_
        obtain ⟨r15, hc15, hf⟩ := ob_s hf
        refine bk_i (wc := [(q, .inr (9, [.ref q_bends, .ref q_rootAt, .int v_stepAt, .ref q_pile, .ref q_lastAt, .ref q_nextAt, .ref q_hasBend, .int v_justMany, .ref q_isMet, .ref q_queue, .ref q_sums, .ref q_kept, .ref q_isKept, .ref q_copies, .ref q_shelfMany, .ref q_shelfSort, .ref q_shelfHas])), (q_shelfMany, .inl (cI, 3, .inl v_shelfMany))]) (wc2 := [(q, .inr (9, [.ref q_bends, .ref q_rootAt, .int v_stepAt, .ref q_pile, .ref q_lastAt, .ref q_nextAt, .ref q_hasBend, .int v_justMany, .ref q_isMet, .ref q_queue, .ref q_sums, .ref q_kept, .ref q_isKept, .ref q_copies, .ref q_shelfMany, .ref q_shelfSort, .ref q_shelfHas])), (q_shelfMany, .inl (cI, 3, .inl v_shelfMany))]) (wr := [(q_bends, .inl (cJ, 4, .inr (.inl v_bends))), (q_shelfSort, .inl (cI, 3, .inl v_shelfSort)), (q_shelfHas, .inl (cJ, 18, .inr (.inl v_shelfHas)))]) (ws2 := [(q, .inr (9, [.ref q_bends, .ref q_rootAt, .int v_stepAt, .ref q_pile, .ref q_lastAt, .ref q_nextAt, .ref q_hasBend, .int v_justMany, .ref q_isMet, .ref q_queue, .ref q_sums, .ref q_kept, .ref q_isKept, .ref q_copies, .ref q_shelfMany, .ref q_shelfSort, .ref q_shelfHas])), (q_bends, .inl (cJ, 4, .inr (.inl v_bends))), (q_shelfMany, .inl (cI, 3, .inl v_shelfMany)), (q_shelfSort, .inl (cI, 3, .inl v_shelfSort)), (q_shelfHas, .inl (cJ, 18, .inr (.inl v_shelfHas)))]) (r := r15) (va_runV (As := [.int p1, .int p2]) (rest := []) ⟨hx, hb, hml, hown, hts⟩ (kX9_faultOf (l := l) (G := G) (cI := cI) (cJ := cJ) (cZ := cZ) (cS := cS) (cG := cG) q q_bends q_rootAt q_pile q_lastAt q_nextAt q_hasBend q_isMet q_queue q_sums q_kept q_isKept q_copies q_shelfMany q_shelfSort q_shelfHas v_stepAt v_justMany v_shelfMany p1 p2 _ hc15 _) (cwV 2 hts gX9_lay_X9_faultOf rfl rfl rfl (by decide +kernel) ⟨Nat.le_of_ble_eq_true rfl, Nat.le_of_ble_eq_true rfl⟩) (cut_V hK hP hD [0, 2] rfl rfl (ci := 9) (q0 := 0) rfl rfl) rfl rfl hl.1 rfl (lv_room (Nat.le_of_ble_eq_true rfl)) dX9_lay_28 ⟨Nat.zero_le _, Nat.zero_le _⟩) hP hD hS hA [0, 2] [1, 3, 4] [3, 0, 4, 1, 2] rfl rfl rfl rfl rfl rfl (fun H locs hP hD hS => ?_)
        cases hf
        rw [← hQ]
        exact rt_i hx hb hr hlk hP hD hS rfl dX9_lay_31
    · have hf := if_s hf c4
      refine lv_iconst (v := (-1)) hx hb dX9_lay_14 (by decide) ?_
      cases hf
      rw [← hQ]
      exact rt_i hx hb hr hlk hP hD hS rfl dX9_lay_15
def pX9_seen (v_shelfMany : (Nat → Int32)) (v_shelfHas : (Nat → Int64)) (p1 : Int32) (p2 : Int32) : Option (Int64) := Option.bind (pX9_isShelf p1) (fun r1 => if r1 = 0 then some (-9223372036854775808 : Int64) else Option.bind (pX9_faultOf v_shelfMany p1 p2) (fun r3 => if r3 = 0 then ck (ix (((6 : Int32) * p1) + p2) 18) (some (v_shelfHas (((6 : Int32) * p1) + p2).toNatClampNeg)) else some (-9223372036854775808 : Int64)))
def rmX9_seen : Room := { frames := 2, cells := 0, slots := 0, locals := 44 }
theorem hiX9_seen_X9 : ∀ w ∈ u_ws RX9 TX9 17, w ∈ wsX9_seen := fun _ h => List.mem_cons_of_mem _ (List.mem_append_right _ h)
set_option maxRecDepth 100000 in
set_option maxHeartbeats 4000000 in
theorem kX9_seen {l : Launch} {G : va_G} {cI cJ cZ cS cG : ClassId} (q q_bends q_rootAt q_pile q_lastAt q_nextAt q_hasBend q_isMet q_queue q_sums q_kept q_isKept q_copies q_shelfMany q_shelfSort q_shelfHas : Nat) (v_stepAt : Int32) (v_justMany : Int32) (v_shelfMany : (Nat → Int32)) (v_shelfHas : (Nat → Int64)) (p1 : Int32) (p2 : Int32) (R : Int64) (hf : pX9_seen v_shelfMany v_shelfHas p1 p2 = some R) : CTl l yX9_seen wsX9_seen rmX9_seen G cI cJ cZ cS cG [.ref q, .int p1, .int p2] [(q, .inr (9, [.ref q_bends, .ref q_rootAt, .int v_stepAt, .ref q_pile, .ref q_lastAt, .ref q_nextAt, .ref q_hasBend, .int v_justMany, .ref q_isMet, .ref q_queue, .ref q_sums, .ref q_kept, .ref q_isKept, .ref q_copies, .ref q_shelfMany, .ref q_shelfSort, .ref q_shelfHas])), (q_shelfMany, .inl (cI, 3, .inl v_shelfMany)), (q_shelfHas, .inl (cJ, 18, .inr (.inl v_shelfHas)))] [(q, .inr (9, [.ref q_bends, .ref q_rootAt, .int v_stepAt, .ref q_pile, .ref q_lastAt, .ref q_nextAt, .ref q_hasBend, .int v_justMany, .ref q_isMet, .ref q_queue, .ref q_sums, .ref q_kept, .ref q_isKept, .ref q_copies, .ref q_shelfMany, .ref q_shelfSort, .ref q_shelfHas])), (q_shelfMany, .inl (cI, 3, .inl v_shelfMany)), (q_shelfHas, .inl (cJ, 18, .inr (.inl v_shelfHas)))] R := by
  refine Met.ofE (Qc := fun A => QRl G A [(q, .inr (9, [.ref q_bends, .ref q_rootAt, .int v_stepAt, .ref q_pile, .ref q_lastAt, .ref q_nextAt, .ref q_hasBend, .int v_justMany, .ref q_isMet, .ref q_queue, .ref q_sums, .ref q_kept, .ref q_isKept, .ref q_copies, .ref q_shelfMany, .ref q_shelfSort, .ref q_shelfHas])), (q_shelfMany, .inl (cI, 3, .inl v_shelfMany)), (q_shelfHas, .inl (cJ, 18, .inr (.inl v_shelfHas)))] R) (cc := cX9_seen) (nL := 3) (ret := some .long) (plainFor_of_name (by decide +kernel)) rfl (Nat.le_of_ble_eq_true rfl) ?_
  intro p e s m below meth c A ls hx hb hml hr hlk hts hown hK hA hP hD hS hl
  have hown : s.vm.findClass RX9 = some m.cls := hown
  have hl : lv_has ls 3 [(0, .ref q), (1, .int p1), (2, .int p2)] := hl
  generalize hQ : MQ below (QRl G A [(q, .inr (9, [.ref q_bends, .ref q_rootAt, .int v_stepAt, .ref q_pile, .ref q_lastAt, .ref q_nextAt, .ref q_hasBend, .int v_justMany, .ref q_isMet, .ref q_queue, .ref q_sums, .ref q_kept, .ref q_isKept, .ref q_copies, .ref q_shelfMany, .ref q_shelfSort, .ref q_shelfHas])), (q_shelfMany, .inl (cI, 3, .inl v_shelfMany)), (q_shelfHas, .inl (cJ, 18, .inr (.inl v_shelfHas)))] R) ([.ref q, .int p1, .int p2] : List Value).toArray s 0 0 A = QQ
  unfold pX9_seen at hf
  refine lv_iload_n hx hb dX9_seen_0 rfl (lv_at hl 1 rfl) ?_
  obtain ⟨r1, hc1, hf⟩ := ob_s hf
  refine bk_i (wc := []) (wc2 := []) (wr := [(q, .inr (9, [.ref q_bends, .ref q_rootAt, .int v_stepAt, .ref q_pile, .ref q_lastAt, .ref q_nextAt, .ref q_hasBend, .int v_justMany, .ref q_isMet, .ref q_queue, .ref q_sums, .ref q_kept, .ref q_isKept, .ref q_copies, .ref q_shelfMany, .ref q_shelfSort, .ref q_shelfHas])), (q_shelfMany, .inl (cI, 3, .inl v_shelfMany)), (q_shelfHas, .inl (cJ, 18, .inr (.inl v_shelfHas)))]) (ws2 := [(q, .inr (9, [.ref q_bends, .ref q_rootAt, .int v_stepAt, .ref q_pile, .ref q_lastAt, .ref q_nextAt, .ref q_hasBend, .int v_justMany, .ref q_isMet, .ref q_queue, .ref q_sums, .ref q_kept, .ref q_isKept, .ref q_copies, .ref q_shelfMany, .ref q_shelfSort, .ref q_shelfHas])), (q_shelfMany, .inl (cI, 3, .inl v_shelfMany)), (q_shelfHas, .inl (cJ, 18, .inr (.inl v_shelfHas)))]) (r := r1) (va_runS (As := [.int p1]) (rest := []) ⟨hx, hb, hml, hown, hts⟩ (kX9_isShelf (l := l) (G := G) (cI := cI) (cJ := cJ) (cZ := cZ) (cS := cS) (cG := cG) p1 _ hc1 _) (va_cwS 1 hts gX9_seen_X9_isShelf rfl rfl rfl (by decide +kernel) ⟨Nat.le_of_ble_eq_true rfl, Nat.le_of_ble_eq_true rfl⟩) (cut_S hK hP hD [] rfl rfl) rfl rfl hl.1 rfl (lv_room (Nat.le_of_ble_eq_true rfl)) dX9_seen_1 ⟨Nat.zero_le _, Nat.zero_le _⟩) hP hD hS hA [] [0, 1, 2] [0, 1, 2] rfl rfl rfl rfl rfl rfl (fun H locs hP hD hS => ?_)
  refine lv_if_eq (tgt := 30) hx hb dX9_seen_4 (by decide) (fun c2 => ?_) (fun c2 => ?_)
  · have hf := if_s hf c2
    refine lv_ldc2 (v := (-9223372036854775808)) hx hb hown (hts (.constantLong RX9 80 (-9223372036854775808)) (List.mem_of_getElem? (i := 2) rfl)) dX9_seen_30 ?_
    cases hf
    rw [← hQ]
    exact rt_l hx hb hr hlk hP hD hS rfl dX9_seen_33
  · have hf := if_n hf c2
    refine lv_aload_n hx hb dX9_seen_7 rfl (lv_at hl 0 rfl) ?_
    refine lv_iload_n hx hb dX9_seen_8 rfl (lv_at hl 1 rfl) ?_
    refine lv_iload_n hx hb dX9_seen_9 rfl (lv_at hl 2 rfl) ?_
    obtain ⟨r3, hc3, hf⟩ := ob_s hf
    refine bk_i (wc := [(q, .inr (9, [.ref q_bends, .ref q_rootAt, .int v_stepAt, .ref q_pile, .ref q_lastAt, .ref q_nextAt, .ref q_hasBend, .int v_justMany, .ref q_isMet, .ref q_queue, .ref q_sums, .ref q_kept, .ref q_isKept, .ref q_copies, .ref q_shelfMany, .ref q_shelfSort, .ref q_shelfHas])), (q_shelfMany, .inl (cI, 3, .inl v_shelfMany))]) (wc2 := [(q, .inr (9, [.ref q_bends, .ref q_rootAt, .int v_stepAt, .ref q_pile, .ref q_lastAt, .ref q_nextAt, .ref q_hasBend, .int v_justMany, .ref q_isMet, .ref q_queue, .ref q_sums, .ref q_kept, .ref q_isKept, .ref q_copies, .ref q_shelfMany, .ref q_shelfSort, .ref q_shelfHas])), (q_shelfMany, .inl (cI, 3, .inl v_shelfMany))]) (wr := [(q_shelfHas, .inl (cJ, 18, .inr (.inl v_shelfHas)))]) (ws2 := [(q, .inr (9, [.ref q_bends, .ref q_rootAt, .int v_stepAt, .ref q_pile, .ref q_lastAt, .ref q_nextAt, .ref q_hasBend, .int v_justMany, .ref q_isMet, .ref q_queue, .ref q_sums, .ref q_kept, .ref q_isKept, .ref q_copies, .ref q_shelfMany, .ref q_shelfSort, .ref q_shelfHas])), (q_shelfMany, .inl (cI, 3, .inl v_shelfMany)), (q_shelfHas, .inl (cJ, 18, .inr (.inl v_shelfHas)))]) (r := r3) (va_runV (As := [.int p1, .int p2]) (rest := []) ⟨hx, hb, hml, hown, hts⟩ (kX9_faultOf (l := l) (G := G) (cI := cI) (cJ := cJ) (cZ := cZ) (cS := cS) (cG := cG) q q_bends q_rootAt q_pile q_lastAt q_nextAt q_hasBend q_isMet q_queue q_sums q_kept q_isKept q_copies q_shelfMany q_shelfSort q_shelfHas v_stepAt v_justMany v_shelfMany p1 p2 _ hc3 _) (cwV 2 hts gX9_seen_X9_faultOf rfl rfl rfl (by decide +kernel) ⟨Nat.le_of_ble_eq_true rfl, Nat.le_of_ble_eq_true rfl⟩) (cut_V hK hP hD [0, 1] rfl rfl (ci := 9) (q0 := 0) rfl rfl) rfl rfl hl.1 rfl (lv_room (Nat.le_of_ble_eq_true rfl)) dX9_seen_10 ⟨Nat.zero_le _, Nat.zero_le _⟩) hP hD hS hA [0, 1] [2] [1, 2, 0] rfl rfl rfl rfl rfl rfl (fun H locs hP hD hS => ?_)
    refine lv_if_ne (tgt := 30) hx hb dX9_seen_13 (by decide) (fun c4 => ?_) (fun c4 => ?_)
    · have hf := if_n hf c4
      refine lv_ldc2 (v := (-9223372036854775808)) hx hb hown (hts (.constantLong RX9 80 (-9223372036854775808)) (List.mem_of_getElem? (i := 2) rfl)) dX9_seen_30 ?_
      cases hf
      rw [← hQ]
      exact rt_l hx hb hr hlk hP hD hS rfl dX9_seen_33
    · have hf := if_s hf c4
      refine lv_aload_n hx hb dX9_seen_16 rfl (lv_at hl 0 rfl) ?_
      refine va_get (D := G) (ci := 9) (v := .ref q_shelfHas) (C := RX9) (T := TX9) (N := 17) hx hb hts hiX9_seen_X9 hown hK.1 hP 0 rfl rfl 16 (by decide) (hts (.fieldLink RX9 54 "PackedBendsModel" "shelfHas" "[J") (List.mem_of_getElem? (i := 1) rfl)) (fun _ h9 => h9) rfl dX9_seen_17 ?_
      refine lv_bipush (v := 6) hx hb dX9_seen_20 (by decide) ?_
      refine lv_iload_n hx hb dX9_seen_22 rfl (lv_at hl 1 rfl) ?_
      refine lv_imul hx hb dX9_seen_23 ?_
      refine lv_iload_n hx hb dX9_seen_24 rfl (lv_at hl 2 rfl) ?_
      refine lv_iadd hx hb dX9_seen_25 ?_
      obtain ⟨z5, hf⟩ := ck_s hf
      refine va_lald hx hb hK.1 hP 2 1 rfl rfl (vp_in_iff.mpr z5) dX9_seen_26 ?_
      refine lv_goto (tgt := 33) hx hb dX9_seen_27 (by decide) ?_
      cases hf
      rw [← hQ]
      exact rt_l hx hb hr hlk hP hD hS rfl dX9_seen_33
def pX9_manyShelves_L4 (v_shelfMany : (Nat → Int32)) : Nat → Int32 → Int32 → (Int32 → Int32 → Option (Int32)) → Option (Int32)
  | 0, _, _, _ => none
  | n + 1, x1, x2, k => if (3 : Int32) ≤ x2 then k x1 x2 else ck (ix x2 3) (if (v_shelfMany x2.toNatClampNeg) = (-9 : Int32) then pX9_manyShelves_L4 v_shelfMany n (x1 + (0 : Int32)) (x2 + (1 : Int32)) k else pX9_manyShelves_L4 v_shelfMany n (x1 + (1 : Int32)) (x2 + (1 : Int32)) k)
def pX9_manyShelves (n : Nat) (v_shelfMany : (Nat → Int32)) : Option (Int32) := pX9_manyShelves_L4 v_shelfMany n (0 : Int32) (0 : Int32) (fun (y1_4 : Int32) (y2_4 : Int32) => some y1_4)
def rmX9_manyShelves : Room := { frames := 0, cells := 0, slots := 0, locals := 0 }
theorem hiX9_manyShelves_X9 : ∀ w ∈ u_ws RX9 TX9 17, w ∈ wsX9_manyShelves := fun _ h => List.mem_cons_of_mem _ (List.mem_append_right _ h)
set_option maxRecDepth 100000 in
set_option maxHeartbeats 4000000 in
theorem kX9_manyShelves {l : Launch} {G : va_G} {cI cJ cZ cS cG : ClassId} (n : Nat) (q q_bends q_rootAt q_pile q_lastAt q_nextAt q_hasBend q_isMet q_queue q_sums q_kept q_isKept q_copies q_shelfMany q_shelfSort q_shelfHas : Nat) (v_stepAt : Int32) (v_justMany : Int32) (v_shelfMany : (Nat → Int32)) (R : Int32) (hf : pX9_manyShelves n v_shelfMany = some R) : CTi l yX9_manyShelves wsX9_manyShelves rmX9_manyShelves G cI cJ cZ cS cG [.ref q] [(q, .inr (9, [.ref q_bends, .ref q_rootAt, .int v_stepAt, .ref q_pile, .ref q_lastAt, .ref q_nextAt, .ref q_hasBend, .int v_justMany, .ref q_isMet, .ref q_queue, .ref q_sums, .ref q_kept, .ref q_isKept, .ref q_copies, .ref q_shelfMany, .ref q_shelfSort, .ref q_shelfHas])), (q_shelfMany, .inl (cI, 3, .inl v_shelfMany))] [(q, .inr (9, [.ref q_bends, .ref q_rootAt, .int v_stepAt, .ref q_pile, .ref q_lastAt, .ref q_nextAt, .ref q_hasBend, .int v_justMany, .ref q_isMet, .ref q_queue, .ref q_sums, .ref q_kept, .ref q_isKept, .ref q_copies, .ref q_shelfMany, .ref q_shelfSort, .ref q_shelfHas])), (q_shelfMany, .inl (cI, 3, .inl v_shelfMany))] R := by
  refine Met.ofE (Qc := fun A => QRi G A [(q, .inr (9, [.ref q_bends, .ref q_rootAt, .int v_stepAt, .ref q_pile, .ref q_lastAt, .ref q_nextAt, .ref q_hasBend, .int v_justMany, .ref q_isMet, .ref q_queue, .ref q_sums, .ref q_kept, .ref q_isKept, .ref q_copies, .ref q_shelfMany, .ref q_shelfSort, .ref q_shelfHas])), (q_shelfMany, .inl (cI, 3, .inl v_shelfMany))] R) (cc := cX9_manyShelves) (nL := 3) (ret := some .int) (plainFor_of_name (by decide +kernel)) rfl (Nat.le_of_ble_eq_true rfl) ?_
  intro p e s m below meth c A ls hx hb hml hr hlk hts hown hK hA hP hD hS hl
  have hown : s.vm.findClass RX9 = some m.cls := hown
  have hl : lv_has ls 3 [(0, .ref q)] := hl
  generalize hQ : MQ below (QRi G A [(q, .inr (9, [.ref q_bends, .ref q_rootAt, .int v_stepAt, .ref q_pile, .ref q_lastAt, .ref q_nextAt, .ref q_hasBend, .int v_justMany, .ref q_isMet, .ref q_queue, .ref q_sums, .ref q_kept, .ref q_isKept, .ref q_copies, .ref q_shelfMany, .ref q_shelfSort, .ref q_shelfHas])), (q_shelfMany, .inl (cI, 3, .inl v_shelfMany))] R) ([.ref q] : List Value).toArray s 0 0 A = QQ
  unfold pX9_manyShelves at hf
  have hL4 : ∀ (k : Int32 → Int32 → Option (Int32)), (∀ (x1 : Int32) (x2 : Int32) (H : Heap) (locs : List Loc) (ls : Array Slot), k x1 x2 = some R → va_P G vwCl [(q, .inr (9, [.ref q_bends, .ref q_rootAt, .int v_stepAt, .ref q_pile, .ref q_lastAt, .ref q_nextAt, .ref q_hasBend, .int v_justMany, .ref q_isMet, .ref q_queue, .ref q_sums, .ref q_kept, .ref q_isKept, .ref q_copies, .ref q_shelfMany, .ref q_shelfSort, .ref q_shelfHas])), (q_shelfMany, .inl (cI, 3, .inl v_shelfMany))] H → va_D A [(q, .inr (9, [.ref q_bends, .ref q_rootAt, .int v_stepAt, .ref q_pile, .ref q_lastAt, .ref q_nextAt, .ref q_hasBend, .int v_justMany, .ref q_isMet, .ref q_queue, .ref q_sums, .ref q_kept, .ref q_isKept, .ref q_copies, .ref q_shelfMany, .ref q_shelfSort, .ref q_shelfHas])), (q_shelfMany, .inl (cI, 3, .inl v_shelfMany))] → va_S A s.heap H locs → lv_has ls 3 [(0, .ref q), (1, .int x1), (2, .int x2)] → W p l e rmX9_manyShelves s m ([.ref q] : List Value).toArray below meth c H locs 0 0 QQ (F0 m 34 ls [])) → ∀ (n : Nat) (x1 : Int32) (x2 : Int32) (H : Heap) (locs : List Loc) (ls : Array Slot), pX9_manyShelves_L4 v_shelfMany n x1 x2 k = some R → va_P G vwCl [(q, .inr (9, [.ref q_bends, .ref q_rootAt, .int v_stepAt, .ref q_pile, .ref q_lastAt, .ref q_nextAt, .ref q_hasBend, .int v_justMany, .ref q_isMet, .ref q_queue, .ref q_sums, .ref q_kept, .ref q_isKept, .ref q_copies, .ref q_shelfMany, .ref q_shelfSort, .ref q_shelfHas])), (q_shelfMany, .inl (cI, 3, .inl v_shelfMany))] H → va_D A [(q, .inr (9, [.ref q_bends, .ref q_rootAt, .int v_stepAt, .ref q_pile, .ref q_lastAt, .ref q_nextAt, .ref q_hasBend, .int v_justMany, .ref q_isMet, .ref q_queue, .ref q_sums, .ref q_kept, .ref q_isKept, .ref q_copies, .ref q_shelfMany, .ref q_shelfSort, .ref q_shelfHas])), (q_shelfMany, .inl (cI, 3, .inl v_shelfMany))] → va_S A s.heap H locs → lv_has ls 3 [(0, .ref q), (1, .int x1), (2, .int x2)] → W p l e rmX9_manyShelves s m ([.ref q] : List Value).toArray below meth c H locs 0 0 QQ (F0 m 4 ls []) := by
    intro  k hk n
    induction n with
    | zero =>
      intro x1 x2 H locs ls hf
      cases hf
    | succ n ih =>
      intro x1 x2 H locs ls hf hP hD hS hl
      unfold pX9_manyShelves_L4 at hf
      refine lv_iload_n hx hb dX9_manyShelves_4 rfl (lv_at hl 2 rfl) ?_
      refine lv_iconst (v := 3) hx hb dX9_manyShelves_5 (by decide) ?_
      refine lv_icmp_ge (tgt := 34) hx hb dX9_manyShelves_6 (by decide) (fun c1 => ?_) (fun c1 => ?_)
      · have hf := if_s hf c1
        exact hk x1 x2 _ _ _ hf hP hD hS (lv_sub hl [0, 1, 2] rfl)
      · have hf := if_n hf c1
        refine lv_iload_n hx hb dX9_manyShelves_9 rfl (lv_at hl 1 rfl) ?_
        refine lv_aload_n hx hb dX9_manyShelves_10 rfl (lv_at hl 0 rfl) ?_
        refine va_get (D := G) (ci := 9) (v := .ref q_shelfMany) (C := RX9) (T := TX9) (N := 17) hx hb hts hiX9_manyShelves_X9 hown hK.1 hP 0 rfl rfl 14 (by decide) (hts (.fieldLink RX9 48 "PackedBendsModel" "shelfMany" "[I") (List.mem_of_getElem? (i := 1) rfl)) (fun _ h9 => h9) rfl dX9_manyShelves_11 ?_
        refine lv_iload_n hx hb dX9_manyShelves_14 rfl (lv_at hl 2 rfl) ?_
        obtain ⟨z2, hf⟩ := ck_s hf
        refine va_iald hx hb hK.1 hP 1 0 rfl rfl (vp_in_iff.mpr z2) dX9_manyShelves_15 ?_
        refine lv_bipush (v := (-9)) hx hb dX9_manyShelves_16 (by decide) ?_
        refine lv_icmp_eq (tgt := 25) hx hb dX9_manyShelves_18 (by decide) (fun c3 => ?_) (fun c3 => ?_)
        · have hf := if_s hf c3
          refine lv_iconst (v := 0) hx hb dX9_manyShelves_25 (by decide) ?_
          refine lv_iadd hx hb dX9_manyShelves_26 ?_
          refine lv_istore_n (lv' := [(1, .int (x1 + (0 : Int32))), (0, .ref q), (2, .int x2)]) hx hb dX9_manyShelves_27 rfl hl (by decide) rfl (fun ls hl => ?_)
          refine lv_iinc (v := x2 + (1 : Int32)) (lv' := [(2, .int (x2 + (1 : Int32))), (1, .int (x1 + (0 : Int32))), (0, .ref q)]) hx hb dX9_manyShelves_28 hl (k := 2) rfl rfl (by decide) rfl (fun ls hl => ?_)
          refine lv_goto (tgt := 4) hx hb dX9_manyShelves_31 (by decide) ?_
          exact ih (x1 + (0 : Int32)) (x2 + (1 : Int32)) _ _ _ hf hP hD hS (lv_sub hl [2, 1, 0] rfl)
        · have hf := if_n hf c3
          refine lv_iconst (v := 1) hx hb dX9_manyShelves_21 (by decide) ?_
          refine lv_goto (tgt := 26) hx hb dX9_manyShelves_22 (by decide) ?_
          refine lv_iadd hx hb dX9_manyShelves_26 ?_
          refine lv_istore_n (lv' := [(1, .int (x1 + (1 : Int32))), (0, .ref q), (2, .int x2)]) hx hb dX9_manyShelves_27 rfl hl (by decide) rfl (fun ls hl => ?_)
          refine lv_iinc (v := x2 + (1 : Int32)) (lv' := [(2, .int (x2 + (1 : Int32))), (1, .int (x1 + (1 : Int32))), (0, .ref q)]) hx hb dX9_manyShelves_28 hl (k := 2) rfl rfl (by decide) rfl (fun ls hl => ?_)
          refine lv_goto (tgt := 4) hx hb dX9_manyShelves_31 (by decide) ?_
          exact ih (x1 + (1 : Int32)) (x2 + (1 : Int32)) _ _ _ hf hP hD hS (lv_sub hl [2, 1, 0] rfl)
  refine lv_iconst (v := 0) hx hb dX9_manyShelves_0 (by decide) ?_
  refine lv_istore_n (lv' := [(1, .int (0 : Int32)), (0, .ref q)]) hx hb dX9_manyShelves_1 rfl hl (by decide) rfl (fun ls hl => ?_)
  refine lv_iconst (v := 0) hx hb dX9_manyShelves_2 (by decide) ?_
  refine lv_istore_n (lv' := [(2, .int (0 : Int32)), (1, .int (0 : Int32)), (0, .ref q)]) hx hb dX9_manyShelves_3 rfl hl (by decide) rfl (fun ls hl => ?_)
  refine hL4  _ (fun y1_4 y2_4 H locs ls hf hP hD hS hl => ?_) n (0 : Int32) (0 : Int32) _ _ _ hf hP hD hS (lv_sub hl [2, 1, 0] rfl)
  have hP : va_P G vwCl [(q, .inr (9, [.ref q_bends, .ref q_rootAt, .int v_stepAt, .ref q_pile, .ref q_lastAt, .ref q_nextAt, .ref q_hasBend, .int v_justMany, .ref q_isMet, .ref q_queue, .ref q_sums, .ref q_kept, .ref q_isKept, .ref q_copies, .ref q_shelfMany, .ref q_shelfSort, .ref q_shelfHas])), (q_shelfMany, .inl (cI, 3, .inl v_shelfMany))] H := hP
  have hD : va_D A [(q, .inr (9, [.ref q_bends, .ref q_rootAt, .int v_stepAt, .ref q_pile, .ref q_lastAt, .ref q_nextAt, .ref q_hasBend, .int v_justMany, .ref q_isMet, .ref q_queue, .ref q_sums, .ref q_kept, .ref q_isKept, .ref q_copies, .ref q_shelfMany, .ref q_shelfSort, .ref q_shelfHas])), (q_shelfMany, .inl (cI, 3, .inl v_shelfMany))] := hD
  refine lv_iload_n hx hb dX9_manyShelves_34 rfl (lv_at hl 1 rfl) ?_
  cases hf
  rw [← hQ]
  exact rt_i hx hb hr hlk hP hD hS rfl dX9_manyShelves_35
def pX9_manyLie_L11 (x2 : Int32) (v_shelfMany : (Nat → Int32)) (v_shelfHas : (Nat → Int64)) : Nat → Int32 → Int32 → (Int32 → Int32 → Option (Int32)) → Option (Int32)
  | 0, _, _, _ => none
  | n + 1, x1, x3, k => ck (ix x2 3) (if (v_shelfMany x2.toNatClampNeg) ≤ x3 then k x1 x3 else ck (ix (((6 : Int32) * x2) + x3) 18) (if (v_shelfHas (((6 : Int32) * x2) + x3).toNatClampNeg) = (-9223372036854775808 : Int64) then pX9_manyLie_L11 x2 v_shelfMany v_shelfHas n (x1 + (0 : Int32)) (x3 + (1 : Int32)) k else pX9_manyLie_L11 x2 v_shelfMany v_shelfHas n (x1 + (1 : Int32)) (x3 + (1 : Int32)) k))
def pX9_manyLie_L4 (v_shelfMany : (Nat → Int32)) (v_shelfHas : (Nat → Int64)) : Nat → Int32 → Int32 → (Int32 → Int32 → Option (Int32)) → Option (Int32)
  | 0, _, _, _ => none
  | n + 1, x1, x2, k => if (3 : Int32) ≤ x2 then k x1 x2 else pX9_manyLie_L11 x2 v_shelfMany v_shelfHas n x1 (0 : Int32) (fun (y1_6 : Int32) (y3_6 : Int32) => pX9_manyLie_L4 v_shelfMany v_shelfHas n y1_6 (x2 + (1 : Int32)) k)
def pX9_manyLie (n : Nat) (v_shelfMany : (Nat → Int32)) (v_shelfHas : (Nat → Int64)) : Option (Int32) := pX9_manyLie_L4 v_shelfMany v_shelfHas n (0 : Int32) (0 : Int32) (fun (y1_7 : Int32) (y2_7 : Int32) => some y1_7)
def rmX9_manyLie : Room := { frames := 0, cells := 0, slots := 0, locals := 0 }
theorem hiX9_manyLie_X9 : ∀ w ∈ u_ws RX9 TX9 17, w ∈ wsX9_manyLie := fun _ h => List.mem_cons_of_mem _ (List.mem_append_right _ h)
set_option maxRecDepth 100000 in
set_option maxHeartbeats 4000000 in
theorem kX9_manyLie {l : Launch} {G : va_G} {cI cJ cZ cS cG : ClassId} (n : Nat) (q q_bends q_rootAt q_pile q_lastAt q_nextAt q_hasBend q_isMet q_queue q_sums q_kept q_isKept q_copies q_shelfMany q_shelfSort q_shelfHas : Nat) (v_stepAt : Int32) (v_justMany : Int32) (v_shelfMany : (Nat → Int32)) (v_shelfHas : (Nat → Int64)) (R : Int32) (hf : pX9_manyLie n v_shelfMany v_shelfHas = some R) : CTi l yX9_manyLie wsX9_manyLie rmX9_manyLie G cI cJ cZ cS cG [.ref q] [(q, .inr (9, [.ref q_bends, .ref q_rootAt, .int v_stepAt, .ref q_pile, .ref q_lastAt, .ref q_nextAt, .ref q_hasBend, .int v_justMany, .ref q_isMet, .ref q_queue, .ref q_sums, .ref q_kept, .ref q_isKept, .ref q_copies, .ref q_shelfMany, .ref q_shelfSort, .ref q_shelfHas])), (q_shelfMany, .inl (cI, 3, .inl v_shelfMany)), (q_shelfHas, .inl (cJ, 18, .inr (.inl v_shelfHas)))] [(q, .inr (9, [.ref q_bends, .ref q_rootAt, .int v_stepAt, .ref q_pile, .ref q_lastAt, .ref q_nextAt, .ref q_hasBend, .int v_justMany, .ref q_isMet, .ref q_queue, .ref q_sums, .ref q_kept, .ref q_isKept, .ref q_copies, .ref q_shelfMany, .ref q_shelfSort, .ref q_shelfHas])), (q_shelfMany, .inl (cI, 3, .inl v_shelfMany)), (q_shelfHas, .inl (cJ, 18, .inr (.inl v_shelfHas)))] R := by
  refine Met.ofE (Qc := fun A => QRi G A [(q, .inr (9, [.ref q_bends, .ref q_rootAt, .int v_stepAt, .ref q_pile, .ref q_lastAt, .ref q_nextAt, .ref q_hasBend, .int v_justMany, .ref q_isMet, .ref q_queue, .ref q_sums, .ref q_kept, .ref q_isKept, .ref q_copies, .ref q_shelfMany, .ref q_shelfSort, .ref q_shelfHas])), (q_shelfMany, .inl (cI, 3, .inl v_shelfMany)), (q_shelfHas, .inl (cJ, 18, .inr (.inl v_shelfHas)))] R) (cc := cX9_manyLie) (nL := 4) (ret := some .int) (plainFor_of_name (by decide +kernel)) rfl (Nat.le_of_ble_eq_true rfl) ?_
  intro p e s m below meth c A ls hx hb hml hr hlk hts hown hK hA hP hD hS hl
  have hown : s.vm.findClass RX9 = some m.cls := hown
  have hl : lv_has ls 4 [(0, .ref q)] := hl
  generalize hQ : MQ below (QRi G A [(q, .inr (9, [.ref q_bends, .ref q_rootAt, .int v_stepAt, .ref q_pile, .ref q_lastAt, .ref q_nextAt, .ref q_hasBend, .int v_justMany, .ref q_isMet, .ref q_queue, .ref q_sums, .ref q_kept, .ref q_isKept, .ref q_copies, .ref q_shelfMany, .ref q_shelfSort, .ref q_shelfHas])), (q_shelfMany, .inl (cI, 3, .inl v_shelfMany)), (q_shelfHas, .inl (cJ, 18, .inr (.inl v_shelfHas)))] R) ([.ref q] : List Value).toArray s 0 0 A = QQ
  unfold pX9_manyLie at hf
  have hL11 : ∀ (x2 : Int32) (k : Int32 → Int32 → Option (Int32)), (∀ (x1 : Int32) (x3 : Int32) (H : Heap) (locs : List Loc) (ls : Array Slot), k x1 x3 = some R → va_P G vwCl [(q, .inr (9, [.ref q_bends, .ref q_rootAt, .int v_stepAt, .ref q_pile, .ref q_lastAt, .ref q_nextAt, .ref q_hasBend, .int v_justMany, .ref q_isMet, .ref q_queue, .ref q_sums, .ref q_kept, .ref q_isKept, .ref q_copies, .ref q_shelfMany, .ref q_shelfSort, .ref q_shelfHas])), (q_shelfMany, .inl (cI, 3, .inl v_shelfMany)), (q_shelfHas, .inl (cJ, 18, .inr (.inl v_shelfHas)))] H → va_D A [(q, .inr (9, [.ref q_bends, .ref q_rootAt, .int v_stepAt, .ref q_pile, .ref q_lastAt, .ref q_nextAt, .ref q_hasBend, .int v_justMany, .ref q_isMet, .ref q_queue, .ref q_sums, .ref q_kept, .ref q_isKept, .ref q_copies, .ref q_shelfMany, .ref q_shelfSort, .ref q_shelfHas])), (q_shelfMany, .inl (cI, 3, .inl v_shelfMany)), (q_shelfHas, .inl (cJ, 18, .inr (.inl v_shelfHas)))] → va_S A s.heap H locs → lv_has ls 4 [(0, .ref q), (1, .int x1), (2, .int x2), (3, .int x3)] → W p l e rmX9_manyLie s m ([.ref q] : List Value).toArray below meth c H locs 0 0 QQ (F0 m 53 ls [])) → ∀ (n : Nat) (x1 : Int32) (x3 : Int32) (H : Heap) (locs : List Loc) (ls : Array Slot), pX9_manyLie_L11 x2 v_shelfMany v_shelfHas n x1 x3 k = some R → va_P G vwCl [(q, .inr (9, [.ref q_bends, .ref q_rootAt, .int v_stepAt, .ref q_pile, .ref q_lastAt, .ref q_nextAt, .ref q_hasBend, .int v_justMany, .ref q_isMet, .ref q_queue, .ref q_sums, .ref q_kept, .ref q_isKept, .ref q_copies, .ref q_shelfMany, .ref q_shelfSort, .ref q_shelfHas])), (q_shelfMany, .inl (cI, 3, .inl v_shelfMany)), (q_shelfHas, .inl (cJ, 18, .inr (.inl v_shelfHas)))] H → va_D A [(q, .inr (9, [.ref q_bends, .ref q_rootAt, .int v_stepAt, .ref q_pile, .ref q_lastAt, .ref q_nextAt, .ref q_hasBend, .int v_justMany, .ref q_isMet, .ref q_queue, .ref q_sums, .ref q_kept, .ref q_isKept, .ref q_copies, .ref q_shelfMany, .ref q_shelfSort, .ref q_shelfHas])), (q_shelfMany, .inl (cI, 3, .inl v_shelfMany)), (q_shelfHas, .inl (cJ, 18, .inr (.inl v_shelfHas)))] → va_S A s.heap H locs → lv_has ls 4 [(0, .ref q), (1, .int x1), (2, .int x2), (3, .int x3)] → W p l e rmX9_manyLie s m ([.ref q] : List Value).toArray below meth c H locs 0 0 QQ (F0 m 11 ls []) := by
    intro x2 k hk n
    induction n with
    | zero =>
      intro x1 x3 H locs ls hf
      cases hf
    | succ n ih =>
      intro x1 x3 H locs ls hf hP hD hS hl
      unfold pX9_manyLie_L11 at hf
      refine lv_iload_n hx hb dX9_manyLie_11 rfl (lv_at hl 3 rfl) ?_
      refine lv_aload_n hx hb dX9_manyLie_12 rfl (lv_at hl 0 rfl) ?_
      refine va_get (D := G) (ci := 9) (v := .ref q_shelfMany) (C := RX9) (T := TX9) (N := 17) hx hb hts hiX9_manyLie_X9 hown hK.1 hP 0 rfl rfl 14 (by decide) (hts (.fieldLink RX9 48 "PackedBendsModel" "shelfMany" "[I") (List.mem_of_getElem? (i := 1) rfl)) (fun _ h9 => h9) rfl dX9_manyLie_13 ?_
      refine lv_iload_n hx hb dX9_manyLie_16 rfl (lv_at hl 2 rfl) ?_
      obtain ⟨z2, hf⟩ := ck_s hf
      refine va_iald hx hb hK.1 hP 1 0 rfl rfl (vp_in_iff.mpr z2) dX9_manyLie_17 ?_
      refine lv_icmp_ge (tgt := 53) hx hb dX9_manyLie_18 (by decide) (fun c3 => ?_) (fun c3 => ?_)
      · have hf := if_s hf c3
        exact hk x1 x3 _ _ _ hf hP hD hS (lv_sub hl [0, 1, 2, 3] rfl)
      · have hf := if_n hf c3
        refine lv_iload_n hx hb dX9_manyLie_21 rfl (lv_at hl 1 rfl) ?_
        refine lv_aload_n hx hb dX9_manyLie_22 rfl (lv_at hl 0 rfl) ?_
        refine va_get (D := G) (ci := 9) (v := .ref q_shelfHas) (C := RX9) (T := TX9) (N := 17) hx hb hts hiX9_manyLie_X9 hown hK.1 hP 0 rfl rfl 16 (by decide) (hts (.fieldLink RX9 54 "PackedBendsModel" "shelfHas" "[J") (List.mem_of_getElem? (i := 2) rfl)) (fun _ h9 => h9) rfl dX9_manyLie_23 ?_
        refine lv_bipush (v := 6) hx hb dX9_manyLie_26 (by decide) ?_
        refine lv_iload_n hx hb dX9_manyLie_28 rfl (lv_at hl 2 rfl) ?_
        refine lv_imul hx hb dX9_manyLie_29 ?_
        refine lv_iload_n hx hb dX9_manyLie_30 rfl (lv_at hl 3 rfl) ?_
        refine lv_iadd hx hb dX9_manyLie_31 ?_
        obtain ⟨z4, hf⟩ := ck_s hf
        refine va_lald hx hb hK.1 hP 2 1 rfl rfl (vp_in_iff.mpr z4) dX9_manyLie_32 ?_
        refine lv_ldc2 (v := (-9223372036854775808)) hx hb hown (hts (.constantLong RX9 80 (-9223372036854775808)) (List.mem_of_getElem? (i := 3) rfl)) dX9_manyLie_33 ?_
        refine lc_eq (tgt := 44) hx hb dX9_manyLie_36 dX9_manyLie_37 (by decide) (fun c5 => ?_) (fun c5 => ?_)
        · have hf := if_s hf c5
          refine lv_iconst (v := 0) hx hb dX9_manyLie_44 (by decide) ?_
          refine lv_iadd hx hb dX9_manyLie_45 ?_
          refine lv_istore_n (lv' := [(1, .int (x1 + (0 : Int32))), (0, .ref q), (2, .int x2), (3, .int x3)]) hx hb dX9_manyLie_46 rfl hl (by decide) rfl (fun ls hl => ?_)
          refine lv_iinc (v := x3 + (1 : Int32)) (lv' := [(3, .int (x3 + (1 : Int32))), (1, .int (x1 + (0 : Int32))), (0, .ref q), (2, .int x2)]) hx hb dX9_manyLie_47 hl (k := 3) rfl rfl (by decide) rfl (fun ls hl => ?_)
          refine lv_goto (tgt := 11) hx hb dX9_manyLie_50 (by decide) ?_
          exact ih (x1 + (0 : Int32)) (x3 + (1 : Int32)) _ _ _ hf hP hD hS (lv_sub hl [2, 1, 3, 0] rfl)
        · have hf := if_n hf c5
          refine lv_iconst (v := 1) hx hb dX9_manyLie_40 (by decide) ?_
          refine lv_goto (tgt := 45) hx hb dX9_manyLie_41 (by decide) ?_
          refine lv_iadd hx hb dX9_manyLie_45 ?_
          refine lv_istore_n (lv' := [(1, .int (x1 + (1 : Int32))), (0, .ref q), (2, .int x2), (3, .int x3)]) hx hb dX9_manyLie_46 rfl hl (by decide) rfl (fun ls hl => ?_)
          refine lv_iinc (v := x3 + (1 : Int32)) (lv' := [(3, .int (x3 + (1 : Int32))), (1, .int (x1 + (1 : Int32))), (0, .ref q), (2, .int x2)]) hx hb dX9_manyLie_47 hl (k := 3) rfl rfl (by decide) rfl (fun ls hl => ?_)
          refine lv_goto (tgt := 11) hx hb dX9_manyLie_50 (by decide) ?_
          exact ih (x1 + (1 : Int32)) (x3 + (1 : Int32)) _ _ _ hf hP hD hS (lv_sub hl [2, 1, 3, 0] rfl)
  have hL4 : ∀ (k : Int32 → Int32 → Option (Int32)), (∀ (x1 : Int32) (x2 : Int32) (H : Heap) (locs : List Loc) (ls : Array Slot), k x1 x2 = some R → va_P G vwCl [(q, .inr (9, [.ref q_bends, .ref q_rootAt, .int v_stepAt, .ref q_pile, .ref q_lastAt, .ref q_nextAt, .ref q_hasBend, .int v_justMany, .ref q_isMet, .ref q_queue, .ref q_sums, .ref q_kept, .ref q_isKept, .ref q_copies, .ref q_shelfMany, .ref q_shelfSort, .ref q_shelfHas])), (q_shelfMany, .inl (cI, 3, .inl v_shelfMany)), (q_shelfHas, .inl (cJ, 18, .inr (.inl v_shelfHas)))] H → va_D A [(q, .inr (9, [.ref q_bends, .ref q_rootAt, .int v_stepAt, .ref q_pile, .ref q_lastAt, .ref q_nextAt, .ref q_hasBend, .int v_justMany, .ref q_isMet, .ref q_queue, .ref q_sums, .ref q_kept, .ref q_isKept, .ref q_copies, .ref q_shelfMany, .ref q_shelfSort, .ref q_shelfHas])), (q_shelfMany, .inl (cI, 3, .inl v_shelfMany)), (q_shelfHas, .inl (cJ, 18, .inr (.inl v_shelfHas)))] → va_S A s.heap H locs → lv_has ls 4 [(0, .ref q), (1, .int x1), (2, .int x2)] → W p l e rmX9_manyLie s m ([.ref q] : List Value).toArray below meth c H locs 0 0 QQ (F0 m 59 ls [])) → ∀ (n : Nat) (x1 : Int32) (x2 : Int32) (H : Heap) (locs : List Loc) (ls : Array Slot), pX9_manyLie_L4 v_shelfMany v_shelfHas n x1 x2 k = some R → va_P G vwCl [(q, .inr (9, [.ref q_bends, .ref q_rootAt, .int v_stepAt, .ref q_pile, .ref q_lastAt, .ref q_nextAt, .ref q_hasBend, .int v_justMany, .ref q_isMet, .ref q_queue, .ref q_sums, .ref q_kept, .ref q_isKept, .ref q_copies, .ref q_shelfMany, .ref q_shelfSort, .ref q_shelfHas])), (q_shelfMany, .inl (cI, 3, .inl v_shelfMany)), (q_shelfHas, .inl (cJ, 18, .inr (.inl v_shelfHas)))] H → va_D A [(q, .inr (9, [.ref q_bends, .ref q_rootAt, .int v_stepAt, .ref q_pile, .ref q_lastAt, .ref q_nextAt, .ref q_hasBend, .int v_justMany, .ref q_isMet, .ref q_queue, .ref q_sums, .ref q_kept, .ref q_isKept, .ref q_copies, .ref q_shelfMany, .ref q_shelfSort, .ref q_shelfHas])), (q_shelfMany, .inl (cI, 3, .inl v_shelfMany)), (q_shelfHas, .inl (cJ, 18, .inr (.inl v_shelfHas)))] → va_S A s.heap H locs → lv_has ls 4 [(0, .ref q), (1, .int x1), (2, .int x2)] → W p l e rmX9_manyLie s m ([.ref q] : List Value).toArray below meth c H locs 0 0 QQ (F0 m 4 ls []) := by
    intro  k hk n
    induction n with
    | zero =>
      intro x1 x2 H locs ls hf
      cases hf
    | succ n ih =>
      intro x1 x2 H locs ls hf hP hD hS hl
      unfold pX9_manyLie_L4 at hf
      refine lv_iload_n hx hb dX9_manyLie_4 rfl (lv_at hl 2 rfl) ?_
      refine lv_iconst (v := 3) hx hb dX9_manyLie_5 (by decide) ?_
      refine lv_icmp_ge (tgt := 59) hx hb dX9_manyLie_6 (by decide) (fun c1 => ?_) (fun c1 => ?_)
      · have hf := if_s hf c1
        exact hk x1 x2 _ _ _ hf hP hD hS (lv_sub hl [0, 1, 2] rfl)
      · have hf := if_n hf c1
        refine lv_iconst (v := 0) hx hb dX9_manyLie_9 (by decide) ?_
        refine lv_istore_n (lv' := [(3, .int (0 : Int32)), (0, .ref q), (1, .int x1), (2, .int x2)]) hx hb dX9_manyLie_10 rfl hl (by decide) rfl (fun ls hl => ?_)
        refine hL11 x2 _ (fun y1_6 y3_6 H locs ls hf hP hD hS hl => ?_) n x1 (0 : Int32) _ _ _ hf hP hD hS (lv_sub hl [1, 2, 3, 0] rfl)
        have hP : va_P G vwCl [(q, .inr (9, [.ref q_bends, .ref q_rootAt, .int v_stepAt, .ref q_pile, .ref q_lastAt, .ref q_nextAt, .ref q_hasBend, .int v_justMany, .ref q_isMet, .ref q_queue, .ref q_sums, .ref q_kept, .ref q_isKept, .ref q_copies, .ref q_shelfMany, .ref q_shelfSort, .ref q_shelfHas])), (q_shelfMany, .inl (cI, 3, .inl v_shelfMany)), (q_shelfHas, .inl (cJ, 18, .inr (.inl v_shelfHas)))] H := hP
        have hD : va_D A [(q, .inr (9, [.ref q_bends, .ref q_rootAt, .int v_stepAt, .ref q_pile, .ref q_lastAt, .ref q_nextAt, .ref q_hasBend, .int v_justMany, .ref q_isMet, .ref q_queue, .ref q_sums, .ref q_kept, .ref q_isKept, .ref q_copies, .ref q_shelfMany, .ref q_shelfSort, .ref q_shelfHas])), (q_shelfMany, .inl (cI, 3, .inl v_shelfMany)), (q_shelfHas, .inl (cJ, 18, .inr (.inl v_shelfHas)))] := hD
        refine lv_iinc (v := x2 + (1 : Int32)) (lv' := [(2, .int (x2 + (1 : Int32))), (0, .ref q), (1, .int y1_6), (3, .int y3_6)]) hx hb dX9_manyLie_53 hl (k := 2) rfl rfl (by decide) rfl (fun ls hl => ?_)
        refine lv_goto (tgt := 4) hx hb dX9_manyLie_56 (by decide) ?_
        exact ih y1_6 (x2 + (1 : Int32)) _ _ _ hf hP hD hS (lv_sub hl [1, 2, 0] rfl)
  refine lv_iconst (v := 0) hx hb dX9_manyLie_0 (by decide) ?_
  refine lv_istore_n (lv' := [(1, .int (0 : Int32)), (0, .ref q)]) hx hb dX9_manyLie_1 rfl hl (by decide) rfl (fun ls hl => ?_)
  refine lv_iconst (v := 0) hx hb dX9_manyLie_2 (by decide) ?_
  refine lv_istore_n (lv' := [(2, .int (0 : Int32)), (1, .int (0 : Int32)), (0, .ref q)]) hx hb dX9_manyLie_3 rfl hl (by decide) rfl (fun ls hl => ?_)
  refine hL4  _ (fun y1_7 y2_7 H locs ls hf hP hD hS hl => ?_) n (0 : Int32) (0 : Int32) _ _ _ hf hP hD hS (lv_sub hl [2, 1, 0] rfl)
  have hP : va_P G vwCl [(q, .inr (9, [.ref q_bends, .ref q_rootAt, .int v_stepAt, .ref q_pile, .ref q_lastAt, .ref q_nextAt, .ref q_hasBend, .int v_justMany, .ref q_isMet, .ref q_queue, .ref q_sums, .ref q_kept, .ref q_isKept, .ref q_copies, .ref q_shelfMany, .ref q_shelfSort, .ref q_shelfHas])), (q_shelfMany, .inl (cI, 3, .inl v_shelfMany)), (q_shelfHas, .inl (cJ, 18, .inr (.inl v_shelfHas)))] H := hP
  have hD : va_D A [(q, .inr (9, [.ref q_bends, .ref q_rootAt, .int v_stepAt, .ref q_pile, .ref q_lastAt, .ref q_nextAt, .ref q_hasBend, .int v_justMany, .ref q_isMet, .ref q_queue, .ref q_sums, .ref q_kept, .ref q_isKept, .ref q_copies, .ref q_shelfMany, .ref q_shelfSort, .ref q_shelfHas])), (q_shelfMany, .inl (cI, 3, .inl v_shelfMany)), (q_shelfHas, .inl (cJ, 18, .inr (.inl v_shelfHas)))] := hD
  refine lv_iload_n hx hb dX9_manyLie_59 rfl (lv_at hl 1 rfl) ?_
  cases hf
  rw [← hQ]
  exact rt_i hx hb hr hlk hP hD hS rfl dX9_manyLie_60
def pX9_many (n : Nat) (v_stepAt : Int32) (v_bends : (Nat → Int64)) (v_rootAt : (Nat → Int64)) (v_isKept : (Nat → Int32)) (v_shelfMany : (Nat → Int32)) (v_shelfHas : (Nat → Int64)) (p1 : Int32) : Option (Int32 × Int32 × (Nat → Int64)) := if p1 = 0 then Option.bind (pX9_manyShelves n v_shelfMany) (fun r2 => some (r2, v_stepAt, v_rootAt)) else if p1 = 1 then if (v_isKept (0 : Int32).toNatClampNeg) = 0 then if (v_isKept (1 : Int32).toNatClampNeg) = 0 then if (v_isKept (2 : Int32).toNatClampNeg) = 0 then some (((0 : Int32) + (0 : Int32)) + (0 : Int32), v_stepAt, v_rootAt) else some (((0 : Int32) + (0 : Int32)) + (1 : Int32), v_stepAt, v_rootAt) else if (v_isKept (2 : Int32).toNatClampNeg) = 0 then some (((0 : Int32) + (1 : Int32)) + (0 : Int32), v_stepAt, v_rootAt) else some (((0 : Int32) + (1 : Int32)) + (1 : Int32), v_stepAt, v_rootAt) else if (v_isKept (1 : Int32).toNatClampNeg) = 0 then if (v_isKept (2 : Int32).toNatClampNeg) = 0 then some (((1 : Int32) + (0 : Int32)) + (0 : Int32), v_stepAt, v_rootAt) else some (((1 : Int32) + (0 : Int32)) + (1 : Int32), v_stepAt, v_rootAt) else if (v_isKept (2 : Int32).toNatClampNeg) = 0 then some (((1 : Int32) + (1 : Int32)) + (0 : Int32), v_stepAt, v_rootAt) else some (((1 : Int32) + (1 : Int32)) + (1 : Int32), v_stepAt, v_rootAt) else if p1 = 2 then Option.bind (pX9_manyLie n v_shelfMany v_shelfHas) (fun r10 => some (r10, v_stepAt, v_rootAt)) else if p1 = 3 then Option.bind (pX9_isBound n v_bends v_rootAt) (fun r11 => if r11.1 = 0 then some ((0 : Int32), r11.2.1, r11.2.2) else some ((1 : Int32), r11.2.1, r11.2.2)) else some ((-2 : Int32), v_stepAt, v_rootAt)
def rmX9_many : Room := { frames := 3, cells := 0, slots := 0, locals := 69 }
theorem hiX9_many_X9 : ∀ w ∈ u_ws RX9 TX9 17, w ∈ wsX9_many := fun _ h => List.mem_cons_of_mem _ (List.mem_append_right _ h)
set_option maxRecDepth 100000 in
set_option maxHeartbeats 4000000 in
theorem kX9_many {l : Launch} {G : va_G} {cI cJ cZ cS cG : ClassId} (n : Nat) (q q_bends q_rootAt q_pile q_lastAt q_nextAt q_hasBend q_isMet q_queue q_sums q_kept q_isKept q_copies q_shelfMany q_shelfSort q_shelfHas : Nat) (v_stepAt : Int32) (v_justMany : Int32) (v_bends : (Nat → Int64)) (v_rootAt : (Nat → Int64)) (v_isKept : (Nat → Int32)) (v_shelfMany : (Nat → Int32)) (v_shelfHas : (Nat → Int64)) (p1 : Int32) (R : Int32 × Int32 × (Nat → Int64)) (hf : pX9_many n v_stepAt v_bends v_rootAt v_isKept v_shelfMany v_shelfHas p1 = some R) : CTi l yX9_many wsX9_many rmX9_many G cI cJ cZ cS cG [.ref q, .int p1] [(q, .inr (9, [.ref q_bends, .ref q_rootAt, .int v_stepAt, .ref q_pile, .ref q_lastAt, .ref q_nextAt, .ref q_hasBend, .int v_justMany, .ref q_isMet, .ref q_queue, .ref q_sums, .ref q_kept, .ref q_isKept, .ref q_copies, .ref q_shelfMany, .ref q_shelfSort, .ref q_shelfHas])), (q_bends, .inl (cJ, 4, .inr (.inl v_bends))), (q_rootAt, .inl (cJ, 4, .inr (.inl v_rootAt))), (q_isKept, .inl (cZ, 3, .inl v_isKept)), (q_shelfMany, .inl (cI, 3, .inl v_shelfMany)), (q_shelfHas, .inl (cJ, 18, .inr (.inl v_shelfHas)))] [(q, .inr (9, [.ref q_bends, .ref q_rootAt, .int R.2.1, .ref q_pile, .ref q_lastAt, .ref q_nextAt, .ref q_hasBend, .int v_justMany, .ref q_isMet, .ref q_queue, .ref q_sums, .ref q_kept, .ref q_isKept, .ref q_copies, .ref q_shelfMany, .ref q_shelfSort, .ref q_shelfHas])), (q_bends, .inl (cJ, 4, .inr (.inl v_bends))), (q_rootAt, .inl (cJ, 4, .inr (.inl R.2.2))), (q_isKept, .inl (cZ, 3, .inl v_isKept)), (q_shelfMany, .inl (cI, 3, .inl v_shelfMany)), (q_shelfHas, .inl (cJ, 18, .inr (.inl v_shelfHas)))] R.1 := by
  refine Met.ofE (Qc := fun A => QRi G A [(q, .inr (9, [.ref q_bends, .ref q_rootAt, .int R.2.1, .ref q_pile, .ref q_lastAt, .ref q_nextAt, .ref q_hasBend, .int v_justMany, .ref q_isMet, .ref q_queue, .ref q_sums, .ref q_kept, .ref q_isKept, .ref q_copies, .ref q_shelfMany, .ref q_shelfSort, .ref q_shelfHas])), (q_bends, .inl (cJ, 4, .inr (.inl v_bends))), (q_rootAt, .inl (cJ, 4, .inr (.inl R.2.2))), (q_isKept, .inl (cZ, 3, .inl v_isKept)), (q_shelfMany, .inl (cI, 3, .inl v_shelfMany)), (q_shelfHas, .inl (cJ, 18, .inr (.inl v_shelfHas)))] R.1) (cc := cX9_many) (nL := 2) (ret := some .int) (plainFor_of_name (by decide +kernel)) rfl (Nat.le_of_ble_eq_true rfl) ?_
  intro p e s m below meth c A ls hx hb hml hr hlk hts hown hK hA hP hD hS hl
  have hown : s.vm.findClass RX9 = some m.cls := hown
  have hl : lv_has ls 2 [(0, .ref q), (1, .int p1)] := hl
  generalize hQ : MQ below (QRi G A [(q, .inr (9, [.ref q_bends, .ref q_rootAt, .int R.2.1, .ref q_pile, .ref q_lastAt, .ref q_nextAt, .ref q_hasBend, .int v_justMany, .ref q_isMet, .ref q_queue, .ref q_sums, .ref q_kept, .ref q_isKept, .ref q_copies, .ref q_shelfMany, .ref q_shelfSort, .ref q_shelfHas])), (q_bends, .inl (cJ, 4, .inr (.inl v_bends))), (q_rootAt, .inl (cJ, 4, .inr (.inl R.2.2))), (q_isKept, .inl (cZ, 3, .inl v_isKept)), (q_shelfMany, .inl (cI, 3, .inl v_shelfMany)), (q_shelfHas, .inl (cJ, 18, .inr (.inl v_shelfHas)))] R.1) ([.ref q, .int p1] : List Value).toArray s 0 0 A = QQ
  unfold pX9_many at hf
  refine lv_iload_n hx hb dX9_many_0 rfl (lv_at hl 1 rfl) ?_
  by_cases c1_0 : p1 = 0
  · have hf := if_s hf c1_0
    refine lv_tableIn (off := 31) (tgt := 32) hx hb dX9_many_1 (by rw [c1_0]; decide) (by rw [c1_0]; decide) (by rw [c1_0]; rfl) (by decide) ?_
    refine lv_aload_n hx hb dX9_many_32 rfl (lv_at hl 0 rfl) ?_
    obtain ⟨r2, hc2, hf⟩ := ob_s hf
    refine bk_i (wc := [(q, .inr (9, [.ref q_bends, .ref q_rootAt, .int v_stepAt, .ref q_pile, .ref q_lastAt, .ref q_nextAt, .ref q_hasBend, .int v_justMany, .ref q_isMet, .ref q_queue, .ref q_sums, .ref q_kept, .ref q_isKept, .ref q_copies, .ref q_shelfMany, .ref q_shelfSort, .ref q_shelfHas])), (q_shelfMany, .inl (cI, 3, .inl v_shelfMany))]) (wc2 := [(q, .inr (9, [.ref q_bends, .ref q_rootAt, .int v_stepAt, .ref q_pile, .ref q_lastAt, .ref q_nextAt, .ref q_hasBend, .int v_justMany, .ref q_isMet, .ref q_queue, .ref q_sums, .ref q_kept, .ref q_isKept, .ref q_copies, .ref q_shelfMany, .ref q_shelfSort, .ref q_shelfHas])), (q_shelfMany, .inl (cI, 3, .inl v_shelfMany))]) (wr := [(q_bends, .inl (cJ, 4, .inr (.inl v_bends))), (q_rootAt, .inl (cJ, 4, .inr (.inl v_rootAt))), (q_isKept, .inl (cZ, 3, .inl v_isKept)), (q_shelfHas, .inl (cJ, 18, .inr (.inl v_shelfHas)))]) (ws2 := [(q, .inr (9, [.ref q_bends, .ref q_rootAt, .int v_stepAt, .ref q_pile, .ref q_lastAt, .ref q_nextAt, .ref q_hasBend, .int v_justMany, .ref q_isMet, .ref q_queue, .ref q_sums, .ref q_kept, .ref q_isKept, .ref q_copies, .ref q_shelfMany, .ref q_shelfSort, .ref q_shelfHas])), (q_bends, .inl (cJ, 4, .inr (.inl v_bends))), (q_rootAt, .inl (cJ, 4, .inr (.inl v_rootAt))), (q_isKept, .inl (cZ, 3, .inl v_isKept)), (q_shelfMany, .inl (cI, 3, .inl v_shelfMany)), (q_shelfHas, .inl (cJ, 18, .inr (.inl v_shelfHas)))]) (r := r2) (va_runV (As := []) (rest := []) ⟨hx, hb, hml, hown, hts⟩ (kX9_manyShelves (l := l) (G := G) (cI := cI) (cJ := cJ) (cZ := cZ) (cS := cS) (cG := cG) n q q_bends q_rootAt q_pile q_lastAt q_nextAt q_hasBend q_isMet q_queue q_sums q_kept q_isKept q_copies q_shelfMany q_shelfSort q_shelfHas v_stepAt v_justMany v_shelfMany _ hc2 _) (cwV 0 hts gX9_many_X9_manyShelves rfl rfl rfl (by decide +kernel) ⟨Nat.le_of_ble_eq_true rfl, Nat.le_of_ble_eq_true rfl⟩) (cut_V hK hP hD [0, 4] rfl rfl (ci := 9) (q0 := 0) rfl rfl) rfl rfl hl.1 rfl (lv_room (Nat.le_of_ble_eq_true rfl)) dX9_many_33 ⟨Nat.zero_le _, Nat.zero_le _⟩) hP hD hS hA [0, 4] [1, 2, 3, 5] [4, 0, 1, 2, 5, 3] rfl rfl rfl rfl rfl rfl (fun H locs hP hD hS => ?_)
    cases hf
    rw [← hQ]
    exact rt_i hx hb hr hlk hP hD hS rfl dX9_many_36
  · have hf := if_n hf c1_0
    by_cases c1_1 : p1 = 1
    · have hf := if_s hf c1_1
      refine lv_tableIn (off := 36) (tgt := 37) hx hb dX9_many_1 (by rw [c1_1]; decide) (by rw [c1_1]; decide) (by rw [c1_1]; rfl) (by decide) ?_
      refine lv_aload_n hx hb dX9_many_37 rfl (lv_at hl 0 rfl) ?_
      refine va_get (D := G) (ci := 9) (v := .ref q_isKept) (C := RX9) (T := TX9) (N := 17) hx hb hts hiX9_many_X9 hown hK.1 hP 0 rfl rfl 12 (by decide) (hts (.fieldLink RX9 42 "PackedBendsModel" "isKept" "[Z") (List.mem_of_getElem? (i := 1) rfl)) (fun _ h9 => h9) rfl dX9_many_38 ?_
      refine lv_iconst (v := 0) hx hb dX9_many_41 (by decide) ?_
      refine va_zald hx hb hK.1 hP 3 2 rfl rfl (vp_in_iff.mpr (by decide)) dX9_many_42 ?_
      refine lv_if_eq (tgt := 50) hx hb dX9_many_43 (by decide) (fun c3 => ?_) (fun c3 => ?_)
      · have hf := if_s hf c3
        refine lv_iconst (v := 0) hx hb dX9_many_50 (by decide) ?_
        refine lv_aload_n hx hb dX9_many_51 rfl (lv_at hl 0 rfl) ?_
        refine va_get (D := G) (ci := 9) (v := .ref q_isKept) (C := RX9) (T := TX9) (N := 17) hx hb hts hiX9_many_X9 hown hK.1 hP 0 rfl rfl 12 (by decide) (hts (.fieldLink RX9 42 "PackedBendsModel" "isKept" "[Z") (List.mem_of_getElem? (i := 1) rfl)) (fun _ h9 => h9) rfl dX9_many_52 ?_
        refine lv_iconst (v := 1) hx hb dX9_many_55 (by decide) ?_
        refine va_zald hx hb hK.1 hP 3 2 rfl rfl (vp_in_iff.mpr (by decide)) dX9_many_56 ?_
        refine lv_if_eq (tgt := 64) hx hb dX9_many_57 (by decide) (fun c4 => ?_) (fun c4 => ?_)
        · have hf := if_s hf c4
          refine lv_iconst (v := 0) hx hb dX9_many_64 (by decide) ?_
          refine lv_iadd hx hb dX9_many_65 ?_
          refine lv_aload_n hx hb dX9_many_66 rfl (lv_at hl 0 rfl) ?_
          refine va_get (D := G) (ci := 9) (v := .ref q_isKept) (C := RX9) (T := TX9) (N := 17) hx hb hts hiX9_many_X9 hown hK.1 hP 0 rfl rfl 12 (by decide) (hts (.fieldLink RX9 42 "PackedBendsModel" "isKept" "[Z") (List.mem_of_getElem? (i := 1) rfl)) (fun _ h9 => h9) rfl dX9_many_67 ?_
          refine lv_iconst (v := 2) hx hb dX9_many_70 (by decide) ?_
          refine va_zald hx hb hK.1 hP 3 2 rfl rfl (vp_in_iff.mpr (by decide)) dX9_many_71 ?_
          refine lv_if_eq (tgt := 79) hx hb dX9_many_72 (by decide) (fun c5 => ?_) (fun c5 => ?_)
          · have hf := if_s hf c5
            refine lv_iconst (v := 0) hx hb dX9_many_79 (by decide) ?_
            refine lv_iadd hx hb dX9_many_80 ?_
            cases hf
            rw [← hQ]
            exact rt_i hx hb hr hlk hP hD hS rfl dX9_many_81
          · have hf := if_n hf c5
            refine lv_iconst (v := 1) hx hb dX9_many_75 (by decide) ?_
            refine lv_goto (tgt := 80) hx hb dX9_many_76 (by decide) ?_
            refine lv_iadd hx hb dX9_many_80 ?_
            cases hf
            rw [← hQ]
            exact rt_i hx hb hr hlk hP hD hS rfl dX9_many_81
        · have hf := if_n hf c4
          refine lv_iconst (v := 1) hx hb dX9_many_60 (by decide) ?_
          refine lv_goto (tgt := 65) hx hb dX9_many_61 (by decide) ?_
          refine lv_iadd hx hb dX9_many_65 ?_
          refine lv_aload_n hx hb dX9_many_66 rfl (lv_at hl 0 rfl) ?_
          refine va_get (D := G) (ci := 9) (v := .ref q_isKept) (C := RX9) (T := TX9) (N := 17) hx hb hts hiX9_many_X9 hown hK.1 hP 0 rfl rfl 12 (by decide) (hts (.fieldLink RX9 42 "PackedBendsModel" "isKept" "[Z") (List.mem_of_getElem? (i := 1) rfl)) (fun _ h9 => h9) rfl dX9_many_67 ?_
          refine lv_iconst (v := 2) hx hb dX9_many_70 (by decide) ?_
          refine va_zald hx hb hK.1 hP 3 2 rfl rfl (vp_in_iff.mpr (by decide)) dX9_many_71 ?_
          refine lv_if_eq (tgt := 79) hx hb dX9_many_72 (by decide) (fun c6 => ?_) (fun c6 => ?_)
          · have hf := if_s hf c6
            refine lv_iconst (v := 0) hx hb dX9_many_79 (by decide) ?_
            refine lv_iadd hx hb dX9_many_80 ?_
            cases hf
            rw [← hQ]
            exact rt_i hx hb hr hlk hP hD hS rfl dX9_many_81
          · have hf := if_n hf c6
            refine lv_iconst (v := 1) hx hb dX9_many_75 (by decide) ?_
            refine lv_goto (tgt := 80) hx hb dX9_many_76 (by decide) ?_
            refine lv_iadd hx hb dX9_many_80 ?_
            cases hf
            rw [← hQ]
            exact rt_i hx hb hr hlk hP hD hS rfl dX9_many_81
      · have hf := if_n hf c3
        refine lv_iconst (v := 1) hx hb dX9_many_46 (by decide) ?_
        refine lv_goto (tgt := 51) hx hb dX9_many_47 (by decide) ?_
        refine lv_aload_n hx hb dX9_many_51 rfl (lv_at hl 0 rfl) ?_
        refine va_get (D := G) (ci := 9) (v := .ref q_isKept) (C := RX9) (T := TX9) (N := 17) hx hb hts hiX9_many_X9 hown hK.1 hP 0 rfl rfl 12 (by decide) (hts (.fieldLink RX9 42 "PackedBendsModel" "isKept" "[Z") (List.mem_of_getElem? (i := 1) rfl)) (fun _ h9 => h9) rfl dX9_many_52 ?_
        refine lv_iconst (v := 1) hx hb dX9_many_55 (by decide) ?_
        refine va_zald hx hb hK.1 hP 3 2 rfl rfl (vp_in_iff.mpr (by decide)) dX9_many_56 ?_
        refine lv_if_eq (tgt := 64) hx hb dX9_many_57 (by decide) (fun c7 => ?_) (fun c7 => ?_)
        · have hf := if_s hf c7
          refine lv_iconst (v := 0) hx hb dX9_many_64 (by decide) ?_
          refine lv_iadd hx hb dX9_many_65 ?_
          refine lv_aload_n hx hb dX9_many_66 rfl (lv_at hl 0 rfl) ?_
          refine va_get (D := G) (ci := 9) (v := .ref q_isKept) (C := RX9) (T := TX9) (N := 17) hx hb hts hiX9_many_X9 hown hK.1 hP 0 rfl rfl 12 (by decide) (hts (.fieldLink RX9 42 "PackedBendsModel" "isKept" "[Z") (List.mem_of_getElem? (i := 1) rfl)) (fun _ h9 => h9) rfl dX9_many_67 ?_
          refine lv_iconst (v := 2) hx hb dX9_many_70 (by decide) ?_
          refine va_zald hx hb hK.1 hP 3 2 rfl rfl (vp_in_iff.mpr (by decide)) dX9_many_71 ?_
          refine lv_if_eq (tgt := 79) hx hb dX9_many_72 (by decide) (fun c8 => ?_) (fun c8 => ?_)
          · have hf := if_s hf c8
            refine lv_iconst (v := 0) hx hb dX9_many_79 (by decide) ?_
            refine lv_iadd hx hb dX9_many_80 ?_
            cases hf
            rw [← hQ]
            exact rt_i hx hb hr hlk hP hD hS rfl dX9_many_81
          · have hf := if_n hf c8
            refine lv_iconst (v := 1) hx hb dX9_many_75 (by decide) ?_
            refine lv_goto (tgt := 80) hx hb dX9_many_76 (by decide) ?_
            refine lv_iadd hx hb dX9_many_80 ?_
            cases hf
            rw [← hQ]
            exact rt_i hx hb hr hlk hP hD hS rfl dX9_many_81
        · have hf := if_n hf c7
          refine lv_iconst (v := 1) hx hb dX9_many_60 (by decide) ?_
          refine lv_goto (tgt := 65) hx hb dX9_many_61 (by decide) ?_
          refine lv_iadd hx hb dX9_many_65 ?_
          refine lv_aload_n hx hb dX9_many_66 rfl (lv_at hl 0 rfl) ?_
          refine va_get (D := G) (ci := 9) (v := .ref q_isKept) (C := RX9) (T := TX9) (N := 17) hx hb hts hiX9_many_X9 hown hK.1 hP 0 rfl rfl 12 (by decide) (hts (.fieldLink RX9 42 "PackedBendsModel" "isKept" "[Z") (List.mem_of_getElem? (i := 1) rfl)) (fun _ h9 => h9) rfl dX9_many_67 ?_
          refine lv_iconst (v := 2) hx hb dX9_many_70 (by decide) ?_
          refine va_zald hx hb hK.1 hP 3 2 rfl rfl (vp_in_iff.mpr (by decide)) dX9_many_71 ?_
          refine lv_if_eq (tgt := 79) hx hb dX9_many_72 (by decide) (fun c9 => ?_) (fun c9 => ?_)
          · have hf := if_s hf c9
            refine lv_iconst (v := 0) hx hb dX9_many_79 (by decide) ?_
            refine lv_iadd hx hb dX9_many_80 ?_
            cases hf
            rw [← hQ]
            exact rt_i hx hb hr hlk hP hD hS rfl dX9_many_81
          · have hf := if_n hf c9
            refine lv_iconst (v := 1) hx hb dX9_many_75 (by decide) ?_
            refine lv_goto (tgt := 80) hx hb dX9_many_76 (by decide) ?_
            refine lv_iadd hx hb dX9_many_80 ?_
            cases hf
            rw [← hQ]
            exact rt_i hx hb hr hlk hP hD hS rfl dX9_many_81
    · have hf := if_n hf c1_1
      by_cases c1_2 : p1 = 2
      · have hf := if_s hf c1_2
        refine lv_tableIn (off := 81) (tgt := 82) hx hb dX9_many_1 (by rw [c1_2]; decide) (by rw [c1_2]; decide) (by rw [c1_2]; rfl) (by decide) ?_
        refine lv_aload_n hx hb dX9_many_82 rfl (lv_at hl 0 rfl) ?_
        obtain ⟨r10, hc10, hf⟩ := ob_s hf
        refine bk_i (wc := [(q, .inr (9, [.ref q_bends, .ref q_rootAt, .int v_stepAt, .ref q_pile, .ref q_lastAt, .ref q_nextAt, .ref q_hasBend, .int v_justMany, .ref q_isMet, .ref q_queue, .ref q_sums, .ref q_kept, .ref q_isKept, .ref q_copies, .ref q_shelfMany, .ref q_shelfSort, .ref q_shelfHas])), (q_shelfMany, .inl (cI, 3, .inl v_shelfMany)), (q_shelfHas, .inl (cJ, 18, .inr (.inl v_shelfHas)))]) (wc2 := [(q, .inr (9, [.ref q_bends, .ref q_rootAt, .int v_stepAt, .ref q_pile, .ref q_lastAt, .ref q_nextAt, .ref q_hasBend, .int v_justMany, .ref q_isMet, .ref q_queue, .ref q_sums, .ref q_kept, .ref q_isKept, .ref q_copies, .ref q_shelfMany, .ref q_shelfSort, .ref q_shelfHas])), (q_shelfMany, .inl (cI, 3, .inl v_shelfMany)), (q_shelfHas, .inl (cJ, 18, .inr (.inl v_shelfHas)))]) (wr := [(q_bends, .inl (cJ, 4, .inr (.inl v_bends))), (q_rootAt, .inl (cJ, 4, .inr (.inl v_rootAt))), (q_isKept, .inl (cZ, 3, .inl v_isKept))]) (ws2 := [(q, .inr (9, [.ref q_bends, .ref q_rootAt, .int v_stepAt, .ref q_pile, .ref q_lastAt, .ref q_nextAt, .ref q_hasBend, .int v_justMany, .ref q_isMet, .ref q_queue, .ref q_sums, .ref q_kept, .ref q_isKept, .ref q_copies, .ref q_shelfMany, .ref q_shelfSort, .ref q_shelfHas])), (q_bends, .inl (cJ, 4, .inr (.inl v_bends))), (q_rootAt, .inl (cJ, 4, .inr (.inl v_rootAt))), (q_isKept, .inl (cZ, 3, .inl v_isKept)), (q_shelfMany, .inl (cI, 3, .inl v_shelfMany)), (q_shelfHas, .inl (cJ, 18, .inr (.inl v_shelfHas)))]) (r := r10) (va_runV (As := []) (rest := []) ⟨hx, hb, hml, hown, hts⟩ (kX9_manyLie (l := l) (G := G) (cI := cI) (cJ := cJ) (cZ := cZ) (cS := cS) (cG := cG) n q q_bends q_rootAt q_pile q_lastAt q_nextAt q_hasBend q_isMet q_queue q_sums q_kept q_isKept q_copies q_shelfMany q_shelfSort q_shelfHas v_stepAt v_justMany v_shelfMany v_shelfHas _ hc10 _) (cwV 0 hts gX9_many_X9_manyLie rfl rfl rfl (by decide +kernel) ⟨Nat.le_of_ble_eq_true rfl, Nat.le_of_ble_eq_true rfl⟩) (cut_V hK hP hD [0, 4, 5] rfl rfl (ci := 9) (q0 := 0) rfl rfl) rfl rfl hl.1 rfl (lv_room (Nat.le_of_ble_eq_true rfl)) dX9_many_83 ⟨Nat.zero_le _, Nat.zero_le _⟩) hP hD hS hA [0, 4, 5] [1, 2, 3] [3, 0, 1, 2, 4, 5] rfl rfl rfl rfl rfl rfl (fun H locs hP hD hS => ?_)
        cases hf
        rw [← hQ]
        exact rt_i hx hb hr hlk hP hD hS rfl dX9_many_86
      · have hf := if_n hf c1_2
        by_cases c1_3 : p1 = 3
        · have hf := if_s hf c1_3
          refine lv_tableIn (off := 86) (tgt := 87) hx hb dX9_many_1 (by rw [c1_3]; decide) (by rw [c1_3]; decide) (by rw [c1_3]; rfl) (by decide) ?_
          refine lv_aload_n hx hb dX9_many_87 rfl (lv_at hl 0 rfl) ?_
          obtain ⟨r11, hc11, hf⟩ := ob_s hf
          refine bk_i (wc := [(q, .inr (9, [.ref q_bends, .ref q_rootAt, .int v_stepAt, .ref q_pile, .ref q_lastAt, .ref q_nextAt, .ref q_hasBend, .int v_justMany, .ref q_isMet, .ref q_queue, .ref q_sums, .ref q_kept, .ref q_isKept, .ref q_copies, .ref q_shelfMany, .ref q_shelfSort, .ref q_shelfHas])), (q_bends, .inl (cJ, 4, .inr (.inl v_bends))), (q_rootAt, .inl (cJ, 4, .inr (.inl v_rootAt)))]) (wc2 := [(q, .inr (9, [.ref q_bends, .ref q_rootAt, .int r11.2.1, .ref q_pile, .ref q_lastAt, .ref q_nextAt, .ref q_hasBend, .int v_justMany, .ref q_isMet, .ref q_queue, .ref q_sums, .ref q_kept, .ref q_isKept, .ref q_copies, .ref q_shelfMany, .ref q_shelfSort, .ref q_shelfHas])), (q_bends, .inl (cJ, 4, .inr (.inl v_bends))), (q_rootAt, .inl (cJ, 4, .inr (.inl r11.2.2)))]) (wr := [(q_isKept, .inl (cZ, 3, .inl v_isKept)), (q_shelfMany, .inl (cI, 3, .inl v_shelfMany)), (q_shelfHas, .inl (cJ, 18, .inr (.inl v_shelfHas)))]) (ws2 := [(q, .inr (9, [.ref q_bends, .ref q_rootAt, .int r11.2.1, .ref q_pile, .ref q_lastAt, .ref q_nextAt, .ref q_hasBend, .int v_justMany, .ref q_isMet, .ref q_queue, .ref q_sums, .ref q_kept, .ref q_isKept, .ref q_copies, .ref q_shelfMany, .ref q_shelfSort, .ref q_shelfHas])), (q_bends, .inl (cJ, 4, .inr (.inl v_bends))), (q_rootAt, .inl (cJ, 4, .inr (.inl r11.2.2))), (q_isKept, .inl (cZ, 3, .inl v_isKept)), (q_shelfMany, .inl (cI, 3, .inl v_shelfMany)), (q_shelfHas, .inl (cJ, 18, .inr (.inl v_shelfHas)))]) (r := r11.1) (va_runV (As := []) (rest := []) ⟨hx, hb, hml, hown, hts⟩ (kX9_isBound (l := l) (G := G) (cI := cI) (cJ := cJ) (cZ := cZ) (cS := cS) (cG := cG) n q q_bends q_rootAt q_pile q_lastAt q_nextAt q_hasBend q_isMet q_queue q_sums q_kept q_isKept q_copies q_shelfMany q_shelfSort q_shelfHas v_stepAt v_justMany v_bends v_rootAt _ hc11 _) (cwV 0 hts gX9_many_X9_isBound rfl rfl rfl (by decide +kernel) ⟨Nat.le_of_ble_eq_true rfl, Nat.le_of_ble_eq_true rfl⟩) (cut_V hK hP hD [0, 1, 2] rfl rfl (ci := 9) (q0 := 0) rfl rfl) rfl rfl hl.1 rfl (lv_room (Nat.le_of_ble_eq_true rfl)) dX9_many_88 ⟨Nat.zero_le _, Nat.zero_le _⟩) hP hD hS hA [0, 1, 2] [3, 4, 5] [3, 4, 5, 0, 1, 2] rfl rfl rfl rfl rfl rfl (fun H locs hP hD hS => ?_)
          refine lv_if_eq (tgt := 98) hx hb dX9_many_91 (by decide) (fun c12 => ?_) (fun c12 => ?_)
          · have hf := if_s hf c12
            refine lv_iconst (v := 0) hx hb dX9_many_98 (by decide) ?_
            cases hf
            rw [← hQ]
            exact rt_i hx hb hr hlk hP hD hS rfl dX9_many_99
          · have hf := if_n hf c12
            refine lv_iconst (v := 1) hx hb dX9_many_94 (by decide) ?_
            refine lv_goto (tgt := 99) hx hb dX9_many_95 (by decide) ?_
            cases hf
            rw [← hQ]
            exact rt_i hx hb hr hlk hP hD hS rfl dX9_many_99
        · have hf := if_n hf c1_3
          have t1_0 := lv_neT c1_0 (a := 0) (by decide)
          have t1_1 := lv_neT c1_1 (a := 1) (by decide)
          have t1_2 := lv_neT c1_2 (a := 2) (by decide)
          have t1_3 := lv_neT c1_3 (a := 3) (by decide)
          refine lv_tableOut (tgt := 100) hx hb dX9_many_1 (by omega) (by decide) ?_
          refine lv_bipush (v := (-2)) hx hb dX9_many_100 (by decide) ?_
          cases hf
          rw [← hQ]
          exact rt_i hx hb hr hlk hP hD hS rfl dX9_many_102
