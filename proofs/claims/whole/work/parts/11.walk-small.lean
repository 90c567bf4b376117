def pX0_greatest_L4 (v_four : (Nat → Int64)) : Nat → Int32 → Int32 → (Int32 → Int32 → Option (Int32)) → Option (Int32)
  | 0, _, _, _ => none
  | n + 1, x1, x2, k => if (4 : Int32) ≤ x2 then k x1 x2 else ck (ix x2 4) (ck (ix x1 4) (if (v_four x2.toNatClampNeg) ≤ (v_four x1.toNatClampNeg) then pX0_greatest_L4 v_four n x1 (x2 + (1 : Int32)) k else pX0_greatest_L4 v_four n x2 (x2 + (1 : Int32)) k))
def pX0_greatest (n : Nat) (v_four : (Nat → Int64)) : Option (Int32) := pX0_greatest_L4 v_four n (0 : Int32) (1 : Int32) (fun (y1_5 : Int32) (y2_5 : Int32) => some y1_5)
def rmX0_greatest : Room := { frames := 0, cells := 0, slots := 0, locals := 0 }
theorem hiX0_greatest_X0 : ∀ w ∈ u_ws RX0 TX0 3, w ∈ wsX0_greatest := fun _ h => List.mem_cons_of_mem _ (List.mem_append_right _ h)
set_option maxRecDepth 100000 in
set_option maxHeartbeats 4000000 in
theorem kX0_greatest {l : Launch} {G : va_G} {cI cJ cZ cS cG : ClassId} (n : Nat) (q q_four : Nat) (v_made : Int32) (v_last : Int32) (v_four : (Nat → Int64)) (R : Int32) (hf : pX0_greatest n v_four = some R) : CTi l yX0_greatest wsX0_greatest rmX0_greatest G cI cJ cZ cS cG [.ref q] [(q, .inr (0, [.ref q_four, .int v_made, .int v_last])), (q_four, .inl (cJ, 4, .inr (.inl v_four)))] [(q, .inr (0, [.ref q_four, .int v_made, .int v_last])), (q_four, .inl (cJ, 4, .inr (.inl v_four)))] R := by
  refine Met.ofE (Qc := fun A => QRi G A [(q, .inr (0, [.ref q_four, .int v_made, .int v_last])), (q_four, .inl (cJ, 4, .inr (.inl v_four)))] R) (cc := cX0_greatest) (nL := 3) (ret := some .int) (plainFor_of_name (by decide +kernel)) rfl (Nat.le_of_ble_eq_true rfl) ?_
  intro p e s m below meth c A ls hx hb hml hr hlk hts hown hK hA hP hD hS hl
  have hown : s.vm.findClass RX0 = some m.cls := hown
  have hl : lv_has ls 3 [(0, .ref q)] := hl
  generalize hQ : MQ below (QRi G A [(q, .inr (0, [.ref q_four, .int v_made, .int v_last])), (q_four, .inl (cJ, 4, .inr (.inl v_four)))] R) ([.ref q] : List Value).toArray s 0 0 A = QQ
  unfold pX0_greatest at hf
  have hL4 : ∀ (k : Int32 → Int32 → Option (Int32)), (∀ (x1 : Int32) (x2 : Int32) (H : Heap) (locs : List Loc) (ls : Array Slot), k x1 x2 = some R → va_P G vwCl [(q, .inr (0, [.ref q_four, .int v_made, .int v_last])), (q_four, .inl (cJ, 4, .inr (.inl v_four)))] H → va_D A [(q, .inr (0, [.ref q_four, .int v_made, .int v_last])), (q_four, .inl (cJ, 4, .inr (.inl v_four)))] → va_S A s.heap H locs → lv_has ls 3 [(0, .ref q), (1, .int x1), (2, .int x2)] → W p l e rmX0_greatest s m ([.ref q] : List Value).toArray below meth c H locs 0 0 QQ (F0 m 33 ls [])) → ∀ (n : Nat) (x1 : Int32) (x2 : Int32) (H : Heap) (locs : List Loc) (ls : Array Slot), pX0_greatest_L4 v_four n x1 x2 k = some R → va_P G vwCl [(q, .inr (0, [.ref q_four, .int v_made, .int v_last])), (q_four, .inl (cJ, 4, .inr (.inl v_four)))] H → va_D A [(q, .inr (0, [.ref q_four, .int v_made, .int v_last])), (q_four, .inl (cJ, 4, .inr (.inl v_four)))] → va_S A s.heap H locs → lv_has ls 3 [(0, .ref q), (1, .int x1), (2, .int x2)] → W p l e rmX0_greatest s m ([.ref q] : List Value).toArray below meth c H locs 0 0 QQ (F0 m 4 ls []) := by
    intro  k hk n
    induction n with
    | zero =>
      intro x1 x2 H locs ls hf
      cases hf
    | succ n ih =>
      intro x1 x2 H locs ls hf hP hD hS hl
      unfold pX0_greatest_L4 at hf
      refine lv_iload_n hx hb dX0_greatest_4 rfl (lv_at hl 2 rfl) ?_
      refine lv_iconst (v := 4) hx hb dX0_greatest_5 (by decide) ?_
      refine lv_icmp_ge (tgt := 33) hx hb dX0_greatest_6 (by decide) (fun c1 => ?_) (fun c1 => ?_)
      · have hf := if_s hf c1
        exact hk x1 x2 _ _ _ hf hP hD hS (lv_sub hl [0, 1, 2] rfl)
      · have hf := if_n hf c1
        refine lv_aload_n hx hb dX0_greatest_9 rfl (lv_at hl 0 rfl) ?_
        refine va_get (D := G) (ci := 0) (v := .ref q_four) (C := RX0) (T := TX0) (N := 3) hx hb hts hiX0_greatest_X0 hown hK.1 hP 0 rfl rfl 0 (by decide) (hts (.fieldLink RX0 9 "PackedBends$Descent" "four" "[J") (List.mem_of_getElem? (i := 1) rfl)) (fun _ h9 => h9) rfl dX0_greatest_10 ?_
        refine lv_iload_n hx hb dX0_greatest_13 rfl (lv_at hl 2 rfl) ?_
        obtain ⟨z2, hf⟩ := ck_s hf
        refine va_lald hx hb hK.1 hP 1 1 rfl rfl (vp_in_iff.mpr z2) dX0_greatest_14 ?_
        refine lv_aload_n hx hb dX0_greatest_15 rfl (lv_at hl 0 rfl) ?_
        refine va_get (D := G) (ci := 0) (v := .ref q_four) (C := RX0) (T := TX0) (N := 3) hx hb hts hiX0_greatest_X0 hown hK.1 hP 0 rfl rfl 0 (by decide) (hts (.fieldLink RX0 9 "PackedBends$Descent" "four" "[J") (List.mem_of_getElem? (i := 1) rfl)) (fun _ h9 => h9) rfl dX0_greatest_16 ?_
        refine lv_iload_n hx hb dX0_greatest_19 rfl (lv_at hl 1 rfl) ?_
        obtain ⟨z3, hf⟩ := ck_s hf
        refine va_lald hx hb hK.1 hP 1 1 rfl rfl (vp_in_iff.mpr z3) dX0_greatest_20 ?_
        refine lc_le (tgt := 27) hx hb dX0_greatest_21 dX0_greatest_22 (by decide) (fun c4 => ?_) (fun c4 => ?_)
        · have hf := if_s hf c4
          refine lv_iinc (v := x2 + (1 : Int32)) (lv' := [(2, .int (x2 + (1 : Int32))), (0, .ref q), (1, .int x1)]) hx hb dX0_greatest_27 hl (k := 2) rfl rfl (by decide) rfl (fun ls hl => ?_)
          refine lv_goto (tgt := 4) hx hb dX0_greatest_30 (by decide) ?_
          exact ih x1 (x2 + (1 : Int32)) _ _ _ hf hP hD hS (lv_sub hl [1, 2, 0] rfl)
        · have hf := if_n hf c4
          refine lv_iload_n hx hb dX0_greatest_25 rfl (lv_at hl 2 rfl) ?_
          refine lv_istore_n (lv' := [(1, .int x2), (0, .ref q), (2, .int x2)]) hx hb dX0_greatest_26 rfl hl (by decide) rfl (fun ls hl => ?_)
          refine lv_iinc (v := x2 + (1 : Int32)) (lv' := [(2, .int (x2 + (1 : Int32))), (1, .int x2), (0, .ref q)]) hx hb dX0_greatest_27 hl (k := 2) rfl rfl (by decide) rfl (fun ls hl => ?_)
          refine lv_goto (tgt := 4) hx hb dX0_greatest_30 (by decide) ?_
          exact ih x2 (x2 + (1 : Int32)) _ _ _ hf hP hD hS (lv_sub hl [2, 1, 0] rfl)
  refine lv_iconst (v := 0) hx hb dX0_greatest_0 (by decide) ?_
  refine lv_istore_n (lv' := [(1, .int (0 : Int32)), (0, .ref q)]) hx hb dX0_greatest_1 rfl hl (by decide) rfl (fun ls hl => ?_)
  refine lv_iconst (v := 1) hx hb dX0_greatest_2 (by decide) ?_
  refine lv_istore_n (lv' := [(2, .int (1 : Int32)), (1, .int (0 : Int32)), (0, .ref q)]) hx hb dX0_greatest_3 rfl hl (by decide) rfl (fun ls hl => ?_)
  refine hL4  _ (fun y1_5 y2_5 H locs ls hf hP hD hS hl => ?_) n (0 : Int32) (1 : Int32) _ _ _ hf hP hD hS (lv_sub hl [2, 1, 0] rfl)
  have hP : va_P G vwCl [(q, .inr (0, [.ref q_four, .int v_made, .int v_last])), (q_four, .inl (cJ, 4, .inr (.inl v_four)))] H := hP
  have hD : va_D A [(q, .inr (0, [.ref q_four, .int v_made, .int v_last])), (q_four, .inl (cJ, 4, .inr (.inl v_four)))] := hD
  refine lv_iload_n hx hb dX0_greatest_33 rfl (lv_at hl 1 rfl) ?_
  cases hf
  rw [← hQ]
  exact rt_i hx hb hr hlk hP hD hS rfl dX0_greatest_34
def pX0_go_L20 (x2 : Int32) : Nat → Int32 → Int32 → Int32 → (Nat → Int64) → (Int32 → Int32 → Int32 → (Nat → Int64) → Option (Int32 × Int32 × (Nat → Int64))) → Option (Int32 × Int32 × (Nat → Int64))
  | 0, _, _, _, _, _ => none
  | n + 1, x3, v_made, v_last, v_four, k => if x2 ≤ x3 then k x3 v_made v_last v_four else Option.bind (pX0_greatest n v_four) (fun r3 => Option.bind (pX8_turnedOver v_four r3) (fun r4 => ck (ix r3 4) (if r4 < (v_four r3.toNatClampNeg) then pX0_go_L20 x2 n (x3 + (1 : Int32)) (v_made + (1 : Int32)) r3 (vp_updL v_four r3.toNatClampNeg r4) k else some (v_made, v_last, v_four))))
def pX0_go (n : Nat) (v_four : (Nat → Int64)) (v_a1 : (Nat → Int64)) (p2 : Int32) : Option (Int32 × Int32 × (Nat → Int64)) := Option.bind (pX8_copyFour n v_a1 v_four) (fun r1 => pX0_go_L20 p2 n (0 : Int32) (0 : Int32) (0 : Int32) r1 (fun (y3_7 : Int32) (u7_made : Int32) (u7_last : Int32) (u7_four : (Nat → Int64)) => some (u7_made, u7_last, u7_four)))
def rmX0_go : Room := { frames := 1, cells := 0, slots := 0, locals := 23 }
theorem hiX0_go_X0 : ∀ w ∈ u_ws RX0 TX0 3, w ∈ wsX0_go := fun _ h => List.mem_cons_of_mem _ (List.mem_append_right _ h)
set_option maxRecDepth 100000 in
set_option maxHeartbeats 4000000 in
theorem kX0_go {l : Launch} {G : va_G} {cI cJ cZ cS cG : ClassId} (n : Nat) (q q_four q_a1 : Nat) (v_made : Int32) (v_last : Int32) (v_four : (Nat → Int64)) (v_a1 : (Nat → Int64)) (p2 : Int32) (R : Int32 × Int32 × (Nat → Int64)) (hf : pX0_go n v_four v_a1 p2 = some R) : CTv l yX0_go wsX0_go rmX0_go G cI cJ cZ cS cG [.ref q, .ref q_a1, .int p2] [(q, .inr (0, [.ref q_four, .int v_made, .int v_last])), (q_four, .inl (cJ, 4, .inr (.inl v_four))), (q_a1, .inl (cJ, 4, .inr (.inl v_a1)))] [(q, .inr (0, [.ref q_four, .int R.1, .int R.2.1])), (q_four, .inl (cJ, 4, .inr (.inl R.2.2))), (q_a1, .inl (cJ, 4, .inr (.inl v_a1)))] := by
  refine Met.ofE (Qc := fun A => QRv G A [(q, .inr (0, [.ref q_four, .int R.1, .int R.2.1])), (q_four, .inl (cJ, 4, .inr (.inl R.2.2))), (q_a1, .inl (cJ, 4, .inr (.inl v_a1)))]) (cc := cX0_go) (nL := 7) (ret := none) (plainFor_of_name (by decide +kernel)) rfl (Nat.le_of_ble_eq_true rfl) ?_
  intro p e s m below meth c A ls hx hb hml hr hlk hts hown hK hA hP hD hS hl
  have hown : s.vm.findClass RX0 = some m.cls := hown
  have hl : lv_has ls 7 [(0, .ref q), (1, .ref q_a1), (2, .int p2)] := hl
  generalize hQ : MQ below (QRv G A [(q, .inr (0, [.ref q_four, .int R.1, .int R.2.1])), (q_four, .inl (cJ, 4, .inr (.inl R.2.2))), (q_a1, .inl (cJ, 4, .inr (.inl v_a1)))]) ([.ref q, .ref q_a1, .int p2] : List Value).toArray s 0 0 A = QQ
  unfold pX0_go at hf
  have hL20 : ∀ (x2 : Int32) (k : Int32 → Int32 → Int32 → (Nat → Int64) → Option (Int32 × Int32 × (Nat → Int64))), (∀ (x3 : Int32) (v_made : Int32) (v_last : Int32) (v_four : (Nat → Int64)) (H : Heap) (locs : List Loc) (ls : Array Slot), k x3 v_made v_last v_four = some R → va_P G vwCl [(q, .inr (0, [.ref q_four, .int v_made, .int v_last])), (q_four, .inl (cJ, 4, .inr (.inl v_four))), (q_a1, .inl (cJ, 4, .inr (.inl v_a1)))] H → va_D A [(q, .inr (0, [.ref q_four, .int v_made, .int v_last])), (q_four, .inl (cJ, 4, .inr (.inl v_four))), (q_a1, .inl (cJ, 4, .inr (.inl v_a1)))] → va_S A s.heap H locs → lv_has ls 7 [(0, .ref q), (1, .ref q_a1), (2, .int x2), (3, .int x3)] → W p l e rmX0_go s m ([.ref q, .ref q_a1, .int p2] : List Value).toArray below meth c H locs 0 0 QQ (F0 m 87 ls [])) → ∀ (n : Nat) (x3 : Int32) (v_made : Int32) (v_last : Int32) (v_four : (Nat → Int64)) (H : Heap) (locs : List Loc) (ls : Array Slot), pX0_go_L20 x2 n x3 v_made v_last v_four k = some R → va_P G vwCl [(q, .inr (0, [.ref q_four, .int v_made, .int v_last])), (q_four, .inl (cJ, 4, .inr (.inl v_four))), (q_a1, .inl (cJ, 4, .inr (.inl v_a1)))] H → va_D A [(q, .inr (0, [.ref q_four, .int v_made, .int v_last])), (q_four, .inl (cJ, 4, .inr (.inl v_four))), (q_a1, .inl (cJ, 4, .inr (.inl v_a1)))] → va_S A s.heap H locs → lv_has ls 7 [(0, .ref q), (1, .ref q_a1), (2, .int x2), (3, .int x3)] → W p l e rmX0_go s m ([.ref q, .ref q_a1, .int p2] : List Value).toArray below meth c H locs 0 0 QQ (F0 m 20 ls []) := by
    intro x2 k hk n
    induction n with
    | zero =>
      intro x3 v_made v_last v_four H locs ls hf
      cases hf
    | succ n ih =>
      intro x3 v_made v_last v_four H locs ls hf hP hD hS hl
      unfold pX0_go_L20 at hf
      refine lv_iload_n hx hb dX0_go_20 rfl (lv_at hl 3 rfl) ?_
      refine lv_iload_n hx hb dX0_go_21 rfl (lv_at hl 2 rfl) ?_
      refine lv_icmp_ge (tgt := 87) hx hb dX0_go_22 (by decide) (fun c2 => ?_) (fun c2 => ?_)
      · have hf := if_s hf c2
        exact hk x3 v_made v_last v_four _ _ _ hf hP hD hS (lv_sub hl [0, 1, 2, 3] rfl)
      · have hf := if_n hf c2
        refine lv_aload_n hx hb dX0_go_25 rfl (lv_at hl 0 rfl) ?_
        obtain ⟨r3, hc3, hf⟩ := ob_s hf
        refine bk_i (wc := [(q, .inr (0, [.ref q_four, .int v_made, .int v_last])), (q_four, .inl (cJ, 4, .inr (.inl v_four)))]) (wc2 := [(q, .inr (0, [.ref q_four, .int v_made, .int v_last])), (q_four, .inl (cJ, 4, .inr (.inl v_four)))]) (wr := [(q_a1, .inl (cJ, 4, .inr (.inl v_a1)))]) (ws2 := [(q, .inr (0, [.ref q_four, .int v_made, .int v_last])), (q_four, .inl (cJ, 4, .inr (.inl v_four))), (q_a1, .inl (cJ, 4, .inr (.inl v_a1)))]) (r := r3) (va_runV (As := []) (rest := []) ⟨hx, hb, hml, hown, hts⟩ (kX0_greatest (l := l) (G := G) (cI := cI) (cJ := cJ) (cZ := cZ) (cS := cS) (cG := cG) n q q_four v_made v_last v_four _ hc3 _) (cwV 0 hts gX0_go_X0_greatest rfl rfl rfl (by decide +kernel) ⟨Nat.le_of_ble_eq_true rfl, Nat.le_of_ble_eq_true rfl⟩) (cut_V hK hP hD [0, 1] rfl rfl (ci := 0) (q0 := 0) rfl rfl) rfl rfl hl.1 rfl (lv_room (Nat.le_of_ble_eq_true rfl)) dX0_go_26 ⟨Nat.zero_le _, Nat.zero_le _⟩) hP hD hS hA [0, 1] [2] [1, 2, 0] rfl rfl rfl rfl rfl rfl (fun H locs hP hD hS => ?_)
        refine lv_istore (lv' := [(4, .int r3), (0, .ref q), (1, .ref q_a1), (2, .int x2), (3, .int x3)]) hx hb dX0_go_29 hl (by decide) rfl (fun ls hl => ?_)
        refine lv_aload_n hx hb dX0_go_31 rfl (lv_at hl 1 rfl) ?_
        refine va_get (D := G) (ci := 0) (v := .ref q_four) (C := RX0) (T := TX0) (N := 3) hx hb hts hiX0_go_X0 hown hK.1 hP 0 rfl rfl 0 (by decide) (hts (.fieldLink RX0 9 "PackedBends$Descent" "four" "[J") (List.mem_of_getElem? (i := 1) rfl)) (fun _ h9 => h9) rfl dX0_go_32 ?_
        refine lv_iload hx hb dX0_go_35 (lv_at hl 0 rfl) ?_
        obtain ⟨r4, hc4, hf⟩ := ob_s hf
        refine bk_l (wc := [(q_four, .inl (cJ, 4, .inr (.inl v_four)))]) (wc2 := [(q_four, .inl (cJ, 4, .inr (.inl v_four)))]) (wr := [(q, .inr (0, [.ref q_four, .int v_made, .int v_last])), (q_a1, .inl (cJ, 4, .inr (.inl v_a1)))]) (ws2 := [(q, .inr (0, [.ref q_four, .int v_made, .int v_last])), (q_four, .inl (cJ, 4, .inr (.inl v_four))), (q_a1, .inl (cJ, 4, .inr (.inl v_a1)))]) (r := r4) (va_runSN (own := "PackedBends$Descent") (As := [.ref q_four, .int r3]) (rest := []) ⟨hx, hb, hml, hown, hts⟩ (kX8_turnedOver (l := l) (G := G) (cI := cI) (cJ := cJ) (cZ := cZ) (cS := cS) (cG := cG) q_four v_four r3 _ hc4 _) ⟨va_cnB (host := "PackedBends") (index := 30) (own := "PackedBends$Descent") 2 hts gX0_go_X8_turnedOver_n30 rfl rfl rfl (hK.2.1 ("PackedBends$Descent", 30, yX8_turnedOver) (List.mem_of_getElem? (i := 1) rfl)) (hts (.initialized RX8) (List.mem_of_getElem? (i := 5) rfl)) (by decide +kernel) ⟨Nat.le_of_ble_eq_true rfl, Nat.le_of_ble_eq_true rfl⟩, hts (.static yX8_turnedOver) (List.mem_of_getElem? (i := 12) rfl), trivial⟩ (cut_S hK hP hD [1] rfl rfl) rfl rfl hl.1 rfl (lv_room (Nat.le_of_ble_eq_true rfl)) dX0_go_37 ⟨Nat.zero_le _, Nat.zero_le _⟩) hP hD hS hA [1] [0, 2] [0, 2, 1] rfl rfl rfl rfl rfl rfl (fun H locs hP hD hS => ?_)
        refine lv_lstore (lv' := [(5, .long r4), (4, .int r3), (0, .ref q), (1, .ref q_a1), (2, .int x2), (3, .int x3)]) hx hb dX0_go_40 hl (by decide) rfl (fun ls hl => ?_)
        refine lv_lload hx hb dX0_go_42 (lv_at hl 0 rfl) ?_
        refine lv_aload_n hx hb dX0_go_44 rfl (lv_at hl 2 rfl) ?_
        refine va_get (D := G) (ci := 0) (v := .ref q_four) (C := RX0) (T := TX0) (N := 3) hx hb hts hiX0_go_X0 hown hK.1 hP 0 rfl rfl 0 (by decide) (hts (.fieldLink RX0 9 "PackedBends$Descent" "four" "[J") (List.mem_of_getElem? (i := 1) rfl)) (fun _ h9 => h9) rfl dX0_go_45 ?_
        refine lv_iload hx hb dX0_go_48 (lv_at hl 1 rfl) ?_
        obtain ⟨z5, hf⟩ := ck_s hf
        refine va_lald hx hb hK.1 hP 1 1 rfl rfl (vp_in_iff.mpr z5) dX0_go_50 ?_
        refine lc_lt (tgt := 56) hx hb dX0_go_51 dX0_go_52 (by decide) (fun c6 => ?_) (fun c6 => ?_)
        · have hf := if_s hf c6
          refine lv_aload_n hx hb dX0_go_56 rfl (lv_at hl 2 rfl) ?_
          refine va_get (D := G) (ci := 0) (v := .ref q_four) (C := RX0) (T := TX0) (N := 3) hx hb hts hiX0_go_X0 hown hK.1 hP 0 rfl rfl 0 (by decide) (hts (.fieldLink RX0 9 "PackedBends$Descent" "four" "[J") (List.mem_of_getElem? (i := 1) rfl)) (fun _ h9 => h9) rfl dX0_go_57 ?_
          refine lv_iload hx hb dX0_go_60 (lv_at hl 1 rfl) ?_
          refine lv_lload hx hb dX0_go_62 (lv_at hl 0 rfl) ?_
          refine va_last hx hb hK.1 hP hD hS 1 1 rfl rfl (vp_in_iff.mpr z5) dX0_go_64 (fun H locs hP hD hS => ?_)
          have hP : va_P G vwCl [(q, .inr (0, [.ref q_four, .int v_made, .int v_last])), (q_four, .inl (cJ, 4, .inr (.inl (vp_updL v_four r3.toNatClampNeg r4)))), (q_a1, .inl (cJ, 4, .inr (.inl v_a1)))] H := hP
          have hD : va_D A [(q, .inr (0, [.ref q_four, .int v_made, .int v_last])), (q_four, .inl (cJ, 4, .inr (.inl (vp_updL v_four r3.toNatClampNeg r4)))), (q_a1, .inl (cJ, 4, .inr (.inl v_a1)))] := hD
          refine lv_aload_n hx hb dX0_go_65 rfl (lv_at hl 2 rfl) ?_
          refine lv_iload hx hb dX0_go_66 (lv_at hl 1 rfl) ?_
          refine va_put (D := G) (ci := 0) (v := .int r3) (ty := .int) (C := RX0) (T := TX0) (N := 3) hx hb hts hiX0_go_X0 tyX0 tyX0_ok nmX0 hown hK.1 hP hD hS 0 rfl rfl 2 (by decide) (hts (.fieldLink RX0 23 "PackedBends$Descent" "last" "I") (List.mem_of_getElem? (i := 3) rfl)) (fun _ h9 => h9) rfl (by decide +kernel) rfl rfl (Nat.le_of_ble_eq_true rfl) dX0_go_68 (fun H locs hP hD hS => ?_)
          have hP : va_P G vwCl [(q, .inr (0, [.ref q_four, .int v_made, .int r3])), (q_four, .inl (cJ, 4, .inr (.inl (vp_updL v_four r3.toNatClampNeg r4)))), (q_a1, .inl (cJ, 4, .inr (.inl v_a1)))] H := hP
          have hD : va_D A [(q, .inr (0, [.ref q_four, .int v_made, .int r3])), (q_four, .inl (cJ, 4, .inr (.inl (vp_updL v_four r3.toNatClampNeg r4)))), (q_a1, .inl (cJ, 4, .inr (.inl v_a1)))] := hD
          refine lv_aload_n hx hb dX0_go_71 rfl (lv_at hl 2 rfl) ?_
          refine lv_dup hx hb dX0_go_72 rfl ?_
          refine va_get (D := G) (ci := 0) (v := .int v_made) (C := RX0) (T := TX0) (N := 3) hx hb hts hiX0_go_X0 hown hK.1 hP 0 rfl rfl 1 (by decide) (hts (.fieldLink RX0 19 "PackedBends$Descent" "made" "I") (List.mem_of_getElem? (i := 2) rfl)) (fun _ h9 => h9) rfl dX0_go_73 ?_
          refine lv_iconst (v := 1) hx hb dX0_go_76 (by decide) ?_
          refine lv_iadd hx hb dX0_go_77 ?_
          refine va_put (D := G) (ci := 0) (v := .int (v_made + (1 : Int32))) (ty := .int) (C := RX0) (T := TX0) (N := 3) hx hb hts hiX0_go_X0 tyX0 tyX0_ok nmX0 hown hK.1 hP hD hS 0 rfl rfl 1 (by decide) (hts (.fieldLink RX0 19 "PackedBends$Descent" "made" "I") (List.mem_of_getElem? (i := 2) rfl)) (fun _ h9 => h9) rfl (by decide +kernel) rfl rfl (Nat.le_of_ble_eq_true rfl) dX0_go_78 (fun H locs hP hD hS => ?_)
          have hP : va_P G vwCl [(q, .inr (0, [.ref q_four, .int (v_made + (1 : Int32)), .int r3])), (q_four, .inl (cJ, 4, .inr (.inl (vp_updL v_four r3.toNatClampNeg r4)))), (q_a1, .inl (cJ, 4, .inr (.inl v_a1)))] H := hP
          have hD : va_D A [(q, .inr (0, [.ref q_four, .int (v_made + (1 : Int32)), .int r3])), (q_four, .inl (cJ, 4, .inr (.inl (vp_updL v_four r3.toNatClampNeg r4)))), (q_a1, .inl (cJ, 4, .inr (.inl v_a1)))] := hD
          refine lv_iinc (v := x3 + (1 : Int32)) (lv' := [(3, .int (x3 + (1 : Int32))), (5, .long r4), (4, .int r3), (0, .ref q), (1, .ref q_a1), (2, .int x2)]) hx hb dX0_go_81 hl (k := 5) rfl rfl (by decide) rfl (fun ls hl => ?_)
          refine lv_goto (tgt := 20) hx hb dX0_go_84 (by decide) ?_
          exact ih (x3 + (1 : Int32)) (v_made + (1 : Int32)) r3 (vp_updL v_four r3.toNatClampNeg r4) _ _ _ hf hP hD hS (lv_sub hl [3, 4, 5, 0] rfl)
        · have hf := if_n hf c6
          cases hf
          rw [← hQ]
          exact rt_v hx hb hr hlk hP hD hS dX0_go_55
  refine lv_aload_n hx hb dX0_go_0 rfl (lv_at hl 1 rfl) ?_
  refine lv_aload_n hx hb dX0_go_1 rfl (lv_at hl 0 rfl) ?_
  refine va_get (D := G) (ci := 0) (v := .ref q_four) (C := RX0) (T := TX0) (N := 3) hx hb hts hiX0_go_X0 hown hK.1 hP 0 rfl rfl 0 (by decide) (hts (.fieldLink RX0 9 "PackedBends$Descent" "four" "[J") (List.mem_of_getElem? (i := 1) rfl)) (fun _ h9 => h9) rfl dX0_go_2 ?_
  obtain ⟨r1, hc1, hf⟩ := ob_s hf
  refine bk_v (wc := [(q_a1, .inl (cJ, 4, .inr (.inl v_a1))), (q_four, .inl (cJ, 4, .inr (.inl v_four)))]) (wc2 := [(q_a1, .inl (cJ, 4, .inr (.inl v_a1))), (q_four, .inl (cJ, 4, .inr (.inl r1)))]) (wr := [(q, .inr (0, [.ref q_four, .int v_made, .int v_last]))]) (ws2 := [(q, .inr (0, [.ref q_four, .int v_made, .int v_last])), (q_four, .inl (cJ, 4, .inr (.inl r1))), (q_a1, .inl (cJ, 4, .inr (.inl v_a1)))]) (va_runSN (own := "PackedBends$Descent") (As := [.ref q_a1, .ref q_four]) (rest := []) ⟨hx, hb, hml, hown, hts⟩ (kX8_copyFour (l := l) (G := G) (cI := cI) (cJ := cJ) (cZ := cZ) (cS := cS) (cG := cG) n q_a1 q_four v_a1 v_four _ hc1 _) ⟨va_cnB (host := "PackedBends") (index := 15) (own := "PackedBends$Descent") 2 hts gX0_go_X8_copyFour_n15 rfl rfl rfl (hK.2.1 ("PackedBends$Descent", 15, yX8_copyFour) (List.mem_of_getElem? (i := 0) rfl)) (hts (.initialized RX8) (List.mem_of_getElem? (i := 5) rfl)) (by decide +kernel) ⟨Nat.le_of_ble_eq_true rfl, Nat.le_of_ble_eq_true rfl⟩, hts (.static yX8_copyFour) (List.mem_of_getElem? (i := 4) rfl), trivial⟩ (cut_S hK hP hD [2, 1] rfl rfl) rfl rfl hl.1 rfl (lv_room (Nat.le_of_ble_eq_true rfl)) dX0_go_5 ⟨Nat.zero_le _, Nat.zero_le _⟩) hP hD hS hA [2, 1] [0] [0, 2, 1] rfl rfl rfl rfl rfl rfl (fun H locs hP hD hS => ?_)
  refine lv_aload_n hx hb dX0_go_8 rfl (lv_at hl 0 rfl) ?_
  refine lv_iconst (v := 0) hx hb dX0_go_9 (by decide) ?_
  refine va_put (D := G) (ci := 0) (v := .int (0 : Int32)) (ty := .int) (C := RX0) (T := TX0) (N := 3) hx hb hts hiX0_go_X0 tyX0 tyX0_ok nmX0 hown hK.1 hP hD hS 0 rfl rfl 1 (by decide) (hts (.fieldLink RX0 19 "PackedBends$Descent" "made" "I") (List.mem_of_getElem? (i := 2) rfl)) (fun _ h9 => h9) rfl (by decide +kernel) rfl rfl (Nat.le_of_ble_eq_true rfl) dX0_go_10 (fun H locs hP hD hS => ?_)
  have hP : va_P G vwCl [(q, .inr (0, [.ref q_four, .int (0 : Int32), .int v_last])), (q_four, .inl (cJ, 4, .inr (.inl r1))), (q_a1, .inl (cJ, 4, .inr (.inl v_a1)))] H := hP
  have hD : va_D A [(q, .inr (0, [.ref q_four, .int (0 : Int32), .int v_last])), (q_four, .inl (cJ, 4, .inr (.inl r1))), (q_a1, .inl (cJ, 4, .inr (.inl v_a1)))] := hD
  refine lv_aload_n hx hb dX0_go_13 rfl (lv_at hl 0 rfl) ?_
  refine lv_iconst (v := 0) hx hb dX0_go_14 (by decide) ?_
  refine va_put (D := G) (ci := 0) (v := .int (0 : Int32)) (ty := .int) (C := RX0) (T := TX0) (N := 3) hx hb hts hiX0_go_X0 tyX0 tyX0_ok nmX0 hown hK.1 hP hD hS 0 rfl rfl 2 (by decide) (hts (.fieldLink RX0 23 "PackedBends$Descent" "last" "I") (List.mem_of_getElem? (i := 3) rfl)) (fun _ h9 => h9) rfl (by decide +kernel) rfl rfl (Nat.le_of_ble_eq_true rfl) dX0_go_15 (fun H locs hP hD hS => ?_)
  have hP : va_P G vwCl [(q, .inr (0, [.ref q_four, .int (0 : Int32), .int (0 : Int32)])), (q_four, .inl (cJ, 4, .inr (.inl r1))), (q_a1, .inl (cJ, 4, .inr (.inl v_a1)))] H := hP
  have hD : va_D A [(q, .inr (0, [.ref q_four, .int (0 : Int32), .int (0 : Int32)])), (q_four, .inl (cJ, 4, .inr (.inl r1))), (q_a1, .inl (cJ, 4, .inr (.inl v_a1)))] := hD
  refine lv_iconst (v := 0) hx hb dX0_go_18 (by decide) ?_
  refine lv_istore_n (lv' := [(3, .int (0 : Int32)), (0, .ref q), (1, .ref q_a1), (2, .int p2)]) hx hb dX0_go_19 rfl hl (by decide) rfl (fun ls hl => ?_)
  refine hL20 p2 _ (fun y3_7 u7_made u7_last u7_four H locs ls hf hP hD hS hl => ?_) n (0 : Int32) (0 : Int32) (0 : Int32) r1 _ _ _ hf hP hD hS (lv_sub hl [1, 2, 3, 0] rfl)
  have hP : va_P G vwCl [(q, .inr (0, [.ref q_four, .int u7_made, .int u7_last])), (q_four, .inl (cJ, 4, .inr (.inl u7_four))), (q_a1, .inl (cJ, 4, .inr (.inl v_a1)))] H := hP
  have hD : va_D A [(q, .inr (0, [.ref q_four, .int u7_made, .int u7_last])), (q_four, .inl (cJ, 4, .inr (.inl u7_four))), (q_a1, .inl (cJ, 4, .inr (.inl v_a1)))] := hD
  cases hf
  rw [← hQ]
  exact rt_v hx hb hr hlk hP hD hS dX0_go_87
def pX4_renew_L17 : Nat → Int32 → (Nat → Int32) → (Int32 → (Nat → Int32) → Option (Int32 × Int32 × Int32 × (Nat → Int32))) → Option (Int32 × Int32 × Int32 × (Nat → Int32))
  | 0, _, _, _ => none
  | n + 1, x3, v_filled, k => if (6 : Int32) ≤ x3 then k x3 v_filled else ck (ix x3 6) (pX4_renew_L17 n (x3 + (1 : Int32)) (upd v_filled x3.toNatClampNeg (0 : Int32)) k)
def pX4_renew (n : Nat) (v_filled : (Nat → Int32)) (p1 : Int32) (p2 : Int32) : Option (Int32 × Int32 × Int32 × (Nat → Int32)) := pX4_renew_L17 n (0 : Int32) v_filled (fun (y3_3 : Int32) (u3_filled : (Nat → Int32)) => some ((1 : Int32), p1, p2, u3_filled))
def rmX4_renew : Room := { frames := 0, cells := 0, slots := 0, locals := 0 }
theorem hiX4_renew_X4 : ∀ w ∈ u_ws RX4 TX4 5, w ∈ wsX4_renew := fun _ h => List.mem_cons_of_mem _ (List.mem_append_right _ h)
set_option maxRecDepth 100000 in
set_option maxHeartbeats 4000000 in
theorem kX4_renew {l : Launch} {G : va_G} {cI cJ cZ cS cG : ClassId} (n : Nat) (q q_bends q_filled : Nat) (v_there : Int32) (v_sort : Int32) (v_size : Int32) (v_filled : (Nat → Int32)) (p1 : Int32) (p2 : Int32) (R : Int32 × Int32 × Int32 × (Nat → Int32)) (hf : pX4_renew n v_filled p1 p2 = some R) : CTv l yX4_renew wsX4_renew rmX4_renew G cI cJ cZ cS cG [.ref q, .int p1, .int p2] [(q, .inr (4, [.int v_there, .int v_sort, .int v_size, .ref q_bends, .ref q_filled])), (q_filled, .inl (cZ, 6, .inl v_filled))] [(q, .inr (4, [.int R.1, .int R.2.1, .int R.2.2.1, .ref q_bends, .ref q_filled])), (q_filled, .inl (cZ, 6, .inl R.2.2.2))] := by
  refine Met.ofE (Qc := fun A => QRv G A [(q, .inr (4, [.int R.1, .int R.2.1, .int R.2.2.1, .ref q_bends, .ref q_filled])), (q_filled, .inl (cZ, 6, .inl R.2.2.2))]) (cc := cX4_renew) (nL := 4) (ret := none) (plainFor_of_name (by decide +kernel)) rfl (Nat.le_of_ble_eq_true rfl) ?_
  intro p e s m below meth c A ls hx hb hml hr hlk hts hown hK hA hP hD hS hl
  have hown : s.vm.findClass RX4 = some m.cls := hown
  have hl : lv_has ls 4 [(0, .ref q), (1, .int p1), (2, .int p2)] := hl
  generalize hQ : MQ below (QRv G A [(q, .inr (4, [.int R.1, .int R.2.1, .int R.2.2.1, .ref q_bends, .ref q_filled])), (q_filled, .inl (cZ, 6, .inl R.2.2.2))]) ([.ref q, .int p1, .int p2] : List Value).toArray s 0 0 A = QQ
  unfold pX4_renew at hf
  have hL17 : ∀ (x1 : Int32) (x2 : Int32) (v_there : Int32) (v_sort : Int32) (v_size : Int32) (k : Int32 → (Nat → Int32) → Option (Int32 × Int32 × Int32 × (Nat → Int32))), (∀ (x3 : Int32) (v_filled : (Nat → Int32)) (H : Heap) (locs : List Loc) (ls : Array Slot), k x3 v_filled = some R → va_P G vwCl [(q, .inr (4, [.int v_there, .int v_sort, .int v_size, .ref q_bends, .ref q_filled])), (q_filled, .inl (cZ, 6, .inl v_filled))] H → va_D A [(q, .inr (4, [.int v_there, .int v_sort, .int v_size, .ref q_bends, .ref q_filled])), (q_filled, .inl (cZ, 6, .inl v_filled))] → va_S A s.heap H locs → lv_has ls 4 [(0, .ref q), (1, .int x1), (2, .int x2), (3, .int x3)] → W p l e rmX4_renew s m ([.ref q, .int p1, .int p2] : List Value).toArray below meth c H locs 0 0 QQ (F0 m 36 ls [])) → ∀ (n : Nat) (x3 : Int32) (v_filled : (Nat → Int32)) (H : Heap) (locs : List Loc) (ls : Array Slot), pX4_renew_L17 n x3 v_filled k = some R → va_P G vwCl [(q, .inr (4, [.int v_there, .int v_sort, .int v_size, .ref q_bends, .ref q_filled])), (q_filled, .inl (cZ, 6, .inl v_filled))] H → va_D A [(q, .inr (4, [.int v_there, .int v_sort, .int v_size, .ref q_bends, .ref q_filled])), (q_filled, .inl (cZ, 6, .inl v_filled))] → va_S A s.heap H locs → lv_has ls 4 [(0, .ref q), (1, .int x1), (2, .int x2), (3, .int x3)] → W p l e rmX4_renew s m ([.ref q, .int p1, .int p2] : List Value).toArray below meth c H locs 0 0 QQ (F0 m 17 ls []) := by
    intro x1 x2 v_there v_sort v_size k hk n
    induction n with
    | zero =>
      intro x3 v_filled H locs ls hf
      cases hf
    | succ n ih =>
      intro x3 v_filled H locs ls hf hP hD hS hl
      unfold pX4_renew_L17 at hf
      refine lv_iload_n hx hb dX4_renew_17 rfl (lv_at hl 3 rfl) ?_
      refine lv_bipush (v := 6) hx hb dX4_renew_18 (by decide) ?_
      refine lv_icmp_ge (tgt := 36) hx hb dX4_renew_20 (by decide) (fun c1 => ?_) (fun c1 => ?_)
      · have hf := if_s hf c1
        exact hk x3 v_filled _ _ _ hf hP hD hS (lv_sub hl [0, 1, 2, 3] rfl)
      · have hf := if_n hf c1
        refine lv_aload_n hx hb dX4_renew_23 rfl (lv_at hl 0 rfl) ?_
        refine va_get (D := G) (ci := 4) (v := .ref q_filled) (C := RX4) (T := TX4) (N := 5) hx hb hts hiX4_renew_X4 hown hK.1 hP 0 rfl rfl 4 (by decide) (hts (.fieldLink RX4 15 "PackedBends$Shelf" "filled" "[Z") (List.mem_of_getElem? (i := 4) rfl)) (fun _ h9 => h9) rfl dX4_renew_24 ?_
        refine lv_iload_n hx hb dX4_renew_27 rfl (lv_at hl 3 rfl) ?_
        refine lv_iconst (v := 0) hx hb dX4_renew_28 (by decide) ?_
        obtain ⟨z2, hf⟩ := ck_s hf
        refine va_zast hx hb hK.1 hP hD hS 1 2 rfl rfl (vp_in_iff.mpr z2) dX4_renew_29 (fun H locs hP hD hS => ?_)
        rw [vz0] at hP hD
        have hP : va_P G vwCl [(q, .inr (4, [.int v_there, .int v_sort, .int v_size, .ref q_bends, .ref q_filled])), (q_filled, .inl (cZ, 6, .inl (upd v_filled x3.toNatClampNeg (0 : Int32))))] H := hP
        have hD : va_D A [(q, .inr (4, [.int v_there, .int v_sort, .int v_size, .ref q_bends, .ref q_filled])), (q_filled, .inl (cZ, 6, .inl (upd v_filled x3.toNatClampNeg (0 : Int32))))] := hD
        refine lv_iinc (v := x3 + (1 : Int32)) (lv' := [(3, .int (x3 + (1 : Int32))), (0, .ref q), (1, .int x1), (2, .int x2)]) hx hb dX4_renew_30 hl (k := 3) rfl rfl (by decide) rfl (fun ls hl => ?_)
        refine lv_goto (tgt := 17) hx hb dX4_renew_33 (by decide) ?_
        exact ih (x3 + (1 : Int32)) (upd v_filled x3.toNatClampNeg (0 : Int32)) _ _ _ hf hP hD hS (lv_sub hl [1, 2, 3, 0] rfl)
  refine lv_aload_n hx hb dX4_renew_0 rfl (lv_at hl 0 rfl) ?_
  refine lv_iconst (v := 1) hx hb dX4_renew_1 (by decide) ?_
  refine va_put (D := G) (ci := 4) (v := .int (1 : Int32)) (ty := .boolean) (C := RX4) (T := TX4) (N := 5) hx hb hts hiX4_renew_X4 tyX4 tyX4_ok nmX4 hown hK.1 hP hD hS 0 rfl rfl 0 (by decide) (hts (.fieldLink RX4 19 "PackedBends$Shelf" "there" "Z") (List.mem_of_getElem? (i := 1) rfl)) (fun _ h9 => h9) rfl (by decide +kernel) rfl rfl (Nat.le_of_ble_eq_true rfl) dX4_renew_2 (fun H locs hP hD hS => ?_)
  have hP : va_P G vwCl [(q, .inr (4, [.int (1 : Int32), .int v_sort, .int v_size, .ref q_bends, .ref q_filled])), (q_filled, .inl (cZ, 6, .inl v_filled))] H := hP
  have hD : va_D A [(q, .inr (4, [.int (1 : Int32), .int v_sort, .int v_size, .ref q_bends, .ref q_filled])), (q_filled, .inl (cZ, 6, .inl v_filled))] := hD
  refine lv_aload_n hx hb dX4_renew_5 rfl (lv_at hl 0 rfl) ?_
  refine lv_iload_n hx hb dX4_renew_6 rfl (lv_at hl 1 rfl) ?_
  refine va_put (D := G) (ci := 4) (v := .int p1) (ty := .int) (C := RX4) (T := TX4) (N := 5) hx hb hts hiX4_renew_X4 tyX4 tyX4_ok nmX4 hown hK.1 hP hD hS 0 rfl rfl 1 (by decide) (hts (.fieldLink RX4 23 "PackedBends$Shelf" "sort" "I") (List.mem_of_getElem? (i := 2) rfl)) (fun _ h9 => h9) rfl (by decide +kernel) rfl rfl (Nat.le_of_ble_eq_true rfl) dX4_renew_7 (fun H locs hP hD hS => ?_)
  have hP : va_P G vwCl [(q, .inr (4, [.int (1 : Int32), .int p1, .int v_size, .ref q_bends, .ref q_filled])), (q_filled, .inl (cZ, 6, .inl v_filled))] H := hP
  have hD : va_D A [(q, .inr (4, [.int (1 : Int32), .int p1, .int v_size, .ref q_bends, .ref q_filled])), (q_filled, .inl (cZ, 6, .inl v_filled))] := hD
  refine lv_aload_n hx hb dX4_renew_10 rfl (lv_at hl 0 rfl) ?_
  refine lv_iload_n hx hb dX4_renew_11 rfl (lv_at hl 2 rfl) ?_
  refine va_put (D := G) (ci := 4) (v := .int p2) (ty := .int) (C := RX4) (T := TX4) (N := 5) hx hb hts hiX4_renew_X4 tyX4 tyX4_ok nmX4 hown hK.1 hP hD hS 0 rfl rfl 2 (by decide) (hts (.fieldLink RX4 27 "PackedBends$Shelf" "size" "I") (List.mem_of_getElem? (i := 3) rfl)) (fun _ h9 => h9) rfl (by decide +kernel) rfl rfl (Nat.le_of_ble_eq_true rfl) dX4_renew_12 (fun H locs hP hD hS => ?_)
  have hP : va_P G vwCl [(q, .inr (4, [.int (1 : Int32), .int p1, .int p2, .ref q_bends, .ref q_filled])), (q_filled, .inl (cZ, 6, .inl v_filled))] H := hP
  have hD : va_D A [(q, .inr (4, [.int (1 : Int32), .int p1, .int p2, .ref q_bends, .ref q_filled])), (q_filled, .inl (cZ, 6, .inl v_filled))] := hD
  refine lv_iconst (v := 0) hx hb dX4_renew_15 (by decide) ?_
  refine lv_istore_n (lv' := [(3, .int (0 : Int32)), (0, .ref q), (1, .int p1), (2, .int p2)]) hx hb dX4_renew_16 rfl hl (by decide) rfl (fun ls hl => ?_)
  refine hL17 p1 p2 (1 : Int32) p1 p2 _ (fun y3_3 u3_filled H locs ls hf hP hD hS hl => ?_) n (0 : Int32) v_filled _ _ _ hf hP hD hS (lv_sub hl [1, 2, 3, 0] rfl)
  have hP : va_P G vwCl [(q, .inr (4, [.int (1 : Int32), .int p1, .int p2, .ref q_bends, .ref q_filled])), (q_filled, .inl (cZ, 6, .inl u3_filled))] H := hP
  have hD : va_D A [(q, .inr (4, [.int (1 : Int32), .int p1, .int p2, .ref q_bends, .ref q_filled])), (q_filled, .inl (cZ, 6, .inl u3_filled))] := hD
  cases hf
  rw [← hQ]
  exact rt_v hx hb hr hlk hP hD hS dX4_renew_36
def pX4_has (v_size : Int32) (p1 : Int32) : Option (Int32) := if p1 < 0 then some (0 : Int32) else if v_size ≤ p1 then some (0 : Int32) else if (6 : Int32) ≤ p1 then some (0 : Int32) else some (1 : Int32)
def rmX4_has : Room := { frames := 0, cells := 0, slots := 0, locals := 0 }
theorem hiX4_has_X4 : ∀ w ∈ u_ws RX4 TX4 5, w ∈ wsX4_has := fun _ h => List.mem_cons_of_mem _ (List.mem_append_right _ h)
set_option maxRecDepth 100000 in
set_option maxHeartbeats 4000000 in
theorem kX4_has {l : Launch} {G : va_G} {cI cJ cZ cS cG : ClassId} (q q_bends q_filled : Nat) (v_there : Int32) (v_sort : Int32) (v_size : Int32) (p1 : Int32) (R : Int32) (hf : pX4_has v_size p1 = some R) : CTi l yX4_has wsX4_has rmX4_has G cI cJ cZ cS cG [.ref q, .int p1] [(q, .inr (4, [.int v_there, .int v_sort, .int v_size, .ref q_bends, .ref q_filled]))] [(q, .inr (4, [.int v_there, .int v_sort, .int v_size, .ref q_bends, .ref q_filled]))] R := by
  refine Met.ofE (Qc := fun A => QRi G A [(q, .inr (4, [.int v_there, .int v_sort, .int v_size, .ref q_bends, .ref q_filled]))] R) (cc := cX4_has) (nL := 2) (ret := some .boolean) (plainFor_of_name (by decide +kernel)) rfl (Nat.le_of_ble_eq_true rfl) ?_
  intro p e s m below meth c A ls hx hb hml hr hlk hts hown hK hA hP hD hS hl
  have hown : s.vm.findClass RX4 = some m.cls := hown
  have hl : lv_has ls 2 [(0, .ref q), (1, .int p1)] := hl
  generalize hQ : MQ below (QRi G A [(q, .inr (4, [.int v_there, .int v_sort, .int v_size, .ref q_bends, .ref q_filled]))] R) ([.ref q, .int p1] : List Value).toArray s 0 0 A = QQ
  unfold pX4_has at hf
  refine lv_iload_n hx hb dX4_has_0 rfl (lv_at hl 1 rfl) ?_
  refine lv_if_lt (tgt := 22) hx hb dX4_has_1 (by decide) (fun c1 => ?_) (fun c1 => ?_)
  · have hf := if_s hf c1
    refine lv_iconst (v := 0) hx hb dX4_has_22 (by decide) ?_
    cases hf
    rw [← hQ]
    exact rt_z hx hb hr hlk rfl hP hD hS rfl dX4_has_23
  · have hf := if_n hf c1
    refine lv_iload_n hx hb dX4_has_4 rfl (lv_at hl 1 rfl) ?_
    refine lv_aload_n hx hb dX4_has_5 rfl (lv_at hl 0 rfl) ?_
    refine va_get (D := G) (ci := 4) (v := .int v_size) (C := RX4) (T := TX4) (N := 5) hx hb hts hiX4_has_X4 hown hK.1 hP 0 rfl rfl 2 (by decide) (hts (.fieldLink RX4 27 "PackedBends$Shelf" "size" "I") (List.mem_of_getElem? (i := 1) rfl)) (fun _ h9 => h9) rfl dX4_has_6 ?_
    refine lv_icmp_ge (tgt := 22) hx hb dX4_has_9 (by decide) (fun c2 => ?_) (fun c2 => ?_)
    · have hf := if_s hf c2
      refine lv_iconst (v := 0) hx hb dX4_has_22 (by decide) ?_
      cases hf
      rw [← hQ]
      exact rt_z hx hb hr hlk rfl hP hD hS rfl dX4_has_23
    · have hf := if_n hf c2
      refine lv_iload_n hx hb dX4_has_12 rfl (lv_at hl 1 rfl) ?_
      refine lv_bipush (v := 6) hx hb dX4_has_13 (by decide) ?_
      refine lv_icmp_ge (tgt := 22) hx hb dX4_has_15 (by decide) (fun c3 => ?_) (fun c3 => ?_)
      · have hf := if_s hf c3
        refine lv_iconst (v := 0) hx hb dX4_has_22 (by decide) ?_
        cases hf
        rw [← hQ]
        exact rt_z hx hb hr hlk rfl hP hD hS rfl dX4_has_23
      · have hf := if_n hf c3
        refine lv_iconst (v := 1) hx hb dX4_has_18 (by decide) ?_
        refine lv_goto (tgt := 23) hx hb dX4_has_19 (by decide) ?_
        cases hf
        rw [← hQ]
        exact rt_z hx hb hr hlk rfl hP hD hS rfl dX4_has_23
def pX4_takes (v_sort : Int32) (p1 : Int64) : Option (Int32) := if v_sort = 0 then if p1 ≤ (0 : Int64) then some (0 : Int32) else some (1 : Int32) else if v_sort = 1 then if (0 : Int64) ≤ p1 then some (0 : Int32) else some (1 : Int32) else if v_sort = 2 then if p1 = (0 : Int64) then some (1 : Int32) else some (0 : Int32) else some (1 : Int32)
def rmX4_takes : Room := { frames := 0, cells := 0, slots := 0, locals := 0 }
theorem hiX4_takes_X4 : ∀ w ∈ u_ws RX4 TX4 5, w ∈ wsX4_takes := fun _ h => List.mem_cons_of_mem _ (List.mem_append_right _ h)
set_option maxRecDepth 100000 in
set_option maxHeartbeats 4000000 in
theorem kX4_takes {l : Launch} {G : va_G} {cI cJ cZ cS cG : ClassId} (q q_bends q_filled : Nat) (v_there : Int32) (v_sort : Int32) (v_size : Int32) (p1 : Int64) (R : Int32) (hf : pX4_takes v_sort p1 = some R) : CTi l yX4_takes wsX4_takes rmX4_takes G cI cJ cZ cS cG [.ref q, .long p1] [(q, .inr (4, [.int v_there, .int v_sort, .int v_size, .ref q_bends, .ref q_filled]))] [(q, .inr (4, [.int v_there, .int v_sort, .int v_size, .ref q_bends, .ref q_filled]))] R := by
  refine Met.ofE (Qc := fun A => QRi G A [(q, .inr (4, [.int v_there, .int v_sort, .int v_size, .ref q_bends, .ref q_filled]))] R) (cc := cX4_takes) (nL := 3) (ret := some .boolean) (plainFor_of_name (by decide +kernel)) rfl (Nat.le_of_ble_eq_true rfl) ?_
  intro p e s m below meth c A ls hx hb hml hr hlk hts hown hK hA hP hD hS hl
  have hown : s.vm.findClass RX4 = some m.cls := hown
  have hl : lv_has ls 3 [(0, .ref q), (1, .long p1)] := hl
  generalize hQ : MQ below (QRi G A [(q, .inr (4, [.int v_there, .int v_sort, .int v_size, .ref q_bends, .ref q_filled]))] R) ([.ref q, .long p1] : List Value).toArray s 0 0 A = QQ
  unfold pX4_takes at hf
  refine lv_aload_n hx hb dX4_takes_0 rfl (lv_at hl 0 rfl) ?_
  refine va_get (D := G) (ci := 4) (v := .int v_sort) (C := RX4) (T := TX4) (N := 5) hx hb hts hiX4_takes_X4 hown hK.1 hP 0 rfl rfl 1 (by decide) (hts (.fieldLink RX4 23 "PackedBends$Shelf" "sort" "I") (List.mem_of_getElem? (i := 1) rfl)) (fun _ h9 => h9) rfl dX4_takes_1 ?_
  by_cases c1_0 : v_sort = 0
  · have hf := if_s hf c1_0
    refine lv_tableIn (off := 28) (tgt := 32) hx hb dX4_takes_4 (by rw [c1_0]; decide) (by rw [c1_0]; decide) (by rw [c1_0]; rfl) (by decide) ?_
    refine lv_lload_n hx hb dX4_takes_32 rfl (lv_at hl 1 rfl) ?_
    refine lv_lconst (v := 0) hx hb dX4_takes_33 (by decide) ?_
    refine lc_le (tgt := 42) hx hb dX4_takes_34 dX4_takes_35 (by decide) (fun c2 => ?_) (fun c2 => ?_)
    · have hf := if_s hf c2
      refine lv_iconst (v := 0) hx hb dX4_takes_42 (by decide) ?_
      cases hf
      rw [← hQ]
      exact rt_z hx hb hr hlk rfl hP hD hS rfl dX4_takes_43
    · have hf := if_n hf c2
      refine lv_iconst (v := 1) hx hb dX4_takes_38 (by decide) ?_
      refine lv_goto (tgt := 43) hx hb dX4_takes_39 (by decide) ?_
      cases hf
      rw [← hQ]
      exact rt_z hx hb hr hlk rfl hP hD hS rfl dX4_takes_43
  · have hf := if_n hf c1_0
    by_cases c1_1 : v_sort = 1
    · have hf := if_s hf c1_1
      refine lv_tableIn (off := 40) (tgt := 44) hx hb dX4_takes_4 (by rw [c1_1]; decide) (by rw [c1_1]; decide) (by rw [c1_1]; rfl) (by decide) ?_
      refine lv_lload_n hx hb dX4_takes_44 rfl (lv_at hl 1 rfl) ?_
      refine lv_lconst (v := 0) hx hb dX4_takes_45 (by decide) ?_
      refine lc_ge (tgt := 54) hx hb dX4_takes_46 dX4_takes_47 (by decide) (fun c3 => ?_) (fun c3 => ?_)
      · have hf := if_s hf c3
        refine lv_iconst (v := 0) hx hb dX4_takes_54 (by decide) ?_
        cases hf
        rw [← hQ]
        exact rt_z hx hb hr hlk rfl hP hD hS rfl dX4_takes_55
      · have hf := if_n hf c3
        refine lv_iconst (v := 1) hx hb dX4_takes_50 (by decide) ?_
        refine lv_goto (tgt := 55) hx hb dX4_takes_51 (by decide) ?_
        cases hf
        rw [← hQ]
        exact rt_z hx hb hr hlk rfl hP hD hS rfl dX4_takes_55
    · have hf := if_n hf c1_1
      by_cases c1_2 : v_sort = 2
      · have hf := if_s hf c1_2
        refine lv_tableIn (off := 52) (tgt := 56) hx hb dX4_takes_4 (by rw [c1_2]; decide) (by rw [c1_2]; decide) (by rw [c1_2]; rfl) (by decide) ?_
        refine lv_lload_n hx hb dX4_takes_56 rfl (lv_at hl 1 rfl) ?_
        refine lv_lconst (v := 0) hx hb dX4_takes_57 (by decide) ?_
        refine lc_ne (tgt := 66) hx hb dX4_takes_58 dX4_takes_59 (by decide) (fun c4 => ?_) (fun c4 => ?_)
        · have hf := if_n hf c4
          refine lv_iconst (v := 0) hx hb dX4_takes_66 (by decide) ?_
          cases hf
          rw [← hQ]
          exact rt_z hx hb hr hlk rfl hP hD hS rfl dX4_takes_67
        · have hf := if_s hf c4
          refine lv_iconst (v := 1) hx hb dX4_takes_62 (by decide) ?_
          refine lv_goto (tgt := 67) hx hb dX4_takes_63 (by decide) ?_
          cases hf
          rw [← hQ]
          exact rt_z hx hb hr hlk rfl hP hD hS rfl dX4_takes_67
      · have hf := if_n hf c1_2
        have t1_0 := lv_neT c1_0 (a := 0) (by decide)
        have t1_1 := lv_neT c1_1 (a := 1) (by decide)
        have t1_2 := lv_neT c1_2 (a := 2) (by decide)
        refine lv_tableOut (tgt := 68) hx hb dX4_takes_4 (by omega) (by decide) ?_
        refine lv_iconst (v := 1) hx hb dX4_takes_68 (by decide) ?_
        cases hf
        rw [← hQ]
        exact rt_z hx hb hr hlk rfl hP hD hS rfl dX4_takes_69
def pX4_take (v_there : Int32) (v_sort : Int32) (v_size : Int32) (v_bends : (Nat → Int64)) (v_filled : (Nat → Int32)) (p1 : Int32) (p2 : Int64) : Option (Int32 × (Nat → Int64) × (Nat → Int32)) := if v_there = 0 then some ((-11 : Int32), v_bends, v_filled) else Option.bind (pX4_has v_size p1) (fun r2 => if r2 = 0 then some ((-13 : Int32), v_bends, v_filled) else Option.bind (pX4_takes v_sort p2) (fun r4 => if r4 = 0 then some ((-15 : Int32), v_bends, v_filled) else ck (ix p1 6) (some ((1 : Int32), vp_updL v_bends p1.toNatClampNeg p2, upd v_filled p1.toNatClampNeg (1 : Int32)))))
def rmX4_take : Room := { frames := 1, cells := 0, slots := 0, locals := 22 }
theorem hiX4_take_X4 : ∀ w ∈ u_ws RX4 TX4 5, w ∈ wsX4_take := fun _ h => List.mem_cons_of_mem _ (List.mem_append_right _ h)
set_option maxRecDepth 100000 in
set_option maxHeartbeats 4000000 in
theorem kX4_take {l : Launch} {G : va_G} {cI cJ cZ cS cG : ClassId} (q q_bends q_filled : Nat) (v_there : Int32) (v_sort : Int32) (v_size : Int32) (v_bends : (Nat → Int64)) (v_filled : (Nat → Int32)) (p1 : Int32) (p2 : Int64) (R : Int32 × (Nat → Int64) × (Nat → Int32)) (hf : pX4_take v_there v_sort v_size v_bends v_filled p1 p2 = some R) : CTi l yX4_take wsX4_take rmX4_take G cI cJ cZ cS cG [.ref q, .int p1, .long p2] [(q, .inr (4, [.int v_there, .int v_sort, .int v_size, .ref q_bends, .ref q_filled])), (q_bends, .inl (cJ, 6, .inr (.inl v_bends))), (q_filled, .inl (cZ, 6, .inl v_filled))] [(q, .inr (4, [.int v_there, .int v_sort, .int v_size, .ref q_bends, .ref q_filled])), (q_bends, .inl (cJ, 6, .inr (.inl R.2.1))), (q_filled, .inl (cZ, 6, .inl R.2.2))] R.1 := by
  refine Met.ofE (Qc := fun A => QRi G A [(q, .inr (4, [.int v_there, .int v_sort, .int v_size, .ref q_bends, .ref q_filled])), (q_bends, .inl (cJ, 6, .inr (.inl R.2.1))), (q_filled, .inl (cZ, 6, .inl R.2.2))] R.1) (cc := cX4_take) (nL := 4) (ret := some .int) (plainFor_of_name (by decide +kernel)) rfl (Nat.le_of_ble_eq_true rfl) ?_
  intro p e s m below meth c A ls hx hb hml hr hlk hts hown hK hA hP hD hS hl
  have hown : s.vm.findClass RX4 = some m.cls := hown
  have hl : lv_has ls 4 [(0, .ref q), (1, .int p1), (2, .long p2)] := hl
  generalize hQ : MQ below (QRi G A [(q, .inr (4, [.int v_there, .int v_sort, .int v_size, .ref q_bends, .ref q_filled])), (q_bends, .inl (cJ, 6, .inr (.inl R.2.1))), (q_filled, .inl (cZ, 6, .inl R.2.2))] R.1) ([.ref q, .int p1, .long p2] : List Value).toArray s 0 0 A = QQ
  unfold pX4_take at hf
  refine lv_aload_n hx hb dX4_take_0 rfl (lv_at hl 0 rfl) ?_
  refine va_get (D := G) (ci := 4) (v := .int v_there) (C := RX4) (T := TX4) (N := 5) hx hb hts hiX4_take_X4 hown hK.1 hP 0 rfl rfl 0 (by decide) (hts (.fieldLink RX4 19 "PackedBends$Shelf" "there" "Z") (List.mem_of_getElem? (i := 1) rfl)) (fun _ h9 => h9) rfl dX4_take_1 ?_
  refine lv_if_ne (tgt := 10) hx hb dX4_take_4 (by decide) (fun c1 => ?_) (fun c1 => ?_)
  · have hf := if_n hf c1
    refine lv_aload_n hx hb dX4_take_10 rfl (lv_at hl 0 rfl) ?_
    refine lv_iload_n hx hb dX4_take_11 rfl (lv_at hl 1 rfl) ?_
    obtain ⟨r2, hc2, hf⟩ := ob_s hf
    refine bk_i (wc := [(q, .inr (4, [.int v_there, .int v_sort, .int v_size, .ref q_bends, .ref q_filled]))]) (wc2 := [(q, .inr (4, [.int v_there, .int v_sort, .int v_size, .ref q_bends, .ref q_filled]))]) (wr := [(q_bends, .inl (cJ, 6, .inr (.inl v_bends))), (q_filled, .inl (cZ, 6, .inl v_filled))]) (ws2 := [(q, .inr (4, [.int v_there, .int v_sort, .int v_size, .ref q_bends, .ref q_filled])), (q_bends, .inl (cJ, 6, .inr (.inl v_bends))), (q_filled, .inl (cZ, 6, .inl v_filled))]) (r := r2) (va_runV (As := [.int p1]) (rest := []) ⟨hx, hb, hml, hown, hts⟩ (kX4_has (l := l) (G := G) (cI := cI) (cJ := cJ) (cZ := cZ) (cS := cS) (cG := cG) q q_bends q_filled v_there v_sort v_size p1 _ hc2 _) (cwV 1 hts gX4_take_X4_has rfl rfl rfl (by decide +kernel) ⟨Nat.le_of_ble_eq_true rfl, Nat.le_of_ble_eq_true rfl⟩) (cut_V hK hP hD [0] rfl rfl (ci := 4) (q0 := 0) rfl rfl) rfl rfl hl.1 rfl (lv_room (Nat.le_of_ble_eq_true rfl)) dX4_take_12 ⟨Nat.zero_le _, Nat.zero_le _⟩) hP hD hS hA [0] [1, 2] [2, 0, 1] rfl rfl rfl rfl rfl rfl (fun H locs hP hD hS => ?_)
    refine lv_if_ne (tgt := 21) hx hb dX4_take_15 (by decide) (fun c3 => ?_) (fun c3 => ?_)
    · have hf := if_n hf c3
      refine lv_aload_n hx hb dX4_take_21 rfl (lv_at hl 0 rfl) ?_
      refine lv_lload_n hx hb dX4_take_22 rfl (lv_at hl 2 rfl) ?_
      obtain ⟨r4, hc4, hf⟩ := ob_s hf
      refine bk_i (wc := [(q, .inr (4, [.int v_there, .int v_sort, .int v_size, .ref q_bends, .ref q_filled]))]) (wc2 := [(q, .inr (4, [.int v_there, .int v_sort, .int v_size, .ref q_bends, .ref q_filled]))]) (wr := [(q_bends, .inl (cJ, 6, .inr (.inl v_bends))), (q_filled, .inl (cZ, 6, .inl v_filled))]) (ws2 := [(q, .inr (4, [.int v_there, .int v_sort, .int v_size, .ref q_bends, .ref q_filled])), (q_bends, .inl (cJ, 6, .inr (.inl v_bends))), (q_filled, .inl (cZ, 6, .inl v_filled))]) (r := r4) (va_runV (As := [.long p2]) (rest := []) ⟨hx, hb, hml, hown, hts⟩ (kX4_takes (l := l) (G := G) (cI := cI) (cJ := cJ) (cZ := cZ) (cS := cS) (cG := cG) q q_bends q_filled v_there v_sort v_size p2 _ hc4 _) (cwV 1 hts gX4_take_X4_takes rfl rfl rfl (by decide +kernel) ⟨Nat.le_of_ble_eq_true rfl, Nat.le_of_ble_eq_true rfl⟩) (cut_V hK hP hD [0] rfl rfl (ci := 4) (q0 := 0) rfl rfl) rfl rfl hl.1 rfl (lv_room (Nat.le_of_ble_eq_true rfl)) dX4_take_23 ⟨Nat.zero_le _, Nat.zero_le _⟩) hP hD hS hA [0] [1, 2] [2, 0, 1] rfl rfl rfl rfl rfl rfl (fun H locs hP hD hS => ?_)
      refine lv_if_ne (tgt := 32) hx hb dX4_take_26 (by decide) (fun c5 => ?_) (fun c5 => ?_)
      · have hf := if_n hf c5
        refine lv_aload_n hx hb dX4_take_32 rfl (lv_at hl 0 rfl) ?_
        refine va_get (D := G) (ci := 4) (v := .ref q_bends) (C := RX4) (T := TX4) (N := 5) hx hb hts hiX4_take_X4 hown hK.1 hP 0 rfl rfl 3 (by decide) (hts (.fieldLink RX4 9 "PackedBends$Shelf" "bends" "[J") (List.mem_of_getElem? (i := 2) rfl)) (fun _ h9 => h9) rfl dX4_take_33 ?_
        refine lv_iload_n hx hb dX4_take_36 rfl (lv_at hl 1 rfl) ?_
        refine lv_lload_n hx hb dX4_take_37 rfl (lv_at hl 2 rfl) ?_
        obtain ⟨z6, hf⟩ := ck_s hf
        refine va_last hx hb hK.1 hP hD hS 1 1 rfl rfl (vp_in_iff.mpr z6) dX4_take_38 (fun H locs hP hD hS => ?_)
        have hP : va_P G vwCl [(q, .inr (4, [.int v_there, .int v_sort, .int v_size, .ref q_bends, .ref q_filled])), (q_bends, .inl (cJ, 6, .inr (.inl (vp_updL v_bends p1.toNatClampNeg p2)))), (q_filled, .inl (cZ, 6, .inl v_filled))] H := hP
        have hD : va_D A [(q, .inr (4, [.int v_there, .int v_sort, .int v_size, .ref q_bends, .ref q_filled])), (q_bends, .inl (cJ, 6, .inr (.inl (vp_updL v_bends p1.toNatClampNeg p2)))), (q_filled, .inl (cZ, 6, .inl v_filled))] := hD
        refine lv_aload_n hx hb dX4_take_39 rfl (lv_at hl 0 rfl) ?_
        refine va_get (D := G) (ci := 4) (v := .ref q_filled) (C := RX4) (T := TX4) (N := 5) hx hb hts hiX4_take_X4 hown hK.1 hP 0 rfl rfl 4 (by decide) (hts (.fieldLink RX4 15 "PackedBends$Shelf" "filled" "[Z") (List.mem_of_getElem? (i := 3) rfl)) (fun _ h9 => h9) rfl dX4_take_40 ?_
        refine lv_iload_n hx hb dX4_take_43 rfl (lv_at hl 1 rfl) ?_
        refine lv_iconst (v := 1) hx hb dX4_take_44 (by decide) ?_
        refine va_zast hx hb hK.1 hP hD hS 2 2 rfl rfl (vp_in_iff.mpr z6) dX4_take_45 (fun H locs hP hD hS => ?_)
        rw [vz1] at hP hD
        have hP : va_P G vwCl [(q, .inr (4, [.int v_there, .int v_sort, .int v_size, .ref q_bends, .ref q_filled])), (q_bends, .inl (cJ, 6, .inr (.inl (vp_updL v_bends p1.toNatClampNeg p2)))), (q_filled, .inl (cZ, 6, .inl (upd v_filled p1.toNatClampNeg (1 : Int32))))] H := hP
        have hD : va_D A [(q, .inr (4, [.int v_there, .int v_sort, .int v_size, .ref q_bends, .ref q_filled])), (q_bends, .inl (cJ, 6, .inr (.inl (vp_updL v_bends p1.toNatClampNeg p2)))), (q_filled, .inl (cZ, 6, .inl (upd v_filled p1.toNatClampNeg (1 : Int32))))] := hD
        refine lv_iconst (v := 1) hx hb dX4_take_46 (by decide) ?_
        cases hf
        rw [← hQ]
        exact rt_i hx hb hr hlk hP hD hS rfl dX4_take_47
      · have hf := if_s hf c5
        refine lv_bipush (v := (-15)) hx hb dX4_take_29 (by decide) ?_
        cases hf
        rw [← hQ]
        exact rt_i hx hb hr hlk hP hD hS rfl dX4_take_31
    · have hf := if_s hf c3
      refine lv_bipush (v := (-13)) hx hb dX4_take_18 (by decide) ?_
      cases hf
      rw [← hQ]
      exact rt_i hx hb hr hlk hP hD hS rfl dX4_take_20
  · have hf := if_s hf c1
    refine lv_bipush (v := (-11)) hx hb dX4_take_7 (by decide) ?_
    cases hf
    rw [← hQ]
    exact rt_i hx hb hr hlk hP hD hS rfl dX4_take_9
def pX4_look (v_there : Int32) (v_size : Int32) (v_bends : (Nat → Int64)) (v_filled : (Nat → Int32)) (p1 : Int32) : Option (Int64) := if v_there = 0 then some (-9223372036854775808 : Int64) else Option.bind (pX4_has v_size p1) (fun r2 => if r2 = 0 then some (-9223372036854775808 : Int64) else ck (ix p1 6) (if (v_filled p1.toNatClampNeg) = 0 then some (-9223372036854775808 : Int64) else some (v_bends p1.toNatClampNeg)))
def rmX4_look : Room := { frames := 1, cells := 0, slots := 0, locals := 21 }
theorem hiX4_look_X4 : ∀ w ∈ u_ws RX4 TX4 5, w ∈ wsX4_look := fun _ h => List.mem_cons_of_mem _ (List.mem_append_right _ h)
set_option maxRecDepth 100000 in
set_option maxHeartbeats 4000000 in
theorem kX4_look {l : Launch} {G : va_G} {cI cJ cZ cS cG : ClassId} (q q_bends q_filled : Nat) (v_there : Int32) (v_sort : Int32) (v_size : Int32) (v_bends : (Nat → Int64)) (v_filled : (Nat → Int32)) (p1 : Int32) (R : Int64) (hf : pX4_look v_there v_size v_bends v_filled p1 = some R) : CTl l yX4_look wsX4_look rmX4_look G cI cJ cZ cS cG [.ref q, .int p1] [(q, .inr (4, [.int v_there, .int v_sort, .int v_size, .ref q_bends, .ref q_filled])), (q_bends, .inl (cJ, 6, .inr (.inl v_bends))), (q_filled, .inl (cZ, 6, .inl v_filled))] [(q, .inr (4, [.int v_there, .int v_sort, .int v_size, .ref q_bends, .ref q_filled])), (q_bends, .inl (cJ, 6, .inr (.inl v_bends))), (q_filled, .inl (cZ, 6, .inl v_filled))] R := by
  refine Met.ofE (Qc := fun A => QRl G A [(q, .inr (4, [.int v_there, .int v_sort, .int v_size, .ref q_bends, .ref q_filled])), (q_bends, .inl (cJ, 6, .inr (.inl v_bends))), (q_filled, .inl (cZ, 6, .inl v_filled))] R) (cc := cX4_look) (nL := 2) (ret := some .long) (plainFor_of_name (by decide +kernel)) rfl (Nat.le_of_ble_eq_true rfl) ?_
  intro p e s m below meth c A ls hx hb hml hr hlk hts hown hK hA hP hD hS hl
  have hown : s.vm.findClass RX4 = some m.cls := hown
  have hl : lv_has ls 2 [(0, .ref q), (1, .int p1)] := hl
  generalize hQ : MQ below (QRl G A [(q, .inr (4, [.int v_there, .int v_sort, .int v_size, .ref q_bends, .ref q_filled])), (q_bends, .inl (cJ, 6, .inr (.inl v_bends))), (q_filled, .inl (cZ, 6, .inl v_filled))] R) ([.ref q, .int p1] : List Value).toArray s 0 0 A = QQ
  unfold pX4_look at hf
  refine lv_aload_n hx hb dX4_look_0 rfl (lv_at hl 0 rfl) ?_
  refine va_get (D := G) (ci := 4) (v := .int v_there) (C := RX4) (T := TX4) (N := 5) hx hb hts hiX4_look_X4 hown hK.1 hP 0 rfl rfl 0 (by decide) (hts (.fieldLink RX4 19 "PackedBends$Shelf" "there" "Z") (List.mem_of_getElem? (i := 1) rfl)) (fun _ h9 => h9) rfl dX4_look_1 ?_
  refine lv_if_eq (tgt := 33) hx hb dX4_look_4 (by decide) (fun c1 => ?_) (fun c1 => ?_)
  · have hf := if_s hf c1
    refine lv_ldc2 (v := (-9223372036854775808)) hx hb hown (hts (.constantLong RX4 38 (-9223372036854775808)) (List.mem_of_getElem? (i := 4) rfl)) dX4_look_33 ?_
    cases hf
    rw [← hQ]
    exact rt_l hx hb hr hlk hP hD hS rfl dX4_look_36
  · have hf := if_n hf c1
    refine lv_aload_n hx hb dX4_look_7 rfl (lv_at hl 0 rfl) ?_
    refine lv_iload_n hx hb dX4_look_8 rfl (lv_at hl 1 rfl) ?_
    obtain ⟨r2, hc2, hf⟩ := ob_s hf
    refine bk_i (wc := [(q, .inr (4, [.int v_there, .int v_sort, .int v_size, .ref q_bends, .ref q_filled]))]) (wc2 := [(q, .inr (4, [.int v_there, .int v_sort, .int v_size, .ref q_bends, .ref q_filled]))]) (wr := [(q_bends, .inl (cJ, 6, .inr (.inl v_bends))), (q_filled, .inl (cZ, 6, .inl v_filled))]) (ws2 := [(q, .inr (4, [.int v_there, .int v_sort, .int v_size, .ref q_bends, .ref q_filled])), (q_bends, .inl (cJ, 6, .inr (.inl v_bends))), (q_filled, .inl (cZ, 6, .inl v_filled))]) (r := r2) (va_runV (As := [.int p1]) (rest := []) ⟨hx, hb, hml, hown, hts⟩ (kX4_has (l := l) (G := G) (cI := cI) (cJ := cJ) (cZ := cZ) (cS := cS) (cG := cG) q q_bends q_filled v_there v_sort v_size p1 _ hc2 _) (cwV 1 hts gX4_look_X4_has rfl rfl rfl (by decide +kernel) ⟨Nat.le_of_ble_eq_true rfl, Nat.le_of_ble_eq_true rfl⟩) (cut_V hK hP hD [0] rfl rfl (ci := 4) (q0 := 0) rfl rfl) rfl rfl hl.1 rfl (lv_room (Nat.le_of_ble_eq_true rfl)) dX4_look_9 ⟨Nat.zero_le _, Nat.zero_le _⟩) hP hD hS hA [0] [1, 2] [2, 0, 1] rfl rfl rfl rfl rfl rfl (fun H locs hP hD hS => ?_)
    refine lv_if_eq (tgt := 33) hx hb dX4_look_12 (by decide) (fun c3 => ?_) (fun c3 => ?_)
    · have hf := if_s hf c3
      refine lv_ldc2 (v := (-9223372036854775808)) hx hb hown (hts (.constantLong RX4 38 (-9223372036854775808)) (List.mem_of_getElem? (i := 4) rfl)) dX4_look_33 ?_
      cases hf
      rw [← hQ]
      exact rt_l hx hb hr hlk hP hD hS rfl dX4_look_36
    · have hf := if_n hf c3
      refine lv_aload_n hx hb dX4_look_15 rfl (lv_at hl 0 rfl) ?_
      refine va_get (D := G) (ci := 4) (v := .ref q_filled) (C := RX4) (T := TX4) (N := 5) hx hb hts hiX4_look_X4 hown hK.1 hP 0 rfl rfl 4 (by decide) (hts (.fieldLink RX4 15 "PackedBends$Shelf" "filled" "[Z") (List.mem_of_getElem? (i := 2) rfl)) (fun _ h9 => h9) rfl dX4_look_16 ?_
      refine lv_iload_n hx hb dX4_look_19 rfl (lv_at hl 1 rfl) ?_
      obtain ⟨z4, hf⟩ := ck_s hf
      refine va_zald hx hb hK.1 hP 2 2 rfl rfl (vp_in_iff.mpr z4) dX4_look_20 ?_
      refine lv_if_eq (tgt := 33) hx hb dX4_look_21 (by decide) (fun c5 => ?_) (fun c5 => ?_)
      · have hf := if_s hf c5
        refine lv_ldc2 (v := (-9223372036854775808)) hx hb hown (hts (.constantLong RX4 38 (-9223372036854775808)) (List.mem_of_getElem? (i := 4) rfl)) dX4_look_33 ?_
        cases hf
        rw [← hQ]
        exact rt_l hx hb hr hlk hP hD hS rfl dX4_look_36
      · have hf := if_n hf c5
        refine lv_aload_n hx hb dX4_look_24 rfl (lv_at hl 0 rfl) ?_
        refine va_get (D := G) (ci := 4) (v := .ref q_bends) (C := RX4) (T := TX4) (N := 5) hx hb hts hiX4_look_X4 hown hK.1 hP 0 rfl rfl 3 (by decide) (hts (.fieldLink RX4 9 "PackedBends$Shelf" "bends" "[J") (List.mem_of_getElem? (i := 3) rfl)) (fun _ h9 => h9) rfl dX4_look_25 ?_
        refine lv_iload_n hx hb dX4_look_28 rfl (lv_at hl 1 rfl) ?_
        refine va_lald hx hb hK.1 hP 1 1 rfl rfl (vp_in_iff.mpr z4) dX4_look_29 ?_
        refine lv_goto (tgt := 36) hx hb dX4_look_30 (by decide) ?_
        cases hf
        rw [← hQ]
        exact rt_l hx hb hr hlk hP hD hS rfl dX4_look_36
def pX4_countFilled_L4 (v_filled : (Nat → Int32)) : Nat → Int32 → Int32 → (Int32 → Int32 → Option (Int32)) → Option (Int32)
  | 0, _, _, _ => none
  | n + 1, x1, x2, k => if (6 : Int32) ≤ x2 then k x1 x2 else ck (ix x2 6) (if (v_filled x2.toNatClampNeg) = 0 then pX4_countFilled_L4 v_filled n x1 (x2 + (1 : Int32)) k else pX4_countFilled_L4 v_filled n (x1 + (1 : Int32)) (x2 + (1 : Int32)) k)
def pX4_countFilled (n : Nat) (v_filled : (Nat → Int32)) : Option (Int32) := pX4_countFilled_L4 v_filled n (0 : Int32) (0 : Int32) (fun (y1_4 : Int32) (y2_4 : Int32) => some y1_4)
def rmX4_countFilled : Room := { frames := 0, cells := 0, slots := 0, locals := 0 }
theorem hiX4_countFilled_X4 : ∀ w ∈ u_ws RX4 TX4 5, w ∈ wsX4_countFilled := fun _ h => List.mem_cons_of_mem _ (List.mem_append_right _ h)
set_option maxRecDepth 100000 in
set_option maxHeartbeats 4000000 in
theorem kX4_countFilled {l : Launch} {G : va_G} {cI cJ cZ cS cG : ClassId} (n : Nat) (q q_bends q_filled : Nat) (v_there : Int32) (v_sort : Int32) (v_size : Int32) (v_filled : (Nat → Int32)) (R : Int32) (hf : pX4_countFilled n v_filled = some R) : CTi l yX4_countFilled wsX4_countFilled rmX4_countFilled G cI cJ cZ cS cG [.ref q] [(q, .inr (4, [.int v_there, .int v_sort, .int v_size, .ref q_bends, .ref q_filled])), (q_filled, .inl (cZ, 6, .inl v_filled))] [(q, .inr (4, [.int v_there, .int v_sort, .int v_size, .ref q_bends, .ref q_filled])), (q_filled, .inl (cZ, 6, .inl v_filled))] R := by
  refine Met.ofE (Qc := fun A => QRi G A [(q, .inr (4, [.int v_there, .int v_sort, .int v_size, .ref q_bends, .ref q_filled])), (q_filled, .inl (cZ, 6, .inl v_filled))] R) (cc := cX4_countFilled) (nL := 3) (ret := some .int) (plainFor_of_name (by decide +kernel)) rfl (Nat.le_of_ble_eq_true rfl) ?_
  intro p e s m below meth c A ls hx hb hml hr hlk hts hown hK hA hP hD hS hl
  have hown : s.vm.findClass RX4 = some m.cls := hown
  have hl : lv_has ls 3 [(0, .ref q)] := hl
  generalize hQ : MQ below (QRi G A [(q, .inr (4, [.int v_there, .int v_sort, .int v_size, .ref q_bends, .ref q_filled])), (q_filled, .inl (cZ, 6, .inl v_filled))] R) ([.ref q] : List Value).toArray s 0 0 A = QQ
  unfold pX4_countFilled at hf
  have hL4 : ∀ (k : Int32 → Int32 → Option (Int32)), (∀ (x1 : Int32) (x2 : Int32) (H : Heap) (locs : List Loc) (ls : Array Slot), k x1 x2 = some R → va_P G vwCl [(q, .inr (4, [.int v_there, .int v_sort, .int v_size, .ref q_bends, .ref q_filled])), (q_filled, .inl (cZ, 6, .inl v_filled))] H → va_D A [(q, .inr (4, [.int v_there, .int v_sort, .int v_size, .ref q_bends, .ref q_filled])), (q_filled, .inl (cZ, 6, .inl v_filled))] → va_S A s.heap H locs → lv_has ls 3 [(0, .ref q), (1, .int x1), (2, .int x2)] → W p l e rmX4_countFilled s m ([.ref q] : List Value).toArray below meth c H locs 0 0 QQ (F0 m 28 ls [])) → ∀ (n : Nat) (x1 : Int32) (x2 : Int32) (H : Heap) (locs : List Loc) (ls : Array Slot), pX4_countFilled_L4 v_filled n x1 x2 k = some R → va_P G vwCl [(q, .inr (4, [.int v_there, .int v_sort, .int v_size, .ref q_bends, .ref q_filled])), (q_filled, .inl (cZ, 6, .inl v_filled))] H → va_D A [(q, .inr (4, [.int v_there, .int v_sort, .int v_size, .ref q_bends, .ref q_filled])), (q_filled, .inl (cZ, 6, .inl v_filled))] → va_S A s.heap H locs → lv_has ls 3 [(0, .ref q), (1, .int x1), (2, .int x2)] → W p l e rmX4_countFilled s m ([.ref q] : List Value).toArray below meth c H locs 0 0 QQ (F0 m 4 ls []) := by
    intro  k hk n
    induction n with
    | zero =>
      intro x1 x2 H locs ls hf
      cases hf
    | succ n ih =>
      intro x1 x2 H locs ls hf hP hD hS hl
      unfold pX4_countFilled_L4 at hf
      refine lv_iload_n hx hb dX4_countFilled_4 rfl (lv_at hl 2 rfl) ?_
      refine lv_bipush (v := 6) hx hb dX4_countFilled_5 (by decide) ?_
      refine lv_icmp_ge (tgt := 28) hx hb dX4_countFilled_7 (by decide) (fun c1 => ?_) (fun c1 => ?_)
      · have hf := if_s hf c1
        exact hk x1 x2 _ _ _ hf hP hD hS (lv_sub hl [0, 1, 2] rfl)
      · have hf := if_n hf c1
        refine lv_aload_n hx hb dX4_countFilled_10 rfl (lv_at hl 0 rfl) ?_
        refine va_get (D := G) (ci := 4) (v := .ref q_filled) (C := RX4) (T := TX4) (N := 5) hx hb hts hiX4_countFilled_X4 hown hK.1 hP 0 rfl rfl 4 (by decide) (hts (.fieldLink RX4 15 "PackedBends$Shelf" "filled" "[Z") (List.mem_of_getElem? (i := 1) rfl)) (fun _ h9 => h9) rfl dX4_countFilled_11 ?_
        refine lv_iload_n hx hb dX4_countFilled_14 rfl (lv_at hl 2 rfl) ?_
        obtain ⟨z2, hf⟩ := ck_s hf
        refine va_zald hx hb hK.1 hP 1 2 rfl rfl (vp_in_iff.mpr z2) dX4_countFilled_15 ?_
        refine lv_if_eq (tgt := 22) hx hb dX4_countFilled_16 (by decide) (fun c3 => ?_) (fun c3 => ?_)
        · have hf := if_s hf c3
          refine lv_iinc (v := x2 + (1 : Int32)) (lv' := [(2, .int (x2 + (1 : Int32))), (0, .ref q), (1, .int x1)]) hx hb dX4_countFilled_22 hl (k := 2) rfl rfl (by decide) rfl (fun ls hl => ?_)
          refine lv_goto (tgt := 4) hx hb dX4_countFilled_25 (by decide) ?_
          exact ih x1 (x2 + (1 : Int32)) _ _ _ hf hP hD hS (lv_sub hl [1, 2, 0] rfl)
        · have hf := if_n hf c3
          refine lv_iinc (v := x1 + (1 : Int32)) (lv' := [(1, .int (x1 + (1 : Int32))), (0, .ref q), (2, .int x2)]) hx hb dX4_countFilled_19 hl (k := 1) rfl rfl (by decide) rfl (fun ls hl => ?_)
          refine lv_iinc (v := x2 + (1 : Int32)) (lv' := [(2, .int (x2 + (1 : Int32))), (1, .int (x1 + (1 : Int32))), (0, .ref q)]) hx hb dX4_countFilled_22 hl (k := 2) rfl rfl (by decide) rfl (fun ls hl => ?_)
          refine lv_goto (tgt := 4) hx hb dX4_countFilled_25 (by decide) ?_
          exact ih (x1 + (1 : Int32)) (x2 + (1 : Int32)) _ _ _ hf hP hD hS (lv_sub hl [2, 1, 0] rfl)
  refine lv_iconst (v := 0) hx hb dX4_countFilled_0 (by decide) ?_
  refine lv_istore_n (lv' := [(1, .int (0 : Int32)), (0, .ref q)]) hx hb dX4_countFilled_1 rfl hl (by decide) rfl (fun ls hl => ?_)
  refine lv_iconst (v := 0) hx hb dX4_countFilled_2 (by decide) ?_
  refine lv_istore_n (lv' := [(2, .int (0 : Int32)), (1, .int (0 : Int32)), (0, .ref q)]) hx hb dX4_countFilled_3 rfl hl (by decide) rfl (fun ls hl => ?_)
  refine hL4  _ (fun y1_4 y2_4 H locs ls hf hP hD hS hl => ?_) n (0 : Int32) (0 : Int32) _ _ _ hf hP hD hS (lv_sub hl [2, 1, 0] rfl)
  have hP : va_P G vwCl [(q, .inr (4, [.int v_there, .int v_sort, .int v_size, .ref q_bends, .ref q_filled])), (q_filled, .inl (cZ, 6, .inl v_filled))] H := hP
  have hD : va_D A [(q, .inr (4, [.int v_there, .int v_sort, .int v_size, .ref q_bends, .ref q_filled])), (q_filled, .inl (cZ, 6, .inl v_filled))] := hD
  refine lv_iload_n hx hb dX4_countFilled_28 rfl (lv_at hl 1 rfl) ?_
  cases hf
  rw [← hQ]
  exact rt_i hx hb hr hlk hP hD hS rfl dX4_countFilled_29
def pX5_beRoot_L9 (x1 : Int32) : Nat → Int32 → (Nat → Int64) → (Nat → Int64) → (Nat → Int64) → (Nat → Int64) → (Int32 → (Nat → Int64) → (Nat → Int64) → (Nat → Int64) → (Nat → Int64) → Option ((Nat → Int64) × (Nat → Int64) × (Nat → Int64) × (Nat → Int64))) → Option ((Nat → Int64) × (Nat → Int64) × (Nat → Int64) × (Nat → Int64))
  | 0, _, _, _, _, _, _ => none
  | n + 1, x2, v_rows_0, v_rows_1, v_rows_2, v_rows_3, k => if (4 : Int32) ≤ x2 then k x2 v_rows_0 v_rows_1 v_rows_2 v_rows_3 else if x1 = 0 then if x1 = x2 then ck (ix x2 4) (pX5_beRoot_L9 x1 n (x2 + (1 : Int32)) (vp_updL v_rows_0 x2.toNatClampNeg (1 : Int64)) v_rows_1 v_rows_2 v_rows_3 k) else ck (ix x2 4) (pX5_beRoot_L9 x1 n (x2 + (1 : Int32)) (vp_updL v_rows_0 x2.toNatClampNeg (0 : Int64)) v_rows_1 v_rows_2 v_rows_3 k) else if x1 = 1 then if x1 = x2 then ck (ix x2 4) (pX5_beRoot_L9 x1 n (x2 + (1 : Int32)) v_rows_0 (vp_updL v_rows_1 x2.toNatClampNeg (1 : Int64)) v_rows_2 v_rows_3 k) else ck (ix x2 4) (pX5_beRoot_L9 x1 n (x2 + (1 : Int32)) v_rows_0 (vp_updL v_rows_1 x2.toNatClampNeg (0 : Int64)) v_rows_2 v_rows_3 k) else if x1 = 2 then if x1 = x2 then ck (ix x2 4) (pX5_beRoot_L9 x1 n (x2 + (1 : Int32)) v_rows_0 v_rows_1 (vp_updL v_rows_2 x2.toNatClampNeg (1 : Int64)) v_rows_3 k) else ck (ix x2 4) (pX5_beRoot_L9 x1 n (x2 + (1 : Int32)) v_rows_0 v_rows_1 (vp_updL v_rows_2 x2.toNatClampNeg (0 : Int64)) v_rows_3 k) else if x1 = 3 then if x1 = x2 then ck (ix x2 4) (pX5_beRoot_L9 x1 n (x2 + (1 : Int32)) v_rows_0 v_rows_1 v_rows_2 (vp_updL v_rows_3 x2.toNatClampNeg (1 : Int64)) k) else ck (ix x2 4) (pX5_beRoot_L9 x1 n (x2 + (1 : Int32)) v_rows_0 v_rows_1 v_rows_2 (vp_updL v_rows_3 x2.toNatClampNeg (0 : Int64)) k) else none
def pX5_beRoot_L2 : Nat → Int32 → (Nat → Int64) → (Nat → Int64) → (Nat → Int64) → (Nat → Int64) → (Int32 → (Nat → Int64) → (Nat → Int64) → (Nat → Int64) → (Nat → Int64) → Option ((Nat → Int64) × (Nat → Int64) × (Nat → Int64) × (Nat → Int64))) → Option ((Nat → Int64) × (Nat → Int64) × (Nat → Int64) × (Nat → Int64))
  | 0, _, _, _, _, _, _ => none
  | n + 1, x1, v_rows_0, v_rows_1, v_rows_2, v_rows_3, k => if (4 : Int32) ≤ x1 then k x1 v_rows_0 v_rows_1 v_rows_2 v_rows_3 else pX5_beRoot_L9 x1 n (0 : Int32) v_rows_0 v_rows_1 v_rows_2 v_rows_3 (fun (y2_16 : Int32) (u16_rows_0 : (Nat → Int64)) (u16_rows_1 : (Nat → Int64)) (u16_rows_2 : (Nat → Int64)) (u16_rows_3 : (Nat → Int64)) => pX5_beRoot_L2 n (x1 + (1 : Int32)) u16_rows_0 u16_rows_1 u16_rows_2 u16_rows_3 k)
def pX5_beRoot (n : Nat) (v_rows_0 : (Nat → Int64)) (v_rows_1 : (Nat → Int64)) (v_rows_2 : (Nat → Int64)) (v_rows_3 : (Nat → Int64)) : Option ((Nat → Int64) × (Nat → Int64) × (Nat → Int64) × (Nat → Int64)) := pX5_beRoot_L2 n (0 : Int32) v_rows_0 v_rows_1 v_rows_2 v_rows_3 (fun (y1_17 : Int32) (u17_rows_0 : (Nat → Int64)) (u17_rows_1 : (Nat → Int64)) (u17_rows_2 : (Nat → Int64)) (u17_rows_3 : (Nat → Int64)) => some (u17_rows_0, u17_rows_1, u17_rows_2, u17_rows_3))
def rmX5_beRoot : Room := { frames := 0, cells := 0, slots := 0, locals := 0 }
theorem hiX5_beRoot_X5 : ∀ w ∈ u_ws RX5 TX5 1, w ∈ wsX5_beRoot := fun _ h => List.mem_cons_of_mem _ (List.mem_append_right _ h)
set_option maxRecDepth 100000 in
set_option maxHeartbeats 4000000 in
theorem kX5_beRoot {l : Launch} {G : va_G} {cI cJ cZ cS cG : ClassId} (n : Nat) (q q_rows q_rows_0 q_rows_1 q_rows_2 q_rows_3 : Nat) (v_rows_0 : (Nat → Int64)) (v_rows_1 : (Nat → Int64)) (v_rows_2 : (Nat → Int64)) (v_rows_3 : (Nat → Int64)) (R : (Nat → Int64) × (Nat → Int64) × (Nat → Int64) × (Nat → Int64)) (hf : pX5_beRoot n v_rows_0 v_rows_1 v_rows_2 v_rows_3 = some R) : CTv l yX5_beRoot wsX5_beRoot rmX5_beRoot G cI cJ cZ cS cG [.ref q] [(q, .inr (5, [.ref q_rows])), (q_rows, .inl (cG, 4, .inr (.inr (.inr (.inr (rr4 q_rows_0 q_rows_1 q_rows_2 q_rows_3)))))), (q_rows_0, .inl (cJ, 4, .inr (.inl v_rows_0))), (q_rows_1, .inl (cJ, 4, .inr (.inl v_rows_1))), (q_rows_2, .inl (cJ, 4, .inr (.inl v_rows_2))), (q_rows_3, .inl (cJ, 4, .inr (.inl v_rows_3)))] [(q, .inr (5, [.ref q_rows])), (q_rows, .inl (cG, 4, .inr (.inr (.inr (.inr (rr4 q_rows_0 q_rows_1 q_rows_2 q_rows_3)))))), (q_rows_0, .inl (cJ, 4, .inr (.inl R.1))), (q_rows_1, .inl (cJ, 4, .inr (.inl R.2.1))), (q_rows_2, .inl (cJ, 4, .inr (.inl R.2.2.1))), (q_rows_3, .inl (cJ, 4, .inr (.inl R.2.2.2)))] := by
  refine Met.ofE (Qc := fun A => QRv G A [(q, .inr (5, [.ref q_rows])), (q_rows, .inl (cG, 4, .inr (.inr (.inr (.inr (rr4 q_rows_0 q_rows_1 q_rows_2 q_rows_3)))))), (q_rows_0, .inl (cJ, 4, .inr (.inl R.1))), (q_rows_1, .inl (cJ, 4, .inr (.inl R.2.1))), (q_rows_2, .inl (cJ, 4, .inr (.inl R.2.2.1))), (q_rows_3, .inl (cJ, 4, .inr (.inl R.2.2.2)))]) (cc := cX5_beRoot) (nL := 3) (ret := none) (plainFor_of_name (by decide +kernel)) rfl (Nat.le_of_ble_eq_true rfl) ?_
  intro p e s m below meth c A ls hx hb hml hr hlk hts hown hK hA hP hD hS hl
  have hown : s.vm.findClass RX5 = some m.cls := hown
  have hl : lv_has ls 3 [(0, .ref q)] := hl
  generalize hQ : MQ below (QRv G A [(q, .inr (5, [.ref q_rows])), (q_rows, .inl (cG, 4, .inr (.inr (.inr (.inr (rr4 q_rows_0 q_rows_1 q_rows_2 q_rows_3)))))), (q_rows_0, .inl (cJ, 4, .inr (.inl R.1))), (q_rows_1, .inl (cJ, 4, .inr (.inl R.2.1))), (q_rows_2, .inl (cJ, 4, .inr (.inl R.2.2.1))), (q_rows_3, .inl (cJ, 4, .inr (.inl R.2.2.2)))]) ([.ref q] : List Value).toArray s 0 0 A = QQ
  unfold pX5_beRoot at hf
  have hL9 : ∀ (x1 : Int32) (k : Int32 → (Nat → Int64) → (Nat → Int64) → (Nat → Int64) → (Nat → Int64) → Option ((Nat → Int64) × (Nat → Int64) × (Nat → Int64) × (Nat → Int64))), (∀ (x2 : Int32) (v_rows_0 : (Nat → Int64)) (v_rows_1 : (Nat → Int64)) (v_rows_2 : (Nat → Int64)) (v_rows_3 : (Nat → Int64)) (H : Heap) (locs : List Loc) (ls : Array Slot), k x2 v_rows_0 v_rows_1 v_rows_2 v_rows_3 = some R → va_P G vwCl [(q, .inr (5, [.ref q_rows])), (q_rows, .inl (cG, 4, .inr (.inr (.inr (.inr (rr4 q_rows_0 q_rows_1 q_rows_2 q_rows_3)))))), (q_rows_0, .inl (cJ, 4, .inr (.inl v_rows_0))), (q_rows_1, .inl (cJ, 4, .inr (.inl v_rows_1))), (q_rows_2, .inl (cJ, 4, .inr (.inl v_rows_2))), (q_rows_3, .inl (cJ, 4, .inr (.inl v_rows_3)))] H → va_D A [(q, .inr (5, [.ref q_rows])), (q_rows, .inl (cG, 4, .inr (.inr (.inr (.inr (rr4 q_rows_0 q_rows_1 q_rows_2 q_rows_3)))))), (q_rows_0, .inl (cJ, 4, .inr (.inl v_rows_0))), (q_rows_1, .inl (cJ, 4, .inr (.inl v_rows_1))), (q_rows_2, .inl (cJ, 4, .inr (.inl v_rows_2))), (q_rows_3, .inl (cJ, 4, .inr (.inl v_rows_3)))] → va_S A s.heap H locs → lv_has ls 3 [(0, .ref q), (1, .int x1), (2, .int x2)] → W p l e rmX5_beRoot s m ([.ref q] : List Value).toArray below meth c H locs 0 0 QQ (F0 m 38 ls [])) → ∀ (n : Nat) (x2 : Int32) (v_rows_0 : (Nat → Int64)) (v_rows_1 : (Nat → Int64)) (v_rows_2 : (Nat → Int64)) (v_rows_3 : (Nat → Int64)) (H : Heap) (locs : List Loc) (ls : Array Slot), pX5_beRoot_L9 x1 n x2 v_rows_0 v_rows_1 v_rows_2 v_rows_3 k = some R → va_P G vwCl [(q, .inr (5, [.ref q_rows])), (q_rows, .inl (cG, 4, .inr (.inr (.inr (.inr (rr4 q_rows_0 q_rows_1 q_rows_2 q_rows_3)))))), (q_rows_0, .inl (cJ, 4, .inr (.inl v_rows_0))), (q_rows_1, .inl (cJ, 4, .inr (.inl v_rows_1))), (q_rows_2, .inl (cJ, 4, .inr (.inl v_rows_2))), (q_rows_3, .inl (cJ, 4, .inr (.inl v_rows_3)))] H → va_D A [(q, .inr (5, [.ref q_rows])), (q_rows, .inl (cG, 4, .inr (.inr (.inr (.inr (rr4 q_rows_0 q_rows_1 q_rows_2 q_rows_3)))))), (q_rows_0, .inl (cJ, 4, .inr (.inl v_rows_0))), (q_rows_1, .inl (cJ, 4, .inr (.inl v_rows_1))), (q_rows_2, .inl (cJ, 4, .inr (.inl v_rows_2))), (q_rows_3, .inl (cJ, 4, .inr (.inl v_rows_3)))] → va_S A s.heap H locs → lv_has ls 3 [(0, .ref q), (1, .int x1), (2, .int x2)] → W p l e rmX5_beRoot s m ([.ref q] : List Value).toArray below meth c H locs 0 0 QQ (F0 m 9 ls []) := by
    intro x1 k hk n
    induction n with
    | zero =>
      intro x2 v_rows_0 v_rows_1 v_rows_2 v_rows_3 H locs ls hf
      cases hf
    | succ n ih =>
      intro x2 v_rows_0 v_rows_1 v_rows_2 v_rows_3 H locs ls hf hP hD hS hl
      unfold pX5_beRoot_L9 at hf
      refine lv_iload_n hx hb dX5_beRoot_9 rfl (lv_at hl 2 rfl) ?_
      refine lv_iconst (v := 4) hx hb dX5_beRoot_10 (by decide) ?_
      refine lv_icmp_ge (tgt := 38) hx hb dX5_beRoot_11 (by decide) (fun c2 => ?_) (fun c2 => ?_)
      · have hf := if_s hf c2
        exact hk x2 v_rows_0 v_rows_1 v_rows_2 v_rows_3 _ _ _ hf hP hD hS (lv_sub hl [0, 1, 2] rfl)
      · have hf := if_n hf c2
        refine lv_aload_n hx hb dX5_beRoot_14 rfl (lv_at hl 0 rfl) ?_
        refine va_get (D := G) (ci := 5) (v := .ref q_rows) (C := RX5) (T := TX5) (N := 1) hx hb hts hiX5_beRoot_X5 hown hK.1 hP 0 rfl rfl 0 (by decide) (hts (.fieldLink RX5 11 "PackedBends$Sums" "rows" "[[J") (List.mem_of_getElem? (i := 1) rfl)) (fun _ h9 => h9) rfl dX5_beRoot_15 ?_
        refine lv_iload_n hx hb dX5_beRoot_18 rfl (lv_at hl 1 rfl) ?_
        by_cases c3_0 : x1 = 0
        · have hf := if_s hf c3_0
          refine W.eq (g2 := F0 m 19 ls [.int 0, .ref q_rows]) (by rw [c3_0]) ?_
          refine va_aldA hx hb hK.1 hP 1 4 rfl rfl (vp_in_iff.mpr (by decide)) dX5_beRoot_19 ?_
          refine W.eq (g2 := F0 m 20 ls [.ref q_rows_0]) rfl ?_
          refine lv_iload_n hx hb dX5_beRoot_20 rfl (lv_at hl 2 rfl) ?_
          refine lv_iload_n hx hb dX5_beRoot_21 rfl (lv_at hl 1 rfl) ?_
          refine lv_iload_n hx hb dX5_beRoot_22 rfl (lv_at hl 2 rfl) ?_
          refine lv_icmp_ne (tgt := 30) hx hb dX5_beRoot_23 (by decide) (fun c4 => ?_) (fun c4 => ?_)
          · have hf := if_n hf c4
            refine lv_lconst (v := 0) hx hb dX5_beRoot_30 (by decide) ?_
            obtain ⟨z5, hf⟩ := ck_s hf
            refine va_last hx hb hK.1 hP hD hS 2 1 rfl rfl (vp_in_iff.mpr z5) dX5_beRoot_31 (fun H locs hP hD hS => ?_)
            have hP : va_P G vwCl [(q, .inr (5, [.ref q_rows])), (q_rows, .inl (cG, 4, .inr (.inr (.inr (.inr (rr4 q_rows_0 q_rows_1 q_rows_2 q_rows_3)))))), (q_rows_0, .inl (cJ, 4, .inr (.inl (vp_updL v_rows_0 x2.toNatClampNeg (0 : Int64))))), (q_rows_1, .inl (cJ, 4, .inr (.inl v_rows_1))), (q_rows_2, .inl (cJ, 4, .inr (.inl v_rows_2))), (q_rows_3, .inl (cJ, 4, .inr (.inl v_rows_3)))] H := hP
            have hD : va_D A [(q, .inr (5, [.ref q_rows])), (q_rows, .inl (cG, 4, .inr (.inr (.inr (.inr (rr4 q_rows_0 q_rows_1 q_rows_2 q_rows_3)))))), (q_rows_0, .inl (cJ, 4, .inr (.inl (vp_updL v_rows_0 x2.toNatClampNeg (0 : Int64))))), (q_rows_1, .inl (cJ, 4, .inr (.inl v_rows_1))), (q_rows_2, .inl (cJ, 4, .inr (.inl v_rows_2))), (q_rows_3, .inl (cJ, 4, .inr (.inl v_rows_3)))] := hD
            refine lv_iinc (v := x2 + (1 : Int32)) (lv' := [(2, .int (x2 + (1 : Int32))), (0, .ref q), (1, .int x1)]) hx hb dX5_beRoot_32 hl (k := 2) rfl rfl (by decide) rfl (fun ls hl => ?_)
            refine lv_goto (tgt := 9) hx hb dX5_beRoot_35 (by decide) ?_
            exact ih (x2 + (1 : Int32)) (vp_updL v_rows_0 x2.toNatClampNeg (0 : Int64)) v_rows_1 v_rows_2 v_rows_3 _ _ _ hf hP hD hS (lv_sub hl [1, 2, 0] rfl)
          · have hf := if_s hf c4
            refine lv_lconst (v := 1) hx hb dX5_beRoot_26 (by decide) ?_
            refine lv_goto (tgt := 31) hx hb dX5_beRoot_27 (by decide) ?_
            obtain ⟨z6, hf⟩ := ck_s hf
            refine va_last hx hb hK.1 hP hD hS 2 1 rfl rfl (vp_in_iff.mpr z6) dX5_beRoot_31 (fun H locs hP hD hS => ?_)
            have hP : va_P G vwCl [(q, .inr (5, [.ref q_rows])), (q_rows, .inl (cG, 4, .inr (.inr (.inr (.inr (rr4 q_rows_0 q_rows_1 q_rows_2 q_rows_3)))))), (q_rows_0, .inl (cJ, 4, .inr (.inl (vp_updL v_rows_0 x2.toNatClampNeg (1 : Int64))))), (q_rows_1, .inl (cJ, 4, .inr (.inl v_rows_1))), (q_rows_2, .inl (cJ, 4, .inr (.inl v_rows_2))), (q_rows_3, .inl (cJ, 4, .inr (.inl v_rows_3)))] H := hP
            have hD : va_D A [(q, .inr (5, [.ref q_rows])), (q_rows, .inl (cG, 4, .inr (.inr (.inr (.inr (rr4 q_rows_0 q_rows_1 q_rows_2 q_rows_3)))))), (q_rows_0, .inl (cJ, 4, .inr (.inl (vp_updL v_rows_0 x2.toNatClampNeg (1 : Int64))))), (q_rows_1, .inl (cJ, 4, .inr (.inl v_rows_1))), (q_rows_2, .inl (cJ, 4, .inr (.inl v_rows_2))), (q_rows_3, .inl (cJ, 4, .inr (.inl v_rows_3)))] := hD
            refine lv_iinc (v := x2 + (1 : Int32)) (lv' := [(2, .int (x2 + (1 : Int32))), (0, .ref q), (1, .int x1)]) hx hb dX5_beRoot_32 hl (k := 2) rfl rfl (by decide) rfl (fun ls hl => ?_)
            refine lv_goto (tgt := 9) hx hb dX5_beRoot_35 (by decide) ?_
            exact ih (x2 + (1 : Int32)) (vp_updL v_rows_0 x2.toNatClampNeg (1 : Int64)) v_rows_1 v_rows_2 v_rows_3 _ _ _ hf hP hD hS (lv_sub hl [1, 2, 0] rfl)
        · have hf := if_n hf c3_0
          by_cases c3_1 : x1 = 1
          · have hf := if_s hf c3_1
            refine W.eq (g2 := F0 m 19 ls [.int 1, .ref q_rows]) (by rw [c3_1]) ?_
            refine va_aldA hx hb hK.1 hP 1 4 rfl rfl (vp_in_iff.mpr (by decide)) dX5_beRoot_19 ?_
            refine W.eq (g2 := F0 m 20 ls [.ref q_rows_1]) rfl ?_
            refine lv_iload_n hx hb dX5_beRoot_20 rfl (lv_at hl 2 rfl) ?_
            refine lv_iload_n hx hb dX5_beRoot_21 rfl (lv_at hl 1 rfl) ?_
            refine lv_iload_n hx hb dX5_beRoot_22 rfl (lv_at hl 2 rfl) ?_
            refine lv_icmp_ne (tgt := 30) hx hb dX5_beRoot_23 (by decide) (fun c7 => ?_) (fun c7 => ?_)
            · have hf := if_n hf c7
              refine lv_lconst (v := 0) hx hb dX5_beRoot_30 (by decide) ?_
              obtain ⟨z8, hf⟩ := ck_s hf
              refine va_last hx hb hK.1 hP hD hS 3 1 rfl rfl (vp_in_iff.mpr z8) dX5_beRoot_31 (fun H locs hP hD hS => ?_)
              have hP : va_P G vwCl [(q, .inr (5, [.ref q_rows])), (q_rows, .inl (cG, 4, .inr (.inr (.inr (.inr (rr4 q_rows_0 q_rows_1 q_rows_2 q_rows_3)))))), (q_rows_0, .inl (cJ, 4, .inr (.inl v_rows_0))), (q_rows_1, .inl (cJ, 4, .inr (.inl (vp_updL v_rows_1 x2.toNatClampNeg (0 : Int64))))), (q_rows_2, .inl (cJ, 4, .inr (.inl v_rows_2))), (q_rows_3, .inl (cJ, 4, .inr (.inl v_rows_3)))] H := hP
              have hD : va_D A [(q, .inr (5, [.ref q_rows])), (q_rows, .inl (cG, 4, .inr (.inr (.inr (.inr (rr4 q_rows_0 q_rows_1 q_rows_2 q_rows_3)))))), (q_rows_0, .inl (cJ, 4, .inr (.inl v_rows_0))), (q_rows_1, .inl (cJ, 4, .inr (.inl (vp_updL v_rows_1 x2.toNatClampNeg (0 : Int64))))), (q_rows_2, .inl (cJ, 4, .inr (.inl v_rows_2))), (q_rows_3, .inl (cJ, 4, .inr (.inl v_rows_3)))] := hD
              refine lv_iinc (v := x2 + (1 : Int32)) (lv' := [(2, .int (x2 + (1 : Int32))), (0, .ref q), (1, .int x1)]) hx hb dX5_beRoot_32 hl (k := 2) rfl rfl (by decide) rfl (fun ls hl => ?_)
              refine lv_goto (tgt := 9) hx hb dX5_beRoot_35 (by decide) ?_
              exact ih (x2 + (1 : Int32)) v_rows_0 (vp_updL v_rows_1 x2.toNatClampNeg (0 : Int64)) v_rows_2 v_rows_3 _ _ _ hf hP hD hS (lv_sub hl [1, 2, 0] rfl)
            · have hf := if_s hf c7
              refine lv_lconst (v := 1) hx hb dX5_beRoot_26 (by decide) ?_
              refine lv_goto (tgt := 31) hx hb dX5_beRoot_27 (by decide) ?_
              obtain ⟨z9, hf⟩ := ck_s hf
              refine va_last hx hb hK.1 hP hD hS 3 1 rfl rfl (vp_in_iff.mpr z9) dX5_beRoot_31 (fun H locs hP hD hS => ?_)
              have hP : va_P G vwCl [(q, .inr (5, [.ref q_rows])), (q_rows, .inl (cG, 4, .inr (.inr (.inr (.inr (rr4 q_rows_0 q_rows_1 q_rows_2 q_rows_3)))))), (q_rows_0, .inl (cJ, 4, .inr (.inl v_rows_0))), (q_rows_1, .inl (cJ, 4, .inr (.inl (vp_updL v_rows_1 x2.toNatClampNeg (1 : Int64))))), (q_rows_2, .inl (cJ, 4, .inr (.inl v_rows_2))), (q_rows_3, .inl (cJ, 4, .inr (.inl v_rows_3)))] H := hP
              have hD : va_D A [(q, .inr (5, [.ref q_rows])), (q_rows, .inl (cG, 4, .inr (.inr (.inr (.inr (rr4 q_rows_0 q_rows_1 q_rows_2 q_rows_3)))))), (q_rows_0, .inl (cJ, 4, .inr (.inl v_rows_0))), (q_rows_1, .inl (cJ, 4, .inr (.inl (vp_updL v_rows_1 x2.toNatClampNeg (1 : Int64))))), (q_rows_2, .inl (cJ, 4, .inr (.inl v_rows_2))), (q_rows_3, .inl (cJ, 4, .inr (.inl v_rows_3)))] := hD
              refine lv_iinc (v := x2 + (1 : Int32)) (lv' := [(2, .int (x2 + (1 : Int32))), (0, .ref q), (1, .int x1)]) hx hb dX5_beRoot_32 hl (k := 2) rfl rfl (by decide) rfl (fun ls hl => ?_)
              refine lv_goto (tgt := 9) hx hb dX5_beRoot_35 (by decide) ?_
              exact ih (x2 + (1 : Int32)) v_rows_0 (vp_updL v_rows_1 x2.toNatClampNeg (1 : Int64)) v_rows_2 v_rows_3 _ _ _ hf hP hD hS (lv_sub hl [1, 2, 0] rfl)
          · have hf := if_n hf c3_1
            by_cases c3_2 : x1 = 2
            · have hf := if_s hf c3_2
              refine W.eq (g2 := F0 m 19 ls [.int 2, .ref q_rows]) (by rw [c3_2]) ?_
              refine va_aldA hx hb hK.1 hP 1 4 rfl rfl (vp_in_iff.mpr (by decide)) dX5_beRoot_19 ?_
              refine W.eq (g2 := F0 m 20 ls [.ref q_rows_2]) rfl ?_
              refine lv_iload_n hx hb dX5_beRoot_20 rfl (lv_at hl 2 rfl) ?_
              refine lv_iload_n hx hb dX5_beRoot_21 rfl (lv_at hl 1 rfl) ?_
              refine lv_iload_n hx hb dX5_beRoot_22 rfl (lv_at hl 2 rfl) ?_
              refine lv_icmp_ne (tgt := 30) hx hb dX5_beRoot_23 (by decide) (fun c10 => ?_) (fun c10 => ?_)
              · have hf := if_n hf c10
                refine lv_lconst (v := 0) hx hb dX5_beRoot_30 (by decide) ?_
                obtain ⟨z11, hf⟩ := ck_s hf
                refine va_last hx hb hK.1 hP hD hS 4 1 rfl rfl (vp_in_iff.mpr z11) dX5_beRoot_31 (fun H locs hP hD hS => ?_)
                have hP : va_P G vwCl [(q, .inr (5, [.ref q_rows])), (q_rows, .inl (cG, 4, .inr (.inr (.inr (.inr (rr4 q_rows_0 q_rows_1 q_rows_2 q_rows_3)))))), (q_rows_0, .inl (cJ, 4, .inr (.inl v_rows_0))), (q_rows_1, .inl (cJ, 4, .inr (.inl v_rows_1))), (q_rows_2, .inl (cJ, 4, .inr (.inl (vp_updL v_rows_2 x2.toNatClampNeg (0 : Int64))))), (q_rows_3, .inl (cJ, 4, .inr (.inl v_rows_3)))] H := hP
                have hD : va_D A [(q, .inr (5, [.ref q_rows])), (q_rows, .inl (cG, 4, .inr (.inr (.inr (.inr (rr4 q_rows_0 q_rows_1 q_rows_2 q_rows_3)))))), (q_rows_0, .inl (cJ, 4, .inr (.inl v_rows_0))), (q_rows_1, .inl (cJ, 4, .inr (.inl v_rows_1))), (q_rows_2, .inl (cJ, 4, .inr (.inl (vp_updL v_rows_2 x2.toNatClampNeg (0 : Int64))))), (q_rows_3, .inl (cJ, 4, .inr (.inl v_rows_3)))] := hD
                refine lv_iinc (v := x2 + (1 : Int32)) (lv' := [(2, .int (x2 + (1 : Int32))), (0, .ref q), (1, .int x1)]) hx hb dX5_beRoot_32 hl (k := 2) rfl rfl (by decide) rfl (fun ls hl => ?_)
                refine lv_goto (tgt := 9) hx hb dX5_beRoot_35 (by decide) ?_
                exact ih (x2 + (1 : Int32)) v_rows_0 v_rows_1 (vp_updL v_rows_2 x2.toNatClampNeg (0 : Int64)) v_rows_3 _ _ _ hf hP hD hS (lv_sub hl [1, 2, 0] rfl)
              · have hf := if_s hf c10
                refine lv_lconst (v := 1) hx hb dX5_beRoot_26 (by decide) ?_
                refine lv_goto (tgt := 31) hx hb dX5_beRoot_27 (by decide) ?_
                obtain ⟨z12, hf⟩ := ck_s hf
                refine va_last hx hb hK.1 hP hD hS 4 1 rfl rfl (vp_in_iff.mpr z12) dX5_beRoot_31 (fun H locs hP hD hS => ?_)
                have hP : va_P G vwCl [(q, .inr (5, [.ref q_rows])), (q_rows, .inl (cG, 4, .inr (.inr (.inr (.inr (rr4 q_rows_0 q_rows_1 q_rows_2 q_rows_3)))))), (q_rows_0, .inl (cJ, 4, .inr (.inl v_rows_0))), (q_rows_1, .inl (cJ, 4, .inr (.inl v_rows_1))), (q_rows_2, .inl (cJ, 4, .inr (.inl (vp_updL v_rows_2 x2.toNatClampNeg (1 : Int64))))), (q_rows_3, .inl (cJ, 4, .inr (.inl v_rows_3)))] H := hP
                have hD : va_D A [(q, .inr (5, [.ref q_rows])), (q_rows, .inl (cG, 4, .inr (.inr (.inr (.inr (rr4 q_rows_0 q_rows_1 q_rows_2 q_rows_3)))))), (q_rows_0, .inl (cJ, 4, .inr (.inl v_rows_0))), (q_rows_1, .inl (cJ, 4, .inr (.inl v_rows_1))), (q_rows_2, .inl (cJ, 4, .inr (.inl (vp_updL v_rows_2 x2.toNatClampNeg (1 : Int64))))), (q_rows_3, .inl (cJ, 4, .inr (.inl v_rows_3)))] := hD
                refine lv_iinc (v := x2 + (1 : Int32)) (lv' := [(2, .int (x2 + (1 : Int32))), (0, .ref q), (1, .int x1)]) hx hb dX5_beRoot_32 hl (k := 2) rfl rfl (by decide) rfl (fun ls hl => ?_)
                refine lv_goto (tgt := 9) hx hb dX5_beRoot_35 (by decide) ?_
                exact ih (x2 + (1 : Int32)) v_rows_0 v_rows_1 (vp_updL v_rows_2 x2.toNatClampNeg (1 : Int64)) v_rows_3 _ _ _ hf hP hD hS (lv_sub hl [1, 2, 0] rfl)
            · have hf := if_n hf c3_2
              by_cases c3_3 : x1 = 3
              · have hf := if_s hf c3_3
                refine W.eq (g2 := F0 m 19 ls [.int 3, .ref q_rows]) (by rw [c3_3]) ?_
                refine va_aldA hx hb hK.1 hP 1 4 rfl rfl (vp_in_iff.mpr (by decide)) dX5_beRoot_19 ?_
                refine W.eq (g2 := F0 m 20 ls [.ref q_rows_3]) rfl ?_
                refine lv_iload_n hx hb dX5_beRoot_20 rfl (lv_at hl 2 rfl) ?_
                refine lv_iload_n hx hb dX5_beRoot_21 rfl (lv_at hl 1 rfl) ?_
                refine lv_iload_n hx hb dX5_beRoot_22 rfl (lv_at hl 2 rfl) ?_
                refine lv_icmp_ne (tgt := 30) hx hb dX5_beRoot_23 (by decide) (fun c13 => ?_) (fun c13 => ?_)
                · have hf := if_n hf c13
                  refine lv_lconst (v := 0) hx hb dX5_beRoot_30 (by decide) ?_
                  obtain ⟨z14, hf⟩ := ck_s hf
                  refine va_last hx hb hK.1 hP hD hS 5 1 rfl rfl (vp_in_iff.mpr z14) dX5_beRoot_31 (fun H locs hP hD hS => ?_)
                  have hP : va_P G vwCl [(q, .inr (5, [.ref q_rows])), (q_rows, .inl (cG, 4, .inr (.inr (.inr (.inr (rr4 q_rows_0 q_rows_1 q_rows_2 q_rows_3)))))), (q_rows_0, .inl (cJ, 4, .inr (.inl v_rows_0))), (q_rows_1, .inl (cJ, 4, .inr (.inl v_rows_1))), (q_rows_2, .inl (cJ, 4, .inr (.inl v_rows_2))), (q_rows_3, .inl (cJ, 4, .inr (.inl (vp_updL v_rows_3 x2.toNatClampNeg (0 : Int64)))))] H := hP
                  have hD : va_D A [(q, .inr (5, [.ref q_rows])), (q_rows, .inl (cG, 4, .inr (.inr (.inr (.inr (rr4 q_rows_0 q_rows_1 q_rows_2 q_rows_3)))))), (q_rows_0, .inl (cJ, 4, .inr (.inl v_rows_0))), (q_rows_1, .inl (cJ, 4, .inr (.inl v_rows_1))), (q_rows_2, .inl (cJ, 4, .inr (.inl v_rows_2))), (q_rows_3, .inl (cJ, 4, .inr (.inl (vp_updL v_rows_3 x2.toNatClampNeg (0 : Int64)))))] := hD
                  refine lv_iinc (v := x2 + (1 : Int32)) (lv' := [(2, .int (x2 + (1 : Int32))), (0, .ref q), (1, .int x1)]) hx hb dX5_beRoot_32 hl (k := 2) rfl rfl (by decide) rfl (fun ls hl => ?_)
                  refine lv_goto (tgt := 9) hx hb dX5_beRoot_35 (by decide) ?_
                  exact ih (x2 + (1 : Int32)) v_rows_0 v_rows_1 v_rows_2 (vp_updL v_rows_3 x2.toNatClampNeg (0 : Int64)) _ _ _ hf hP hD hS (lv_sub hl [1, 2, 0] rfl)
                · have hf := if_s hf c13
                  refine lv_lconst (v := 1) hx hb dX5_beRoot_26 (by decide) ?_
                  refine lv_goto (tgt := 31) hx hb dX5_beRoot_27 (by decide) ?_
                  obtain ⟨z15, hf⟩ := ck_s hf
                  refine va_last hx hb hK.1 hP hD hS 5 1 rfl rfl (vp_in_iff.mpr z15) dX5_beRoot_31 (fun H locs hP hD hS => ?_)
                  have hP : va_P G vwCl [(q, .inr (5, [.ref q_rows])), (q_rows, .inl (cG, 4, .inr (.inr (.inr (.inr (rr4 q_rows_0 q_rows_1 q_rows_2 q_rows_3)))))), (q_rows_0, .inl (cJ, 4, .inr (.inl v_rows_0))), (q_rows_1, .inl (cJ, 4, .inr (.inl v_rows_1))), (q_rows_2, .inl (cJ, 4, .inr (.inl v_rows_2))), (q_rows_3, .inl (cJ, 4, .inr (.inl (vp_updL v_rows_3 x2.toNatClampNeg (1 : Int64)))))] H := hP
                  have hD : va_D A [(q, .inr (5, [.ref q_rows])), (q_rows, .inl (cG, 4, .inr (.inr (.inr (.inr (rr4 q_rows_0 q_rows_1 q_rows_2 q_rows_3)))))), (q_rows_0, .inl (cJ, 4, .inr (.inl v_rows_0))), (q_rows_1, .inl (cJ, 4, .inr (.inl v_rows_1))), (q_rows_2, .inl (cJ, 4, .inr (.inl v_rows_2))), (q_rows_3, .inl (cJ, 4, .inr (.inl (vp_updL v_rows_3 x2.toNatClampNeg (1 : Int64)))))] := hD
                  refine lv_iinc (v := x2 + (1 : Int32)) (lv' := [(2, .int (x2 + (1 : Int32))), (0, .ref q), (1, .int x1)]) hx hb dX5_beRoot_32 hl (k := 2) rfl rfl (by decide) rfl (fun ls hl => ?_)
                  refine lv_goto (tgt := 9) hx hb dX5_beRoot_35 (by decide) ?_
                  exact ih (x2 + (1 : Int32)) v_rows_0 v_rows_1 v_rows_2 (vp_updL v_rows_3 x2.toNatClampNeg (1 : Int64)) _ _ _ hf hP hD hS (lv_sub hl [1, 2, 0] rfl)
              · have hf := if_n hf c3_3
                cases hf
  have hL2 : ∀ (k : Int32 → (Nat → Int64) → (Nat → Int64) → (Nat → Int64) → (Nat → Int64) → Option ((Nat → Int64) × (Nat → Int64) × (Nat → Int64) × (Nat → Int64))), (∀ (x1 : Int32) (v_rows_0 : (Nat → Int64)) (v_rows_1 : (Nat → Int64)) (v_rows_2 : (Nat → Int64)) (v_rows_3 : (Nat → Int64)) (H : Heap) (locs : List Loc) (ls : Array Slot), k x1 v_rows_0 v_rows_1 v_rows_2 v_rows_3 = some R → va_P G vwCl [(q, .inr (5, [.ref q_rows])), (q_rows, .inl (cG, 4, .inr (.inr (.inr (.inr (rr4 q_rows_0 q_rows_1 q_rows_2 q_rows_3)))))), (q_rows_0, .inl (cJ, 4, .inr (.inl v_rows_0))), (q_rows_1, .inl (cJ, 4, .inr (.inl v_rows_1))), (q_rows_2, .inl (cJ, 4, .inr (.inl v_rows_2))), (q_rows_3, .inl (cJ, 4, .inr (.inl v_rows_3)))] H → va_D A [(q, .inr (5, [.ref q_rows])), (q_rows, .inl (cG, 4, .inr (.inr (.inr (.inr (rr4 q_rows_0 q_rows_1 q_rows_2 q_rows_3)))))), (q_rows_0, .inl (cJ, 4, .inr (.inl v_rows_0))), (q_rows_1, .inl (cJ, 4, .inr (.inl v_rows_1))), (q_rows_2, .inl (cJ, 4, .inr (.inl v_rows_2))), (q_rows_3, .inl (cJ, 4, .inr (.inl v_rows_3)))] → va_S A s.heap H locs → lv_has ls 3 [(0, .ref q), (1, .int x1)] → W p l e rmX5_beRoot s m ([.ref q] : List Value).toArray below meth c H locs 0 0 QQ (F0 m 44 ls [])) → ∀ (n : Nat) (x1 : Int32) (v_rows_0 : (Nat → Int64)) (v_rows_1 : (Nat → Int64)) (v_rows_2 : (Nat → Int64)) (v_rows_3 : (Nat → Int64)) (H : Heap) (locs : List Loc) (ls : Array Slot), pX5_beRoot_L2 n x1 v_rows_0 v_rows_1 v_rows_2 v_rows_3 k = some R → va_P G vwCl [(q, .inr (5, [.ref q_rows])), (q_rows, .inl (cG, 4, .inr (.inr (.inr (.inr (rr4 q_rows_0 q_rows_1 q_rows_2 q_rows_3)))))), (q_rows_0, .inl (cJ, 4, .inr (.inl v_rows_0))), (q_rows_1, .inl (cJ, 4, .inr (.inl v_rows_1))), (q_rows_2, .inl (cJ, 4, .inr (.inl v_rows_2))), (q_rows_3, .inl (cJ, 4, .inr (.inl v_rows_3)))] H → va_D A [(q, .inr (5, [.ref q_rows])), (q_rows, .inl (cG, 4, .inr (.inr (.inr (.inr (rr4 q_rows_0 q_rows_1 q_rows_2 q_rows_3)))))), (q_rows_0, .inl (cJ, 4, .inr (.inl v_rows_0))), (q_rows_1, .inl (cJ, 4, .inr (.inl v_rows_1))), (q_rows_2, .inl (cJ, 4, .inr (.inl v_rows_2))), (q_rows_3, .inl (cJ, 4, .inr (.inl v_rows_3)))] → va_S A s.heap H locs → lv_has ls 3 [(0, .ref q), (1, .int x1)] → W p l e rmX5_beRoot s m ([.ref q] : List Value).toArray below meth c H locs 0 0 QQ (F0 m 2 ls []) := by
    intro  k hk n
    induction n with
    | zero =>
      intro x1 v_rows_0 v_rows_1 v_rows_2 v_rows_3 H locs ls hf
      cases hf
    | succ n ih =>
      intro x1 v_rows_0 v_rows_1 v_rows_2 v_rows_3 H locs ls hf hP hD hS hl
      unfold pX5_beRoot_L2 at hf
      refine lv_iload_n hx hb dX5_beRoot_2 rfl (lv_at hl 1 rfl) ?_
      refine lv_iconst (v := 4) hx hb dX5_beRoot_3 (by decide) ?_
      refine lv_icmp_ge (tgt := 44) hx hb dX5_beRoot_4 (by decide) (fun c1 => ?_) (fun c1 => ?_)
      · have hf := if_s hf c1
        exact hk x1 v_rows_0 v_rows_1 v_rows_2 v_rows_3 _ _ _ hf hP hD hS (lv_sub hl [0, 1] rfl)
      · have hf := if_n hf c1
        refine lv_iconst (v := 0) hx hb dX5_beRoot_7 (by decide) ?_
        refine lv_istore_n (lv' := [(2, .int (0 : Int32)), (0, .ref q), (1, .int x1)]) hx hb dX5_beRoot_8 rfl hl (by decide) rfl (fun ls hl => ?_)
        refine hL9 x1 _ (fun y2_16 u16_rows_0 u16_rows_1 u16_rows_2 u16_rows_3 H locs ls hf hP hD hS hl => ?_) n (0 : Int32) v_rows_0 v_rows_1 v_rows_2 v_rows_3 _ _ _ hf hP hD hS (lv_sub hl [1, 2, 0] rfl)
        have hP : va_P G vwCl [(q, .inr (5, [.ref q_rows])), (q_rows, .inl (cG, 4, .inr (.inr (.inr (.inr (rr4 q_rows_0 q_rows_1 q_rows_2 q_rows_3)))))), (q_rows_0, .inl (cJ, 4, .inr (.inl u16_rows_0))), (q_rows_1, .inl (cJ, 4, .inr (.inl u16_rows_1))), (q_rows_2, .inl (cJ, 4, .inr (.inl u16_rows_2))), (q_rows_3, .inl (cJ, 4, .inr (.inl u16_rows_3)))] H := hP
        have hD : va_D A [(q, .inr (5, [.ref q_rows])), (q_rows, .inl (cG, 4, .inr (.inr (.inr (.inr (rr4 q_rows_0 q_rows_1 q_rows_2 q_rows_3)))))), (q_rows_0, .inl (cJ, 4, .inr (.inl u16_rows_0))), (q_rows_1, .inl (cJ, 4, .inr (.inl u16_rows_1))), (q_rows_2, .inl (cJ, 4, .inr (.inl u16_rows_2))), (q_rows_3, .inl (cJ, 4, .inr (.inl u16_rows_3)))] := hD
        refine lv_iinc (v := x1 + (1 : Int32)) (lv' := [(1, .int (x1 + (1 : Int32))), (0, .ref q), (2, .int y2_16)]) hx hb dX5_beRoot_38 hl (k := 1) rfl rfl (by decide) rfl (fun ls hl => ?_)
        refine lv_goto (tgt := 2) hx hb dX5_beRoot_41 (by decide) ?_
        exact ih (x1 + (1 : Int32)) u16_rows_0 u16_rows_1 u16_rows_2 u16_rows_3 _ _ _ hf hP hD hS (lv_sub hl [1, 0] rfl)
  refine lv_iconst (v := 0) hx hb dX5_beRoot_0 (by decide) ?_
  refine lv_istore_n (lv' := [(1, .int (0 : Int32)), (0, .ref q)]) hx hb dX5_beRoot_1 rfl hl (by decide) rfl (fun ls hl => ?_)
  refine hL2  _ (fun y1_17 u17_rows_0 u17_rows_1 u17_rows_2 u17_rows_3 H locs ls hf hP hD hS hl => ?_) n (0 : Int32) v_rows_0 v_rows_1 v_rows_2 v_rows_3 _ _ _ hf hP hD hS (lv_sub hl [1, 0] rfl)
  have hP : va_P G vwCl [(q, .inr (5, [.ref q_rows])), (q_rows, .inl (cG, 4, .inr (.inr (.inr (.inr (rr4 q_rows_0 q_rows_1 q_rows_2 q_rows_3)))))), (q_rows_0, .inl (cJ, 4, .inr (.inl u17_rows_0))), (q_rows_1, .inl (cJ, 4, .inr (.inl u17_rows_1))), (q_rows_2, .inl (cJ, 4, .inr (.inl u17_rows_2))), (q_rows_3, .inl (cJ, 4, .inr (.inl u17_rows_3)))] H := hP
  have hD : va_D A [(q, .inr (5, [.ref q_rows])), (q_rows, .inl (cG, 4, .inr (.inr (.inr (.inr (rr4 q_rows_0 q_rows_1 q_rows_2 q_rows_3)))))), (q_rows_0, .inl (cJ, 4, .inr (.inl u17_rows_0))), (q_rows_1, .inl (cJ, 4, .inr (.inl u17_rows_1))), (q_rows_2, .inl (cJ, 4, .inr (.inl u17_rows_2))), (q_rows_3, .inl (cJ, 4, .inr (.inl u17_rows_3)))] := hD
  cases hf
  rw [← hQ]
  exact rt_v hx hb hr hlk hP hD hS dX5_beRoot_44
def pX5_putOver_L2 (x1 : Int32) : Nat → Int32 → (Nat → Int64) → (Nat → Int64) → (Nat → Int64) → (Nat → Int64) → (Int32 → (Nat → Int64) → (Nat → Int64) → (Nat → Int64) → (Nat → Int64) → Option ((Nat → Int64) × (Nat → Int64) × (Nat → Int64) × (Nat → Int64))) → Option ((Nat → Int64) × (Nat → Int64) × (Nat → Int64) × (Nat → Int64))
  | 0, _, _, _, _, _, _ => none
  | n + 1, x2, v_rows_0, v_rows_1, v_rows_2, v_rows_3, k => if (4 : Int32) ≤ x2 then k x2 v_rows_0 v_rows_1 v_rows_2 v_rows_3 else ck (ix x2 4) (if x1 = 0 then pX5_putOver_L2 x1 n (x2 + (1 : Int32)) (vp_updL v_rows_0 x2.toNatClampNeg (((2 : Int64) * (((((v_rows_0 x2.toNatClampNeg) + (v_rows_1 x2.toNatClampNeg)) + (v_rows_2 x2.toNatClampNeg)) + (v_rows_3 x2.toNatClampNeg)) - (v_rows_0 x2.toNatClampNeg))) - (v_rows_0 x2.toNatClampNeg))) v_rows_1 v_rows_2 v_rows_3 k else if x1 = 1 then pX5_putOver_L2 x1 n (x2 + (1 : Int32)) v_rows_0 (vp_updL v_rows_1 x2.toNatClampNeg (((2 : Int64) * (((((v_rows_0 x2.toNatClampNeg) + (v_rows_1 x2.toNatClampNeg)) + (v_rows_2 x2.toNatClampNeg)) + (v_rows_3 x2.toNatClampNeg)) - (v_rows_1 x2.toNatClampNeg))) - (v_rows_1 x2.toNatClampNeg))) v_rows_2 v_rows_3 k else if x1 = 2 then pX5_putOver_L2 x1 n (x2 + (1 : Int32)) v_rows_0 v_rows_1 (vp_updL v_rows_2 x2.toNatClampNeg (((2 : Int64) * (((((v_rows_0 x2.toNatClampNeg) + (v_rows_1 x2.toNatClampNeg)) + (v_rows_2 x2.toNatClampNeg)) + (v_rows_3 x2.toNatClampNeg)) - (v_rows_2 x2.toNatClampNeg))) - (v_rows_2 x2.toNatClampNeg))) v_rows_3 k else if x1 = 3 then pX5_putOver_L2 x1 n (x2 + (1 : Int32)) v_rows_0 v_rows_1 v_rows_2 (vp_updL v_rows_3 x2.toNatClampNeg (((2 : Int64) * (((((v_rows_0 x2.toNatClampNeg) + (v_rows_1 x2.toNatClampNeg)) + (v_rows_2 x2.toNatClampNeg)) + (v_rows_3 x2.toNatClampNeg)) - (v_rows_3 x2.toNatClampNeg))) - (v_rows_3 x2.toNatClampNeg))) k else none)
def pX5_putOver (n : Nat) (v_rows_0 : (Nat → Int64)) (v_rows_1 : (Nat → Int64)) (v_rows_2 : (Nat → Int64)) (v_rows_3 : (Nat → Int64)) (p1 : Int32) : Option ((Nat → Int64) × (Nat → Int64) × (Nat → Int64) × (Nat → Int64)) := pX5_putOver_L2 p1 n (0 : Int32) v_rows_0 v_rows_1 v_rows_2 v_rows_3 (fun (y2_4 : Int32) (u4_rows_0 : (Nat → Int64)) (u4_rows_1 : (Nat → Int64)) (u4_rows_2 : (Nat → Int64)) (u4_rows_3 : (Nat → Int64)) => some (u4_rows_0, u4_rows_1, u4_rows_2, u4_rows_3))
def rmX5_putOver : Room := { frames := 0, cells := 0, slots := 0, locals := 0 }
theorem hiX5_putOver_X5 : ∀ w ∈ u_ws RX5 TX5 1, w ∈ wsX5_putOver := fun _ h => List.mem_cons_of_mem _ (List.mem_append_right _ h)
set_option maxRecDepth 100000 in
set_option maxHeartbeats 4000000 in
theorem kX5_putOver {l : Launch} {G : va_G} {cI cJ cZ cS cG : ClassId} (n : Nat) (q q_rows q_rows_0 q_rows_1 q_rows_2 q_rows_3 : Nat) (v_rows_0 : (Nat → Int64)) (v_rows_1 : (Nat → Int64)) (v_rows_2 : (Nat → Int64)) (v_rows_3 : (Nat → Int64)) (p1 : Int32) (R : (Nat → Int64) × (Nat → Int64) × (Nat → Int64) × (Nat → Int64)) (hf : pX5_putOver n v_rows_0 v_rows_1 v_rows_2 v_rows_3 p1 = some R) : CTv l yX5_putOver wsX5_putOver rmX5_putOver G cI cJ cZ cS cG [.ref q, .int p1] [(q, .inr (5, [.ref q_rows])), (q_rows, .inl (cG, 4, .inr (.inr (.inr (.inr (rr4 q_rows_0 q_rows_1 q_rows_2 q_rows_3)))))), (q_rows_0, .inl (cJ, 4, .inr (.inl v_rows_0))), (q_rows_1, .inl (cJ, 4, .inr (.inl v_rows_1))), (q_rows_2, .inl (cJ, 4, .inr (.inl v_rows_2))), (q_rows_3, .inl (cJ, 4, .inr (.inl v_rows_3)))] [(q, .inr (5, [.ref q_rows])), (q_rows, .inl (cG, 4, .inr (.inr (.inr (.inr (rr4 q_rows_0 q_rows_1 q_rows_2 q_rows_3)))))), (q_rows_0, .inl (cJ, 4, .inr (.inl R.1))), (q_rows_1, .inl (cJ, 4, .inr (.inl R.2.1))), (q_rows_2, .inl (cJ, 4, .inr (.inl R.2.2.1))), (q_rows_3, .inl (cJ, 4, .inr (.inl R.2.2.2)))] := by
  refine Met.ofE (Qc := fun A => QRv G A [(q, .inr (5, [.ref q_rows])), (q_rows, .inl (cG, 4, .inr (.inr (.inr (.inr (rr4 q_rows_0 q_rows_1 q_rows_2 q_rows_3)))))), (q_rows_0, .inl (cJ, 4, .inr (.inl R.1))), (q_rows_1, .inl (cJ, 4, .inr (.inl R.2.1))), (q_rows_2, .inl (cJ, 4, .inr (.inl R.2.2.1))), (q_rows_3, .inl (cJ, 4, .inr (.inl R.2.2.2)))]) (cc := cX5_putOver) (nL := 5) (ret := none) (plainFor_of_name (by decide +kernel)) rfl (Nat.le_of_ble_eq_true rfl) ?_
  intro p e s m below meth c A ls hx hb hml hr hlk hts hown hK hA hP hD hS hl
  have hown : s.vm.findClass RX5 = some m.cls := hown
  have hl : lv_has ls 5 [(0, .ref q), (1, .int p1)] := hl
  generalize hQ : MQ below (QRv G A [(q, .inr (5, [.ref q_rows])), (q_rows, .inl (cG, 4, .inr (.inr (.inr (.inr (rr4 q_rows_0 q_rows_1 q_rows_2 q_rows_3)))))), (q_rows_0, .inl (cJ, 4, .inr (.inl R.1))), (q_rows_1, .inl (cJ, 4, .inr (.inl R.2.1))), (q_rows_2, .inl (cJ, 4, .inr (.inl R.2.2.1))), (q_rows_3, .inl (cJ, 4, .inr (.inl R.2.2.2)))]) ([.ref q, .int p1] : List Value).toArray s 0 0 A = QQ
  unfold pX5_putOver at hf
  have hL2 : ∀ (x1 : Int32) (k : Int32 → (Nat → Int64) → (Nat → Int64) → (Nat → Int64) → (Nat → Int64) → Option ((Nat → Int64) × (Nat → Int64) × (Nat → Int64) × (Nat → Int64))), (∀ (x2 : Int32) (v_rows_0 : (Nat → Int64)) (v_rows_1 : (Nat → Int64)) (v_rows_2 : (Nat → Int64)) (v_rows_3 : (Nat → Int64)) (H : Heap) (locs : List Loc) (ls : Array Slot), k x2 v_rows_0 v_rows_1 v_rows_2 v_rows_3 = some R → va_P G vwCl [(q, .inr (5, [.ref q_rows])), (q_rows, .inl (cG, 4, .inr (.inr (.inr (.inr (rr4 q_rows_0 q_rows_1 q_rows_2 q_rows_3)))))), (q_rows_0, .inl (cJ, 4, .inr (.inl v_rows_0))), (q_rows_1, .inl (cJ, 4, .inr (.inl v_rows_1))), (q_rows_2, .inl (cJ, 4, .inr (.inl v_rows_2))), (q_rows_3, .inl (cJ, 4, .inr (.inl v_rows_3)))] H → va_D A [(q, .inr (5, [.ref q_rows])), (q_rows, .inl (cG, 4, .inr (.inr (.inr (.inr (rr4 q_rows_0 q_rows_1 q_rows_2 q_rows_3)))))), (q_rows_0, .inl (cJ, 4, .inr (.inl v_rows_0))), (q_rows_1, .inl (cJ, 4, .inr (.inl v_rows_1))), (q_rows_2, .inl (cJ, 4, .inr (.inl v_rows_2))), (q_rows_3, .inl (cJ, 4, .inr (.inl v_rows_3)))] → va_S A s.heap H locs → lv_has ls 5 [(0, .ref q), (1, .int x1), (2, .int x2)] → W p l e rmX5_putOver s m ([.ref q, .int p1] : List Value).toArray below meth c H locs 0 0 QQ (F0 m 80 ls [])) → ∀ (n : Nat) (x2 : Int32) (v_rows_0 : (Nat → Int64)) (v_rows_1 : (Nat → Int64)) (v_rows_2 : (Nat → Int64)) (v_rows_3 : (Nat → Int64)) (H : Heap) (locs : List Loc) (ls : Array Slot), pX5_putOver_L2 x1 n x2 v_rows_0 v_rows_1 v_rows_2 v_rows_3 k = some R → va_P G vwCl [(q, .inr (5, [.ref q_rows])), (q_rows, .inl (cG, 4, .inr (.inr (.inr (.inr (rr4 q_rows_0 q_rows_1 q_rows_2 q_rows_3)))))), (q_rows_0, .inl (cJ, 4, .inr (.inl v_rows_0))), (q_rows_1, .inl (cJ, 4, .inr (.inl v_rows_1))), (q_rows_2, .inl (cJ, 4, .inr (.inl v_rows_2))), (q_rows_3, .inl (cJ, 4, .inr (.inl v_rows_3)))] H → va_D A [(q, .inr (5, [.ref q_rows])), (q_rows, .inl (cG, 4, .inr (.inr (.inr (.inr (rr4 q_rows_0 q_rows_1 q_rows_2 q_rows_3)))))), (q_rows_0, .inl (cJ, 4, .inr (.inl v_rows_0))), (q_rows_1, .inl (cJ, 4, .inr (.inl v_rows_1))), (q_rows_2, .inl (cJ, 4, .inr (.inl v_rows_2))), (q_rows_3, .inl (cJ, 4, .inr (.inl v_rows_3)))] → va_S A s.heap H locs → lv_has ls 5 [(0, .ref q), (1, .int x1), (2, .int x2)] → W p l e rmX5_putOver s m ([.ref q, .int p1] : List Value).toArray below meth c H locs 0 0 QQ (F0 m 2 ls []) := by
    intro x1 k hk n
    induction n with
    | zero =>
      intro x2 v_rows_0 v_rows_1 v_rows_2 v_rows_3 H locs ls hf
      cases hf
    | succ n ih =>
      intro x2 v_rows_0 v_rows_1 v_rows_2 v_rows_3 H locs ls hf hP hD hS hl
      unfold pX5_putOver_L2 at hf
      refine lv_iload_n hx hb dX5_putOver_2 rfl (lv_at hl 2 rfl) ?_
      refine lv_iconst (v := 4) hx hb dX5_putOver_3 (by decide) ?_
      refine lv_icmp_ge (tgt := 80) hx hb dX5_putOver_4 (by decide) (fun c1 => ?_) (fun c1 => ?_)
      · have hf := if_s hf c1
        exact hk x2 v_rows_0 v_rows_1 v_rows_2 v_rows_3 _ _ _ hf hP hD hS (lv_sub hl [0, 1, 2] rfl)
      · have hf := if_n hf c1
        refine lv_aload_n hx hb dX5_putOver_7 rfl (lv_at hl 0 rfl) ?_
        refine va_get (D := G) (ci := 5) (v := .ref q_rows) (C := RX5) (T := TX5) (N := 1) hx hb hts hiX5_putOver_X5 hown hK.1 hP 0 rfl rfl 0 (by decide) (hts (.fieldLink RX5 11 "PackedBends$Sums" "rows" "[[J") (List.mem_of_getElem? (i := 1) rfl)) (fun _ h9 => h9) rfl dX5_putOver_8 ?_
        refine lv_iconst (v := 0) hx hb dX5_putOver_11 (by decide) ?_
        refine va_aldA hx hb hK.1 hP 1 4 rfl rfl (vp_in_iff.mpr (by decide)) dX5_putOver_12 ?_
        refine W.eq (g2 := F0 m 13 ls [.ref q_rows_0]) rfl ?_
        refine lv_iload_n hx hb dX5_putOver_13 rfl (lv_at hl 2 rfl) ?_
        obtain ⟨z2, hf⟩ := ck_s hf
        refine va_lald hx hb hK.1 hP 2 1 rfl rfl (vp_in_iff.mpr z2) dX5_putOver_14 ?_
        refine lv_aload_n hx hb dX5_putOver_15 rfl (lv_at hl 0 rfl) ?_
        refine va_get (D := G) (ci := 5) (v := .ref q_rows) (C := RX5) (T := TX5) (N := 1) hx hb hts hiX5_putOver_X5 hown hK.1 hP 0 rfl rfl 0 (by decide) (hts (.fieldLink RX5 11 "PackedBends$Sums" "rows" "[[J") (List.mem_of_getElem? (i := 1) rfl)) (fun _ h9 => h9) rfl dX5_putOver_16 ?_
        refine lv_iconst (v := 1) hx hb dX5_putOver_19 (by decide) ?_
        refine va_aldA hx hb hK.1 hP 1 4 rfl rfl (vp_in_iff.mpr (by decide)) dX5_putOver_20 ?_
        refine W.eq (g2 := F0 m 21 ls [.ref q_rows_1, .long (v_rows_0 x2.toNatClampNeg)]) rfl ?_
        refine lv_iload_n hx hb dX5_putOver_21 rfl (lv_at hl 2 rfl) ?_
        refine va_lald hx hb hK.1 hP 3 1 rfl rfl (vp_in_iff.mpr z2) dX5_putOver_22 ?_
        refine lv_ladd hx hb dX5_putOver_23 ?_
        refine lv_aload_n hx hb dX5_putOver_24 rfl (lv_at hl 0 rfl) ?_
        refine va_get (D := G) (ci := 5) (v := .ref q_rows) (C := RX5) (T := TX5) (N := 1) hx hb hts hiX5_putOver_X5 hown hK.1 hP 0 rfl rfl 0 (by decide) (hts (.fieldLink RX5 11 "PackedBends$Sums" "rows" "[[J") (List.mem_of_getElem? (i := 1) rfl)) (fun _ h9 => h9) rfl dX5_putOver_25 ?_
        refine lv_iconst (v := 2) hx hb dX5_putOver_28 (by decide) ?_
        refine va_aldA hx hb hK.1 hP 1 4 rfl rfl (vp_in_iff.mpr (by decide)) dX5_putOver_29 ?_
        refine W.eq (g2 := F0 m 30 ls [.ref q_rows_2, .long ((v_rows_0 x2.toNatClampNeg) + (v_rows_1 x2.toNatClampNeg))]) rfl ?_
        refine lv_iload_n hx hb dX5_putOver_30 rfl (lv_at hl 2 rfl) ?_
        refine va_lald hx hb hK.1 hP 4 1 rfl rfl (vp_in_iff.mpr z2) dX5_putOver_31 ?_
        refine lv_ladd hx hb dX5_putOver_32 ?_
        refine lv_aload_n hx hb dX5_putOver_33 rfl (lv_at hl 0 rfl) ?_
        refine va_get (D := G) (ci := 5) (v := .ref q_rows) (C := RX5) (T := TX5) (N := 1) hx hb hts hiX5_putOver_X5 hown hK.1 hP 0 rfl rfl 0 (by decide) (hts (.fieldLink RX5 11 "PackedBends$Sums" "rows" "[[J") (List.mem_of_getElem? (i := 1) rfl)) (fun _ h9 => h9) rfl dX5_putOver_34 ?_
        refine lv_iconst (v := 3) hx hb dX5_putOver_37 (by decide) ?_
        refine va_aldA hx hb hK.1 hP 1 4 rfl rfl (vp_in_iff.mpr (by decide)) dX5_putOver_38 ?_
        refine W.eq (g2 := F0 m 39 ls [.ref q_rows_3, .long (((v_rows_0 x2.toNatClampNeg) + (v_rows_1 x2.toNatClampNeg)) + (v_rows_2 x2.toNatClampNeg))]) rfl ?_
        refine lv_iload_n hx hb dX5_putOver_39 rfl (lv_at hl 2 rfl) ?_
        refine va_lald hx hb hK.1 hP 5 1 rfl rfl (vp_in_iff.mpr z2) dX5_putOver_40 ?_
        refine lv_ladd hx hb dX5_putOver_41 ?_
        refine lv_lstore_n (lv' := [(3, .long ((((v_rows_0 x2.toNatClampNeg) + (v_rows_1 x2.toNatClampNeg)) + (v_rows_2 x2.toNatClampNeg)) + (v_rows_3 x2.toNatClampNeg))), (0, .ref q), (1, .int x1), (2, .int x2)]) hx hb dX5_putOver_42 rfl hl (by decide) rfl (fun ls hl => ?_)
        refine lv_aload_n hx hb dX5_putOver_43 rfl (lv_at hl 1 rfl) ?_
        refine va_get (D := G) (ci := 5) (v := .ref q_rows) (C := RX5) (T := TX5) (N := 1) hx hb hts hiX5_putOver_X5 hown hK.1 hP 0 rfl rfl 0 (by decide) (hts (.fieldLink RX5 11 "PackedBends$Sums" "rows" "[[J") (List.mem_of_getElem? (i := 1) rfl)) (fun _ h9 => h9) rfl dX5_putOver_44 ?_
        refine lv_iload_n hx hb dX5_putOver_47 rfl (lv_at hl 2 rfl) ?_
        by_cases c3_0 : x1 = 0
        · have hf := if_s hf c3_0
          refine W.eq (g2 := F0 m 48 ls [.int 0, .ref q_rows]) (by rw [c3_0]) ?_
          refine va_aldA hx hb hK.1 hP 1 4 rfl rfl (vp_in_iff.mpr (by decide)) dX5_putOver_48 ?_
          refine W.eq (g2 := F0 m 49 ls [.ref q_rows_0]) rfl ?_
          refine lv_iload_n hx hb dX5_putOver_49 rfl (lv_at hl 3 rfl) ?_
          refine lv_ldc2 (v := 2) hx hb hown (hts (.constantLong RX5 28 (2)) (List.mem_of_getElem? (i := 2) rfl)) dX5_putOver_50 ?_
          refine lv_lload_n hx hb dX5_putOver_53 rfl (lv_at hl 0 rfl) ?_
          refine lv_aload_n hx hb dX5_putOver_54 rfl (lv_at hl 1 rfl) ?_
          refine va_get (D := G) (ci := 5) (v := .ref q_rows) (C := RX5) (T := TX5) (N := 1) hx hb hts hiX5_putOver_X5 hown hK.1 hP 0 rfl rfl 0 (by decide) (hts (.fieldLink RX5 11 "PackedBends$Sums" "rows" "[[J") (List.mem_of_getElem? (i := 1) rfl)) (fun _ h9 => h9) rfl dX5_putOver_55 ?_
          refine lv_iload_n hx hb dX5_putOver_58 rfl (lv_at hl 2 rfl) ?_
          refine W.eq (g2 := F0 m 59 ls [.int 0, .ref q_rows, .long ((((v_rows_0 x2.toNatClampNeg) + (v_rows_1 x2.toNatClampNeg)) + (v_rows_2 x2.toNatClampNeg)) + (v_rows_3 x2.toNatClampNeg)), .long (2 : Int64), .int x2, .ref q_rows_0]) (by rw [c3_0]) ?_
          refine va_aldA hx hb hK.1 hP 1 4 rfl rfl (vp_in_iff.mpr (by decide)) dX5_putOver_59 ?_
          refine W.eq (g2 := F0 m 60 ls [.ref q_rows_0, .long ((((v_rows_0 x2.toNatClampNeg) + (v_rows_1 x2.toNatClampNeg)) + (v_rows_2 x2.toNatClampNeg)) + (v_rows_3 x2.toNatClampNeg)), .long (2 : Int64), .int x2, .ref q_rows_0]) rfl ?_
          refine lv_iload_n hx hb dX5_putOver_60 rfl (lv_at hl 3 rfl) ?_
          refine va_lald hx hb hK.1 hP 2 1 rfl rfl (vp_in_iff.mpr z2) dX5_putOver_61 ?_
          refine lv_lsub hx hb dX5_putOver_62 ?_
          refine lv_lmul hx hb dX5_putOver_63 ?_
          refine lv_aload_n hx hb dX5_putOver_64 rfl (lv_at hl 1 rfl) ?_
          refine va_get (D := G) (ci := 5) (v := .ref q_rows) (C := RX5) (T := TX5) (N := 1) hx hb hts hiX5_putOver_X5 hown hK.1 hP 0 rfl rfl 0 (by decide) (hts (.fieldLink RX5 11 "PackedBends$Sums" "rows" "[[J") (List.mem_of_getElem? (i := 1) rfl)) (fun _ h9 => h9) rfl dX5_putOver_65 ?_
          refine lv_iload_n hx hb dX5_putOver_68 rfl (lv_at hl 2 rfl) ?_
          refine W.eq (g2 := F0 m 69 ls [.int 0, .ref q_rows, .long ((2 : Int64) * (((((v_rows_0 x2.toNatClampNeg) + (v_rows_1 x2.toNatClampNeg)) + (v_rows_2 x2.toNatClampNeg)) + (v_rows_3 x2.toNatClampNeg)) - (v_rows_0 x2.toNatClampNeg))), .int x2, .ref q_rows_0]) (by rw [c3_0]) ?_
          refine va_aldA hx hb hK.1 hP 1 4 rfl rfl (vp_in_iff.mpr (by decide)) dX5_putOver_69 ?_
          refine W.eq (g2 := F0 m 70 ls [.ref q_rows_0, .long ((2 : Int64) * (((((v_rows_0 x2.toNatClampNeg) + (v_rows_1 x2.toNatClampNeg)) + (v_rows_2 x2.toNatClampNeg)) + (v_rows_3 x2.toNatClampNeg)) - (v_rows_0 x2.toNatClampNeg))), .int x2, .ref q_rows_0]) rfl ?_
          refine lv_iload_n hx hb dX5_putOver_70 rfl (lv_at hl 3 rfl) ?_
          refine va_lald hx hb hK.1 hP 2 1 rfl rfl (vp_in_iff.mpr z2) dX5_putOver_71 ?_
          refine lv_lsub hx hb dX5_putOver_72 ?_
          refine va_last hx hb hK.1 hP hD hS 2 1 rfl rfl (vp_in_iff.mpr z2) dX5_putOver_73 (fun H locs hP hD hS => ?_)
          have hP : va_P G vwCl [(q, .inr (5, [.ref q_rows])), (q_rows, .inl (cG, 4, .inr (.inr (.inr (.inr (rr4 q_rows_0 q_rows_1 q_rows_2 q_rows_3)))))), (q_rows_0, .inl (cJ, 4, .inr (.inl (vp_updL v_rows_0 x2.toNatClampNeg (((2 : Int64) * (((((v_rows_0 x2.toNatClampNeg) + (v_rows_1 x2.toNatClampNeg)) + (v_rows_2 x2.toNatClampNeg)) + (v_rows_3 x2.toNatClampNeg)) - (v_rows_0 x2.toNatClampNeg))) - (v_rows_0 x2.toNatClampNeg)))))), (q_rows_1, .inl (cJ, 4, .inr (.inl v_rows_1))), (q_rows_2, .inl (cJ, 4, .inr (.inl v_rows_2))), (q_rows_3, .inl (cJ, 4, .inr (.inl v_rows_3)))] H := hP
          have hD : va_D A [(q, .inr (5, [.ref q_rows])), (q_rows, .inl (cG, 4, .inr (.inr (.inr (.inr (rr4 q_rows_0 q_rows_1 q_rows_2 q_rows_3)))))), (q_rows_0, .inl (cJ, 4, .inr (.inl (vp_updL v_rows_0 x2.toNatClampNeg (((2 : Int64) * (((((v_rows_0 x2.toNatClampNeg) + (v_rows_1 x2.toNatClampNeg)) + (v_rows_2 x2.toNatClampNeg)) + (v_rows_3 x2.toNatClampNeg)) - (v_rows_0 x2.toNatClampNeg))) - (v_rows_0 x2.toNatClampNeg)))))), (q_rows_1, .inl (cJ, 4, .inr (.inl v_rows_1))), (q_rows_2, .inl (cJ, 4, .inr (.inl v_rows_2))), (q_rows_3, .inl (cJ, 4, .inr (.inl v_rows_3)))] := hD
          refine lv_iinc (v := x2 + (1 : Int32)) (lv' := [(2, .int (x2 + (1 : Int32))), (3, .long ((((v_rows_0 x2.toNatClampNeg) + (v_rows_1 x2.toNatClampNeg)) + (v_rows_2 x2.toNatClampNeg)) + (v_rows_3 x2.toNatClampNeg))), (0, .ref q), (1, .int x1)]) hx hb dX5_putOver_74 hl (k := 3) rfl rfl (by decide) rfl (fun ls hl => ?_)
          refine lv_goto (tgt := 2) hx hb dX5_putOver_77 (by decide) ?_
          exact ih (x2 + (1 : Int32)) (vp_updL v_rows_0 x2.toNatClampNeg (((2 : Int64) * (((((v_rows_0 x2.toNatClampNeg) + (v_rows_1 x2.toNatClampNeg)) + (v_rows_2 x2.toNatClampNeg)) + (v_rows_3 x2.toNatClampNeg)) - (v_rows_0 x2.toNatClampNeg))) - (v_rows_0 x2.toNatClampNeg))) v_rows_1 v_rows_2 v_rows_3 _ _ _ hf hP hD hS (lv_sub hl [2, 3, 0] rfl)
        · have hf := if_n hf c3_0
          by_cases c3_1 : x1 = 1
          · have hf := if_s hf c3_1
            refine W.eq (g2 := F0 m 48 ls [.int 1, .ref q_rows]) (by rw [c3_1]) ?_
            refine va_aldA hx hb hK.1 hP 1 4 rfl rfl (vp_in_iff.mpr (by decide)) dX5_putOver_48 ?_
            refine W.eq (g2 := F0 m 49 ls [.ref q_rows_1]) rfl ?_
            refine lv_iload_n hx hb dX5_putOver_49 rfl (lv_at hl 3 rfl) ?_
            refine lv_ldc2 (v := 2) hx hb hown (hts (.constantLong RX5 28 (2)) (List.mem_of_getElem? (i := 2) rfl)) dX5_putOver_50 ?_
            refine lv_lload_n hx hb dX5_putOver_53 rfl (lv_at hl 0 rfl) ?_
            refine lv_aload_n hx hb dX5_putOver_54 rfl (lv_at hl 1 rfl) ?_
            refine va_get (D := G) (ci := 5) (v := .ref q_rows) (C := RX5) (T := TX5) (N := 1) hx hb hts hiX5_putOver_X5 hown hK.1 hP 0 rfl rfl 0 (by decide) (hts (.fieldLink RX5 11 "PackedBends$Sums" "rows" "[[J") (List.mem_of_getElem? (i := 1) rfl)) (fun _ h9 => h9) rfl dX5_putOver_55 ?_
            refine lv_iload_n hx hb dX5_putOver_58 rfl (lv_at hl 2 rfl) ?_
            refine W.eq (g2 := F0 m 59 ls [.int 1, .ref q_rows, .long ((((v_rows_0 x2.toNatClampNeg) + (v_rows_1 x2.toNatClampNeg)) + (v_rows_2 x2.toNatClampNeg)) + (v_rows_3 x2.toNatClampNeg)), .long (2 : Int64), .int x2, .ref q_rows_1]) (by rw [c3_1]) ?_
            refine va_aldA hx hb hK.1 hP 1 4 rfl rfl (vp_in_iff.mpr (by decide)) dX5_putOver_59 ?_
            refine W.eq (g2 := F0 m 60 ls [.ref q_rows_1, .long ((((v_rows_0 x2.toNatClampNeg) + (v_rows_1 x2.toNatClampNeg)) + (v_rows_2 x2.toNatClampNeg)) + (v_rows_3 x2.toNatClampNeg)), .long (2 : Int64), .int x2, .ref q_rows_1]) rfl ?_
            refine lv_iload_n hx hb dX5_putOver_60 rfl (lv_at hl 3 rfl) ?_
            refine va_lald hx hb hK.1 hP 3 1 rfl rfl (vp_in_iff.mpr z2) dX5_putOver_61 ?_
            refine lv_lsub hx hb dX5_putOver_62 ?_
            refine lv_lmul hx hb dX5_putOver_63 ?_
            refine lv_aload_n hx hb dX5_putOver_64 rfl (lv_at hl 1 rfl) ?_
            refine va_get (D := G) (ci := 5) (v := .ref q_rows) (C := RX5) (T := TX5) (N := 1) hx hb hts hiX5_putOver_X5 hown hK.1 hP 0 rfl rfl 0 (by decide) (hts (.fieldLink RX5 11 "PackedBends$Sums" "rows" "[[J") (List.mem_of_getElem? (i := 1) rfl)) (fun _ h9 => h9) rfl dX5_putOver_65 ?_
            refine lv_iload_n hx hb dX5_putOver_68 rfl (lv_at hl 2 rfl) ?_
            refine W.eq (g2 := F0 m 69 ls [.int 1, .ref q_rows, .long ((2 : Int64) * (((((v_rows_0 x2.toNatClampNeg) + (v_rows_1 x2.toNatClampNeg)) + (v_rows_2 x2.toNatClampNeg)) + (v_rows_3 x2.toNatClampNeg)) - (v_rows_1 x2.toNatClampNeg))), .int x2, .ref q_rows_1]) (by rw [c3_1]) ?_
            refine va_aldA hx hb hK.1 hP 1 4 rfl rfl (vp_in_iff.mpr (by decide)) dX5_putOver_69 ?_
            refine W.eq (g2 := F0 m 70 ls [.ref q_rows_1, .long ((2 : Int64) * (((((v_rows_0 x2.toNatClampNeg) + (v_rows_1 x2.toNatClampNeg)) + (v_rows_2 x2.toNatClampNeg)) + (v_rows_3 x2.toNatClampNeg)) - (v_rows_1 x2.toNatClampNeg))), .int x2, .ref q_rows_1]) rfl ?_
            refine lv_iload_n hx hb dX5_putOver_70 rfl (lv_at hl 3 rfl) ?_
            refine va_lald hx hb hK.1 hP 3 1 rfl rfl (vp_in_iff.mpr z2) dX5_putOver_71 ?_
            refine lv_lsub hx hb dX5_putOver_72 ?_
            refine va_last hx hb hK.1 hP hD hS 3 1 rfl rfl (vp_in_iff.mpr z2) dX5_putOver_73 (fun H locs hP hD hS => ?_)
            have hP : va_P G vwCl [(q, .inr (5, [.ref q_rows])), (q_rows, .inl (cG, 4, .inr (.inr (.inr (.inr (rr4 q_rows_0 q_rows_1 q_rows_2 q_rows_3)))))), (q_rows_0, .inl (cJ, 4, .inr (.inl v_rows_0))), (q_rows_1, .inl (cJ, 4, .inr (.inl (vp_updL v_rows_1 x2.toNatClampNeg (((2 : Int64) * (((((v_rows_0 x2.toNatClampNeg) + (v_rows_1 x2.toNatClampNeg)) + (v_rows_2 x2.toNatClampNeg)) + (v_rows_3 x2.toNatClampNeg)) - (v_rows_1 x2.toNatClampNeg))) - (v_rows_1 x2.toNatClampNeg)))))), (q_rows_2, .inl (cJ, 4, .inr (.inl v_rows_2))), (q_rows_3, .inl (cJ, 4, .inr (.inl v_rows_3)))] H := hP
            have hD : va_D A [(q, .inr (5, [.ref q_rows])), (q_rows, .inl (cG, 4, .inr (.inr (.inr (.inr (rr4 q_rows_0 q_rows_1 q_rows_2 q_rows_3)))))), (q_rows_0, .inl (cJ, 4, .inr (.inl v_rows_0))), (q_rows_1, .inl (cJ, 4, .inr (.inl (vp_updL v_rows_1 x2.toNatClampNeg (((2 : Int64) * (((((v_rows_0 x2.toNatClampNeg) + (v_rows_1 x2.toNatClampNeg)) + (v_rows_2 x2.toNatClampNeg)) + (v_rows_3 x2.toNatClampNeg)) - (v_rows_1 x2.toNatClampNeg))) - (v_rows_1 x2.toNatClampNeg)))))), (q_rows_2, .inl (cJ, 4, .inr (.inl v_rows_2))), (q_rows_3, .inl (cJ, 4, .inr (.inl v_rows_3)))] := hD
            refine lv_iinc (v := x2 + (1 : Int32)) (lv' := [(2, .int (x2 + (1 : Int32))), (3, .long ((((v_rows_0 x2.toNatClampNeg) + (v_rows_1 x2.toNatClampNeg)) + (v_rows_2 x2.toNatClampNeg)) + (v_rows_3 x2.toNatClampNeg))), (0, .ref q), (1, .int x1)]) hx hb dX5_putOver_74 hl (k := 3) rfl rfl (by decide) rfl (fun ls hl => ?_)
            refine lv_goto (tgt := 2) hx hb dX5_putOver_77 (by decide) ?_
            exact ih (x2 + (1 : Int32)) v_rows_0 (vp_updL v_rows_1 x2.toNatClampNeg (((2 : Int64) * (((((v_rows_0 x2.toNatClampNeg) + (v_rows_1 x2.toNatClampNeg)) + (v_rows_2 x2.toNatClampNeg)) + (v_rows_3 x2.toNatClampNeg)) - (v_rows_1 x2.toNatClampNeg))) - (v_rows_1 x2.toNatClampNeg))) v_rows_2 v_rows_3 _ _ _ hf hP hD hS (lv_sub hl [2, 3, 0] rfl)
          · have hf := if_n hf c3_1
            by_cases c3_2 : x1 = 2
            · have hf := if_s hf c3_2
              refine W.eq (g2 := F0 m 48 ls [.int 2, .ref q_rows]) (by rw [c3_2]) ?_
              refine va_aldA hx hb hK.1 hP 1 4 rfl rfl (vp_in_iff.mpr (by decide)) dX5_putOver_48 ?_
              refine W.eq (g2 := F0 m 49 ls [.ref q_rows_2]) rfl ?_
              refine lv_iload_n hx hb dX5_putOver_49 rfl (lv_at hl 3 rfl) ?_
              refine lv_ldc2 (v := 2) hx hb hown (hts (.constantLong RX5 28 (2)) (List.mem_of_getElem? (i := 2) rfl)) dX5_putOver_50 ?_
              refine lv_lload_n hx hb dX5_putOver_53 rfl (lv_at hl 0 rfl) ?_
              refine lv_aload_n hx hb dX5_putOver_54 rfl (lv_at hl 1 rfl) ?_
              refine va_get (D := G) (ci := 5) (v := .ref q_rows) (C := RX5) (T := TX5) (N := 1) hx hb hts hiX5_putOver_X5 hown hK.1 hP 0 rfl rfl 0 (by decide) (hts (.fieldLink RX5 11 "PackedBends$Sums" "rows" "[[J") (List.mem_of_getElem? (i := 1) rfl)) (fun _ h9 => h9) rfl dX5_putOver_55 ?_
              refine lv_iload_n hx hb dX5_putOver_58 rfl (lv_at hl 2 rfl) ?_
              refine W.eq (g2 := F0 m 59 ls [.int 2, .ref q_rows, .long ((((v_rows_0 x2.toNatClampNeg) + (v_rows_1 x2.toNatClampNeg)) + (v_rows_2 x2.toNatClampNeg)) + (v_rows_3 x2.toNatClampNeg)), .long (2 : Int64), .int x2, .ref q_rows_2]) (by rw [c3_2]) ?_
              refine va_aldA hx hb hK.1 hP 1 4 rfl rfl (vp_in_iff.mpr (by decide)) dX5_putOver_59 ?_
              refine W.eq (g2 := F0 m 60 ls [.ref q_rows_2, .long ((((v_rows_0 x2.toNatClampNeg) + (v_rows_1 x2.toNatClampNeg)) + (v_rows_2 x2.toNatClampNeg)) + (v_rows_3 x2.toNatClampNeg)), .long (2 : Int64), .int x2, .ref q_rows_2]) rfl ?_
              refine lv_iload_n hx hb dX5_putOver_60 rfl (lv_at hl 3 rfl) ?_
              refine va_lald hx hb hK.1 hP 4 1 rfl rfl (vp_in_iff.mpr z2) dX5_putOver_61 ?_
              refine lv_lsub hx hb dX5_putOver_62 ?_
              refine lv_lmul hx hb dX5_putOver_63 ?_
              refine lv_aload_n hx hb dX5_putOver_64 rfl (lv_at hl 1 rfl) ?_
              refine va_get (D := G) (ci := 5) (v := .ref q_rows) (C := RX5) (T := TX5) (N := 1) hx hb hts hiX5_putOver_X5 hown hK.1 hP 0 rfl rfl 0 (by decide) (hts (.fieldLink RX5 11 "PackedBends$Sums" "rows" "[[J") (List.mem_of_getElem? (i := 1) rfl)) (fun _ h9 => h9) rfl dX5_putOver_65 ?_
              refine lv_iload_n hx hb dX5_putOver_68 rfl (lv_at hl 2 rfl) ?_
              refine W.eq (g2 := F0 m 69 ls [.int 2, .ref q_rows, .long ((2 : Int64) * (((((v_rows_0 x2.toNatClampNeg) + (v_rows_1 x2.toNatClampNeg)) + (v_rows_2 x2.toNatClampNeg)) + (v_rows_3 x2.toNatClampNeg)) - (v_rows_2 x2.toNatClampNeg))), .int x2, .ref q_rows_2]) (by rw [c3_2]) ?_
              refine va_aldA hx hb hK.1 hP 1 4 rfl rfl (vp_in_iff.mpr (by decide)) dX5_putOver_69 ?_
              refine W.eq (g2 := F0 m 70 ls [.ref q_rows_2, .long ((2 : Int64) * (((((v_rows_0 x2.toNatClampNeg) + (v_rows_1 x2.toNatClampNeg)) + (v_rows_2 x2.toNatClampNeg)) + (v_rows_3 x2.toNatClampNeg)) - (v_rows_2 x2.toNatClampNeg))), .int x2, .ref q_rows_2]) rfl ?_
              refine lv_iload_n hx hb dX5_putOver_70 rfl (lv_at hl 3 rfl) ?_
              refine va_lald hx hb hK.1 hP 4 1 rfl rfl (vp_in_iff.mpr z2) dX5_putOver_71 ?_
              refine lv_lsub hx hb dX5_putOver_72 ?_
              refine va_last hx hb hK.1 hP hD hS 4 1 rfl rfl (vp_in_iff.mpr z2) dX5_putOver_73 (fun H locs hP hD hS => ?_)
              have hP : va_P G vwCl [(q, .inr (5, [.ref q_rows])), (q_rows, .inl (cG, 4, .inr (.inr (.inr (.inr (rr4 q_rows_0 q_rows_1 q_rows_2 q_rows_3)))))), (q_rows_0, .inl (cJ, 4, .inr (.inl v_rows_0))), (q_rows_1, .inl (cJ, 4, .inr (.inl v_rows_1))), (q_rows_2, .inl (cJ, 4, .inr (.inl (vp_updL v_rows_2 x2.toNatClampNeg (((2 : Int64) * (((((v_rows_0 x2.toNatClampNeg) + (v_rows_1 x2.toNatClampNeg)) + (v_rows_2 x2.toNatClampNeg)) + (v_rows_3 x2.toNatClampNeg)) - (v_rows_2 x2.toNatClampNeg))) - (v_rows_2 x2.toNatClampNeg)))))), (q_rows_3, .inl (cJ, 4, .inr (.inl v_rows_3)))] H := hP
              have hD : va_D A [(q, .inr (5, [.ref q_rows])), (q_rows, .inl (cG, 4, .inr (.inr (.inr (.inr (rr4 q_rows_0 q_rows_1 q_rows_2 q_rows_3)))))), (q_rows_0, .inl (cJ, 4, .inr (.inl v_rows_0))), (q_rows_1, .inl (cJ, 4, .inr (.inl v_rows_1))), (q_rows_2, .inl (cJ, 4, .inr (.inl (vp_updL v_rows_2 x2.toNatClampNeg (((2 : Int64) * (((((v_rows_0 x2.toNatClampNeg) + (v_rows_1 x2.toNatClampNeg)) + (v_rows_2 x2.toNatClampNeg)) + (v_rows_3 x2.toNatClampNeg)) - (v_rows_2 x2.toNatClampNeg))) - (v_rows_2 x2.toNatClampNeg)))))), (q_rows_3, .inl (cJ, 4, .inr (.inl v_rows_3)))] := hD
              refine lv_iinc (v := x2 + (1 : Int32)) (lv' := [(2, .int (x2 + (1 : Int32))), (3, .long ((((v_rows_0 x2.toNatClampNeg) + (v_rows_1 x2.toNatClampNeg)) + (v_rows_2 x2.toNatClampNeg)) + (v_rows_3 x2.toNatClampNeg))), (0, .ref q), (1, .int x1)]) hx hb dX5_putOver_74 hl (k := 3) rfl rfl (by decide) rfl (fun ls hl => ?_)
              refine lv_goto (tgt := 2) hx hb dX5_putOver_77 (by decide) ?_
              exact ih (x2 + (1 : Int32)) v_rows_0 v_rows_1 (vp_updL v_rows_2 x2.toNatClampNeg (((2 : Int64) * (((((v_rows_0 x2.toNatClampNeg) + (v_rows_1 x2.toNatClampNeg)) + (v_rows_2 x2.toNatClampNeg)) + (v_rows_3 x2.toNatClampNeg)) - (v_rows_2 x2.toNatClampNeg))) - (v_rows_2 x2.toNatClampNeg))) v_rows_3 _ _ _ hf hP hD hS (lv_sub hl [2, 3, 0] rfl)
            · have hf := if_n hf c3_2
              by_cases c3_3 : x1 = 3
              · have hf := if_s hf c3_3
                refine W.eq (g2 := F0 m 48 ls [.int 3, .ref q_rows]) (by rw [c3_3]) ?_
                refine va_aldA hx hb hK.1 hP 1 4 rfl rfl (vp_in_iff.mpr (by decide)) dX5_putOver_48 ?_
                refine W.eq (g2 := F0 m 49 ls [.ref q_rows_3]) rfl ?_
                refine lv_iload_n hx hb dX5_putOver_49 rfl (lv_at hl 3 rfl) ?_
                refine lv_ldc2 (v := 2) hx hb hown (hts (.constantLong RX5 28 (2)) (List.mem_of_getElem? (i := 2) rfl)) dX5_putOver_50 ?_
                refine lv_lload_n hx hb dX5_putOver_53 rfl (lv_at hl 0 rfl) ?_
                refine lv_aload_n hx hb dX5_putOver_54 rfl (lv_at hl 1 rfl) ?_
                refine va_get (D := G) (ci := 5) (v := .ref q_rows) (C := RX5) (T := TX5) (N := 1) hx hb hts hiX5_putOver_X5 hown hK.1 hP 0 rfl rfl 0 (by decide) (hts (.fieldLink RX5 11 "PackedBends$Sums" "rows" "[[J") (List.mem_of_getElem? (i := 1) rfl)) (fun _ h9 => h9) rfl dX5_putOver_55 ?_
                refine lv_iload_n hx hb dX5_putOver_58 rfl (lv_at hl 2 rfl) ?_
                refine W.eq (g2 := F0 m 59 ls [.int 3, .ref q_rows, .long ((((v_rows_0 x2.toNatClampNeg) + (v_rows_1 x2.toNatClampNeg)) + (v_rows_2 x2.toNatClampNeg)) + (v_rows_3 x2.toNatClampNeg)), .long (2 : Int64), .int x2, .ref q_rows_3]) (by rw [c3_3]) ?_
                refine va_aldA hx hb hK.1 hP 1 4 rfl rfl (vp_in_iff.mpr (by decide)) dX5_putOver_59 ?_
                refine W.eq (g2 := F0 m 60 ls [.ref q_rows_3, .long ((((v_rows_0 x2.toNatClampNeg) + (v_rows_1 x2.toNatClampNeg)) + (v_rows_2 x2.toNatClampNeg)) + (v_rows_3 x2.toNatClampNeg)), .long (2 : Int64), .int x2, .ref q_rows_3]) rfl ?_
                refine lv_iload_n hx hb dX5_putOver_60 rfl (lv_at hl 3 rfl) ?_
                refine va_lald hx hb hK.1 hP 5 1 rfl rfl (vp_in_iff.mpr z2) dX5_putOver_61 ?_
                refine lv_lsub hx hb dX5_putOver_62 ?_
                refine lv_lmul hx hb dX5_putOver_63 ?_
                refine lv_aload_n hx hb dX5_putOver_64 rfl (lv_at hl 1 rfl) ?_
                refine va_get (D := G) (ci := 5) (v := .ref q_rows) (C := RX5) (T := TX5) (N := 1) hx hb hts hiX5_putOver_X5 hown hK.1 hP 0 rfl rfl 0 (by decide) (hts (.fieldLink RX5 11 "PackedBends$Sums" "rows" "[[J") (List.mem_of_getElem? (i := 1) rfl)) (fun _ h9 => h9) rfl dX5_putOver_65 ?_
                refine lv_iload_n hx hb dX5_putOver_68 rfl (lv_at hl 2 rfl) ?_
                refine W.eq (g2 := F0 m 69 ls [.int 3, .ref q_rows, .long ((2 : Int64) * (((((v_rows_0 x2.toNatClampNeg) + (v_rows_1 x2.toNatClampNeg)) + (v_rows_2 x2.toNatClampNeg)) + (v_rows_3 x2.toNatClampNeg)) - (v_rows_3 x2.toNatClampNeg))), .int x2, .ref q_rows_3]) (by rw [c3_3]) ?_
                refine va_aldA hx hb hK.1 hP 1 4 rfl rfl (vp_in_iff.mpr (by decide)) dX5_putOver_69 ?_
                refine W.eq (g2 := F0 m 70 ls [.ref q_rows_3, .long ((2 : Int64) * (((((v_rows_0 x2.toNatClampNeg) + (v_rows_1 x2.toNatClampNeg)) + (v_rows_2 x2.toNatClampNeg)) + (v_rows_3 x2.toNatClampNeg)) - (v_rows_3 x2.toNatClampNeg))), .int x2, .ref q_rows_3]) rfl ?_
                refine lv_iload_n hx hb dX5_putOver_70 rfl (lv_at hl 3 rfl) ?_
                refine va_lald hx hb hK.1 hP 5 1 rfl rfl (vp_in_iff.mpr z2) dX5_putOver_71 ?_
                refine lv_lsub hx hb dX5_putOver_72 ?_
                refine va_last hx hb hK.1 hP hD hS 5 1 rfl rfl (vp_in_iff.mpr z2) dX5_putOver_73 (fun H locs hP hD hS => ?_)
                have hP : va_P G vwCl [(q, .inr (5, [.ref q_rows])), (q_rows, .inl (cG, 4, .inr (.inr (.inr (.inr (rr4 q_rows_0 q_rows_1 q_rows_2 q_rows_3)))))), (q_rows_0, .inl (cJ, 4, .inr (.inl v_rows_0))), (q_rows_1, .inl (cJ, 4, .inr (.inl v_rows_1))), (q_rows_2, .inl (cJ, 4, .inr (.inl v_rows_2))), (q_rows_3, .inl (cJ, 4, .inr (.inl (vp_updL v_rows_3 x2.toNatClampNeg (((2 : Int64) * (((((v_rows_0 x2.toNatClampNeg) + (v_rows_1 x2.toNatClampNeg)) + (v_rows_2 x2.toNatClampNeg)) + (v_rows_3 x2.toNatClampNeg)) - (v_rows_3 x2.toNatClampNeg))) - (v_rows_3 x2.toNatClampNeg))))))] H := hP
                have hD : va_D A [(q, .inr (5, [.ref q_rows])), (q_rows, .inl (cG, 4, .inr (.inr (.inr (.inr (rr4 q_rows_0 q_rows_1 q_rows_2 q_rows_3)))))), (q_rows_0, .inl (cJ, 4, .inr (.inl v_rows_0))), (q_rows_1, .inl (cJ, 4, .inr (.inl v_rows_1))), (q_rows_2, .inl (cJ, 4, .inr (.inl v_rows_2))), (q_rows_3, .inl (cJ, 4, .inr (.inl (vp_updL v_rows_3 x2.toNatClampNeg (((2 : Int64) * (((((v_rows_0 x2.toNatClampNeg) + (v_rows_1 x2.toNatClampNeg)) + (v_rows_2 x2.toNatClampNeg)) + (v_rows_3 x2.toNatClampNeg)) - (v_rows_3 x2.toNatClampNeg))) - (v_rows_3 x2.toNatClampNeg))))))] := hD
                refine lv_iinc (v := x2 + (1 : Int32)) (lv' := [(2, .int (x2 + (1 : Int32))), (3, .long ((((v_rows_0 x2.toNatClampNeg) + (v_rows_1 x2.toNatClampNeg)) + (v_rows_2 x2.toNatClampNeg)) + (v_rows_3 x2.toNatClampNeg))), (0, .ref q), (1, .int x1)]) hx hb dX5_putOver_74 hl (k := 3) rfl rfl (by decide) rfl (fun ls hl => ?_)
                refine lv_goto (tgt := 2) hx hb dX5_putOver_77 (by decide) ?_
                exact ih (x2 + (1 : Int32)) v_rows_0 v_rows_1 v_rows_2 (vp_updL v_rows_3 x2.toNatClampNeg (((2 : Int64) * (((((v_rows_0 x2.toNatClampNeg) + (v_rows_1 x2.toNatClampNeg)) + (v_rows_2 x2.toNatClampNeg)) + (v_rows_3 x2.toNatClampNeg)) - (v_rows_3 x2.toNatClampNeg))) - (v_rows_3 x2.toNatClampNeg))) _ _ _ hf hP hD hS (lv_sub hl [2, 3, 0] rfl)
              · have hf := if_n hf c3_3
                cases hf
  refine lv_iconst (v := 0) hx hb dX5_putOver_0 (by decide) ?_
  refine lv_istore_n (lv' := [(2, .int (0 : Int32)), (0, .ref q), (1, .int p1)]) hx hb dX5_putOver_1 rfl hl (by decide) rfl (fun ls hl => ?_)
  refine hL2 p1 _ (fun y2_4 u4_rows_0 u4_rows_1 u4_rows_2 u4_rows_3 H locs ls hf hP hD hS hl => ?_) n (0 : Int32) v_rows_0 v_rows_1 v_rows_2 v_rows_3 _ _ _ hf hP hD hS (lv_sub hl [1, 2, 0] rfl)
  have hP : va_P G vwCl [(q, .inr (5, [.ref q_rows])), (q_rows, .inl (cG, 4, .inr (.inr (.inr (.inr (rr4 q_rows_0 q_rows_1 q_rows_2 q_rows_3)))))), (q_rows_0, .inl (cJ, 4, .inr (.inl u4_rows_0))), (q_rows_1, .inl (cJ, 4, .inr (.inl u4_rows_1))), (q_rows_2, .inl (cJ, 4, .inr (.inl u4_rows_2))), (q_rows_3, .inl (cJ, 4, .inr (.inl u4_rows_3)))] H := hP
  have hD : va_D A [(q, .inr (5, [.ref q_rows])), (q_rows, .inl (cG, 4, .inr (.inr (.inr (.inr (rr4 q_rows_0 q_rows_1 q_rows_2 q_rows_3)))))), (q_rows_0, .inl (cJ, 4, .inr (.inl u4_rows_0))), (q_rows_1, .inl (cJ, 4, .inr (.inl u4_rows_1))), (q_rows_2, .inl (cJ, 4, .inr (.inl u4_rows_2))), (q_rows_3, .inl (cJ, 4, .inr (.inl u4_rows_3)))] := hD
  cases hf
  rw [← hQ]
  exact rt_v hx hb hr hlk hP hD hS dX5_putOver_80
def pX5_read_L24 (x1 : Int32) : Nat → Int32 → Int32 → (Nat → Int64) → (Nat → Int64) → (Nat → Int64) → (Nat → Int64) → (Int32 → Int32 → (Nat → Int64) → (Nat → Int64) → (Nat → Int64) → (Nat → Int64) → Option (Int32 × (Nat → Int64) × (Nat → Int64) × (Nat → Int64) × (Nat → Int64))) → Option (Int32 × (Nat → Int64) × (Nat → Int64) × (Nat → Int64) × (Nat → Int64))
  | 0, _, _, _, _, _, _, _ => none
  | n + 1, x2, x3, v_rows_0, v_rows_1, v_rows_2, v_rows_3, k => if x3 ≤ 0 then k x2 x3 v_rows_0 v_rows_1 v_rows_2 v_rows_3 else ck (¬ x3 = 0) (if x2 = 0 then if ((x1 / x3) - (x1 / x3) / (10 : Int32) * (10 : Int32)) = 0 then pX5_read_L24 x1 n x2 (x3 / (10 : Int32)) v_rows_0 v_rows_1 v_rows_2 v_rows_3 k else Option.bind (pX8_isPlace ((x1 / x3) - (x1 / x3) / (10 : Int32) * (10 : Int32))) (fun r12 => if r12 = 0 then some ((0 : Int32), v_rows_0, v_rows_1, v_rows_2, v_rows_3) else if ((x1 / x3) - (x1 / x3) / (10 : Int32) * (10 : Int32)) = x2 then some ((0 : Int32), v_rows_0, v_rows_1, v_rows_2, v_rows_3) else Option.bind (pX5_putOver n v_rows_0 v_rows_1 v_rows_2 v_rows_3 (((x1 / x3) - (x1 / x3) / (10 : Int32) * (10 : Int32)) - (1 : Int32))) (fun r15 => pX5_read_L24 x1 n ((x1 / x3) - (x1 / x3) / (10 : Int32) * (10 : Int32)) (x3 / (10 : Int32)) r15.1 r15.2.1 r15.2.2.1 r15.2.2.2 k)) else Option.bind (pX8_isPlace ((x1 / x3) - (x1 / x3) / (10 : Int32) * (10 : Int32))) (fun r7 => if r7 = 0 then some ((0 : Int32), v_rows_0, v_rows_1, v_rows_2, v_rows_3) else if ((x1 / x3) - (x1 / x3) / (10 : Int32) * (10 : Int32)) = x2 then some ((0 : Int32), v_rows_0, v_rows_1, v_rows_2, v_rows_3) else Option.bind (pX5_putOver n v_rows_0 v_rows_1 v_rows_2 v_rows_3 (((x1 / x3) - (x1 / x3) / (10 : Int32) * (10 : Int32)) - (1 : Int32))) (fun r10 => pX5_read_L24 x1 n ((x1 / x3) - (x1 / x3) / (10 : Int32) * (10 : Int32)) (x3 / (10 : Int32)) r10.1 r10.2.1 r10.2.2.1 r10.2.2.2 k)))
def pX5_read (n : Nat) (v_rows_0 : (Nat → Int64)) (v_rows_1 : (Nat → Int64)) (v_rows_2 : (Nat → Int64)) (v_rows_3 : (Nat → Int64)) (p1 : Int32) : Option (Int32 × (Nat → Int64) × (Nat → Int64) × (Nat → Int64) × (Nat → Int64)) := if p1 < 0 then some ((0 : Int32), v_rows_0, v_rows_1, v_rows_2, v_rows_3) else if (p1 / (100000000 : Int32)) ≤ (9 : Int32) then Option.bind (pX5_beRoot n v_rows_0 v_rows_1 v_rows_2 v_rows_3) (fun r3 => pX5_read_L24 p1 n (0 : Int32) (100000000 : Int32) r3.1 r3.2.1 r3.2.2.1 r3.2.2.2 (fun (y2_16 : Int32) (y3_16 : Int32) (u16_rows_0 : (Nat → Int64)) (u16_rows_1 : (Nat → Int64)) (u16_rows_2 : (Nat → Int64)) (u16_rows_3 : (Nat → Int64)) => some ((1 : Int32), u16_rows_0, u16_rows_1, u16_rows_2, u16_rows_3))) else some ((0 : Int32), v_rows_0, v_rows_1, v_rows_2, v_rows_3)
def rmX5_read : Room := { frames := 1, cells := 0, slots := 0, locals := 24 }
set_option maxRecDepth 100000 in
set_option maxHeartbeats 4000000 in
theorem kX5_read {l : Launch} {G : va_G} {cI cJ cZ cS cG : ClassId} (n : Nat) (q q_rows q_rows_0 q_rows_1 q_rows_2 q_rows_3 : Nat) (v_rows_0 : (Nat → Int64)) (v_rows_1 : (Nat → Int64)) (v_rows_2 : (Nat → Int64)) (v_rows_3 : (Nat → Int64)) (p1 : Int32) (R : Int32 × (Nat → Int64) × (Nat → Int64) × (Nat → Int64) × (Nat → Int64)) (hf : pX5_read n v_rows_0 v_rows_1 v_rows_2 v_rows_3 p1 = some R) : CTi l yX5_read wsX5_read rmX5_read G cI cJ cZ cS cG [.ref q, .int p1] [(q, .inr (5, [.ref q_rows])), (q_rows, .inl (cG, 4, .inr (.inr (.inr (.inr (rr4 q_rows_0 q_rows_1 q_rows_2 q_rows_3)))))), (q_rows_0, .inl (cJ, 4, .inr (.inl v_rows_0))), (q_rows_1, .inl (cJ, 4, .inr (.inl v_rows_1))), (q_rows_2, .inl (cJ, 4, .inr (.inl v_rows_2))), (q_rows_3, .inl (cJ, 4, .inr (.inl v_rows_3)))] [(q, .inr (5, [.ref q_rows])), (q_rows, .inl (cG, 4, .inr (.inr (.inr (.inr (rr4 q_rows_0 q_rows_1 q_rows_2 q_rows_3)))))), (q_rows_0, .inl (cJ, 4, .inr (.inl R.2.1))), (q_rows_1, .inl (cJ, 4, .inr (.inl R.2.2.1))), (q_rows_2, .inl (cJ, 4, .inr (.inl R.2.2.2.1))), (q_rows_3, .inl (cJ, 4, .inr (.inl R.2.2.2.2)))] R.1 := by
  refine Met.ofE (Qc := fun A => QRi G A [(q, .inr (5, [.ref q_rows])), (q_rows, .inl (cG, 4, .inr (.inr (.inr (.inr (rr4 q_rows_0 q_rows_1 q_rows_2 q_rows_3)))))), (q_rows_0, .inl (cJ, 4, .inr (.inl R.2.1))), (q_rows_1, .inl (cJ, 4, .inr (.inl R.2.2.1))), (q_rows_2, .inl (cJ, 4, .inr (.inl R.2.2.2.1))), (q_rows_3, .inl (cJ, 4, .inr (.inl R.2.2.2.2)))] R.1) (cc := cX5_read) (nL := 6) (ret := some .boolean) (plainFor_of_name (by decide +kernel)) rfl (Nat.le_of_ble_eq_true rfl) ?_
  intro p e s m below meth c A ls hx hb hml hr hlk hts hown hK hA hP hD hS hl
  have hown : s.vm.findClass RX5 = some m.cls := hown
  have hl : lv_has ls 6 [(0, .ref q), (1, .int p1)] := hl
  generalize hQ : MQ below (QRi G A [(q, .inr (5, [.ref q_rows])), (q_rows, .inl (cG, 4, .inr (.inr (.inr (.inr (rr4 q_rows_0 q_rows_1 q_rows_2 q_rows_3)))))), (q_rows_0, .inl (cJ, 4, .inr (.inl R.2.1))), (q_rows_1, .inl (cJ, 4, .inr (.inl R.2.2.1))), (q_rows_2, .inl (cJ, 4, .inr (.inl R.2.2.2.1))), (q_rows_3, .inl (cJ, 4, .inr (.inl R.2.2.2.2)))] R.1) ([.ref q, .int p1] : List Value).toArray s 0 0 A = QQ
  unfold pX5_read at hf
  have hL24 : ∀ (x1 : Int32) (k : Int32 → Int32 → (Nat → Int64) → (Nat → Int64) → (Nat → Int64) → (Nat → Int64) → Option (Int32 × (Nat → Int64) × (Nat → Int64) × (Nat → Int64) × (Nat → Int64))), (∀ (x2 : Int32) (x3 : Int32) (v_rows_0 : (Nat → Int64)) (v_rows_1 : (Nat → Int64)) (v_rows_2 : (Nat → Int64)) (v_rows_3 : (Nat → Int64)) (H : Heap) (locs : List Loc) (ls : Array Slot), k x2 x3 v_rows_0 v_rows_1 v_rows_2 v_rows_3 = some R → va_P G vwCl [(q, .inr (5, [.ref q_rows])), (q_rows, .inl (cG, 4, .inr (.inr (.inr (.inr (rr4 q_rows_0 q_rows_1 q_rows_2 q_rows_3)))))), (q_rows_0, .inl (cJ, 4, .inr (.inl v_rows_0))), (q_rows_1, .inl (cJ, 4, .inr (.inl v_rows_1))), (q_rows_2, .inl (cJ, 4, .inr (.inl v_rows_2))), (q_rows_3, .inl (cJ, 4, .inr (.inl v_rows_3)))] H → va_D A [(q, .inr (5, [.ref q_rows])), (q_rows, .inl (cG, 4, .inr (.inr (.inr (.inr (rr4 q_rows_0 q_rows_1 q_rows_2 q_rows_3)))))), (q_rows_0, .inl (cJ, 4, .inr (.inl v_rows_0))), (q_rows_1, .inl (cJ, 4, .inr (.inl v_rows_1))), (q_rows_2, .inl (cJ, 4, .inr (.inl v_rows_2))), (q_rows_3, .inl (cJ, 4, .inr (.inl v_rows_3)))] → va_S A s.heap H locs → lv_has ls 6 [(0, .ref q), (1, .int x1), (2, .int x2), (3, .int x3)] → W p l e rmX5_read s m ([.ref q, .int p1] : List Value).toArray below meth c H locs 0 0 QQ (F0 m 97 ls [])) → ∀ (n : Nat) (x2 : Int32) (x3 : Int32) (v_rows_0 : (Nat → Int64)) (v_rows_1 : (Nat → Int64)) (v_rows_2 : (Nat → Int64)) (v_rows_3 : (Nat → Int64)) (H : Heap) (locs : List Loc) (ls : Array Slot), pX5_read_L24 x1 n x2 x3 v_rows_0 v_rows_1 v_rows_2 v_rows_3 k = some R → va_P G vwCl [(q, .inr (5, [.ref q_rows])), (q_rows, .inl (cG, 4, .inr (.inr (.inr (.inr (rr4 q_rows_0 q_rows_1 q_rows_2 q_rows_3)))))), (q_rows_0, .inl (cJ, 4, .inr (.inl v_rows_0))), (q_rows_1, .inl (cJ, 4, .inr (.inl v_rows_1))), (q_rows_2, .inl (cJ, 4, .inr (.inl v_rows_2))), (q_rows_3, .inl (cJ, 4, .inr (.inl v_rows_3)))] H → va_D A [(q, .inr (5, [.ref q_rows])), (q_rows, .inl (cG, 4, .inr (.inr (.inr (.inr (rr4 q_rows_0 q_rows_1 q_rows_2 q_rows_3)))))), (q_rows_0, .inl (cJ, 4, .inr (.inl v_rows_0))), (q_rows_1, .inl (cJ, 4, .inr (.inl v_rows_1))), (q_rows_2, .inl (cJ, 4, .inr (.inl v_rows_2))), (q_rows_3, .inl (cJ, 4, .inr (.inl v_rows_3)))] → va_S A s.heap H locs → lv_has ls 6 [(0, .ref q), (1, .int x1), (2, .int x2), (3, .int x3)] → W p l e rmX5_read s m ([.ref q, .int p1] : List Value).toArray below meth c H locs 0 0 QQ (F0 m 24 ls []) := by
    intro x1 k hk n
    induction n with
    | zero =>
      intro x2 x3 v_rows_0 v_rows_1 v_rows_2 v_rows_3 H locs ls hf
      cases hf
    | succ n ih =>
      intro x2 x3 v_rows_0 v_rows_1 v_rows_2 v_rows_3 H locs ls hf hP hD hS hl
      unfold pX5_read_L24 at hf
      refine lv_iload_n hx hb dX5_read_24 rfl (lv_at hl 3 rfl) ?_
      refine lv_if_le (tgt := 97) hx hb dX5_read_25 (by decide) (fun c4 => ?_) (fun c4 => ?_)
      · have hf := if_s hf c4
        exact hk x2 x3 v_rows_0 v_rows_1 v_rows_2 v_rows_3 _ _ _ hf hP hD hS (lv_sub hl [0, 1, 2, 3] rfl)
      · have hf := if_n hf c4
        refine lv_iload_n hx hb dX5_read_28 rfl (lv_at hl 1 rfl) ?_
        refine lv_iload_n hx hb dX5_read_29 rfl (lv_at hl 3 rfl) ?_
        obtain ⟨z5, hf⟩ := ck_s hf
        refine lv_idiv hx hb dX5_read_30 z5 ?_
        refine lv_bipush (v := 10) hx hb dX5_read_31 (by decide) ?_
        refine lv_irem hx hb dX5_read_33 (by decide) ?_
        refine lv_istore (lv' := [(4, .int ((x1 / x3) - (x1 / x3) / (10 : Int32) * (10 : Int32))), (0, .ref q), (1, .int x1), (2, .int x2), (3, .int x3)]) hx hb dX5_read_34 hl (by decide) rfl (fun ls hl => ?_)
        refine lv_iload_n hx hb dX5_read_36 rfl (lv_at hl 3 rfl) ?_
        refine lv_if_ne (tgt := 45) hx hb dX5_read_37 (by decide) (fun c6 => ?_) (fun c6 => ?_)
        · have hf := if_n hf c6
          refine lv_iconst (v := 1) hx hb dX5_read_45 (by decide) ?_
          refine lv_goto (tgt := 50) hx hb dX5_read_46 (by decide) ?_
          refine lv_istore (lv' := [(5, .int (1 : Int32)), (4, .int ((x1 / x3) - (x1 / x3) / (10 : Int32) * (10 : Int32))), (0, .ref q), (1, .int x1), (2, .int x2), (3, .int x3)]) hx hb dX5_read_50 hl (by decide) rfl (fun ls hl => ?_)
          refine lv_iload hx hb dX5_read_52 (lv_at hl 0 rfl) ?_
          refine lv_if_eq (tgt := 73) hx hb dX5_read_54 (by decide) (fun cc => absurd cc (by decide)) (fun _ => ?_)
          refine lv_iload hx hb dX5_read_57 (lv_at hl 1 rfl) ?_
          obtain ⟨r7, hc7, hf⟩ := ob_s hf
          refine bk_i (wc := []) (wc2 := []) (wr := [(q, .inr (5, [.ref q_rows])), (q_rows, .inl (cG, 4, .inr (.inr (.inr (.inr (rr4 q_rows_0 q_rows_1 q_rows_2 q_rows_3)))))), (q_rows_0, .inl (cJ, 4, .inr (.inl v_rows_0))), (q_rows_1, .inl (cJ, 4, .inr (.inl v_rows_1))), (q_rows_2, .inl (cJ, 4, .inr (.inl v_rows_2))), (q_rows_3, .inl (cJ, 4, .inr (.inl v_rows_3)))]) (ws2 := [(q, .inr (5, [.ref q_rows])), (q_rows, .inl (cG, 4, .inr (.inr (.inr (.inr (rr4 q_rows_0 q_rows_1 q_rows_2 q_rows_3)))))), (q_rows_0, .inl (cJ, 4, .inr (.inl v_rows_0))), (q_rows_1, .inl (cJ, 4, .inr (.inl v_rows_1))), (q_rows_2, .inl (cJ, 4, .inr (.inl v_rows_2))), (q_rows_3, .inl (cJ, 4, .inr (.inl v_rows_3)))]) (r := r7) (va_runSN (own := "PackedBends$Sums") (As := [.int ((x1 / x3) - (x1 / x3) / (10 : Int32) * (10 : Int32))]) (rest := []) ⟨hx, hb, hml, hown, hts⟩ (kX8_isPlace (l := l) (G := G) (cI := cI) (cJ := cJ) (cZ := cZ) (cS := cS) (cG := cG) ((x1 / x3) - (x1 / x3) / (10 : Int32) * (10 : Int32)) _ hc7 _) ⟨va_cnB (host := "PackedBends") (index := 20) (own := "PackedBends$Sums") 1 hts gX5_read_X8_isPlace_n20 rfl rfl rfl (hK.2.1 ("PackedBends$Sums", 20, yX8_isPlace) (List.mem_of_getElem? (i := 5) rfl)) (hts (.initialized RX8) (List.mem_of_getElem? (i := 9) rfl)) (by decide +kernel) ⟨Nat.le_of_ble_eq_true rfl, Nat.le_of_ble_eq_true rfl⟩, hts (.static yX8_isPlace) (List.mem_of_getElem? (i := 8) rfl), trivial⟩ (cut_S hK hP hD [] rfl rfl) rfl rfl hl.1 rfl (lv_room (Nat.le_of_ble_eq_true rfl)) dX5_read_59 ⟨Nat.zero_le _, Nat.zero_le _⟩) hP hD hS hA [] [0, 1, 2, 3, 4, 5] [0, 1, 2, 3, 4, 5] rfl rfl rfl rfl rfl rfl (fun H locs hP hD hS => ?_)
          refine lv_if_eq (tgt := 71) hx hb dX5_read_62 (by decide) (fun c8 => ?_) (fun c8 => ?_)
          · have hf := if_s hf c8
            refine lv_iconst (v := 0) hx hb dX5_read_71 (by decide) ?_
            cases hf
            rw [← hQ]
            exact rt_z hx hb hr hlk rfl hP hD hS rfl dX5_read_72
          · have hf := if_n hf c8
            refine lv_iload hx hb dX5_read_65 (lv_at hl 1 rfl) ?_
            refine lv_iload_n hx hb dX5_read_67 rfl (lv_at hl 4 rfl) ?_
            refine lv_icmp_ne (tgt := 73) hx hb dX5_read_68 (by decide) (fun c9 => ?_) (fun c9 => ?_)
            · have hf := if_n hf c9
              refine lv_iload hx hb dX5_read_73 (lv_at hl 0 rfl) ?_
              refine lv_if_eq (tgt := 89) hx hb dX5_read_75 (by decide) (fun cc => absurd cc (by decide)) (fun _ => ?_)
              refine lv_aload_n hx hb dX5_read_78 rfl (lv_at hl 2 rfl) ?_
              refine lv_iload hx hb dX5_read_79 (lv_at hl 1 rfl) ?_
              refine lv_iconst (v := 1) hx hb dX5_read_81 (by decide) ?_
              refine lv_isub hx hb dX5_read_82 ?_
              obtain ⟨r10, hc10, hf⟩ := ob_s hf
              refine bk_v (wc := [(q, .inr (5, [.ref q_rows])), (q_rows, .inl (cG, 4, .inr (.inr (.inr (.inr (rr4 q_rows_0 q_rows_1 q_rows_2 q_rows_3)))))), (q_rows_0, .inl (cJ, 4, .inr (.inl v_rows_0))), (q_rows_1, .inl (cJ, 4, .inr (.inl v_rows_1))), (q_rows_2, .inl (cJ, 4, .inr (.inl v_rows_2))), (q_rows_3, .inl (cJ, 4, .inr (.inl v_rows_3)))]) (wc2 := [(q, .inr (5, [.ref q_rows])), (q_rows, .inl (cG, 4, .inr (.inr (.inr (.inr (rr4 q_rows_0 q_rows_1 q_rows_2 q_rows_3)))))), (q_rows_0, .inl (cJ, 4, .inr (.inl r10.1))), (q_rows_1, .inl (cJ, 4, .inr (.inl r10.2.1))), (q_rows_2, .inl (cJ, 4, .inr (.inl r10.2.2.1))), (q_rows_3, .inl (cJ, 4, .inr (.inl r10.2.2.2)))]) (wr := []) (ws2 := [(q, .inr (5, [.ref q_rows])), (q_rows, .inl (cG, 4, .inr (.inr (.inr (.inr (rr4 q_rows_0 q_rows_1 q_rows_2 q_rows_3)))))), (q_rows_0, .inl (cJ, 4, .inr (.inl r10.1))), (q_rows_1, .inl (cJ, 4, .inr (.inl r10.2.1))), (q_rows_2, .inl (cJ, 4, .inr (.inl r10.2.2.1))), (q_rows_3, .inl (cJ, 4, .inr (.inl r10.2.2.2)))]) (va_runV (As := [.int (((x1 / x3) - (x1 / x3) / (10 : Int32) * (10 : Int32)) - (1 : Int32))]) (rest := []) ⟨hx, hb, hml, hown, hts⟩ (kX5_putOver (l := l) (G := G) (cI := cI) (cJ := cJ) (cZ := cZ) (cS := cS) (cG := cG) n q q_rows q_rows_0 q_rows_1 q_rows_2 q_rows_3 v_rows_0 v_rows_1 v_rows_2 v_rows_3 (((x1 / x3) - (x1 / x3) / (10 : Int32) * (10 : Int32)) - (1 : Int32)) _ hc10 _) (cwV 1 hts gX5_read_X5_putOver rfl rfl rfl (by decide +kernel) ⟨Nat.le_of_ble_eq_true rfl, Nat.le_of_ble_eq_true rfl⟩) (cut_V hK hP hD [0, 1, 2, 3, 4, 5] rfl rfl (ci := 5) (q0 := 0) rfl rfl) rfl rfl hl.1 rfl (lv_room (Nat.le_of_ble_eq_true rfl)) dX5_read_83 ⟨Nat.zero_le _, Nat.zero_le _⟩) hP hD hS hA [0, 1, 2, 3, 4, 5] [] [0, 1, 2, 3, 4, 5] rfl rfl rfl rfl rfl rfl (fun H locs hP hD hS => ?_)
              refine lv_iload hx hb dX5_read_86 (lv_at hl 1 rfl) ?_
              refine lv_istore_n (lv' := [(2, .int ((x1 / x3) - (x1 / x3) / (10 : Int32) * (10 : Int32))), (5, .int (1 : Int32)), (4, .int ((x1 / x3) - (x1 / x3) / (10 : Int32) * (10 : Int32))), (0, .ref q), (1, .int x1), (3, .int x3)]) hx hb dX5_read_88 rfl hl (by decide) rfl (fun ls hl => ?_)
              refine lv_iload_n hx hb dX5_read_89 rfl (lv_at hl 5 rfl) ?_
              refine lv_bipush (v := 10) hx hb dX5_read_90 (by decide) ?_
              refine lv_idiv hx hb dX5_read_92 (by decide) ?_
              refine lv_istore_n (lv' := [(3, .int (x3 / (10 : Int32))), (2, .int ((x1 / x3) - (x1 / x3) / (10 : Int32) * (10 : Int32))), (5, .int (1 : Int32)), (4, .int ((x1 / x3) - (x1 / x3) / (10 : Int32) * (10 : Int32))), (0, .ref q), (1, .int x1)]) hx hb dX5_read_93 rfl hl (by decide) rfl (fun ls hl => ?_)
              refine lv_goto (tgt := 24) hx hb dX5_read_94 (by decide) ?_
              exact ih ((x1 / x3) - (x1 / x3) / (10 : Int32) * (10 : Int32)) (x3 / (10 : Int32)) r10.1 r10.2.1 r10.2.2.1 r10.2.2.2 _ _ _ hf hP hD hS (lv_sub hl [4, 5, 1, 0] rfl)
            · have hf := if_s hf c9
              refine lv_iconst (v := 0) hx hb dX5_read_71 (by decide) ?_
              cases hf
              rw [← hQ]
              exact rt_z hx hb hr hlk rfl hP hD hS rfl dX5_read_72
        · have hf := if_s hf c6
          refine lv_iload hx hb dX5_read_40 (lv_at hl 0 rfl) ?_
          refine lv_if_eq (tgt := 49) hx hb dX5_read_42 (by decide) (fun c11 => ?_) (fun c11 => ?_)
          · have hf := if_s hf c11
            refine lv_iconst (v := 0) hx hb dX5_read_49 (by decide) ?_
            refine lv_istore (lv' := [(5, .int (0 : Int32)), (4, .int ((x1 / x3) - (x1 / x3) / (10 : Int32) * (10 : Int32))), (0, .ref q), (1, .int x1), (2, .int x2), (3, .int x3)]) hx hb dX5_read_50 hl (by decide) rfl (fun ls hl => ?_)
            refine lv_iload hx hb dX5_read_52 (lv_at hl 0 rfl) ?_
            refine lv_if_eq (tgt := 73) hx hb dX5_read_54 (by decide) (fun _ => ?_) (fun cc => absurd cc (by decide))
            refine lv_iload hx hb dX5_read_73 (lv_at hl 0 rfl) ?_
            refine lv_if_eq (tgt := 89) hx hb dX5_read_75 (by decide) (fun _ => ?_) (fun cc => absurd cc (by decide))
            refine lv_iload_n hx hb dX5_read_89 rfl (lv_at hl 5 rfl) ?_
            refine lv_bipush (v := 10) hx hb dX5_read_90 (by decide) ?_
            refine lv_idiv hx hb dX5_read_92 (by decide) ?_
            refine lv_istore_n (lv' := [(3, .int (x3 / (10 : Int32))), (5, .int (0 : Int32)), (4, .int ((x1 / x3) - (x1 / x3) / (10 : Int32) * (10 : Int32))), (0, .ref q), (1, .int x1), (2, .int x2)]) hx hb dX5_read_93 rfl hl (by decide) rfl (fun ls hl => ?_)
            refine lv_goto (tgt := 24) hx hb dX5_read_94 (by decide) ?_
            exact ih x2 (x3 / (10 : Int32)) v_rows_0 v_rows_1 v_rows_2 v_rows_3 _ _ _ hf hP hD hS (lv_sub hl [3, 4, 5, 0] rfl)
          · have hf := if_n hf c11
            refine lv_iconst (v := 1) hx hb dX5_read_45 (by decide) ?_
            refine lv_goto (tgt := 50) hx hb dX5_read_46 (by decide) ?_
            refine lv_istore (lv' := [(5, .int (1 : Int32)), (4, .int ((x1 / x3) - (x1 / x3) / (10 : Int32) * (10 : Int32))), (0, .ref q), (1, .int x1), (2, .int x2), (3, .int x3)]) hx hb dX5_read_50 hl (by decide) rfl (fun ls hl => ?_)
            refine lv_iload hx hb dX5_read_52 (lv_at hl 0 rfl) ?_
            refine lv_if_eq (tgt := 73) hx hb dX5_read_54 (by decide) (fun cc => absurd cc (by decide)) (fun _ => ?_)
            refine lv_iload hx hb dX5_read_57 (lv_at hl 1 rfl) ?_
            obtain ⟨r12, hc12, hf⟩ := ob_s hf
            refine bk_i (wc := []) (wc2 := []) (wr := [(q, .inr (5, [.ref q_rows])), (q_rows, .inl (cG, 4, .inr (.inr (.inr (.inr (rr4 q_rows_0 q_rows_1 q_rows_2 q_rows_3)))))), (q_rows_0, .inl (cJ, 4, .inr (.inl v_rows_0))), (q_rows_1, .inl (cJ, 4, .inr (.inl v_rows_1))), (q_rows_2, .inl (cJ, 4, .inr (.inl v_rows_2))), (q_rows_3, .inl (cJ, 4, .inr (.inl v_rows_3)))]) (ws2 := [(q, .inr (5, [.ref q_rows])), (q_rows, .inl (cG, 4, .inr (.inr (.inr (.inr (rr4 q_rows_0 q_rows_1 q_rows_2 q_rows_3)))))), (q_rows_0, .inl (cJ, 4, .inr (.inl v_rows_0))), (q_rows_1, .inl (cJ, 4, .inr (.inl v_rows_1))), (q_rows_2, .inl (cJ, 4, .inr (.inl v_rows_2))), (q_rows_3, .inl (cJ, 4, .inr (.inl v_rows_3)))]) (r := r12) (va_runSN (own := "PackedBends$Sums") (As := [.int ((x1 / x3) - (x1 / x3) / (10 : Int32) * (10 : Int32))]) (rest := []) ⟨hx, hb, hml, hown, hts⟩ (kX8_isPlace (l := l) (G := G) (cI := cI) (cJ := cJ) (cZ := cZ) (cS := cS) (cG := cG) ((x1 / x3) - (x1 / x3) / (10 : Int32) * (10 : Int32)) _ hc12 _) ⟨va_cnB (host := "PackedBends") (index := 20) (own := "PackedBends$Sums") 1 hts gX5_read_X8_isPlace_n20 rfl rfl rfl (hK.2.1 ("PackedBends$Sums", 20, yX8_isPlace) (List.mem_of_getElem? (i := 5) rfl)) (hts (.initialized RX8) (List.mem_of_getElem? (i := 9) rfl)) (by decide +kernel) ⟨Nat.le_of_ble_eq_true rfl, Nat.le_of_ble_eq_true rfl⟩, hts (.static yX8_isPlace) (List.mem_of_getElem? (i := 8) rfl), trivial⟩ (cut_S hK hP hD [] rfl rfl) rfl rfl hl.1 rfl (lv_room (Nat.le_of_ble_eq_true rfl)) dX5_read_59 ⟨Nat.zero_le _, Nat.zero_le _⟩) hP hD hS hA [] [0, 1, 2, 3, 4, 5] [0, 1, 2, 3, 4, 5] rfl rfl rfl rfl rfl rfl (fun H locs hP hD hS => ?_)
            refine lv_if_eq (tgt := 71) hx hb dX5_read_62 (by decide) (fun c13 => ?_) (fun c13 => ?_)
            · have hf := if_s hf c13
              refine lv_iconst (v := 0) hx hb dX5_read_71 (by decide) ?_
              cases hf
              rw [← hQ]
              exact rt_z hx hb hr hlk rfl hP hD hS rfl dX5_read_72
            · have hf := if_n hf c13
              refine lv_iload hx hb dX5_read_65 (lv_at hl 1 rfl) ?_
              refine lv_iload_n hx hb dX5_read_67 rfl (lv_at hl 4 rfl) ?_
              refine lv_icmp_ne (tgt := 73) hx hb dX5_read_68 (by decide) (fun c14 => ?_) (fun c14 => ?_)
              · have hf := if_n hf c14
                refine lv_iload hx hb dX5_read_73 (lv_at hl 0 rfl) ?_
                refine lv_if_eq (tgt := 89) hx hb dX5_read_75 (by decide) (fun cc => absurd cc (by decide)) (fun _ => ?_)
                refine lv_aload_n hx hb dX5_read_78 rfl (lv_at hl 2 rfl) ?_
                refine lv_iload hx hb dX5_read_79 (lv_at hl 1 rfl) ?_
                refine lv_iconst (v := 1) hx hb dX5_read_81 (by decide) ?_
                refine lv_isub hx hb dX5_read_82 ?_
                obtain ⟨r15, hc15, hf⟩ := ob_s hf
                refine bk_v (wc := [(q, .inr (5, [.ref q_rows])), (q_rows, .inl (cG, 4, .inr (.inr (.inr (.inr (rr4 q_rows_0 q_rows_1 q_rows_2 q_rows_3)))))), (q_rows_0, .inl (cJ, 4, .inr (.inl v_rows_0))), (q_rows_1, .inl (cJ, 4, .inr (.inl v_rows_1))), (q_rows_2, .inl (cJ, 4, .inr (.inl v_rows_2))), (q_rows_3, .inl (cJ, 4, .inr (.inl v_rows_3)))]) (wc2 := [(q, .inr (5, [.ref q_rows])), (q_rows, .inl (cG, 4, .inr (.inr (.inr (.inr (rr4 q_rows_0 q_rows_1 q_rows_2 q_rows_3)))))), (q_rows_0, .inl (cJ, 4, .inr (.inl r15.1))), (q_rows_1, .inl (cJ, 4, .inr (.inl r15.2.1))), (q_rows_2, .inl (cJ, 4, .inr (.inl r15.2.2.1))), (q_rows_3, .inl (cJ, 4, .inr (.inl r15.2.2.2)))]) (wr := []) (ws2 := [(q, .inr (5, [.ref q_rows])), (q_rows, .inl (cG, 4, .inr (.inr (.inr (.inr (rr4 q_rows_0 q_rows_1 q_rows_2 q_rows_3)))))), (q_rows_0, .inl (cJ, 4, .inr (.inl r15.1))), (q_rows_1, .inl (cJ, 4, .inr (.inl r15.2.1))), (q_rows_2, .inl (cJ, 4, .inr (.inl r15.2.2.1))), (q_rows_3, .inl (cJ, 4, .inr (.inl r15.2.2.2)))]) (va_runV (As := [.int (((x1 / x3) - (x1 / x3) / (10 : Int32) * (10 : Int32)) - (1 : Int32))]) (rest := []) ⟨hx, hb, hml, hown, hts⟩ (kX5_putOver (l := l) (G := G) (cI := cI) (cJ := cJ) (cZ := cZ) (cS := cS) (cG := cG) n q q_rows q_rows_0 q_rows_1 q_rows_2 q_rows_3 v_rows_0 v_rows_1 v_rows_2 v_rows_3 (((x1 / x3) - (x1 / x3) / (10 : Int32) * (10 : Int32)) - (1 : Int32)) _ hc15 _) (cwV 1 hts gX5_read_X5_putOver rfl rfl rfl (by decide +kernel) ⟨Nat.le_of_ble_eq_true rfl, Nat.le_of_ble_eq_true rfl⟩) (cut_V hK hP hD [0, 1, 2, 3, 4, 5] rfl rfl (ci := 5) (q0 := 0) rfl rfl) rfl rfl hl.1 rfl (lv_room (Nat.le_of_ble_eq_true rfl)) dX5_read_83 ⟨Nat.zero_le _, Nat.zero_le _⟩) hP hD hS hA [0, 1, 2, 3, 4, 5] [] [0, 1, 2, 3, 4, 5] rfl rfl rfl rfl rfl rfl (fun H locs hP hD hS => ?_)
                refine lv_iload hx hb dX5_read_86 (lv_at hl 1 rfl) ?_
                refine lv_istore_n (lv' := [(2, .int ((x1 / x3) - (x1 / x3) / (10 : Int32) * (10 : Int32))), (5, .int (1 : Int32)), (4, .int ((x1 / x3) - (x1 / x3) / (10 : Int32) * (10 : Int32))), (0, .ref q), (1, .int x1), (3, .int x3)]) hx hb dX5_read_88 rfl hl (by decide) rfl (fun ls hl => ?_)
                refine lv_iload_n hx hb dX5_read_89 rfl (lv_at hl 5 rfl) ?_
                refine lv_bipush (v := 10) hx hb dX5_read_90 (by decide) ?_
                refine lv_idiv hx hb dX5_read_92 (by decide) ?_
                refine lv_istore_n (lv' := [(3, .int (x3 / (10 : Int32))), (2, .int ((x1 / x3) - (x1 / x3) / (10 : Int32) * (10 : Int32))), (5, .int (1 : Int32)), (4, .int ((x1 / x3) - (x1 / x3) / (10 : Int32) * (10 : Int32))), (0, .ref q), (1, .int x1)]) hx hb dX5_read_93 rfl hl (by decide) rfl (fun ls hl => ?_)
                refine lv_goto (tgt := 24) hx hb dX5_read_94 (by decide) ?_
                exact ih ((x1 / x3) - (x1 / x3) / (10 : Int32) * (10 : Int32)) (x3 / (10 : Int32)) r15.1 r15.2.1 r15.2.2.1 r15.2.2.2 _ _ _ hf hP hD hS (lv_sub hl [4, 5, 1, 0] rfl)
              · have hf := if_s hf c14
                refine lv_iconst (v := 0) hx hb dX5_read_71 (by decide) ?_
                cases hf
                rw [← hQ]
                exact rt_z hx hb hr hlk rfl hP hD hS rfl dX5_read_72
  refine lv_iload_n hx hb dX5_read_0 rfl (lv_at hl 1 rfl) ?_
  refine lv_if_lt (tgt := 13) hx hb dX5_read_1 (by decide) (fun c1 => ?_) (fun c1 => ?_)
  · have hf := if_s hf c1
    refine lv_iconst (v := 0) hx hb dX5_read_13 (by decide) ?_
    cases hf
    rw [← hQ]
    exact rt_z hx hb hr hlk rfl hP hD hS rfl dX5_read_14
  · have hf := if_n hf c1
    refine lv_iload_n hx hb dX5_read_4 rfl (lv_at hl 1 rfl) ?_
    refine lv_ldc (v := 100000000) hx hb hown (hts (.constant RX5 16 (100000000)) (List.mem_of_getElem? (i := 1) rfl)) dX5_read_5 ?_
    refine lv_idiv hx hb dX5_read_7 (by decide) ?_
    refine lv_bipush (v := 9) hx hb dX5_read_8 (by decide) ?_
    refine lv_icmp_le (tgt := 15) hx hb dX5_read_10 (by decide) (fun c2 => ?_) (fun c2 => ?_)
    · have hf := if_s hf c2
      refine lv_aload_n hx hb dX5_read_15 rfl (lv_at hl 0 rfl) ?_
      obtain ⟨r3, hc3, hf⟩ := ob_s hf
      refine bk_v (wc := [(q, .inr (5, [.ref q_rows])), (q_rows, .inl (cG, 4, .inr (.inr (.inr (.inr (rr4 q_rows_0 q_rows_1 q_rows_2 q_rows_3)))))), (q_rows_0, .inl (cJ, 4, .inr (.inl v_rows_0))), (q_rows_1, .inl (cJ, 4, .inr (.inl v_rows_1))), (q_rows_2, .inl (cJ, 4, .inr (.inl v_rows_2))), (q_rows_3, .inl (cJ, 4, .inr (.inl v_rows_3)))]) (wc2 := [(q, .inr (5, [.ref q_rows])), (q_rows, .inl (cG, 4, .inr (.inr (.inr (.inr (rr4 q_rows_0 q_rows_1 q_rows_2 q_rows_3)))))), (q_rows_0, .inl (cJ, 4, .inr (.inl r3.1))), (q_rows_1, .inl (cJ, 4, .inr (.inl r3.2.1))), (q_rows_2, .inl (cJ, 4, .inr (.inl r3.2.2.1))), (q_rows_3, .inl (cJ, 4, .inr (.inl r3.2.2.2)))]) (wr := []) (ws2 := [(q, .inr (5, [.ref q_rows])), (q_rows, .inl (cG, 4, .inr (.inr (.inr (.inr (rr4 q_rows_0 q_rows_1 q_rows_2 q_rows_3)))))), (q_rows_0, .inl (cJ, 4, .inr (.inl r3.1))), (q_rows_1, .inl (cJ, 4, .inr (.inl r3.2.1))), (q_rows_2, .inl (cJ, 4, .inr (.inl r3.2.2.1))), (q_rows_3, .inl (cJ, 4, .inr (.inl r3.2.2.2)))]) (va_runV (As := []) (rest := []) ⟨hx, hb, hml, hown, hts⟩ (kX5_beRoot (l := l) (G := G) (cI := cI) (cJ := cJ) (cZ := cZ) (cS := cS) (cG := cG) n q q_rows q_rows_0 q_rows_1 q_rows_2 q_rows_3 v_rows_0 v_rows_1 v_rows_2 v_rows_3 _ hc3 _) (cwV 0 hts gX5_read_X5_beRoot rfl rfl rfl (by decide +kernel) ⟨Nat.le_of_ble_eq_true rfl, Nat.le_of_ble_eq_true rfl⟩) (cut_V hK hP hD [0, 1, 2, 3, 4, 5] rfl rfl (ci := 5) (q0 := 0) rfl rfl) rfl rfl hl.1 rfl (lv_room (Nat.le_of_ble_eq_true rfl)) dX5_read_16 ⟨Nat.zero_le _, Nat.zero_le _⟩) hP hD hS hA [0, 1, 2, 3, 4, 5] [] [0, 1, 2, 3, 4, 5] rfl rfl rfl rfl rfl rfl (fun H locs hP hD hS => ?_)
      refine lv_iconst (v := 0) hx hb dX5_read_19 (by decide) ?_
      refine lv_istore_n (lv' := [(2, .int (0 : Int32)), (0, .ref q), (1, .int p1)]) hx hb dX5_read_20 rfl hl (by decide) rfl (fun ls hl => ?_)
      refine lv_ldc (v := 100000000) hx hb hown (hts (.constant RX5 16 (100000000)) (List.mem_of_getElem? (i := 1) rfl)) dX5_read_21 ?_
      refine lv_istore_n (lv' := [(3, .int (100000000 : Int32)), (2, .int (0 : Int32)), (0, .ref q), (1, .int p1)]) hx hb dX5_read_23 rfl hl (by decide) rfl (fun ls hl => ?_)
      refine hL24 p1 _ (fun y2_16 y3_16 u16_rows_0 u16_rows_1 u16_rows_2 u16_rows_3 H locs ls hf hP hD hS hl => ?_) n (0 : Int32) (100000000 : Int32) r3.1 r3.2.1 r3.2.2.1 r3.2.2.2 _ _ _ hf hP hD hS (lv_sub hl [2, 3, 1, 0] rfl)
      have hP : va_P G vwCl [(q, .inr (5, [.ref q_rows])), (q_rows, .inl (cG, 4, .inr (.inr (.inr (.inr (rr4 q_rows_0 q_rows_1 q_rows_2 q_rows_3)))))), (q_rows_0, .inl (cJ, 4, .inr (.inl u16_rows_0))), (q_rows_1, .inl (cJ, 4, .inr (.inl u16_rows_1))), (q_rows_2, .inl (cJ, 4, .inr (.inl u16_rows_2))), (q_rows_3, .inl (cJ, 4, .inr (.inl u16_rows_3)))] H := hP
      have hD : va_D A [(q, .inr (5, [.ref q_rows])), (q_rows, .inl (cG, 4, .inr (.inr (.inr (.inr (rr4 q_rows_0 q_rows_1 q_rows_2 q_rows_3)))))), (q_rows_0, .inl (cJ, 4, .inr (.inl u16_rows_0))), (q_rows_1, .inl (cJ, 4, .inr (.inl u16_rows_1))), (q_rows_2, .inl (cJ, 4, .inr (.inl u16_rows_2))), (q_rows_3, .inl (cJ, 4, .inr (.inl u16_rows_3)))] := hD
      refine lv_iconst (v := 1) hx hb dX5_read_97 (by decide) ?_
      cases hf
      rw [← hQ]
      exact rt_z hx hb hr hlk rfl hP hD hS rfl dX5_read_98
    · have hf := if_n hf c2
      refine lv_iconst (v := 0) hx hb dX5_read_13 (by decide) ?_
      cases hf
      rw [← hQ]
      exact rt_z hx hb hr hlk rfl hP hD hS rfl dX5_read_14
def pX5_weigh_L5 (x1 : Int32) (v_rows_0 : (Nat → Int64)) (v_rows_1 : (Nat → Int64)) (v_rows_2 : (Nat → Int64)) (v_rows_3 : (Nat → Int64)) (v_a2 : (Nat → Int64)) : Nat → Int64 → Int32 → (Int64 → Int32 → Option (Int64)) → Option (Int64)
  | 0, _, _, _ => none
  | n + 1, x3, x5, k => if (4 : Int32) ≤ x5 then k x3 x5 else if x1 = 0 then ck (ix x5 4) (pX5_weigh_L5 x1 v_rows_0 v_rows_1 v_rows_2 v_rows_3 v_a2 n (x3 + ((v_rows_0 x5.toNatClampNeg) * (v_a2 x5.toNatClampNeg))) (x5 + (1 : Int32)) k) else if x1 = 1 then ck (ix x5 4) (pX5_weigh_L5 x1 v_rows_0 v_rows_1 v_rows_2 v_rows_3 v_a2 n (x3 + ((v_rows_1 x5.toNatClampNeg) * (v_a2 x5.toNatClampNeg))) (x5 + (1 : Int32)) k) else if x1 = 2 then ck (ix x5 4) (pX5_weigh_L5 x1 v_rows_0 v_rows_1 v_rows_2 v_rows_3 v_a2 n (x3 + ((v_rows_2 x5.toNatClampNeg) * (v_a2 x5.toNatClampNeg))) (x5 + (1 : Int32)) k) else if x1 = 3 then ck (ix x5 4) (pX5_weigh_L5 x1 v_rows_0 v_rows_1 v_rows_2 v_rows_3 v_a2 n (x3 + ((v_rows_3 x5.toNatClampNeg) * (v_a2 x5.toNatClampNeg))) (x5 + (1 : Int32)) k) else none
def pX5_weigh (n : Nat) (v_rows_0 : (Nat → Int64)) (v_rows_1 : (Nat → Int64)) (v_rows_2 : (Nat → Int64)) (v_rows_3 : (Nat → Int64)) (v_a2 : (Nat → Int64)) (p1 : Int32) : Option (Int64) := pX5_weigh_L5 p1 v_rows_0 v_rows_1 v_rows_2 v_rows_3 v_a2 n (0 : Int64) (0 : Int32) (fun (y3_7 : Int64) (y5_7 : Int32) => some y3_7)
def rmX5_weigh : Room := { frames := 0, cells := 0, slots := 0, locals := 0 }
theorem hiX5_weigh_X5 : ∀ w ∈ u_ws RX5 TX5 1, w ∈ wsX5_weigh := fun _ h => List.mem_cons_of_mem _ (List.mem_append_right _ h)
set_option maxRecDepth 100000 in
set_option maxHeartbeats 4000000 in
theorem kX5_weigh {l : Launch} {G : va_G} {cI cJ cZ cS cG : ClassId} (n : Nat) (q q_rows q_rows_0 q_rows_1 q_rows_2 q_rows_3 q_a2 : Nat) (v_rows_0 : (Nat → Int64)) (v_rows_1 : (Nat → Int64)) (v_rows_2 : (Nat → Int64)) (v_rows_3 : (Nat → Int64)) (v_a2 : (Nat → Int64)) (p1 : Int32) (R : Int64) (hf : pX5_weigh n v_rows_0 v_rows_1 v_rows_2 v_rows_3 v_a2 p1 = some R) : CTl l yX5_weigh wsX5_weigh rmX5_weigh G cI cJ cZ cS cG [.ref q, .int p1, .ref q_a2] [(q, .inr (5, [.ref q_rows])), (q_rows, .inl (cG, 4, .inr (.inr (.inr (.inr (rr4 q_rows_0 q_rows_1 q_rows_2 q_rows_3)))))), (q_rows_0, .inl (cJ, 4, .inr (.inl v_rows_0))), (q_rows_1, .inl (cJ, 4, .inr (.inl v_rows_1))), (q_rows_2, .inl (cJ, 4, .inr (.inl v_rows_2))), (q_rows_3, .inl (cJ, 4, .inr (.inl v_rows_3))), (q_a2, .inl (cJ, 4, .inr (.inl v_a2)))] [(q, .inr (5, [.ref q_rows])), (q_rows, .inl (cG, 4, .inr (.inr (.inr (.inr (rr4 q_rows_0 q_rows_1 q_rows_2 q_rows_3)))))), (q_rows_0, .inl (cJ, 4, .inr (.inl v_rows_0))), (q_rows_1, .inl (cJ, 4, .inr (.inl v_rows_1))), (q_rows_2, .inl (cJ, 4, .inr (.inl v_rows_2))), (q_rows_3, .inl (cJ, 4, .inr (.inl v_rows_3))), (q_a2, .inl (cJ, 4, .inr (.inl v_a2)))] R := by
  refine Met.ofE (Qc := fun A => QRl G A [(q, .inr (5, [.ref q_rows])), (q_rows, .inl (cG, 4, .inr (.inr (.inr (.inr (rr4 q_rows_0 q_rows_1 q_rows_2 q_rows_3)))))), (q_rows_0, .inl (cJ, 4, .inr (.inl v_rows_0))), (q_rows_1, .inl (cJ, 4, .inr (.inl v_rows_1))), (q_rows_2, .inl (cJ, 4, .inr (.inl v_rows_2))), (q_rows_3, .inl (cJ, 4, .inr (.inl v_rows_3))), (q_a2, .inl (cJ, 4, .inr (.inl v_a2)))] R) (cc := cX5_weigh) (nL := 6) (ret := some .long) (plainFor_of_name (by decide +kernel)) rfl (Nat.le_of_ble_eq_true rfl) ?_
  intro p e s m below meth c A ls hx hb hml hr hlk hts hown hK hA hP hD hS hl
  have hown : s.vm.findClass RX5 = some m.cls := hown
  have hl : lv_has ls 6 [(0, .ref q), (1, .int p1), (2, .ref q_a2)] := hl
  generalize hQ : MQ below (QRl G A [(q, .inr (5, [.ref q_rows])), (q_rows, .inl (cG, 4, .inr (.inr (.inr (.inr (rr4 q_rows_0 q_rows_1 q_rows_2 q_rows_3)))))), (q_rows_0, .inl (cJ, 4, .inr (.inl v_rows_0))), (q_rows_1, .inl (cJ, 4, .inr (.inl v_rows_1))), (q_rows_2, .inl (cJ, 4, .inr (.inl v_rows_2))), (q_rows_3, .inl (cJ, 4, .inr (.inl v_rows_3))), (q_a2, .inl (cJ, 4, .inr (.inl v_a2)))] R) ([.ref q, .int p1, .ref q_a2] : List Value).toArray s 0 0 A = QQ
  unfold pX5_weigh at hf
  have hL5 : ∀ (x1 : Int32) (k : Int64 → Int32 → Option (Int64)), (∀ (x3 : Int64) (x5 : Int32) (H : Heap) (locs : List Loc) (ls : Array Slot), k x3 x5 = some R → va_P G vwCl [(q, .inr (5, [.ref q_rows])), (q_rows, .inl (cG, 4, .inr (.inr (.inr (.inr (rr4 q_rows_0 q_rows_1 q_rows_2 q_rows_3)))))), (q_rows_0, .inl (cJ, 4, .inr (.inl v_rows_0))), (q_rows_1, .inl (cJ, 4, .inr (.inl v_rows_1))), (q_rows_2, .inl (cJ, 4, .inr (.inl v_rows_2))), (q_rows_3, .inl (cJ, 4, .inr (.inl v_rows_3))), (q_a2, .inl (cJ, 4, .inr (.inl v_a2)))] H → va_D A [(q, .inr (5, [.ref q_rows])), (q_rows, .inl (cG, 4, .inr (.inr (.inr (.inr (rr4 q_rows_0 q_rows_1 q_rows_2 q_rows_3)))))), (q_rows_0, .inl (cJ, 4, .inr (.inl v_rows_0))), (q_rows_1, .inl (cJ, 4, .inr (.inl v_rows_1))), (q_rows_2, .inl (cJ, 4, .inr (.inl v_rows_2))), (q_rows_3, .inl (cJ, 4, .inr (.inl v_rows_3))), (q_a2, .inl (cJ, 4, .inr (.inl v_a2)))] → va_S A s.heap H locs → lv_has ls 6 [(0, .ref q), (1, .int x1), (2, .ref q_a2), (3, .long x3), (5, .int x5)] → W p l e rmX5_weigh s m ([.ref q, .int p1, .ref q_a2] : List Value).toArray below meth c H locs 0 0 QQ (F0 m 34 ls [])) → ∀ (n : Nat) (x3 : Int64) (x5 : Int32) (H : Heap) (locs : List Loc) (ls : Array Slot), pX5_weigh_L5 x1 v_rows_0 v_rows_1 v_rows_2 v_rows_3 v_a2 n x3 x5 k = some R → va_P G vwCl [(q, .inr (5, [.ref q_rows])), (q_rows, .inl (cG, 4, .inr (.inr (.inr (.inr (rr4 q_rows_0 q_rows_1 q_rows_2 q_rows_3)))))), (q_rows_0, .inl (cJ, 4, .inr (.inl v_rows_0))), (q_rows_1, .inl (cJ, 4, .inr (.inl v_rows_1))), (q_rows_2, .inl (cJ, 4, .inr (.inl v_rows_2))), (q_rows_3, .inl (cJ, 4, .inr (.inl v_rows_3))), (q_a2, .inl (cJ, 4, .inr (.inl v_a2)))] H → va_D A [(q, .inr (5, [.ref q_rows])), (q_rows, .inl (cG, 4, .inr (.inr (.inr (.inr (rr4 q_rows_0 q_rows_1 q_rows_2 q_rows_3)))))), (q_rows_0, .inl (cJ, 4, .inr (.inl v_rows_0))), (q_rows_1, .inl (cJ, 4, .inr (.inl v_rows_1))), (q_rows_2, .inl (cJ, 4, .inr (.inl v_rows_2))), (q_rows_3, .inl (cJ, 4, .inr (.inl v_rows_3))), (q_a2, .inl (cJ, 4, .inr (.inl v_a2)))] → va_S A s.heap H locs → lv_has ls 6 [(0, .ref q), (1, .int x1), (2, .ref q_a2), (3, .long x3), (5, .int x5)] → W p l e rmX5_weigh s m ([.ref q, .int p1, .ref q_a2] : List Value).toArray below meth c H locs 0 0 QQ (F0 m 5 ls []) := by
    intro x1 k hk n
    induction n with
    | zero =>
      intro x3 x5 H locs ls hf
      cases hf
    | succ n ih =>
      intro x3 x5 H locs ls hf hP hD hS hl
      unfold pX5_weigh_L5 at hf
      refine lv_iload hx hb dX5_weigh_5 (lv_at hl 4 rfl) ?_
      refine lv_iconst (v := 4) hx hb dX5_weigh_7 (by decide) ?_
      refine lv_icmp_ge (tgt := 34) hx hb dX5_weigh_8 (by decide) (fun c1 => ?_) (fun c1 => ?_)
      · have hf := if_s hf c1
        exact hk x3 x5 _ _ _ hf hP hD hS (lv_sub hl [0, 1, 2, 3, 4] rfl)
      · have hf := if_n hf c1
        refine lv_lload_n hx hb dX5_weigh_11 rfl (lv_at hl 3 rfl) ?_
        refine lv_aload_n hx hb dX5_weigh_12 rfl (lv_at hl 0 rfl) ?_
        refine va_get (D := G) (ci := 5) (v := .ref q_rows) (C := RX5) (T := TX5) (N := 1) hx hb hts hiX5_weigh_X5 hown hK.1 hP 0 rfl rfl 0 (by decide) (hts (.fieldLink RX5 11 "PackedBends$Sums" "rows" "[[J") (List.mem_of_getElem? (i := 1) rfl)) (fun _ h9 => h9) rfl dX5_weigh_13 ?_
        refine lv_iload_n hx hb dX5_weigh_16 rfl (lv_at hl 1 rfl) ?_
        by_cases c2_0 : x1 = 0
        · have hf := if_s hf c2_0
          refine W.eq (g2 := F0 m 17 ls [.int 0, .ref q_rows, .long x3]) (by rw [c2_0]) ?_
          refine va_aldA hx hb hK.1 hP 1 4 rfl rfl (vp_in_iff.mpr (by decide)) dX5_weigh_17 ?_
          refine W.eq (g2 := F0 m 18 ls [.ref q_rows_0, .long x3]) rfl ?_
          refine lv_iload hx hb dX5_weigh_18 (lv_at hl 4 rfl) ?_
          obtain ⟨z3, hf⟩ := ck_s hf
          refine va_lald hx hb hK.1 hP 2 1 rfl rfl (vp_in_iff.mpr z3) dX5_weigh_20 ?_
          refine lv_aload_n hx hb dX5_weigh_21 rfl (lv_at hl 2 rfl) ?_
          refine lv_iload hx hb dX5_weigh_22 (lv_at hl 4 rfl) ?_
          refine va_lald hx hb hK.1 hP 6 1 rfl rfl (vp_in_iff.mpr z3) dX5_weigh_24 ?_
          refine lv_lmul hx hb dX5_weigh_25 ?_
          refine lv_ladd hx hb dX5_weigh_26 ?_
          refine lv_lstore_n (lv' := [(3, .long (x3 + ((v_rows_0 x5.toNatClampNeg) * (v_a2 x5.toNatClampNeg)))), (0, .ref q), (1, .int x1), (2, .ref q_a2), (5, .int x5)]) hx hb dX5_weigh_27 rfl hl (by decide) rfl (fun ls hl => ?_)
          refine lv_iinc (v := x5 + (1 : Int32)) (lv' := [(5, .int (x5 + (1 : Int32))), (3, .long (x3 + ((v_rows_0 x5.toNatClampNeg) * (v_a2 x5.toNatClampNeg)))), (0, .ref q), (1, .int x1), (2, .ref q_a2)]) hx hb dX5_weigh_28 hl (k := 4) rfl rfl (by decide) rfl (fun ls hl => ?_)
          refine lv_goto (tgt := 5) hx hb dX5_weigh_31 (by decide) ?_
          exact ih (x3 + ((v_rows_0 x5.toNatClampNeg) * (v_a2 x5.toNatClampNeg))) (x5 + (1 : Int32)) _ _ _ hf hP hD hS (lv_sub hl [2, 3, 4, 1, 0] rfl)
        · have hf := if_n hf c2_0
          by_cases c2_1 : x1 = 1
          · have hf := if_s hf c2_1
            refine W.eq (g2 := F0 m 17 ls [.int 1, .ref q_rows, .long x3]) (by rw [c2_1]) ?_
            refine va_aldA hx hb hK.1 hP 1 4 rfl rfl (vp_in_iff.mpr (by decide)) dX5_weigh_17 ?_
            refine W.eq (g2 := F0 m 18 ls [.ref q_rows_1, .long x3]) rfl ?_
            refine lv_iload hx hb dX5_weigh_18 (lv_at hl 4 rfl) ?_
            obtain ⟨z4, hf⟩ := ck_s hf
            refine va_lald hx hb hK.1 hP 3 1 rfl rfl (vp_in_iff.mpr z4) dX5_weigh_20 ?_
            refine lv_aload_n hx hb dX5_weigh_21 rfl (lv_at hl 2 rfl) ?_
            refine lv_iload hx hb dX5_weigh_22 (lv_at hl 4 rfl) ?_
            refine va_lald hx hb hK.1 hP 6 1 rfl rfl (vp_in_iff.mpr z4) dX5_weigh_24 ?_
            refine lv_lmul hx hb dX5_weigh_25 ?_
            refine lv_ladd hx hb dX5_weigh_26 ?_
            refine lv_lstore_n (lv' := [(3, .long (x3 + ((v_rows_1 x5.toNatClampNeg) * (v_a2 x5.toNatClampNeg)))), (0, .ref q), (1, .int x1), (2, .ref q_a2), (5, .int x5)]) hx hb dX5_weigh_27 rfl hl (by decide) rfl (fun ls hl => ?_)
            refine lv_iinc (v := x5 + (1 : Int32)) (lv' := [(5, .int (x5 + (1 : Int32))), (3, .long (x3 + ((v_rows_1 x5.toNatClampNeg) * (v_a2 x5.toNatClampNeg)))), (0, .ref q), (1, .int x1), (2, .ref q_a2)]) hx hb dX5_weigh_28 hl (k := 4) rfl rfl (by decide) rfl (fun ls hl => ?_)
            refine lv_goto (tgt := 5) hx hb dX5_weigh_31 (by decide) ?_
            exact ih (x3 + ((v_rows_1 x5.toNatClampNeg) * (v_a2 x5.toNatClampNeg))) (x5 + (1 : Int32)) _ _ _ hf hP hD hS (lv_sub hl [2, 3, 4, 1, 0] rfl)
          · have hf := if_n hf c2_1
            by_cases c2_2 : x1 = 2
            · have hf := if_s hf c2_2
              refine W.eq (g2 := F0 m 17 ls [.int 2, .ref q_rows, .long x3]) (by rw [c2_2]) ?_
              refine va_aldA hx hb hK.1 hP 1 4 rfl rfl (vp_in_iff.mpr (by decide)) dX5_weigh_17 ?_
              refine W.eq (g2 := F0 m 18 ls [.ref q_rows_2, .long x3]) rfl ?_
              refine lv_iload hx hb dX5_weigh_18 (lv_at hl 4 rfl) ?_
              obtain ⟨z5, hf⟩ := ck_s hf
              refine va_lald hx hb hK.1 hP 4 1 rfl rfl (vp_in_iff.mpr z5) dX5_weigh_20 ?_
              refine lv_aload_n hx hb dX5_weigh_21 rfl (lv_at hl 2 rfl) ?_
              refine lv_iload hx hb dX5_weigh_22 (lv_at hl 4 rfl) ?_
              refine va_lald hx hb hK.1 hP 6 1 rfl rfl (vp_in_iff.mpr z5) dX5_weigh_24 ?_
              refine lv_lmul hx hb dX5_weigh_25 ?_
              refine lv_ladd hx hb dX5_weigh_26 ?_
              refine lv_lstore_n (lv' := [(3, .long (x3 + ((v_rows_2 x5.toNatClampNeg) * (v_a2 x5.toNatClampNeg)))), (0, .ref q), (1, .int x1), (2, .ref q_a2), (5, .int x5)]) hx hb dX5_weigh_27 rfl hl (by decide) rfl (fun ls hl => ?_)
              refine lv_iinc (v := x5 + (1 : Int32)) (lv' := [(5, .int (x5 + (1 : Int32))), (3, .long (x3 + ((v_rows_2 x5.toNatClampNeg) * (v_a2 x5.toNatClampNeg)))), (0, .ref q), (1, .int x1), (2, .ref q_a2)]) hx hb dX5_weigh_28 hl (k := 4) rfl rfl (by decide) rfl (fun ls hl => ?_)
              refine lv_goto (tgt := 5) hx hb dX5_weigh_31 (by decide) ?_
              exact ih (x3 + ((v_rows_2 x5.toNatClampNeg) * (v_a2 x5.toNatClampNeg))) (x5 + (1 : Int32)) _ _ _ hf hP hD hS (lv_sub hl [2, 3, 4, 1, 0] rfl)
            · have hf := if_n hf c2_2
              by_cases c2_3 : x1 = 3
              · have hf := if_s hf c2_3
                refine W.eq (g2 := F0 m 17 ls [.int 3, .ref q_rows, .long x3]) (by rw [c2_3]) ?_
                refine va_aldA hx hb hK.1 hP 1 4 rfl rfl (vp_in_iff.mpr (by decide)) dX5_weigh_17 ?_
                refine W.eq (g2 := F0 m 18 ls [.ref q_rows_3, .long x3]) rfl ?_
                refine lv_iload hx hb dX5_weigh_18 (lv_at hl 4 rfl) ?_
                obtain ⟨z6, hf⟩ := ck_s hf
                refine va_lald hx hb hK.1 hP 5 1 rfl rfl (vp_in_iff.mpr z6) dX5_weigh_20 ?_
                refine lv_aload_n hx hb dX5_weigh_21 rfl (lv_at hl 2 rfl) ?_
                refine lv_iload hx hb dX5_weigh_22 (lv_at hl 4 rfl) ?_
                refine va_lald hx hb hK.1 hP 6 1 rfl rfl (vp_in_iff.mpr z6) dX5_weigh_24 ?_
                refine lv_lmul hx hb dX5_weigh_25 ?_
                refine lv_ladd hx hb dX5_weigh_26 ?_
                refine lv_lstore_n (lv' := [(3, .long (x3 + ((v_rows_3 x5.toNatClampNeg) * (v_a2 x5.toNatClampNeg)))), (0, .ref q), (1, .int x1), (2, .ref q_a2), (5, .int x5)]) hx hb dX5_weigh_27 rfl hl (by decide) rfl (fun ls hl => ?_)
                refine lv_iinc (v := x5 + (1 : Int32)) (lv' := [(5, .int (x5 + (1 : Int32))), (3, .long (x3 + ((v_rows_3 x5.toNatClampNeg) * (v_a2 x5.toNatClampNeg)))), (0, .ref q), (1, .int x1), (2, .ref q_a2)]) hx hb dX5_weigh_28 hl (k := 4) rfl rfl (by decide) rfl (fun ls hl => ?_)
                refine lv_goto (tgt := 5) hx hb dX5_weigh_31 (by decide) ?_
                exact ih (x3 + ((v_rows_3 x5.toNatClampNeg) * (v_a2 x5.toNatClampNeg))) (x5 + (1 : Int32)) _ _ _ hf hP hD hS (lv_sub hl [2, 3, 4, 1, 0] rfl)
              · have hf := if_n hf c2_3
                cases hf
  refine lv_lconst (v := 0) hx hb dX5_weigh_0 (by decide) ?_
  refine lv_lstore_n (lv' := [(3, .long (0 : Int64)), (0, .ref q), (1, .int p1), (2, .ref q_a2)]) hx hb dX5_weigh_1 rfl hl (by decide) rfl (fun ls hl => ?_)
  refine lv_iconst (v := 0) hx hb dX5_weigh_2 (by decide) ?_
  refine lv_istore (lv' := [(5, .int (0 : Int32)), (3, .long (0 : Int64)), (0, .ref q), (1, .int p1), (2, .ref q_a2)]) hx hb dX5_weigh_3 hl (by decide) rfl (fun ls hl => ?_)
  refine hL5 p1 _ (fun y3_7 y5_7 H locs ls hf hP hD hS hl => ?_) n (0 : Int64) (0 : Int32) _ _ _ hf hP hD hS (lv_sub hl [2, 3, 4, 1, 0] rfl)
  have hP : va_P G vwCl [(q, .inr (5, [.ref q_rows])), (q_rows, .inl (cG, 4, .inr (.inr (.inr (.inr (rr4 q_rows_0 q_rows_1 q_rows_2 q_rows_3)))))), (q_rows_0, .inl (cJ, 4, .inr (.inl v_rows_0))), (q_rows_1, .inl (cJ, 4, .inr (.inl v_rows_1))), (q_rows_2, .inl (cJ, 4, .inr (.inl v_rows_2))), (q_rows_3, .inl (cJ, 4, .inr (.inl v_rows_3))), (q_a2, .inl (cJ, 4, .inr (.inl v_a2)))] H := hP
  have hD : va_D A [(q, .inr (5, [.ref q_rows])), (q_rows, .inl (cG, 4, .inr (.inr (.inr (.inr (rr4 q_rows_0 q_rows_1 q_rows_2 q_rows_3)))))), (q_rows_0, .inl (cJ, 4, .inr (.inl v_rows_0))), (q_rows_1, .inl (cJ, 4, .inr (.inl v_rows_1))), (q_rows_2, .inl (cJ, 4, .inr (.inl v_rows_2))), (q_rows_3, .inl (cJ, 4, .inr (.inl v_rows_3))), (q_a2, .inl (cJ, 4, .inr (.inl v_a2)))] := hD
  refine lv_lload_n hx hb dX5_weigh_34 rfl (lv_at hl 3 rfl) ?_
  cases hf
  rw [← hQ]
  exact rt_l hx hb hr hlk hP hD hS rfl dX5_weigh_35
def pX7_start (n : Nat) (v_four : (Nat → Int64)) (v_a1 : (Nat → Int64)) : Option (Int32 × (Nat → Int64)) := Option.bind (pX8_copyFour n v_a1 v_four) (fun r1 => some ((0 : Int32), r1))
def rmX7_start : Room := { frames := 1, cells := 0, slots := 0, locals := 22 }
theorem hiX7_start_X7 : ∀ w ∈ u_ws RX7 TX7 3, w ∈ wsX7_start := fun _ h => List.mem_cons_of_mem _ (List.mem_append_right _ h)
set_option maxRecDepth 100000 in
set_option maxHeartbeats 4000000 in
theorem kX7_start {l : Launch} {G : va_G} {cI cJ cZ cS cG : ClassId} (n : Nat) (q q_row q_four q_a1 : Nat) (v_depth : Int32) (v_four : (Nat → Int64)) (v_a1 : (Nat → Int64)) (R : Int32 × (Nat → Int64)) (hf : pX7_start n v_four v_a1 = some R) : CTv l yX7_start wsX7_start rmX7_start G cI cJ cZ cS cG [.ref q, .ref q_a1] [(q, .inr (7, [.ref q_row, .ref q_four, .int v_depth])), (q_four, .inl (cJ, 4, .inr (.inl v_four))), (q_a1, .inl (cJ, 4, .inr (.inl v_a1)))] [(q, .inr (7, [.ref q_row, .ref q_four, .int R.1])), (q_four, .inl (cJ, 4, .inr (.inl R.2))), (q_a1, .inl (cJ, 4, .inr (.inl v_a1)))] := by
  refine Met.ofE (Qc := fun A => QRv G A [(q, .inr (7, [.ref q_row, .ref q_four, .int R.1])), (q_four, .inl (cJ, 4, .inr (.inl R.2))), (q_a1, .inl (cJ, 4, .inr (.inl v_a1)))]) (cc := cX7_start) (nL := 2) (ret := none) (plainFor_of_name (by decide +kernel)) rfl (Nat.le_of_ble_eq_true rfl) ?_
  intro p e s m below meth c A ls hx hb hml hr hlk hts hown hK hA hP hD hS hl
  have hown : s.vm.findClass RX7 = some m.cls := hown
  have hl : lv_has ls 2 [(0, .ref q), (1, .ref q_a1)] := hl
  generalize hQ : MQ below (QRv G A [(q, .inr (7, [.ref q_row, .ref q_four, .int R.1])), (q_four, .inl (cJ, 4, .inr (.inl R.2))), (q_a1, .inl (cJ, 4, .inr (.inl v_a1)))]) ([.ref q, .ref q_a1] : List Value).toArray s 0 0 A = QQ
  unfold pX7_start at hf
  refine lv_aload_n hx hb dX7_start_0 rfl (lv_at hl 1 rfl) ?_
  refine lv_aload_n hx hb dX7_start_1 rfl (lv_at hl 0 rfl) ?_
  refine va_get (D := G) (ci := 7) (v := .ref q_four) (C := RX7) (T := TX7) (N := 3) hx hb hts hiX7_start_X7 hown hK.1 hP 0 rfl rfl 1 (by decide) (hts (.fieldLink RX7 15 "PackedBends$Walk" "four" "[J") (List.mem_of_getElem? (i := 1) rfl)) (fun _ h9 => h9) rfl dX7_start_2 ?_
  obtain ⟨r1, hc1, hf⟩ := ob_s hf
  refine bk_v (wc := [(q_a1, .inl (cJ, 4, .inr (.inl v_a1))), (q_four, .inl (cJ, 4, .inr (.inl v_four)))]) (wc2 := [(q_a1, .inl (cJ, 4, .inr (.inl v_a1))), (q_four, .inl (cJ, 4, .inr (.inl r1)))]) (wr := [(q, .inr (7, [.ref q_row, .ref q_four, .int v_depth]))]) (ws2 := [(q, .inr (7, [.ref q_row, .ref q_four, .int v_depth])), (q_four, .inl (cJ, 4, .inr (.inl r1))), (q_a1, .inl (cJ, 4, .inr (.inl v_a1)))]) (va_runSN (own := "PackedBends$Walk") (As := [.ref q_a1, .ref q_four]) (rest := []) ⟨hx, hb, hml, hown, hts⟩ (kX8_copyFour (l := l) (G := G) (cI := cI) (cJ := cJ) (cZ := cZ) (cS := cS) (cG := cG) n q_a1 q_four v_a1 v_four _ hc1 _) ⟨va_cnB (host := "PackedBends") (index := 19) (own := "PackedBends$Walk") 2 hts gX7_start_X8_copyFour_n19 rfl rfl rfl (hK.2.1 ("PackedBends$Walk", 19, yX8_copyFour) (List.mem_of_getElem? (i := 3) rfl)) (hts (.initialized RX8) (List.mem_of_getElem? (i := 4) rfl)) (by decide +kernel) ⟨Nat.le_of_ble_eq_true rfl, Nat.le_of_ble_eq_true rfl⟩, hts (.static yX8_copyFour) (List.mem_of_getElem? (i := 3) rfl), trivial⟩ (cut_S hK hP hD [2, 1] rfl rfl) rfl rfl hl.1 rfl (lv_room (Nat.le_of_ble_eq_true rfl)) dX7_start_5 ⟨Nat.zero_le _, Nat.zero_le _⟩) hP hD hS hA [2, 1] [0] [0, 2, 1] rfl rfl rfl rfl rfl rfl (fun H locs hP hD hS => ?_)
  refine lv_aload_n hx hb dX7_start_8 rfl (lv_at hl 0 rfl) ?_
  refine lv_iconst (v := 0) hx hb dX7_start_9 (by decide) ?_
  refine va_put (D := G) (ci := 7) (v := .int (0 : Int32)) (ty := .int) (C := RX7) (T := TX7) (N := 3) hx hb hts hiX7_start_X7 tyX7 tyX7_ok nmX7 hown hK.1 hP hD hS 0 rfl rfl 2 (by decide) (hts (.fieldLink RX7 23 "PackedBends$Walk" "depth" "I") (List.mem_of_getElem? (i := 2) rfl)) (fun _ h9 => h9) rfl (by decide +kernel) rfl rfl (Nat.le_of_ble_eq_true rfl) dX7_start_10 (fun H locs hP hD hS => ?_)
  have hP : va_P G vwCl [(q, .inr (7, [.ref q_row, .ref q_four, .int (0 : Int32)])), (q_four, .inl (cJ, 4, .inr (.inl r1))), (q_a1, .inl (cJ, 4, .inr (.inl v_a1)))] H := hP
  have hD : va_D A [(q, .inr (7, [.ref q_row, .ref q_four, .int (0 : Int32)])), (q_four, .inl (cJ, 4, .inr (.inl r1))), (q_a1, .inl (cJ, 4, .inr (.inl v_a1)))] := hD
  cases hf
  rw [← hQ]
  exact rt_v hx hb hr hlk hP hD hS dX7_start_13
def pX7_goDown (v_depth : Int32) (v_row : (Nat → Int32)) (v_four : (Nat → Int64)) (p1 : Int32) : Option (Int32 × (Nat → Int32) × (Nat → Int64)) := Option.bind (pX8_turnedOver v_four p1) (fun r1 => ck (ix p1 4) (ck (ix v_depth 2001) (some (v_depth + (1 : Int32), upd v_row v_depth.toNatClampNeg p1, vp_updL v_four p1.toNatClampNeg r1))))
def rmX7_goDown : Room := { frames := 1, cells := 0, slots := 0, locals := 23 }
theorem hiX7_goDown_X7 : ∀ w ∈ u_ws RX7 TX7 3, w ∈ wsX7_goDown := fun _ h => List.mem_cons_of_mem _ (List.mem_append_right _ h)
set_option maxRecDepth 100000 in
set_option maxHeartbeats 4000000 in
theorem kX7_goDown {l : Launch} {G : va_G} {cI cJ cZ cS cG : ClassId} (q q_row q_four : Nat) (v_depth : Int32) (v_row : (Nat → Int32)) (v_four : (Nat → Int64)) (p1 : Int32) (R : Int32 × (Nat → Int32) × (Nat → Int64)) (hf : pX7_goDown v_depth v_row v_four p1 = some R) : CTv l yX7_goDown wsX7_goDown rmX7_goDown G cI cJ cZ cS cG [.ref q, .int p1] [(q, .inr (7, [.ref q_row, .ref q_four, .int v_depth])), (q_row, .inl (cI, 2001, .inl v_row)), (q_four, .inl (cJ, 4, .inr (.inl v_four)))] [(q, .inr (7, [.ref q_row, .ref q_four, .int R.1])), (q_row, .inl (cI, 2001, .inl R.2.1)), (q_four, .inl (cJ, 4, .inr (.inl R.2.2)))] := by
  refine Met.ofE (Qc := fun A => QRv G A [(q, .inr (7, [.ref q_row, .ref q_four, .int R.1])), (q_row, .inl (cI, 2001, .inl R.2.1)), (q_four, .inl (cJ, 4, .inr (.inl R.2.2)))]) (cc := cX7_goDown) (nL := 2) (ret := none) (plainFor_of_name (by decide +kernel)) rfl (Nat.le_of_ble_eq_true rfl) ?_
  intro p e s m below meth c A ls hx hb hml hr hlk hts hown hK hA hP hD hS hl
  have hown : s.vm.findClass RX7 = some m.cls := hown
  have hl : lv_has ls 2 [(0, .ref q), (1, .int p1)] := hl
  generalize hQ : MQ below (QRv G A [(q, .inr (7, [.ref q_row, .ref q_four, .int R.1])), (q_row, .inl (cI, 2001, .inl R.2.1)), (q_four, .inl (cJ, 4, .inr (.inl R.2.2)))]) ([.ref q, .int p1] : List Value).toArray s 0 0 A = QQ
  unfold pX7_goDown at hf
  refine lv_aload_n hx hb dX7_goDown_0 rfl (lv_at hl 0 rfl) ?_
  refine va_get (D := G) (ci := 7) (v := .ref q_four) (C := RX7) (T := TX7) (N := 3) hx hb hts hiX7_goDown_X7 hown hK.1 hP 0 rfl rfl 1 (by decide) (hts (.fieldLink RX7 15 "PackedBends$Walk" "four" "[J") (List.mem_of_getElem? (i := 1) rfl)) (fun _ h9 => h9) rfl dX7_goDown_1 ?_
  refine lv_iload_n hx hb dX7_goDown_4 rfl (lv_at hl 1 rfl) ?_
  refine lv_aload_n hx hb dX7_goDown_5 rfl (lv_at hl 0 rfl) ?_
  refine va_get (D := G) (ci := 7) (v := .ref q_four) (C := RX7) (T := TX7) (N := 3) hx hb hts hiX7_goDown_X7 hown hK.1 hP 0 rfl rfl 1 (by decide) (hts (.fieldLink RX7 15 "PackedBends$Walk" "four" "[J") (List.mem_of_getElem? (i := 1) rfl)) (fun _ h9 => h9) rfl dX7_goDown_6 ?_
  refine lv_iload_n hx hb dX7_goDown_9 rfl (lv_at hl 1 rfl) ?_
  obtain ⟨r1, hc1, hf⟩ := ob_s hf
  refine bk_l (wc := [(q_four, .inl (cJ, 4, .inr (.inl v_four)))]) (wc2 := [(q_four, .inl (cJ, 4, .inr (.inl v_four)))]) (wr := [(q, .inr (7, [.ref q_row, .ref q_four, .int v_depth])), (q_row, .inl (cI, 2001, .inl v_row))]) (ws2 := [(q, .inr (7, [.ref q_row, .ref q_four, .int v_depth])), (q_row, .inl (cI, 2001, .inl v_row)), (q_four, .inl (cJ, 4, .inr (.inl v_four)))]) (r := r1) (va_runSN (own := "PackedBends$Walk") (As := [.ref q_four, .int p1]) (rest := [.int p1, .ref q_four]) ⟨hx, hb, hml, hown, hts⟩ (kX8_turnedOver (l := l) (G := G) (cI := cI) (cJ := cJ) (cZ := cZ) (cS := cS) (cG := cG) q_four v_four p1 _ hc1 _) ⟨va_cnB (host := "PackedBends") (index := 42) (own := "PackedBends$Walk") 2 hts gX7_goDown_X8_turnedOver_n42 rfl rfl rfl (hK.2.1 ("PackedBends$Walk", 42, yX8_turnedOver) (List.mem_of_getElem? (i := 4) rfl)) (hts (.initialized RX8) (List.mem_of_getElem? (i := 5) rfl)) (by decide +kernel) ⟨Nat.le_of_ble_eq_true rfl, Nat.le_of_ble_eq_true rfl⟩, hts (.static yX8_turnedOver) (List.mem_of_getElem? (i := 4) rfl), trivial⟩ (cut_S hK hP hD [2] rfl rfl) rfl rfl hl.1 rfl (lv_room (Nat.le_of_ble_eq_true rfl)) dX7_goDown_10 ⟨Nat.zero_le _, Nat.zero_le _⟩) hP hD hS hA [2] [0, 1] [0, 1, 2] rfl rfl rfl rfl rfl rfl (fun H locs hP hD hS => ?_)
  obtain ⟨z2, hf⟩ := ck_s hf
  refine va_last hx hb hK.1 hP hD hS 2 1 rfl rfl (vp_in_iff.mpr z2) dX7_goDown_13 (fun H locs hP hD hS => ?_)
  have hP : va_P G vwCl [(q, .inr (7, [.ref q_row, .ref q_four, .int v_depth])), (q_row, .inl (cI, 2001, .inl v_row)), (q_four, .inl (cJ, 4, .inr (.inl (vp_updL v_four p1.toNatClampNeg r1))))] H := hP
  have hD : va_D A [(q, .inr (7, [.ref q_row, .ref q_four, .int v_depth])), (q_row, .inl (cI, 2001, .inl v_row)), (q_four, .inl (cJ, 4, .inr (.inl (vp_updL v_four p1.toNatClampNeg r1))))] := hD
  refine lv_aload_n hx hb dX7_goDown_14 rfl (lv_at hl 0 rfl) ?_
  refine va_get (D := G) (ci := 7) (v := .ref q_row) (C := RX7) (T := TX7) (N := 3) hx hb hts hiX7_goDown_X7 hown hK.1 hP 0 rfl rfl 0 (by decide) (hts (.fieldLink RX7 9 "PackedBends$Walk" "row" "[I") (List.mem_of_getElem? (i := 2) rfl)) (fun _ h9 => h9) rfl dX7_goDown_15 ?_
  refine lv_aload_n hx hb dX7_goDown_18 rfl (lv_at hl 0 rfl) ?_
  refine va_get (D := G) (ci := 7) (v := .int v_depth) (C := RX7) (T := TX7) (N := 3) hx hb hts hiX7_goDown_X7 hown hK.1 hP 0 rfl rfl 2 (by decide) (hts (.fieldLink RX7 23 "PackedBends$Walk" "depth" "I") (List.mem_of_getElem? (i := 3) rfl)) (fun _ h9 => h9) rfl dX7_goDown_19 ?_
  refine lv_iload_n hx hb dX7_goDown_22 rfl (lv_at hl 1 rfl) ?_
  obtain ⟨z3, hf⟩ := ck_s hf
  refine va_iast hx hb hK.1 hP hD hS 1 0 rfl rfl (vp_in_iff.mpr z3) dX7_goDown_23 (fun H locs hP hD hS => ?_)
  have hP : va_P G vwCl [(q, .inr (7, [.ref q_row, .ref q_four, .int v_depth])), (q_row, .inl (cI, 2001, .inl (upd v_row v_depth.toNatClampNeg p1))), (q_four, .inl (cJ, 4, .inr (.inl (vp_updL v_four p1.toNatClampNeg r1))))] H := hP
  have hD : va_D A [(q, .inr (7, [.ref q_row, .ref q_four, .int v_depth])), (q_row, .inl (cI, 2001, .inl (upd v_row v_depth.toNatClampNeg p1))), (q_four, .inl (cJ, 4, .inr (.inl (vp_updL v_four p1.toNatClampNeg r1))))] := hD
  refine lv_aload_n hx hb dX7_goDown_24 rfl (lv_at hl 0 rfl) ?_
  refine lv_dup hx hb dX7_goDown_25 rfl ?_
  refine va_get (D := G) (ci := 7) (v := .int v_depth) (C := RX7) (T := TX7) (N := 3) hx hb hts hiX7_goDown_X7 hown hK.1 hP 0 rfl rfl 2 (by decide) (hts (.fieldLink RX7 23 "PackedBends$Walk" "depth" "I") (List.mem_of_getElem? (i := 3) rfl)) (fun _ h9 => h9) rfl dX7_goDown_26 ?_
  refine lv_iconst (v := 1) hx hb dX7_goDown_29 (by decide) ?_
  refine lv_iadd hx hb dX7_goDown_30 ?_
  refine va_put (D := G) (ci := 7) (v := .int (v_depth + (1 : Int32))) (ty := .int) (C := RX7) (T := TX7) (N := 3) hx hb hts hiX7_goDown_X7 tyX7 tyX7_ok nmX7 hown hK.1 hP hD hS 0 rfl rfl 2 (by decide) (hts (.fieldLink RX7 23 "PackedBends$Walk" "depth" "I") (List.mem_of_getElem? (i := 3) rfl)) (fun _ h9 => h9) rfl (by decide +kernel) rfl rfl (Nat.le_of_ble_eq_true rfl) dX7_goDown_31 (fun H locs hP hD hS => ?_)
  have hP : va_P G vwCl [(q, .inr (7, [.ref q_row, .ref q_four, .int (v_depth + (1 : Int32))])), (q_row, .inl (cI, 2001, .inl (upd v_row v_depth.toNatClampNeg p1))), (q_four, .inl (cJ, 4, .inr (.inl (vp_updL v_four p1.toNatClampNeg r1))))] H := hP
  have hD : va_D A [(q, .inr (7, [.ref q_row, .ref q_four, .int (v_depth + (1 : Int32))])), (q_row, .inl (cI, 2001, .inl (upd v_row v_depth.toNatClampNeg p1))), (q_four, .inl (cJ, 4, .inr (.inl (vp_updL v_four p1.toNatClampNeg r1))))] := hD
  cases hf
  rw [← hQ]
  exact rt_v hx hb hr hlk hP hD hS dX7_goDown_34
def pX7_goUp (v_depth : Int32) (v_row : (Nat → Int32)) (v_four : (Nat → Int64)) : Option (Int32 × Int32 × (Nat → Int64)) := ck (ix (v_depth - (1 : Int32)) 2001) (Option.bind (pX8_turnedOver v_four (v_row (v_depth - (1 : Int32)).toNatClampNeg)) (fun r2 => ck (ix (v_row (v_depth - (1 : Int32)).toNatClampNeg) 4) (some (v_row (v_depth - (1 : Int32)).toNatClampNeg, v_depth - (1 : Int32), vp_updL v_four (v_row (v_depth - (1 : Int32)).toNatClampNeg).toNatClampNeg r2))))
def rmX7_goUp : Room := { frames := 1, cells := 0, slots := 0, locals := 23 }
theorem hiX7_goUp_X7 : ∀ w ∈ u_ws RX7 TX7 3, w ∈ wsX7_goUp := fun _ h => List.mem_cons_of_mem _ (List.mem_append_right _ h)
set_option maxRecDepth 100000 in
set_option maxHeartbeats 4000000 in
theorem kX7_goUp {l : Launch} {G : va_G} {cI cJ cZ cS cG : ClassId} (q q_row q_four : Nat) (v_depth : Int32) (v_row : (Nat → Int32)) (v_four : (Nat → Int64)) (R : Int32 × Int32 × (Nat → Int64)) (hf : pX7_goUp v_depth v_row v_four = some R) : CTi l yX7_goUp wsX7_goUp rmX7_goUp G cI cJ cZ cS cG [.ref q] [(q, .inr (7, [.ref q_row, .ref q_four, .int v_depth])), (q_row, .inl (cI, 2001, .inl v_row)), (q_four, .inl (cJ, 4, .inr (.inl v_four)))] [(q, .inr (7, [.ref q_row, .ref q_four, .int R.2.1])), (q_row, .inl (cI, 2001, .inl v_row)), (q_four, .inl (cJ, 4, .inr (.inl R.2.2)))] R.1 := by
  refine Met.ofE (Qc := fun A => QRi G A [(q, .inr (7, [.ref q_row, .ref q_four, .int R.2.1])), (q_row, .inl (cI, 2001, .inl v_row)), (q_four, .inl (cJ, 4, .inr (.inl R.2.2)))] R.1) (cc := cX7_goUp) (nL := 2) (ret := some .int) (plainFor_of_name (by decide +kernel)) rfl (Nat.le_of_ble_eq_true rfl) ?_
  intro p e s m below meth c A ls hx hb hml hr hlk hts hown hK hA hP hD hS hl
  have hown : s.vm.findClass RX7 = some m.cls := hown
  have hl : lv_has ls 2 [(0, .ref q)] := hl
  generalize hQ : MQ below (QRi G A [(q, .inr (7, [.ref q_row, .ref q_four, .int R.2.1])), (q_row, .inl (cI, 2001, .inl v_row)), (q_four, .inl (cJ, 4, .inr (.inl R.2.2)))] R.1) ([.ref q] : List Value).toArray s 0 0 A = QQ
  unfold pX7_goUp at hf
  refine lv_aload_n hx hb dX7_goUp_0 rfl (lv_at hl 0 rfl) ?_
  refine lv_dup hx hb dX7_goUp_1 rfl ?_
  refine va_get (D := G) (ci := 7) (v := .int v_depth) (C := RX7) (T := TX7) (N := 3) hx hb hts hiX7_goUp_X7 hown hK.1 hP 0 rfl rfl 2 (by decide) (hts (.fieldLink RX7 23 "PackedBends$Walk" "depth" "I") (List.mem_of_getElem? (i := 1) rfl)) (fun _ h9 => h9) rfl dX7_goUp_2 ?_
  refine lv_iconst (v := 1) hx hb dX7_goUp_5 (by decide) ?_
  refine lv_isub hx hb dX7_goUp_6 ?_
  refine va_put (D := G) (ci := 7) (v := .int (v_depth - (1 : Int32))) (ty := .int) (C := RX7) (T := TX7) (N := 3) hx hb hts hiX7_goUp_X7 tyX7 tyX7_ok nmX7 hown hK.1 hP hD hS 0 rfl rfl 2 (by decide) (hts (.fieldLink RX7 23 "PackedBends$Walk" "depth" "I") (List.mem_of_getElem? (i := 1) rfl)) (fun _ h9 => h9) rfl (by decide +kernel) rfl rfl (Nat.le_of_ble_eq_true rfl) dX7_goUp_7 (fun H locs hP hD hS => ?_)
  have hP : va_P G vwCl [(q, .inr (7, [.ref q_row, .ref q_four, .int (v_depth - (1 : Int32))])), (q_row, .inl (cI, 2001, .inl v_row)), (q_four, .inl (cJ, 4, .inr (.inl v_four)))] H := hP
  have hD : va_D A [(q, .inr (7, [.ref q_row, .ref q_four, .int (v_depth - (1 : Int32))])), (q_row, .inl (cI, 2001, .inl v_row)), (q_four, .inl (cJ, 4, .inr (.inl v_four)))] := hD
  refine lv_aload_n hx hb dX7_goUp_10 rfl (lv_at hl 0 rfl) ?_
  refine va_get (D := G) (ci := 7) (v := .ref q_row) (C := RX7) (T := TX7) (N := 3) hx hb hts hiX7_goUp_X7 hown hK.1 hP 0 rfl rfl 0 (by decide) (hts (.fieldLink RX7 9 "PackedBends$Walk" "row" "[I") (List.mem_of_getElem? (i := 2) rfl)) (fun _ h9 => h9) rfl dX7_goUp_11 ?_
  refine lv_aload_n hx hb dX7_goUp_14 rfl (lv_at hl 0 rfl) ?_
  refine va_get (D := G) (ci := 7) (v := .int (v_depth - (1 : Int32))) (C := RX7) (T := TX7) (N := 3) hx hb hts hiX7_goUp_X7 hown hK.1 hP 0 rfl rfl 2 (by decide) (hts (.fieldLink RX7 23 "PackedBends$Walk" "depth" "I") (List.mem_of_getElem? (i := 1) rfl)) (fun _ h9 => h9) rfl dX7_goUp_15 ?_
  obtain ⟨z1, hf⟩ := ck_s hf
  refine va_iald hx hb hK.1 hP 1 0 rfl rfl (vp_in_iff.mpr z1) dX7_goUp_18 ?_
  refine lv_istore_n (lv' := [(1, .int (v_row (v_depth - (1 : Int32)).toNatClampNeg)), (0, .ref q)]) hx hb dX7_goUp_19 rfl hl (by decide) rfl (fun ls hl => ?_)
  refine lv_aload_n hx hb dX7_goUp_20 rfl (lv_at hl 1 rfl) ?_
  refine va_get (D := G) (ci := 7) (v := .ref q_four) (C := RX7) (T := TX7) (N := 3) hx hb hts hiX7_goUp_X7 hown hK.1 hP 0 rfl rfl 1 (by decide) (hts (.fieldLink RX7 15 "PackedBends$Walk" "four" "[J") (List.mem_of_getElem? (i := 3) rfl)) (fun _ h9 => h9) rfl dX7_goUp_21 ?_
  refine lv_iload_n hx hb dX7_goUp_24 rfl (lv_at hl 0 rfl) ?_
  refine lv_aload_n hx hb dX7_goUp_25 rfl (lv_at hl 1 rfl) ?_
  refine va_get (D := G) (ci := 7) (v := .ref q_four) (C := RX7) (T := TX7) (N := 3) hx hb hts hiX7_goUp_X7 hown hK.1 hP 0 rfl rfl 1 (by decide) (hts (.fieldLink RX7 15 "PackedBends$Walk" "four" "[J") (List.mem_of_getElem? (i := 3) rfl)) (fun _ h9 => h9) rfl dX7_goUp_26 ?_
  refine lv_iload_n hx hb dX7_goUp_29 rfl (lv_at hl 0 rfl) ?_
  obtain ⟨r2, hc2, hf⟩ := ob_s hf
  refine bk_l (wc := [(q_four, .inl (cJ, 4, .inr (.inl v_four)))]) (wc2 := [(q_four, .inl (cJ, 4, .inr (.inl v_four)))]) (wr := [(q, .inr (7, [.ref q_row, .ref q_four, .int (v_depth - (1 : Int32))])), (q_row, .inl (cI, 2001, .inl v_row))]) (ws2 := [(q, .inr (7, [.ref q_row, .ref q_four, .int (v_depth - (1 : Int32))])), (q_row, .inl (cI, 2001, .inl v_row)), (q_four, .inl (cJ, 4, .inr (.inl v_four)))]) (r := r2) (va_runSN (own := "PackedBends$Walk") (As := [.ref q_four, .int (v_row (v_depth - (1 : Int32)).toNatClampNeg)]) (rest := [.int (v_row (v_depth - (1 : Int32)).toNatClampNeg), .ref q_four]) ⟨hx, hb, hml, hown, hts⟩ (kX8_turnedOver (l := l) (G := G) (cI := cI) (cJ := cJ) (cZ := cZ) (cS := cS) (cG := cG) q_four v_four (v_row (v_depth - (1 : Int32)).toNatClampNeg) _ hc2 _) ⟨va_cnB (host := "PackedBends") (index := 42) (own := "PackedBends$Walk") 2 hts gX7_goUp_X8_turnedOver_n42 rfl rfl rfl (hK.2.1 ("PackedBends$Walk", 42, yX8_turnedOver) (List.mem_of_getElem? (i := 4) rfl)) (hts (.initialized RX8) (List.mem_of_getElem? (i := 5) rfl)) (by decide +kernel) ⟨Nat.le_of_ble_eq_true rfl, Nat.le_of_ble_eq_true rfl⟩, hts (.static yX8_turnedOver) (List.mem_of_getElem? (i := 4) rfl), trivial⟩ (cut_S hK hP hD [2] rfl rfl) rfl rfl hl.1 rfl (lv_room (Nat.le_of_ble_eq_true rfl)) dX7_goUp_30 ⟨Nat.zero_le _, Nat.zero_le _⟩) hP hD hS hA [2] [0, 1] [0, 1, 2] rfl rfl rfl rfl rfl rfl (fun H locs hP hD hS => ?_)
  obtain ⟨z3, hf⟩ := ck_s hf
  refine va_last hx hb hK.1 hP hD hS 2 1 rfl rfl (vp_in_iff.mpr z3) dX7_goUp_33 (fun H locs hP hD hS => ?_)
  have hP : va_P G vwCl [(q, .inr (7, [.ref q_row, .ref q_four, .int (v_depth - (1 : Int32))])), (q_row, .inl (cI, 2001, .inl v_row)), (q_four, .inl (cJ, 4, .inr (.inl (vp_updL v_four (v_row (v_depth - (1 : Int32)).toNatClampNeg).toNatClampNeg r2))))] H := hP
  have hD : va_D A [(q, .inr (7, [.ref q_row, .ref q_four, .int (v_depth - (1 : Int32))])), (q_row, .inl (cI, 2001, .inl v_row)), (q_four, .inl (cJ, 4, .inr (.inl (vp_updL v_four (v_row (v_depth - (1 : Int32)).toNatClampNeg).toNatClampNeg r2))))] := hD
  refine lv_iload_n hx hb dX7_goUp_34 rfl (lv_at hl 0 rfl) ?_
  cases hf
  rw [← hQ]
  exact rt_i hx hb hr hlk hP hD hS rfl dX7_goUp_35
def pX7_isTwiceRunning (v_depth : Int32) (v_row : (Nat → Int32)) (p1 : Int32) : Option (Int32) := if v_depth ≤ 0 then some (0 : Int32) else ck (ix (v_depth - (1 : Int32)) 2001) (if (v_row (v_depth - (1 : Int32)).toNatClampNeg) = p1 then some (1 : Int32) else some (0 : Int32))
def rmX7_isTwiceRunning : Room := { frames := 0, cells := 0, slots := 0, locals := 0 }
theorem hiX7_isTwiceRunning_X7 : ∀ w ∈ u_ws RX7 TX7 3, w ∈ wsX7_isTwiceRunning := fun _ h => List.mem_cons_of_mem _ (List.mem_append_right _ h)
set_option maxRecDepth 100000 in
set_option maxHeartbeats 4000000 in
theorem kX7_isTwiceRunning {l : Launch} {G : va_G} {cI cJ cZ cS cG : ClassId} (q q_row q_four : Nat) (v_depth : Int32) (v_row : (Nat → Int32)) (p1 : Int32) (R : Int32) (hf : pX7_isTwiceRunning v_depth v_row p1 = some R) : CTi l yX7_isTwiceRunning wsX7_isTwiceRunning rmX7_isTwiceRunning G cI cJ cZ cS cG [.ref q, .int p1] [(q, .inr (7, [.ref q_row, .ref q_four, .int v_depth])), (q_row, .inl (cI, 2001, .inl v_row))] [(q, .inr (7, [.ref q_row, .ref q_four, .int v_depth])), (q_row, .inl (cI, 2001, .inl v_row))] R := by
  refine Met.ofE (Qc := fun A => QRi G A [(q, .inr (7, [.ref q_row, .ref q_four, .int v_depth])), (q_row, .inl (cI, 2001, .inl v_row))] R) (cc := cX7_isTwiceRunning) (nL := 2) (ret := some .boolean) (plainFor_of_name (by decide +kernel)) rfl (Nat.le_of_ble_eq_true rfl) ?_
  intro p e s m below meth c A ls hx hb hml hr hlk hts hown hK hA hP hD hS hl
  have hown : s.vm.findClass RX7 = some m.cls := hown
  have hl : lv_has ls 2 [(0, .ref q), (1, .int p1)] := hl
  generalize hQ : MQ below (QRi G A [(q, .inr (7, [.ref q_row, .ref q_four, .int v_depth])), (q_row, .inl (cI, 2001, .inl v_row))] R) ([.ref q, .int p1] : List Value).toArray s 0 0 A = QQ
  unfold pX7_isTwiceRunning at hf
  refine lv_aload_n hx hb dX7_isTwiceRunning_0 rfl (lv_at hl 0 rfl) ?_
  refine va_get (D := G) (ci := 7) (v := .int v_depth) (C := RX7) (T := TX7) (N := 3) hx hb hts hiX7_isTwiceRunning_X7 hown hK.1 hP 0 rfl rfl 2 (by decide) (hts (.fieldLink RX7 23 "PackedBends$Walk" "depth" "I") (List.mem_of_getElem? (i := 1) rfl)) (fun _ h9 => h9) rfl dX7_isTwiceRunning_1 ?_
  refine lv_if_le (tgt := 26) hx hb dX7_isTwiceRunning_4 (by decide) (fun c1 => ?_) (fun c1 => ?_)
  · have hf := if_s hf c1
    refine lv_iconst (v := 0) hx hb dX7_isTwiceRunning_26 (by decide) ?_
    cases hf
    rw [← hQ]
    exact rt_z hx hb hr hlk rfl hP hD hS rfl dX7_isTwiceRunning_27
  · have hf := if_n hf c1
    refine lv_aload_n hx hb dX7_isTwiceRunning_7 rfl (lv_at hl 0 rfl) ?_
    refine va_get (D := G) (ci := 7) (v := .ref q_row) (C := RX7) (T := TX7) (N := 3) hx hb hts hiX7_isTwiceRunning_X7 hown hK.1 hP 0 rfl rfl 0 (by decide) (hts (.fieldLink RX7 9 "PackedBends$Walk" "row" "[I") (List.mem_of_getElem? (i := 2) rfl)) (fun _ h9 => h9) rfl dX7_isTwiceRunning_8 ?_
    refine lv_aload_n hx hb dX7_isTwiceRunning_11 rfl (lv_at hl 0 rfl) ?_
    refine va_get (D := G) (ci := 7) (v := .int v_depth) (C := RX7) (T := TX7) (N := 3) hx hb hts hiX7_isTwiceRunning_X7 hown hK.1 hP 0 rfl rfl 2 (by decide) (hts (.fieldLink RX7 23 "PackedBends$Walk" "depth" "I") (List.mem_of_getElem? (i := 1) rfl)) (fun _ h9 => h9) rfl dX7_isTwiceRunning_12 ?_
    refine lv_iconst (v := 1) hx hb dX7_isTwiceRunning_15 (by decide) ?_
    refine lv_isub hx hb dX7_isTwiceRunning_16 ?_
    obtain ⟨z2, hf⟩ := ck_s hf
    refine va_iald hx hb hK.1 hP 1 0 rfl rfl (vp_in_iff.mpr z2) dX7_isTwiceRunning_17 ?_
    refine lv_iload_n hx hb dX7_isTwiceRunning_18 rfl (lv_at hl 1 rfl) ?_
    refine lv_icmp_ne (tgt := 26) hx hb dX7_isTwiceRunning_19 (by decide) (fun c3 => ?_) (fun c3 => ?_)
    · have hf := if_n hf c3
      refine lv_iconst (v := 0) hx hb dX7_isTwiceRunning_26 (by decide) ?_
      cases hf
      rw [← hQ]
      exact rt_z hx hb hr hlk rfl hP hD hS rfl dX7_isTwiceRunning_27
    · have hf := if_s hf c3
      refine lv_iconst (v := 1) hx hb dX7_isTwiceRunning_22 (by decide) ?_
      refine lv_goto (tgt := 27) hx hb dX7_isTwiceRunning_23 (by decide) ?_
      cases hf
      rw [← hQ]
      exact rt_z hx hb hr hlk rfl hP hD hS rfl dX7_isTwiceRunning_27
def pX7_mayGo (v_depth : Int32) (v_row : (Nat → Int32)) (v_four : (Nat → Int64)) (p1 : Int32) (p2 : Int64) : Option (Int32) := if (2001 : Int32) ≤ v_depth then some (0 : Int32) else Option.bind (pX8_turnedOver v_four p1) (fun r2 => if p2 < r2 then some (0 : Int32) else Option.bind (pX7_isTwiceRunning v_depth v_row p1) (fun r4 => if r4 = 0 then some (1 : Int32) else some (0 : Int32)))
def rmX7_mayGo : Room := { frames := 1, cells := 0, slots := 0, locals := 23 }
theorem hiX7_mayGo_X7 : ∀ w ∈ u_ws RX7 TX7 3, w ∈ wsX7_mayGo := fun _ h => List.mem_cons_of_mem _ (List.mem_append_right _ h)
set_option maxRecDepth 100000 in
set_option maxHeartbeats 4000000 in
theorem kX7_mayGo {l : Launch} {G : va_G} {cI cJ cZ cS cG : ClassId} (q q_row q_four : Nat) (v_depth : Int32) (v_row : (Nat → Int32)) (v_four : (Nat → Int64)) (p1 : Int32) (p2 : Int64) (R : Int32) (hf : pX7_mayGo v_depth v_row v_four p1 p2 = some R) : CTi l yX7_mayGo wsX7_mayGo rmX7_mayGo G cI cJ cZ cS cG [.ref q, .int p1, .long p2] [(q, .inr (7, [.ref q_row, .ref q_four, .int v_depth])), (q_row, .inl (cI, 2001, .inl v_row)), (q_four, .inl (cJ, 4, .inr (.inl v_four)))] [(q, .inr (7, [.ref q_row, .ref q_four, .int v_depth])), (q_row, .inl (cI, 2001, .inl v_row)), (q_four, .inl (cJ, 4, .inr (.inl v_four)))] R := by
  refine Met.ofE (Qc := fun A => QRi G A [(q, .inr (7, [.ref q_row, .ref q_four, .int v_depth])), (q_row, .inl (cI, 2001, .inl v_row)), (q_four, .inl (cJ, 4, .inr (.inl v_four)))] R) (cc := cX7_mayGo) (nL := 4) (ret := some .boolean) (plainFor_of_name (by decide +kernel)) rfl (Nat.le_of_ble_eq_true rfl) ?_
  intro p e s m below meth c A ls hx hb hml hr hlk hts hown hK hA hP hD hS hl
  have hown : s.vm.findClass RX7 = some m.cls := hown
  have hl : lv_has ls 4 [(0, .ref q), (1, .int p1), (2, .long p2)] := hl
  generalize hQ : MQ below (QRi G A [(q, .inr (7, [.ref q_row, .ref q_four, .int v_depth])), (q_row, .inl (cI, 2001, .inl v_row)), (q_four, .inl (cJ, 4, .inr (.inl v_four)))] R) ([.ref q, .int p1, .long p2] : List Value).toArray s 0 0 A = QQ
  unfold pX7_mayGo at hf
  refine lv_aload_n hx hb dX7_mayGo_0 rfl (lv_at hl 0 rfl) ?_
  refine va_get (D := G) (ci := 7) (v := .int v_depth) (C := RX7) (T := TX7) (N := 3) hx hb hts hiX7_mayGo_X7 hown hK.1 hP 0 rfl rfl 2 (by decide) (hts (.fieldLink RX7 23 "PackedBends$Walk" "depth" "I") (List.mem_of_getElem? (i := 1) rfl)) (fun _ h9 => h9) rfl dX7_mayGo_1 ?_
  refine lv_aload_n hx hb dX7_mayGo_4 rfl (lv_at hl 0 rfl) ?_
  refine va_get (D := G) (ci := 7) (v := .ref q_row) (C := RX7) (T := TX7) (N := 3) hx hb hts hiX7_mayGo_X7 hown hK.1 hP 0 rfl rfl 0 (by decide) (hts (.fieldLink RX7 9 "PackedBends$Walk" "row" "[I") (List.mem_of_getElem? (i := 2) rfl)) (fun _ h9 => h9) rfl dX7_mayGo_5 ?_
  refine va_alen (v := 2001) hx hb hK.1 hP 1 0 rfl rfl (show Int32.ofNat 2001 = 2001 by decide +kernel) dX7_mayGo_8 ?_
  refine lv_icmp_ge (tgt := 37) hx hb dX7_mayGo_9 (by decide) (fun c1 => ?_) (fun c1 => ?_)
  · have hf := if_s hf c1
    refine lv_iconst (v := 0) hx hb dX7_mayGo_37 (by decide) ?_
    cases hf
    rw [← hQ]
    exact rt_z hx hb hr hlk rfl hP hD hS rfl dX7_mayGo_38
  · have hf := if_n hf c1
    refine lv_aload_n hx hb dX7_mayGo_12 rfl (lv_at hl 0 rfl) ?_
    refine va_get (D := G) (ci := 7) (v := .ref q_four) (C := RX7) (T := TX7) (N := 3) hx hb hts hiX7_mayGo_X7 hown hK.1 hP 0 rfl rfl 1 (by decide) (hts (.fieldLink RX7 15 "PackedBends$Walk" "four" "[J") (List.mem_of_getElem? (i := 3) rfl)) (fun _ h9 => h9) rfl dX7_mayGo_13 ?_
    refine lv_iload_n hx hb dX7_mayGo_16 rfl (lv_at hl 1 rfl) ?_
    obtain ⟨r2, hc2, hf⟩ := ob_s hf
    refine bk_l (wc := [(q_four, .inl (cJ, 4, .inr (.inl v_four)))]) (wc2 := [(q_four, .inl (cJ, 4, .inr (.inl v_four)))]) (wr := [(q, .inr (7, [.ref q_row, .ref q_four, .int v_depth])), (q_row, .inl (cI, 2001, .inl v_row))]) (ws2 := [(q, .inr (7, [.ref q_row, .ref q_four, .int v_depth])), (q_row, .inl (cI, 2001, .inl v_row)), (q_four, .inl (cJ, 4, .inr (.inl v_four)))]) (r := r2) (va_runSN (own := "PackedBends$Walk") (As := [.ref q_four, .int p1]) (rest := []) ⟨hx, hb, hml, hown, hts⟩ (kX8_turnedOver (l := l) (G := G) (cI := cI) (cJ := cJ) (cZ := cZ) (cS := cS) (cG := cG) q_four v_four p1 _ hc2 _) ⟨va_cnB (host := "PackedBends") (index := 42) (own := "PackedBends$Walk") 2 hts gX7_mayGo_X8_turnedOver_n42 rfl rfl rfl (hK.2.1 ("PackedBends$Walk", 42, yX8_turnedOver) (List.mem_of_getElem? (i := 4) rfl)) (hts (.initialized RX8) (List.mem_of_getElem? (i := 5) rfl)) (by decide +kernel) ⟨Nat.le_of_ble_eq_true rfl, Nat.le_of_ble_eq_true rfl⟩, hts (.static yX8_turnedOver) (List.mem_of_getElem? (i := 4) rfl), trivial⟩ (cut_S hK hP hD [2] rfl rfl) rfl rfl hl.1 rfl (lv_room (Nat.le_of_ble_eq_true rfl)) dX7_mayGo_17 ⟨Nat.zero_le _, Nat.zero_le _⟩) hP hD hS hA [2] [0, 1] [0, 1, 2] rfl rfl rfl rfl rfl rfl (fun H locs hP hD hS => ?_)
    refine lv_lload_n hx hb dX7_mayGo_20 rfl (lv_at hl 2 rfl) ?_
    refine lc_gt (tgt := 37) hx hb dX7_mayGo_21 dX7_mayGo_22 (by decide) (fun c3 => ?_) (fun c3 => ?_)
    · have hf := if_s hf c3
      refine lv_iconst (v := 0) hx hb dX7_mayGo_37 (by decide) ?_
      cases hf
      rw [← hQ]
      exact rt_z hx hb hr hlk rfl hP hD hS rfl dX7_mayGo_38
    · have hf := if_n hf c3
      refine lv_aload_n hx hb dX7_mayGo_25 rfl (lv_at hl 0 rfl) ?_
      refine lv_iload_n hx hb dX7_mayGo_26 rfl (lv_at hl 1 rfl) ?_
      obtain ⟨r4, hc4, hf⟩ := ob_s hf
      refine bk_i (wc := [(q, .inr (7, [.ref q_row, .ref q_four, .int v_depth])), (q_row, .inl (cI, 2001, .inl v_row))]) (wc2 := [(q, .inr (7, [.ref q_row, .ref q_four, .int v_depth])), (q_row, .inl (cI, 2001, .inl v_row))]) (wr := [(q_four, .inl (cJ, 4, .inr (.inl v_four)))]) (ws2 := [(q, .inr (7, [.ref q_row, .ref q_four, .int v_depth])), (q_row, .inl (cI, 2001, .inl v_row)), (q_four, .inl (cJ, 4, .inr (.inl v_four)))]) (r := r4) (va_runV (As := [.int p1]) (rest := []) ⟨hx, hb, hml, hown, hts⟩ (kX7_isTwiceRunning (l := l) (G := G) (cI := cI) (cJ := cJ) (cZ := cZ) (cS := cS) (cG := cG) q q_row q_four v_depth v_row p1 _ hc4 _) (cwV 1 hts gX7_mayGo_X7_isTwiceRunning rfl rfl rfl (by decide +kernel) ⟨Nat.le_of_ble_eq_true rfl, Nat.le_of_ble_eq_true rfl⟩) (cut_V hK hP hD [0, 1] rfl rfl (ci := 7) (q0 := 0) rfl rfl) rfl rfl hl.1 rfl (lv_room (Nat.le_of_ble_eq_true rfl)) dX7_mayGo_27 ⟨Nat.zero_le _, Nat.zero_le _⟩) hP hD hS hA [0, 1] [2] [1, 2, 0] rfl rfl rfl rfl rfl rfl (fun H locs hP hD hS => ?_)
      refine lv_if_ne (tgt := 37) hx hb dX7_mayGo_30 (by decide) (fun c5 => ?_) (fun c5 => ?_)
      · have hf := if_n hf c5
        refine lv_iconst (v := 0) hx hb dX7_mayGo_37 (by decide) ?_
        cases hf
        rw [← hQ]
        exact rt_z hx hb hr hlk rfl hP hD hS rfl dX7_mayGo_38
      · have hf := if_s hf c5
        refine lv_iconst (v := 1) hx hb dX7_mayGo_33 (by decide) ?_
        refine lv_goto (tgt := 38) hx hb dX7_mayGo_34 (by decide) ?_
        cases hf
        rw [← hQ]
        exact rt_z hx hb hr hlk rfl hP hD hS rfl dX7_mayGo_38
def pX7_advance_L5 (x1 : Int64) (v_row : (Nat → Int32)) : Nat → Int32 → Int32 → Int32 → (Nat → Int64) → (Int32 → Int32 → Int32 → (Nat → Int64) → Option (Int32 × Int32 × (Nat → Int32) × (Nat → Int64))) → Option (Int32 × Int32 × (Nat → Int32) × (Nat → Int64))
  | 0, _, _, _, _, _ => none
  | n + 1, x3, x4, v_depth, v_four, k => if (1000000 : Int32) ≤ x4 then k x3 x4 v_depth v_four else if (4 : Int32) ≤ x3 then if (4 : Int32) ≤ x3 then if v_depth ≤ 0 then some ((0 : Int32), v_depth, v_row, v_four) else Option.bind (pX7_goUp v_depth v_row v_four) (fun r5 => pX7_advance_L5 x1 v_row n (r5.1 + (1 : Int32)) (x4 + (1 : Int32)) r5.2.1 r5.2.2 k) else pX7_advance_L5 x1 v_row n (x3 + (1 : Int32)) (x4 + (1 : Int32)) v_depth v_four k else Option.bind (pX7_mayGo v_depth v_row v_four x3 x1) (fun r6 => if r6 = 0 then if (4 : Int32) ≤ x3 then if v_depth ≤ 0 then some ((0 : Int32), v_depth, v_row, v_four) else Option.bind (pX7_goUp v_depth v_row v_four) (fun r10 => pX7_advance_L5 x1 v_row n (r10.1 + (1 : Int32)) (x4 + (1 : Int32)) r10.2.1 r10.2.2 k) else pX7_advance_L5 x1 v_row n (x3 + (1 : Int32)) (x4 + (1 : Int32)) v_depth v_four k else Option.bind (pX7_goDown v_depth v_row v_four x3) (fun r11 => some ((1 : Int32), r11.1, r11.2.1, r11.2.2)))
def pX7_advance (n : Nat) (v_depth : Int32) (v_row : (Nat → Int32)) (v_four : (Nat → Int64)) (p1 : Int64) : Option (Int32 × Int32 × (Nat → Int32) × (Nat → Int64)) := pX7_advance_L5 p1 v_row n (0 : Int32) (0 : Int32) v_depth v_four (fun (y3_12 : Int32) (y4_12 : Int32) (u12_depth : Int32) (u12_four : (Nat → Int64)) => some ((0 : Int32), u12_depth, v_row, u12_four))
def rmX7_advance : Room := { frames := 2, cells := 0, slots := 0, locals := 46 }
theorem hiX7_advance_X7 : ∀ w ∈ u_ws RX7 TX7 3, w ∈ wsX7_advance := fun _ h => List.mem_cons_of_mem _ (List.mem_append_right _ h)
set_option maxRecDepth 100000 in
set_option maxHeartbeats 4000000 in
theorem kX7_advance {l : Launch} {G : va_G} {cI cJ cZ cS cG : ClassId} (n : Nat) (q q_row q_four : Nat) (v_depth : Int32) (v_row : (Nat → Int32)) (v_four : (Nat → Int64)) (p1 : Int64) (R : Int32 × Int32 × (Nat → Int32) × (Nat → Int64)) (hf : pX7_advance n v_depth v_row v_four p1 = some R) : CTi l yX7_advance wsX7_advance rmX7_advance G cI cJ cZ cS cG [.ref q, .long p1] [(q, .inr (7, [.ref q_row, .ref q_four, .int v_depth])), (q_row, .inl (cI, 2001, .inl v_row)), (q_four, .inl (cJ, 4, .inr (.inl v_four)))] [(q, .inr (7, [.ref q_row, .ref q_four, .int R.2.1])), (q_row, .inl (cI, 2001, .inl R.2.2.1)), (q_four, .inl (cJ, 4, .inr (.inl R.2.2.2)))] R.1 := by
  refine Met.ofE (Qc := fun A => QRi G A [(q, .inr (7, [.ref q_row, .ref q_four, .int R.2.1])), (q_row, .inl (cI, 2001, .inl R.2.2.1)), (q_four, .inl (cJ, 4, .inr (.inl R.2.2.2)))] R.1) (cc := cX7_advance) (nL := 5) (ret := some .boolean) (plainFor_of_name (by decide +kernel)) rfl (Nat.le_of_ble_eq_true rfl) ?_
  intro p e s m below meth c A ls hx hb hml hr hlk hts hown hK hA hP hD hS hl
  have hown : s.vm.findClass RX7 = some m.cls := hown
  have hl : lv_has ls 5 [(0, .ref q), (1, .long p1)] := hl
  generalize hQ : MQ below (QRi G A [(q, .inr (7, [.ref q_row, .ref q_four, .int R.2.1])), (q_row, .inl (cI, 2001, .inl R.2.2.1)), (q_four, .inl (cJ, 4, .inr (.inl R.2.2.2)))] R.1) ([.ref q, .long p1] : List Value).toArray s 0 0 A = QQ
  unfold pX7_advance at hf
  have hL5 : ∀ (x1 : Int64) (v_row : (Nat → Int32)) (k : Int32 → Int32 → Int32 → (Nat → Int64) → Option (Int32 × Int32 × (Nat → Int32) × (Nat → Int64))), (∀ (x3 : Int32) (x4 : Int32) (v_depth : Int32) (v_four : (Nat → Int64)) (H : Heap) (locs : List Loc) (ls : Array Slot), k x3 x4 v_depth v_four = some R → va_P G vwCl [(q, .inr (7, [.ref q_row, .ref q_four, .int v_depth])), (q_row, .inl (cI, 2001, .inl v_row)), (q_four, .inl (cJ, 4, .inr (.inl v_four)))] H → va_D A [(q, .inr (7, [.ref q_row, .ref q_four, .int v_depth])), (q_row, .inl (cI, 2001, .inl v_row)), (q_four, .inl (cJ, 4, .inr (.inl v_four)))] → va_S A s.heap H locs → lv_has ls 5 [(0, .ref q), (1, .long x1), (3, .int x3), (4, .int x4)] → W p l e rmX7_advance s m ([.ref q, .long p1] : List Value).toArray below meth c H locs 0 0 QQ (F0 m 69 ls [])) → ∀ (n : Nat) (x3 : Int32) (x4 : Int32) (v_depth : Int32) (v_four : (Nat → Int64)) (H : Heap) (locs : List Loc) (ls : Array Slot), pX7_advance_L5 x1 v_row n x3 x4 v_depth v_four k = some R → va_P G vwCl [(q, .inr (7, [.ref q_row, .ref q_four, .int v_depth])), (q_row, .inl (cI, 2001, .inl v_row)), (q_four, .inl (cJ, 4, .inr (.inl v_four)))] H → va_D A [(q, .inr (7, [.ref q_row, .ref q_four, .int v_depth])), (q_row, .inl (cI, 2001, .inl v_row)), (q_four, .inl (cJ, 4, .inr (.inl v_four)))] → va_S A s.heap H locs → lv_has ls 5 [(0, .ref q), (1, .long x1), (3, .int x3), (4, .int x4)] → W p l e rmX7_advance s m ([.ref q, .long p1] : List Value).toArray below meth c H locs 0 0 QQ (F0 m 5 ls []) := by
    intro x1 v_row k hk n
    induction n with
    | zero =>
      intro x3 x4 v_depth v_four H locs ls hf
      cases hf
    | succ n ih =>
      intro x3 x4 v_depth v_four H locs ls hf hP hD hS hl
      unfold pX7_advance_L5 at hf
      refine lv_iload hx hb dX7_advance_5 (lv_at hl 3 rfl) ?_
      refine lv_ldc (v := 1000000) hx hb hown (hts (.constant RX7 27 (1000000)) (List.mem_of_getElem? (i := 1) rfl)) dX7_advance_7 ?_
      refine lv_icmp_ge (tgt := 69) hx hb dX7_advance_9 (by decide) (fun c1 => ?_) (fun c1 => ?_)
      · have hf := if_s hf c1
        exact hk x3 x4 v_depth v_four _ _ _ hf hP hD hS (lv_sub hl [0, 1, 2, 3] rfl)
      · have hf := if_n hf c1
        refine lv_iload_n hx hb dX7_advance_12 rfl (lv_at hl 2 rfl) ?_
        refine lv_iconst (v := 4) hx hb dX7_advance_13 (by decide) ?_
        refine lv_icmp_ge (tgt := 33) hx hb dX7_advance_14 (by decide) (fun c2 => ?_) (fun c2 => ?_)
        · have hf := if_s hf c2
          refine lv_iload_n hx hb dX7_advance_33 rfl (lv_at hl 2 rfl) ?_
          refine lv_iconst (v := 4) hx hb dX7_advance_34 (by decide) ?_
          refine lv_icmp_ge (tgt := 44) hx hb dX7_advance_35 (by decide) (fun c3 => ?_) (fun c3 => ?_)
          · have hf := if_s hf c3
            refine lv_aload_n hx hb dX7_advance_44 rfl (lv_at hl 0 rfl) ?_
            refine va_get (D := G) (ci := 7) (v := .int v_depth) (C := RX7) (T := TX7) (N := 3) hx hb hts hiX7_advance_X7 hown hK.1 hP 0 rfl rfl 2 (by decide) (hts (.fieldLink RX7 23 "PackedBends$Walk" "depth" "I") (List.mem_of_getElem? (i := 2) rfl)) (fun _ h9 => h9) rfl dX7_advance_45 ?_
            refine lv_if_le (tgt := 61) hx hb dX7_advance_48 (by decide) (fun c4 => ?_) (fun c4 => ?_)
            · have hf := if_s hf c4
              refine lv_iconst (v := 0) hx hb dX7_advance_61 (by decide) ?_
              cases hf
              rw [← hQ]
              exact rt_z hx hb hr hlk rfl hP hD hS rfl dX7_advance_62
            · have hf := if_n hf c4
              refine lv_aload_n hx hb dX7_advance_51 rfl (lv_at hl 0 rfl) ?_
              obtain ⟨r5, hc5, hf⟩ := ob_s hf
              refine bk_i (wc := [(q, .inr (7, [.ref q_row, .ref q_four, .int v_depth])), (q_row, .inl (cI, 2001, .inl v_row)), (q_four, .inl (cJ, 4, .inr (.inl v_four)))]) (wc2 := [(q, .inr (7, [.ref q_row, .ref q_four, .int r5.2.1])), (q_row, .inl (cI, 2001, .inl v_row)), (q_four, .inl (cJ, 4, .inr (.inl r5.2.2)))]) (wr := []) (ws2 := [(q, .inr (7, [.ref q_row, .ref q_four, .int r5.2.1])), (q_row, .inl (cI, 2001, .inl v_row)), (q_four, .inl (cJ, 4, .inr (.inl r5.2.2)))]) (r := r5.1) (va_runV (As := []) (rest := []) ⟨hx, hb, hml, hown, hts⟩ (kX7_goUp (l := l) (G := G) (cI := cI) (cJ := cJ) (cZ := cZ) (cS := cS) (cG := cG) q q_row q_four v_depth v_row v_four _ hc5 _) (cwV 0 hts gX7_advance_X7_goUp rfl rfl rfl (by decide +kernel) ⟨Nat.le_of_ble_eq_true rfl, Nat.le_of_ble_eq_true rfl⟩) (cut_V hK hP hD [0, 1, 2] rfl rfl (ci := 7) (q0 := 0) rfl rfl) rfl rfl hl.1 rfl (lv_room (Nat.le_of_ble_eq_true rfl)) dX7_advance_52 ⟨Nat.zero_le _, Nat.zero_le _⟩) hP hD hS hA [0, 1, 2] [] [0, 1, 2] rfl rfl rfl rfl rfl rfl (fun H locs hP hD hS => ?_)
              refine lv_iconst (v := 1) hx hb dX7_advance_55 (by decide) ?_
              refine lv_iadd hx hb dX7_advance_56 ?_
              refine lv_istore_n (lv' := [(3, .int (r5.1 + (1 : Int32))), (0, .ref q), (1, .long x1), (4, .int x4)]) hx hb dX7_advance_57 rfl hl (by decide) rfl (fun ls hl => ?_)
              refine lv_goto (tgt := 63) hx hb dX7_advance_58 (by decide) ?_
              refine lv_iinc (v := x4 + (1 : Int32)) (lv' := [(4, .int (x4 + (1 : Int32))), (3, .int (r5.1 + (1 : Int32))), (0, .ref q), (1, .long x1)]) hx hb dX7_advance_63 hl (k := 3) rfl rfl (by decide) rfl (fun ls hl => ?_)
              refine lv_goto (tgt := 5) hx hb dX7_advance_66 (by decide) ?_
              exact ih (r5.1 + (1 : Int32)) (x4 + (1 : Int32)) r5.2.1 r5.2.2 _ _ _ hf hP hD hS (lv_sub hl [2, 3, 1, 0] rfl)
          · have hf := if_n hf c3
            refine lv_iinc (v := x3 + (1 : Int32)) (lv' := [(3, .int (x3 + (1 : Int32))), (0, .ref q), (1, .long x1), (4, .int x4)]) hx hb dX7_advance_38 hl (k := 2) rfl rfl (by decide) rfl (fun ls hl => ?_)
            refine lv_goto (tgt := 63) hx hb dX7_advance_41 (by decide) ?_
            refine lv_iinc (v := x4 + (1 : Int32)) (lv' := [(4, .int (x4 + (1 : Int32))), (3, .int (x3 + (1 : Int32))), (0, .ref q), (1, .long x1)]) hx hb dX7_advance_63 hl (k := 3) rfl rfl (by decide) rfl (fun ls hl => ?_)
            refine lv_goto (tgt := 5) hx hb dX7_advance_66 (by decide) ?_
            exact ih (x3 + (1 : Int32)) (x4 + (1 : Int32)) v_depth v_four _ _ _ hf hP hD hS (lv_sub hl [2, 3, 1, 0] rfl)
        · have hf := if_n hf c2
          refine lv_aload_n hx hb dX7_advance_17 rfl (lv_at hl 0 rfl) ?_
          refine lv_iload_n hx hb dX7_advance_18 rfl (lv_at hl 2 rfl) ?_
          refine lv_lload_n hx hb dX7_advance_19 rfl (lv_at hl 1 rfl) ?_
          obtain ⟨r6, hc6, hf⟩ := ob_s hf
          refine bk_i (wc := [(q, .inr (7, [.ref q_row, .ref q_four, .int v_depth])), (q_row, .inl (cI, 2001, .inl v_row)), (q_four, .inl (cJ, 4, .inr (.inl v_four)))]) (wc2 := [(q, .inr (7, [.ref q_row, .ref q_four, .int v_depth])), (q_row, .inl (cI, 2001, .inl v_row)), (q_four, .inl (cJ, 4, .inr (.inl v_four)))]) (wr := []) (ws2 := [(q, .inr (7, [.ref q_row, .ref q_four, .int v_depth])), (q_row, .inl (cI, 2001, .inl v_row)), (q_four, .inl (cJ, 4, .inr (.inl v_four)))]) (r := r6) (va_runV (As := [.int x3, .long x1]) (rest := []) ⟨hx, hb, hml, hown, hts⟩ (kX7_mayGo (l := l) (G := G) (cI := cI) (cJ := cJ) (cZ := cZ) (cS := cS) (cG := cG) q q_row q_four v_depth v_row v_four x3 x1 _ hc6 _) (cwV 2 hts gX7_advance_X7_mayGo rfl rfl rfl (by decide +kernel) ⟨Nat.le_of_ble_eq_true rfl, Nat.le_of_ble_eq_true rfl⟩) (cut_V hK hP hD [0, 1, 2] rfl rfl (ci := 7) (q0 := 0) rfl rfl) rfl rfl hl.1 rfl (lv_room (Nat.le_of_ble_eq_true rfl)) dX7_advance_20 ⟨Nat.zero_le _, Nat.zero_le _⟩) hP hD hS hA [0, 1, 2] [] [0, 1, 2] rfl rfl rfl rfl rfl rfl (fun H locs hP hD hS => ?_)
          refine lv_if_eq (tgt := 33) hx hb dX7_advance_23 (by decide) (fun c7 => ?_) (fun c7 => ?_)
          · have hf := if_s hf c7
            refine lv_iload_n hx hb dX7_advance_33 rfl (lv_at hl 2 rfl) ?_
            refine lv_iconst (v := 4) hx hb dX7_advance_34 (by decide) ?_
            refine lv_icmp_ge (tgt := 44) hx hb dX7_advance_35 (by decide) (fun c8 => ?_) (fun c8 => ?_)
            · have hf := if_s hf c8
              refine lv_aload_n hx hb dX7_advance_44 rfl (lv_at hl 0 rfl) ?_
              refine va_get (D := G) (ci := 7) (v := .int v_depth) (C := RX7) (T := TX7) (N := 3) hx hb hts hiX7_advance_X7 hown hK.1 hP 0 rfl rfl 2 (by decide) (hts (.fieldLink RX7 23 "PackedBends$Walk" "depth" "I") (List.mem_of_getElem? (i := 2) rfl)) (fun _ h9 => h9) rfl dX7_advance_45 ?_
              refine lv_if_le (tgt := 61) hx hb dX7_advance_48 (by decide) (fun c9 => ?_) (fun c9 => ?_)
              · have hf := if_s hf c9
                refine lv_iconst (v := 0) hx hb dX7_advance_61 (by decide) ?_
                cases hf
                rw [← hQ]
                exact rt_z hx hb hr hlk rfl hP hD hS rfl dX7_advance_62
              · have hf := if_n hf c9
                refine lv_aload_n hx hb dX7_advance_51 rfl (lv_at hl 0 rfl) ?_
                obtain ⟨r10, hc10, hf⟩ := ob_s hf
                refine bk_i (wc := [(q, .inr (7, [.ref q_row, .ref q_four, .int v_depth])), (q_row, .inl (cI, 2001, .inl v_row)), (q_four, .inl (cJ, 4, .inr (.inl v_four)))]) (wc2 := [(q, .inr (7, [.ref q_row, .ref q_four, .int r10.2.1])), (q_row, .inl (cI, 2001, .inl v_row)), (q_four, .inl (cJ, 4, .inr (.inl r10.2.2)))]) (wr := []) (ws2 := [(q, .inr (7, [.ref q_row, .ref q_four, .int r10.2.1])), (q_row, .inl (cI, 2001, .inl v_row)), (q_four, .inl (cJ, 4, .inr (.inl r10.2.2)))]) (r := r10.1) (va_runV (As := []) (rest := []) ⟨hx, hb, hml, hown, hts⟩ (kX7_goUp (l := l) (G := G) (cI := cI) (cJ := cJ) (cZ := cZ) (cS := cS) (cG := cG) q q_row q_four v_depth v_row v_four _ hc10 _) (cwV 0 hts gX7_advance_X7_goUp rfl rfl rfl (by decide +kernel) ⟨Nat.le_of_ble_eq_true rfl, Nat.le_of_ble_eq_true rfl⟩) (cut_V hK hP hD [0, 1, 2] rfl rfl (ci := 7) (q0 := 0) rfl rfl) rfl rfl hl.1 rfl (lv_room (Nat.le_of_ble_eq_true rfl)) dX7_advance_52 ⟨Nat.zero_le _, Nat.zero_le _⟩) hP hD hS hA [0, 1, 2] [] [0, 1, 2] rfl rfl rfl rfl rfl rfl (fun H locs hP hD hS => ?_)
                refine lv_iconst (v := 1) hx hb dX7_advance_55 (by decide) ?_
                refine lv_iadd hx hb dX7_advance_56 ?_
                refine lv_istore_n (lv' := [(3, .int (r10.1 + (1 : Int32))), (0, .ref q), (1, .long x1), (4, .int x4)]) hx hb dX7_advance_57 rfl hl (by decide) rfl (fun ls hl => ?_)
                refine lv_goto (tgt := 63) hx hb dX7_advance_58 (by decide) ?_
                refine lv_iinc (v := x4 + (1 : Int32)) (lv' := [(4, .int (x4 + (1 : Int32))), (3, .int (r10.1 + (1 : Int32))), (0, .ref q), (1, .long x1)]) hx hb dX7_advance_63 hl (k := 3) rfl rfl (by decide) rfl (fun ls hl => ?_)
                refine lv_goto (tgt := 5) hx hb dX7_advance_66 (by decide) ?_
                exact ih (r10.1 + (1 : Int32)) (x4 + (1 : Int32)) r10.2.1 r10.2.2 _ _ _ hf hP hD hS (lv_sub hl [2, 3, 1, 0] rfl)
            · have hf := if_n hf c8
              refine lv_iinc (v := x3 + (1 : Int32)) (lv' := [(3, .int (x3 + (1 : Int32))), (0, .ref q), (1, .long x1), (4, .int x4)]) hx hb dX7_advance_38 hl (k := 2) rfl rfl (by decide) rfl (fun ls hl => ?_)
              refine lv_goto (tgt := 63) hx hb dX7_advance_41 (by decide) ?_
              refine lv_iinc (v := x4 + (1 : Int32)) (lv' := [(4, .int (x4 + (1 : Int32))), (3, .int (x3 + (1 : Int32))), (0, .ref q), (1, .long x1)]) hx hb dX7_advance_63 hl (k := 3) rfl rfl (by decide) rfl (fun ls hl => ?_)
              refine lv_goto (tgt := 5) hx hb dX7_advance_66 (by decide) ?_
              exact ih (x3 + (1 : Int32)) (x4 + (1 : Int32)) v_depth v_four _ _ _ hf hP hD hS (lv_sub hl [2, 3, 1, 0] rfl)
          · have hf := if_n hf c7
            refine lv_aload_n hx hb dX7_advance_26 rfl (lv_at hl 0 rfl) ?_
            refine lv_iload_n hx hb dX7_advance_27 rfl (lv_at hl 2 rfl) ?_
            obtain ⟨r11, hc11, hf⟩ := ob_s hf
            refine bk_v (wc := [(q, .inr (7, [.ref q_row, .ref q_four, .int v_depth])), (q_row, .inl (cI, 2001, .inl v_row)), (q_four, .inl (cJ, 4, .inr (.inl v_four)))]) (wc2 := [(q, .inr (7, [.ref q_row, .ref q_four, .int r11.1])), (q_row, .inl (cI, 2001, .inl r11.2.1)), (q_four, .inl (cJ, 4, .inr (.inl r11.2.2)))]) (wr := []) (ws2 := [(q, .inr (7, [.ref q_row, .ref q_four, .int r11.1])), (q_row, .inl (cI, 2001, .inl r11.2.1)), (q_four, .inl (cJ, 4, .inr (.inl r11.2.2)))]) (va_runV (As := [.int x3]) (rest := []) ⟨hx, hb, hml, hown, hts⟩ (kX7_goDown (l := l) (G := G) (cI := cI) (cJ := cJ) (cZ := cZ) (cS := cS) (cG := cG) q q_row q_four v_depth v_row v_four x3 _ hc11 _) (cwV 1 hts gX7_advance_X7_goDown rfl rfl rfl (by decide +kernel) ⟨Nat.le_of_ble_eq_true rfl, Nat.le_of_ble_eq_true rfl⟩) (cut_V hK hP hD [0, 1, 2] rfl rfl (ci := 7) (q0 := 0) rfl rfl) rfl rfl hl.1 rfl (lv_room (Nat.le_of_ble_eq_true rfl)) dX7_advance_28 ⟨Nat.zero_le _, Nat.zero_le _⟩) hP hD hS hA [0, 1, 2] [] [0, 1, 2] rfl rfl rfl rfl rfl rfl (fun H locs hP hD hS => ?_)
            refine lv_iconst (v := 1) hx hb dX7_advance_31 (by decide) ?_
            cases hf
            rw [← hQ]
            exact rt_z hx hb hr hlk rfl hP hD hS rfl dX7_advance_32
  refine lv_iconst (v := 0) hx hb dX7_advance_0 (by decide) ?_
  refine lv_istore_n (lv' := [(3, .int (0 : Int32)), (0, .ref q), (1, .long p1)]) hx hb dX7_advance_1 rfl hl (by decide) rfl (fun ls hl => ?_)
  refine lv_iconst (v := 0) hx hb dX7_advance_2 (by decide) ?_
  refine lv_istore (lv' := [(4, .int (0 : Int32)), (3, .int (0 : Int32)), (0, .ref q), (1, .long p1)]) hx hb dX7_advance_3 hl (by decide) rfl (fun ls hl => ?_)
  refine hL5 p1 v_row _ (fun y3_12 y4_12 u12_depth u12_four H locs ls hf hP hD hS hl => ?_) n (0 : Int32) (0 : Int32) v_depth v_four _ _ _ hf hP hD hS (lv_sub hl [2, 3, 1, 0] rfl)
  have hP : va_P G vwCl [(q, .inr (7, [.ref q_row, .ref q_four, .int u12_depth])), (q_row, .inl (cI, 2001, .inl v_row)), (q_four, .inl (cJ, 4, .inr (.inl u12_four)))] H := hP
  have hD : va_D A [(q, .inr (7, [.ref q_row, .ref q_four, .int u12_depth])), (q_row, .inl (cI, 2001, .inl v_row)), (q_four, .inl (cJ, 4, .inr (.inl u12_four)))] := hD
  refine lv_iconst (v := 0) hx hb dX7_advance_69 (by decide) ?_
  cases hf
  rw [← hQ]
  exact rt_z hx hb hr hlk rfl hP hD hS rfl dX7_advance_70
def pX7_found (v_depth : Int32) (v_row : (Nat → Int32)) (v_four : (Nat → Int64)) : Option (Int64) := if v_depth ≤ 0 then some (-9223372036854775808 : Int64) else ck (ix (v_depth - (1 : Int32)) 2001) (ck (ix (v_row (v_depth - (1 : Int32)).toNatClampNeg) 4) (some (v_four (v_row (v_depth - (1 : Int32)).toNatClampNeg).toNatClampNeg)))
def rmX7_found : Room := { frames := 0, cells := 0, slots := 0, locals := 0 }
theorem hiX7_found_X7 : ∀ w ∈ u_ws RX7 TX7 3, w ∈ wsX7_found := fun _ h => List.mem_cons_of_mem _ (List.mem_append_right _ h)
set_option maxRecDepth 100000 in
set_option maxHeartbeats 4000000 in
theorem kX7_found {l : Launch} {G : va_G} {cI cJ cZ cS cG : ClassId} (q q_row q_four : Nat) (v_depth : Int32) (v_row : (Nat → Int32)) (v_four : (Nat → Int64)) (R : Int64) (hf : pX7_found v_depth v_row v_four = some R) : CTl l yX7_found wsX7_found rmX7_found G cI cJ cZ cS cG [.ref q] [(q, .inr (7, [.ref q_row, .ref q_four, .int v_depth])), (q_row, .inl (cI, 2001, .inl v_row)), (q_four, .inl (cJ, 4, .inr (.inl v_four)))] [(q, .inr (7, [.ref q_row, .ref q_four, .int v_depth])), (q_row, .inl (cI, 2001, .inl v_row)), (q_four, .inl (cJ, 4, .inr (.inl v_four)))] R := by
  refine Met.ofE (Qc := fun A => QRl G A [(q, .inr (7, [.ref q_row, .ref q_four, .int v_depth])), (q_row, .inl (cI, 2001, .inl v_row)), (q_four, .inl (cJ, 4, .inr (.inl v_four)))] R) (cc := cX7_found) (nL := 1) (ret := some .long) (plainFor_of_name (by decide +kernel)) rfl (Nat.le_of_ble_eq_true rfl) ?_
  intro p e s m below meth c A ls hx hb hml hr hlk hts hown hK hA hP hD hS hl
  have hown : s.vm.findClass RX7 = some m.cls := hown
  have hl : lv_has ls 1 [(0, .ref q)] := hl
  generalize hQ : MQ below (QRl G A [(q, .inr (7, [.ref q_row, .ref q_four, .int v_depth])), (q_row, .inl (cI, 2001, .inl v_row)), (q_four, .inl (cJ, 4, .inr (.inl v_four)))] R) ([.ref q] : List Value).toArray s 0 0 A = QQ
  unfold pX7_found at hf
  refine lv_aload_n hx hb dX7_found_0 rfl (lv_at hl 0 rfl) ?_
  refine va_get (D := G) (ci := 7) (v := .int v_depth) (C := RX7) (T := TX7) (N := 3) hx hb hts hiX7_found_X7 hown hK.1 hP 0 rfl rfl 2 (by decide) (hts (.fieldLink RX7 23 "PackedBends$Walk" "depth" "I") (List.mem_of_getElem? (i := 1) rfl)) (fun _ h9 => h9) rfl dX7_found_1 ?_
  refine lv_if_le (tgt := 26) hx hb dX7_found_4 (by decide) (fun c1 => ?_) (fun c1 => ?_)
  · have hf := if_s hf c1
    refine lv_ldc2 (v := (-9223372036854775808)) hx hb hown (hts (.constantLong RX7 40 (-9223372036854775808)) (List.mem_of_getElem? (i := 4) rfl)) dX7_found_26 ?_
    cases hf
    rw [← hQ]
    exact rt_l hx hb hr hlk hP hD hS rfl dX7_found_29
  · have hf := if_n hf c1
    refine lv_aload_n hx hb dX7_found_7 rfl (lv_at hl 0 rfl) ?_
    refine va_get (D := G) (ci := 7) (v := .ref q_four) (C := RX7) (T := TX7) (N := 3) hx hb hts hiX7_found_X7 hown hK.1 hP 0 rfl rfl 1 (by decide) (hts (.fieldLink RX7 15 "PackedBends$Walk" "four" "[J") (List.mem_of_getElem? (i := 2) rfl)) (fun _ h9 => h9) rfl dX7_found_8 ?_
    refine lv_aload_n hx hb dX7_found_11 rfl (lv_at hl 0 rfl) ?_
    refine va_get (D := G) (ci := 7) (v := .ref q_row) (C := RX7) (T := TX7) (N := 3) hx hb hts hiX7_found_X7 hown hK.1 hP 0 rfl rfl 0 (by decide) (hts (.fieldLink RX7 9 "PackedBends$Walk" "row" "[I") (List.mem_of_getElem? (i := 3) rfl)) (fun _ h9 => h9) rfl dX7_found_12 ?_
    refine lv_aload_n hx hb dX7_found_15 rfl (lv_at hl 0 rfl) ?_
    refine va_get (D := G) (ci := 7) (v := .int v_depth) (C := RX7) (T := TX7) (N := 3) hx hb hts hiX7_found_X7 hown hK.1 hP 0 rfl rfl 2 (by decide) (hts (.fieldLink RX7 23 "PackedBends$Walk" "depth" "I") (List.mem_of_getElem? (i := 1) rfl)) (fun _ h9 => h9) rfl dX7_found_16 ?_
    refine lv_iconst (v := 1) hx hb dX7_found_19 (by decide) ?_
    refine lv_isub hx hb dX7_found_20 ?_
    obtain ⟨z2, hf⟩ := ck_s hf
    refine va_iald hx hb hK.1 hP 1 0 rfl rfl (vp_in_iff.mpr z2) dX7_found_21 ?_
    obtain ⟨z3, hf⟩ := ck_s hf
    refine va_lald hx hb hK.1 hP 2 1 rfl rfl (vp_in_iff.mpr z3) dX7_found_22 ?_
    refine lv_goto (tgt := 29) hx hb dX7_found_23 (by decide) ?_
    cases hf
    rw [← hQ]
    exact rt_l hx hb hr hlk hP hD hS rfl dX7_found_29
