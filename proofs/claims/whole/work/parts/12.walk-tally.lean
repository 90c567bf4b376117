def pX1_forget : Option (Int32) := some (0 : Int32)
def rmX1_forget : Room := { frames := 0, cells := 0, slots := 0, locals := 0 }
theorem hiX1_forget_X1 : ∀ w ∈ u_ws RX1 TX1 3, w ∈ wsX1_forget := fun _ h => List.mem_cons_of_mem _ (List.mem_append_right _ h)
set_option maxRecDepth 100000 in
set_option maxHeartbeats 4000000 in
theorem kX1_forget {l : Launch} {G : va_G} {cI cJ cZ cS cG : ClassId} (q q_row : Nat) (v_size : Int32) (v_wanted : Int32) (R : Int32) (hf : pX1_forget = some R) : CTv l yX1_forget wsX1_forget rmX1_forget G cI cJ cZ cS cG [.ref q] [(q, .inr (1, [.ref q_row, .int v_size, .int v_wanted]))] [(q, .inr (1, [.ref q_row, .int R, .int v_wanted]))] := by
  refine Met.ofE (Qc := fun A => QRv G A [(q, .inr (1, [.ref q_row, .int R, .int v_wanted]))]) (cc := cX1_forget) (nL := 1) (ret := none) (plainFor_of_name (by decide +kernel)) rfl (Nat.le_of_ble_eq_true rfl) ?_
  intro p e s m below meth c A ls hx hb hml hr hlk hts hown hK hA hP hD hS hl
  have hown : s.vm.findClass RX1 = some m.cls := hown
  have hl : lv_has ls 1 [(0, .ref q)] := hl
  generalize hQ : MQ below (QRv G A [(q, .inr (1, [.ref q_row, .int R, .int v_wanted]))]) ([.ref q] : List Value).toArray s 0 0 A = QQ
  unfold pX1_forget at hf
  refine lv_aload_n hx hb dX1_forget_0 rfl (lv_at hl 0 rfl) ?_
  refine lv_iconst (v := 0) hx hb dX1_forget_1 (by decide) ?_
  refine va_put (D := G) (ci := 1) (v := .int (0 : Int32)) (ty := .int) (C := RX1) (T := TX1) (N := 3) hx hb hts hiX1_forget_X1 tyX1 tyX1_ok nmX1 hown hK.1 hP hD hS 0 rfl rfl 1 (by decide) (hts (.fieldLink RX1 15 "PackedBends$Leasts" "size" "I") (List.mem_of_getElem? (i := 1) rfl)) (fun _ h9 => h9) rfl (by decide +kernel) rfl rfl (Nat.le_of_ble_eq_true rfl) dX1_forget_2 (fun H locs hP hD hS => ?_)
  have hP : va_P G vwCl [(q, .inr (1, [.ref q_row, .int (0 : Int32), .int v_wanted]))] H := hP
  have hD : va_D A [(q, .inr (1, [.ref q_row, .int (0 : Int32), .int v_wanted]))] := hD
  cases hf
  rw [← hQ]
  exact rt_v hx hb hr hlk hP hD hS dX1_forget_5
def pX1_at (v_size : Int32) (v_row : (Nat → Int64)) (p1 : Int32) : Option (Int64) := if p1 < 0 then some (-9223372036854775808 : Int64) else if v_size ≤ p1 then some (-9223372036854775808 : Int64) else ck (ix p1 2001) (some (v_row p1.toNatClampNeg))
def rmX1_at : Room := { frames := 0, cells := 0, slots := 0, locals := 0 }
theorem hiX1_at_X1 : ∀ w ∈ u_ws RX1 TX1 3, w ∈ wsX1_at := fun _ h => List.mem_cons_of_mem _ (List.mem_append_right _ h)
set_option maxRecDepth 100000 in
set_option maxHeartbeats 4000000 in
theorem kX1_at {l : Launch} {G : va_G} {cI cJ cZ cS cG : ClassId} (q q_row : Nat) (v_size : Int32) (v_wanted : Int32) (v_row : (Nat → Int64)) (p1 : Int32) (R : Int64) (hf : pX1_at v_size v_row p1 = some R) : CTl l yX1_at wsX1_at rmX1_at G cI cJ cZ cS cG [.ref q, .int p1] [(q, .inr (1, [.ref q_row, .int v_size, .int v_wanted])), (q_row, .inl (cJ, 2001, .inr (.inl v_row)))] [(q, .inr (1, [.ref q_row, .int v_size, .int v_wanted])), (q_row, .inl (cJ, 2001, .inr (.inl v_row)))] R := by
  refine Met.ofE (Qc := fun A => QRl G A [(q, .inr (1, [.ref q_row, .int v_size, .int v_wanted])), (q_row, .inl (cJ, 2001, .inr (.inl v_row)))] R) (cc := cX1_at) (nL := 2) (ret := some .long) (plainFor_of_name (by decide +kernel)) rfl (Nat.le_of_ble_eq_true rfl) ?_
  intro p e s m below meth c A ls hx hb hml hr hlk hts hown hK hA hP hD hS hl
  have hown : s.vm.findClass RX1 = some m.cls := hown
  have hl : lv_has ls 2 [(0, .ref q), (1, .int p1)] := hl
  generalize hQ : MQ below (QRl G A [(q, .inr (1, [.ref q_row, .int v_size, .int v_wanted])), (q_row, .inl (cJ, 2001, .inr (.inl v_row)))] R) ([.ref q, .int p1] : List Value).toArray s 0 0 A = QQ
  unfold pX1_at at hf
  refine lv_iload_n hx hb dX1_at_0 rfl (lv_at hl 1 rfl) ?_
  refine lv_if_lt (tgt := 21) hx hb dX1_at_1 (by decide) (fun c1 => ?_) (fun c1 => ?_)
  · have hf := if_s hf c1
    refine lv_ldc2 (v := (-9223372036854775808)) hx hb hown (hts (.constantLong RX1 19 (-9223372036854775808)) (List.mem_of_getElem? (i := 3) rfl)) dX1_at_21 ?_
    cases hf
    rw [← hQ]
    exact rt_l hx hb hr hlk hP hD hS rfl dX1_at_24
  · have hf := if_n hf c1
    refine lv_iload_n hx hb dX1_at_4 rfl (lv_at hl 1 rfl) ?_
    refine lv_aload_n hx hb dX1_at_5 rfl (lv_at hl 0 rfl) ?_
    refine va_get (D := G) (ci := 1) (v := .int v_size) (C := RX1) (T := TX1) (N := 3) hx hb hts hiX1_at_X1 hown hK.1 hP 0 rfl rfl 1 (by decide) (hts (.fieldLink RX1 15 "PackedBends$Leasts" "size" "I") (List.mem_of_getElem? (i := 1) rfl)) (fun _ h9 => h9) rfl dX1_at_6 ?_
    refine lv_icmp_ge (tgt := 21) hx hb dX1_at_9 (by decide) (fun c2 => ?_) (fun c2 => ?_)
    · have hf := if_s hf c2
      refine lv_ldc2 (v := (-9223372036854775808)) hx hb hown (hts (.constantLong RX1 19 (-9223372036854775808)) (List.mem_of_getElem? (i := 3) rfl)) dX1_at_21 ?_
      cases hf
      rw [← hQ]
      exact rt_l hx hb hr hlk hP hD hS rfl dX1_at_24
    · have hf := if_n hf c2
      refine lv_aload_n hx hb dX1_at_12 rfl (lv_at hl 0 rfl) ?_
      refine va_get (D := G) (ci := 1) (v := .ref q_row) (C := RX1) (T := TX1) (N := 3) hx hb hts hiX1_at_X1 hown hK.1 hP 0 rfl rfl 0 (by decide) (hts (.fieldLink RX1 9 "PackedBends$Leasts" "row" "[J") (List.mem_of_getElem? (i := 2) rfl)) (fun _ h9 => h9) rfl dX1_at_13 ?_
      refine lv_iload_n hx hb dX1_at_16 rfl (lv_at hl 1 rfl) ?_
      obtain ⟨z3, hf⟩ := ck_s hf
      refine va_lald hx hb hK.1 hP 1 1 rfl rfl (vp_in_iff.mpr z3) dX1_at_17 ?_
      refine lv_goto (tgt := 24) hx hb dX1_at_18 (by decide) ?_
      cases hf
      rw [← hQ]
      exact rt_l hx hb hr hlk hP hD hS rfl dX1_at_24
def pX1_swap (v_row : (Nat → Int64)) (p1 : Int32) (p2 : Int32) : Option ((Nat → Int64)) := ck (ix p1 2001) (ck (ix p2 2001) (some (vp_updL (vp_updL v_row p1.toNatClampNeg (v_row p2.toNatClampNeg)) p2.toNatClampNeg (v_row p1.toNatClampNeg))))
def rmX1_swap : Room := { frames := 0, cells := 0, slots := 0, locals := 0 }
theorem hiX1_swap_X1 : ∀ w ∈ u_ws RX1 TX1 3, w ∈ wsX1_swap := fun _ h => List.mem_cons_of_mem _ (List.mem_append_right _ h)
set_option maxRecDepth 100000 in
set_option maxHeartbeats 4000000 in
theorem kX1_swap {l : Launch} {G : va_G} {cI cJ cZ cS cG : ClassId} (q q_row : Nat) (v_size : Int32) (v_wanted : Int32) (v_row : (Nat → Int64)) (p1 : Int32) (p2 : Int32) (R : (Nat → Int64)) (hf : pX1_swap v_row p1 p2 = some R) : CTv l yX1_swap wsX1_swap rmX1_swap G cI cJ cZ cS cG [.ref q, .int p1, .int p2] [(q, .inr (1, [.ref q_row, .int v_size, .int v_wanted])), (q_row, .inl (cJ, 2001, .inr (.inl v_row)))] [(q, .inr (1, [.ref q_row, .int v_size, .int v_wanted])), (q_row, .inl (cJ, 2001, .inr (.inl R)))] := by
  refine Met.ofE (Qc := fun A => QRv G A [(q, .inr (1, [.ref q_row, .int v_size, .int v_wanted])), (q_row, .inl (cJ, 2001, .inr (.inl R)))]) (cc := cX1_swap) (nL := 5) (ret := none) (plainFor_of_name (by decide +kernel)) rfl (Nat.le_of_ble_eq_true rfl) ?_
  intro p e s m below meth c A ls hx hb hml hr hlk hts hown hK hA hP hD hS hl
  have hown : s.vm.findClass RX1 = some m.cls := hown
  have hl : lv_has ls 5 [(0, .ref q), (1, .int p1), (2, .int p2)] := hl
  generalize hQ : MQ below (QRv G A [(q, .inr (1, [.ref q_row, .int v_size, .int v_wanted])), (q_row, .inl (cJ, 2001, .inr (.inl R)))]) ([.ref q, .int p1, .int p2] : List Value).toArray s 0 0 A = QQ
  unfold pX1_swap at hf
  refine lv_aload_n hx hb dX1_swap_0 rfl (lv_at hl 0 rfl) ?_
  refine va_get (D := G) (ci := 1) (v := .ref q_row) (C := RX1) (T := TX1) (N := 3) hx hb hts hiX1_swap_X1 hown hK.1 hP 0 rfl rfl 0 (by decide) (hts (.fieldLink RX1 9 "PackedBends$Leasts" "row" "[J") (List.mem_of_getElem? (i := 1) rfl)) (fun _ h9 => h9) rfl dX1_swap_1 ?_
  refine lv_iload_n hx hb dX1_swap_4 rfl (lv_at hl 1 rfl) ?_
  obtain ⟨z1, hf⟩ := ck_s hf
  refine va_lald hx hb hK.1 hP 1 1 rfl rfl (vp_in_iff.mpr z1) dX1_swap_5 ?_
  refine lv_lstore_n (lv' := [(3, .long (v_row p1.toNatClampNeg)), (0, .ref q), (1, .int p1), (2, .int p2)]) hx hb dX1_swap_6 rfl hl (by decide) rfl (fun ls hl => ?_)
  refine lv_aload_n hx hb dX1_swap_7 rfl (lv_at hl 1 rfl) ?_
  refine va_get (D := G) (ci := 1) (v := .ref q_row) (C := RX1) (T := TX1) (N := 3) hx hb hts hiX1_swap_X1 hown hK.1 hP 0 rfl rfl 0 (by decide) (hts (.fieldLink RX1 9 "PackedBends$Leasts" "row" "[J") (List.mem_of_getElem? (i := 1) rfl)) (fun _ h9 => h9) rfl dX1_swap_8 ?_
  refine lv_iload_n hx hb dX1_swap_11 rfl (lv_at hl 2 rfl) ?_
  refine lv_aload_n hx hb dX1_swap_12 rfl (lv_at hl 1 rfl) ?_
  refine va_get (D := G) (ci := 1) (v := .ref q_row) (C := RX1) (T := TX1) (N := 3) hx hb hts hiX1_swap_X1 hown hK.1 hP 0 rfl rfl 0 (by decide) (hts (.fieldLink RX1 9 "PackedBends$Leasts" "row" "[J") (List.mem_of_getElem? (i := 1) rfl)) (fun _ h9 => h9) rfl dX1_swap_13 ?_
  refine lv_iload_n hx hb dX1_swap_16 rfl (lv_at hl 3 rfl) ?_
  obtain ⟨z2, hf⟩ := ck_s hf
  refine va_lald hx hb hK.1 hP 1 1 rfl rfl (vp_in_iff.mpr z2) dX1_swap_17 ?_
  refine va_last hx hb hK.1 hP hD hS 1 1 rfl rfl (vp_in_iff.mpr z1) dX1_swap_18 (fun H locs hP hD hS => ?_)
  have hP : va_P G vwCl [(q, .inr (1, [.ref q_row, .int v_size, .int v_wanted])), (q_row, .inl (cJ, 2001, .inr (.inl (vp_updL v_row p1.toNatClampNeg (v_row p2.toNatClampNeg)))))] H := hP
  have hD : va_D A [(q, .inr (1, [.ref q_row, .int v_size, .int v_wanted])), (q_row, .inl (cJ, 2001, .inr (.inl (vp_updL v_row p1.toNatClampNeg (v_row p2.toNatClampNeg)))))] := hD
  refine lv_aload_n hx hb dX1_swap_19 rfl (lv_at hl 1 rfl) ?_
  refine va_get (D := G) (ci := 1) (v := .ref q_row) (C := RX1) (T := TX1) (N := 3) hx hb hts hiX1_swap_X1 hown hK.1 hP 0 rfl rfl 0 (by decide) (hts (.fieldLink RX1 9 "PackedBends$Leasts" "row" "[J") (List.mem_of_getElem? (i := 1) rfl)) (fun _ h9 => h9) rfl dX1_swap_20 ?_
  refine lv_iload_n hx hb dX1_swap_23 rfl (lv_at hl 3 rfl) ?_
  refine lv_lload_n hx hb dX1_swap_24 rfl (lv_at hl 0 rfl) ?_
  refine va_last hx hb hK.1 hP hD hS 1 1 rfl rfl (vp_in_iff.mpr z2) dX1_swap_25 (fun H locs hP hD hS => ?_)
  have hP : va_P G vwCl [(q, .inr (1, [.ref q_row, .int v_size, .int v_wanted])), (q_row, .inl (cJ, 2001, .inr (.inl (vp_updL (vp_updL v_row p1.toNatClampNeg (v_row p2.toNatClampNeg)) p2.toNatClampNeg (v_row p1.toNatClampNeg)))))] H := hP
  have hD : va_D A [(q, .inr (1, [.ref q_row, .int v_size, .int v_wanted])), (q_row, .inl (cJ, 2001, .inr (.inl (vp_updL (vp_updL v_row p1.toNatClampNeg (v_row p2.toNatClampNeg)) p2.toNatClampNeg (v_row p1.toNatClampNeg)))))] := hD
  cases hf
  rw [← hQ]
  exact rt_v hx hb hr hlk hP hD hS dX1_swap_26
def pX1_rise_L2 : Nat → Int32 → (Nat → Int64) → (Int32 → (Nat → Int64) → Option ((Nat → Int64))) → Option ((Nat → Int64))
  | 0, _, _, _ => none
  | n + 1, x2, v_row, k => if x2 ≤ 0 then k x2 v_row else ck (ix x2 2001) (ck (ix ((x2 - (1 : Int32)) / (2 : Int32)) 2001) (if (v_row x2.toNatClampNeg) ≤ (v_row ((x2 - (1 : Int32)) / (2 : Int32)).toNatClampNeg) then k x2 v_row else Option.bind (pX1_swap v_row x2 ((x2 - (1 : Int32)) / (2 : Int32))) (fun r5 => pX1_rise_L2 n ((x2 - (1 : Int32)) / (2 : Int32)) r5 k)))
def pX1_rise (n : Nat) (v_row : (Nat → Int64)) (p1 : Int32) : Option ((Nat → Int64)) := pX1_rise_L2 n p1 v_row (fun (y2_6 : Int32) (u6_row : (Nat → Int64)) => some u6_row)
def rmX1_rise : Room := { frames := 1, cells := 0, slots := 0, locals := 24 }
theorem hiX1_rise_X1 : ∀ w ∈ u_ws RX1 TX1 3, w ∈ wsX1_rise := fun _ h => List.mem_cons_of_mem _ (List.mem_append_right _ h)
set_option maxRecDepth 100000 in
set_option maxHeartbeats 4000000 in
theorem kX1_rise {l : Launch} {G : va_G} {cI cJ cZ cS cG : ClassId} (n : Nat) (q q_row : Nat) (v_size : Int32) (v_wanted : Int32) (v_row : (Nat → Int64)) (p1 : Int32) (R : (Nat → Int64)) (hf : pX1_rise n v_row p1 = some R) : CTv l yX1_rise wsX1_rise rmX1_rise G cI cJ cZ cS cG [.ref q, .int p1] [(q, .inr (1, [.ref q_row, .int v_size, .int v_wanted])), (q_row, .inl (cJ, 2001, .inr (.inl v_row)))] [(q, .inr (1, [.ref q_row, .int v_size, .int v_wanted])), (q_row, .inl (cJ, 2001, .inr (.inl R)))] := by
  refine Met.ofE (Qc := fun A => QRv G A [(q, .inr (1, [.ref q_row, .int v_size, .int v_wanted])), (q_row, .inl (cJ, 2001, .inr (.inl R)))]) (cc := cX1_rise) (nL := 3) (ret := none) (plainFor_of_name (by decide +kernel)) rfl (Nat.le_of_ble_eq_true rfl) ?_
  intro p e s m below meth c A ls hx hb hml hr hlk hts hown hK hA hP hD hS hl
  have hown : s.vm.findClass RX1 = some m.cls := hown
  have hl : lv_has ls 3 [(0, .ref q), (1, .int p1)] := hl
  generalize hQ : MQ below (QRv G A [(q, .inr (1, [.ref q_row, .int v_size, .int v_wanted])), (q_row, .inl (cJ, 2001, .inr (.inl R)))]) ([.ref q, .int p1] : List Value).toArray s 0 0 A = QQ
  unfold pX1_rise at hf
  have hL2 : ∀ (x1 : Int32) (k : Int32 → (Nat → Int64) → Option ((Nat → Int64))), (∀ (x2 : Int32) (v_row : (Nat → Int64)) (H : Heap) (locs : List Loc) (ls : Array Slot), k x2 v_row = some R → va_P G vwCl [(q, .inr (1, [.ref q_row, .int v_size, .int v_wanted])), (q_row, .inl (cJ, 2001, .inr (.inl v_row)))] H → va_D A [(q, .inr (1, [.ref q_row, .int v_size, .int v_wanted])), (q_row, .inl (cJ, 2001, .inr (.inl v_row)))] → va_S A s.heap H locs → lv_has ls 3 [(0, .ref q), (1, .int x1), (2, .int x2)] → W p l e rmX1_rise s m ([.ref q, .int p1] : List Value).toArray below meth c H locs 0 0 QQ (F0 m 45 ls [])) → ∀ (n : Nat) (x2 : Int32) (v_row : (Nat → Int64)) (H : Heap) (locs : List Loc) (ls : Array Slot), pX1_rise_L2 n x2 v_row k = some R → va_P G vwCl [(q, .inr (1, [.ref q_row, .int v_size, .int v_wanted])), (q_row, .inl (cJ, 2001, .inr (.inl v_row)))] H → va_D A [(q, .inr (1, [.ref q_row, .int v_size, .int v_wanted])), (q_row, .inl (cJ, 2001, .inr (.inl v_row)))] → va_S A s.heap H locs → lv_has ls 3 [(0, .ref q), (1, .int x1), (2, .int x2)] → W p l e rmX1_rise s m ([.ref q, .int p1] : List Value).toArray below meth c H locs 0 0 QQ (F0 m 2 ls []) := by
    intro x1 k hk n
    induction n with
    | zero =>
      intro x2 v_row H locs ls hf
      cases hf
    | succ n ih =>
      intro x2 v_row H locs ls hf hP hD hS hl
      unfold pX1_rise_L2 at hf
      refine lv_iload_n hx hb dX1_rise_2 rfl (lv_at hl 2 rfl) ?_
      refine lv_if_le (tgt := 45) hx hb dX1_rise_3 (by decide) (fun c1 => ?_) (fun c1 => ?_)
      · have hf := if_s hf c1
        exact hk x2 v_row _ _ _ hf hP hD hS (lv_sub hl [0, 1, 2] rfl)
      · have hf := if_n hf c1
        refine lv_aload_n hx hb dX1_rise_6 rfl (lv_at hl 0 rfl) ?_
        refine va_get (D := G) (ci := 1) (v := .ref q_row) (C := RX1) (T := TX1) (N := 3) hx hb hts hiX1_rise_X1 hown hK.1 hP 0 rfl rfl 0 (by decide) (hts (.fieldLink RX1 9 "PackedBends$Leasts" "row" "[J") (List.mem_of_getElem? (i := 1) rfl)) (fun _ h9 => h9) rfl dX1_rise_7 ?_
        refine lv_iload_n hx hb dX1_rise_10 rfl (lv_at hl 2 rfl) ?_
        obtain ⟨z2, hf⟩ := ck_s hf
        refine va_lald hx hb hK.1 hP 1 1 rfl rfl (vp_in_iff.mpr z2) dX1_rise_11 ?_
        refine lv_aload_n hx hb dX1_rise_12 rfl (lv_at hl 0 rfl) ?_
        refine va_get (D := G) (ci := 1) (v := .ref q_row) (C := RX1) (T := TX1) (N := 3) hx hb hts hiX1_rise_X1 hown hK.1 hP 0 rfl rfl 0 (by decide) (hts (.fieldLink RX1 9 "PackedBends$Leasts" "row" "[J") (List.mem_of_getElem? (i := 1) rfl)) (fun _ h9 => h9) rfl dX1_rise_13 ?_
        refine lv_iload_n hx hb dX1_rise_16 rfl (lv_at hl 2 rfl) ?_
        refine lv_iconst (v := 1) hx hb dX1_rise_17 (by decide) ?_
        refine lv_isub hx hb dX1_rise_18 ?_
        refine lv_iconst (v := 2) hx hb dX1_rise_19 (by decide) ?_
        refine lv_idiv hx hb dX1_rise_20 (by decide) ?_
        obtain ⟨z3, hf⟩ := ck_s hf
        refine va_lald hx hb hK.1 hP 1 1 rfl rfl (vp_in_iff.mpr z3) dX1_rise_21 ?_
        refine lc_le (tgt := 45) hx hb dX1_rise_22 dX1_rise_23 (by decide) (fun c4 => ?_) (fun c4 => ?_)
        · have hf := if_s hf c4
          exact hk x2 v_row _ _ _ hf hP hD hS (lv_sub hl [0, 1, 2] rfl)
        · have hf := if_n hf c4
          refine lv_aload_n hx hb dX1_rise_26 rfl (lv_at hl 0 rfl) ?_
          refine lv_iload_n hx hb dX1_rise_27 rfl (lv_at hl 2 rfl) ?_
          refine lv_iload_n hx hb dX1_rise_28 rfl (lv_at hl 2 rfl) ?_
          refine lv_iconst (v := 1) hx hb dX1_rise_29 (by decide) ?_
          refine lv_isub hx hb dX1_rise_30 ?_
          refine lv_iconst (v := 2) hx hb dX1_rise_31 (by decide) ?_
          refine lv_idiv hx hb dX1_rise_32 (by decide) ?_
          obtain ⟨r5, hc5, hf⟩ := ob_s hf
          refine bk_v (wc := [(q, .inr (1, [.ref q_row, .int v_size, .int v_wanted])), (q_row, .inl (cJ, 2001, .inr (.inl v_row)))]) (wc2 := [(q, .inr (1, [.ref q_row, .int v_size, .int v_wanted])), (q_row, .inl (cJ, 2001, .inr (.inl r5)))]) (wr := []) (ws2 := [(q, .inr (1, [.ref q_row, .int v_size, .int v_wanted])), (q_row, .inl (cJ, 2001, .inr (.inl r5)))]) (va_runV (As := [.int x2, .int ((x2 - (1 : Int32)) / (2 : Int32))]) (rest := []) ⟨hx, hb, hml, hown, hts⟩ (kX1_swap (l := l) (G := G) (cI := cI) (cJ := cJ) (cZ := cZ) (cS := cS) (cG := cG) q q_row v_size v_wanted v_row x2 ((x2 - (1 : Int32)) / (2 : Int32)) _ hc5 _) (cwV 2 hts gX1_rise_X1_swap rfl rfl rfl (by decide +kernel) ⟨Nat.le_of_ble_eq_true rfl, Nat.le_of_ble_eq_true rfl⟩) (cut_V hK hP hD [0, 1] rfl rfl (ci := 1) (q0 := 0) rfl rfl) rfl rfl hl.1 rfl (lv_room (Nat.le_of_ble_eq_true rfl)) dX1_rise_33 ⟨Nat.zero_le _, Nat.zero_le _⟩) hP hD hS hA [0, 1] [] [0, 1] rfl rfl rfl rfl rfl rfl (fun H locs hP hD hS => ?_)
          refine lv_iload_n hx hb dX1_rise_36 rfl (lv_at hl 2 rfl) ?_
          refine lv_iconst (v := 1) hx hb dX1_rise_37 (by decide) ?_
          refine lv_isub hx hb dX1_rise_38 ?_
          refine lv_iconst (v := 2) hx hb dX1_rise_39 (by decide) ?_
          refine lv_idiv hx hb dX1_rise_40 (by decide) ?_
          refine lv_istore_n (lv' := [(2, .int ((x2 - (1 : Int32)) / (2 : Int32))), (0, .ref q), (1, .int x1)]) hx hb dX1_rise_41 rfl hl (by decide) rfl (fun ls hl => ?_)
          refine lv_goto (tgt := 2) hx hb dX1_rise_42 (by decide) ?_
          exact ih ((x2 - (1 : Int32)) / (2 : Int32)) r5 _ _ _ hf hP hD hS (lv_sub hl [1, 2, 0] rfl)
  refine lv_iload_n hx hb dX1_rise_0 rfl (lv_at hl 1 rfl) ?_
  refine lv_istore_n (lv' := [(2, .int p1), (0, .ref q), (1, .int p1)]) hx hb dX1_rise_1 rfl hl (by decide) rfl (fun ls hl => ?_)
  refine hL2 p1 _ (fun y2_6 u6_row H locs ls hf hP hD hS hl => ?_) n p1 v_row _ _ _ hf hP hD hS (lv_sub hl [1, 2, 0] rfl)
  have hP : va_P G vwCl [(q, .inr (1, [.ref q_row, .int v_size, .int v_wanted])), (q_row, .inl (cJ, 2001, .inr (.inl u6_row)))] H := hP
  have hD : va_D A [(q, .inr (1, [.ref q_row, .int v_size, .int v_wanted])), (q_row, .inl (cJ, 2001, .inr (.inl u6_row)))] := hD
  cases hf
  rw [← hQ]
  exact rt_v hx hb hr hlk hP hD hS dX1_rise_45
def pX1_sink_L4 (x1 : Int32) : Nat → Int32 → Int32 → (Nat → Int64) → (Int32 → Int32 → (Nat → Int64) → Option ((Nat → Int64))) → Option ((Nat → Int64))
  | 0, _, _, _, _ => none
  | n + 1, x2, x3, v_row, k => if x1 ≤ x3 then k x2 x3 v_row else if x1 ≤ (x3 + (1 : Int32)) then ck (ix x3 2001) (ck (ix x2 2001) (if (v_row x2.toNatClampNeg) < (v_row x3.toNatClampNeg) then Option.bind (pX1_swap v_row x2 x3) (fun r6 => pX1_sink_L4 x1 n x3 (((2 : Int32) * x3) + (1 : Int32)) r6 k) else some v_row)) else ck (ix (x3 + (1 : Int32)) 2001) (ck (ix x3 2001) (if (v_row (x3 + (1 : Int32)).toNatClampNeg) ≤ (v_row x3.toNatClampNeg) then ck (ix x2 2001) (if (v_row x2.toNatClampNeg) < (v_row x3.toNatClampNeg) then Option.bind (pX1_swap v_row x2 x3) (fun r12 => pX1_sink_L4 x1 n x3 (((2 : Int32) * x3) + (1 : Int32)) r12 k) else some v_row) else ck (ix x2 2001) (if (v_row x2.toNatClampNeg) < (v_row (x3 + (1 : Int32)).toNatClampNeg) then Option.bind (pX1_swap v_row x2 (x3 + (1 : Int32))) (fun r15 => pX1_sink_L4 x1 n (x3 + (1 : Int32)) (((2 : Int32) * (x3 + (1 : Int32))) + (1 : Int32)) r15 k) else some v_row)))
def pX1_sink (n : Nat) (v_row : (Nat → Int64)) (p1 : Int32) : Option ((Nat → Int64)) := pX1_sink_L4 p1 n (0 : Int32) (1 : Int32) v_row (fun (y2_16 : Int32) (y3_16 : Int32) (u16_row : (Nat → Int64)) => some u16_row)
def rmX1_sink : Room := { frames := 1, cells := 0, slots := 0, locals := 24 }
theorem hiX1_sink_X1 : ∀ w ∈ u_ws RX1 TX1 3, w ∈ wsX1_sink := fun _ h => List.mem_cons_of_mem _ (List.mem_append_right _ h)
set_option maxRecDepth 100000 in
set_option maxHeartbeats 4000000 in
theorem kX1_sink {l : Launch} {G : va_G} {cI cJ cZ cS cG : ClassId} (n : Nat) (q q_row : Nat) (v_size : Int32) (v_wanted : Int32) (v_row : (Nat → Int64)) (p1 : Int32) (R : (Nat → Int64)) (hf : pX1_sink n v_row p1 = some R) : CTv l yX1_sink wsX1_sink rmX1_sink G cI cJ cZ cS cG [.ref q, .int p1] [(q, .inr (1, [.ref q_row, .int v_size, .int v_wanted])), (q_row, .inl (cJ, 2001, .inr (.inl v_row)))] [(q, .inr (1, [.ref q_row, .int v_size, .int v_wanted])), (q_row, .inl (cJ, 2001, .inr (.inl R)))] := by
  refine Met.ofE (Qc := fun A => QRv G A [(q, .inr (1, [.ref q_row, .int v_size, .int v_wanted])), (q_row, .inl (cJ, 2001, .inr (.inl R)))]) (cc := cX1_sink) (nL := 4) (ret := none) (plainFor_of_name (by decide +kernel)) rfl (Nat.le_of_ble_eq_true rfl) ?_
  intro p e s m below meth c A ls hx hb hml hr hlk hts hown hK hA hP hD hS hl
  have hown : s.vm.findClass RX1 = some m.cls := hown
  have hl : lv_has ls 4 [(0, .ref q), (1, .int p1)] := hl
  generalize hQ : MQ below (QRv G A [(q, .inr (1, [.ref q_row, .int v_size, .int v_wanted])), (q_row, .inl (cJ, 2001, .inr (.inl R)))]) ([.ref q, .int p1] : List Value).toArray s 0 0 A = QQ
  unfold pX1_sink at hf
  have hL4 : ∀ (x1 : Int32) (k : Int32 → Int32 → (Nat → Int64) → Option ((Nat → Int64))), (∀ (x2 : Int32) (x3 : Int32) (v_row : (Nat → Int64)) (H : Heap) (locs : List Loc) (ls : Array Slot), k x2 x3 v_row = some R → va_P G vwCl [(q, .inr (1, [.ref q_row, .int v_size, .int v_wanted])), (q_row, .inl (cJ, 2001, .inr (.inl v_row)))] H → va_D A [(q, .inr (1, [.ref q_row, .int v_size, .int v_wanted])), (q_row, .inl (cJ, 2001, .inr (.inl v_row)))] → va_S A s.heap H locs → lv_has ls 4 [(0, .ref q), (1, .int x1), (2, .int x2), (3, .int x3)] → W p l e rmX1_sink s m ([.ref q, .int p1] : List Value).toArray below meth c H locs 0 0 QQ (F0 m 71 ls [])) → ∀ (n : Nat) (x2 : Int32) (x3 : Int32) (v_row : (Nat → Int64)) (H : Heap) (locs : List Loc) (ls : Array Slot), pX1_sink_L4 x1 n x2 x3 v_row k = some R → va_P G vwCl [(q, .inr (1, [.ref q_row, .int v_size, .int v_wanted])), (q_row, .inl (cJ, 2001, .inr (.inl v_row)))] H → va_D A [(q, .inr (1, [.ref q_row, .int v_size, .int v_wanted])), (q_row, .inl (cJ, 2001, .inr (.inl v_row)))] → va_S A s.heap H locs → lv_has ls 4 [(0, .ref q), (1, .int x1), (2, .int x2), (3, .int x3)] → W p l e rmX1_sink s m ([.ref q, .int p1] : List Value).toArray below meth c H locs 0 0 QQ (F0 m 4 ls []) := by
    intro x1 k hk n
    induction n with
    | zero =>
      intro x2 x3 v_row H locs ls hf
      cases hf
    | succ n ih =>
      intro x2 x3 v_row H locs ls hf hP hD hS hl
      unfold pX1_sink_L4 at hf
      refine lv_iload_n hx hb dX1_sink_4 rfl (lv_at hl 3 rfl) ?_
      refine lv_iload_n hx hb dX1_sink_5 rfl (lv_at hl 1 rfl) ?_
      refine lv_icmp_ge (tgt := 71) hx hb dX1_sink_6 (by decide) (fun c1 => ?_) (fun c1 => ?_)
      · have hf := if_s hf c1
        exact hk x2 x3 v_row _ _ _ hf hP hD hS (lv_sub hl [0, 1, 2, 3] rfl)
      · have hf := if_n hf c1
        refine lv_iload_n hx hb dX1_sink_9 rfl (lv_at hl 3 rfl) ?_
        refine lv_iconst (v := 1) hx hb dX1_sink_10 (by decide) ?_
        refine lv_iadd hx hb dX1_sink_11 ?_
        refine lv_iload_n hx hb dX1_sink_12 rfl (lv_at hl 1 rfl) ?_
        refine lv_icmp_ge (tgt := 37) hx hb dX1_sink_13 (by decide) (fun c2 => ?_) (fun c2 => ?_)
        · have hf := if_s hf c2
          refine lv_aload_n hx hb dX1_sink_37 rfl (lv_at hl 0 rfl) ?_
          refine va_get (D := G) (ci := 1) (v := .ref q_row) (C := RX1) (T := TX1) (N := 3) hx hb hts hiX1_sink_X1 hown hK.1 hP 0 rfl rfl 0 (by decide) (hts (.fieldLink RX1 9 "PackedBends$Leasts" "row" "[J") (List.mem_of_getElem? (i := 1) rfl)) (fun _ h9 => h9) rfl dX1_sink_38 ?_
          refine lv_iload_n hx hb dX1_sink_41 rfl (lv_at hl 3 rfl) ?_
          obtain ⟨z3, hf⟩ := ck_s hf
          refine va_lald hx hb hK.1 hP 1 1 rfl rfl (vp_in_iff.mpr z3) dX1_sink_42 ?_
          refine lv_aload_n hx hb dX1_sink_43 rfl (lv_at hl 0 rfl) ?_
          refine va_get (D := G) (ci := 1) (v := .ref q_row) (C := RX1) (T := TX1) (N := 3) hx hb hts hiX1_sink_X1 hown hK.1 hP 0 rfl rfl 0 (by decide) (hts (.fieldLink RX1 9 "PackedBends$Leasts" "row" "[J") (List.mem_of_getElem? (i := 1) rfl)) (fun _ h9 => h9) rfl dX1_sink_44 ?_
          refine lv_iload_n hx hb dX1_sink_47 rfl (lv_at hl 2 rfl) ?_
          obtain ⟨z4, hf⟩ := ck_s hf
          refine va_lald hx hb hK.1 hP 1 1 rfl rfl (vp_in_iff.mpr z4) dX1_sink_48 ?_
          refine lc_gt (tgt := 54) hx hb dX1_sink_49 dX1_sink_50 (by decide) (fun c5 => ?_) (fun c5 => ?_)
          · have hf := if_s hf c5
            refine lv_aload_n hx hb dX1_sink_54 rfl (lv_at hl 0 rfl) ?_
            refine lv_iload_n hx hb dX1_sink_55 rfl (lv_at hl 2 rfl) ?_
            refine lv_iload_n hx hb dX1_sink_56 rfl (lv_at hl 3 rfl) ?_
            obtain ⟨r6, hc6, hf⟩ := ob_s hf
            refine bk_v (wc := [(q, .inr (1, [.ref q_row, .int v_size, .int v_wanted])), (q_row, .inl (cJ, 2001, .inr (.inl v_row)))]) (wc2 := [(q, .inr (1, [.ref q_row, .int v_size, .int v_wanted])), (q_row, .inl (cJ, 2001, .inr (.inl r6)))]) (wr := []) (ws2 := [(q, .inr (1, [.ref q_row, .int v_size, .int v_wanted])), (q_row, .inl (cJ, 2001, .inr (.inl r6)))]) (va_runV (As := [.int x2, .int x3]) (rest := []) ⟨hx, hb, hml, hown, hts⟩ (kX1_swap (l := l) (G := G) (cI := cI) (cJ := cJ) (cZ := cZ) (cS := cS) (cG := cG) q q_row v_size v_wanted v_row x2 x3 _ hc6 _) (cwV 2 hts gX1_sink_X1_swap rfl rfl rfl (by decide +kernel) ⟨Nat.le_of_ble_eq_true rfl, Nat.le_of_ble_eq_true rfl⟩) (cut_V hK hP hD [0, 1] rfl rfl (ci := 1) (q0 := 0) rfl rfl) rfl rfl hl.1 rfl (lv_room (Nat.le_of_ble_eq_true rfl)) dX1_sink_57 ⟨Nat.zero_le _, Nat.zero_le _⟩) hP hD hS hA [0, 1] [] [0, 1] rfl rfl rfl rfl rfl rfl (fun H locs hP hD hS => ?_)
            refine lv_iload_n hx hb dX1_sink_60 rfl (lv_at hl 3 rfl) ?_
            refine lv_istore_n (lv' := [(2, .int x3), (0, .ref q), (1, .int x1), (3, .int x3)]) hx hb dX1_sink_61 rfl hl (by decide) rfl (fun ls hl => ?_)
            refine lv_iconst (v := 2) hx hb dX1_sink_62 (by decide) ?_
            refine lv_iload_n hx hb dX1_sink_63 rfl (lv_at hl 0 rfl) ?_
            refine lv_imul hx hb dX1_sink_64 ?_
            refine lv_iconst (v := 1) hx hb dX1_sink_65 (by decide) ?_
            refine lv_iadd hx hb dX1_sink_66 ?_
            refine lv_istore_n (lv' := [(3, .int (((2 : Int32) * x3) + (1 : Int32))), (2, .int x3), (0, .ref q), (1, .int x1)]) hx hb dX1_sink_67 rfl hl (by decide) rfl (fun ls hl => ?_)
            refine lv_goto (tgt := 4) hx hb dX1_sink_68 (by decide) ?_
            exact ih x3 (((2 : Int32) * x3) + (1 : Int32)) r6 _ _ _ hf hP hD hS (lv_sub hl [2, 3, 1, 0] rfl)
          · have hf := if_n hf c5
            cases hf
            rw [← hQ]
            exact rt_v hx hb hr hlk hP hD hS dX1_sink_53
        · have hf := if_n hf c2
          refine lv_aload_n hx hb dX1_sink_16 rfl (lv_at hl 0 rfl) ?_
          refine va_get (D := G) (ci := 1) (v := .ref q_row) (C := RX1) (T := TX1) (N := 3) hx hb hts hiX1_sink_X1 hown hK.1 hP 0 rfl rfl 0 (by decide) (hts (.fieldLink RX1 9 "PackedBends$Leasts" "row" "[J") (List.mem_of_getElem? (i := 1) rfl)) (fun _ h9 => h9) rfl dX1_sink_17 ?_
          refine lv_iload_n hx hb dX1_sink_20 rfl (lv_at hl 3 rfl) ?_
          refine lv_iconst (v := 1) hx hb dX1_sink_21 (by decide) ?_
          refine lv_iadd hx hb dX1_sink_22 ?_
          obtain ⟨z7, hf⟩ := ck_s hf
          refine va_lald hx hb hK.1 hP 1 1 rfl rfl (vp_in_iff.mpr z7) dX1_sink_23 ?_
          refine lv_aload_n hx hb dX1_sink_24 rfl (lv_at hl 0 rfl) ?_
          refine va_get (D := G) (ci := 1) (v := .ref q_row) (C := RX1) (T := TX1) (N := 3) hx hb hts hiX1_sink_X1 hown hK.1 hP 0 rfl rfl 0 (by decide) (hts (.fieldLink RX1 9 "PackedBends$Leasts" "row" "[J") (List.mem_of_getElem? (i := 1) rfl)) (fun _ h9 => h9) rfl dX1_sink_25 ?_
          refine lv_iload_n hx hb dX1_sink_28 rfl (lv_at hl 3 rfl) ?_
          obtain ⟨z8, hf⟩ := ck_s hf
          refine va_lald hx hb hK.1 hP 1 1 rfl rfl (vp_in_iff.mpr z8) dX1_sink_29 ?_
          refine lc_le (tgt := 37) hx hb dX1_sink_30 dX1_sink_31 (by decide) (fun c9 => ?_) (fun c9 => ?_)
          · have hf := if_s hf c9
            refine lv_aload_n hx hb dX1_sink_37 rfl (lv_at hl 0 rfl) ?_
            refine va_get (D := G) (ci := 1) (v := .ref q_row) (C := RX1) (T := TX1) (N := 3) hx hb hts hiX1_sink_X1 hown hK.1 hP 0 rfl rfl 0 (by decide) (hts (.fieldLink RX1 9 "PackedBends$Leasts" "row" "[J") (List.mem_of_getElem? (i := 1) rfl)) (fun _ h9 => h9) rfl dX1_sink_38 ?_
            refine lv_iload_n hx hb dX1_sink_41 rfl (lv_at hl 3 rfl) ?_
            refine va_lald hx hb hK.1 hP 1 1 rfl rfl (vp_in_iff.mpr z8) dX1_sink_42 ?_
            refine lv_aload_n hx hb dX1_sink_43 rfl (lv_at hl 0 rfl) ?_
            refine va_get (D := G) (ci := 1) (v := .ref q_row) (C := RX1) (T := TX1) (N := 3) hx hb hts hiX1_sink_X1 hown hK.1 hP 0 rfl rfl 0 (by decide) (hts (.fieldLink RX1 9 "PackedBends$Leasts" "row" "[J") (List.mem_of_getElem? (i := 1) rfl)) (fun _ h9 => h9) rfl dX1_sink_44 ?_
            refine lv_iload_n hx hb dX1_sink_47 rfl (lv_at hl 2 rfl) ?_
            obtain ⟨z10, hf⟩ := ck_s hf
            refine va_lald hx hb hK.1 hP 1 1 rfl rfl (vp_in_iff.mpr z10) dX1_sink_48 ?_
            refine lc_gt (tgt := 54) hx hb dX1_sink_49 dX1_sink_50 (by decide) (fun c11 => ?_) (fun c11 => ?_)
            · have hf := if_s hf c11
              refine lv_aload_n hx hb dX1_sink_54 rfl (lv_at hl 0 rfl) ?_
              refine lv_iload_n hx hb dX1_sink_55 rfl (lv_at hl 2 rfl) ?_
              refine lv_iload_n hx hb dX1_sink_56 rfl (lv_at hl 3 rfl) ?_
              obtain ⟨r12, hc12, hf⟩ := ob_s hf
              refine bk_v (wc := [(q, .inr (1, [.ref q_row, .int v_size, .int v_wanted])), (q_row, .inl (cJ, 2001, .inr (.inl v_row)))]) (wc2 := [(q, .inr (1, [.ref q_row, .int v_size, .int v_wanted])), (q_row, .inl (cJ, 2001, .inr (.inl r12)))]) (wr := []) (ws2 := [(q, .inr (1, [.ref q_row, .int v_size, .int v_wanted])), (q_row, .inl (cJ, 2001, .inr (.inl r12)))]) (va_runV (As := [.int x2, .int x3]) (rest := []) ⟨hx, hb, hml, hown, hts⟩ (kX1_swap (l := l) (G := G) (cI := cI) (cJ := cJ) (cZ := cZ) (cS := cS) (cG := cG) q q_row v_size v_wanted v_row x2 x3 _ hc12 _) (cwV 2 hts gX1_sink_X1_swap rfl rfl rfl (by decide +kernel) ⟨Nat.le_of_ble_eq_true rfl, Nat.le_of_ble_eq_true rfl⟩) (cut_V hK hP hD [0, 1] rfl rfl (ci := 1) (q0 := 0) rfl rfl) rfl rfl hl.1 rfl (lv_room (Nat.le_of_ble_eq_true rfl)) dX1_sink_57 ⟨Nat.zero_le _, Nat.zero_le _⟩) hP hD hS hA [0, 1] [] [0, 1] rfl rfl rfl rfl rfl rfl (fun H locs hP hD hS => ?_)
              refine lv_iload_n hx hb dX1_sink_60 rfl (lv_at hl 3 rfl) ?_
              refine lv_istore_n (lv' := [(2, .int x3), (0, .ref q), (1, .int x1), (3, .int x3)]) hx hb dX1_sink_61 rfl hl (by decide) rfl (fun ls hl => ?_)
              refine lv_iconst (v := 2) hx hb dX1_sink_62 (by decide) ?_
              refine lv_iload_n hx hb dX1_sink_63 rfl (lv_at hl 0 rfl) ?_
              refine lv_imul hx hb dX1_sink_64 ?_
              refine lv_iconst (v := 1) hx hb dX1_sink_65 (by decide) ?_
              refine lv_iadd hx hb dX1_sink_66 ?_
              refine lv_istore_n (lv' := [(3, .int (((2 : Int32) * x3) + (1 : Int32))), (2, .int x3), (0, .ref q), (1, .int x1)]) hx hb dX1_sink_67 rfl hl (by decide) rfl (fun ls hl => ?_)
              refine lv_goto (tgt := 4) hx hb dX1_sink_68 (by decide) ?_
              exact ih x3 (((2 : Int32) * x3) + (1 : Int32)) r12 _ _ _ hf hP hD hS (lv_sub hl [2, 3, 1, 0] rfl)
            · have hf := if_n hf c11
              cases hf
              rw [← hQ]
              exact rt_v hx hb hr hlk hP hD hS dX1_sink_53
          · have hf := if_n hf c9
            refine lv_iinc (v := x3 + (1 : Int32)) (lv' := [(3, .int (x3 + (1 : Int32))), (0, .ref q), (1, .int x1), (2, .int x2)]) hx hb dX1_sink_34 hl (k := 3) rfl rfl (by decide) rfl (fun ls hl => ?_)
            refine lv_aload_n hx hb dX1_sink_37 rfl (lv_at hl 1 rfl) ?_
            refine va_get (D := G) (ci := 1) (v := .ref q_row) (C := RX1) (T := TX1) (N := 3) hx hb hts hiX1_sink_X1 hown hK.1 hP 0 rfl rfl 0 (by decide) (hts (.fieldLink RX1 9 "PackedBends$Leasts" "row" "[J") (List.mem_of_getElem? (i := 1) rfl)) (fun _ h9 => h9) rfl dX1_sink_38 ?_
            refine lv_iload_n hx hb dX1_sink_41 rfl (lv_at hl 0 rfl) ?_
            refine va_lald hx hb hK.1 hP 1 1 rfl rfl (vp_in_iff.mpr z7) dX1_sink_42 ?_
            refine lv_aload_n hx hb dX1_sink_43 rfl (lv_at hl 1 rfl) ?_
            refine va_get (D := G) (ci := 1) (v := .ref q_row) (C := RX1) (T := TX1) (N := 3) hx hb hts hiX1_sink_X1 hown hK.1 hP 0 rfl rfl 0 (by decide) (hts (.fieldLink RX1 9 "PackedBends$Leasts" "row" "[J") (List.mem_of_getElem? (i := 1) rfl)) (fun _ h9 => h9) rfl dX1_sink_44 ?_
            refine lv_iload_n hx hb dX1_sink_47 rfl (lv_at hl 3 rfl) ?_
            obtain ⟨z13, hf⟩ := ck_s hf
            refine va_lald hx hb hK.1 hP 1 1 rfl rfl (vp_in_iff.mpr z13) dX1_sink_48 ?_
            refine lc_gt (tgt := 54) hx hb dX1_sink_49 dX1_sink_50 (by decide) (fun c14 => ?_) (fun c14 => ?_)
            · have hf := if_s hf c14
              refine lv_aload_n hx hb dX1_sink_54 rfl (lv_at hl 1 rfl) ?_
              refine lv_iload_n hx hb dX1_sink_55 rfl (lv_at hl 3 rfl) ?_
              refine lv_iload_n hx hb dX1_sink_56 rfl (lv_at hl 0 rfl) ?_
              obtain ⟨r15, hc15, hf⟩ := ob_s hf
              refine bk_v (wc := [(q, .inr (1, [.ref q_row, .int v_size, .int v_wanted])), (q_row, .inl (cJ, 2001, .inr (.inl v_row)))]) (wc2 := [(q, .inr (1, [.ref q_row, .int v_size, .int v_wanted])), (q_row, .inl (cJ, 2001, .inr (.inl r15)))]) (wr := []) (ws2 := [(q, .inr (1, [.ref q_row, .int v_size, .int v_wanted])), (q_row, .inl (cJ, 2001, .inr (.inl r15)))]) (va_runV (As := [.int x2, .int (x3 + (1 : Int32))]) (rest := []) ⟨hx, hb, hml, hown, hts⟩ (kX1_swap (l := l) (G := G) (cI := cI) (cJ := cJ) (cZ := cZ) (cS := cS) (cG := cG) q q_row v_size v_wanted v_row x2 (x3 + (1 : Int32)) _ hc15 _) (cwV 2 hts gX1_sink_X1_swap rfl rfl rfl (by decide +kernel) ⟨Nat.le_of_ble_eq_true rfl, Nat.le_of_ble_eq_true rfl⟩) (cut_V hK hP hD [0, 1] rfl rfl (ci := 1) (q0 := 0) rfl rfl) rfl rfl hl.1 rfl (lv_room (Nat.le_of_ble_eq_true rfl)) dX1_sink_57 ⟨Nat.zero_le _, Nat.zero_le _⟩) hP hD hS hA [0, 1] [] [0, 1] rfl rfl rfl rfl rfl rfl (fun H locs hP hD hS => ?_)
              refine lv_iload_n hx hb dX1_sink_60 rfl (lv_at hl 0 rfl) ?_
              refine lv_istore_n (lv' := [(2, .int (x3 + (1 : Int32))), (3, .int (x3 + (1 : Int32))), (0, .ref q), (1, .int x1)]) hx hb dX1_sink_61 rfl hl (by decide) rfl (fun ls hl => ?_)
              refine lv_iconst (v := 2) hx hb dX1_sink_62 (by decide) ?_
              refine lv_iload_n hx hb dX1_sink_63 rfl (lv_at hl 0 rfl) ?_
              refine lv_imul hx hb dX1_sink_64 ?_
              refine lv_iconst (v := 1) hx hb dX1_sink_65 (by decide) ?_
              refine lv_iadd hx hb dX1_sink_66 ?_
              refine lv_istore_n (lv' := [(3, .int (((2 : Int32) * (x3 + (1 : Int32))) + (1 : Int32))), (2, .int (x3 + (1 : Int32))), (0, .ref q), (1, .int x1)]) hx hb dX1_sink_67 rfl hl (by decide) rfl (fun ls hl => ?_)
              refine lv_goto (tgt := 4) hx hb dX1_sink_68 (by decide) ?_
              exact ih (x3 + (1 : Int32)) (((2 : Int32) * (x3 + (1 : Int32))) + (1 : Int32)) r15 _ _ _ hf hP hD hS (lv_sub hl [2, 3, 1, 0] rfl)
            · have hf := if_n hf c14
              cases hf
              rw [← hQ]
              exact rt_v hx hb hr hlk hP hD hS dX1_sink_53
  refine lv_iconst (v := 0) hx hb dX1_sink_0 (by decide) ?_
  refine lv_istore_n (lv' := [(2, .int (0 : Int32)), (0, .ref q), (1, .int p1)]) hx hb dX1_sink_1 rfl hl (by decide) rfl (fun ls hl => ?_)
  refine lv_iconst (v := 1) hx hb dX1_sink_2 (by decide) ?_
  refine lv_istore_n (lv' := [(3, .int (1 : Int32)), (2, .int (0 : Int32)), (0, .ref q), (1, .int p1)]) hx hb dX1_sink_3 rfl hl (by decide) rfl (fun ls hl => ?_)
  refine hL4 p1 _ (fun y2_16 y3_16 u16_row H locs ls hf hP hD hS hl => ?_) n (0 : Int32) (1 : Int32) v_row _ _ _ hf hP hD hS (lv_sub hl [2, 3, 1, 0] rfl)
  have hP : va_P G vwCl [(q, .inr (1, [.ref q_row, .int v_size, .int v_wanted])), (q_row, .inl (cJ, 2001, .inr (.inl u16_row)))] H := hP
  have hD : va_D A [(q, .inr (1, [.ref q_row, .int v_size, .int v_wanted])), (q_row, .inl (cJ, 2001, .inr (.inl u16_row)))] := hD
  cases hf
  rw [← hQ]
  exact rt_v hx hb hr hlk hP hD hS dX1_sink_71
def pX1_offer (n : Nat) (v_size : Int32) (v_wanted : Int32) (v_row : (Nat → Int64)) (p1 : Int64) : Option (Int32 × (Nat → Int64)) := if v_wanted ≤ v_size then if (v_row (0 : Int32).toNatClampNeg) ≤ p1 then some (v_size, v_row) else Option.bind (pX1_sink n (vp_updL v_row (0 : Int32).toNatClampNeg p1) v_size) (fun r3 => some (v_size, r3)) else ck (ix v_size 2001) (Option.bind (pX1_rise n (vp_updL v_row v_size.toNatClampNeg p1) ((v_size + (1 : Int32)) - (1 : Int32))) (fun r5 => some (v_size + (1 : Int32), r5)))
def rmX1_offer : Room := { frames := 2, cells := 0, slots := 0, locals := 47 }
theorem hiX1_offer_X1 : ∀ w ∈ u_ws RX1 TX1 3, w ∈ wsX1_offer := fun _ h => List.mem_cons_of_mem _ (List.mem_append_right _ h)
set_option maxRecDepth 100000 in
set_option maxHeartbeats 4000000 in
theorem kX1_offer {l : Launch} {G : va_G} {cI cJ cZ cS cG : ClassId} (n : Nat) (q q_row : Nat) (v_size : Int32) (v_wanted : Int32) (v_row : (Nat → Int64)) (p1 : Int64) (R : Int32 × (Nat → Int64)) (hf : pX1_offer n v_size v_wanted v_row p1 = some R) : CTv l yX1_offer wsX1_offer rmX1_offer G cI cJ cZ cS cG [.ref q, .long p1] [(q, .inr (1, [.ref q_row, .int v_size, .int v_wanted])), (q_row, .inl (cJ, 2001, .inr (.inl v_row)))] [(q, .inr (1, [.ref q_row, .int R.1, .int v_wanted])), (q_row, .inl (cJ, 2001, .inr (.inl R.2)))] := by
  refine Met.ofE (Qc := fun A => QRv G A [(q, .inr (1, [.ref q_row, .int R.1, .int v_wanted])), (q_row, .inl (cJ, 2001, .inr (.inl R.2)))]) (cc := cX1_offer) (nL := 3) (ret := none) (plainFor_of_name (by decide +kernel)) rfl (Nat.le_of_ble_eq_true rfl) ?_
  intro p e s m below meth c A ls hx hb hml hr hlk hts hown hK hA hP hD hS hl
  have hown : s.vm.findClass RX1 = some m.cls := hown
  have hl : lv_has ls 3 [(0, .ref q), (1, .long p1)] := hl
  generalize hQ : MQ below (QRv G A [(q, .inr (1, [.ref q_row, .int R.1, .int v_wanted])), (q_row, .inl (cJ, 2001, .inr (.inl R.2)))]) ([.ref q, .long p1] : List Value).toArray s 0 0 A = QQ
  unfold pX1_offer at hf
  refine lv_aload_n hx hb dX1_offer_0 rfl (lv_at hl 0 rfl) ?_
  refine va_get (D := G) (ci := 1) (v := .int v_size) (C := RX1) (T := TX1) (N := 3) hx hb hts hiX1_offer_X1 hown hK.1 hP 0 rfl rfl 1 (by decide) (hts (.fieldLink RX1 15 "PackedBends$Leasts" "size" "I") (List.mem_of_getElem? (i := 1) rfl)) (fun _ h9 => h9) rfl dX1_offer_1 ?_
  refine lv_aload_n hx hb dX1_offer_4 rfl (lv_at hl 0 rfl) ?_
  refine va_get (D := G) (ci := 1) (v := .int v_wanted) (C := RX1) (T := TX1) (N := 3) hx hb hts hiX1_offer_X1 hown hK.1 hP 0 rfl rfl 2 (by decide) (hts (.fieldLink RX1 30 "PackedBends$Leasts" "wanted" "I") (List.mem_of_getElem? (i := 2) rfl)) (fun _ h9 => h9) rfl dX1_offer_5 ?_
  refine lv_icmp_ge (tgt := 44) hx hb dX1_offer_8 (by decide) (fun c1 => ?_) (fun c1 => ?_)
  · have hf := if_s hf c1
    refine lv_lload_n hx hb dX1_offer_44 rfl (lv_at hl 1 rfl) ?_
    refine lv_aload_n hx hb dX1_offer_45 rfl (lv_at hl 0 rfl) ?_
    refine va_get (D := G) (ci := 1) (v := .ref q_row) (C := RX1) (T := TX1) (N := 3) hx hb hts hiX1_offer_X1 hown hK.1 hP 0 rfl rfl 0 (by decide) (hts (.fieldLink RX1 9 "PackedBends$Leasts" "row" "[J") (List.mem_of_getElem? (i := 3) rfl)) (fun _ h9 => h9) rfl dX1_offer_46 ?_
    refine lv_iconst (v := 0) hx hb dX1_offer_49 (by decide) ?_
    refine va_lald hx hb hK.1 hP 1 1 rfl rfl (vp_in_iff.mpr (by decide)) dX1_offer_50 ?_
    refine lc_ge (tgt := 70) hx hb dX1_offer_51 dX1_offer_52 (by decide) (fun c2 => ?_) (fun c2 => ?_)
    · have hf := if_s hf c2
      cases hf
      rw [← hQ]
      exact rt_v hx hb hr hlk hP hD hS dX1_offer_70
    · have hf := if_n hf c2
      refine lv_aload_n hx hb dX1_offer_55 rfl (lv_at hl 0 rfl) ?_
      refine va_get (D := G) (ci := 1) (v := .ref q_row) (C := RX1) (T := TX1) (N := 3) hx hb hts hiX1_offer_X1 hown hK.1 hP 0 rfl rfl 0 (by decide) (hts (.fieldLink RX1 9 "PackedBends$Leasts" "row" "[J") (List.mem_of_getElem? (i := 3) rfl)) (fun _ h9 => h9) rfl dX1_offer_56 ?_
      refine lv_iconst (v := 0) hx hb dX1_offer_59 (by decide) ?_
      refine lv_lload_n hx hb dX1_offer_60 rfl (lv_at hl 1 rfl) ?_
      refine va_last hx hb hK.1 hP hD hS 1 1 rfl rfl (vp_in_iff.mpr (by decide)) dX1_offer_61 (fun H locs hP hD hS => ?_)
      have hP : va_P G vwCl [(q, .inr (1, [.ref q_row, .int v_size, .int v_wanted])), (q_row, .inl (cJ, 2001, .inr (.inl (vp_updL v_row (0 : Int32).toNatClampNeg p1))))] H := hP
      have hD : va_D A [(q, .inr (1, [.ref q_row, .int v_size, .int v_wanted])), (q_row, .inl (cJ, 2001, .inr (.inl (vp_updL v_row (0 : Int32).toNatClampNeg p1))))] := hD
      refine lv_aload_n hx hb dX1_offer_62 rfl (lv_at hl 0 rfl) ?_
      refine lv_aload_n hx hb dX1_offer_63 rfl (lv_at hl 0 rfl) ?_
      refine va_get (D := G) (ci := 1) (v := .int v_size) (C := RX1) (T := TX1) (N := 3) hx hb hts hiX1_offer_X1 hown hK.1 hP 0 rfl rfl 1 (by decide) (hts (.fieldLink RX1 15 "PackedBends$Leasts" "size" "I") (List.mem_of_getElem? (i := 1) rfl)) (fun _ h9 => h9) rfl dX1_offer_64 ?_
      obtain ⟨r3, hc3, hf⟩ := ob_s hf
      refine bk_v (wc := [(q, .inr (1, [.ref q_row, .int v_size, .int v_wanted])), (q_row, .inl (cJ, 2001, .inr (.inl (vp_updL v_row (0 : Int32).toNatClampNeg p1))))]) (wc2 := [(q, .inr (1, [.ref q_row, .int v_size, .int v_wanted])), (q_row, .inl (cJ, 2001, .inr (.inl r3)))]) (wr := []) (ws2 := [(q, .inr (1, [.ref q_row, .int v_size, .int v_wanted])), (q_row, .inl (cJ, 2001, .inr (.inl r3)))]) (va_runV (As := [.int v_size]) (rest := []) ⟨hx, hb, hml, hown, hts⟩ (kX1_sink (l := l) (G := G) (cI := cI) (cJ := cJ) (cZ := cZ) (cS := cS) (cG := cG) n q q_row v_size v_wanted (vp_updL v_row (0 : Int32).toNatClampNeg p1) v_size _ hc3 _) (cwV 1 hts gX1_offer_X1_sink rfl rfl rfl (by decide +kernel) ⟨Nat.le_of_ble_eq_true rfl, Nat.le_of_ble_eq_true rfl⟩) (cut_V hK hP hD [0, 1] rfl rfl (ci := 1) (q0 := 0) rfl rfl) rfl rfl hl.1 rfl (lv_room (Nat.le_of_ble_eq_true rfl)) dX1_offer_67 ⟨Nat.zero_le _, Nat.zero_le _⟩) hP hD hS hA [0, 1] [] [0, 1] rfl rfl rfl rfl rfl rfl (fun H locs hP hD hS => ?_)
      cases hf
      rw [← hQ]
      exact rt_v hx hb hr hlk hP hD hS dX1_offer_70
  · have hf := if_n hf c1
    refine lv_aload_n hx hb dX1_offer_11 rfl (lv_at hl 0 rfl) ?_
    refine va_get (D := G) (ci := 1) (v := .ref q_row) (C := RX1) (T := TX1) (N := 3) hx hb hts hiX1_offer_X1 hown hK.1 hP 0 rfl rfl 0 (by decide) (hts (.fieldLink RX1 9 "PackedBends$Leasts" "row" "[J") (List.mem_of_getElem? (i := 3) rfl)) (fun _ h9 => h9) rfl dX1_offer_12 ?_
    refine lv_aload_n hx hb dX1_offer_15 rfl (lv_at hl 0 rfl) ?_
    refine va_get (D := G) (ci := 1) (v := .int v_size) (C := RX1) (T := TX1) (N := 3) hx hb hts hiX1_offer_X1 hown hK.1 hP 0 rfl rfl 1 (by decide) (hts (.fieldLink RX1 15 "PackedBends$Leasts" "size" "I") (List.mem_of_getElem? (i := 1) rfl)) (fun _ h9 => h9) rfl dX1_offer_16 ?_
    refine lv_lload_n hx hb dX1_offer_19 rfl (lv_at hl 1 rfl) ?_
    obtain ⟨z4, hf⟩ := ck_s hf
    refine va_last hx hb hK.1 hP hD hS 1 1 rfl rfl (vp_in_iff.mpr z4) dX1_offer_20 (fun H locs hP hD hS => ?_)
    have hP : va_P G vwCl [(q, .inr (1, [.ref q_row, .int v_size, .int v_wanted])), (q_row, .inl (cJ, 2001, .inr (.inl (vp_updL v_row v_size.toNatClampNeg p1))))] H := hP
    have hD : va_D A [(q, .inr (1, [.ref q_row, .int v_size, .int v_wanted])), (q_row, .inl (cJ, 2001, .inr (.inl (vp_updL v_row v_size.toNatClampNeg p1))))] := hD
    refine lv_aload_n hx hb dX1_offer_21 rfl (lv_at hl 0 rfl) ?_
    refine lv_dup hx hb dX1_offer_22 rfl ?_
    refine va_get (D := G) (ci := 1) (v := .int v_size) (C := RX1) (T := TX1) (N := 3) hx hb hts hiX1_offer_X1 hown hK.1 hP 0 rfl rfl 1 (by decide) (hts (.fieldLink RX1 15 "PackedBends$Leasts" "size" "I") (List.mem_of_getElem? (i := 1) rfl)) (fun _ h9 => h9) rfl dX1_offer_23 ?_
    refine lv_iconst (v := 1) hx hb dX1_offer_26 (by decide) ?_
    refine lv_iadd hx hb dX1_offer_27 ?_
    refine va_put (D := G) (ci := 1) (v := .int (v_size + (1 : Int32))) (ty := .int) (C := RX1) (T := TX1) (N := 3) hx hb hts hiX1_offer_X1 tyX1 tyX1_ok nmX1 hown hK.1 hP hD hS 0 rfl rfl 1 (by decide) (hts (.fieldLink RX1 15 "PackedBends$Leasts" "size" "I") (List.mem_of_getElem? (i := 1) rfl)) (fun _ h9 => h9) rfl (by decide +kernel) rfl rfl (Nat.le_of_ble_eq_true rfl) dX1_offer_28 (fun H locs hP hD hS => ?_)
    have hP : va_P G vwCl [(q, .inr (1, [.ref q_row, .int (v_size + (1 : Int32)), .int v_wanted])), (q_row, .inl (cJ, 2001, .inr (.inl (vp_updL v_row v_size.toNatClampNeg p1))))] H := hP
    have hD : va_D A [(q, .inr (1, [.ref q_row, .int (v_size + (1 : Int32)), .int v_wanted])), (q_row, .inl (cJ, 2001, .inr (.inl (vp_updL v_row v_size.toNatClampNeg p1))))] := hD
    refine lv_aload_n hx hb dX1_offer_31 rfl (lv_at hl 0 rfl) ?_
    refine lv_aload_n hx hb dX1_offer_32 rfl (lv_at hl 0 rfl) ?_
    refine va_get (D := G) (ci := 1) (v := .int (v_size + (1 : Int32))) (C := RX1) (T := TX1) (N := 3) hx hb hts hiX1_offer_X1 hown hK.1 hP 0 rfl rfl 1 (by decide) (hts (.fieldLink RX1 15 "PackedBends$Leasts" "size" "I") (List.mem_of_getElem? (i := 1) rfl)) (fun _ h9 => h9) rfl dX1_offer_33 ?_
    refine lv_iconst (v := 1) hx hb dX1_offer_36 (by decide) ?_
    refine lv_isub hx hb dX1_offer_37 ?_
    obtain ⟨r5, hc5, hf⟩ := ob_s hf
    refine bk_v (wc := [(q, .inr (1, [.ref q_row, .int (v_size + (1 : Int32)), .int v_wanted])), (q_row, .inl (cJ, 2001, .inr (.inl (vp_updL v_row v_size.toNatClampNeg p1))))]) (wc2 := [(q, .inr (1, [.ref q_row, .int (v_size + (1 : Int32)), .int v_wanted])), (q_row, .inl (cJ, 2001, .inr (.inl r5)))]) (wr := []) (ws2 := [(q, .inr (1, [.ref q_row, .int (v_size + (1 : Int32)), .int v_wanted])), (q_row, .inl (cJ, 2001, .inr (.inl r5)))]) (va_runV (As := [.int ((v_size + (1 : Int32)) - (1 : Int32))]) (rest := []) ⟨hx, hb, hml, hown, hts⟩ (kX1_rise (l := l) (G := G) (cI := cI) (cJ := cJ) (cZ := cZ) (cS := cS) (cG := cG) n q q_row (v_size + (1 : Int32)) v_wanted (vp_updL v_row v_size.toNatClampNeg p1) ((v_size + (1 : Int32)) - (1 : Int32)) _ hc5 _) (cwV 1 hts gX1_offer_X1_rise rfl rfl rfl (by decide +kernel) ⟨Nat.le_of_ble_eq_true rfl, Nat.le_of_ble_eq_true rfl⟩) (cut_V hK hP hD [0, 1] rfl rfl (ci := 1) (q0 := 0) rfl rfl) rfl rfl hl.1 rfl (lv_room (Nat.le_of_ble_eq_true rfl)) dX1_offer_38 ⟨Nat.zero_le _, Nat.zero_le _⟩) hP hD hS hA [0, 1] [] [0, 1] rfl rfl rfl rfl rfl rfl (fun H locs hP hD hS => ?_)
    refine lv_goto (tgt := 70) hx hb dX1_offer_41 (by decide) ?_
    cases hf
    rw [← hQ]
    exact rt_v hx hb hr hlk hP hD hS dX1_offer_70
def pX1_usefulLimit (v_size : Int32) (v_wanted : Int32) (v_row : (Nat → Int64)) (p1 : Int64) : Option (Int64) := if v_wanted ≤ v_size then some (if ((v_row (0 : Int32).toNatClampNeg) - (1 : Int64)) < p1 then ((v_row (0 : Int32).toNatClampNeg) - (1 : Int64)) else p1) else some p1
def rmX1_usefulLimit : Room := { frames := 1, cells := 0, slots := 0, locals := 23 }
theorem hiX1_usefulLimit_X1 : ∀ w ∈ u_ws RX1 TX1 3, w ∈ wsX1_usefulLimit := fun _ h => List.mem_cons_of_mem _ (List.mem_append_right _ h)
set_option maxRecDepth 100000 in
set_option maxHeartbeats 4000000 in
theorem kX1_usefulLimit {l : Launch} {G : va_G} {cI cJ cZ cS cG : ClassId} (q q_row : Nat) (v_size : Int32) (v_wanted : Int32) (v_row : (Nat → Int64)) (p1 : Int64) (R : Int64) (hf : pX1_usefulLimit v_size v_wanted v_row p1 = some R) : CTl l yX1_usefulLimit wsX1_usefulLimit rmX1_usefulLimit G cI cJ cZ cS cG [.ref q, .long p1] [(q, .inr (1, [.ref q_row, .int v_size, .int v_wanted])), (q_row, .inl (cJ, 2001, .inr (.inl v_row)))] [(q, .inr (1, [.ref q_row, .int v_size, .int v_wanted])), (q_row, .inl (cJ, 2001, .inr (.inl v_row)))] R := by
  refine Met.ofE (Qc := fun A => QRl G A [(q, .inr (1, [.ref q_row, .int v_size, .int v_wanted])), (q_row, .inl (cJ, 2001, .inr (.inl v_row)))] R) (cc := cX1_usefulLimit) (nL := 3) (ret := some .long) (plainFor_of_name (by decide +kernel)) rfl (Nat.le_of_ble_eq_true rfl) ?_
  intro p e s m below meth c A ls hx hb hml hr hlk hts hown hK hA hP hD hS hl
  have hown : s.vm.findClass RX1 = some m.cls := hown
  have hl : lv_has ls 3 [(0, .ref q), (1, .long p1)] := hl
  generalize hQ : MQ below (QRl G A [(q, .inr (1, [.ref q_row, .int v_size, .int v_wanted])), (q_row, .inl (cJ, 2001, .inr (.inl v_row)))] R) ([.ref q, .long p1] : List Value).toArray s 0 0 A = QQ
  unfold pX1_usefulLimit at hf
  refine lv_aload_n hx hb dX1_usefulLimit_0 rfl (lv_at hl 0 rfl) ?_
  refine va_get (D := G) (ci := 1) (v := .int v_size) (C := RX1) (T := TX1) (N := 3) hx hb hts hiX1_usefulLimit_X1 hown hK.1 hP 0 rfl rfl 1 (by decide) (hts (.fieldLink RX1 15 "PackedBends$Leasts" "size" "I") (List.mem_of_getElem? (i := 1) rfl)) (fun _ h9 => h9) rfl dX1_usefulLimit_1 ?_
  refine lv_aload_n hx hb dX1_usefulLimit_4 rfl (lv_at hl 0 rfl) ?_
  refine va_get (D := G) (ci := 1) (v := .int v_wanted) (C := RX1) (T := TX1) (N := 3) hx hb hts hiX1_usefulLimit_X1 hown hK.1 hP 0 rfl rfl 2 (by decide) (hts (.fieldLink RX1 30 "PackedBends$Leasts" "wanted" "I") (List.mem_of_getElem? (i := 2) rfl)) (fun _ h9 => h9) rfl dX1_usefulLimit_5 ?_
  refine lv_icmp_ge (tgt := 15) hx hb dX1_usefulLimit_8 (by decide) (fun c1 => ?_) (fun c1 => ?_)
  · have hf := if_s hf c1
    refine lv_lload_n hx hb dX1_usefulLimit_15 rfl (lv_at hl 1 rfl) ?_
    refine lv_aload_n hx hb dX1_usefulLimit_16 rfl (lv_at hl 0 rfl) ?_
    refine va_get (D := G) (ci := 1) (v := .ref q_row) (C := RX1) (T := TX1) (N := 3) hx hb hts hiX1_usefulLimit_X1 hown hK.1 hP 0 rfl rfl 0 (by decide) (hts (.fieldLink RX1 9 "PackedBends$Leasts" "row" "[J") (List.mem_of_getElem? (i := 3) rfl)) (fun _ h9 => h9) rfl dX1_usefulLimit_17 ?_
    refine lv_iconst (v := 0) hx hb dX1_usefulLimit_20 (by decide) ?_
    refine va_lald hx hb hK.1 hP 1 1 rfl rfl (vp_in_iff.mpr (by decide)) dX1_usefulLimit_21 ?_
    refine lv_lconst (v := 1) hx hb dX1_usefulLimit_22 (by decide) ?_
    refine lv_lsub hx hb dX1_usefulLimit_23 ?_
    refine va_mmin_long hx hb (hml.trans hl.1.symm) hown (hts (.methodLink RX1 65 Lib.MathLoose.min_long.x) (List.mem_of_getElem? (i := 4) rfl)) (hts (.static Lib.MathLoose.min_long.x) (List.mem_of_getElem? (i := 5) rfl)) (hts (.initialized "java/lang/Math") (List.mem_of_getElem? (i := 6) rfl)) (hts (.code Lib.MathLoose.min_long.x Lib.MathLoose.min_long.code 4 (some .long)) (List.mem_of_getElem? (i := 7) rfl)) (Nat.le_of_ble_eq_true rfl) (Nat.le_of_ble_eq_true rfl) (Nat.zero_le _) (Nat.zero_le _) dX1_usefulLimit_24 ?_
    cases hf
    rw [← hQ]
    exact rt_l hx hb hr hlk hP hD hS rfl dX1_usefulLimit_27
  · have hf := if_n hf c1
    refine lv_lload_n hx hb dX1_usefulLimit_11 rfl (lv_at hl 1 rfl) ?_
    refine lv_goto (tgt := 27) hx hb dX1_usefulLimit_12 (by decide) ?_
    cases hf
    rw [← hQ]
    exact rt_l hx hb hr hlk hP hD hS rfl dX1_usefulLimit_27
def pX1_gather_L8 (v_wanted : Int32) (v_a3 : (Nat → Int64)) : Nat → Int32 → Int32 → (Nat → Int64) → (Int32 → Int32 → (Nat → Int64) → Option (Int32 × (Nat → Int64) × Int32 × (Nat → Int32) × (Nat → Int64))) → Option (Int32 × (Nat → Int64) × Int32 × (Nat → Int32) × (Nat → Int64))
  | 0, _, _, _, _ => none
  | n + 1, x5, v_size, v_row, k => if (4 : Int32) ≤ x5 then k x5 v_size v_row else ck (ix x5 4) (Option.bind (pX1_offer n v_size v_wanted v_row (v_a3 x5.toNatClampNeg)) (fun r3 => pX1_gather_L8 v_wanted v_a3 n (x5 + (1 : Int32)) r3.1 r3.2 k))
def pX1_gather_L37 (x1 : Int64) (v_wanted : Int32) : Nat → Int32 → Int32 → (Nat → Int64) → Int32 → (Nat → Int32) → (Nat → Int64) → (Int32 → Int32 → (Nat → Int64) → Int32 → (Nat → Int32) → (Nat → Int64) → Option (Int32 × (Nat → Int64) × Int32 × (Nat → Int32) × (Nat → Int64))) → Option (Int32 × (Nat → Int64) × Int32 × (Nat → Int32) × (Nat → Int64))
  | 0, _, _, _, _, _, _, _ => none
  | n + 1, x5, v_size, v_row, v_a4_depth, v_a4_row, v_a4_four, k => if (1000000 : Int32) ≤ x5 then k x5 v_size v_row v_a4_depth v_a4_row v_a4_four else Option.bind (pX1_usefulLimit v_size v_wanted v_row x1) (fun r7 => Option.bind (pX7_advance n v_a4_depth v_a4_row v_a4_four r7) (fun r8 => if r8.1 = 0 then k x5 v_size v_row r8.2.1 r8.2.2.1 r8.2.2.2 else Option.bind (pX7_found r8.2.1 r8.2.2.1 r8.2.2.2) (fun r10 => Option.bind (pX1_offer n v_size v_wanted v_row r10) (fun r11 => pX1_gather_L37 x1 v_wanted n (x5 + (1 : Int32)) r11.1 r11.2 r8.2.1 r8.2.2.1 r8.2.2.2 k))))
def pX1_gather (n : Nat) (v_wanted : Int32) (v_row : (Nat → Int64)) (v_a3 : (Nat → Int64)) (v_a4_row : (Nat → Int32)) (v_a4_four : (Nat → Int64)) (p1 : Int64) : Option (Int32 × (Nat → Int64) × Int32 × (Nat → Int32) × (Nat → Int64)) := pX1_gather_L8 v_wanted v_a3 n (0 : Int32) (0 : Int32) v_row (fun (y5_4 : Int32) (u4_size : Int32) (u4_row : (Nat → Int64)) => Option.bind (pX7_start n v_a4_four v_a3) (fun r5 => pX1_gather_L37 p1 v_wanted n (0 : Int32) u4_size u4_row r5.1 v_a4_row r5.2 (fun (y5_12 : Int32) (u12_size : Int32) (u12_row : (Nat → Int64)) (u12_a4_depth : Int32) (u12_a4_row : (Nat → Int32)) (u12_a4_four : (Nat → Int64)) => some (u12_size, u12_row, u12_a4_depth, u12_a4_row, u12_a4_four))))
def rmX1_gather : Room := { frames := 3, cells := 0, slots := 0, locals := 70 }
theorem hiX1_gather_X1 : ∀ w ∈ u_ws RX1 TX1 3, w ∈ wsX1_gather := fun _ h => List.mem_cons_of_mem _ (List.mem_append_left _ (List.mem_append_right _ h))
set_option maxRecDepth 100000 in
set_option maxHeartbeats 4000000 in
theorem kX1_gather {l : Launch} {G : va_G} {cI cJ cZ cS cG : ClassId} (n : Nat) (q q_row q_a3 q_a4 q_a4_row q_a4_four : Nat) (v_size : Int32) (v_wanted : Int32) (v_row : (Nat → Int64)) (v_a3 : (Nat → Int64)) (v_a4_depth : Int32) (v_a4_row : (Nat → Int32)) (v_a4_four : (Nat → Int64)) (p1 : Int64) (R : Int32 × (Nat → Int64) × Int32 × (Nat → Int32) × (Nat → Int64)) (hf : pX1_gather n v_wanted v_row v_a3 v_a4_row v_a4_four p1 = some R) : CTv l yX1_gather wsX1_gather rmX1_gather G cI cJ cZ cS cG [.ref q, .long p1, .ref q_a3, .ref q_a4] [(q, .inr (1, [.ref q_row, .int v_size, .int v_wanted])), (q_row, .inl (cJ, 2001, .inr (.inl v_row))), (q_a3, .inl (cJ, 4, .inr (.inl v_a3))), (q_a4, .inr (7, [.ref q_a4_row, .ref q_a4_four, .int v_a4_depth])), (q_a4_row, .inl (cI, 2001, .inl v_a4_row)), (q_a4_four, .inl (cJ, 4, .inr (.inl v_a4_four)))] [(q, .inr (1, [.ref q_row, .int R.1, .int v_wanted])), (q_row, .inl (cJ, 2001, .inr (.inl R.2.1))), (q_a3, .inl (cJ, 4, .inr (.inl v_a3))), (q_a4, .inr (7, [.ref q_a4_row, .ref q_a4_four, .int R.2.2.1])), (q_a4_row, .inl (cI, 2001, .inl R.2.2.2.1)), (q_a4_four, .inl (cJ, 4, .inr (.inl R.2.2.2.2)))] := by
  refine Met.ofE (Qc := fun A => QRv G A [(q, .inr (1, [.ref q_row, .int R.1, .int v_wanted])), (q_row, .inl (cJ, 2001, .inr (.inl R.2.1))), (q_a3, .inl (cJ, 4, .inr (.inl v_a3))), (q_a4, .inr (7, [.ref q_a4_row, .ref q_a4_four, .int R.2.2.1])), (q_a4_row, .inl (cI, 2001, .inl R.2.2.2.1)), (q_a4_four, .inl (cJ, 4, .inr (.inl R.2.2.2.2)))]) (cc := cX1_gather) (nL := 6) (ret := none) (plainFor_of_name (by decide +kernel)) rfl (Nat.le_of_ble_eq_true rfl) ?_
  intro p e s m below meth c A ls hx hb hml hr hlk hts hown hK hA hP hD hS hl
  have hown : s.vm.findClass RX1 = some m.cls := hown
  have hl : lv_has ls 6 [(0, .ref q), (1, .long p1), (3, .ref q_a3), (4, .ref q_a4)] := hl
  generalize hQ : MQ below (QRv G A [(q, .inr (1, [.ref q_row, .int R.1, .int v_wanted])), (q_row, .inl (cJ, 2001, .inr (.inl R.2.1))), (q_a3, .inl (cJ, 4, .inr (.inl v_a3))), (q_a4, .inr (7, [.ref q_a4_row, .ref q_a4_four, .int R.2.2.1])), (q_a4_row, .inl (cI, 2001, .inl R.2.2.2.1)), (q_a4_four, .inl (cJ, 4, .inr (.inl R.2.2.2.2)))]) ([.ref q, .long p1, .ref q_a3, .ref q_a4] : List Value).toArray s 0 0 A = QQ
  unfold pX1_gather at hf
  have hL8 : ∀ (x1 : Int64) (v_a4_depth : Int32) (v_a4_row : (Nat → Int32)) (v_a4_four : (Nat → Int64)) (k : Int32 → Int32 → (Nat → Int64) → Option (Int32 × (Nat → Int64) × Int32 × (Nat → Int32) × (Nat → Int64))), (∀ (x5 : Int32) (v_size : Int32) (v_row : (Nat → Int64)) (H : Heap) (locs : List Loc) (ls : Array Slot), k x5 v_size v_row = some R → va_P G vwCl [(q, .inr (1, [.ref q_row, .int v_size, .int v_wanted])), (q_row, .inl (cJ, 2001, .inr (.inl v_row))), (q_a3, .inl (cJ, 4, .inr (.inl v_a3))), (q_a4, .inr (7, [.ref q_a4_row, .ref q_a4_four, .int v_a4_depth])), (q_a4_row, .inl (cI, 2001, .inl v_a4_row)), (q_a4_four, .inl (cJ, 4, .inr (.inl v_a4_four)))] H → va_D A [(q, .inr (1, [.ref q_row, .int v_size, .int v_wanted])), (q_row, .inl (cJ, 2001, .inr (.inl v_row))), (q_a3, .inl (cJ, 4, .inr (.inl v_a3))), (q_a4, .inr (7, [.ref q_a4_row, .ref q_a4_four, .int v_a4_depth])), (q_a4_row, .inl (cI, 2001, .inl v_a4_row)), (q_a4_four, .inl (cJ, 4, .inr (.inl v_a4_four)))] → va_S A s.heap H locs → lv_has ls 6 [(0, .ref q), (1, .long x1), (3, .ref q_a3), (4, .ref q_a4), (5, .int x5)] → W p l e rmX1_gather s m ([.ref q, .long p1, .ref q_a3, .ref q_a4] : List Value).toArray below meth c H locs 0 0 QQ (F0 m 28 ls [])) → ∀ (n : Nat) (x5 : Int32) (v_size : Int32) (v_row : (Nat → Int64)) (H : Heap) (locs : List Loc) (ls : Array Slot), pX1_gather_L8 v_wanted v_a3 n x5 v_size v_row k = some R → va_P G vwCl [(q, .inr (1, [.ref q_row, .int v_size, .int v_wanted])), (q_row, .inl (cJ, 2001, .inr (.inl v_row))), (q_a3, .inl (cJ, 4, .inr (.inl v_a3))), (q_a4, .inr (7, [.ref q_a4_row, .ref q_a4_four, .int v_a4_depth])), (q_a4_row, .inl (cI, 2001, .inl v_a4_row)), (q_a4_four, .inl (cJ, 4, .inr (.inl v_a4_four)))] H → va_D A [(q, .inr (1, [.ref q_row, .int v_size, .int v_wanted])), (q_row, .inl (cJ, 2001, .inr (.inl v_row))), (q_a3, .inl (cJ, 4, .inr (.inl v_a3))), (q_a4, .inr (7, [.ref q_a4_row, .ref q_a4_four, .int v_a4_depth])), (q_a4_row, .inl (cI, 2001, .inl v_a4_row)), (q_a4_four, .inl (cJ, 4, .inr (.inl v_a4_four)))] → va_S A s.heap H locs → lv_has ls 6 [(0, .ref q), (1, .long x1), (3, .ref q_a3), (4, .ref q_a4), (5, .int x5)] → W p l e rmX1_gather s m ([.ref q, .long p1, .ref q_a3, .ref q_a4] : List Value).toArray below meth c H locs 0 0 QQ (F0 m 8 ls []) := by
    intro x1 v_a4_depth v_a4_row v_a4_four k hk n
    induction n with
    | zero =>
      intro x5 v_size v_row H locs ls hf
      cases hf
    | succ n ih =>
      intro x5 v_size v_row H locs ls hf hP hD hS hl
      unfold pX1_gather_L8 at hf
      refine lv_iload hx hb dX1_gather_8 (lv_at hl 4 rfl) ?_
      refine lv_iconst (v := 4) hx hb dX1_gather_10 (by decide) ?_
      refine lv_icmp_ge (tgt := 28) hx hb dX1_gather_11 (by decide) (fun c1 => ?_) (fun c1 => ?_)
      · have hf := if_s hf c1
        exact hk x5 v_size v_row _ _ _ hf hP hD hS (lv_sub hl [0, 1, 2, 3, 4] rfl)
      · have hf := if_n hf c1
        refine lv_aload_n hx hb dX1_gather_14 rfl (lv_at hl 0 rfl) ?_
        refine lv_aload_n hx hb dX1_gather_15 rfl (lv_at hl 2 rfl) ?_
        refine lv_iload hx hb dX1_gather_16 (lv_at hl 4 rfl) ?_
        obtain ⟨z2, hf⟩ := ck_s hf
        refine va_lald hx hb hK.1 hP 2 1 rfl rfl (vp_in_iff.mpr z2) dX1_gather_18 ?_
        obtain ⟨r3, hc3, hf⟩ := ob_s hf
        refine bk_v (wc := [(q, .inr (1, [.ref q_row, .int v_size, .int v_wanted])), (q_row, .inl (cJ, 2001, .inr (.inl v_row)))]) (wc2 := [(q, .inr (1, [.ref q_row, .int r3.1, .int v_wanted])), (q_row, .inl (cJ, 2001, .inr (.inl r3.2)))]) (wr := [(q_a3, .inl (cJ, 4, .inr (.inl v_a3))), (q_a4, .inr (7, [.ref q_a4_row, .ref q_a4_four, .int v_a4_depth])), (q_a4_row, .inl (cI, 2001, .inl v_a4_row)), (q_a4_four, .inl (cJ, 4, .inr (.inl v_a4_four)))]) (ws2 := [(q, .inr (1, [.ref q_row, .int r3.1, .int v_wanted])), (q_row, .inl (cJ, 2001, .inr (.inl r3.2))), (q_a3, .inl (cJ, 4, .inr (.inl v_a3))), (q_a4, .inr (7, [.ref q_a4_row, .ref q_a4_four, .int v_a4_depth])), (q_a4_row, .inl (cI, 2001, .inl v_a4_row)), (q_a4_four, .inl (cJ, 4, .inr (.inl v_a4_four)))]) (va_runV (As := [.long (v_a3 x5.toNatClampNeg)]) (rest := []) ⟨hx, hb, hml, hown, hts⟩ (kX1_offer (l := l) (G := G) (cI := cI) (cJ := cJ) (cZ := cZ) (cS := cS) (cG := cG) n q q_row v_size v_wanted v_row (v_a3 x5.toNatClampNeg) _ hc3 _) (cwV 1 hts gX1_gather_X1_offer rfl rfl rfl (by decide +kernel) ⟨Nat.le_of_ble_eq_true rfl, Nat.le_of_ble_eq_true rfl⟩) (cut_V hK hP hD [0, 1] rfl rfl (ci := 1) (q0 := 0) rfl rfl) rfl rfl hl.1 rfl (lv_room (Nat.le_of_ble_eq_true rfl)) dX1_gather_19 ⟨Nat.zero_le _, Nat.zero_le _⟩) hP hD hS hA [0, 1] [2, 3, 4, 5] [4, 5, 0, 1, 2, 3] rfl rfl rfl rfl rfl rfl (fun H locs hP hD hS => ?_)
        refine lv_iinc (v := x5 + (1 : Int32)) (lv' := [(5, .int (x5 + (1 : Int32))), (0, .ref q), (1, .long x1), (3, .ref q_a3), (4, .ref q_a4)]) hx hb dX1_gather_22 hl (k := 4) rfl rfl (by decide) rfl (fun ls hl => ?_)
        refine lv_goto (tgt := 8) hx hb dX1_gather_25 (by decide) ?_
        exact ih (x5 + (1 : Int32)) r3.1 r3.2 _ _ _ hf hP hD hS (lv_sub hl [1, 2, 3, 4, 0] rfl)
  have hL37 : ∀ (x1 : Int64) (k : Int32 → Int32 → (Nat → Int64) → Int32 → (Nat → Int32) → (Nat → Int64) → Option (Int32 × (Nat → Int64) × Int32 × (Nat → Int32) × (Nat → Int64))), (∀ (x5 : Int32) (v_size : Int32) (v_row : (Nat → Int64)) (v_a4_depth : Int32) (v_a4_row : (Nat → Int32)) (v_a4_four : (Nat → Int64)) (H : Heap) (locs : List Loc) (ls : Array Slot), k x5 v_size v_row v_a4_depth v_a4_row v_a4_four = some R → va_P G vwCl [(q, .inr (1, [.ref q_row, .int v_size, .int v_wanted])), (q_row, .inl (cJ, 2001, .inr (.inl v_row))), (q_a3, .inl (cJ, 4, .inr (.inl v_a3))), (q_a4, .inr (7, [.ref q_a4_row, .ref q_a4_four, .int v_a4_depth])), (q_a4_row, .inl (cI, 2001, .inl v_a4_row)), (q_a4_four, .inl (cJ, 4, .inr (.inl v_a4_four)))] H → va_D A [(q, .inr (1, [.ref q_row, .int v_size, .int v_wanted])), (q_row, .inl (cJ, 2001, .inr (.inl v_row))), (q_a3, .inl (cJ, 4, .inr (.inl v_a3))), (q_a4, .inr (7, [.ref q_a4_row, .ref q_a4_four, .int v_a4_depth])), (q_a4_row, .inl (cI, 2001, .inl v_a4_row)), (q_a4_four, .inl (cJ, 4, .inr (.inl v_a4_four)))] → va_S A s.heap H locs → lv_has ls 6 [(0, .ref q), (1, .long x1), (3, .ref q_a3), (4, .ref q_a4), (5, .int x5)] → W p l e rmX1_gather s m ([.ref q, .long p1, .ref q_a3, .ref q_a4] : List Value).toArray below meth c H locs 0 0 QQ (F0 m 72 ls [])) → ∀ (n : Nat) (x5 : Int32) (v_size : Int32) (v_row : (Nat → Int64)) (v_a4_depth : Int32) (v_a4_row : (Nat → Int32)) (v_a4_four : (Nat → Int64)) (H : Heap) (locs : List Loc) (ls : Array Slot), pX1_gather_L37 x1 v_wanted n x5 v_size v_row v_a4_depth v_a4_row v_a4_four k = some R → va_P G vwCl [(q, .inr (1, [.ref q_row, .int v_size, .int v_wanted])), (q_row, .inl (cJ, 2001, .inr (.inl v_row))), (q_a3, .inl (cJ, 4, .inr (.inl v_a3))), (q_a4, .inr (7, [.ref q_a4_row, .ref q_a4_four, .int v_a4_depth])), (q_a4_row, .inl (cI, 2001, .inl v_a4_row)), (q_a4_four, .inl (cJ, 4, .inr (.inl v_a4_four)))] H → va_D A [(q, .inr (1, [.ref q_row, .int v_size, .int v_wanted])), (q_row, .inl (cJ, 2001, .inr (.inl v_row))), (q_a3, .inl (cJ, 4, .inr (.inl v_a3))), (q_a4, .inr (7, [.ref q_a4_row, .ref q_a4_four, .int v_a4_depth])), (q_a4_row, .inl (cI, 2001, .inl v_a4_row)), (q_a4_four, .inl (cJ, 4, .inr (.inl v_a4_four)))] → va_S A s.heap H locs → lv_has ls 6 [(0, .ref q), (1, .long x1), (3, .ref q_a3), (4, .ref q_a4), (5, .int x5)] → W p l e rmX1_gather s m ([.ref q, .long p1, .ref q_a3, .ref q_a4] : List Value).toArray below meth c H locs 0 0 QQ (F0 m 37 ls []) := by
    intro x1 k hk n
    induction n with
    | zero =>
      intro x5 v_size v_row v_a4_depth v_a4_row v_a4_four H locs ls hf
      cases hf
    | succ n ih =>
      intro x5 v_size v_row v_a4_depth v_a4_row v_a4_four H locs ls hf hP hD hS hl
      unfold pX1_gather_L37 at hf
      refine lv_iload hx hb dX1_gather_37 (lv_at hl 4 rfl) ?_
      refine lv_ldc (v := 1000000) hx hb hown (hts (.constant RX1 52 (1000000)) (List.mem_of_getElem? (i := 2) rfl)) dX1_gather_39 ?_
      refine lv_icmp_ge (tgt := 72) hx hb dX1_gather_41 (by decide) (fun c6 => ?_) (fun c6 => ?_)
      · have hf := if_s hf c6
        exact hk x5 v_size v_row v_a4_depth v_a4_row v_a4_four _ _ _ hf hP hD hS (lv_sub hl [0, 1, 2, 3, 4] rfl)
      · have hf := if_n hf c6
        refine lv_aload hx hb dX1_gather_44 (lv_at hl 3 rfl) ?_
        refine lv_aload_n hx hb dX1_gather_46 rfl (lv_at hl 0 rfl) ?_
        refine lv_lload_n hx hb dX1_gather_47 rfl (lv_at hl 1 rfl) ?_
        obtain ⟨r7, hc7, hf⟩ := ob_s hf
        refine bk_l (wc := [(q, .inr (1, [.ref q_row, .int v_size, .int v_wanted])), (q_row, .inl (cJ, 2001, .inr (.inl v_row)))]) (wc2 := [(q, .inr (1, [.ref q_row, .int v_size, .int v_wanted])), (q_row, .inl (cJ, 2001, .inr (.inl v_row)))]) (wr := [(q_a3, .inl (cJ, 4, .inr (.inl v_a3))), (q_a4, .inr (7, [.ref q_a4_row, .ref q_a4_four, .int v_a4_depth])), (q_a4_row, .inl (cI, 2001, .inl v_a4_row)), (q_a4_four, .inl (cJ, 4, .inr (.inl v_a4_four)))]) (ws2 := [(q, .inr (1, [.ref q_row, .int v_size, .int v_wanted])), (q_row, .inl (cJ, 2001, .inr (.inl v_row))), (q_a3, .inl (cJ, 4, .inr (.inl v_a3))), (q_a4, .inr (7, [.ref q_a4_row, .ref q_a4_four, .int v_a4_depth])), (q_a4_row, .inl (cI, 2001, .inl v_a4_row)), (q_a4_four, .inl (cJ, 4, .inr (.inl v_a4_four)))]) (r := r7) (va_runV (As := [.long x1]) (rest := [.ref q_a4]) ⟨hx, hb, hml, hown, hts⟩ (kX1_usefulLimit (l := l) (G := G) (cI := cI) (cJ := cJ) (cZ := cZ) (cS := cS) (cG := cG) q q_row v_size v_wanted v_row x1 _ hc7 _) (cwV 1 hts gX1_gather_X1_usefulLimit rfl rfl rfl (by decide +kernel) ⟨Nat.le_of_ble_eq_true rfl, Nat.le_of_ble_eq_true rfl⟩) (cut_V hK hP hD [0, 1] rfl rfl (ci := 1) (q0 := 0) rfl rfl) rfl rfl hl.1 rfl (lv_room (Nat.le_of_ble_eq_true rfl)) dX1_gather_48 ⟨Nat.zero_le _, Nat.zero_le _⟩) hP hD hS hA [0, 1] [2, 3, 4, 5] [4, 5, 0, 1, 2, 3] rfl rfl rfl rfl rfl rfl (fun H locs hP hD hS => ?_)
        obtain ⟨r8, hc8, hf⟩ := ob_s hf
        refine bk_i (wc := [(q_a4, .inr (7, [.ref q_a4_row, .ref q_a4_four, .int v_a4_depth])), (q_a4_row, .inl (cI, 2001, .inl v_a4_row)), (q_a4_four, .inl (cJ, 4, .inr (.inl v_a4_four)))]) (wc2 := [(q_a4, .inr (7, [.ref q_a4_row, .ref q_a4_four, .int r8.2.1])), (q_a4_row, .inl (cI, 2001, .inl r8.2.2.1)), (q_a4_four, .inl (cJ, 4, .inr (.inl r8.2.2.2)))]) (wr := [(q, .inr (1, [.ref q_row, .int v_size, .int v_wanted])), (q_row, .inl (cJ, 2001, .inr (.inl v_row))), (q_a3, .inl (cJ, 4, .inr (.inl v_a3)))]) (ws2 := [(q, .inr (1, [.ref q_row, .int v_size, .int v_wanted])), (q_row, .inl (cJ, 2001, .inr (.inl v_row))), (q_a3, .inl (cJ, 4, .inr (.inl v_a3))), (q_a4, .inr (7, [.ref q_a4_row, .ref q_a4_four, .int r8.2.1])), (q_a4_row, .inl (cI, 2001, .inl r8.2.2.1)), (q_a4_four, .inl (cJ, 4, .inr (.inl r8.2.2.2)))]) (r := r8.1) (va_runV (As := [.long r7]) (rest := []) ⟨hx, hb, hml, hown, hts⟩ (kX7_advance (l := l) (G := G) (cI := cI) (cJ := cJ) (cZ := cZ) (cS := cS) (cG := cG) n q_a4 q_a4_row q_a4_four v_a4_depth v_a4_row v_a4_four r7 _ hc8 _) (cwV 1 hts gX1_gather_X7_advance rfl rfl rfl (by decide +kernel) ⟨Nat.le_of_ble_eq_true rfl, Nat.le_of_ble_eq_true rfl⟩) (cut_V hK hP hD [3, 4, 5] rfl rfl (ci := 7) (q0 := 3) rfl rfl) rfl rfl hl.1 rfl (lv_room (Nat.le_of_ble_eq_true rfl)) dX1_gather_51 ⟨Nat.zero_le _, Nat.zero_le _⟩) hP hD hS hA [3, 4, 5] [0, 1, 2] [0, 1, 2, 3, 4, 5] rfl rfl rfl rfl rfl rfl (fun H locs hP hD hS => ?_)
        refine lv_if_eq (tgt := 72) hx hb dX1_gather_54 (by decide) (fun c9 => ?_) (fun c9 => ?_)
        · have hf := if_s hf c9
          exact hk x5 v_size v_row r8.2.1 r8.2.2.1 r8.2.2.2 _ _ _ hf hP hD hS (lv_sub hl [0, 1, 2, 3, 4] rfl)
        · have hf := if_n hf c9
          refine lv_aload_n hx hb dX1_gather_57 rfl (lv_at hl 0 rfl) ?_
          refine lv_aload hx hb dX1_gather_58 (lv_at hl 3 rfl) ?_
          obtain ⟨r10, hc10, hf⟩ := ob_s hf
          refine bk_l (wc := [(q_a4, .inr (7, [.ref q_a4_row, .ref q_a4_four, .int r8.2.1])), (q_a4_row, .inl (cI, 2001, .inl r8.2.2.1)), (q_a4_four, .inl (cJ, 4, .inr (.inl r8.2.2.2)))]) (wc2 := [(q_a4, .inr (7, [.ref q_a4_row, .ref q_a4_four, .int r8.2.1])), (q_a4_row, .inl (cI, 2001, .inl r8.2.2.1)), (q_a4_four, .inl (cJ, 4, .inr (.inl r8.2.2.2)))]) (wr := [(q, .inr (1, [.ref q_row, .int v_size, .int v_wanted])), (q_row, .inl (cJ, 2001, .inr (.inl v_row))), (q_a3, .inl (cJ, 4, .inr (.inl v_a3)))]) (ws2 := [(q, .inr (1, [.ref q_row, .int v_size, .int v_wanted])), (q_row, .inl (cJ, 2001, .inr (.inl v_row))), (q_a3, .inl (cJ, 4, .inr (.inl v_a3))), (q_a4, .inr (7, [.ref q_a4_row, .ref q_a4_four, .int r8.2.1])), (q_a4_row, .inl (cI, 2001, .inl r8.2.2.1)), (q_a4_four, .inl (cJ, 4, .inr (.inl r8.2.2.2)))]) (r := r10) (va_runV (As := []) (rest := [.ref q]) ⟨hx, hb, hml, hown, hts⟩ (kX7_found (l := l) (G := G) (cI := cI) (cJ := cJ) (cZ := cZ) (cS := cS) (cG := cG) q_a4 q_a4_row q_a4_four r8.2.1 r8.2.2.1 r8.2.2.2 _ hc10 _) (cwV 0 hts gX1_gather_X7_found rfl rfl rfl (by decide +kernel) ⟨Nat.le_of_ble_eq_true rfl, Nat.le_of_ble_eq_true rfl⟩) (cut_V hK hP hD [3, 4, 5] rfl rfl (ci := 7) (q0 := 3) rfl rfl) rfl rfl hl.1 rfl (lv_room (Nat.le_of_ble_eq_true rfl)) dX1_gather_60 ⟨Nat.zero_le _, Nat.zero_le _⟩) hP hD hS hA [3, 4, 5] [0, 1, 2] [0, 1, 2, 3, 4, 5] rfl rfl rfl rfl rfl rfl (fun H locs hP hD hS => ?_)
          obtain ⟨r11, hc11, hf⟩ := ob_s hf
          refine bk_v (wc := [(q, .inr (1, [.ref q_row, .int v_size, .int v_wanted])), (q_row, .inl (cJ, 2001, .inr (.inl v_row)))]) (wc2 := [(q, .inr (1, [.ref q_row, .int r11.1, .int v_wanted])), (q_row, .inl (cJ, 2001, .inr (.inl r11.2)))]) (wr := [(q_a3, .inl (cJ, 4, .inr (.inl v_a3))), (q_a4, .inr (7, [.ref q_a4_row, .ref q_a4_four, .int r8.2.1])), (q_a4_row, .inl (cI, 2001, .inl r8.2.2.1)), (q_a4_four, .inl (cJ, 4, .inr (.inl r8.2.2.2)))]) (ws2 := [(q, .inr (1, [.ref q_row, .int r11.1, .int v_wanted])), (q_row, .inl (cJ, 2001, .inr (.inl r11.2))), (q_a3, .inl (cJ, 4, .inr (.inl v_a3))), (q_a4, .inr (7, [.ref q_a4_row, .ref q_a4_four, .int r8.2.1])), (q_a4_row, .inl (cI, 2001, .inl r8.2.2.1)), (q_a4_four, .inl (cJ, 4, .inr (.inl r8.2.2.2)))]) (va_runV (As := [.long r10]) (rest := []) ⟨hx, hb, hml, hown, hts⟩ (kX1_offer (l := l) (G := G) (cI := cI) (cJ := cJ) (cZ := cZ) (cS := cS) (cG := cG) n q q_row v_size v_wanted v_row r10 _ hc11 _) (cwV 1 hts gX1_gather_X1_offer rfl rfl rfl (by decide +kernel) ⟨Nat.le_of_ble_eq_true rfl, Nat.le_of_ble_eq_true rfl⟩) (cut_V hK hP hD [0, 1] rfl rfl (ci := 1) (q0 := 0) rfl rfl) rfl rfl hl.1 rfl (lv_room (Nat.le_of_ble_eq_true rfl)) dX1_gather_63 ⟨Nat.zero_le _, Nat.zero_le _⟩) hP hD hS hA [0, 1] [2, 3, 4, 5] [4, 5, 0, 1, 2, 3] rfl rfl rfl rfl rfl rfl (fun H locs hP hD hS => ?_)
          refine lv_iinc (v := x5 + (1 : Int32)) (lv' := [(5, .int (x5 + (1 : Int32))), (0, .ref q), (1, .long x1), (3, .ref q_a3), (4, .ref q_a4)]) hx hb dX1_gather_66 hl (k := 4) rfl rfl (by decide) rfl (fun ls hl => ?_)
          refine lv_goto (tgt := 37) hx hb dX1_gather_69 (by decide) ?_
          exact ih (x5 + (1 : Int32)) r11.1 r11.2 r8.2.1 r8.2.2.1 r8.2.2.2 _ _ _ hf hP hD hS (lv_sub hl [1, 2, 3, 4, 0] rfl)
  refine lv_aload_n hx hb dX1_gather_0 rfl (lv_at hl 0 rfl) ?_
  refine lv_iconst (v := 0) hx hb dX1_gather_1 (by decide) ?_
  refine va_put (D := G) (ci := 1) (v := .int (0 : Int32)) (ty := .int) (C := RX1) (T := TX1) (N := 3) hx hb hts hiX1_gather_X1 tyX1 tyX1_ok nmX1 hown hK.1 hP hD hS 0 rfl rfl 1 (by decide) (hts (.fieldLink RX1 15 "PackedBends$Leasts" "size" "I") (List.mem_of_getElem? (i := 1) rfl)) (fun _ h9 => h9) rfl (by decide +kernel) rfl rfl (Nat.le_of_ble_eq_true rfl) dX1_gather_2 (fun H locs hP hD hS => ?_)
  have hP : va_P G vwCl [(q, .inr (1, [.ref q_row, .int (0 : Int32), .int v_wanted])), (q_row, .inl (cJ, 2001, .inr (.inl v_row))), (q_a3, .inl (cJ, 4, .inr (.inl v_a3))), (q_a4, .inr (7, [.ref q_a4_row, .ref q_a4_four, .int v_a4_depth])), (q_a4_row, .inl (cI, 2001, .inl v_a4_row)), (q_a4_four, .inl (cJ, 4, .inr (.inl v_a4_four)))] H := hP
  have hD : va_D A [(q, .inr (1, [.ref q_row, .int (0 : Int32), .int v_wanted])), (q_row, .inl (cJ, 2001, .inr (.inl v_row))), (q_a3, .inl (cJ, 4, .inr (.inl v_a3))), (q_a4, .inr (7, [.ref q_a4_row, .ref q_a4_four, .int v_a4_depth])), (q_a4_row, .inl (cI, 2001, .inl v_a4_row)), (q_a4_four, .inl (cJ, 4, .inr (.inl v_a4_four)))] := hD
  refine lv_iconst (v := 0) hx hb dX1_gather_5 (by decide) ?_
  refine lv_istore (lv' := [(5, .int (0 : Int32)), (0, .ref q), (1, .long p1), (3, .ref q_a3), (4, .ref q_a4)]) hx hb dX1_gather_6 hl (by decide) rfl (fun ls hl => ?_)
  refine hL8 p1 v_a4_depth v_a4_row v_a4_four _ (fun y5_4 u4_size u4_row H locs ls hf hP hD hS hl => ?_) n (0 : Int32) (0 : Int32) v_row _ _ _ hf hP hD hS (lv_sub hl [1, 2, 3, 4, 0] rfl)
  have hP : va_P G vwCl [(q, .inr (1, [.ref q_row, .int u4_size, .int v_wanted])), (q_row, .inl (cJ, 2001, .inr (.inl u4_row))), (q_a3, .inl (cJ, 4, .inr (.inl v_a3))), (q_a4, .inr (7, [.ref q_a4_row, .ref q_a4_four, .int v_a4_depth])), (q_a4_row, .inl (cI, 2001, .inl v_a4_row)), (q_a4_four, .inl (cJ, 4, .inr (.inl v_a4_four)))] H := hP
  have hD : va_D A [(q, .inr (1, [.ref q_row, .int u4_size, .int v_wanted])), (q_row, .inl (cJ, 2001, .inr (.inl u4_row))), (q_a3, .inl (cJ, 4, .inr (.inl v_a3))), (q_a4, .inr (7, [.ref q_a4_row, .ref q_a4_four, .int v_a4_depth])), (q_a4_row, .inl (cI, 2001, .inl v_a4_row)), (q_a4_four, .inl (cJ, 4, .inr (.inl v_a4_four)))] := hD
  refine lv_aload hx hb dX1_gather_28 (lv_at hl 3 rfl) ?_
  refine lv_aload_n hx hb dX1_gather_30 rfl (lv_at hl 2 rfl) ?_
  obtain ⟨r5, hc5, hf⟩ := ob_s hf
  refine bk_v (wc := [(q_a4, .inr (7, [.ref q_a4_row, .ref q_a4_four, .int v_a4_depth])), (q_a4_four, .inl (cJ, 4, .inr (.inl v_a4_four))), (q_a3, .inl (cJ, 4, .inr (.inl v_a3)))]) (wc2 := [(q_a4, .inr (7, [.ref q_a4_row, .ref q_a4_four, .int r5.1])), (q_a4_four, .inl (cJ, 4, .inr (.inl r5.2))), (q_a3, .inl (cJ, 4, .inr (.inl v_a3)))]) (wr := [(q, .inr (1, [.ref q_row, .int u4_size, .int v_wanted])), (q_row, .inl (cJ, 2001, .inr (.inl u4_row))), (q_a4_row, .inl (cI, 2001, .inl v_a4_row))]) (ws2 := [(q, .inr (1, [.ref q_row, .int u4_size, .int v_wanted])), (q_row, .inl (cJ, 2001, .inr (.inl u4_row))), (q_a3, .inl (cJ, 4, .inr (.inl v_a3))), (q_a4, .inr (7, [.ref q_a4_row, .ref q_a4_four, .int r5.1])), (q_a4_row, .inl (cI, 2001, .inl v_a4_row)), (q_a4_four, .inl (cJ, 4, .inr (.inl r5.2)))]) (va_runV (As := [.ref q_a3]) (rest := []) ⟨hx, hb, hml, hown, hts⟩ (kX7_start (l := l) (G := G) (cI := cI) (cJ := cJ) (cZ := cZ) (cS := cS) (cG := cG) n q_a4 q_a4_row q_a4_four q_a3 v_a4_depth v_a4_four v_a3 _ hc5 _) (cwV 1 hts gX1_gather_X7_start rfl rfl rfl (by decide +kernel) ⟨Nat.le_of_ble_eq_true rfl, Nat.le_of_ble_eq_true rfl⟩) (cut_V hK hP hD [3, 5, 2] rfl rfl (ci := 7) (q0 := 3) rfl rfl) rfl rfl hl.1 rfl (lv_room (Nat.le_of_ble_eq_true rfl)) dX1_gather_31 ⟨Nat.zero_le _, Nat.zero_le _⟩) hP hD hS hA [3, 5, 2] [0, 1, 4] [0, 1, 5, 3, 2, 4] rfl rfl rfl rfl rfl rfl (fun H locs hP hD hS => ?_)
  refine lv_iconst (v := 0) hx hb dX1_gather_34 (by decide) ?_
  refine lv_istore (lv' := [(5, .int (0 : Int32)), (0, .ref q), (1, .long p1), (3, .ref q_a3), (4, .ref q_a4)]) hx hb dX1_gather_35 hl (by decide) rfl (fun ls hl => ?_)
  refine hL37 p1 _ (fun y5_12 u12_size u12_row u12_a4_depth u12_a4_row u12_a4_four H locs ls hf hP hD hS hl => ?_) n (0 : Int32) u4_size u4_row r5.1 v_a4_row r5.2 _ _ _ hf hP hD hS (lv_sub hl [1, 2, 3, 4, 0] rfl)
  have hP : va_P G vwCl [(q, .inr (1, [.ref q_row, .int u12_size, .int v_wanted])), (q_row, .inl (cJ, 2001, .inr (.inl u12_row))), (q_a3, .inl (cJ, 4, .inr (.inl v_a3))), (q_a4, .inr (7, [.ref q_a4_row, .ref q_a4_four, .int u12_a4_depth])), (q_a4_row, .inl (cI, 2001, .inl u12_a4_row)), (q_a4_four, .inl (cJ, 4, .inr (.inl u12_a4_four)))] H := hP
  have hD : va_D A [(q, .inr (1, [.ref q_row, .int u12_size, .int v_wanted])), (q_row, .inl (cJ, 2001, .inr (.inl u12_row))), (q_a3, .inl (cJ, 4, .inr (.inl v_a3))), (q_a4, .inr (7, [.ref q_a4_row, .ref q_a4_four, .int u12_a4_depth])), (q_a4_row, .inl (cI, 2001, .inl u12_a4_row)), (q_a4_four, .inl (cJ, 4, .inr (.inl u12_a4_four)))] := hD
  cases hf
  rw [← hQ]
  exact rt_v hx hb hr hlk hP hD hS dX1_gather_72
def pX1_straighten_L7 : Nat → Int32 → (Nat → Int64) → (Int32 → (Nat → Int64) → Option ((Nat → Int64))) → Option ((Nat → Int64))
  | 0, _, _, _ => none
  | n + 1, x1, v_row, k => if x1 ≤ 0 then k x1 v_row else Option.bind (pX1_swap v_row (0 : Int32) x1) (fun r2 => Option.bind (pX1_sink n r2 x1) (fun r3 => pX1_straighten_L7 n (x1 + (-1 : Int32)) r3 k))
def pX1_straighten (n : Nat) (v_size : Int32) (v_row : (Nat → Int64)) : Option ((Nat → Int64)) := pX1_straighten_L7 n (v_size - (1 : Int32)) v_row (fun (y1_4 : Int32) (u4_row : (Nat → Int64)) => some u4_row)
def rmX1_straighten : Room := { frames := 2, cells := 0, slots := 0, locals := 47 }
theorem hiX1_straighten_X1 : ∀ w ∈ u_ws RX1 TX1 3, w ∈ wsX1_straighten := fun _ h => List.mem_cons_of_mem _ (List.mem_append_right _ h)
set_option maxRecDepth 100000 in
set_option maxHeartbeats 4000000 in
theorem kX1_straighten {l : Launch} {G : va_G} {cI cJ cZ cS cG : ClassId} (n : Nat) (q q_row : Nat) (v_size : Int32) (v_wanted : Int32) (v_row : (Nat → Int64)) (R : (Nat → Int64)) (hf : pX1_straighten n v_size v_row = some R) : CTv l yX1_straighten wsX1_straighten rmX1_straighten G cI cJ cZ cS cG [.ref q] [(q, .inr (1, [.ref q_row, .int v_size, .int v_wanted])), (q_row, .inl (cJ, 2001, .inr (.inl v_row)))] [(q, .inr (1, [.ref q_row, .int v_size, .int v_wanted])), (q_row, .inl (cJ, 2001, .inr (.inl R)))] := by
  refine Met.ofE (Qc := fun A => QRv G A [(q, .inr (1, [.ref q_row, .int v_size, .int v_wanted])), (q_row, .inl (cJ, 2001, .inr (.inl R)))]) (cc := cX1_straighten) (nL := 2) (ret := none) (plainFor_of_name (by decide +kernel)) rfl (Nat.le_of_ble_eq_true rfl) ?_
  intro p e s m below meth c A ls hx hb hml hr hlk hts hown hK hA hP hD hS hl
  have hown : s.vm.findClass RX1 = some m.cls := hown
  have hl : lv_has ls 2 [(0, .ref q)] := hl
  generalize hQ : MQ below (QRv G A [(q, .inr (1, [.ref q_row, .int v_size, .int v_wanted])), (q_row, .inl (cJ, 2001, .inr (.inl R)))]) ([.ref q] : List Value).toArray s 0 0 A = QQ
  unfold pX1_straighten at hf
  have hL7 : ∀ (k : Int32 → (Nat → Int64) → Option ((Nat → Int64))), (∀ (x1 : Int32) (v_row : (Nat → Int64)) (H : Heap) (locs : List Loc) (ls : Array Slot), k x1 v_row = some R → va_P G vwCl [(q, .inr (1, [.ref q_row, .int v_size, .int v_wanted])), (q_row, .inl (cJ, 2001, .inr (.inl v_row)))] H → va_D A [(q, .inr (1, [.ref q_row, .int v_size, .int v_wanted])), (q_row, .inl (cJ, 2001, .inr (.inl v_row)))] → va_S A s.heap H locs → lv_has ls 2 [(0, .ref q), (1, .int x1)] → W p l e rmX1_straighten s m ([.ref q] : List Value).toArray below meth c H locs 0 0 QQ (F0 m 28 ls [])) → ∀ (n : Nat) (x1 : Int32) (v_row : (Nat → Int64)) (H : Heap) (locs : List Loc) (ls : Array Slot), pX1_straighten_L7 n x1 v_row k = some R → va_P G vwCl [(q, .inr (1, [.ref q_row, .int v_size, .int v_wanted])), (q_row, .inl (cJ, 2001, .inr (.inl v_row)))] H → va_D A [(q, .inr (1, [.ref q_row, .int v_size, .int v_wanted])), (q_row, .inl (cJ, 2001, .inr (.inl v_row)))] → va_S A s.heap H locs → lv_has ls 2 [(0, .ref q), (1, .int x1)] → W p l e rmX1_straighten s m ([.ref q] : List Value).toArray below meth c H locs 0 0 QQ (F0 m 7 ls []) := by
    intro  k hk n
    induction n with
    | zero =>
      intro x1 v_row H locs ls hf
      cases hf
    | succ n ih =>
      intro x1 v_row H locs ls hf hP hD hS hl
      unfold pX1_straighten_L7 at hf
      refine lv_iload_n hx hb dX1_straighten_7 rfl (lv_at hl 1 rfl) ?_
      refine lv_if_le (tgt := 28) hx hb dX1_straighten_8 (by decide) (fun c1 => ?_) (fun c1 => ?_)
      · have hf := if_s hf c1
        exact hk x1 v_row _ _ _ hf hP hD hS (lv_sub hl [0, 1] rfl)
      · have hf := if_n hf c1
        refine lv_aload_n hx hb dX1_straighten_11 rfl (lv_at hl 0 rfl) ?_
        refine lv_iconst (v := 0) hx hb dX1_straighten_12 (by decide) ?_
        refine lv_iload_n hx hb dX1_straighten_13 rfl (lv_at hl 1 rfl) ?_
        obtain ⟨r2, hc2, hf⟩ := ob_s hf
        refine bk_v (wc := [(q, .inr (1, [.ref q_row, .int v_size, .int v_wanted])), (q_row, .inl (cJ, 2001, .inr (.inl v_row)))]) (wc2 := [(q, .inr (1, [.ref q_row, .int v_size, .int v_wanted])), (q_row, .inl (cJ, 2001, .inr (.inl r2)))]) (wr := []) (ws2 := [(q, .inr (1, [.ref q_row, .int v_size, .int v_wanted])), (q_row, .inl (cJ, 2001, .inr (.inl r2)))]) (va_runV (As := [.int (0 : Int32), .int x1]) (rest := []) ⟨hx, hb, hml, hown, hts⟩ (kX1_swap (l := l) (G := G) (cI := cI) (cJ := cJ) (cZ := cZ) (cS := cS) (cG := cG) q q_row v_size v_wanted v_row (0 : Int32) x1 _ hc2 _) (cwV 2 hts gX1_straighten_X1_swap rfl rfl rfl (by decide +kernel) ⟨Nat.le_of_ble_eq_true rfl, Nat.le_of_ble_eq_true rfl⟩) (cut_V hK hP hD [0, 1] rfl rfl (ci := 1) (q0 := 0) rfl rfl) rfl rfl hl.1 rfl (lv_room (Nat.le_of_ble_eq_true rfl)) dX1_straighten_14 ⟨Nat.zero_le _, Nat.zero_le _⟩) hP hD hS hA [0, 1] [] [0, 1] rfl rfl rfl rfl rfl rfl (fun H locs hP hD hS => ?_)
        refine lv_aload_n hx hb dX1_straighten_17 rfl (lv_at hl 0 rfl) ?_
        refine lv_iload_n hx hb dX1_straighten_18 rfl (lv_at hl 1 rfl) ?_
        obtain ⟨r3, hc3, hf⟩ := ob_s hf
        refine bk_v (wc := [(q, .inr (1, [.ref q_row, .int v_size, .int v_wanted])), (q_row, .inl (cJ, 2001, .inr (.inl r2)))]) (wc2 := [(q, .inr (1, [.ref q_row, .int v_size, .int v_wanted])), (q_row, .inl (cJ, 2001, .inr (.inl r3)))]) (wr := []) (ws2 := [(q, .inr (1, [.ref q_row, .int v_size, .int v_wanted])), (q_row, .inl (cJ, 2001, .inr (.inl r3)))]) (va_runV (As := [.int x1]) (rest := []) ⟨hx, hb, hml, hown, hts⟩ (kX1_sink (l := l) (G := G) (cI := cI) (cJ := cJ) (cZ := cZ) (cS := cS) (cG := cG) n q q_row v_size v_wanted r2 x1 _ hc3 _) (cwV 1 hts gX1_straighten_X1_sink rfl rfl rfl (by decide +kernel) ⟨Nat.le_of_ble_eq_true rfl, Nat.le_of_ble_eq_true rfl⟩) (cut_V hK hP hD [0, 1] rfl rfl (ci := 1) (q0 := 0) rfl rfl) rfl rfl hl.1 rfl (lv_room (Nat.le_of_ble_eq_true rfl)) dX1_straighten_19 ⟨Nat.zero_le _, Nat.zero_le _⟩) hP hD hS hA [0, 1] [] [0, 1] rfl rfl rfl rfl rfl rfl (fun H locs hP hD hS => ?_)
        refine lv_iinc (v := x1 + (-1 : Int32)) (lv' := [(1, .int (x1 + (-1 : Int32))), (0, .ref q)]) hx hb dX1_straighten_22 hl (k := 1) rfl rfl (by decide) rfl (fun ls hl => ?_)
        refine lv_goto (tgt := 7) hx hb dX1_straighten_25 (by decide) ?_
        exact ih (x1 + (-1 : Int32)) r3 _ _ _ hf hP hD hS (lv_sub hl [1, 0] rfl)
  refine lv_aload_n hx hb dX1_straighten_0 rfl (lv_at hl 0 rfl) ?_
  refine va_get (D := G) (ci := 1) (v := .int v_size) (C := RX1) (T := TX1) (N := 3) hx hb hts hiX1_straighten_X1 hown hK.1 hP 0 rfl rfl 1 (by decide) (hts (.fieldLink RX1 15 "PackedBends$Leasts" "size" "I") (List.mem_of_getElem? (i := 1) rfl)) (fun _ h9 => h9) rfl dX1_straighten_1 ?_
  refine lv_iconst (v := 1) hx hb dX1_straighten_4 (by decide) ?_
  refine lv_isub hx hb dX1_straighten_5 ?_
  refine lv_istore_n (lv' := [(1, .int (v_size - (1 : Int32))), (0, .ref q)]) hx hb dX1_straighten_6 rfl hl (by decide) rfl (fun ls hl => ?_)
  refine hL7  _ (fun y1_4 u4_row H locs ls hf hP hD hS hl => ?_) n (v_size - (1 : Int32)) v_row _ _ _ hf hP hD hS (lv_sub hl [1, 0] rfl)
  have hP : va_P G vwCl [(q, .inr (1, [.ref q_row, .int v_size, .int v_wanted])), (q_row, .inl (cJ, 2001, .inr (.inl u4_row)))] H := hP
  have hD : va_D A [(q, .inr (1, [.ref q_row, .int v_size, .int v_wanted])), (q_row, .inl (cJ, 2001, .inr (.inl u4_row)))] := hD
  cases hf
  rw [← hQ]
  exact rt_v hx hb hr hlk hP hD hS dX1_straighten_28
def pX1_reachTo_L50 (v_wanted : Int32) (v_a2 : (Nat → Int64)) : Nat → Int64 → Int32 → Int32 → (Nat → Int64) → Int32 → (Nat → Int32) → (Nat → Int64) → (Int64 → Int32 → Int32 → (Nat → Int64) → Int32 → (Nat → Int32) → (Nat → Int64) → Option (Int32 × Int32 × (Nat → Int64) × Int32 × (Nat → Int32) × (Nat → Int64))) → Option (Int32 × Int32 × (Nat → Int64) × Int32 × (Nat → Int32) × (Nat → Int64))
  | 0, _, _, _, _, _, _, _, _ => none
  | n + 1, x4, x6, v_size, v_row, v_a3_depth, v_a3_row, v_a3_four, k => if (30 : Int32) ≤ x6 then k x4 x6 v_size v_row v_a3_depth v_a3_row v_a3_four else if v_wanted ≤ v_size then k x4 x6 v_size v_row v_a3_depth v_a3_row v_a3_four else Option.bind (pX1_gather n v_wanted v_row v_a2 v_a3_row v_a3_four x4) (fun r4 => pX1_reachTo_L50 v_wanted v_a2 n (x4 * (2 : Int64)) (x6 + (1 : Int32)) r4.1 r4.2.1 r4.2.2.1 r4.2.2.2.1 r4.2.2.2.2 k)
def pX1_reachTo (n : Nat) (v_size : Int32) (v_wanted : Int32) (v_row : (Nat → Int64)) (v_a2 : (Nat → Int64)) (v_a3_depth : Int32) (v_a3_row : (Nat → Int32)) (v_a3_four : (Nat → Int64)) (p1 : Int32) : Option (Int32 × Int32 × (Nat → Int64) × Int32 × (Nat → Int32) × (Nat → Int64)) := if v_size ≤ p1 then pX1_reachTo_L50 (if (if (p1 + (1 : Int32)) < ((2 : Int32) * v_size) then ((2 : Int32) * v_size) else (p1 + (1 : Int32))) < (2001 : Int32) then (if (p1 + (1 : Int32)) < ((2 : Int32) * v_size) then ((2 : Int32) * v_size) else (p1 + (1 : Int32))) else (2001 : Int32)) v_a2 n ((2 : Int64) * (v_a2 (3 : Int32).toNatClampNeg)) (0 : Int32) (0 : Int32) v_row v_a3_depth v_a3_row v_a3_four (fun (y4_5 : Int64) (y6_5 : Int32) (u5_size : Int32) (u5_row : (Nat → Int64)) (u5_a3_depth : Int32) (u5_a3_row : (Nat → Int32)) (u5_a3_four : (Nat → Int64)) => Option.bind (pX1_straighten n u5_size u5_row) (fun r6 => some (u5_size, if (if (p1 + (1 : Int32)) < ((2 : Int32) * v_size) then ((2 : Int32) * v_size) else (p1 + (1 : Int32))) < (2001 : Int32) then (if (p1 + (1 : Int32)) < ((2 : Int32) * v_size) then ((2 : Int32) * v_size) else (p1 + (1 : Int32))) else (2001 : Int32), r6, u5_a3_depth, u5_a3_row, u5_a3_four))) else some (v_size, v_wanted, v_row, v_a3_depth, v_a3_row, v_a3_four)
def rmX1_reachTo : Room := { frames := 4, cells := 0, slots := 0, locals := 95 }
theorem hiX1_reachTo_X1 : ∀ w ∈ u_ws RX1 TX1 3, w ∈ wsX1_reachTo := fun _ h => List.mem_cons_of_mem _ (List.mem_append_left _ (List.mem_append_right _ h))
set_option maxRecDepth 100000 in
set_option maxHeartbeats 4000000 in
theorem kX1_reachTo {l : Launch} {G : va_G} {cI cJ cZ cS cG : ClassId} (n : Nat) (q q_row q_a2 q_a3 q_a3_row q_a3_four : Nat) (v_size : Int32) (v_wanted : Int32) (v_row : (Nat → Int64)) (v_a2 : (Nat → Int64)) (v_a3_depth : Int32) (v_a3_row : (Nat → Int32)) (v_a3_four : (Nat → Int64)) (p1 : Int32) (R : Int32 × Int32 × (Nat → Int64) × Int32 × (Nat → Int32) × (Nat → Int64)) (hf : pX1_reachTo n v_size v_wanted v_row v_a2 v_a3_depth v_a3_row v_a3_four p1 = some R) : CTv l yX1_reachTo wsX1_reachTo rmX1_reachTo G cI cJ cZ cS cG [.ref q, .int p1, .ref q_a2, .ref q_a3] [(q, .inr (1, [.ref q_row, .int v_size, .int v_wanted])), (q_row, .inl (cJ, 2001, .inr (.inl v_row))), (q_a2, .inl (cJ, 4, .inr (.inl v_a2))), (q_a3, .inr (7, [.ref q_a3_row, .ref q_a3_four, .int v_a3_depth])), (q_a3_row, .inl (cI, 2001, .inl v_a3_row)), (q_a3_four, .inl (cJ, 4, .inr (.inl v_a3_four)))] [(q, .inr (1, [.ref q_row, .int R.1, .int R.2.1])), (q_row, .inl (cJ, 2001, .inr (.inl R.2.2.1))), (q_a2, .inl (cJ, 4, .inr (.inl v_a2))), (q_a3, .inr (7, [.ref q_a3_row, .ref q_a3_four, .int R.2.2.2.1])), (q_a3_row, .inl (cI, 2001, .inl R.2.2.2.2.1)), (q_a3_four, .inl (cJ, 4, .inr (.inl R.2.2.2.2.2)))] := by
  refine Met.ofE (Qc := fun A => QRv G A [(q, .inr (1, [.ref q_row, .int R.1, .int R.2.1])), (q_row, .inl (cJ, 2001, .inr (.inl R.2.2.1))), (q_a2, .inl (cJ, 4, .inr (.inl v_a2))), (q_a3, .inr (7, [.ref q_a3_row, .ref q_a3_four, .int R.2.2.2.1])), (q_a3_row, .inl (cI, 2001, .inl R.2.2.2.2.1)), (q_a3_four, .inl (cJ, 4, .inr (.inl R.2.2.2.2.2)))]) (cc := cX1_reachTo) (nL := 7) (ret := none) (plainFor_of_name (by decide +kernel)) rfl (Nat.le_of_ble_eq_true rfl) ?_
  intro p e s m below meth c A ls hx hb hml hr hlk hts hown hK hA hP hD hS hl
  have hown : s.vm.findClass RX1 = some m.cls := hown
  have hl : lv_has ls 7 [(0, .ref q), (1, .int p1), (2, .ref q_a2), (3, .ref q_a3)] := hl
  generalize hQ : MQ below (QRv G A [(q, .inr (1, [.ref q_row, .int R.1, .int R.2.1])), (q_row, .inl (cJ, 2001, .inr (.inl R.2.2.1))), (q_a2, .inl (cJ, 4, .inr (.inl v_a2))), (q_a3, .inr (7, [.ref q_a3_row, .ref q_a3_four, .int R.2.2.2.1])), (q_a3_row, .inl (cI, 2001, .inl R.2.2.2.2.1)), (q_a3_four, .inl (cJ, 4, .inr (.inl R.2.2.2.2.2)))]) ([.ref q, .int p1, .ref q_a2, .ref q_a3] : List Value).toArray s 0 0 A = QQ
  unfold pX1_reachTo at hf
  have hL50 : ∀ (x1 : Int32) (v_wanted : Int32) (k : Int64 → Int32 → Int32 → (Nat → Int64) → Int32 → (Nat → Int32) → (Nat → Int64) → Option (Int32 × Int32 × (Nat → Int64) × Int32 × (Nat → Int32) × (Nat → Int64))), (∀ (x4 : Int64) (x6 : Int32) (v_size : Int32) (v_row : (Nat → Int64)) (v_a3_depth : Int32) (v_a3_row : (Nat → Int32)) (v_a3_four : (Nat → Int64)) (H : Heap) (locs : List Loc) (ls : Array Slot), k x4 x6 v_size v_row v_a3_depth v_a3_row v_a3_four = some R → va_P G vwCl [(q, .inr (1, [.ref q_row, .int v_size, .int v_wanted])), (q_row, .inl (cJ, 2001, .inr (.inl v_row))), (q_a2, .inl (cJ, 4, .inr (.inl v_a2))), (q_a3, .inr (7, [.ref q_a3_row, .ref q_a3_four, .int v_a3_depth])), (q_a3_row, .inl (cI, 2001, .inl v_a3_row)), (q_a3_four, .inl (cJ, 4, .inr (.inl v_a3_four)))] H → va_D A [(q, .inr (1, [.ref q_row, .int v_size, .int v_wanted])), (q_row, .inl (cJ, 2001, .inr (.inl v_row))), (q_a2, .inl (cJ, 4, .inr (.inl v_a2))), (q_a3, .inr (7, [.ref q_a3_row, .ref q_a3_four, .int v_a3_depth])), (q_a3_row, .inl (cI, 2001, .inl v_a3_row)), (q_a3_four, .inl (cJ, 4, .inr (.inl v_a3_four)))] → va_S A s.heap H locs → lv_has ls 7 [(0, .ref q), (1, .int x1), (2, .ref q_a2), (3, .ref q_a3), (4, .long x4), (6, .int x6)] → W p l e rmX1_reachTo s m ([.ref q, .int p1, .ref q_a2, .ref q_a3] : List Value).toArray below meth c H locs 0 0 QQ (F0 m 90 ls [])) → ∀ (n : Nat) (x4 : Int64) (x6 : Int32) (v_size : Int32) (v_row : (Nat → Int64)) (v_a3_depth : Int32) (v_a3_row : (Nat → Int32)) (v_a3_four : (Nat → Int64)) (H : Heap) (locs : List Loc) (ls : Array Slot), pX1_reachTo_L50 v_wanted v_a2 n x4 x6 v_size v_row v_a3_depth v_a3_row v_a3_four k = some R → va_P G vwCl [(q, .inr (1, [.ref q_row, .int v_size, .int v_wanted])), (q_row, .inl (cJ, 2001, .inr (.inl v_row))), (q_a2, .inl (cJ, 4, .inr (.inl v_a2))), (q_a3, .inr (7, [.ref q_a3_row, .ref q_a3_four, .int v_a3_depth])), (q_a3_row, .inl (cI, 2001, .inl v_a3_row)), (q_a3_four, .inl (cJ, 4, .inr (.inl v_a3_four)))] H → va_D A [(q, .inr (1, [.ref q_row, .int v_size, .int v_wanted])), (q_row, .inl (cJ, 2001, .inr (.inl v_row))), (q_a2, .inl (cJ, 4, .inr (.inl v_a2))), (q_a3, .inr (7, [.ref q_a3_row, .ref q_a3_four, .int v_a3_depth])), (q_a3_row, .inl (cI, 2001, .inl v_a3_row)), (q_a3_four, .inl (cJ, 4, .inr (.inl v_a3_four)))] → va_S A s.heap H locs → lv_has ls 7 [(0, .ref q), (1, .int x1), (2, .ref q_a2), (3, .ref q_a3), (4, .long x4), (6, .int x6)] → W p l e rmX1_reachTo s m ([.ref q, .int p1, .ref q_a2, .ref q_a3] : List Value).toArray below meth c H locs 0 0 QQ (F0 m 50 ls []) := by
    intro x1 v_wanted k hk n
    induction n with
    | zero =>
      intro x4 x6 v_size v_row v_a3_depth v_a3_row v_a3_four H locs ls hf
      cases hf
    | succ n ih =>
      intro x4 x6 v_size v_row v_a3_depth v_a3_row v_a3_four H locs ls hf hP hD hS hl
      unfold pX1_reachTo_L50 at hf
      refine lv_iload hx hb dX1_reachTo_50 (lv_at hl 5 rfl) ?_
      refine lv_bipush (v := 30) hx hb dX1_reachTo_52 (by decide) ?_
      refine lv_icmp_ge (tgt := 90) hx hb dX1_reachTo_54 (by decide) (fun c2 => ?_) (fun c2 => ?_)
      · have hf := if_s hf c2
        exact hk x4 x6 v_size v_row v_a3_depth v_a3_row v_a3_four _ _ _ hf hP hD hS (lv_sub hl [0, 1, 2, 3, 4, 5] rfl)
      · have hf := if_n hf c2
        refine lv_aload_n hx hb dX1_reachTo_57 rfl (lv_at hl 0 rfl) ?_
        refine va_get (D := G) (ci := 1) (v := .int v_size) (C := RX1) (T := TX1) (N := 3) hx hb hts hiX1_reachTo_X1 hown hK.1 hP 0 rfl rfl 1 (by decide) (hts (.fieldLink RX1 15 "PackedBends$Leasts" "size" "I") (List.mem_of_getElem? (i := 1) rfl)) (fun _ h9 => h9) rfl dX1_reachTo_58 ?_
        refine lv_aload_n hx hb dX1_reachTo_61 rfl (lv_at hl 0 rfl) ?_
        refine va_get (D := G) (ci := 1) (v := .int v_wanted) (C := RX1) (T := TX1) (N := 3) hx hb hts hiX1_reachTo_X1 hown hK.1 hP 0 rfl rfl 2 (by decide) (hts (.fieldLink RX1 30 "PackedBends$Leasts" "wanted" "I") (List.mem_of_getElem? (i := 10) rfl)) (fun _ h9 => h9) rfl dX1_reachTo_62 ?_
        refine lv_icmp_ge (tgt := 90) hx hb dX1_reachTo_65 (by decide) (fun c3 => ?_) (fun c3 => ?_)
        · have hf := if_s hf c3
          exact hk x4 x6 v_size v_row v_a3_depth v_a3_row v_a3_four _ _ _ hf hP hD hS (lv_sub hl [0, 1, 2, 3, 4, 5] rfl)
        · have hf := if_n hf c3
          refine lv_aload_n hx hb dX1_reachTo_68 rfl (lv_at hl 0 rfl) ?_
          refine lv_lload hx hb dX1_reachTo_69 (lv_at hl 4 rfl) ?_
          refine lv_aload_n hx hb dX1_reachTo_71 rfl (lv_at hl 2 rfl) ?_
          refine lv_aload_n hx hb dX1_reachTo_72 rfl (lv_at hl 3 rfl) ?_
          obtain ⟨r4, hc4, hf⟩ := ob_s hf
          refine bk_v (wc := [(q, .inr (1, [.ref q_row, .int v_size, .int v_wanted])), (q_row, .inl (cJ, 2001, .inr (.inl v_row))), (q_a2, .inl (cJ, 4, .inr (.inl v_a2))), (q_a3, .inr (7, [.ref q_a3_row, .ref q_a3_four, .int v_a3_depth])), (q_a3_row, .inl (cI, 2001, .inl v_a3_row)), (q_a3_four, .inl (cJ, 4, .inr (.inl v_a3_four)))]) (wc2 := [(q, .inr (1, [.ref q_row, .int r4.1, .int v_wanted])), (q_row, .inl (cJ, 2001, .inr (.inl r4.2.1))), (q_a2, .inl (cJ, 4, .inr (.inl v_a2))), (q_a3, .inr (7, [.ref q_a3_row, .ref q_a3_four, .int r4.2.2.1])), (q_a3_row, .inl (cI, 2001, .inl r4.2.2.2.1)), (q_a3_four, .inl (cJ, 4, .inr (.inl r4.2.2.2.2)))]) (wr := []) (ws2 := [(q, .inr (1, [.ref q_row, .int r4.1, .int v_wanted])), (q_row, .inl (cJ, 2001, .inr (.inl r4.2.1))), (q_a2, .inl (cJ, 4, .inr (.inl v_a2))), (q_a3, .inr (7, [.ref q_a3_row, .ref q_a3_four, .int r4.2.2.1])), (q_a3_row, .inl (cI, 2001, .inl r4.2.2.2.1)), (q_a3_four, .inl (cJ, 4, .inr (.inl r4.2.2.2.2)))]) (va_runV (As := [.long x4, .ref q_a2, .ref q_a3]) (rest := []) ⟨hx, hb, hml, hown, hts⟩ (kX1_gather (l := l) (G := G) (cI := cI) (cJ := cJ) (cZ := cZ) (cS := cS) (cG := cG) n q q_row q_a2 q_a3 q_a3_row q_a3_four v_size v_wanted v_row v_a2 v_a3_depth v_a3_row v_a3_four x4 _ hc4 _) (cwV 3 hts gX1_reachTo_X1_gather rfl rfl rfl (by decide +kernel) ⟨Nat.le_of_ble_eq_true rfl, Nat.le_of_ble_eq_true rfl⟩) (cut_V hK hP hD [0, 1, 2, 3, 4, 5] rfl rfl (ci := 1) (q0 := 0) rfl rfl) rfl rfl hl.1 rfl (lv_room (Nat.le_of_ble_eq_true rfl)) dX1_reachTo_73 ⟨Nat.zero_le _, Nat.zero_le _⟩) hP hD hS hA [0, 1, 2, 3, 4, 5] [] [0, 1, 2, 3, 4, 5] rfl rfl rfl rfl rfl rfl (fun H locs hP hD hS => ?_)
          refine lv_lload hx hb dX1_reachTo_76 (lv_at hl 4 rfl) ?_
          refine lv_ldc2 (v := 2) hx hb hown (hts (.constantLong RX1 33 (2)) (List.mem_of_getElem? (i := 11) rfl)) dX1_reachTo_78 ?_
          refine lv_lmul hx hb dX1_reachTo_81 ?_
          refine lv_lstore (lv' := [(4, .long (x4 * (2 : Int64))), (0, .ref q), (1, .int x1), (2, .ref q_a2), (3, .ref q_a3), (6, .int x6)]) hx hb dX1_reachTo_82 hl (by decide) rfl (fun ls hl => ?_)
          refine lv_iinc (v := x6 + (1 : Int32)) (lv' := [(6, .int (x6 + (1 : Int32))), (4, .long (x4 * (2 : Int64))), (0, .ref q), (1, .int x1), (2, .ref q_a2), (3, .ref q_a3)]) hx hb dX1_reachTo_84 hl (k := 5) rfl rfl (by decide) rfl (fun ls hl => ?_)
          refine lv_goto (tgt := 50) hx hb dX1_reachTo_87 (by decide) ?_
          exact ih (x4 * (2 : Int64)) (x6 + (1 : Int32)) r4.1 r4.2.1 r4.2.2.1 r4.2.2.2.1 r4.2.2.2.2 _ _ _ hf hP hD hS (lv_sub hl [2, 3, 4, 5, 1, 0] rfl)
  refine lv_iload_n hx hb dX1_reachTo_0 rfl (lv_at hl 1 rfl) ?_
  refine lv_aload_n hx hb dX1_reachTo_1 rfl (lv_at hl 0 rfl) ?_
  refine va_get (D := G) (ci := 1) (v := .int v_size) (C := RX1) (T := TX1) (N := 3) hx hb hts hiX1_reachTo_X1 hown hK.1 hP 0 rfl rfl 1 (by decide) (hts (.fieldLink RX1 15 "PackedBends$Leasts" "size" "I") (List.mem_of_getElem? (i := 1) rfl)) (fun _ h9 => h9) rfl dX1_reachTo_2 ?_
  refine lv_icmp_ge (tgt := 9) hx hb dX1_reachTo_5 (by decide) (fun c1 => ?_) (fun c1 => ?_)
  · have hf := if_s hf c1
    refine lv_aload_n hx hb dX1_reachTo_9 rfl (lv_at hl 0 rfl) ?_
    refine lv_aload_n hx hb dX1_reachTo_10 rfl (lv_at hl 0 rfl) ?_
    refine va_get (D := G) (ci := 1) (v := .ref q_row) (C := RX1) (T := TX1) (N := 3) hx hb hts hiX1_reachTo_X1 hown hK.1 hP 0 rfl rfl 0 (by decide) (hts (.fieldLink RX1 9 "PackedBends$Leasts" "row" "[J") (List.mem_of_getElem? (i := 2) rfl)) (fun _ h9 => h9) rfl dX1_reachTo_11 ?_
    refine va_alen (v := 2001) hx hb hK.1 hP 1 1 rfl rfl (show Int32.ofNat 2001 = 2001 by decide +kernel) dX1_reachTo_14 ?_
    refine lv_iload_n hx hb dX1_reachTo_15 rfl (lv_at hl 1 rfl) ?_
    refine lv_iconst (v := 1) hx hb dX1_reachTo_16 (by decide) ?_
    refine lv_iadd hx hb dX1_reachTo_17 ?_
    refine lv_iconst (v := 2) hx hb dX1_reachTo_18 (by decide) ?_
    refine lv_aload_n hx hb dX1_reachTo_19 rfl (lv_at hl 0 rfl) ?_
    refine va_get (D := G) (ci := 1) (v := .int v_size) (C := RX1) (T := TX1) (N := 3) hx hb hts hiX1_reachTo_X1 hown hK.1 hP 0 rfl rfl 1 (by decide) (hts (.fieldLink RX1 15 "PackedBends$Leasts" "size" "I") (List.mem_of_getElem? (i := 1) rfl)) (fun _ h9 => h9) rfl dX1_reachTo_20 ?_
    refine lv_imul hx hb dX1_reachTo_23 ?_
    refine va_mmax hx hb (hml.trans hl.1.symm) hown (hts (.methodLink RX1 21 Lib.Math.max.name) (List.mem_of_getElem? (i := 3) rfl)) (hts (.static Lib.Math.max.name) (List.mem_of_getElem? (i := 4) rfl)) (hts (.initialized "java/lang/Math") (List.mem_of_getElem? (i := 5) rfl)) (hts (.code Lib.Math.max.name Lib.Math.max.code 2 (some .int)) (List.mem_of_getElem? (i := 6) rfl)) (Nat.le_of_ble_eq_true rfl) (Nat.le_of_ble_eq_true rfl) (Nat.zero_le _) (Nat.zero_le _) dX1_reachTo_24 ?_
    refine va_mmin hx hb (hml.trans hl.1.symm) hown (hts (.methodLink RX1 27 Lib.Math.min.name) (List.mem_of_getElem? (i := 7) rfl)) (hts (.static Lib.Math.min.name) (List.mem_of_getElem? (i := 8) rfl)) (hts (.initialized "java/lang/Math") (List.mem_of_getElem? (i := 5) rfl)) (hts (.code Lib.Math.min.name Lib.Math.min.code 2 (some .int)) (List.mem_of_getElem? (i := 9) rfl)) (Nat.le_of_ble_eq_true rfl) (Nat.le_of_ble_eq_true rfl) (Nat.zero_le _) (Nat.zero_le _) dX1_reachTo_27 ?_
    refine va_put (D := G) (ci := 1) (v := .int (if (if (p1 + (1 : Int32)) < ((2 : Int32) * v_size) then ((2 : Int32) * v_size) else (p1 + (1 : Int32))) < (2001 : Int32) then (if (p1 + (1 : Int32)) < ((2 : Int32) * v_size) then ((2 : Int32) * v_size) else (p1 + (1 : Int32))) else (2001 : Int32))) (ty := .int) (C := RX1) (T := TX1) (N := 3) hx hb hts hiX1_reachTo_X1 tyX1 tyX1_ok nmX1 hown hK.1 hP hD hS 0 rfl rfl 2 (by decide) (hts (.fieldLink RX1 30 "PackedBends$Leasts" "wanted" "I") (List.mem_of_getElem? (i := 10) rfl)) (fun _ h9 => h9) rfl (by decide +kernel) rfl rfl (Nat.le_of_ble_eq_true rfl) dX1_reachTo_30 (fun H locs hP hD hS => ?_)
    have hP : va_P G vwCl [(q, .inr (1, [.ref q_row, .int v_size, .int (if (if (p1 + (1 : Int32)) < ((2 : Int32) * v_size) then ((2 : Int32) * v_size) else (p1 + (1 : Int32))) < (2001 : Int32) then (if (p1 + (1 : Int32)) < ((2 : Int32) * v_size) then ((2 : Int32) * v_size) else (p1 + (1 : Int32))) else (2001 : Int32))])), (q_row, .inl (cJ, 2001, .inr (.inl v_row))), (q_a2, .inl (cJ, 4, .inr (.inl v_a2))), (q_a3, .inr (7, [.ref q_a3_row, .ref q_a3_four, .int v_a3_depth])), (q_a3_row, .inl (cI, 2001, .inl v_a3_row)), (q_a3_four, .inl (cJ, 4, .inr (.inl v_a3_four)))] H := hP
    have hD : va_D A [(q, .inr (1, [.ref q_row, .int v_size, .int (if (if (p1 + (1 : Int32)) < ((2 : Int32) * v_size) then ((2 : Int32) * v_size) else (p1 + (1 : Int32))) < (2001 : Int32) then (if (p1 + (1 : Int32)) < ((2 : Int32) * v_size) then ((2 : Int32) * v_size) else (p1 + (1 : Int32))) else (2001 : Int32))])), (q_row, .inl (cJ, 2001, .inr (.inl v_row))), (q_a2, .inl (cJ, 4, .inr (.inl v_a2))), (q_a3, .inr (7, [.ref q_a3_row, .ref q_a3_four, .int v_a3_depth])), (q_a3_row, .inl (cI, 2001, .inl v_a3_row)), (q_a3_four, .inl (cJ, 4, .inr (.inl v_a3_four)))] := hD
    refine lv_aload_n hx hb dX1_reachTo_33 rfl (lv_at hl 0 rfl) ?_
    refine lv_iconst (v := 0) hx hb dX1_reachTo_34 (by decide) ?_
    refine va_put (D := G) (ci := 1) (v := .int (0 : Int32)) (ty := .int) (C := RX1) (T := TX1) (N := 3) hx hb hts hiX1_reachTo_X1 tyX1 tyX1_ok nmX1 hown hK.1 hP hD hS 0 rfl rfl 1 (by decide) (hts (.fieldLink RX1 15 "PackedBends$Leasts" "size" "I") (List.mem_of_getElem? (i := 1) rfl)) (fun _ h9 => h9) rfl (by decide +kernel) rfl rfl (Nat.le_of_ble_eq_true rfl) dX1_reachTo_35 (fun H locs hP hD hS => ?_)
    have hP : va_P G vwCl [(q, .inr (1, [.ref q_row, .int (0 : Int32), .int (if (if (p1 + (1 : Int32)) < ((2 : Int32) * v_size) then ((2 : Int32) * v_size) else (p1 + (1 : Int32))) < (2001 : Int32) then (if (p1 + (1 : Int32)) < ((2 : Int32) * v_size) then ((2 : Int32) * v_size) else (p1 + (1 : Int32))) else (2001 : Int32))])), (q_row, .inl (cJ, 2001, .inr (.inl v_row))), (q_a2, .inl (cJ, 4, .inr (.inl v_a2))), (q_a3, .inr (7, [.ref q_a3_row, .ref q_a3_four, .int v_a3_depth])), (q_a3_row, .inl (cI, 2001, .inl v_a3_row)), (q_a3_four, .inl (cJ, 4, .inr (.inl v_a3_four)))] H := hP
    have hD : va_D A [(q, .inr (1, [.ref q_row, .int (0 : Int32), .int (if (if (p1 + (1 : Int32)) < ((2 : Int32) * v_size) then ((2 : Int32) * v_size) else (p1 + (1 : Int32))) < (2001 : Int32) then (if (p1 + (1 : Int32)) < ((2 : Int32) * v_size) then ((2 : Int32) * v_size) else (p1 + (1 : Int32))) else (2001 : Int32))])), (q_row, .inl (cJ, 2001, .inr (.inl v_row))), (q_a2, .inl (cJ, 4, .inr (.inl v_a2))), (q_a3, .inr (7, [.ref q_a3_row, .ref q_a3_four, .int v_a3_depth])), (q_a3_row, .inl (cI, 2001, .inl v_a3_row)), (q_a3_four, .inl (cJ, 4, .inr (.inl v_a3_four)))] := hD
    refine lv_ldc2 (v := 2) hx hb hown (hts (.constantLong RX1 33 (2)) (List.mem_of_getElem? (i := 11) rfl)) dX1_reachTo_38 ?_
    refine lv_aload_n hx hb dX1_reachTo_41 rfl (lv_at hl 2 rfl) ?_
    refine lv_iconst (v := 3) hx hb dX1_reachTo_42 (by decide) ?_
    refine va_lald hx hb hK.1 hP 2 1 rfl rfl (vp_in_iff.mpr (by decide)) dX1_reachTo_43 ?_
    refine lv_lmul hx hb dX1_reachTo_44 ?_
    refine lv_lstore (lv' := [(4, .long ((2 : Int64) * (v_a2 (3 : Int32).toNatClampNeg))), (0, .ref q), (1, .int p1), (2, .ref q_a2), (3, .ref q_a3)]) hx hb dX1_reachTo_45 hl (by decide) rfl (fun ls hl => ?_)
    refine lv_iconst (v := 0) hx hb dX1_reachTo_47 (by decide) ?_
    refine lv_istore (lv' := [(6, .int (0 : Int32)), (4, .long ((2 : Int64) * (v_a2 (3 : Int32).toNatClampNeg))), (0, .ref q), (1, .int p1), (2, .ref q_a2), (3, .ref q_a3)]) hx hb dX1_reachTo_48 hl (by decide) rfl (fun ls hl => ?_)
    refine hL50 p1 (if (if (p1 + (1 : Int32)) < ((2 : Int32) * v_size) then ((2 : Int32) * v_size) else (p1 + (1 : Int32))) < (2001 : Int32) then (if (p1 + (1 : Int32)) < ((2 : Int32) * v_size) then ((2 : Int32) * v_size) else (p1 + (1 : Int32))) else (2001 : Int32)) _ (fun y4_5 y6_5 u5_size u5_row u5_a3_depth u5_a3_row u5_a3_four H locs ls hf hP hD hS hl => ?_) n ((2 : Int64) * (v_a2 (3 : Int32).toNatClampNeg)) (0 : Int32) (0 : Int32) v_row v_a3_depth v_a3_row v_a3_four _ _ _ hf hP hD hS (lv_sub hl [2, 3, 4, 5, 1, 0] rfl)
    have hP : va_P G vwCl [(q, .inr (1, [.ref q_row, .int u5_size, .int (if (if (p1 + (1 : Int32)) < ((2 : Int32) * v_size) then ((2 : Int32) * v_size) else (p1 + (1 : Int32))) < (2001 : Int32) then (if (p1 + (1 : Int32)) < ((2 : Int32) * v_size) then ((2 : Int32) * v_size) else (p1 + (1 : Int32))) else (2001 : Int32))])), (q_row, .inl (cJ, 2001, .inr (.inl u5_row))), (q_a2, .inl (cJ, 4, .inr (.inl v_a2))), (q_a3, .inr (7, [.ref q_a3_row, .ref q_a3_four, .int u5_a3_depth])), (q_a3_row, .inl (cI, 2001, .inl u5_a3_row)), (q_a3_four, .inl (cJ, 4, .inr (.inl u5_a3_four)))] H := hP
    have hD : va_D A [(q, .inr (1, [.ref q_row, .int u5_size, .int (if (if (p1 + (1 : Int32)) < ((2 : Int32) * v_size) then ((2 : Int32) * v_size) else (p1 + (1 : Int32))) < (2001 : Int32) then (if (p1 + (1 : Int32)) < ((2 : Int32) * v_size) then ((2 : Int32) * v_size) else (p1 + (1 : Int32))) else (2001 : Int32))])), (q_row, .inl (cJ, 2001, .inr (.inl u5_row))), (q_a2, .inl (cJ, 4, .inr (.inl v_a2))), (q_a3, .inr (7, [.ref q_a3_row, .ref q_a3_four, .int u5_a3_depth])), (q_a3_row, .inl (cI, 2001, .inl u5_a3_row)), (q_a3_four, .inl (cJ, 4, .inr (.inl u5_a3_four)))] := hD
    refine lv_aload_n hx hb dX1_reachTo_90 rfl (lv_at hl 0 rfl) ?_
    obtain ⟨r6, hc6, hf⟩ := ob_s hf
    refine bk_v (wc := [(q, .inr (1, [.ref q_row, .int u5_size, .int (if (if (p1 + (1 : Int32)) < ((2 : Int32) * v_size) then ((2 : Int32) * v_size) else (p1 + (1 : Int32))) < (2001 : Int32) then (if (p1 + (1 : Int32)) < ((2 : Int32) * v_size) then ((2 : Int32) * v_size) else (p1 + (1 : Int32))) else (2001 : Int32))])), (q_row, .inl (cJ, 2001, .inr (.inl u5_row)))]) (wc2 := [(q, .inr (1, [.ref q_row, .int u5_size, .int (if (if (p1 + (1 : Int32)) < ((2 : Int32) * v_size) then ((2 : Int32) * v_size) else (p1 + (1 : Int32))) < (2001 : Int32) then (if (p1 + (1 : Int32)) < ((2 : Int32) * v_size) then ((2 : Int32) * v_size) else (p1 + (1 : Int32))) else (2001 : Int32))])), (q_row, .inl (cJ, 2001, .inr (.inl r6)))]) (wr := [(q_a2, .inl (cJ, 4, .inr (.inl v_a2))), (q_a3, .inr (7, [.ref q_a3_row, .ref q_a3_four, .int u5_a3_depth])), (q_a3_row, .inl (cI, 2001, .inl u5_a3_row)), (q_a3_four, .inl (cJ, 4, .inr (.inl u5_a3_four)))]) (ws2 := [(q, .inr (1, [.ref q_row, .int u5_size, .int (if (if (p1 + (1 : Int32)) < ((2 : Int32) * v_size) then ((2 : Int32) * v_size) else (p1 + (1 : Int32))) < (2001 : Int32) then (if (p1 + (1 : Int32)) < ((2 : Int32) * v_size) then ((2 : Int32) * v_size) else (p1 + (1 : Int32))) else (2001 : Int32))])), (q_row, .inl (cJ, 2001, .inr (.inl r6))), (q_a2, .inl (cJ, 4, .inr (.inl v_a2))), (q_a3, .inr (7, [.ref q_a3_row, .ref q_a3_four, .int u5_a3_depth])), (q_a3_row, .inl (cI, 2001, .inl u5_a3_row)), (q_a3_four, .inl (cJ, 4, .inr (.inl u5_a3_four)))]) (va_runV (As := []) (rest := []) ⟨hx, hb, hml, hown, hts⟩ (kX1_straighten (l := l) (G := G) (cI := cI) (cJ := cJ) (cZ := cZ) (cS := cS) (cG := cG) n q q_row u5_size (if (if (p1 + (1 : Int32)) < ((2 : Int32) * v_size) then ((2 : Int32) * v_size) else (p1 + (1 : Int32))) < (2001 : Int32) then (if (p1 + (1 : Int32)) < ((2 : Int32) * v_size) then ((2 : Int32) * v_size) else (p1 + (1 : Int32))) else (2001 : Int32)) u5_row _ hc6 _) (cwV 0 hts gX1_reachTo_X1_straighten rfl rfl rfl (by decide +kernel) ⟨Nat.le_of_ble_eq_true rfl, Nat.le_of_ble_eq_true rfl⟩) (cut_V hK hP hD [0, 1] rfl rfl (ci := 1) (q0 := 0) rfl rfl) rfl rfl hl.1 rfl (lv_room (Nat.le_of_ble_eq_true rfl)) dX1_reachTo_91 ⟨Nat.zero_le _, Nat.zero_le _⟩) hP hD hS hA [0, 1] [2, 3, 4, 5] [4, 5, 0, 1, 2, 3] rfl rfl rfl rfl rfl rfl (fun H locs hP hD hS => ?_)
    cases hf
    rw [← hQ]
    exact rt_v hx hb hr hlk hP hD hS dX1_reachTo_94
  · have hf := if_n hf c1
    cases hf
    rw [← hQ]
    exact rt_v hx hb hr hlk hP hD hS dX1_reachTo_8
def pX2_forget_L2 : Nat → Int32 → (Nat → Int64) → (Int32 → (Nat → Int64) → Option (Int32 × (Nat → Int64))) → Option (Int32 × (Nat → Int64))
  | 0, _, _, _ => none
  | n + 1, x1, v_met, k => if (324 : Int32) ≤ x1 then k x1 v_met else ck (ix x1 324) (pX2_forget_L2 n (x1 + (1 : Int32)) (vp_updL v_met x1.toNatClampNeg (0 : Int64)) k)
def pX2_forget (n : Nat) (v_met : (Nat → Int64)) : Option (Int32 × (Nat → Int64)) := pX2_forget_L2 n (0 : Int32) v_met (fun (y1_3 : Int32) (u3_met : (Nat → Int64)) => some ((0 : Int32), u3_met))
def rmX2_forget : Room := { frames := 0, cells := 0, slots := 0, locals := 0 }
theorem hiX2_forget_X2 : ∀ w ∈ u_ws RX2 TX2 4, w ∈ wsX2_forget := fun _ h => List.mem_cons_of_mem _ (List.mem_append_right _ h)
set_option maxRecDepth 100000 in
set_option maxHeartbeats 4000000 in
theorem kX2_forget {l : Launch} {G : va_G} {cI cJ cZ cS cG : ClassId} (n : Nat) (q q_met q_queue q_four : Nat) (v_size : Int32) (v_met : (Nat → Int64)) (R : Int32 × (Nat → Int64)) (hf : pX2_forget n v_met = some R) : CTv l yX2_forget wsX2_forget rmX2_forget G cI cJ cZ cS cG [.ref q] [(q, .inr (2, [.ref q_met, .ref q_queue, .ref q_four, .int v_size])), (q_met, .inl (cJ, 324, .inr (.inl v_met)))] [(q, .inr (2, [.ref q_met, .ref q_queue, .ref q_four, .int R.1])), (q_met, .inl (cJ, 324, .inr (.inl R.2)))] := by
  refine Met.ofE (Qc := fun A => QRv G A [(q, .inr (2, [.ref q_met, .ref q_queue, .ref q_four, .int R.1])), (q_met, .inl (cJ, 324, .inr (.inl R.2)))]) (cc := cX2_forget) (nL := 2) (ret := none) (plainFor_of_name (by decide +kernel)) rfl (Nat.le_of_ble_eq_true rfl) ?_
  intro p e s m below meth c A ls hx hb hml hr hlk hts hown hK hA hP hD hS hl
  have hown : s.vm.findClass RX2 = some m.cls := hown
  have hl : lv_has ls 2 [(0, .ref q)] := hl
  generalize hQ : MQ below (QRv G A [(q, .inr (2, [.ref q_met, .ref q_queue, .ref q_four, .int R.1])), (q_met, .inl (cJ, 324, .inr (.inl R.2)))]) ([.ref q] : List Value).toArray s 0 0 A = QQ
  unfold pX2_forget at hf
  have hL2 : ∀ (v_size : Int32) (k : Int32 → (Nat → Int64) → Option (Int32 × (Nat → Int64))), (∀ (x1 : Int32) (v_met : (Nat → Int64)) (H : Heap) (locs : List Loc) (ls : Array Slot), k x1 v_met = some R → va_P G vwCl [(q, .inr (2, [.ref q_met, .ref q_queue, .ref q_four, .int v_size])), (q_met, .inl (cJ, 324, .inr (.inl v_met)))] H → va_D A [(q, .inr (2, [.ref q_met, .ref q_queue, .ref q_four, .int v_size])), (q_met, .inl (cJ, 324, .inr (.inl v_met)))] → va_S A s.heap H locs → lv_has ls 2 [(0, .ref q), (1, .int x1)] → W p l e rmX2_forget s m ([.ref q] : List Value).toArray below meth c H locs 0 0 QQ (F0 m 24 ls [])) → ∀ (n : Nat) (x1 : Int32) (v_met : (Nat → Int64)) (H : Heap) (locs : List Loc) (ls : Array Slot), pX2_forget_L2 n x1 v_met k = some R → va_P G vwCl [(q, .inr (2, [.ref q_met, .ref q_queue, .ref q_four, .int v_size])), (q_met, .inl (cJ, 324, .inr (.inl v_met)))] H → va_D A [(q, .inr (2, [.ref q_met, .ref q_queue, .ref q_four, .int v_size])), (q_met, .inl (cJ, 324, .inr (.inl v_met)))] → va_S A s.heap H locs → lv_has ls 2 [(0, .ref q), (1, .int x1)] → W p l e rmX2_forget s m ([.ref q] : List Value).toArray below meth c H locs 0 0 QQ (F0 m 2 ls []) := by
    intro v_size k hk n
    induction n with
    | zero =>
      intro x1 v_met H locs ls hf
      cases hf
    | succ n ih =>
      intro x1 v_met H locs ls hf hP hD hS hl
      unfold pX2_forget_L2 at hf
      refine lv_iload_n hx hb dX2_forget_2 rfl (lv_at hl 1 rfl) ?_
      refine lv_aload_n hx hb dX2_forget_3 rfl (lv_at hl 0 rfl) ?_
      refine va_get (D := G) (ci := 2) (v := .ref q_met) (C := RX2) (T := TX2) (N := 4) hx hb hts hiX2_forget_X2 hown hK.1 hP 0 rfl rfl 0 (by decide) (hts (.fieldLink RX2 11 "PackedBends$Orbit" "met" "[J") (List.mem_of_getElem? (i := 1) rfl)) (fun _ h9 => h9) rfl dX2_forget_4 ?_
      refine va_alen (v := 324) hx hb hK.1 hP 1 1 rfl rfl (show Int32.ofNat 324 = 324 by decide +kernel) dX2_forget_7 ?_
      refine lv_icmp_ge (tgt := 24) hx hb dX2_forget_8 (by decide) (fun c1 => ?_) (fun c1 => ?_)
      · have hf := if_s hf c1
        exact hk x1 v_met _ _ _ hf hP hD hS (lv_sub hl [0, 1] rfl)
      · have hf := if_n hf c1
        refine lv_aload_n hx hb dX2_forget_11 rfl (lv_at hl 0 rfl) ?_
        refine va_get (D := G) (ci := 2) (v := .ref q_met) (C := RX2) (T := TX2) (N := 4) hx hb hts hiX2_forget_X2 hown hK.1 hP 0 rfl rfl 0 (by decide) (hts (.fieldLink RX2 11 "PackedBends$Orbit" "met" "[J") (List.mem_of_getElem? (i := 1) rfl)) (fun _ h9 => h9) rfl dX2_forget_12 ?_
        refine lv_iload_n hx hb dX2_forget_15 rfl (lv_at hl 1 rfl) ?_
        refine lv_lconst (v := 0) hx hb dX2_forget_16 (by decide) ?_
        obtain ⟨z2, hf⟩ := ck_s hf
        refine va_last hx hb hK.1 hP hD hS 1 1 rfl rfl (vp_in_iff.mpr z2) dX2_forget_17 (fun H locs hP hD hS => ?_)
        have hP : va_P G vwCl [(q, .inr (2, [.ref q_met, .ref q_queue, .ref q_four, .int v_size])), (q_met, .inl (cJ, 324, .inr (.inl (vp_updL v_met x1.toNatClampNeg (0 : Int64)))))] H := hP
        have hD : va_D A [(q, .inr (2, [.ref q_met, .ref q_queue, .ref q_four, .int v_size])), (q_met, .inl (cJ, 324, .inr (.inl (vp_updL v_met x1.toNatClampNeg (0 : Int64)))))] := hD
        refine lv_iinc (v := x1 + (1 : Int32)) (lv' := [(1, .int (x1 + (1 : Int32))), (0, .ref q)]) hx hb dX2_forget_18 hl (k := 1) rfl rfl (by decide) rfl (fun ls hl => ?_)
        refine lv_goto (tgt := 2) hx hb dX2_forget_21 (by decide) ?_
        exact ih (x1 + (1 : Int32)) (vp_updL v_met x1.toNatClampNeg (0 : Int64)) _ _ _ hf hP hD hS (lv_sub hl [1, 0] rfl)
  refine lv_iconst (v := 0) hx hb dX2_forget_0 (by decide) ?_
  refine lv_istore_n (lv' := [(1, .int (0 : Int32)), (0, .ref q)]) hx hb dX2_forget_1 rfl hl (by decide) rfl (fun ls hl => ?_)
  refine hL2 v_size _ (fun y1_3 u3_met H locs ls hf hP hD hS hl => ?_) n (0 : Int32) v_met _ _ _ hf hP hD hS (lv_sub hl [1, 0] rfl)
  have hP : va_P G vwCl [(q, .inr (2, [.ref q_met, .ref q_queue, .ref q_four, .int v_size])), (q_met, .inl (cJ, 324, .inr (.inl u3_met)))] H := hP
  have hD : va_D A [(q, .inr (2, [.ref q_met, .ref q_queue, .ref q_four, .int v_size])), (q_met, .inl (cJ, 324, .inr (.inl u3_met)))] := hD
  refine lv_aload_n hx hb dX2_forget_24 rfl (lv_at hl 0 rfl) ?_
  refine lv_iconst (v := 0) hx hb dX2_forget_25 (by decide) ?_
  refine va_put (D := G) (ci := 2) (v := .int (0 : Int32)) (ty := .int) (C := RX2) (T := TX2) (N := 4) hx hb hts hiX2_forget_X2 tyX2 tyX2_ok nmX2 hown hK.1 hP hD hS 0 rfl rfl 3 (by decide) (hts (.fieldLink RX2 35 "PackedBends$Orbit" "size" "I") (List.mem_of_getElem? (i := 2) rfl)) (fun _ h9 => h9) rfl (by decide +kernel) rfl rfl (Nat.le_of_ble_eq_true rfl) dX2_forget_26 (fun H locs hP hD hS => ?_)
  have hP : va_P G vwCl [(q, .inr (2, [.ref q_met, .ref q_queue, .ref q_four, .int (0 : Int32)])), (q_met, .inl (cJ, 324, .inr (.inl u3_met)))] H := hP
  have hD : va_D A [(q, .inr (2, [.ref q_met, .ref q_queue, .ref q_four, .int (0 : Int32)])), (q_met, .inl (cJ, 324, .inr (.inl u3_met)))] := hD
  cases hf
  rw [← hQ]
  exact rt_v hx hb hr hlk hP hD hS dX2_forget_29
def pX2_pack_L4 (x1 : Int32) (v_four : (Nat → Int32)) : Nat → Int32 → Int32 → (Int32 → Int32 → Option (Int32)) → Option (Int32)
  | 0, _, _, _ => none
  | n + 1, x2, x3, k => if x3 < 0 then k x2 x3 else ck (ix x3 4) (pX2_pack_L4 x1 v_four n ((x2 * x1) + (v_four x3.toNatClampNeg)) (x3 + (-1 : Int32)) k)
def pX2_pack (n : Nat) (v_four : (Nat → Int32)) (p1 : Int32) : Option (Int32) := pX2_pack_L4 p1 v_four n (0 : Int32) (3 : Int32) (fun (y2_3 : Int32) (y3_3 : Int32) => some y2_3)
def rmX2_pack : Room := { frames := 0, cells := 0, slots := 0, locals := 0 }
theorem hiX2_pack_X2 : ∀ w ∈ u_ws RX2 TX2 4, w ∈ wsX2_pack := fun _ h => List.mem_cons_of_mem _ (List.mem_append_right _ h)
set_option maxRecDepth 100000 in
set_option maxHeartbeats 4000000 in
theorem kX2_pack {l : Launch} {G : va_G} {cI cJ cZ cS cG : ClassId} (n : Nat) (q q_met q_queue q_four : Nat) (v_size : Int32) (v_four : (Nat → Int32)) (p1 : Int32) (R : Int32) (hf : pX2_pack n v_four p1 = some R) : CTi l yX2_pack wsX2_pack rmX2_pack G cI cJ cZ cS cG [.ref q, .int p1] [(q, .inr (2, [.ref q_met, .ref q_queue, .ref q_four, .int v_size])), (q_four, .inl (cI, 4, .inl v_four))] [(q, .inr (2, [.ref q_met, .ref q_queue, .ref q_four, .int v_size])), (q_four, .inl (cI, 4, .inl v_four))] R := by
  refine Met.ofE (Qc := fun A => QRi G A [(q, .inr (2, [.ref q_met, .ref q_queue, .ref q_four, .int v_size])), (q_four, .inl (cI, 4, .inl v_four))] R) (cc := cX2_pack) (nL := 4) (ret := some .int) (plainFor_of_name (by decide +kernel)) rfl (Nat.le_of_ble_eq_true rfl) ?_
  intro p e s m below meth c A ls hx hb hml hr hlk hts hown hK hA hP hD hS hl
  have hown : s.vm.findClass RX2 = some m.cls := hown
  have hl : lv_has ls 4 [(0, .ref q), (1, .int p1)] := hl
  generalize hQ : MQ below (QRi G A [(q, .inr (2, [.ref q_met, .ref q_queue, .ref q_four, .int v_size])), (q_four, .inl (cI, 4, .inl v_four))] R) ([.ref q, .int p1] : List Value).toArray s 0 0 A = QQ
  unfold pX2_pack at hf
  have hL4 : ∀ (x1 : Int32) (k : Int32 → Int32 → Option (Int32)), (∀ (x2 : Int32) (x3 : Int32) (H : Heap) (locs : List Loc) (ls : Array Slot), k x2 x3 = some R → va_P G vwCl [(q, .inr (2, [.ref q_met, .ref q_queue, .ref q_four, .int v_size])), (q_four, .inl (cI, 4, .inl v_four))] H → va_D A [(q, .inr (2, [.ref q_met, .ref q_queue, .ref q_four, .int v_size])), (q_four, .inl (cI, 4, .inl v_four))] → va_S A s.heap H locs → lv_has ls 4 [(0, .ref q), (1, .int x1), (2, .int x2), (3, .int x3)] → W p l e rmX2_pack s m ([.ref q, .int p1] : List Value).toArray below meth c H locs 0 0 QQ (F0 m 25 ls [])) → ∀ (n : Nat) (x2 : Int32) (x3 : Int32) (H : Heap) (locs : List Loc) (ls : Array Slot), pX2_pack_L4 x1 v_four n x2 x3 k = some R → va_P G vwCl [(q, .inr (2, [.ref q_met, .ref q_queue, .ref q_four, .int v_size])), (q_four, .inl (cI, 4, .inl v_four))] H → va_D A [(q, .inr (2, [.ref q_met, .ref q_queue, .ref q_four, .int v_size])), (q_four, .inl (cI, 4, .inl v_four))] → va_S A s.heap H locs → lv_has ls 4 [(0, .ref q), (1, .int x1), (2, .int x2), (3, .int x3)] → W p l e rmX2_pack s m ([.ref q, .int p1] : List Value).toArray below meth c H locs 0 0 QQ (F0 m 4 ls []) := by
    intro x1 k hk n
    induction n with
    | zero =>
      intro x2 x3 H locs ls hf
      cases hf
    | succ n ih =>
      intro x2 x3 H locs ls hf hP hD hS hl
      unfold pX2_pack_L4 at hf
      refine lv_iload_n hx hb dX2_pack_4 rfl (lv_at hl 3 rfl) ?_
      refine lv_if_lt (tgt := 25) hx hb dX2_pack_5 (by decide) (fun c1 => ?_) (fun c1 => ?_)
      · have hf := if_s hf c1
        exact hk x2 x3 _ _ _ hf hP hD hS (lv_sub hl [0, 1, 2, 3] rfl)
      · have hf := if_n hf c1
        refine lv_iload_n hx hb dX2_pack_8 rfl (lv_at hl 2 rfl) ?_
        refine lv_iload_n hx hb dX2_pack_9 rfl (lv_at hl 1 rfl) ?_
        refine lv_imul hx hb dX2_pack_10 ?_
        refine lv_aload_n hx hb dX2_pack_11 rfl (lv_at hl 0 rfl) ?_
        refine va_get (D := G) (ci := 2) (v := .ref q_four) (C := RX2) (T := TX2) (N := 4) hx hb hts hiX2_pack_X2 hown hK.1 hP 0 rfl rfl 2 (by decide) (hts (.fieldLink RX2 19 "PackedBends$Orbit" "four" "[I") (List.mem_of_getElem? (i := 1) rfl)) (fun _ h9 => h9) rfl dX2_pack_12 ?_
        refine lv_iload_n hx hb dX2_pack_15 rfl (lv_at hl 3 rfl) ?_
        obtain ⟨z2, hf⟩ := ck_s hf
        refine va_iald hx hb hK.1 hP 1 0 rfl rfl (vp_in_iff.mpr z2) dX2_pack_16 ?_
        refine lv_iadd hx hb dX2_pack_17 ?_
        refine lv_istore_n (lv' := [(2, .int ((x2 * x1) + (v_four x3.toNatClampNeg))), (0, .ref q), (1, .int x1), (3, .int x3)]) hx hb dX2_pack_18 rfl hl (by decide) rfl (fun ls hl => ?_)
        refine lv_iinc (v := x3 + (-1 : Int32)) (lv' := [(3, .int (x3 + (-1 : Int32))), (2, .int ((x2 * x1) + (v_four x3.toNatClampNeg))), (0, .ref q), (1, .int x1)]) hx hb dX2_pack_19 hl (k := 3) rfl rfl (by decide) rfl (fun ls hl => ?_)
        refine lv_goto (tgt := 4) hx hb dX2_pack_22 (by decide) ?_
        exact ih ((x2 * x1) + (v_four x3.toNatClampNeg)) (x3 + (-1 : Int32)) _ _ _ hf hP hD hS (lv_sub hl [2, 3, 1, 0] rfl)
  refine lv_iconst (v := 0) hx hb dX2_pack_0 (by decide) ?_
  refine lv_istore_n (lv' := [(2, .int (0 : Int32)), (0, .ref q), (1, .int p1)]) hx hb dX2_pack_1 rfl hl (by decide) rfl (fun ls hl => ?_)
  refine lv_iconst (v := 3) hx hb dX2_pack_2 (by decide) ?_
  refine lv_istore_n (lv' := [(3, .int (3 : Int32)), (2, .int (0 : Int32)), (0, .ref q), (1, .int p1)]) hx hb dX2_pack_3 rfl hl (by decide) rfl (fun ls hl => ?_)
  refine hL4 p1 _ (fun y2_3 y3_3 H locs ls hf hP hD hS hl => ?_) n (0 : Int32) (3 : Int32) _ _ _ hf hP hD hS (lv_sub hl [2, 3, 1, 0] rfl)
  have hP : va_P G vwCl [(q, .inr (2, [.ref q_met, .ref q_queue, .ref q_four, .int v_size])), (q_four, .inl (cI, 4, .inl v_four))] H := hP
  have hD : va_D A [(q, .inr (2, [.ref q_met, .ref q_queue, .ref q_four, .int v_size])), (q_four, .inl (cI, 4, .inl v_four))] := hD
  refine lv_iload_n hx hb dX2_pack_25 rfl (lv_at hl 2 rfl) ?_
  cases hf
  rw [← hQ]
  exact rt_i hx hb hr hlk hP hD hS rfl dX2_pack_26
def pX2_meet (n : Nat) (v_size : Int32) (v_met : (Nat → Int64)) (v_queue : (Nat → Int32)) (v_four : (Nat → Int32)) (p1 : Int32) : Option (Int32 × (Nat → Int64) × (Nat → Int32)) := Option.bind (pX2_pack n v_four p1) (fun r1 => ck (ix (r1 / (64 : Int32)) 324) (if ((v_met (r1 / (64 : Int32)).toNatClampNeg) &&& ((1 : Int64) <<< ((r1 - r1 / (64 : Int32) * (64 : Int32)).toInt64 &&& 63))) = (0 : Int64) then if (1220 : Int32) ≤ v_size then some (v_size, v_met, v_queue) else ck (ix v_size 1220) (some (v_size + (1 : Int32), vp_updL v_met (r1 / (64 : Int32)).toNatClampNeg ((v_met (r1 / (64 : Int32)).toNatClampNeg) ||| ((1 : Int64) <<< ((r1 - r1 / (64 : Int32) * (64 : Int32)).toInt64 &&& 63))), upd v_queue v_size.toNatClampNeg r1)) else some (v_size, v_met, v_queue)))
def rmX2_meet : Room := { frames := 1, cells := 0, slots := 0, locals := 23 }
theorem hiX2_meet_X2 : ∀ w ∈ u_ws RX2 TX2 4, w ∈ wsX2_meet := fun _ h => List.mem_cons_of_mem _ (List.mem_append_right _ h)
set_option maxRecDepth 100000 in
set_option maxHeartbeats 4000000 in
theorem kX2_meet {l : Launch} {G : va_G} {cI cJ cZ cS cG : ClassId} (n : Nat) (q q_met q_queue q_four : Nat) (v_size : Int32) (v_met : (Nat → Int64)) (v_queue : (Nat → Int32)) (v_four : (Nat → Int32)) (p1 : Int32) (R : Int32 × (Nat → Int64) × (Nat → Int32)) (hf : pX2_meet n v_size v_met v_queue v_four p1 = some R) : CTv l yX2_meet wsX2_meet rmX2_meet G cI cJ cZ cS cG [.ref q, .int p1] [(q, .inr (2, [.ref q_met, .ref q_queue, .ref q_four, .int v_size])), (q_met, .inl (cJ, 324, .inr (.inl v_met))), (q_queue, .inl (cI, 1220, .inl v_queue)), (q_four, .inl (cI, 4, .inl v_four))] [(q, .inr (2, [.ref q_met, .ref q_queue, .ref q_four, .int R.1])), (q_met, .inl (cJ, 324, .inr (.inl R.2.1))), (q_queue, .inl (cI, 1220, .inl R.2.2)), (q_four, .inl (cI, 4, .inl v_four))] := by
  refine Met.ofE (Qc := fun A => QRv G A [(q, .inr (2, [.ref q_met, .ref q_queue, .ref q_four, .int R.1])), (q_met, .inl (cJ, 324, .inr (.inl R.2.1))), (q_queue, .inl (cI, 1220, .inl R.2.2)), (q_four, .inl (cI, 4, .inl v_four))]) (cc := cX2_meet) (nL := 5) (ret := none) (plainFor_of_name (by decide +kernel)) rfl (Nat.le_of_ble_eq_true rfl) ?_
  intro p e s m below meth c A ls hx hb hml hr hlk hts hown hK hA hP hD hS hl
  have hown : s.vm.findClass RX2 = some m.cls := hown
  have hl : lv_has ls 5 [(0, .ref q), (1, .int p1)] := hl
  generalize hQ : MQ below (QRv G A [(q, .inr (2, [.ref q_met, .ref q_queue, .ref q_four, .int R.1])), (q_met, .inl (cJ, 324, .inr (.inl R.2.1))), (q_queue, .inl (cI, 1220, .inl R.2.2)), (q_four, .inl (cI, 4, .inl v_four))]) ([.ref q, .int p1] : List Value).toArray s 0 0 A = QQ
  unfold pX2_meet at hf
  refine lv_aload_n hx hb dX2_meet_0 rfl (lv_at hl 0 rfl) ?_
  refine lv_iload_n hx hb dX2_meet_1 rfl (lv_at hl 1 rfl) ?_
  obtain ⟨r1, hc1, hf⟩ := ob_s hf
  refine bk_i (wc := [(q, .inr (2, [.ref q_met, .ref q_queue, .ref q_four, .int v_size])), (q_four, .inl (cI, 4, .inl v_four))]) (wc2 := [(q, .inr (2, [.ref q_met, .ref q_queue, .ref q_four, .int v_size])), (q_four, .inl (cI, 4, .inl v_four))]) (wr := [(q_met, .inl (cJ, 324, .inr (.inl v_met))), (q_queue, .inl (cI, 1220, .inl v_queue))]) (ws2 := [(q, .inr (2, [.ref q_met, .ref q_queue, .ref q_four, .int v_size])), (q_met, .inl (cJ, 324, .inr (.inl v_met))), (q_queue, .inl (cI, 1220, .inl v_queue)), (q_four, .inl (cI, 4, .inl v_four))]) (r := r1) (va_runV (As := [.int p1]) (rest := []) ⟨hx, hb, hml, hown, hts⟩ (kX2_pack (l := l) (G := G) (cI := cI) (cJ := cJ) (cZ := cZ) (cS := cS) (cG := cG) n q q_met q_queue q_four v_size v_four p1 _ hc1 _) (cwV 1 hts gX2_meet_X2_pack rfl rfl rfl (by decide +kernel) ⟨Nat.le_of_ble_eq_true rfl, Nat.le_of_ble_eq_true rfl⟩) (cut_V hK hP hD [0, 3] rfl rfl (ci := 2) (q0 := 0) rfl rfl) rfl rfl hl.1 rfl (lv_room (Nat.le_of_ble_eq_true rfl)) dX2_meet_2 ⟨Nat.zero_le _, Nat.zero_le _⟩) hP hD hS hA [0, 3] [1, 2] [2, 0, 1, 3] rfl rfl rfl rfl rfl rfl (fun H locs hP hD hS => ?_)
  refine lv_istore_n (lv' := [(2, .int r1), (0, .ref q), (1, .int p1)]) hx hb dX2_meet_5 rfl hl (by decide) rfl (fun ls hl => ?_)
  refine lv_lconst (v := 1) hx hb dX2_meet_6 (by decide) ?_
  refine lv_iload_n hx hb dX2_meet_7 rfl (lv_at hl 0 rfl) ?_
  refine lv_bipush (v := 64) hx hb dX2_meet_8 (by decide) ?_
  refine lv_irem hx hb dX2_meet_10 (by decide) ?_
  refine lv_lshl hx hb dX2_meet_11 rfl ?_
  refine lv_lstore_n (lv' := [(3, .long ((1 : Int64) <<< ((r1 - r1 / (64 : Int32) * (64 : Int32)).toInt64 &&& 63))), (2, .int r1), (0, .ref q), (1, .int p1)]) hx hb dX2_meet_12 rfl hl (by decide) rfl (fun ls hl => ?_)
  refine lv_aload_n hx hb dX2_meet_13 rfl (lv_at hl 2 rfl) ?_
  refine va_get (D := G) (ci := 2) (v := .ref q_met) (C := RX2) (T := TX2) (N := 4) hx hb hts hiX2_meet_X2 hown hK.1 hP 0 rfl rfl 0 (by decide) (hts (.fieldLink RX2 11 "PackedBends$Orbit" "met" "[J") (List.mem_of_getElem? (i := 1) rfl)) (fun _ h9 => h9) rfl dX2_meet_14 ?_
  refine lv_iload_n hx hb dX2_meet_17 rfl (lv_at hl 1 rfl) ?_
  refine lv_bipush (v := 64) hx hb dX2_meet_18 (by decide) ?_
  refine lv_idiv hx hb dX2_meet_20 (by decide) ?_
  obtain ⟨z2, hf⟩ := ck_s hf
  refine va_lald hx hb hK.1 hP 1 1 rfl rfl (vp_in_iff.mpr z2) dX2_meet_21 ?_
  refine lv_lload_n hx hb dX2_meet_22 rfl (lv_at hl 0 rfl) ?_
  refine lv_land hx hb dX2_meet_23 ?_
  refine lv_lconst (v := 0) hx hb dX2_meet_24 (by decide) ?_
  refine lc_ne (tgt := 74) hx hb dX2_meet_25 dX2_meet_26 (by decide) (fun c3 => ?_) (fun c3 => ?_)
  · have hf := if_n hf c3
    cases hf
    rw [← hQ]
    exact rt_v hx hb hr hlk hP hD hS dX2_meet_74
  · have hf := if_s hf c3
    refine lv_aload_n hx hb dX2_meet_29 rfl (lv_at hl 2 rfl) ?_
    refine va_get (D := G) (ci := 2) (v := .int v_size) (C := RX2) (T := TX2) (N := 4) hx hb hts hiX2_meet_X2 hown hK.1 hP 0 rfl rfl 3 (by decide) (hts (.fieldLink RX2 35 "PackedBends$Orbit" "size" "I") (List.mem_of_getElem? (i := 2) rfl)) (fun _ h9 => h9) rfl dX2_meet_30 ?_
    refine lv_aload_n hx hb dX2_meet_33 rfl (lv_at hl 2 rfl) ?_
    refine va_get (D := G) (ci := 2) (v := .ref q_queue) (C := RX2) (T := TX2) (N := 4) hx hb hts hiX2_meet_X2 hown hK.1 hP 0 rfl rfl 1 (by decide) (hts (.fieldLink RX2 15 "PackedBends$Orbit" "queue" "[I") (List.mem_of_getElem? (i := 3) rfl)) (fun _ h9 => h9) rfl dX2_meet_34 ?_
    refine va_alen (v := 1220) hx hb hK.1 hP 2 0 rfl rfl (show Int32.ofNat 1220 = 1220 by decide +kernel) dX2_meet_37 ?_
    refine lv_icmp_ge (tgt := 74) hx hb dX2_meet_38 (by decide) (fun c4 => ?_) (fun c4 => ?_)
    · have hf := if_s hf c4
      cases hf
      rw [← hQ]
      exact rt_v hx hb hr hlk hP hD hS dX2_meet_74
    · have hf := if_n hf c4
      refine lv_aload_n hx hb dX2_meet_41 rfl (lv_at hl 2 rfl) ?_
      refine va_get (D := G) (ci := 2) (v := .ref q_met) (C := RX2) (T := TX2) (N := 4) hx hb hts hiX2_meet_X2 hown hK.1 hP 0 rfl rfl 0 (by decide) (hts (.fieldLink RX2 11 "PackedBends$Orbit" "met" "[J") (List.mem_of_getElem? (i := 1) rfl)) (fun _ h9 => h9) rfl dX2_meet_42 ?_
      refine lv_iload_n hx hb dX2_meet_45 rfl (lv_at hl 1 rfl) ?_
      refine lv_bipush (v := 64) hx hb dX2_meet_46 (by decide) ?_
      refine lv_idiv hx hb dX2_meet_48 (by decide) ?_
      refine lv_dup2_11 hx hb dX2_meet_49 rfl rfl ?_
      refine va_lald hx hb hK.1 hP 1 1 rfl rfl (vp_in_iff.mpr z2) dX2_meet_50 ?_
      refine lv_lload_n hx hb dX2_meet_51 rfl (lv_at hl 0 rfl) ?_
      refine lv_lor hx hb dX2_meet_52 ?_
      refine va_last hx hb hK.1 hP hD hS 1 1 rfl rfl (vp_in_iff.mpr z2) dX2_meet_53 (fun H locs hP hD hS => ?_)
      have hP : va_P G vwCl [(q, .inr (2, [.ref q_met, .ref q_queue, .ref q_four, .int v_size])), (q_met, .inl (cJ, 324, .inr (.inl (vp_updL v_met (r1 / (64 : Int32)).toNatClampNeg ((v_met (r1 / (64 : Int32)).toNatClampNeg) ||| ((1 : Int64) <<< ((r1 - r1 / (64 : Int32) * (64 : Int32)).toInt64 &&& 63))))))), (q_queue, .inl (cI, 1220, .inl v_queue)), (q_four, .inl (cI, 4, .inl v_four))] H := hP
      have hD : va_D A [(q, .inr (2, [.ref q_met, .ref q_queue, .ref q_four, .int v_size])), (q_met, .inl (cJ, 324, .inr (.inl (vp_updL v_met (r1 / (64 : Int32)).toNatClampNeg ((v_met (r1 / (64 : Int32)).toNatClampNeg) ||| ((1 : Int64) <<< ((r1 - r1 / (64 : Int32) * (64 : Int32)).toInt64 &&& 63))))))), (q_queue, .inl (cI, 1220, .inl v_queue)), (q_four, .inl (cI, 4, .inl v_four))] := hD
      refine lv_aload_n hx hb dX2_meet_54 rfl (lv_at hl 2 rfl) ?_
      refine va_get (D := G) (ci := 2) (v := .ref q_queue) (C := RX2) (T := TX2) (N := 4) hx hb hts hiX2_meet_X2 hown hK.1 hP 0 rfl rfl 1 (by decide) (hts (.fieldLink RX2 15 "PackedBends$Orbit" "queue" "[I") (List.mem_of_getElem? (i := 3) rfl)) (fun _ h9 => h9) rfl dX2_meet_55 ?_
      refine lv_aload_n hx hb dX2_meet_58 rfl (lv_at hl 2 rfl) ?_
      refine va_get (D := G) (ci := 2) (v := .int v_size) (C := RX2) (T := TX2) (N := 4) hx hb hts hiX2_meet_X2 hown hK.1 hP 0 rfl rfl 3 (by decide) (hts (.fieldLink RX2 35 "PackedBends$Orbit" "size" "I") (List.mem_of_getElem? (i := 2) rfl)) (fun _ h9 => h9) rfl dX2_meet_59 ?_
      refine lv_iload_n hx hb dX2_meet_62 rfl (lv_at hl 1 rfl) ?_
      obtain ⟨z5, hf⟩ := ck_s hf
      refine va_iast hx hb hK.1 hP hD hS 2 0 rfl rfl (vp_in_iff.mpr z5) dX2_meet_63 (fun H locs hP hD hS => ?_)
      have hP : va_P G vwCl [(q, .inr (2, [.ref q_met, .ref q_queue, .ref q_four, .int v_size])), (q_met, .inl (cJ, 324, .inr (.inl (vp_updL v_met (r1 / (64 : Int32)).toNatClampNeg ((v_met (r1 / (64 : Int32)).toNatClampNeg) ||| ((1 : Int64) <<< ((r1 - r1 / (64 : Int32) * (64 : Int32)).toInt64 &&& 63))))))), (q_queue, .inl (cI, 1220, .inl (upd v_queue v_size.toNatClampNeg r1))), (q_four, .inl (cI, 4, .inl v_four))] H := hP
      have hD : va_D A [(q, .inr (2, [.ref q_met, .ref q_queue, .ref q_four, .int v_size])), (q_met, .inl (cJ, 324, .inr (.inl (vp_updL v_met (r1 / (64 : Int32)).toNatClampNeg ((v_met (r1 / (64 : Int32)).toNatClampNeg) ||| ((1 : Int64) <<< ((r1 - r1 / (64 : Int32) * (64 : Int32)).toInt64 &&& 63))))))), (q_queue, .inl (cI, 1220, .inl (upd v_queue v_size.toNatClampNeg r1))), (q_four, .inl (cI, 4, .inl v_four))] := hD
      refine lv_aload_n hx hb dX2_meet_64 rfl (lv_at hl 2 rfl) ?_
      refine lv_dup hx hb dX2_meet_65 rfl ?_
      refine va_get (D := G) (ci := 2) (v := .int v_size) (C := RX2) (T := TX2) (N := 4) hx hb hts hiX2_meet_X2 hown hK.1 hP 0 rfl rfl 3 (by decide) (hts (.fieldLink RX2 35 "PackedBends$Orbit" "size" "I") (List.mem_of_getElem? (i := 2) rfl)) (fun _ h9 => h9) rfl dX2_meet_66 ?_
      refine lv_iconst (v := 1) hx hb dX2_meet_69 (by decide) ?_
      refine lv_iadd hx hb dX2_meet_70 ?_
      refine va_put (D := G) (ci := 2) (v := .int (v_size + (1 : Int32))) (ty := .int) (C := RX2) (T := TX2) (N := 4) hx hb hts hiX2_meet_X2 tyX2 tyX2_ok nmX2 hown hK.1 hP hD hS 0 rfl rfl 3 (by decide) (hts (.fieldLink RX2 35 "PackedBends$Orbit" "size" "I") (List.mem_of_getElem? (i := 2) rfl)) (fun _ h9 => h9) rfl (by decide +kernel) rfl rfl (Nat.le_of_ble_eq_true rfl) dX2_meet_71 (fun H locs hP hD hS => ?_)
      have hP : va_P G vwCl [(q, .inr (2, [.ref q_met, .ref q_queue, .ref q_four, .int (v_size + (1 : Int32))])), (q_met, .inl (cJ, 324, .inr (.inl (vp_updL v_met (r1 / (64 : Int32)).toNatClampNeg ((v_met (r1 / (64 : Int32)).toNatClampNeg) ||| ((1 : Int64) <<< ((r1 - r1 / (64 : Int32) * (64 : Int32)).toInt64 &&& 63))))))), (q_queue, .inl (cI, 1220, .inl (upd v_queue v_size.toNatClampNeg r1))), (q_four, .inl (cI, 4, .inl v_four))] H := hP
      have hD : va_D A [(q, .inr (2, [.ref q_met, .ref q_queue, .ref q_four, .int (v_size + (1 : Int32))])), (q_met, .inl (cJ, 324, .inr (.inl (vp_updL v_met (r1 / (64 : Int32)).toNatClampNeg ((v_met (r1 / (64 : Int32)).toNatClampNeg) ||| ((1 : Int64) <<< ((r1 - r1 / (64 : Int32) * (64 : Int32)).toInt64 &&& 63))))))), (q_queue, .inl (cI, 1220, .inl (upd v_queue v_size.toNatClampNeg r1))), (q_four, .inl (cI, 4, .inl v_four))] := hD
      cases hf
      rw [← hQ]
      exact rt_v hx hb hr hlk hP hD hS dX2_meet_74
def pX2_meetTurned (n : Nat) (v_size : Int32) (v_met : (Nat → Int64)) (v_queue : (Nat → Int32)) (v_four : (Nat → Int32)) (p1 : Int32) (p2 : Int32) : Option (Int32 × (Nat → Int64) × (Nat → Int32) × (Nat → Int32)) := ck (ix p1 4) (Option.bind (pJ9_floorMod_7cf53 (((2 : Int32) * (((((v_four (0 : Int32).toNatClampNeg) + (v_four (1 : Int32).toNatClampNeg)) + (v_four (2 : Int32).toNatClampNeg)) + (v_four (3 : Int32).toNatClampNeg)) - (v_four p1.toNatClampNeg))) - (v_four p1.toNatClampNeg)) p2) (fun r2 => Option.bind (pX2_meet n v_size v_met v_queue (upd v_four p1.toNatClampNeg r2) p2) (fun r3 => some (r3.1, r3.2.1, r3.2.2, upd (upd v_four p1.toNatClampNeg r2) p1.toNatClampNeg (v_four p1.toNatClampNeg)))))
def rmX2_meetTurned : Room := { frames := 2, cells := 0, slots := 0, locals := 47 }
theorem hiX2_meetTurned_X2 : ∀ w ∈ u_ws RX2 TX2 4, w ∈ wsX2_meetTurned := fun _ h => List.mem_cons_of_mem _ (List.mem_append_right _ h)
set_option maxRecDepth 100000 in
set_option maxHeartbeats 4000000 in
theorem kX2_meetTurned {l : Launch} {G : va_G} {cI cJ cZ cS cG : ClassId} (n : Nat) (q q_met q_queue q_four : Nat) (v_size : Int32) (v_met : (Nat → Int64)) (v_queue : (Nat → Int32)) (v_four : (Nat → Int32)) (p1 : Int32) (p2 : Int32) (R : Int32 × (Nat → Int64) × (Nat → Int32) × (Nat → Int32)) (hf : pX2_meetTurned n v_size v_met v_queue v_four p1 p2 = some R) : CTv l yX2_meetTurned wsX2_meetTurned rmX2_meetTurned G cI cJ cZ cS cG [.ref q, .int p1, .int p2] [(q, .inr (2, [.ref q_met, .ref q_queue, .ref q_four, .int v_size])), (q_met, .inl (cJ, 324, .inr (.inl v_met))), (q_queue, .inl (cI, 1220, .inl v_queue)), (q_four, .inl (cI, 4, .inl v_four))] [(q, .inr (2, [.ref q_met, .ref q_queue, .ref q_four, .int R.1])), (q_met, .inl (cJ, 324, .inr (.inl R.2.1))), (q_queue, .inl (cI, 1220, .inl R.2.2.1)), (q_four, .inl (cI, 4, .inl R.2.2.2))] := by
  refine Met.ofE (Qc := fun A => QRv G A [(q, .inr (2, [.ref q_met, .ref q_queue, .ref q_four, .int R.1])), (q_met, .inl (cJ, 324, .inr (.inl R.2.1))), (q_queue, .inl (cI, 1220, .inl R.2.2.1)), (q_four, .inl (cI, 4, .inl R.2.2.2))]) (cc := cX2_meetTurned) (nL := 5) (ret := none) (plainFor_of_name (by decide +kernel)) rfl (Nat.le_of_ble_eq_true rfl) ?_
  intro p e s m below meth c A ls hx hb hml hr hlk hts hown hK hA hP hD hS hl
  have hown : s.vm.findClass RX2 = some m.cls := hown
  have hl : lv_has ls 5 [(0, .ref q), (1, .int p1), (2, .int p2)] := hl
  generalize hQ : MQ below (QRv G A [(q, .inr (2, [.ref q_met, .ref q_queue, .ref q_four, .int R.1])), (q_met, .inl (cJ, 324, .inr (.inl R.2.1))), (q_queue, .inl (cI, 1220, .inl R.2.2.1)), (q_four, .inl (cI, 4, .inl R.2.2.2))]) ([.ref q, .int p1, .int p2] : List Value).toArray s 0 0 A = QQ
  unfold pX2_meetTurned at hf
  refine lv_aload_n hx hb dX2_meetTurned_0 rfl (lv_at hl 0 rfl) ?_
  refine va_get (D := G) (ci := 2) (v := .ref q_four) (C := RX2) (T := TX2) (N := 4) hx hb hts hiX2_meetTurned_X2 hown hK.1 hP 0 rfl rfl 2 (by decide) (hts (.fieldLink RX2 19 "PackedBends$Orbit" "four" "[I") (List.mem_of_getElem? (i := 1) rfl)) (fun _ h9 => h9) rfl dX2_meetTurned_1 ?_
  refine lv_iload_n hx hb dX2_meetTurned_4 rfl (lv_at hl 1 rfl) ?_
  obtain ⟨z1, hf⟩ := ck_s hf
  refine va_iald hx hb hK.1 hP 3 0 rfl rfl (vp_in_iff.mpr z1) dX2_meetTurned_5 ?_
  refine lv_istore_n (lv' := [(3, .int (v_four p1.toNatClampNeg)), (0, .ref q), (1, .int p1), (2, .int p2)]) hx hb dX2_meetTurned_6 rfl hl (by decide) rfl (fun ls hl => ?_)
  refine lv_aload_n hx hb dX2_meetTurned_7 rfl (lv_at hl 1 rfl) ?_
  refine va_get (D := G) (ci := 2) (v := .ref q_four) (C := RX2) (T := TX2) (N := 4) hx hb hts hiX2_meetTurned_X2 hown hK.1 hP 0 rfl rfl 2 (by decide) (hts (.fieldLink RX2 19 "PackedBends$Orbit" "four" "[I") (List.mem_of_getElem? (i := 1) rfl)) (fun _ h9 => h9) rfl dX2_meetTurned_8 ?_
  refine lv_iconst (v := 0) hx hb dX2_meetTurned_11 (by decide) ?_
  refine va_iald hx hb hK.1 hP 3 0 rfl rfl (vp_in_iff.mpr (by decide)) dX2_meetTurned_12 ?_
  refine lv_aload_n hx hb dX2_meetTurned_13 rfl (lv_at hl 1 rfl) ?_
  refine va_get (D := G) (ci := 2) (v := .ref q_four) (C := RX2) (T := TX2) (N := 4) hx hb hts hiX2_meetTurned_X2 hown hK.1 hP 0 rfl rfl 2 (by decide) (hts (.fieldLink RX2 19 "PackedBends$Orbit" "four" "[I") (List.mem_of_getElem? (i := 1) rfl)) (fun _ h9 => h9) rfl dX2_meetTurned_14 ?_
  refine lv_iconst (v := 1) hx hb dX2_meetTurned_17 (by decide) ?_
  refine va_iald hx hb hK.1 hP 3 0 rfl rfl (vp_in_iff.mpr (by decide)) dX2_meetTurned_18 ?_
  refine lv_iadd hx hb dX2_meetTurned_19 ?_
  refine lv_aload_n hx hb dX2_meetTurned_20 rfl (lv_at hl 1 rfl) ?_
  refine va_get (D := G) (ci := 2) (v := .ref q_four) (C := RX2) (T := TX2) (N := 4) hx hb hts hiX2_meetTurned_X2 hown hK.1 hP 0 rfl rfl 2 (by decide) (hts (.fieldLink RX2 19 "PackedBends$Orbit" "four" "[I") (List.mem_of_getElem? (i := 1) rfl)) (fun _ h9 => h9) rfl dX2_meetTurned_21 ?_
  refine lv_iconst (v := 2) hx hb dX2_meetTurned_24 (by decide) ?_
  refine va_iald hx hb hK.1 hP 3 0 rfl rfl (vp_in_iff.mpr (by decide)) dX2_meetTurned_25 ?_
  refine lv_iadd hx hb dX2_meetTurned_26 ?_
  refine lv_aload_n hx hb dX2_meetTurned_27 rfl (lv_at hl 1 rfl) ?_
  refine va_get (D := G) (ci := 2) (v := .ref q_four) (C := RX2) (T := TX2) (N := 4) hx hb hts hiX2_meetTurned_X2 hown hK.1 hP 0 rfl rfl 2 (by decide) (hts (.fieldLink RX2 19 "PackedBends$Orbit" "four" "[I") (List.mem_of_getElem? (i := 1) rfl)) (fun _ h9 => h9) rfl dX2_meetTurned_28 ?_
  refine lv_iconst (v := 3) hx hb dX2_meetTurned_31 (by decide) ?_
  refine va_iald hx hb hK.1 hP 3 0 rfl rfl (vp_in_iff.mpr (by decide)) dX2_meetTurned_32 ?_
  refine lv_iadd hx hb dX2_meetTurned_33 ?_
  refine lv_istore (lv' := [(4, .int ((((v_four (0 : Int32).toNatClampNeg) + (v_four (1 : Int32).toNatClampNeg)) + (v_four (2 : Int32).toNatClampNeg)) + (v_four (3 : Int32).toNatClampNeg))), (3, .int (v_four p1.toNatClampNeg)), (0, .ref q), (1, .int p1), (2, .int p2)]) hx hb dX2_meetTurned_34 hl (by decide) rfl (fun ls hl => ?_)
  refine lv_aload_n hx hb dX2_meetTurned_36 rfl (lv_at hl 2 rfl) ?_
  refine va_get (D := G) (ci := 2) (v := .ref q_four) (C := RX2) (T := TX2) (N := 4) hx hb hts hiX2_meetTurned_X2 hown hK.1 hP 0 rfl rfl 2 (by decide) (hts (.fieldLink RX2 19 "PackedBends$Orbit" "four" "[I") (List.mem_of_getElem? (i := 1) rfl)) (fun _ h9 => h9) rfl dX2_meetTurned_37 ?_
  refine lv_iload_n hx hb dX2_meetTurned_40 rfl (lv_at hl 3 rfl) ?_
  refine lv_iconst (v := 2) hx hb dX2_meetTurned_41 (by decide) ?_
  refine lv_iload hx hb dX2_meetTurned_42 (lv_at hl 0 rfl) ?_
  refine lv_iload_n hx hb dX2_meetTurned_44 rfl (lv_at hl 1 rfl) ?_
  refine lv_isub hx hb dX2_meetTurned_45 ?_
  refine lv_imul hx hb dX2_meetTurned_46 ?_
  refine lv_iload_n hx hb dX2_meetTurned_47 rfl (lv_at hl 1 rfl) ?_
  refine lv_isub hx hb dX2_meetTurned_48 ?_
  refine lv_iload_n hx hb dX2_meetTurned_49 rfl (lv_at hl 4 rfl) ?_
  obtain ⟨r2, hc2, hf⟩ := ob_s hf
  refine bk_i (wc := []) (wc2 := []) (wr := [(q, .inr (2, [.ref q_met, .ref q_queue, .ref q_four, .int v_size])), (q_met, .inl (cJ, 324, .inr (.inl v_met))), (q_queue, .inl (cI, 1220, .inl v_queue)), (q_four, .inl (cI, 4, .inl v_four))]) (ws2 := [(q, .inr (2, [.ref q_met, .ref q_queue, .ref q_four, .int v_size])), (q_met, .inl (cJ, 324, .inr (.inl v_met))), (q_queue, .inl (cI, 1220, .inl v_queue)), (q_four, .inl (cI, 4, .inl v_four))]) (r := r2) (va_runS (As := [.int (((2 : Int32) * (((((v_four (0 : Int32).toNatClampNeg) + (v_four (1 : Int32).toNatClampNeg)) + (v_four (2 : Int32).toNatClampNeg)) + (v_four (3 : Int32).toNatClampNeg)) - (v_four p1.toNatClampNeg))) - (v_four p1.toNatClampNeg)), .int p2]) (rest := [.int p1, .ref q_four]) ⟨hx, hb, hml, hown, hts⟩ (kJ9_floorMod_7cf53 (l := l) (G := G) (cI := cI) (cJ := cJ) (cZ := cZ) (cS := cS) (cG := cG) (((2 : Int32) * (((((v_four (0 : Int32).toNatClampNeg) + (v_four (1 : Int32).toNatClampNeg)) + (v_four (2 : Int32).toNatClampNeg)) + (v_four (3 : Int32).toNatClampNeg)) - (v_four p1.toNatClampNeg))) - (v_four p1.toNatClampNeg)) p2 _ hc2 _) (va_cwS 2 hts gX2_meetTurned_J9_floorMod_7cf53 rfl rfl rfl (by decide +kernel) ⟨Nat.le_of_ble_eq_true rfl, Nat.le_of_ble_eq_true rfl⟩) (cut_S hK hP hD [] rfl rfl) rfl rfl hl.1 rfl (lv_room (Nat.le_of_ble_eq_true rfl)) dX2_meetTurned_50 ⟨Nat.zero_le _, Nat.zero_le _⟩) hP hD hS hA [] [0, 1, 2, 3] [0, 1, 2, 3] rfl rfl rfl rfl rfl rfl (fun H locs hP hD hS => ?_)
  refine va_iast hx hb hK.1 hP hD hS 3 0 rfl rfl (vp_in_iff.mpr z1) dX2_meetTurned_53 (fun H locs hP hD hS => ?_)
  have hP : va_P G vwCl [(q, .inr (2, [.ref q_met, .ref q_queue, .ref q_four, .int v_size])), (q_met, .inl (cJ, 324, .inr (.inl v_met))), (q_queue, .inl (cI, 1220, .inl v_queue)), (q_four, .inl (cI, 4, .inl (upd v_four p1.toNatClampNeg r2)))] H := hP
  have hD : va_D A [(q, .inr (2, [.ref q_met, .ref q_queue, .ref q_four, .int v_size])), (q_met, .inl (cJ, 324, .inr (.inl v_met))), (q_queue, .inl (cI, 1220, .inl v_queue)), (q_four, .inl (cI, 4, .inl (upd v_four p1.toNatClampNeg r2)))] := hD
  refine lv_aload_n hx hb dX2_meetTurned_54 rfl (lv_at hl 2 rfl) ?_
  refine lv_iload_n hx hb dX2_meetTurned_55 rfl (lv_at hl 4 rfl) ?_
  obtain ⟨r3, hc3, hf⟩ := ob_s hf
  refine bk_v (wc := [(q, .inr (2, [.ref q_met, .ref q_queue, .ref q_four, .int v_size])), (q_met, .inl (cJ, 324, .inr (.inl v_met))), (q_queue, .inl (cI, 1220, .inl v_queue)), (q_four, .inl (cI, 4, .inl (upd v_four p1.toNatClampNeg r2)))]) (wc2 := [(q, .inr (2, [.ref q_met, .ref q_queue, .ref q_four, .int r3.1])), (q_met, .inl (cJ, 324, .inr (.inl r3.2.1))), (q_queue, .inl (cI, 1220, .inl r3.2.2)), (q_four, .inl (cI, 4, .inl (upd v_four p1.toNatClampNeg r2)))]) (wr := []) (ws2 := [(q, .inr (2, [.ref q_met, .ref q_queue, .ref q_four, .int r3.1])), (q_met, .inl (cJ, 324, .inr (.inl r3.2.1))), (q_queue, .inl (cI, 1220, .inl r3.2.2)), (q_four, .inl (cI, 4, .inl (upd v_four p1.toNatClampNeg r2)))]) (va_runV (As := [.int p2]) (rest := []) ⟨hx, hb, hml, hown, hts⟩ (kX2_meet (l := l) (G := G) (cI := cI) (cJ := cJ) (cZ := cZ) (cS := cS) (cG := cG) n q q_met q_queue q_four v_size v_met v_queue (upd v_four p1.toNatClampNeg r2) p2 _ hc3 _) (cwV 1 hts gX2_meetTurned_X2_meet rfl rfl rfl (by decide +kernel) ⟨Nat.le_of_ble_eq_true rfl, Nat.le_of_ble_eq_true rfl⟩) (cut_V hK hP hD [0, 1, 2, 3] rfl rfl (ci := 2) (q0 := 0) rfl rfl) rfl rfl hl.1 rfl (lv_room (Nat.le_of_ble_eq_true rfl)) dX2_meetTurned_56 ⟨Nat.zero_le _, Nat.zero_le _⟩) hP hD hS hA [0, 1, 2, 3] [] [0, 1, 2, 3] rfl rfl rfl rfl rfl rfl (fun H locs hP hD hS => ?_)
  refine lv_aload_n hx hb dX2_meetTurned_59 rfl (lv_at hl 2 rfl) ?_
  refine va_get (D := G) (ci := 2) (v := .ref q_four) (C := RX2) (T := TX2) (N := 4) hx hb hts hiX2_meetTurned_X2 hown hK.1 hP 0 rfl rfl 2 (by decide) (hts (.fieldLink RX2 19 "PackedBends$Orbit" "four" "[I") (List.mem_of_getElem? (i := 1) rfl)) (fun _ h9 => h9) rfl dX2_meetTurned_60 ?_
  refine lv_iload_n hx hb dX2_meetTurned_63 rfl (lv_at hl 3 rfl) ?_
  refine lv_iload_n hx hb dX2_meetTurned_64 rfl (lv_at hl 1 rfl) ?_
  refine va_iast hx hb hK.1 hP hD hS 3 0 rfl rfl (vp_in_iff.mpr z1) dX2_meetTurned_65 (fun H locs hP hD hS => ?_)
  have hP : va_P G vwCl [(q, .inr (2, [.ref q_met, .ref q_queue, .ref q_four, .int r3.1])), (q_met, .inl (cJ, 324, .inr (.inl r3.2.1))), (q_queue, .inl (cI, 1220, .inl r3.2.2)), (q_four, .inl (cI, 4, .inl (upd (upd v_four p1.toNatClampNeg r2) p1.toNatClampNeg (v_four p1.toNatClampNeg))))] H := hP
  have hD : va_D A [(q, .inr (2, [.ref q_met, .ref q_queue, .ref q_four, .int r3.1])), (q_met, .inl (cJ, 324, .inr (.inl r3.2.1))), (q_queue, .inl (cI, 1220, .inl r3.2.2)), (q_four, .inl (cI, 4, .inl (upd (upd v_four p1.toNatClampNeg r2) p1.toNatClampNeg (v_four p1.toNatClampNeg))))] := hD
  cases hf
  rw [← hQ]
  exact rt_v hx hb hr hlk hP hD hS dX2_meetTurned_66
def pX2_unpack_L5 (x2 : Int32) : Nat → Int32 → Int32 → (Nat → Int32) → (Int32 → Int32 → (Nat → Int32) → Option ((Nat → Int32))) → Option ((Nat → Int32))
  | 0, _, _, _, _ => none
  | n + 1, x3, x4, v_four, k => if (4 : Int32) ≤ x4 then k x3 x4 v_four else ck (¬ x2 = 0) (ck (ix x4 4) (pX2_unpack_L5 x2 n (x3 / x2) (x4 + (1 : Int32)) (upd v_four x4.toNatClampNeg (x3 - x3 / x2 * x2)) k))
def pX2_unpack (n : Nat) (v_four : (Nat → Int32)) (p1 : Int32) (p2 : Int32) : Option ((Nat → Int32)) := pX2_unpack_L5 p2 n p1 (0 : Int32) v_four (fun (y3_4 : Int32) (y4_4 : Int32) (u4_four : (Nat → Int32)) => some u4_four)
def rmX2_unpack : Room := { frames := 0, cells := 0, slots := 0, locals := 0 }
theorem hiX2_unpack_X2 : ∀ w ∈ u_ws RX2 TX2 4, w ∈ wsX2_unpack := fun _ h => List.mem_cons_of_mem _ (List.mem_append_right _ h)
set_option maxRecDepth 100000 in
set_option maxHeartbeats 4000000 in
theorem kX2_unpack {l : Launch} {G : va_G} {cI cJ cZ cS cG : ClassId} (n : Nat) (q q_met q_queue q_four : Nat) (v_size : Int32) (v_four : (Nat → Int32)) (p1 : Int32) (p2 : Int32) (R : (Nat → Int32)) (hf : pX2_unpack n v_four p1 p2 = some R) : CTv l yX2_unpack wsX2_unpack rmX2_unpack G cI cJ cZ cS cG [.ref q, .int p1, .int p2] [(q, .inr (2, [.ref q_met, .ref q_queue, .ref q_four, .int v_size])), (q_four, .inl (cI, 4, .inl v_four))] [(q, .inr (2, [.ref q_met, .ref q_queue, .ref q_four, .int v_size])), (q_four, .inl (cI, 4, .inl R))] := by
  refine Met.ofE (Qc := fun A => QRv G A [(q, .inr (2, [.ref q_met, .ref q_queue, .ref q_four, .int v_size])), (q_four, .inl (cI, 4, .inl R))]) (cc := cX2_unpack) (nL := 5) (ret := none) (plainFor_of_name (by decide +kernel)) rfl (Nat.le_of_ble_eq_true rfl) ?_
  intro p e s m below meth c A ls hx hb hml hr hlk hts hown hK hA hP hD hS hl
  have hown : s.vm.findClass RX2 = some m.cls := hown
  have hl : lv_has ls 5 [(0, .ref q), (1, .int p1), (2, .int p2)] := hl
  generalize hQ : MQ below (QRv G A [(q, .inr (2, [.ref q_met, .ref q_queue, .ref q_four, .int v_size])), (q_four, .inl (cI, 4, .inl R))]) ([.ref q, .int p1, .int p2] : List Value).toArray s 0 0 A = QQ
  unfold pX2_unpack at hf
  have hL5 : ∀ (x1 : Int32) (x2 : Int32) (k : Int32 → Int32 → (Nat → Int32) → Option ((Nat → Int32))), (∀ (x3 : Int32) (x4 : Int32) (v_four : (Nat → Int32)) (H : Heap) (locs : List Loc) (ls : Array Slot), k x3 x4 v_four = some R → va_P G vwCl [(q, .inr (2, [.ref q_met, .ref q_queue, .ref q_four, .int v_size])), (q_four, .inl (cI, 4, .inl v_four))] H → va_D A [(q, .inr (2, [.ref q_met, .ref q_queue, .ref q_four, .int v_size])), (q_four, .inl (cI, 4, .inl v_four))] → va_S A s.heap H locs → lv_has ls 5 [(0, .ref q), (1, .int x1), (2, .int x2), (3, .int x3), (4, .int x4)] → W p l e rmX2_unpack s m ([.ref q, .int p1, .int p2] : List Value).toArray below meth c H locs 0 0 QQ (F0 m 31 ls [])) → ∀ (n : Nat) (x3 : Int32) (x4 : Int32) (v_four : (Nat → Int32)) (H : Heap) (locs : List Loc) (ls : Array Slot), pX2_unpack_L5 x2 n x3 x4 v_four k = some R → va_P G vwCl [(q, .inr (2, [.ref q_met, .ref q_queue, .ref q_four, .int v_size])), (q_four, .inl (cI, 4, .inl v_four))] H → va_D A [(q, .inr (2, [.ref q_met, .ref q_queue, .ref q_four, .int v_size])), (q_four, .inl (cI, 4, .inl v_four))] → va_S A s.heap H locs → lv_has ls 5 [(0, .ref q), (1, .int x1), (2, .int x2), (3, .int x3), (4, .int x4)] → W p l e rmX2_unpack s m ([.ref q, .int p1, .int p2] : List Value).toArray below meth c H locs 0 0 QQ (F0 m 5 ls []) := by
    intro x1 x2 k hk n
    induction n with
    | zero =>
      intro x3 x4 v_four H locs ls hf
      cases hf
    | succ n ih =>
      intro x3 x4 v_four H locs ls hf hP hD hS hl
      unfold pX2_unpack_L5 at hf
      refine lv_iload hx hb dX2_unpack_5 (lv_at hl 4 rfl) ?_
      refine lv_iconst (v := 4) hx hb dX2_unpack_7 (by decide) ?_
      refine lv_icmp_ge (tgt := 31) hx hb dX2_unpack_8 (by decide) (fun c1 => ?_) (fun c1 => ?_)
      · have hf := if_s hf c1
        exact hk x3 x4 v_four _ _ _ hf hP hD hS (lv_sub hl [0, 1, 2, 3, 4] rfl)
      · have hf := if_n hf c1
        refine lv_aload_n hx hb dX2_unpack_11 rfl (lv_at hl 0 rfl) ?_
        refine va_get (D := G) (ci := 2) (v := .ref q_four) (C := RX2) (T := TX2) (N := 4) hx hb hts hiX2_unpack_X2 hown hK.1 hP 0 rfl rfl 2 (by decide) (hts (.fieldLink RX2 19 "PackedBends$Orbit" "four" "[I") (List.mem_of_getElem? (i := 1) rfl)) (fun _ h9 => h9) rfl dX2_unpack_12 ?_
        refine lv_iload hx hb dX2_unpack_15 (lv_at hl 4 rfl) ?_
        refine lv_iload_n hx hb dX2_unpack_17 rfl (lv_at hl 3 rfl) ?_
        refine lv_iload_n hx hb dX2_unpack_18 rfl (lv_at hl 2 rfl) ?_
        obtain ⟨z2, hf⟩ := ck_s hf
        refine lv_irem hx hb dX2_unpack_19 z2 ?_
        obtain ⟨z3, hf⟩ := ck_s hf
        refine va_iast hx hb hK.1 hP hD hS 1 0 rfl rfl (vp_in_iff.mpr z3) dX2_unpack_20 (fun H locs hP hD hS => ?_)
        have hP : va_P G vwCl [(q, .inr (2, [.ref q_met, .ref q_queue, .ref q_four, .int v_size])), (q_four, .inl (cI, 4, .inl (upd v_four x4.toNatClampNeg (x3 - x3 / x2 * x2))))] H := hP
        have hD : va_D A [(q, .inr (2, [.ref q_met, .ref q_queue, .ref q_four, .int v_size])), (q_four, .inl (cI, 4, .inl (upd v_four x4.toNatClampNeg (x3 - x3 / x2 * x2))))] := hD
        refine lv_iload_n hx hb dX2_unpack_21 rfl (lv_at hl 3 rfl) ?_
        refine lv_iload_n hx hb dX2_unpack_22 rfl (lv_at hl 2 rfl) ?_
        refine lv_idiv hx hb dX2_unpack_23 z2 ?_
        refine lv_istore_n (lv' := [(3, .int (x3 / x2)), (0, .ref q), (1, .int x1), (2, .int x2), (4, .int x4)]) hx hb dX2_unpack_24 rfl hl (by decide) rfl (fun ls hl => ?_)
        refine lv_iinc (v := x4 + (1 : Int32)) (lv' := [(4, .int (x4 + (1 : Int32))), (3, .int (x3 / x2)), (0, .ref q), (1, .int x1), (2, .int x2)]) hx hb dX2_unpack_25 hl (k := 4) rfl rfl (by decide) rfl (fun ls hl => ?_)
        refine lv_goto (tgt := 5) hx hb dX2_unpack_28 (by decide) ?_
        exact ih (x3 / x2) (x4 + (1 : Int32)) (upd v_four x4.toNatClampNeg (x3 - x3 / x2 * x2)) _ _ _ hf hP hD hS (lv_sub hl [2, 3, 4, 1, 0] rfl)
  refine lv_iload_n hx hb dX2_unpack_0 rfl (lv_at hl 1 rfl) ?_
  refine lv_istore_n (lv' := [(3, .int p1), (0, .ref q), (1, .int p1), (2, .int p2)]) hx hb dX2_unpack_1 rfl hl (by decide) rfl (fun ls hl => ?_)
  refine lv_iconst (v := 0) hx hb dX2_unpack_2 (by decide) ?_
  refine lv_istore (lv' := [(4, .int (0 : Int32)), (3, .int p1), (0, .ref q), (1, .int p1), (2, .int p2)]) hx hb dX2_unpack_3 hl (by decide) rfl (fun ls hl => ?_)
  refine hL5 p1 p2 _ (fun y3_4 y4_4 u4_four H locs ls hf hP hD hS hl => ?_) n p1 (0 : Int32) v_four _ _ _ hf hP hD hS (lv_sub hl [2, 3, 4, 1, 0] rfl)
  have hP : va_P G vwCl [(q, .inr (2, [.ref q_met, .ref q_queue, .ref q_four, .int v_size])), (q_four, .inl (cI, 4, .inl u4_four))] H := hP
  have hD : va_D A [(q, .inr (2, [.ref q_met, .ref q_queue, .ref q_four, .int v_size])), (q_four, .inl (cI, 4, .inl u4_four))] := hD
  cases hf
  rw [← hQ]
  exact rt_v hx hb hr hlk hP hD hS dX2_unpack_31
def pX2_remaindersOf_L6 (x2 : Int32) (v_a1 : (Nat → Int64)) : Nat → Int32 → (Nat → Int32) → (Int32 → (Nat → Int32) → Option (Int32 × Int32 × (Nat → Int64) × (Nat → Int32) × (Nat → Int32))) → Option (Int32 × Int32 × (Nat → Int64) × (Nat → Int32) × (Nat → Int32))
  | 0, _, _, _ => none
  | n + 1, x3, v_four, k => if (4 : Int32) ≤ x3 then k x3 v_four else ck (ix x3 4) (Option.bind (pJ9_floorMod_f86c9 (v_a1 x3.toNatClampNeg) x2.toInt64) (fun r4 => pX2_remaindersOf_L6 x2 v_a1 n (x3 + (1 : Int32)) (upd v_four x3.toNatClampNeg r4.toInt32) k))
def pX2_remaindersOf_L79 (x2 : Int32) : Nat → Int32 → Int32 → Int32 → (Nat → Int64) → (Nat → Int32) → (Nat → Int32) → (Int32 → Int32 → Int32 → (Nat → Int64) → (Nat → Int32) → (Nat → Int32) → Option (Int32 × Int32 × (Nat → Int64) × (Nat → Int32) × (Nat → Int32))) → Option (Int32 × Int32 × (Nat → Int64) × (Nat → Int32) × (Nat → Int32))
  | 0, _, _, _, _, _, _, _ => none
  | n + 1, x4, x6, v_size, v_met, v_queue, v_four, k => if (4 : Int32) ≤ x6 then k x4 x6 v_size v_met v_queue v_four else ck (ix x6 4) (Option.bind (pX2_meetTurned n v_size v_met v_queue v_four x6 x2) (fun r13 => pX2_remaindersOf_L79 x2 n (x4 ||| ((1 : Int32) <<< ((v_four x6.toNatClampNeg) &&& 31))) (x6 + (1 : Int32)) r13.1 r13.2.1 r13.2.2.1 r13.2.2.2 k))
def pX2_remaindersOf_L49 (x2 : Int32) (x3 : Int32) : Nat → Int32 → Int32 → Int32 → (Nat → Int64) → (Nat → Int32) → (Nat → Int32) → (Int32 → Int32 → Int32 → (Nat → Int64) → (Nat → Int32) → (Nat → Int32) → Option (Int32 × Int32 × (Nat → Int64) × (Nat → Int32) × (Nat → Int32))) → Option (Int32 × Int32 × (Nat → Int64) × (Nat → Int32) × (Nat → Int32))
  | 0, _, _, _, _, _, _, _ => none
  | n + 1, x4, x5, v_size, v_met, v_queue, v_four, k => if v_size ≤ x5 then k x4 x5 v_size v_met v_queue v_four else if x4 = x3 then k x4 x5 v_size v_met v_queue v_four else ck (ix x5 1220) (Option.bind (pX2_unpack n v_four (v_queue x5.toNatClampNeg) x2) (fun r10 => pX2_remaindersOf_L79 x2 n x4 (0 : Int32) v_size v_met v_queue r10 (fun (y4_14 : Int32) (y6_14 : Int32) (u14_size : Int32) (u14_met : (Nat → Int64)) (u14_queue : (Nat → Int32)) (u14_four : (Nat → Int32)) => pX2_remaindersOf_L49 x2 x3 n y4_14 (x5 + (1 : Int32)) u14_size u14_met u14_queue u14_four k)))
def pX2_remaindersOf (n : Nat) (v_met : (Nat → Int64)) (v_queue : (Nat → Int32)) (v_four : (Nat → Int32)) (v_a1 : (Nat → Int64)) (p2 : Int32) : Option (Int32 × Int32 × (Nat → Int64) × (Nat → Int32) × (Nat → Int32)) := Option.bind (pX2_forget n v_met) (fun r1 => pX2_remaindersOf_L6 p2 v_a1 n (0 : Int32) v_four (fun (y3_5 : Int32) (u5_four : (Nat → Int32)) => Option.bind (pX2_meet n r1.1 r1.2 v_queue u5_four p2) (fun r6 => pX2_remaindersOf_L49 p2 (((1 : Int32) <<< (p2 &&& 31)) - (1 : Int32)) n (0 : Int32) (0 : Int32) r6.1 r6.2.1 r6.2.2 u5_four (fun (y4_15 : Int32) (y5_15 : Int32) (u15_size : Int32) (u15_met : (Nat → Int64)) (u15_queue : (Nat → Int32)) (u15_four : (Nat → Int32)) => some (y4_15, u15_size, u15_met, u15_queue, u15_four)))))
def rmX2_remaindersOf : Room := { frames := 3, cells := 0, slots := 0, locals := 71 }
theorem hiX2_remaindersOf_X2 : ∀ w ∈ u_ws RX2 TX2 4, w ∈ wsX2_remaindersOf := fun _ h => List.mem_cons_of_mem _ (List.mem_append_right _ h)
set_option maxRecDepth 100000 in
set_option maxHeartbeats 4000000 in
theorem kX2_remaindersOf {l : Launch} {G : va_G} {cI cJ cZ cS cG : ClassId} (n : Nat) (q q_met q_queue q_four q_a1 : Nat) (v_size : Int32) (v_met : (Nat → Int64)) (v_queue : (Nat → Int32)) (v_four : (Nat → Int32)) (v_a1 : (Nat → Int64)) (p2 : Int32) (R : Int32 × Int32 × (Nat → Int64) × (Nat → Int32) × (Nat → Int32)) (hf : pX2_remaindersOf n v_met v_queue v_four v_a1 p2 = some R) : CTi l yX2_remaindersOf wsX2_remaindersOf rmX2_remaindersOf G cI cJ cZ cS cG [.ref q, .ref q_a1, .int p2] [(q, .inr (2, [.ref q_met, .ref q_queue, .ref q_four, .int v_size])), (q_met, .inl (cJ, 324, .inr (.inl v_met))), (q_queue, .inl (cI, 1220, .inl v_queue)), (q_four, .inl (cI, 4, .inl v_four)), (q_a1, .inl (cJ, 4, .inr (.inl v_a1)))] [(q, .inr (2, [.ref q_met, .ref q_queue, .ref q_four, .int R.2.1])), (q_met, .inl (cJ, 324, .inr (.inl R.2.2.1))), (q_queue, .inl (cI, 1220, .inl R.2.2.2.1)), (q_four, .inl (cI, 4, .inl R.2.2.2.2)), (q_a1, .inl (cJ, 4, .inr (.inl v_a1)))] R.1 := by
  refine Met.ofE (Qc := fun A => QRi G A [(q, .inr (2, [.ref q_met, .ref q_queue, .ref q_four, .int R.2.1])), (q_met, .inl (cJ, 324, .inr (.inl R.2.2.1))), (q_queue, .inl (cI, 1220, .inl R.2.2.2.1)), (q_four, .inl (cI, 4, .inl R.2.2.2.2)), (q_a1, .inl (cJ, 4, .inr (.inl v_a1)))] R.1) (cc := cX2_remaindersOf) (nL := 7) (ret := some .int) (plainFor_of_name (by decide +kernel)) rfl (Nat.le_of_ble_eq_true rfl) ?_
  intro p e s m below meth c A ls hx hb hml hr hlk hts hown hK hA hP hD hS hl
  have hown : s.vm.findClass RX2 = some m.cls := hown
  have hl : lv_has ls 7 [(0, .ref q), (1, .ref q_a1), (2, .int p2)] := hl
  generalize hQ : MQ below (QRi G A [(q, .inr (2, [.ref q_met, .ref q_queue, .ref q_four, .int R.2.1])), (q_met, .inl (cJ, 324, .inr (.inl R.2.2.1))), (q_queue, .inl (cI, 1220, .inl R.2.2.2.1)), (q_four, .inl (cI, 4, .inl R.2.2.2.2)), (q_a1, .inl (cJ, 4, .inr (.inl v_a1)))] R.1) ([.ref q, .ref q_a1, .int p2] : List Value).toArray s 0 0 A = QQ
  unfold pX2_remaindersOf at hf
  have hL6 : ∀ (x2 : Int32) (v_size : Int32) (v_met : (Nat → Int64)) (v_queue : (Nat → Int32)) (k : Int32 → (Nat → Int32) → Option (Int32 × Int32 × (Nat → Int64) × (Nat → Int32) × (Nat → Int32))), (∀ (x3 : Int32) (v_four : (Nat → Int32)) (H : Heap) (locs : List Loc) (ls : Array Slot), k x3 v_four = some R → va_P G vwCl [(q, .inr (2, [.ref q_met, .ref q_queue, .ref q_four, .int v_size])), (q_met, .inl (cJ, 324, .inr (.inl v_met))), (q_queue, .inl (cI, 1220, .inl v_queue)), (q_four, .inl (cI, 4, .inl v_four)), (q_a1, .inl (cJ, 4, .inr (.inl v_a1)))] H → va_D A [(q, .inr (2, [.ref q_met, .ref q_queue, .ref q_four, .int v_size])), (q_met, .inl (cJ, 324, .inr (.inl v_met))), (q_queue, .inl (cI, 1220, .inl v_queue)), (q_four, .inl (cI, 4, .inl v_four)), (q_a1, .inl (cJ, 4, .inr (.inl v_a1)))] → va_S A s.heap H locs → lv_has ls 7 [(0, .ref q), (1, .ref q_a1), (2, .int x2), (3, .int x3)] → W p l e rmX2_remaindersOf s m ([.ref q, .ref q_a1, .int p2] : List Value).toArray below meth c H locs 0 0 QQ (F0 m 32 ls [])) → ∀ (n : Nat) (x3 : Int32) (v_four : (Nat → Int32)) (H : Heap) (locs : List Loc) (ls : Array Slot), pX2_remaindersOf_L6 x2 v_a1 n x3 v_four k = some R → va_P G vwCl [(q, .inr (2, [.ref q_met, .ref q_queue, .ref q_four, .int v_size])), (q_met, .inl (cJ, 324, .inr (.inl v_met))), (q_queue, .inl (cI, 1220, .inl v_queue)), (q_four, .inl (cI, 4, .inl v_four)), (q_a1, .inl (cJ, 4, .inr (.inl v_a1)))] H → va_D A [(q, .inr (2, [.ref q_met, .ref q_queue, .ref q_four, .int v_size])), (q_met, .inl (cJ, 324, .inr (.inl v_met))), (q_queue, .inl (cI, 1220, .inl v_queue)), (q_four, .inl (cI, 4, .inl v_four)), (q_a1, .inl (cJ, 4, .inr (.inl v_a1)))] → va_S A s.heap H locs → lv_has ls 7 [(0, .ref q), (1, .ref q_a1), (2, .int x2), (3, .int x3)] → W p l e rmX2_remaindersOf s m ([.ref q, .ref q_a1, .int p2] : List Value).toArray below meth c H locs 0 0 QQ (F0 m 6 ls []) := by
    intro x2 v_size v_met v_queue k hk n
    induction n with
    | zero =>
      intro x3 v_four H locs ls hf
      cases hf
    | succ n ih =>
      intro x3 v_four H locs ls hf hP hD hS hl
      unfold pX2_remaindersOf_L6 at hf
      refine lv_iload_n hx hb dX2_remaindersOf_6 rfl (lv_at hl 3 rfl) ?_
      refine lv_iconst (v := 4) hx hb dX2_remaindersOf_7 (by decide) ?_
      refine lv_icmp_ge (tgt := 32) hx hb dX2_remaindersOf_8 (by decide) (fun c2 => ?_) (fun c2 => ?_)
      · have hf := if_s hf c2
        exact hk x3 v_four _ _ _ hf hP hD hS (lv_sub hl [0, 1, 2, 3] rfl)
      · have hf := if_n hf c2
        refine lv_aload_n hx hb dX2_remaindersOf_11 rfl (lv_at hl 0 rfl) ?_
        refine va_get (D := G) (ci := 2) (v := .ref q_four) (C := RX2) (T := TX2) (N := 4) hx hb hts hiX2_remaindersOf_X2 hown hK.1 hP 0 rfl rfl 2 (by decide) (hts (.fieldLink RX2 19 "PackedBends$Orbit" "four" "[I") (List.mem_of_getElem? (i := 1) rfl)) (fun _ h9 => h9) rfl dX2_remaindersOf_12 ?_
        refine lv_iload_n hx hb dX2_remaindersOf_15 rfl (lv_at hl 3 rfl) ?_
        refine lv_aload_n hx hb dX2_remaindersOf_16 rfl (lv_at hl 1 rfl) ?_
        refine lv_iload_n hx hb dX2_remaindersOf_17 rfl (lv_at hl 3 rfl) ?_
        obtain ⟨z3, hf⟩ := ck_s hf
        refine va_lald hx hb hK.1 hP 4 1 rfl rfl (vp_in_iff.mpr z3) dX2_remaindersOf_18 ?_
        refine lv_iload_n hx hb dX2_remaindersOf_19 rfl (lv_at hl 2 rfl) ?_
        refine lv_i2l hx hb dX2_remaindersOf_20 rfl ?_
        obtain ⟨r4, hc4, hf⟩ := ob_s hf
        refine bk_l (wc := []) (wc2 := []) (wr := [(q, .inr (2, [.ref q_met, .ref q_queue, .ref q_four, .int v_size])), (q_met, .inl (cJ, 324, .inr (.inl v_met))), (q_queue, .inl (cI, 1220, .inl v_queue)), (q_four, .inl (cI, 4, .inl v_four)), (q_a1, .inl (cJ, 4, .inr (.inl v_a1)))]) (ws2 := [(q, .inr (2, [.ref q_met, .ref q_queue, .ref q_four, .int v_size])), (q_met, .inl (cJ, 324, .inr (.inl v_met))), (q_queue, .inl (cI, 1220, .inl v_queue)), (q_four, .inl (cI, 4, .inl v_four)), (q_a1, .inl (cJ, 4, .inr (.inl v_a1)))]) (r := r4) (va_runS (As := [.long (v_a1 x3.toNatClampNeg), .long x2.toInt64]) (rest := [.int x3, .ref q_four]) ⟨hx, hb, hml, hown, hts⟩ (kJ9_floorMod_f86c9 (l := l) (G := G) (cI := cI) (cJ := cJ) (cZ := cZ) (cS := cS) (cG := cG) (v_a1 x3.toNatClampNeg) x2.toInt64 _ hc4 _) (va_cwS 2 hts gX2_remaindersOf_J9_floorMod_f86c9 rfl rfl rfl (by decide +kernel) ⟨Nat.le_of_ble_eq_true rfl, Nat.le_of_ble_eq_true rfl⟩) (cut_S hK hP hD [] rfl rfl) rfl rfl hl.1 rfl (lv_room (Nat.le_of_ble_eq_true rfl)) dX2_remaindersOf_21 ⟨Nat.zero_le _, Nat.zero_le _⟩) hP hD hS hA [] [0, 1, 2, 3, 4] [0, 1, 2, 3, 4] rfl rfl rfl rfl rfl rfl (fun H locs hP hD hS => ?_)
        refine lv_l2i hx hb dX2_remaindersOf_24 rfl ?_
        refine va_iast hx hb hK.1 hP hD hS 3 0 rfl rfl (vp_in_iff.mpr z3) dX2_remaindersOf_25 (fun H locs hP hD hS => ?_)
        have hP : va_P G vwCl [(q, .inr (2, [.ref q_met, .ref q_queue, .ref q_four, .int v_size])), (q_met, .inl (cJ, 324, .inr (.inl v_met))), (q_queue, .inl (cI, 1220, .inl v_queue)), (q_four, .inl (cI, 4, .inl (upd v_four x3.toNatClampNeg r4.toInt32))), (q_a1, .inl (cJ, 4, .inr (.inl v_a1)))] H := hP
        have hD : va_D A [(q, .inr (2, [.ref q_met, .ref q_queue, .ref q_four, .int v_size])), (q_met, .inl (cJ, 324, .inr (.inl v_met))), (q_queue, .inl (cI, 1220, .inl v_queue)), (q_four, .inl (cI, 4, .inl (upd v_four x3.toNatClampNeg r4.toInt32))), (q_a1, .inl (cJ, 4, .inr (.inl v_a1)))] := hD
        refine lv_iinc (v := x3 + (1 : Int32)) (lv' := [(3, .int (x3 + (1 : Int32))), (0, .ref q), (1, .ref q_a1), (2, .int x2)]) hx hb dX2_remaindersOf_26 hl (k := 3) rfl rfl (by decide) rfl (fun ls hl => ?_)
        refine lv_goto (tgt := 6) hx hb dX2_remaindersOf_29 (by decide) ?_
        exact ih (x3 + (1 : Int32)) (upd v_four x3.toNatClampNeg r4.toInt32) _ _ _ hf hP hD hS (lv_sub hl [1, 2, 3, 0] rfl)
  have hL79 : ∀ (x2 : Int32) (x3 : Int32) (x5 : Int32) (k : Int32 → Int32 → Int32 → (Nat → Int64) → (Nat → Int32) → (Nat → Int32) → Option (Int32 × Int32 × (Nat → Int64) × (Nat → Int32) × (Nat → Int32))), (∀ (x4 : Int32) (x6 : Int32) (v_size : Int32) (v_met : (Nat → Int64)) (v_queue : (Nat → Int32)) (v_four : (Nat → Int32)) (H : Heap) (locs : List Loc) (ls : Array Slot), k x4 x6 v_size v_met v_queue v_four = some R → va_P G vwCl [(q, .inr (2, [.ref q_met, .ref q_queue, .ref q_four, .int v_size])), (q_met, .inl (cJ, 324, .inr (.inl v_met))), (q_queue, .inl (cI, 1220, .inl v_queue)), (q_four, .inl (cI, 4, .inl v_four)), (q_a1, .inl (cJ, 4, .inr (.inl v_a1)))] H → va_D A [(q, .inr (2, [.ref q_met, .ref q_queue, .ref q_four, .int v_size])), (q_met, .inl (cJ, 324, .inr (.inl v_met))), (q_queue, .inl (cI, 1220, .inl v_queue)), (q_four, .inl (cI, 4, .inl v_four)), (q_a1, .inl (cJ, 4, .inr (.inl v_a1)))] → va_S A s.heap H locs → lv_has ls 7 [(0, .ref q), (1, .ref q_a1), (2, .int x2), (3, .int x3), (4, .int x4), (5, .int x5), (6, .int x6)] → W p l e rmX2_remaindersOf s m ([.ref q, .ref q_a1, .int p2] : List Value).toArray below meth c H locs 0 0 QQ (F0 m 112 ls [])) → ∀ (n : Nat) (x4 : Int32) (x6 : Int32) (v_size : Int32) (v_met : (Nat → Int64)) (v_queue : (Nat → Int32)) (v_four : (Nat → Int32)) (H : Heap) (locs : List Loc) (ls : Array Slot), pX2_remaindersOf_L79 x2 n x4 x6 v_size v_met v_queue v_four k = some R → va_P G vwCl [(q, .inr (2, [.ref q_met, .ref q_queue, .ref q_four, .int v_size])), (q_met, .inl (cJ, 324, .inr (.inl v_met))), (q_queue, .inl (cI, 1220, .inl v_queue)), (q_four, .inl (cI, 4, .inl v_four)), (q_a1, .inl (cJ, 4, .inr (.inl v_a1)))] H → va_D A [(q, .inr (2, [.ref q_met, .ref q_queue, .ref q_four, .int v_size])), (q_met, .inl (cJ, 324, .inr (.inl v_met))), (q_queue, .inl (cI, 1220, .inl v_queue)), (q_four, .inl (cI, 4, .inl v_four)), (q_a1, .inl (cJ, 4, .inr (.inl v_a1)))] → va_S A s.heap H locs → lv_has ls 7 [(0, .ref q), (1, .ref q_a1), (2, .int x2), (3, .int x3), (4, .int x4), (5, .int x5), (6, .int x6)] → W p l e rmX2_remaindersOf s m ([.ref q, .ref q_a1, .int p2] : List Value).toArray below meth c H locs 0 0 QQ (F0 m 79 ls []) := by
    intro x2 x3 x5 k hk n
    induction n with
    | zero =>
      intro x4 x6 v_size v_met v_queue v_four H locs ls hf
      cases hf
    | succ n ih =>
      intro x4 x6 v_size v_met v_queue v_four H locs ls hf hP hD hS hl
      unfold pX2_remaindersOf_L79 at hf
      refine lv_iload hx hb dX2_remaindersOf_79 (lv_at hl 6 rfl) ?_
      refine lv_iconst (v := 4) hx hb dX2_remaindersOf_81 (by decide) ?_
      refine lv_icmp_ge (tgt := 112) hx hb dX2_remaindersOf_82 (by decide) (fun c11 => ?_) (fun c11 => ?_)
      · have hf := if_s hf c11
        exact hk x4 x6 v_size v_met v_queue v_four _ _ _ hf hP hD hS (lv_sub hl [0, 1, 2, 3, 4, 5, 6] rfl)
      · have hf := if_n hf c11
        refine lv_iload hx hb dX2_remaindersOf_85 (lv_at hl 4 rfl) ?_
        refine lv_iconst (v := 1) hx hb dX2_remaindersOf_87 (by decide) ?_
        refine lv_aload_n hx hb dX2_remaindersOf_88 rfl (lv_at hl 0 rfl) ?_
        refine va_get (D := G) (ci := 2) (v := .ref q_four) (C := RX2) (T := TX2) (N := 4) hx hb hts hiX2_remaindersOf_X2 hown hK.1 hP 0 rfl rfl 2 (by decide) (hts (.fieldLink RX2 19 "PackedBends$Orbit" "four" "[I") (List.mem_of_getElem? (i := 1) rfl)) (fun _ h9 => h9) rfl dX2_remaindersOf_89 ?_
        refine lv_iload hx hb dX2_remaindersOf_92 (lv_at hl 6 rfl) ?_
        obtain ⟨z12, hf⟩ := ck_s hf
        refine va_iald hx hb hK.1 hP 3 0 rfl rfl (vp_in_iff.mpr z12) dX2_remaindersOf_94 ?_
        refine lv_ishl hx hb dX2_remaindersOf_95 ?_
        refine lv_ior hx hb dX2_remaindersOf_96 ?_
        refine lv_istore (lv' := [(4, .int (x4 ||| ((1 : Int32) <<< ((v_four x6.toNatClampNeg) &&& 31)))), (0, .ref q), (1, .ref q_a1), (2, .int x2), (3, .int x3), (5, .int x5), (6, .int x6)]) hx hb dX2_remaindersOf_97 hl (by decide) rfl (fun ls hl => ?_)
        refine lv_aload_n hx hb dX2_remaindersOf_99 rfl (lv_at hl 1 rfl) ?_
        refine lv_iload hx hb dX2_remaindersOf_100 (lv_at hl 6 rfl) ?_
        refine lv_iload_n hx hb dX2_remaindersOf_102 rfl (lv_at hl 3 rfl) ?_
        obtain ⟨r13, hc13, hf⟩ := ob_s hf
        refine bk_v (wc := [(q, .inr (2, [.ref q_met, .ref q_queue, .ref q_four, .int v_size])), (q_met, .inl (cJ, 324, .inr (.inl v_met))), (q_queue, .inl (cI, 1220, .inl v_queue)), (q_four, .inl (cI, 4, .inl v_four))]) (wc2 := [(q, .inr (2, [.ref q_met, .ref q_queue, .ref q_four, .int r13.1])), (q_met, .inl (cJ, 324, .inr (.inl r13.2.1))), (q_queue, .inl (cI, 1220, .inl r13.2.2.1)), (q_four, .inl (cI, 4, .inl r13.2.2.2))]) (wr := [(q_a1, .inl (cJ, 4, .inr (.inl v_a1)))]) (ws2 := [(q, .inr (2, [.ref q_met, .ref q_queue, .ref q_four, .int r13.1])), (q_met, .inl (cJ, 324, .inr (.inl r13.2.1))), (q_queue, .inl (cI, 1220, .inl r13.2.2.1)), (q_four, .inl (cI, 4, .inl r13.2.2.2)), (q_a1, .inl (cJ, 4, .inr (.inl v_a1)))]) (va_runV (As := [.int x6, .int x2]) (rest := []) ⟨hx, hb, hml, hown, hts⟩ (kX2_meetTurned (l := l) (G := G) (cI := cI) (cJ := cJ) (cZ := cZ) (cS := cS) (cG := cG) n q q_met q_queue q_four v_size v_met v_queue v_four x6 x2 _ hc13 _) (cwV 2 hts gX2_remaindersOf_X2_meetTurned rfl rfl rfl (by decide +kernel) ⟨Nat.le_of_ble_eq_true rfl, Nat.le_of_ble_eq_true rfl⟩) (cut_V hK hP hD [0, 1, 2, 3] rfl rfl (ci := 2) (q0 := 0) rfl rfl) rfl rfl hl.1 rfl (lv_room (Nat.le_of_ble_eq_true rfl)) dX2_remaindersOf_103 ⟨Nat.zero_le _, Nat.zero_le _⟩) hP hD hS hA [0, 1, 2, 3] [4] [1, 2, 3, 4, 0] rfl rfl rfl rfl rfl rfl (fun H locs hP hD hS => ?_)
        refine lv_iinc (v := x6 + (1 : Int32)) (lv' := [(6, .int (x6 + (1 : Int32))), (4, .int (x4 ||| ((1 : Int32) <<< ((v_four x6.toNatClampNeg) &&& 31)))), (0, .ref q), (1, .ref q_a1), (2, .int x2), (3, .int x3), (5, .int x5)]) hx hb dX2_remaindersOf_106 hl (k := 6) rfl rfl (by decide) rfl (fun ls hl => ?_)
        refine lv_goto (tgt := 79) hx hb dX2_remaindersOf_109 (by decide) ?_
        exact ih (x4 ||| ((1 : Int32) <<< ((v_four x6.toNatClampNeg) &&& 31))) (x6 + (1 : Int32)) r13.1 r13.2.1 r13.2.2.1 r13.2.2.2 _ _ _ hf hP hD hS (lv_sub hl [2, 3, 4, 5, 1, 6, 0] rfl)
  have hL49 : ∀ (x2 : Int32) (x3 : Int32) (k : Int32 → Int32 → Int32 → (Nat → Int64) → (Nat → Int32) → (Nat → Int32) → Option (Int32 × Int32 × (Nat → Int64) × (Nat → Int32) × (Nat → Int32))), (∀ (x4 : Int32) (x5 : Int32) (v_size : Int32) (v_met : (Nat → Int64)) (v_queue : (Nat → Int32)) (v_four : (Nat → Int32)) (H : Heap) (locs : List Loc) (ls : Array Slot), k x4 x5 v_size v_met v_queue v_four = some R → va_P G vwCl [(q, .inr (2, [.ref q_met, .ref q_queue, .ref q_four, .int v_size])), (q_met, .inl (cJ, 324, .inr (.inl v_met))), (q_queue, .inl (cI, 1220, .inl v_queue)), (q_four, .inl (cI, 4, .inl v_four)), (q_a1, .inl (cJ, 4, .inr (.inl v_a1)))] H → va_D A [(q, .inr (2, [.ref q_met, .ref q_queue, .ref q_four, .int v_size])), (q_met, .inl (cJ, 324, .inr (.inl v_met))), (q_queue, .inl (cI, 1220, .inl v_queue)), (q_four, .inl (cI, 4, .inl v_four)), (q_a1, .inl (cJ, 4, .inr (.inl v_a1)))] → va_S A s.heap H locs → lv_has ls 7 [(0, .ref q), (1, .ref q_a1), (2, .int x2), (3, .int x3), (4, .int x4), (5, .int x5)] → W p l e rmX2_remaindersOf s m ([.ref q, .ref q_a1, .int p2] : List Value).toArray below meth c H locs 0 0 QQ (F0 m 118 ls [])) → ∀ (n : Nat) (x4 : Int32) (x5 : Int32) (v_size : Int32) (v_met : (Nat → Int64)) (v_queue : (Nat → Int32)) (v_four : (Nat → Int32)) (H : Heap) (locs : List Loc) (ls : Array Slot), pX2_remaindersOf_L49 x2 x3 n x4 x5 v_size v_met v_queue v_four k = some R → va_P G vwCl [(q, .inr (2, [.ref q_met, .ref q_queue, .ref q_four, .int v_size])), (q_met, .inl (cJ, 324, .inr (.inl v_met))), (q_queue, .inl (cI, 1220, .inl v_queue)), (q_four, .inl (cI, 4, .inl v_four)), (q_a1, .inl (cJ, 4, .inr (.inl v_a1)))] H → va_D A [(q, .inr (2, [.ref q_met, .ref q_queue, .ref q_four, .int v_size])), (q_met, .inl (cJ, 324, .inr (.inl v_met))), (q_queue, .inl (cI, 1220, .inl v_queue)), (q_four, .inl (cI, 4, .inl v_four)), (q_a1, .inl (cJ, 4, .inr (.inl v_a1)))] → va_S A s.heap H locs → lv_has ls 7 [(0, .ref q), (1, .ref q_a1), (2, .int x2), (3, .int x3), (4, .int x4), (5, .int x5)] → W p l e rmX2_remaindersOf s m ([.ref q, .ref q_a1, .int p2] : List Value).toArray below meth c H locs 0 0 QQ (F0 m 49 ls []) := by
    intro x2 x3 k hk n
    induction n with
    | zero =>
      intro x4 x5 v_size v_met v_queue v_four H locs ls hf
      cases hf
    | succ n ih =>
      intro x4 x5 v_size v_met v_queue v_four H locs ls hf hP hD hS hl
      unfold pX2_remaindersOf_L49 at hf
      refine lv_iload hx hb dX2_remaindersOf_49 (lv_at hl 5 rfl) ?_
      refine lv_aload_n hx hb dX2_remaindersOf_51 rfl (lv_at hl 0 rfl) ?_
      refine va_get (D := G) (ci := 2) (v := .int v_size) (C := RX2) (T := TX2) (N := 4) hx hb hts hiX2_remaindersOf_X2 hown hK.1 hP 0 rfl rfl 3 (by decide) (hts (.fieldLink RX2 35 "PackedBends$Orbit" "size" "I") (List.mem_of_getElem? (i := 2) rfl)) (fun _ h9 => h9) rfl dX2_remaindersOf_52 ?_
      refine lv_icmp_ge (tgt := 118) hx hb dX2_remaindersOf_55 (by decide) (fun c7 => ?_) (fun c7 => ?_)
      · have hf := if_s hf c7
        exact hk x4 x5 v_size v_met v_queue v_four _ _ _ hf hP hD hS (lv_sub hl [0, 1, 2, 3, 4, 5] rfl)
      · have hf := if_n hf c7
        refine lv_iload hx hb dX2_remaindersOf_58 (lv_at hl 4 rfl) ?_
        refine lv_iload_n hx hb dX2_remaindersOf_60 rfl (lv_at hl 3 rfl) ?_
        refine lv_icmp_eq (tgt := 118) hx hb dX2_remaindersOf_61 (by decide) (fun c8 => ?_) (fun c8 => ?_)
        · have hf := if_s hf c8
          exact hk x4 x5 v_size v_met v_queue v_four _ _ _ hf hP hD hS (lv_sub hl [0, 1, 2, 3, 4, 5] rfl)
        · have hf := if_n hf c8
          refine lv_aload_n hx hb dX2_remaindersOf_64 rfl (lv_at hl 0 rfl) ?_
          refine lv_aload_n hx hb dX2_remaindersOf_65 rfl (lv_at hl 0 rfl) ?_
          refine va_get (D := G) (ci := 2) (v := .ref q_queue) (C := RX2) (T := TX2) (N := 4) hx hb hts hiX2_remaindersOf_X2 hown hK.1 hP 0 rfl rfl 1 (by decide) (hts (.fieldLink RX2 15 "PackedBends$Orbit" "queue" "[I") (List.mem_of_getElem? (i := 3) rfl)) (fun _ h9 => h9) rfl dX2_remaindersOf_66 ?_
          refine lv_iload hx hb dX2_remaindersOf_69 (lv_at hl 5 rfl) ?_
          obtain ⟨z9, hf⟩ := ck_s hf
          refine va_iald hx hb hK.1 hP 2 0 rfl rfl (vp_in_iff.mpr z9) dX2_remaindersOf_71 ?_
          refine lv_iload_n hx hb dX2_remaindersOf_72 rfl (lv_at hl 2 rfl) ?_
          obtain ⟨r10, hc10, hf⟩ := ob_s hf
          refine bk_v (wc := [(q, .inr (2, [.ref q_met, .ref q_queue, .ref q_four, .int v_size])), (q_four, .inl (cI, 4, .inl v_four))]) (wc2 := [(q, .inr (2, [.ref q_met, .ref q_queue, .ref q_four, .int v_size])), (q_four, .inl (cI, 4, .inl r10))]) (wr := [(q_met, .inl (cJ, 324, .inr (.inl v_met))), (q_queue, .inl (cI, 1220, .inl v_queue)), (q_a1, .inl (cJ, 4, .inr (.inl v_a1)))]) (ws2 := [(q, .inr (2, [.ref q_met, .ref q_queue, .ref q_four, .int v_size])), (q_met, .inl (cJ, 324, .inr (.inl v_met))), (q_queue, .inl (cI, 1220, .inl v_queue)), (q_four, .inl (cI, 4, .inl r10)), (q_a1, .inl (cJ, 4, .inr (.inl v_a1)))]) (va_runV (As := [.int (v_queue x5.toNatClampNeg), .int x2]) (rest := []) ⟨hx, hb, hml, hown, hts⟩ (kX2_unpack (l := l) (G := G) (cI := cI) (cJ := cJ) (cZ := cZ) (cS := cS) (cG := cG) n q q_met q_queue q_four v_size v_four (v_queue x5.toNatClampNeg) x2 _ hc10 _) (cwV 2 hts gX2_remaindersOf_X2_unpack rfl rfl rfl (by decide +kernel) ⟨Nat.le_of_ble_eq_true rfl, Nat.le_of_ble_eq_true rfl⟩) (cut_V hK hP hD [0, 3] rfl rfl (ci := 2) (q0 := 0) rfl rfl) rfl rfl hl.1 rfl (lv_room (Nat.le_of_ble_eq_true rfl)) dX2_remaindersOf_73 ⟨Nat.zero_le _, Nat.zero_le _⟩) hP hD hS hA [0, 3] [1, 2, 4] [3, 0, 1, 4, 2] rfl rfl rfl rfl rfl rfl (fun H locs hP hD hS => ?_)
          refine lv_iconst (v := 0) hx hb dX2_remaindersOf_76 (by decide) ?_
          refine lv_istore (lv' := [(6, .int (0 : Int32)), (0, .ref q), (1, .ref q_a1), (2, .int x2), (3, .int x3), (4, .int x4), (5, .int x5)]) hx hb dX2_remaindersOf_77 hl (by decide) rfl (fun ls hl => ?_)
          refine hL79 x2 x3 x5 _ (fun y4_14 y6_14 u14_size u14_met u14_queue u14_four H locs ls hf hP hD hS hl => ?_) n x4 (0 : Int32) v_size v_met v_queue r10 _ _ _ hf hP hD hS (lv_sub hl [1, 2, 3, 4, 5, 6, 0] rfl)
          have hP : va_P G vwCl [(q, .inr (2, [.ref q_met, .ref q_queue, .ref q_four, .int u14_size])), (q_met, .inl (cJ, 324, .inr (.inl u14_met))), (q_queue, .inl (cI, 1220, .inl u14_queue)), (q_four, .inl (cI, 4, .inl u14_four)), (q_a1, .inl (cJ, 4, .inr (.inl v_a1)))] H := hP
          have hD : va_D A [(q, .inr (2, [.ref q_met, .ref q_queue, .ref q_four, .int u14_size])), (q_met, .inl (cJ, 324, .inr (.inl u14_met))), (q_queue, .inl (cI, 1220, .inl u14_queue)), (q_four, .inl (cI, 4, .inl u14_four)), (q_a1, .inl (cJ, 4, .inr (.inl v_a1)))] := hD
          refine lv_iinc (v := x5 + (1 : Int32)) (lv' := [(5, .int (x5 + (1 : Int32))), (0, .ref q), (1, .ref q_a1), (2, .int x2), (3, .int x3), (4, .int y4_14), (6, .int y6_14)]) hx hb dX2_remaindersOf_112 hl (k := 5) rfl rfl (by decide) rfl (fun ls hl => ?_)
          refine lv_goto (tgt := 49) hx hb dX2_remaindersOf_115 (by decide) ?_
          exact ih y4_14 (x5 + (1 : Int32)) u14_size u14_met u14_queue u14_four _ _ _ hf hP hD hS (lv_sub hl [1, 2, 3, 4, 5, 0] rfl)
  refine lv_aload_n hx hb dX2_remaindersOf_0 rfl (lv_at hl 0 rfl) ?_
  obtain ⟨r1, hc1, hf⟩ := ob_s hf
  refine bk_v (wc := [(q, .inr (2, [.ref q_met, .ref q_queue, .ref q_four, .int v_size])), (q_met, .inl (cJ, 324, .inr (.inl v_met)))]) (wc2 := [(q, .inr (2, [.ref q_met, .ref q_queue, .ref q_four, .int r1.1])), (q_met, .inl (cJ, 324, .inr (.inl r1.2)))]) (wr := [(q_queue, .inl (cI, 1220, .inl v_queue)), (q_four, .inl (cI, 4, .inl v_four)), (q_a1, .inl (cJ, 4, .inr (.inl v_a1)))]) (ws2 := [(q, .inr (2, [.ref q_met, .ref q_queue, .ref q_four, .int r1.1])), (q_met, .inl (cJ, 324, .inr (.inl r1.2))), (q_queue, .inl (cI, 1220, .inl v_queue)), (q_four, .inl (cI, 4, .inl v_four)), (q_a1, .inl (cJ, 4, .inr (.inl v_a1)))]) (va_runV (As := []) (rest := []) ⟨hx, hb, hml, hown, hts⟩ (kX2_forget (l := l) (G := G) (cI := cI) (cJ := cJ) (cZ := cZ) (cS := cS) (cG := cG) n q q_met q_queue q_four v_size v_met _ hc1 _) (cwV 0 hts gX2_remaindersOf_X2_forget rfl rfl rfl (by decide +kernel) ⟨Nat.le_of_ble_eq_true rfl, Nat.le_of_ble_eq_true rfl⟩) (cut_V hK hP hD [0, 1] rfl rfl (ci := 2) (q0 := 0) rfl rfl) rfl rfl hl.1 rfl (lv_room (Nat.le_of_ble_eq_true rfl)) dX2_remaindersOf_1 ⟨Nat.zero_le _, Nat.zero_le _⟩) hP hD hS hA [0, 1] [2, 3, 4] [3, 4, 0, 1, 2] rfl rfl rfl rfl rfl rfl (fun H locs hP hD hS => ?_)
  refine lv_iconst (v := 0) hx hb dX2_remaindersOf_4 (by decide) ?_
  refine lv_istore_n (lv' := [(3, .int (0 : Int32)), (0, .ref q), (1, .ref q_a1), (2, .int p2)]) hx hb dX2_remaindersOf_5 rfl hl (by decide) rfl (fun ls hl => ?_)
  refine hL6 p2 r1.1 r1.2 v_queue _ (fun y3_5 u5_four H locs ls hf hP hD hS hl => ?_) n (0 : Int32) v_four _ _ _ hf hP hD hS (lv_sub hl [1, 2, 3, 0] rfl)
  have hP : va_P G vwCl [(q, .inr (2, [.ref q_met, .ref q_queue, .ref q_four, .int r1.1])), (q_met, .inl (cJ, 324, .inr (.inl r1.2))), (q_queue, .inl (cI, 1220, .inl v_queue)), (q_four, .inl (cI, 4, .inl u5_four)), (q_a1, .inl (cJ, 4, .inr (.inl v_a1)))] H := hP
  have hD : va_D A [(q, .inr (2, [.ref q_met, .ref q_queue, .ref q_four, .int r1.1])), (q_met, .inl (cJ, 324, .inr (.inl r1.2))), (q_queue, .inl (cI, 1220, .inl v_queue)), (q_four, .inl (cI, 4, .inl u5_four)), (q_a1, .inl (cJ, 4, .inr (.inl v_a1)))] := hD
  refine lv_aload_n hx hb dX2_remaindersOf_32 rfl (lv_at hl 0 rfl) ?_
  refine lv_iload_n hx hb dX2_remaindersOf_33 rfl (lv_at hl 2 rfl) ?_
  obtain ⟨r6, hc6, hf⟩ := ob_s hf
  refine bk_v (wc := [(q, .inr (2, [.ref q_met, .ref q_queue, .ref q_four, .int r1.1])), (q_met, .inl (cJ, 324, .inr (.inl r1.2))), (q_queue, .inl (cI, 1220, .inl v_queue)), (q_four, .inl (cI, 4, .inl u5_four))]) (wc2 := [(q, .inr (2, [.ref q_met, .ref q_queue, .ref q_four, .int r6.1])), (q_met, .inl (cJ, 324, .inr (.inl r6.2.1))), (q_queue, .inl (cI, 1220, .inl r6.2.2)), (q_four, .inl (cI, 4, .inl u5_four))]) (wr := [(q_a1, .inl (cJ, 4, .inr (.inl v_a1)))]) (ws2 := [(q, .inr (2, [.ref q_met, .ref q_queue, .ref q_four, .int r6.1])), (q_met, .inl (cJ, 324, .inr (.inl r6.2.1))), (q_queue, .inl (cI, 1220, .inl r6.2.2)), (q_four, .inl (cI, 4, .inl u5_four)), (q_a1, .inl (cJ, 4, .inr (.inl v_a1)))]) (va_runV (As := [.int p2]) (rest := []) ⟨hx, hb, hml, hown, hts⟩ (kX2_meet (l := l) (G := G) (cI := cI) (cJ := cJ) (cZ := cZ) (cS := cS) (cG := cG) n q q_met q_queue q_four r1.1 r1.2 v_queue u5_four p2 _ hc6 _) (cwV 1 hts gX2_remaindersOf_X2_meet rfl rfl rfl (by decide +kernel) ⟨Nat.le_of_ble_eq_true rfl, Nat.le_of_ble_eq_true rfl⟩) (cut_V hK hP hD [0, 1, 2, 3] rfl rfl (ci := 2) (q0 := 0) rfl rfl) rfl rfl hl.1 rfl (lv_room (Nat.le_of_ble_eq_true rfl)) dX2_remaindersOf_34 ⟨Nat.zero_le _, Nat.zero_le _⟩) hP hD hS hA [0, 1, 2, 3] [4] [1, 2, 3, 4, 0] rfl rfl rfl rfl rfl rfl (fun H locs hP hD hS => ?_)
  refine lv_iconst (v := 1) hx hb dX2_remaindersOf_37 (by decide) ?_
  refine lv_iload_n hx hb dX2_remaindersOf_38 rfl (lv_at hl 2 rfl) ?_
  refine lv_ishl hx hb dX2_remaindersOf_39 ?_
  refine lv_iconst (v := 1) hx hb dX2_remaindersOf_40 (by decide) ?_
  refine lv_isub hx hb dX2_remaindersOf_41 ?_
  refine lv_istore_n (lv' := [(3, .int (((1 : Int32) <<< (p2 &&& 31)) - (1 : Int32))), (0, .ref q), (1, .ref q_a1), (2, .int p2)]) hx hb dX2_remaindersOf_42 rfl hl (by decide) rfl (fun ls hl => ?_)
  refine lv_iconst (v := 0) hx hb dX2_remaindersOf_43 (by decide) ?_
  refine lv_istore (lv' := [(4, .int (0 : Int32)), (3, .int (((1 : Int32) <<< (p2 &&& 31)) - (1 : Int32))), (0, .ref q), (1, .ref q_a1), (2, .int p2)]) hx hb dX2_remaindersOf_44 hl (by decide) rfl (fun ls hl => ?_)
  refine lv_iconst (v := 0) hx hb dX2_remaindersOf_46 (by decide) ?_
  refine lv_istore (lv' := [(5, .int (0 : Int32)), (4, .int (0 : Int32)), (3, .int (((1 : Int32) <<< (p2 &&& 31)) - (1 : Int32))), (0, .ref q), (1, .ref q_a1), (2, .int p2)]) hx hb dX2_remaindersOf_47 hl (by decide) rfl (fun ls hl => ?_)
  refine hL49 p2 (((1 : Int32) <<< (p2 &&& 31)) - (1 : Int32)) _ (fun y4_15 y5_15 u15_size u15_met u15_queue u15_four H locs ls hf hP hD hS hl => ?_) n (0 : Int32) (0 : Int32) r6.1 r6.2.1 r6.2.2 u5_four _ _ _ hf hP hD hS (lv_sub hl [3, 4, 5, 2, 1, 0] rfl)
  have hP : va_P G vwCl [(q, .inr (2, [.ref q_met, .ref q_queue, .ref q_four, .int u15_size])), (q_met, .inl (cJ, 324, .inr (.inl u15_met))), (q_queue, .inl (cI, 1220, .inl u15_queue)), (q_four, .inl (cI, 4, .inl u15_four)), (q_a1, .inl (cJ, 4, .inr (.inl v_a1)))] H := hP
  have hD : va_D A [(q, .inr (2, [.ref q_met, .ref q_queue, .ref q_four, .int u15_size])), (q_met, .inl (cJ, 324, .inr (.inl u15_met))), (q_queue, .inl (cI, 1220, .inl u15_queue)), (q_four, .inl (cI, 4, .inl u15_four)), (q_a1, .inl (cJ, 4, .inr (.inl v_a1)))] := hD
  refine lv_iload hx hb dX2_remaindersOf_118 (lv_at hl 4 rfl) ?_
  cases hf
  rw [← hQ]
  exact rt_i hx hb hr hlk hP hD hS rfl dX2_remaindersOf_120
def pX6_forget : Option (Int32) := some (-1 : Int32)
def rmX6_forget : Room := { frames := 0, cells := 0, slots := 0, locals := 0 }
theorem hiX6_forget_X6 : ∀ w ∈ u_ws RX6 TX6 2, w ∈ wsX6_forget := fun _ h => List.mem_cons_of_mem _ (List.mem_append_right _ h)
set_option maxRecDepth 100000 in
set_option maxHeartbeats 4000000 in
theorem kX6_forget {l : Launch} {G : va_G} {cI cJ cZ cS cG : ClassId} (q q_counts : Nat) (v_reach : Int32) (R : Int32) (hf : pX6_forget = some R) : CTv l yX6_forget wsX6_forget rmX6_forget G cI cJ cZ cS cG [.ref q] [(q, .inr (6, [.ref q_counts, .int v_reach]))] [(q, .inr (6, [.ref q_counts, .int R]))] := by
  refine Met.ofE (Qc := fun A => QRv G A [(q, .inr (6, [.ref q_counts, .int R]))]) (cc := cX6_forget) (nL := 1) (ret := none) (plainFor_of_name (by decide +kernel)) rfl (Nat.le_of_ble_eq_true rfl) ?_
  intro p e s m below meth c A ls hx hb hml hr hlk hts hown hK hA hP hD hS hl
  have hown : s.vm.findClass RX6 = some m.cls := hown
  have hl : lv_has ls 1 [(0, .ref q)] := hl
  generalize hQ : MQ below (QRv G A [(q, .inr (6, [.ref q_counts, .int R]))]) ([.ref q] : List Value).toArray s 0 0 A = QQ
  unfold pX6_forget at hf
  refine lv_aload_n hx hb dX6_forget_0 rfl (lv_at hl 0 rfl) ?_
  refine lv_iconst (v := (-1)) hx hb dX6_forget_1 (by decide) ?_
  refine va_put (D := G) (ci := 6) (v := .int (-1 : Int32)) (ty := .int) (C := RX6) (T := TX6) (N := 2) hx hb hts hiX6_forget_X6 tyX6 tyX6_ok nmX6 hown hK.1 hP hD hS 0 rfl rfl 1 (by decide) (hts (.fieldLink RX6 15 "PackedBends$Tally" "reach" "I") (List.mem_of_getElem? (i := 1) rfl)) (fun _ h9 => h9) rfl (by decide +kernel) rfl rfl (Nat.le_of_ble_eq_true rfl) dX6_forget_2 (fun H locs hP hD hS => ?_)
  have hP : va_P G vwCl [(q, .inr (6, [.ref q_counts, .int (-1 : Int32)]))] H := hP
  have hD : va_D A [(q, .inr (6, [.ref q_counts, .int (-1 : Int32)]))] := hD
  cases hf
  rw [← hQ]
  exact rt_v hx hb hr hlk hP hD hS dX6_forget_5
def pX6_count (v_reach : Int32) (v_counts : (Nat → Int32)) (p1 : Int64) : Option ((Nat → Int32)) := if v_reach.toInt64 < p1 then some v_counts else ck (ix ((if (0 : Int64) < p1 then p1 else (0 : Int64)).toInt32) 5001) (some (upd v_counts ((if (0 : Int64) < p1 then p1 else (0 : Int64)).toInt32).toNatClampNeg ((v_counts ((if (0 : Int64) < p1 then p1 else (0 : Int64)).toInt32).toNatClampNeg) + (1 : Int32))))
def rmX6_count : Room := { frames := 1, cells := 0, slots := 0, locals := 23 }
theorem hiX6_count_X6 : ∀ w ∈ u_ws RX6 TX6 2, w ∈ wsX6_count := fun _ h => List.mem_cons_of_mem _ (List.mem_append_right _ h)
set_option maxRecDepth 100000 in
set_option maxHeartbeats 4000000 in
theorem kX6_count {l : Launch} {G : va_G} {cI cJ cZ cS cG : ClassId} (q q_counts : Nat) (v_reach : Int32) (v_counts : (Nat → Int32)) (p1 : Int64) (R : (Nat → Int32)) (hf : pX6_count v_reach v_counts p1 = some R) : CTv l yX6_count wsX6_count rmX6_count G cI cJ cZ cS cG [.ref q, .long p1] [(q, .inr (6, [.ref q_counts, .int v_reach])), (q_counts, .inl (cI, 5001, .inl v_counts))] [(q, .inr (6, [.ref q_counts, .int v_reach])), (q_counts, .inl (cI, 5001, .inl R))] := by
  refine Met.ofE (Qc := fun A => QRv G A [(q, .inr (6, [.ref q_counts, .int v_reach])), (q_counts, .inl (cI, 5001, .inl R))]) (cc := cX6_count) (nL := 3) (ret := none) (plainFor_of_name (by decide +kernel)) rfl (Nat.le_of_ble_eq_true rfl) ?_
  intro p e s m below meth c A ls hx hb hml hr hlk hts hown hK hA hP hD hS hl
  have hown : s.vm.findClass RX6 = some m.cls := hown
  have hl : lv_has ls 3 [(0, .ref q), (1, .long p1)] := hl
  generalize hQ : MQ below (QRv G A [(q, .inr (6, [.ref q_counts, .int v_reach])), (q_counts, .inl (cI, 5001, .inl R))]) ([.ref q, .long p1] : List Value).toArray s 0 0 A = QQ
  unfold pX6_count at hf
  refine lv_lload_n hx hb dX6_count_0 rfl (lv_at hl 1 rfl) ?_
  refine lv_aload_n hx hb dX6_count_1 rfl (lv_at hl 0 rfl) ?_
  refine va_get (D := G) (ci := 6) (v := .int v_reach) (C := RX6) (T := TX6) (N := 2) hx hb hts hiX6_count_X6 hown hK.1 hP 0 rfl rfl 1 (by decide) (hts (.fieldLink RX6 15 "PackedBends$Tally" "reach" "I") (List.mem_of_getElem? (i := 1) rfl)) (fun _ h9 => h9) rfl dX6_count_2 ?_
  refine lv_i2l hx hb dX6_count_5 rfl ?_
  refine lc_gt (tgt := 25) hx hb dX6_count_6 dX6_count_7 (by decide) (fun c1 => ?_) (fun c1 => ?_)
  · have hf := if_s hf c1
    cases hf
    rw [← hQ]
    exact rt_v hx hb hr hlk hP hD hS dX6_count_25
  · have hf := if_n hf c1
    refine lv_aload_n hx hb dX6_count_10 rfl (lv_at hl 0 rfl) ?_
    refine va_get (D := G) (ci := 6) (v := .ref q_counts) (C := RX6) (T := TX6) (N := 2) hx hb hts hiX6_count_X6 hown hK.1 hP 0 rfl rfl 0 (by decide) (hts (.fieldLink RX6 9 "PackedBends$Tally" "counts" "[I") (List.mem_of_getElem? (i := 2) rfl)) (fun _ h9 => h9) rfl dX6_count_11 ?_
    refine lv_lload_n hx hb dX6_count_14 rfl (lv_at hl 1 rfl) ?_
    refine lv_lconst (v := 0) hx hb dX6_count_15 (by decide) ?_
    refine va_mmax_long hx hb (hml.trans hl.1.symm) hown (hts (.methodLink RX6 47 Lib.MathLoose.max_long.x) (List.mem_of_getElem? (i := 3) rfl)) (hts (.static Lib.MathLoose.max_long.x) (List.mem_of_getElem? (i := 4) rfl)) (hts (.initialized "java/lang/Math") (List.mem_of_getElem? (i := 5) rfl)) (hts (.code Lib.MathLoose.max_long.x Lib.MathLoose.max_long.code 4 (some .long)) (List.mem_of_getElem? (i := 6) rfl)) (Nat.le_of_ble_eq_true rfl) (Nat.le_of_ble_eq_true rfl) (Nat.zero_le _) (Nat.zero_le _) dX6_count_16 ?_
    refine lv_l2i hx hb dX6_count_19 rfl ?_
    refine lv_dup2_11 hx hb dX6_count_20 rfl rfl ?_
    obtain ⟨z2, hf⟩ := ck_s hf
    refine va_iald hx hb hK.1 hP 1 0 rfl rfl (vp_in_iff.mpr z2) dX6_count_21 ?_
    refine lv_iconst (v := 1) hx hb dX6_count_22 (by decide) ?_
    refine lv_iadd hx hb dX6_count_23 ?_
    refine va_iast hx hb hK.1 hP hD hS 1 0 rfl rfl (vp_in_iff.mpr z2) dX6_count_24 (fun H locs hP hD hS => ?_)
    have hP : va_P G vwCl [(q, .inr (6, [.ref q_counts, .int v_reach])), (q_counts, .inl (cI, 5001, .inl (upd v_counts ((if (0 : Int64) < p1 then p1 else (0 : Int64)).toInt32).toNatClampNeg ((v_counts ((if (0 : Int64) < p1 then p1 else (0 : Int64)).toInt32).toNatClampNeg) + (1 : Int32)))))] H := hP
    have hD : va_D A [(q, .inr (6, [.ref q_counts, .int v_reach])), (q_counts, .inl (cI, 5001, .inl (upd v_counts ((if (0 : Int64) < p1 then p1 else (0 : Int64)).toInt32).toNatClampNeg ((v_counts ((if (0 : Int64) < p1 then p1 else (0 : Int64)).toInt32).toNatClampNeg) + (1 : Int32)))))] := hD
    cases hf
    rw [← hQ]
    exact rt_v hx hb hr hlk hP hD hS dX6_count_25
def pX6_reachTo_L32 (v_reach : Int32) : Nat → Int32 → (Nat → Int32) → (Int32 → (Nat → Int32) → Option (Int32 × (Nat → Int32) × Int32 × (Nat → Int32) × (Nat → Int64))) → Option (Int32 × (Nat → Int32) × Int32 × (Nat → Int32) × (Nat → Int64))
  | 0, _, _, _ => none
  | n + 1, x4, v_counts, k => if v_reach < x4 then k x4 v_counts else ck (ix x4 5001) (pX6_reachTo_L32 v_reach n (x4 + (1 : Int32)) (upd v_counts x4.toNatClampNeg (0 : Int32)) k)
def pX6_reachTo_L58 (v_reach : Int32) (v_a2 : (Nat → Int64)) : Nat → Int32 → (Nat → Int32) → (Int32 → (Nat → Int32) → Option (Int32 × (Nat → Int32) × Int32 × (Nat → Int32) × (Nat → Int64))) → Option (Int32 × (Nat → Int32) × Int32 × (Nat → Int32) × (Nat → Int64))
  | 0, _, _, _ => none
  | n + 1, x4, v_counts, k => if (4 : Int32) ≤ x4 then k x4 v_counts else ck (ix x4 4) (Option.bind (pX6_count v_reach v_counts (v_a2 x4.toNatClampNeg)) (fun r7 => pX6_reachTo_L58 v_reach v_a2 n (x4 + (1 : Int32)) r7 k))
def pX6_reachTo_L86 (v_reach : Int32) : Nat → Int32 → (Nat → Int32) → Int32 → (Nat → Int32) → (Nat → Int64) → (Int32 → (Nat → Int32) → Int32 → (Nat → Int32) → (Nat → Int64) → Option (Int32 × (Nat → Int32) × Int32 × (Nat → Int32) × (Nat → Int64))) → Option (Int32 × (Nat → Int32) × Int32 × (Nat → Int32) × (Nat → Int64))
  | 0, _, _, _, _, _, _ => none
  | n + 1, x4, v_counts, v_a3_depth, v_a3_row, v_a3_four, k => if (1000000 : Int32) ≤ x4 then k x4 v_counts v_a3_depth v_a3_row v_a3_four else Option.bind (pX7_advance n v_a3_depth v_a3_row v_a3_four v_reach.toInt64) (fun r11 => if r11.1 = 0 then k x4 v_counts r11.2.1 r11.2.2.1 r11.2.2.2 else Option.bind (pX7_found r11.2.1 r11.2.2.1 r11.2.2.2) (fun r13 => Option.bind (pX6_count v_reach v_counts r13) (fun r14 => pX6_reachTo_L86 v_reach n (x4 + (1 : Int32)) r14 r11.2.1 r11.2.2.1 r11.2.2.2 k)))
def pX6_reachTo_L122 (v_reach : Int32) : Nat → Int32 → (Nat → Int32) → (Int32 → (Nat → Int32) → Option (Int32 × (Nat → Int32) × Int32 × (Nat → Int32) × (Nat → Int64))) → Option (Int32 × (Nat → Int32) × Int32 × (Nat → Int32) × (Nat → Int64))
  | 0, _, _, _ => none
  | n + 1, x4, v_counts, k => if v_reach < x4 then k x4 v_counts else ck (ix x4 5001) (ck (ix (x4 - (1 : Int32)) 5001) (pX6_reachTo_L122 v_reach n (x4 + (1 : Int32)) (upd v_counts x4.toNatClampNeg ((v_counts x4.toNatClampNeg) + (v_counts (x4 - (1 : Int32)).toNatClampNeg))) k))
def pX6_reachTo (n : Nat) (v_reach : Int32) (v_counts : (Nat → Int32)) (v_a2 : (Nat → Int64)) (v_a3_depth : Int32) (v_a3_row : (Nat → Int32)) (v_a3_four : (Nat → Int64)) (p1 : Int32) : Option (Int32 × (Nat → Int32) × Int32 × (Nat → Int32) × (Nat → Int64)) := if v_reach < p1 then pX6_reachTo_L32 (if (if p1 < ((2 : Int32) * v_reach) then ((2 : Int32) * v_reach) else p1) < (5000 : Int32) then (if p1 < ((2 : Int32) * v_reach) then ((2 : Int32) * v_reach) else p1) else (5000 : Int32)) n (0 : Int32) v_counts (fun (y4_4 : Int32) (u4_counts : (Nat → Int32)) => pX6_reachTo_L58 (if (if p1 < ((2 : Int32) * v_reach) then ((2 : Int32) * v_reach) else p1) < (5000 : Int32) then (if p1 < ((2 : Int32) * v_reach) then ((2 : Int32) * v_reach) else p1) else (5000 : Int32)) v_a2 n (0 : Int32) u4_counts (fun (y4_8 : Int32) (u8_counts : (Nat → Int32)) => Option.bind (pX7_start n v_a3_four v_a2) (fun r9 => pX6_reachTo_L86 (if (if p1 < ((2 : Int32) * v_reach) then ((2 : Int32) * v_reach) else p1) < (5000 : Int32) then (if p1 < ((2 : Int32) * v_reach) then ((2 : Int32) * v_reach) else p1) else (5000 : Int32)) n (0 : Int32) u8_counts r9.1 v_a3_row r9.2 (fun (y4_15 : Int32) (u15_counts : (Nat → Int32)) (u15_a3_depth : Int32) (u15_a3_row : (Nat → Int32)) (u15_a3_four : (Nat → Int64)) => pX6_reachTo_L122 (if (if p1 < ((2 : Int32) * v_reach) then ((2 : Int32) * v_reach) else p1) < (5000 : Int32) then (if p1 < ((2 : Int32) * v_reach) then ((2 : Int32) * v_reach) else p1) else (5000 : Int32)) n (1 : Int32) u15_counts (fun (y4_19 : Int32) (u19_counts : (Nat → Int32)) => some (if (if p1 < ((2 : Int32) * v_reach) then ((2 : Int32) * v_reach) else p1) < (5000 : Int32) then (if p1 < ((2 : Int32) * v_reach) then ((2 : Int32) * v_reach) else p1) else (5000 : Int32), u19_counts, u15_a3_depth, u15_a3_row, u15_a3_four)))))) else some (v_reach, v_counts, v_a3_depth, v_a3_row, v_a3_four)
def rmX6_reachTo : Room := { frames := 3, cells := 0, slots := 0, locals := 70 }
theorem hiX6_reachTo_X6 : ∀ w ∈ u_ws RX6 TX6 2, w ∈ wsX6_reachTo := fun _ h => List.mem_cons_of_mem _ (List.mem_append_left _ (List.mem_append_right _ h))
set_option maxRecDepth 100000 in
set_option maxHeartbeats 4000000 in
theorem kX6_reachTo {l : Launch} {G : va_G} {cI cJ cZ cS cG : ClassId} (n : Nat) (q q_counts q_a2 q_a3 q_a3_row q_a3_four : Nat) (v_reach : Int32) (v_counts : (Nat → Int32)) (v_a2 : (Nat → Int64)) (v_a3_depth : Int32) (v_a3_row : (Nat → Int32)) (v_a3_four : (Nat → Int64)) (p1 : Int32) (R : Int32 × (Nat → Int32) × Int32 × (Nat → Int32) × (Nat → Int64)) (hf : pX6_reachTo n v_reach v_counts v_a2 v_a3_depth v_a3_row v_a3_four p1 = some R) : CTv l yX6_reachTo wsX6_reachTo rmX6_reachTo G cI cJ cZ cS cG [.ref q, .int p1, .ref q_a2, .ref q_a3] [(q, .inr (6, [.ref q_counts, .int v_reach])), (q_counts, .inl (cI, 5001, .inl v_counts)), (q_a2, .inl (cJ, 4, .inr (.inl v_a2))), (q_a3, .inr (7, [.ref q_a3_row, .ref q_a3_four, .int v_a3_depth])), (q_a3_row, .inl (cI, 2001, .inl v_a3_row)), (q_a3_four, .inl (cJ, 4, .inr (.inl v_a3_four)))] [(q, .inr (6, [.ref q_counts, .int R.1])), (q_counts, .inl (cI, 5001, .inl R.2.1)), (q_a2, .inl (cJ, 4, .inr (.inl v_a2))), (q_a3, .inr (7, [.ref q_a3_row, .ref q_a3_four, .int R.2.2.1])), (q_a3_row, .inl (cI, 2001, .inl R.2.2.2.1)), (q_a3_four, .inl (cJ, 4, .inr (.inl R.2.2.2.2)))] := by
  refine Met.ofE (Qc := fun A => QRv G A [(q, .inr (6, [.ref q_counts, .int R.1])), (q_counts, .inl (cI, 5001, .inl R.2.1)), (q_a2, .inl (cJ, 4, .inr (.inl v_a2))), (q_a3, .inr (7, [.ref q_a3_row, .ref q_a3_four, .int R.2.2.1])), (q_a3_row, .inl (cI, 2001, .inl R.2.2.2.1)), (q_a3_four, .inl (cJ, 4, .inr (.inl R.2.2.2.2)))]) (cc := cX6_reachTo) (nL := 5) (ret := none) (plainFor_of_name (by decide +kernel)) rfl (Nat.le_of_ble_eq_true rfl) ?_
  intro p e s m below meth c A ls hx hb hml hr hlk hts hown hK hA hP hD hS hl
  have hown : s.vm.findClass RX6 = some m.cls := hown
  have hl : lv_has ls 5 [(0, .ref q), (1, .int p1), (2, .ref q_a2), (3, .ref q_a3)] := hl
  generalize hQ : MQ below (QRv G A [(q, .inr (6, [.ref q_counts, .int R.1])), (q_counts, .inl (cI, 5001, .inl R.2.1)), (q_a2, .inl (cJ, 4, .inr (.inl v_a2))), (q_a3, .inr (7, [.ref q_a3_row, .ref q_a3_four, .int R.2.2.1])), (q_a3_row, .inl (cI, 2001, .inl R.2.2.2.1)), (q_a3_four, .inl (cJ, 4, .inr (.inl R.2.2.2.2)))]) ([.ref q, .int p1, .ref q_a2, .ref q_a3] : List Value).toArray s 0 0 A = QQ
  unfold pX6_reachTo at hf
  have hL32 : ∀ (x1 : Int32) (v_reach : Int32) (v_a3_depth : Int32) (v_a3_row : (Nat → Int32)) (v_a3_four : (Nat → Int64)) (k : Int32 → (Nat → Int32) → Option (Int32 × (Nat → Int32) × Int32 × (Nat → Int32) × (Nat → Int64))), (∀ (x4 : Int32) (v_counts : (Nat → Int32)) (H : Heap) (locs : List Loc) (ls : Array Slot), k x4 v_counts = some R → va_P G vwCl [(q, .inr (6, [.ref q_counts, .int v_reach])), (q_counts, .inl (cI, 5001, .inl v_counts)), (q_a2, .inl (cJ, 4, .inr (.inl v_a2))), (q_a3, .inr (7, [.ref q_a3_row, .ref q_a3_four, .int v_a3_depth])), (q_a3_row, .inl (cI, 2001, .inl v_a3_row)), (q_a3_four, .inl (cJ, 4, .inr (.inl v_a3_four)))] H → va_D A [(q, .inr (6, [.ref q_counts, .int v_reach])), (q_counts, .inl (cI, 5001, .inl v_counts)), (q_a2, .inl (cJ, 4, .inr (.inl v_a2))), (q_a3, .inr (7, [.ref q_a3_row, .ref q_a3_four, .int v_a3_depth])), (q_a3_row, .inl (cI, 2001, .inl v_a3_row)), (q_a3_four, .inl (cJ, 4, .inr (.inl v_a3_four)))] → va_S A s.heap H locs → lv_has ls 5 [(0, .ref q), (1, .int x1), (2, .ref q_a2), (3, .ref q_a3), (4, .int x4)] → W p l e rmX6_reachTo s m ([.ref q, .int p1, .ref q_a2, .ref q_a3] : List Value).toArray below meth c H locs 0 0 QQ (F0 m 55 ls [])) → ∀ (n : Nat) (x4 : Int32) (v_counts : (Nat → Int32)) (H : Heap) (locs : List Loc) (ls : Array Slot), pX6_reachTo_L32 v_reach n x4 v_counts k = some R → va_P G vwCl [(q, .inr (6, [.ref q_counts, .int v_reach])), (q_counts, .inl (cI, 5001, .inl v_counts)), (q_a2, .inl (cJ, 4, .inr (.inl v_a2))), (q_a3, .inr (7, [.ref q_a3_row, .ref q_a3_four, .int v_a3_depth])), (q_a3_row, .inl (cI, 2001, .inl v_a3_row)), (q_a3_four, .inl (cJ, 4, .inr (.inl v_a3_four)))] H → va_D A [(q, .inr (6, [.ref q_counts, .int v_reach])), (q_counts, .inl (cI, 5001, .inl v_counts)), (q_a2, .inl (cJ, 4, .inr (.inl v_a2))), (q_a3, .inr (7, [.ref q_a3_row, .ref q_a3_four, .int v_a3_depth])), (q_a3_row, .inl (cI, 2001, .inl v_a3_row)), (q_a3_four, .inl (cJ, 4, .inr (.inl v_a3_four)))] → va_S A s.heap H locs → lv_has ls 5 [(0, .ref q), (1, .int x1), (2, .ref q_a2), (3, .ref q_a3), (4, .int x4)] → W p l e rmX6_reachTo s m ([.ref q, .int p1, .ref q_a2, .ref q_a3] : List Value).toArray below meth c H locs 0 0 QQ (F0 m 32 ls []) := by
    intro x1 v_reach v_a3_depth v_a3_row v_a3_four k hk n
    induction n with
    | zero =>
      intro x4 v_counts H locs ls hf
      cases hf
    | succ n ih =>
      intro x4 v_counts H locs ls hf hP hD hS hl
      unfold pX6_reachTo_L32 at hf
      refine lv_iload hx hb dX6_reachTo_32 (lv_at hl 4 rfl) ?_
      refine lv_aload_n hx hb dX6_reachTo_34 rfl (lv_at hl 0 rfl) ?_
      refine va_get (D := G) (ci := 6) (v := .int v_reach) (C := RX6) (T := TX6) (N := 2) hx hb hts hiX6_reachTo_X6 hown hK.1 hP 0 rfl rfl 1 (by decide) (hts (.fieldLink RX6 15 "PackedBends$Tally" "reach" "I") (List.mem_of_getElem? (i := 1) rfl)) (fun _ h9 => h9) rfl dX6_reachTo_35 ?_
      refine lv_icmp_gt (tgt := 55) hx hb dX6_reachTo_38 (by decide) (fun c2 => ?_) (fun c2 => ?_)
      · have hf := if_s hf c2
        exact hk x4 v_counts _ _ _ hf hP hD hS (lv_sub hl [0, 1, 2, 3, 4] rfl)
      · have hf := if_n hf c2
        refine lv_aload_n hx hb dX6_reachTo_41 rfl (lv_at hl 0 rfl) ?_
        refine va_get (D := G) (ci := 6) (v := .ref q_counts) (C := RX6) (T := TX6) (N := 2) hx hb hts hiX6_reachTo_X6 hown hK.1 hP 0 rfl rfl 0 (by decide) (hts (.fieldLink RX6 9 "PackedBends$Tally" "counts" "[I") (List.mem_of_getElem? (i := 9) rfl)) (fun _ h9 => h9) rfl dX6_reachTo_42 ?_
        refine lv_iload hx hb dX6_reachTo_45 (lv_at hl 4 rfl) ?_
        refine lv_iconst (v := 0) hx hb dX6_reachTo_47 (by decide) ?_
        obtain ⟨z3, hf⟩ := ck_s hf
        refine va_iast hx hb hK.1 hP hD hS 1 0 rfl rfl (vp_in_iff.mpr z3) dX6_reachTo_48 (fun H locs hP hD hS => ?_)
        have hP : va_P G vwCl [(q, .inr (6, [.ref q_counts, .int v_reach])), (q_counts, .inl (cI, 5001, .inl (upd v_counts x4.toNatClampNeg (0 : Int32)))), (q_a2, .inl (cJ, 4, .inr (.inl v_a2))), (q_a3, .inr (7, [.ref q_a3_row, .ref q_a3_four, .int v_a3_depth])), (q_a3_row, .inl (cI, 2001, .inl v_a3_row)), (q_a3_four, .inl (cJ, 4, .inr (.inl v_a3_four)))] H := hP
        have hD : va_D A [(q, .inr (6, [.ref q_counts, .int v_reach])), (q_counts, .inl (cI, 5001, .inl (upd v_counts x4.toNatClampNeg (0 : Int32)))), (q_a2, .inl (cJ, 4, .inr (.inl v_a2))), (q_a3, .inr (7, [.ref q_a3_row, .ref q_a3_four, .int v_a3_depth])), (q_a3_row, .inl (cI, 2001, .inl v_a3_row)), (q_a3_four, .inl (cJ, 4, .inr (.inl v_a3_four)))] := hD
        refine lv_iinc (v := x4 + (1 : Int32)) (lv' := [(4, .int (x4 + (1 : Int32))), (0, .ref q), (1, .int x1), (2, .ref q_a2), (3, .ref q_a3)]) hx hb dX6_reachTo_49 hl (k := 4) rfl rfl (by decide) rfl (fun ls hl => ?_)
        refine lv_goto (tgt := 32) hx hb dX6_reachTo_52 (by decide) ?_
        exact ih (x4 + (1 : Int32)) (upd v_counts x4.toNatClampNeg (0 : Int32)) _ _ _ hf hP hD hS (lv_sub hl [1, 2, 3, 4, 0] rfl)
  have hL58 : ∀ (x1 : Int32) (v_reach : Int32) (v_a3_depth : Int32) (v_a3_row : (Nat → Int32)) (v_a3_four : (Nat → Int64)) (k : Int32 → (Nat → Int32) → Option (Int32 × (Nat → Int32) × Int32 × (Nat → Int32) × (Nat → Int64))), (∀ (x4 : Int32) (v_counts : (Nat → Int32)) (H : Heap) (locs : List Loc) (ls : Array Slot), k x4 v_counts = some R → va_P G vwCl [(q, .inr (6, [.ref q_counts, .int v_reach])), (q_counts, .inl (cI, 5001, .inl v_counts)), (q_a2, .inl (cJ, 4, .inr (.inl v_a2))), (q_a3, .inr (7, [.ref q_a3_row, .ref q_a3_four, .int v_a3_depth])), (q_a3_row, .inl (cI, 2001, .inl v_a3_row)), (q_a3_four, .inl (cJ, 4, .inr (.inl v_a3_four)))] H → va_D A [(q, .inr (6, [.ref q_counts, .int v_reach])), (q_counts, .inl (cI, 5001, .inl v_counts)), (q_a2, .inl (cJ, 4, .inr (.inl v_a2))), (q_a3, .inr (7, [.ref q_a3_row, .ref q_a3_four, .int v_a3_depth])), (q_a3_row, .inl (cI, 2001, .inl v_a3_row)), (q_a3_four, .inl (cJ, 4, .inr (.inl v_a3_four)))] → va_S A s.heap H locs → lv_has ls 5 [(0, .ref q), (1, .int x1), (2, .ref q_a2), (3, .ref q_a3), (4, .int x4)] → W p l e rmX6_reachTo s m ([.ref q, .int p1, .ref q_a2, .ref q_a3] : List Value).toArray below meth c H locs 0 0 QQ (F0 m 78 ls [])) → ∀ (n : Nat) (x4 : Int32) (v_counts : (Nat → Int32)) (H : Heap) (locs : List Loc) (ls : Array Slot), pX6_reachTo_L58 v_reach v_a2 n x4 v_counts k = some R → va_P G vwCl [(q, .inr (6, [.ref q_counts, .int v_reach])), (q_counts, .inl (cI, 5001, .inl v_counts)), (q_a2, .inl (cJ, 4, .inr (.inl v_a2))), (q_a3, .inr (7, [.ref q_a3_row, .ref q_a3_four, .int v_a3_depth])), (q_a3_row, .inl (cI, 2001, .inl v_a3_row)), (q_a3_four, .inl (cJ, 4, .inr (.inl v_a3_four)))] H → va_D A [(q, .inr (6, [.ref q_counts, .int v_reach])), (q_counts, .inl (cI, 5001, .inl v_counts)), (q_a2, .inl (cJ, 4, .inr (.inl v_a2))), (q_a3, .inr (7, [.ref q_a3_row, .ref q_a3_four, .int v_a3_depth])), (q_a3_row, .inl (cI, 2001, .inl v_a3_row)), (q_a3_four, .inl (cJ, 4, .inr (.inl v_a3_four)))] → va_S A s.heap H locs → lv_has ls 5 [(0, .ref q), (1, .int x1), (2, .ref q_a2), (3, .ref q_a3), (4, .int x4)] → W p l e rmX6_reachTo s m ([.ref q, .int p1, .ref q_a2, .ref q_a3] : List Value).toArray below meth c H locs 0 0 QQ (F0 m 58 ls []) := by
    intro x1 v_reach v_a3_depth v_a3_row v_a3_four k hk n
    induction n with
    | zero =>
      intro x4 v_counts H locs ls hf
      cases hf
    | succ n ih =>
      intro x4 v_counts H locs ls hf hP hD hS hl
      unfold pX6_reachTo_L58 at hf
      refine lv_iload hx hb dX6_reachTo_58 (lv_at hl 4 rfl) ?_
      refine lv_iconst (v := 4) hx hb dX6_reachTo_60 (by decide) ?_
      refine lv_icmp_ge (tgt := 78) hx hb dX6_reachTo_61 (by decide) (fun c5 => ?_) (fun c5 => ?_)
      · have hf := if_s hf c5
        exact hk x4 v_counts _ _ _ hf hP hD hS (lv_sub hl [0, 1, 2, 3, 4] rfl)
      · have hf := if_n hf c5
        refine lv_aload_n hx hb dX6_reachTo_64 rfl (lv_at hl 0 rfl) ?_
        refine lv_aload_n hx hb dX6_reachTo_65 rfl (lv_at hl 2 rfl) ?_
        refine lv_iload hx hb dX6_reachTo_66 (lv_at hl 4 rfl) ?_
        obtain ⟨z6, hf⟩ := ck_s hf
        refine va_lald hx hb hK.1 hP 2 1 rfl rfl (vp_in_iff.mpr z6) dX6_reachTo_68 ?_
        obtain ⟨r7, hc7, hf⟩ := ob_s hf
        refine bk_v (wc := [(q, .inr (6, [.ref q_counts, .int v_reach])), (q_counts, .inl (cI, 5001, .inl v_counts))]) (wc2 := [(q, .inr (6, [.ref q_counts, .int v_reach])), (q_counts, .inl (cI, 5001, .inl r7))]) (wr := [(q_a2, .inl (cJ, 4, .inr (.inl v_a2))), (q_a3, .inr (7, [.ref q_a3_row, .ref q_a3_four, .int v_a3_depth])), (q_a3_row, .inl (cI, 2001, .inl v_a3_row)), (q_a3_four, .inl (cJ, 4, .inr (.inl v_a3_four)))]) (ws2 := [(q, .inr (6, [.ref q_counts, .int v_reach])), (q_counts, .inl (cI, 5001, .inl r7)), (q_a2, .inl (cJ, 4, .inr (.inl v_a2))), (q_a3, .inr (7, [.ref q_a3_row, .ref q_a3_four, .int v_a3_depth])), (q_a3_row, .inl (cI, 2001, .inl v_a3_row)), (q_a3_four, .inl (cJ, 4, .inr (.inl v_a3_four)))]) (va_runV (As := [.long (v_a2 x4.toNatClampNeg)]) (rest := []) ⟨hx, hb, hml, hown, hts⟩ (kX6_count (l := l) (G := G) (cI := cI) (cJ := cJ) (cZ := cZ) (cS := cS) (cG := cG) q q_counts v_reach v_counts (v_a2 x4.toNatClampNeg) _ hc7 _) (cwV 1 hts gX6_reachTo_X6_count rfl rfl rfl (by decide +kernel) ⟨Nat.le_of_ble_eq_true rfl, Nat.le_of_ble_eq_true rfl⟩) (cut_V hK hP hD [0, 1] rfl rfl (ci := 6) (q0 := 0) rfl rfl) rfl rfl hl.1 rfl (lv_room (Nat.le_of_ble_eq_true rfl)) dX6_reachTo_69 ⟨Nat.zero_le _, Nat.zero_le _⟩) hP hD hS hA [0, 1] [2, 3, 4, 5] [4, 5, 0, 1, 2, 3] rfl rfl rfl rfl rfl rfl (fun H locs hP hD hS => ?_)
        refine lv_iinc (v := x4 + (1 : Int32)) (lv' := [(4, .int (x4 + (1 : Int32))), (0, .ref q), (1, .int x1), (2, .ref q_a2), (3, .ref q_a3)]) hx hb dX6_reachTo_72 hl (k := 4) rfl rfl (by decide) rfl (fun ls hl => ?_)
        refine lv_goto (tgt := 58) hx hb dX6_reachTo_75 (by decide) ?_
        exact ih (x4 + (1 : Int32)) r7 _ _ _ hf hP hD hS (lv_sub hl [1, 2, 3, 4, 0] rfl)
  have hL86 : ∀ (x1 : Int32) (v_reach : Int32) (k : Int32 → (Nat → Int32) → Int32 → (Nat → Int32) → (Nat → Int64) → Option (Int32 × (Nat → Int32) × Int32 × (Nat → Int32) × (Nat → Int64))), (∀ (x4 : Int32) (v_counts : (Nat → Int32)) (v_a3_depth : Int32) (v_a3_row : (Nat → Int32)) (v_a3_four : (Nat → Int64)) (H : Heap) (locs : List Loc) (ls : Array Slot), k x4 v_counts v_a3_depth v_a3_row v_a3_four = some R → va_P G vwCl [(q, .inr (6, [.ref q_counts, .int v_reach])), (q_counts, .inl (cI, 5001, .inl v_counts)), (q_a2, .inl (cJ, 4, .inr (.inl v_a2))), (q_a3, .inr (7, [.ref q_a3_row, .ref q_a3_four, .int v_a3_depth])), (q_a3_row, .inl (cI, 2001, .inl v_a3_row)), (q_a3_four, .inl (cJ, 4, .inr (.inl v_a3_four)))] H → va_D A [(q, .inr (6, [.ref q_counts, .int v_reach])), (q_counts, .inl (cI, 5001, .inl v_counts)), (q_a2, .inl (cJ, 4, .inr (.inl v_a2))), (q_a3, .inr (7, [.ref q_a3_row, .ref q_a3_four, .int v_a3_depth])), (q_a3_row, .inl (cI, 2001, .inl v_a3_row)), (q_a3_four, .inl (cJ, 4, .inr (.inl v_a3_four)))] → va_S A s.heap H locs → lv_has ls 5 [(0, .ref q), (1, .int x1), (2, .ref q_a2), (3, .ref q_a3), (4, .int x4)] → W p l e rmX6_reachTo s m ([.ref q, .int p1, .ref q_a2, .ref q_a3] : List Value).toArray below meth c H locs 0 0 QQ (F0 m 119 ls [])) → ∀ (n : Nat) (x4 : Int32) (v_counts : (Nat → Int32)) (v_a3_depth : Int32) (v_a3_row : (Nat → Int32)) (v_a3_four : (Nat → Int64)) (H : Heap) (locs : List Loc) (ls : Array Slot), pX6_reachTo_L86 v_reach n x4 v_counts v_a3_depth v_a3_row v_a3_four k = some R → va_P G vwCl [(q, .inr (6, [.ref q_counts, .int v_reach])), (q_counts, .inl (cI, 5001, .inl v_counts)), (q_a2, .inl (cJ, 4, .inr (.inl v_a2))), (q_a3, .inr (7, [.ref q_a3_row, .ref q_a3_four, .int v_a3_depth])), (q_a3_row, .inl (cI, 2001, .inl v_a3_row)), (q_a3_four, .inl (cJ, 4, .inr (.inl v_a3_four)))] H → va_D A [(q, .inr (6, [.ref q_counts, .int v_reach])), (q_counts, .inl (cI, 5001, .inl v_counts)), (q_a2, .inl (cJ, 4, .inr (.inl v_a2))), (q_a3, .inr (7, [.ref q_a3_row, .ref q_a3_four, .int v_a3_depth])), (q_a3_row, .inl (cI, 2001, .inl v_a3_row)), (q_a3_four, .inl (cJ, 4, .inr (.inl v_a3_four)))] → va_S A s.heap H locs → lv_has ls 5 [(0, .ref q), (1, .int x1), (2, .ref q_a2), (3, .ref q_a3), (4, .int x4)] → W p l e rmX6_reachTo s m ([.ref q, .int p1, .ref q_a2, .ref q_a3] : List Value).toArray below meth c H locs 0 0 QQ (F0 m 86 ls []) := by
    intro x1 v_reach k hk n
    induction n with
    | zero =>
      intro x4 v_counts v_a3_depth v_a3_row v_a3_four H locs ls hf
      cases hf
    | succ n ih =>
      intro x4 v_counts v_a3_depth v_a3_row v_a3_four H locs ls hf hP hD hS hl
      unfold pX6_reachTo_L86 at hf
      refine lv_iload hx hb dX6_reachTo_86 (lv_at hl 4 rfl) ?_
      refine lv_ldc (v := 1000000) hx hb hown (hts (.constant RX6 38 (1000000)) (List.mem_of_getElem? (i := 10) rfl)) dX6_reachTo_88 ?_
      refine lv_icmp_ge (tgt := 119) hx hb dX6_reachTo_90 (by decide) (fun c10 => ?_) (fun c10 => ?_)
      · have hf := if_s hf c10
        exact hk x4 v_counts v_a3_depth v_a3_row v_a3_four _ _ _ hf hP hD hS (lv_sub hl [0, 1, 2, 3, 4] rfl)
      · have hf := if_n hf c10
        refine lv_aload_n hx hb dX6_reachTo_93 rfl (lv_at hl 3 rfl) ?_
        refine lv_aload_n hx hb dX6_reachTo_94 rfl (lv_at hl 0 rfl) ?_
        refine va_get (D := G) (ci := 6) (v := .int v_reach) (C := RX6) (T := TX6) (N := 2) hx hb hts hiX6_reachTo_X6 hown hK.1 hP 0 rfl rfl 1 (by decide) (hts (.fieldLink RX6 15 "PackedBends$Tally" "reach" "I") (List.mem_of_getElem? (i := 1) rfl)) (fun _ h9 => h9) rfl dX6_reachTo_95 ?_
        refine lv_i2l hx hb dX6_reachTo_98 rfl ?_
        obtain ⟨r11, hc11, hf⟩ := ob_s hf
        refine bk_i (wc := [(q_a3, .inr (7, [.ref q_a3_row, .ref q_a3_four, .int v_a3_depth])), (q_a3_row, .inl (cI, 2001, .inl v_a3_row)), (q_a3_four, .inl (cJ, 4, .inr (.inl v_a3_four)))]) (wc2 := [(q_a3, .inr (7, [.ref q_a3_row, .ref q_a3_four, .int r11.2.1])), (q_a3_row, .inl (cI, 2001, .inl r11.2.2.1)), (q_a3_four, .inl (cJ, 4, .inr (.inl r11.2.2.2)))]) (wr := [(q, .inr (6, [.ref q_counts, .int v_reach])), (q_counts, .inl (cI, 5001, .inl v_counts)), (q_a2, .inl (cJ, 4, .inr (.inl v_a2)))]) (ws2 := [(q, .inr (6, [.ref q_counts, .int v_reach])), (q_counts, .inl (cI, 5001, .inl v_counts)), (q_a2, .inl (cJ, 4, .inr (.inl v_a2))), (q_a3, .inr (7, [.ref q_a3_row, .ref q_a3_four, .int r11.2.1])), (q_a3_row, .inl (cI, 2001, .inl r11.2.2.1)), (q_a3_four, .inl (cJ, 4, .inr (.inl r11.2.2.2)))]) (r := r11.1) (va_runV (As := [.long v_reach.toInt64]) (rest := []) ⟨hx, hb, hml, hown, hts⟩ (kX7_advance (l := l) (G := G) (cI := cI) (cJ := cJ) (cZ := cZ) (cS := cS) (cG := cG) n q_a3 q_a3_row q_a3_four v_a3_depth v_a3_row v_a3_four v_reach.toInt64 _ hc11 _) (cwV 1 hts gX6_reachTo_X7_advance rfl rfl rfl (by decide +kernel) ⟨Nat.le_of_ble_eq_true rfl, Nat.le_of_ble_eq_true rfl⟩) (cut_V hK hP hD [3, 4, 5] rfl rfl (ci := 7) (q0 := 3) rfl rfl) rfl rfl hl.1 rfl (lv_room (Nat.le_of_ble_eq_true rfl)) dX6_reachTo_99 ⟨Nat.zero_le _, Nat.zero_le _⟩) hP hD hS hA [3, 4, 5] [0, 1, 2] [0, 1, 2, 3, 4, 5] rfl rfl rfl rfl rfl rfl (fun H locs hP hD hS => ?_)
        refine lv_if_eq (tgt := 119) hx hb dX6_reachTo_102 (by decide) (fun c12 => ?_) (fun c12 => ?_)
        · have hf := if_s hf c12
          exact hk x4 v_counts r11.2.1 r11.2.2.1 r11.2.2.2 _ _ _ hf hP hD hS (lv_sub hl [0, 1, 2, 3, 4] rfl)
        · have hf := if_n hf c12
          refine lv_aload_n hx hb dX6_reachTo_105 rfl (lv_at hl 0 rfl) ?_
          refine lv_aload_n hx hb dX6_reachTo_106 rfl (lv_at hl 3 rfl) ?_
          obtain ⟨r13, hc13, hf⟩ := ob_s hf
          refine bk_l (wc := [(q_a3, .inr (7, [.ref q_a3_row, .ref q_a3_four, .int r11.2.1])), (q_a3_row, .inl (cI, 2001, .inl r11.2.2.1)), (q_a3_four, .inl (cJ, 4, .inr (.inl r11.2.2.2)))]) (wc2 := [(q_a3, .inr (7, [.ref q_a3_row, .ref q_a3_four, .int r11.2.1])), (q_a3_row, .inl (cI, 2001, .inl r11.2.2.1)), (q_a3_four, .inl (cJ, 4, .inr (.inl r11.2.2.2)))]) (wr := [(q, .inr (6, [.ref q_counts, .int v_reach])), (q_counts, .inl (cI, 5001, .inl v_counts)), (q_a2, .inl (cJ, 4, .inr (.inl v_a2)))]) (ws2 := [(q, .inr (6, [.ref q_counts, .int v_reach])), (q_counts, .inl (cI, 5001, .inl v_counts)), (q_a2, .inl (cJ, 4, .inr (.inl v_a2))), (q_a3, .inr (7, [.ref q_a3_row, .ref q_a3_four, .int r11.2.1])), (q_a3_row, .inl (cI, 2001, .inl r11.2.2.1)), (q_a3_four, .inl (cJ, 4, .inr (.inl r11.2.2.2)))]) (r := r13) (va_runV (As := []) (rest := [.ref q]) ⟨hx, hb, hml, hown, hts⟩ (kX7_found (l := l) (G := G) (cI := cI) (cJ := cJ) (cZ := cZ) (cS := cS) (cG := cG) q_a3 q_a3_row q_a3_four r11.2.1 r11.2.2.1 r11.2.2.2 _ hc13 _) (cwV 0 hts gX6_reachTo_X7_found rfl rfl rfl (by decide +kernel) ⟨Nat.le_of_ble_eq_true rfl, Nat.le_of_ble_eq_true rfl⟩) (cut_V hK hP hD [3, 4, 5] rfl rfl (ci := 7) (q0 := 3) rfl rfl) rfl rfl hl.1 rfl (lv_room (Nat.le_of_ble_eq_true rfl)) dX6_reachTo_107 ⟨Nat.zero_le _, Nat.zero_le _⟩) hP hD hS hA [3, 4, 5] [0, 1, 2] [0, 1, 2, 3, 4, 5] rfl rfl rfl rfl rfl rfl (fun H locs hP hD hS => ?_)
          obtain ⟨r14, hc14, hf⟩ := ob_s hf
          refine bk_v (wc := [(q, .inr (6, [.ref q_counts, .int v_reach])), (q_counts, .inl (cI, 5001, .inl v_counts))]) (wc2 := [(q, .inr (6, [.ref q_counts, .int v_reach])), (q_counts, .inl (cI, 5001, .inl r14))]) (wr := [(q_a2, .inl (cJ, 4, .inr (.inl v_a2))), (q_a3, .inr (7, [.ref q_a3_row, .ref q_a3_four, .int r11.2.1])), (q_a3_row, .inl (cI, 2001, .inl r11.2.2.1)), (q_a3_four, .inl (cJ, 4, .inr (.inl r11.2.2.2)))]) (ws2 := [(q, .inr (6, [.ref q_counts, .int v_reach])), (q_counts, .inl (cI, 5001, .inl r14)), (q_a2, .inl (cJ, 4, .inr (.inl v_a2))), (q_a3, .inr (7, [.ref q_a3_row, .ref q_a3_four, .int r11.2.1])), (q_a3_row, .inl (cI, 2001, .inl r11.2.2.1)), (q_a3_four, .inl (cJ, 4, .inr (.inl r11.2.2.2)))]) (va_runV (As := [.long r13]) (rest := []) ⟨hx, hb, hml, hown, hts⟩ (kX6_count (l := l) (G := G) (cI := cI) (cJ := cJ) (cZ := cZ) (cS := cS) (cG := cG) q q_counts v_reach v_counts r13 _ hc14 _) (cwV 1 hts gX6_reachTo_X6_count rfl rfl rfl (by decide +kernel) ⟨Nat.le_of_ble_eq_true rfl, Nat.le_of_ble_eq_true rfl⟩) (cut_V hK hP hD [0, 1] rfl rfl (ci := 6) (q0 := 0) rfl rfl) rfl rfl hl.1 rfl (lv_room (Nat.le_of_ble_eq_true rfl)) dX6_reachTo_110 ⟨Nat.zero_le _, Nat.zero_le _⟩) hP hD hS hA [0, 1] [2, 3, 4, 5] [4, 5, 0, 1, 2, 3] rfl rfl rfl rfl rfl rfl (fun H locs hP hD hS => ?_)
          refine lv_iinc (v := x4 + (1 : Int32)) (lv' := [(4, .int (x4 + (1 : Int32))), (0, .ref q), (1, .int x1), (2, .ref q_a2), (3, .ref q_a3)]) hx hb dX6_reachTo_113 hl (k := 4) rfl rfl (by decide) rfl (fun ls hl => ?_)
          refine lv_goto (tgt := 86) hx hb dX6_reachTo_116 (by decide) ?_
          exact ih (x4 + (1 : Int32)) r14 r11.2.1 r11.2.2.1 r11.2.2.2 _ _ _ hf hP hD hS (lv_sub hl [1, 2, 3, 4, 0] rfl)
  have hL122 : ∀ (x1 : Int32) (v_reach : Int32) (v_a3_depth : Int32) (v_a3_row : (Nat → Int32)) (v_a3_four : (Nat → Int64)) (k : Int32 → (Nat → Int32) → Option (Int32 × (Nat → Int32) × Int32 × (Nat → Int32) × (Nat → Int64))), (∀ (x4 : Int32) (v_counts : (Nat → Int32)) (H : Heap) (locs : List Loc) (ls : Array Slot), k x4 v_counts = some R → va_P G vwCl [(q, .inr (6, [.ref q_counts, .int v_reach])), (q_counts, .inl (cI, 5001, .inl v_counts)), (q_a2, .inl (cJ, 4, .inr (.inl v_a2))), (q_a3, .inr (7, [.ref q_a3_row, .ref q_a3_four, .int v_a3_depth])), (q_a3_row, .inl (cI, 2001, .inl v_a3_row)), (q_a3_four, .inl (cJ, 4, .inr (.inl v_a3_four)))] H → va_D A [(q, .inr (6, [.ref q_counts, .int v_reach])), (q_counts, .inl (cI, 5001, .inl v_counts)), (q_a2, .inl (cJ, 4, .inr (.inl v_a2))), (q_a3, .inr (7, [.ref q_a3_row, .ref q_a3_four, .int v_a3_depth])), (q_a3_row, .inl (cI, 2001, .inl v_a3_row)), (q_a3_four, .inl (cJ, 4, .inr (.inl v_a3_four)))] → va_S A s.heap H locs → lv_has ls 5 [(0, .ref q), (1, .int x1), (2, .ref q_a2), (3, .ref q_a3), (4, .int x4)] → W p l e rmX6_reachTo s m ([.ref q, .int p1, .ref q_a2, .ref q_a3] : List Value).toArray below meth c H locs 0 0 QQ (F0 m 156 ls [])) → ∀ (n : Nat) (x4 : Int32) (v_counts : (Nat → Int32)) (H : Heap) (locs : List Loc) (ls : Array Slot), pX6_reachTo_L122 v_reach n x4 v_counts k = some R → va_P G vwCl [(q, .inr (6, [.ref q_counts, .int v_reach])), (q_counts, .inl (cI, 5001, .inl v_counts)), (q_a2, .inl (cJ, 4, .inr (.inl v_a2))), (q_a3, .inr (7, [.ref q_a3_row, .ref q_a3_four, .int v_a3_depth])), (q_a3_row, .inl (cI, 2001, .inl v_a3_row)), (q_a3_four, .inl (cJ, 4, .inr (.inl v_a3_four)))] H → va_D A [(q, .inr (6, [.ref q_counts, .int v_reach])), (q_counts, .inl (cI, 5001, .inl v_counts)), (q_a2, .inl (cJ, 4, .inr (.inl v_a2))), (q_a3, .inr (7, [.ref q_a3_row, .ref q_a3_four, .int v_a3_depth])), (q_a3_row, .inl (cI, 2001, .inl v_a3_row)), (q_a3_four, .inl (cJ, 4, .inr (.inl v_a3_four)))] → va_S A s.heap H locs → lv_has ls 5 [(0, .ref q), (1, .int x1), (2, .ref q_a2), (3, .ref q_a3), (4, .int x4)] → W p l e rmX6_reachTo s m ([.ref q, .int p1, .ref q_a2, .ref q_a3] : List Value).toArray below meth c H locs 0 0 QQ (F0 m 122 ls []) := by
    intro x1 v_reach v_a3_depth v_a3_row v_a3_four k hk n
    induction n with
    | zero =>
      intro x4 v_counts H locs ls hf
      cases hf
    | succ n ih =>
      intro x4 v_counts H locs ls hf hP hD hS hl
      unfold pX6_reachTo_L122 at hf
      refine lv_iload hx hb dX6_reachTo_122 (lv_at hl 4 rfl) ?_
      refine lv_aload_n hx hb dX6_reachTo_124 rfl (lv_at hl 0 rfl) ?_
      refine va_get (D := G) (ci := 6) (v := .int v_reach) (C := RX6) (T := TX6) (N := 2) hx hb hts hiX6_reachTo_X6 hown hK.1 hP 0 rfl rfl 1 (by decide) (hts (.fieldLink RX6 15 "PackedBends$Tally" "reach" "I") (List.mem_of_getElem? (i := 1) rfl)) (fun _ h9 => h9) rfl dX6_reachTo_125 ?_
      refine lv_icmp_gt (tgt := 156) hx hb dX6_reachTo_128 (by decide) (fun c16 => ?_) (fun c16 => ?_)
      · have hf := if_s hf c16
        exact hk x4 v_counts _ _ _ hf hP hD hS (lv_sub hl [0, 1, 2, 3, 4] rfl)
      · have hf := if_n hf c16
        refine lv_aload_n hx hb dX6_reachTo_131 rfl (lv_at hl 0 rfl) ?_
        refine va_get (D := G) (ci := 6) (v := .ref q_counts) (C := RX6) (T := TX6) (N := 2) hx hb hts hiX6_reachTo_X6 hown hK.1 hP 0 rfl rfl 0 (by decide) (hts (.fieldLink RX6 9 "PackedBends$Tally" "counts" "[I") (List.mem_of_getElem? (i := 9) rfl)) (fun _ h9 => h9) rfl dX6_reachTo_132 ?_
        refine lv_iload hx hb dX6_reachTo_135 (lv_at hl 4 rfl) ?_
        refine lv_dup2_11 hx hb dX6_reachTo_137 rfl rfl ?_
        obtain ⟨z17, hf⟩ := ck_s hf
        refine va_iald hx hb hK.1 hP 1 0 rfl rfl (vp_in_iff.mpr z17) dX6_reachTo_138 ?_
        refine lv_aload_n hx hb dX6_reachTo_139 rfl (lv_at hl 0 rfl) ?_
        refine va_get (D := G) (ci := 6) (v := .ref q_counts) (C := RX6) (T := TX6) (N := 2) hx hb hts hiX6_reachTo_X6 hown hK.1 hP 0 rfl rfl 0 (by decide) (hts (.fieldLink RX6 9 "PackedBends$Tally" "counts" "[I") (List.mem_of_getElem? (i := 9) rfl)) (fun _ h9 => h9) rfl dX6_reachTo_140 ?_
        refine lv_iload hx hb dX6_reachTo_143 (lv_at hl 4 rfl) ?_
        refine lv_iconst (v := 1) hx hb dX6_reachTo_145 (by decide) ?_
        refine lv_isub hx hb dX6_reachTo_146 ?_
        obtain ⟨z18, hf⟩ := ck_s hf
        refine va_iald hx hb hK.1 hP 1 0 rfl rfl (vp_in_iff.mpr z18) dX6_reachTo_147 ?_
        refine lv_iadd hx hb dX6_reachTo_148 ?_
        refine va_iast hx hb hK.1 hP hD hS 1 0 rfl rfl (vp_in_iff.mpr z17) dX6_reachTo_149 (fun H locs hP hD hS => ?_)
        have hP : va_P G vwCl [(q, .inr (6, [.ref q_counts, .int v_reach])), (q_counts, .inl (cI, 5001, .inl (upd v_counts x4.toNatClampNeg ((v_counts x4.toNatClampNeg) + (v_counts (x4 - (1 : Int32)).toNatClampNeg))))), (q_a2, .inl (cJ, 4, .inr (.inl v_a2))), (q_a3, .inr (7, [.ref q_a3_row, .ref q_a3_four, .int v_a3_depth])), (q_a3_row, .inl (cI, 2001, .inl v_a3_row)), (q_a3_four, .inl (cJ, 4, .inr (.inl v_a3_four)))] H := hP
        have hD : va_D A [(q, .inr (6, [.ref q_counts, .int v_reach])), (q_counts, .inl (cI, 5001, .inl (upd v_counts x4.toNatClampNeg ((v_counts x4.toNatClampNeg) + (v_counts (x4 - (1 : Int32)).toNatClampNeg))))), (q_a2, .inl (cJ, 4, .inr (.inl v_a2))), (q_a3, .inr (7, [.ref q_a3_row, .ref q_a3_four, .int v_a3_depth])), (q_a3_row, .inl (cI, 2001, .inl v_a3_row)), (q_a3_four, .inl (cJ, 4, .inr (.inl v_a3_four)))] := hD
        refine lv_iinc (v := x4 + (1 : Int32)) (lv' := [(4, .int (x4 + (1 : Int32))), (0, .ref q), (1, .int x1), (2, .ref q_a2), (3, .ref q_a3)]) hx hb dX6_reachTo_150 hl (k := 4) rfl rfl (by decide) rfl (fun ls hl => ?_)
        refine lv_goto (tgt := 122) hx hb dX6_reachTo_153 (by decide) ?_
        exact ih (x4 + (1 : Int32)) (upd v_counts x4.toNatClampNeg ((v_counts x4.toNatClampNeg) + (v_counts (x4 - (1 : Int32)).toNatClampNeg))) _ _ _ hf hP hD hS (lv_sub hl [1, 2, 3, 4, 0] rfl)
  refine lv_iload_n hx hb dX6_reachTo_0 rfl (lv_at hl 1 rfl) ?_
  refine lv_aload_n hx hb dX6_reachTo_1 rfl (lv_at hl 0 rfl) ?_
  refine va_get (D := G) (ci := 6) (v := .int v_reach) (C := RX6) (T := TX6) (N := 2) hx hb hts hiX6_reachTo_X6 hown hK.1 hP 0 rfl rfl 1 (by decide) (hts (.fieldLink RX6 15 "PackedBends$Tally" "reach" "I") (List.mem_of_getElem? (i := 1) rfl)) (fun _ h9 => h9) rfl dX6_reachTo_2 ?_
  refine lv_icmp_gt (tgt := 9) hx hb dX6_reachTo_5 (by decide) (fun c1 => ?_) (fun c1 => ?_)
  · have hf := if_s hf c1
    refine lv_aload_n hx hb dX6_reachTo_9 rfl (lv_at hl 0 rfl) ?_
    refine lv_sipush (v := 5000) hx hb dX6_reachTo_10 (by decide) ?_
    refine lv_iload_n hx hb dX6_reachTo_13 rfl (lv_at hl 1 rfl) ?_
    refine lv_iconst (v := 2) hx hb dX6_reachTo_14 (by decide) ?_
    refine lv_aload_n hx hb dX6_reachTo_15 rfl (lv_at hl 0 rfl) ?_
    refine va_get (D := G) (ci := 6) (v := .int v_reach) (C := RX6) (T := TX6) (N := 2) hx hb hts hiX6_reachTo_X6 hown hK.1 hP 0 rfl rfl 1 (by decide) (hts (.fieldLink RX6 15 "PackedBends$Tally" "reach" "I") (List.mem_of_getElem? (i := 1) rfl)) (fun _ h9 => h9) rfl dX6_reachTo_16 ?_
    refine lv_imul hx hb dX6_reachTo_19 ?_
    refine va_mmax hx hb (hml.trans hl.1.symm) hown (hts (.methodLink RX6 19 Lib.Math.max.name) (List.mem_of_getElem? (i := 2) rfl)) (hts (.static Lib.Math.max.name) (List.mem_of_getElem? (i := 3) rfl)) (hts (.initialized "java/lang/Math") (List.mem_of_getElem? (i := 4) rfl)) (hts (.code Lib.Math.max.name Lib.Math.max.code 2 (some .int)) (List.mem_of_getElem? (i := 5) rfl)) (Nat.le_of_ble_eq_true rfl) (Nat.le_of_ble_eq_true rfl) (Nat.zero_le _) (Nat.zero_le _) dX6_reachTo_20 ?_
    refine va_mmin hx hb (hml.trans hl.1.symm) hown (hts (.methodLink RX6 25 Lib.Math.min.name) (List.mem_of_getElem? (i := 6) rfl)) (hts (.static Lib.Math.min.name) (List.mem_of_getElem? (i := 7) rfl)) (hts (.initialized "java/lang/Math") (List.mem_of_getElem? (i := 4) rfl)) (hts (.code Lib.Math.min.name Lib.Math.min.code 2 (some .int)) (List.mem_of_getElem? (i := 8) rfl)) (Nat.le_of_ble_eq_true rfl) (Nat.le_of_ble_eq_true rfl) (Nat.zero_le _) (Nat.zero_le _) dX6_reachTo_23 ?_
    refine va_put (D := G) (ci := 6) (v := .int (if (if p1 < ((2 : Int32) * v_reach) then ((2 : Int32) * v_reach) else p1) < (5000 : Int32) then (if p1 < ((2 : Int32) * v_reach) then ((2 : Int32) * v_reach) else p1) else (5000 : Int32))) (ty := .int) (C := RX6) (T := TX6) (N := 2) hx hb hts hiX6_reachTo_X6 tyX6 tyX6_ok nmX6 hown hK.1 hP hD hS 0 rfl rfl 1 (by decide) (hts (.fieldLink RX6 15 "PackedBends$Tally" "reach" "I") (List.mem_of_getElem? (i := 1) rfl)) (fun _ h9 => h9) rfl (by decide +kernel) rfl rfl (Nat.le_of_ble_eq_true rfl) dX6_reachTo_26 (fun H locs hP hD hS => ?_)
    have hP : va_P G vwCl [(q, .inr (6, [.ref q_counts, .int (if (if p1 < ((2 : Int32) * v_reach) then ((2 : Int32) * v_reach) else p1) < (5000 : Int32) then (if p1 < ((2 : Int32) * v_reach) then ((2 : Int32) * v_reach) else p1) else (5000 : Int32))])), (q_counts, .inl (cI, 5001, .inl v_counts)), (q_a2, .inl (cJ, 4, .inr (.inl v_a2))), (q_a3, .inr (7, [.ref q_a3_row, .ref q_a3_four, .int v_a3_depth])), (q_a3_row, .inl (cI, 2001, .inl v_a3_row)), (q_a3_four, .inl (cJ, 4, .inr (.inl v_a3_four)))] H := hP
    have hD : va_D A [(q, .inr (6, [.ref q_counts, .int (if (if p1 < ((2 : Int32) * v_reach) then ((2 : Int32) * v_reach) else p1) < (5000 : Int32) then (if p1 < ((2 : Int32) * v_reach) then ((2 : Int32) * v_reach) else p1) else (5000 : Int32))])), (q_counts, .inl (cI, 5001, .inl v_counts)), (q_a2, .inl (cJ, 4, .inr (.inl v_a2))), (q_a3, .inr (7, [.ref q_a3_row, .ref q_a3_four, .int v_a3_depth])), (q_a3_row, .inl (cI, 2001, .inl v_a3_row)), (q_a3_four, .inl (cJ, 4, .inr (.inl v_a3_four)))] := hD
    refine lv_iconst (v := 0) hx hb dX6_reachTo_29 (by decide) ?_
    refine lv_istore (lv' := [(4, .int (0 : Int32)), (0, .ref q), (1, .int p1), (2, .ref q_a2), (3, .ref q_a3)]) hx hb dX6_reachTo_30 hl (by decide) rfl (fun ls hl => ?_)
    refine hL32 p1 (if (if p1 < ((2 : Int32) * v_reach) then ((2 : Int32) * v_reach) else p1) < (5000 : Int32) then (if p1 < ((2 : Int32) * v_reach) then ((2 : Int32) * v_reach) else p1) else (5000 : Int32)) v_a3_depth v_a3_row v_a3_four _ (fun y4_4 u4_counts H locs ls hf hP hD hS hl => ?_) n (0 : Int32) v_counts _ _ _ hf hP hD hS (lv_sub hl [1, 2, 3, 4, 0] rfl)
    have hP : va_P G vwCl [(q, .inr (6, [.ref q_counts, .int (if (if p1 < ((2 : Int32) * v_reach) then ((2 : Int32) * v_reach) else p1) < (5000 : Int32) then (if p1 < ((2 : Int32) * v_reach) then ((2 : Int32) * v_reach) else p1) else (5000 : Int32))])), (q_counts, .inl (cI, 5001, .inl u4_counts)), (q_a2, .inl (cJ, 4, .inr (.inl v_a2))), (q_a3, .inr (7, [.ref q_a3_row, .ref q_a3_four, .int v_a3_depth])), (q_a3_row, .inl (cI, 2001, .inl v_a3_row)), (q_a3_four, .inl (cJ, 4, .inr (.inl v_a3_four)))] H := hP
    have hD : va_D A [(q, .inr (6, [.ref q_counts, .int (if (if p1 < ((2 : Int32) * v_reach) then ((2 : Int32) * v_reach) else p1) < (5000 : Int32) then (if p1 < ((2 : Int32) * v_reach) then ((2 : Int32) * v_reach) else p1) else (5000 : Int32))])), (q_counts, .inl (cI, 5001, .inl u4_counts)), (q_a2, .inl (cJ, 4, .inr (.inl v_a2))), (q_a3, .inr (7, [.ref q_a3_row, .ref q_a3_four, .int v_a3_depth])), (q_a3_row, .inl (cI, 2001, .inl v_a3_row)), (q_a3_four, .inl (cJ, 4, .inr (.inl v_a3_four)))] := hD
    refine lv_iconst (v := 0) hx hb dX6_reachTo_55 (by decide) ?_
    refine lv_istore (lv' := [(4, .int (0 : Int32)), (0, .ref q), (1, .int p1), (2, .ref q_a2), (3, .ref q_a3)]) hx hb dX6_reachTo_56 hl (by decide) rfl (fun ls hl => ?_)
    refine hL58 p1 (if (if p1 < ((2 : Int32) * v_reach) then ((2 : Int32) * v_reach) else p1) < (5000 : Int32) then (if p1 < ((2 : Int32) * v_reach) then ((2 : Int32) * v_reach) else p1) else (5000 : Int32)) v_a3_depth v_a3_row v_a3_four _ (fun y4_8 u8_counts H locs ls hf hP hD hS hl => ?_) n (0 : Int32) u4_counts _ _ _ hf hP hD hS (lv_sub hl [1, 2, 3, 4, 0] rfl)
    have hP : va_P G vwCl [(q, .inr (6, [.ref q_counts, .int (if (if p1 < ((2 : Int32) * v_reach) then ((2 : Int32) * v_reach) else p1) < (5000 : Int32) then (if p1 < ((2 : Int32) * v_reach) then ((2 : Int32) * v_reach) else p1) else (5000 : Int32))])), (q_counts, .inl (cI, 5001, .inl u8_counts)), (q_a2, .inl (cJ, 4, .inr (.inl v_a2))), (q_a3, .inr (7, [.ref q_a3_row, .ref q_a3_four, .int v_a3_depth])), (q_a3_row, .inl (cI, 2001, .inl v_a3_row)), (q_a3_four, .inl (cJ, 4, .inr (.inl v_a3_four)))] H := hP
    have hD : va_D A [(q, .inr (6, [.ref q_counts, .int (if (if p1 < ((2 : Int32) * v_reach) then ((2 : Int32) * v_reach) else p1) < (5000 : Int32) then (if p1 < ((2 : Int32) * v_reach) then ((2 : Int32) * v_reach) else p1) else (5000 : Int32))])), (q_counts, .inl (cI, 5001, .inl u8_counts)), (q_a2, .inl (cJ, 4, .inr (.inl v_a2))), (q_a3, .inr (7, [.ref q_a3_row, .ref q_a3_four, .int v_a3_depth])), (q_a3_row, .inl (cI, 2001, .inl v_a3_row)), (q_a3_four, .inl (cJ, 4, .inr (.inl v_a3_four)))] := hD
    refine lv_aload_n hx hb dX6_reachTo_78 rfl (lv_at hl 3 rfl) ?_
    refine lv_aload_n hx hb dX6_reachTo_79 rfl (lv_at hl 2 rfl) ?_
    obtain ⟨r9, hc9, hf⟩ := ob_s hf
    refine bk_v (wc := [(q_a3, .inr (7, [.ref q_a3_row, .ref q_a3_four, .int v_a3_depth])), (q_a3_four, .inl (cJ, 4, .inr (.inl v_a3_four))), (q_a2, .inl (cJ, 4, .inr (.inl v_a2)))]) (wc2 := [(q_a3, .inr (7, [.ref q_a3_row, .ref q_a3_four, .int r9.1])), (q_a3_four, .inl (cJ, 4, .inr (.inl r9.2))), (q_a2, .inl (cJ, 4, .inr (.inl v_a2)))]) (wr := [(q, .inr (6, [.ref q_counts, .int (if (if p1 < ((2 : Int32) * v_reach) then ((2 : Int32) * v_reach) else p1) < (5000 : Int32) then (if p1 < ((2 : Int32) * v_reach) then ((2 : Int32) * v_reach) else p1) else (5000 : Int32))])), (q_counts, .inl (cI, 5001, .inl u8_counts)), (q_a3_row, .inl (cI, 2001, .inl v_a3_row))]) (ws2 := [(q, .inr (6, [.ref q_counts, .int (if (if p1 < ((2 : Int32) * v_reach) then ((2 : Int32) * v_reach) else p1) < (5000 : Int32) then (if p1 < ((2 : Int32) * v_reach) then ((2 : Int32) * v_reach) else p1) else (5000 : Int32))])), (q_counts, .inl (cI, 5001, .inl u8_counts)), (q_a2, .inl (cJ, 4, .inr (.inl v_a2))), (q_a3, .inr (7, [.ref q_a3_row, .ref q_a3_four, .int r9.1])), (q_a3_row, .inl (cI, 2001, .inl v_a3_row)), (q_a3_four, .inl (cJ, 4, .inr (.inl r9.2)))]) (va_runV (As := [.ref q_a2]) (rest := []) ⟨hx, hb, hml, hown, hts⟩ (kX7_start (l := l) (G := G) (cI := cI) (cJ := cJ) (cZ := cZ) (cS := cS) (cG := cG) n q_a3 q_a3_row q_a3_four q_a2 v_a3_depth v_a3_four v_a2 _ hc9 _) (cwV 1 hts gX6_reachTo_X7_start rfl rfl rfl (by decide +kernel) ⟨Nat.le_of_ble_eq_true rfl, Nat.le_of_ble_eq_true rfl⟩) (cut_V hK hP hD [3, 5, 2] rfl rfl (ci := 7) (q0 := 3) rfl rfl) rfl rfl hl.1 rfl (lv_room (Nat.le_of_ble_eq_true rfl)) dX6_reachTo_80 ⟨Nat.zero_le _, Nat.zero_le _⟩) hP hD hS hA [3, 5, 2] [0, 1, 4] [0, 1, 5, 3, 2, 4] rfl rfl rfl rfl rfl rfl (fun H locs hP hD hS => ?_)
    refine lv_iconst (v := 0) hx hb dX6_reachTo_83 (by decide) ?_
    refine lv_istore (lv' := [(4, .int (0 : Int32)), (0, .ref q), (1, .int p1), (2, .ref q_a2), (3, .ref q_a3)]) hx hb dX6_reachTo_84 hl (by decide) rfl (fun ls hl => ?_)
    refine hL86 p1 (if (if p1 < ((2 : Int32) * v_reach) then ((2 : Int32) * v_reach) else p1) < (5000 : Int32) then (if p1 < ((2 : Int32) * v_reach) then ((2 : Int32) * v_reach) else p1) else (5000 : Int32)) _ (fun y4_15 u15_counts u15_a3_depth u15_a3_row u15_a3_four H locs ls hf hP hD hS hl => ?_) n (0 : Int32) u8_counts r9.1 v_a3_row r9.2 _ _ _ hf hP hD hS (lv_sub hl [1, 2, 3, 4, 0] rfl)
    have hP : va_P G vwCl [(q, .inr (6, [.ref q_counts, .int (if (if p1 < ((2 : Int32) * v_reach) then ((2 : Int32) * v_reach) else p1) < (5000 : Int32) then (if p1 < ((2 : Int32) * v_reach) then ((2 : Int32) * v_reach) else p1) else (5000 : Int32))])), (q_counts, .inl (cI, 5001, .inl u15_counts)), (q_a2, .inl (cJ, 4, .inr (.inl v_a2))), (q_a3, .inr (7, [.ref q_a3_row, .ref q_a3_four, .int u15_a3_depth])), (q_a3_row, .inl (cI, 2001, .inl u15_a3_row)), (q_a3_four, .inl (cJ, 4, .inr (.inl u15_a3_four)))] H := hP
    have hD : va_D A [(q, .inr (6, [.ref q_counts, .int (if (if p1 < ((2 : Int32) * v_reach) then ((2 : Int32) * v_reach) else p1) < (5000 : Int32) then (if p1 < ((2 : Int32) * v_reach) then ((2 : Int32) * v_reach) else p1) else (5000 : Int32))])), (q_counts, .inl (cI, 5001, .inl u15_counts)), (q_a2, .inl (cJ, 4, .inr (.inl v_a2))), (q_a3, .inr (7, [.ref q_a3_row, .ref q_a3_four, .int u15_a3_depth])), (q_a3_row, .inl (cI, 2001, .inl u15_a3_row)), (q_a3_four, .inl (cJ, 4, .inr (.inl u15_a3_four)))] := hD
    refine lv_iconst (v := 1) hx hb dX6_reachTo_119 (by decide) ?_
    refine lv_istore (lv' := [(4, .int (1 : Int32)), (0, .ref q), (1, .int p1), (2, .ref q_a2), (3, .ref q_a3)]) hx hb dX6_reachTo_120 hl (by decide) rfl (fun ls hl => ?_)
    refine hL122 p1 (if (if p1 < ((2 : Int32) * v_reach) then ((2 : Int32) * v_reach) else p1) < (5000 : Int32) then (if p1 < ((2 : Int32) * v_reach) then ((2 : Int32) * v_reach) else p1) else (5000 : Int32)) u15_a3_depth u15_a3_row u15_a3_four _ (fun y4_19 u19_counts H locs ls hf hP hD hS hl => ?_) n (1 : Int32) u15_counts _ _ _ hf hP hD hS (lv_sub hl [1, 2, 3, 4, 0] rfl)
    have hP : va_P G vwCl [(q, .inr (6, [.ref q_counts, .int (if (if p1 < ((2 : Int32) * v_reach) then ((2 : Int32) * v_reach) else p1) < (5000 : Int32) then (if p1 < ((2 : Int32) * v_reach) then ((2 : Int32) * v_reach) else p1) else (5000 : Int32))])), (q_counts, .inl (cI, 5001, .inl u19_counts)), (q_a2, .inl (cJ, 4, .inr (.inl v_a2))), (q_a3, .inr (7, [.ref q_a3_row, .ref q_a3_four, .int u15_a3_depth])), (q_a3_row, .inl (cI, 2001, .inl u15_a3_row)), (q_a3_four, .inl (cJ, 4, .inr (.inl u15_a3_four)))] H := hP
    have hD : va_D A [(q, .inr (6, [.ref q_counts, .int (if (if p1 < ((2 : Int32) * v_reach) then ((2 : Int32) * v_reach) else p1) < (5000 : Int32) then (if p1 < ((2 : Int32) * v_reach) then ((2 : Int32) * v_reach) else p1) else (5000 : Int32))])), (q_counts, .inl (cI, 5001, .inl u19_counts)), (q_a2, .inl (cJ, 4, .inr (.inl v_a2))), (q_a3, .inr (7, [.ref q_a3_row, .ref q_a3_four, .int u15_a3_depth])), (q_a3_row, .inl (cI, 2001, .inl u15_a3_row)), (q_a3_four, .inl (cJ, 4, .inr (.inl u15_a3_four)))] := hD
    cases hf
    rw [← hQ]
    exact rt_v hx hb hr hlk hP hD hS dX6_reachTo_156
  · have hf := if_n hf c1
    cases hf
    rw [← hQ]
    exact rt_v hx hb hr hlk hP hD hS dX6_reachTo_8
def pX6_atMost (v_reach : Int32) (v_counts : (Nat → Int32)) (p1 : Int32) : Option (Int32) := if p1 < 0 then some (0 : Int32) else if v_reach < p1 then some (0 : Int32) else ck (ix p1 5001) (some (v_counts p1.toNatClampNeg))
def rmX6_atMost : Room := { frames := 0, cells := 0, slots := 0, locals := 0 }
theorem hiX6_atMost_X6 : ∀ w ∈ u_ws RX6 TX6 2, w ∈ wsX6_atMost := fun _ h => List.mem_cons_of_mem _ (List.mem_append_right _ h)
set_option maxRecDepth 100000 in
set_option maxHeartbeats 4000000 in
theorem kX6_atMost {l : Launch} {G : va_G} {cI cJ cZ cS cG : ClassId} (q q_counts : Nat) (v_reach : Int32) (v_counts : (Nat → Int32)) (p1 : Int32) (R : Int32) (hf : pX6_atMost v_reach v_counts p1 = some R) : CTi l yX6_atMost wsX6_atMost rmX6_atMost G cI cJ cZ cS cG [.ref q, .int p1] [(q, .inr (6, [.ref q_counts, .int v_reach])), (q_counts, .inl (cI, 5001, .inl v_counts))] [(q, .inr (6, [.ref q_counts, .int v_reach])), (q_counts, .inl (cI, 5001, .inl v_counts))] R := by
  refine Met.ofE (Qc := fun A => QRi G A [(q, .inr (6, [.ref q_counts, .int v_reach])), (q_counts, .inl (cI, 5001, .inl v_counts))] R) (cc := cX6_atMost) (nL := 2) (ret := some .int) (plainFor_of_name (by decide +kernel)) rfl (Nat.le_of_ble_eq_true rfl) ?_
  intro p e s m below meth c A ls hx hb hml hr hlk hts hown hK hA hP hD hS hl
  have hown : s.vm.findClass RX6 = some m.cls := hown
  have hl : lv_has ls 2 [(0, .ref q), (1, .int p1)] := hl
  generalize hQ : MQ below (QRi G A [(q, .inr (6, [.ref q_counts, .int v_reach])), (q_counts, .inl (cI, 5001, .inl v_counts))] R) ([.ref q, .int p1] : List Value).toArray s 0 0 A = QQ
  unfold pX6_atMost at hf
  refine lv_iload_n hx hb dX6_atMost_0 rfl (lv_at hl 1 rfl) ?_
  refine lv_if_lt (tgt := 21) hx hb dX6_atMost_1 (by decide) (fun c1 => ?_) (fun c1 => ?_)
  · have hf := if_s hf c1
    refine lv_iconst (v := 0) hx hb dX6_atMost_21 (by decide) ?_
    cases hf
    rw [← hQ]
    exact rt_i hx hb hr hlk hP hD hS rfl dX6_atMost_22
  · have hf := if_n hf c1
    refine lv_iload_n hx hb dX6_atMost_4 rfl (lv_at hl 1 rfl) ?_
    refine lv_aload_n hx hb dX6_atMost_5 rfl (lv_at hl 0 rfl) ?_
    refine va_get (D := G) (ci := 6) (v := .int v_reach) (C := RX6) (T := TX6) (N := 2) hx hb hts hiX6_atMost_X6 hown hK.1 hP 0 rfl rfl 1 (by decide) (hts (.fieldLink RX6 15 "PackedBends$Tally" "reach" "I") (List.mem_of_getElem? (i := 1) rfl)) (fun _ h9 => h9) rfl dX6_atMost_6 ?_
    refine lv_icmp_gt (tgt := 21) hx hb dX6_atMost_9 (by decide) (fun c2 => ?_) (fun c2 => ?_)
    · have hf := if_s hf c2
      refine lv_iconst (v := 0) hx hb dX6_atMost_21 (by decide) ?_
      cases hf
      rw [← hQ]
      exact rt_i hx hb hr hlk hP hD hS rfl dX6_atMost_22
    · have hf := if_n hf c2
      refine lv_aload_n hx hb dX6_atMost_12 rfl (lv_at hl 0 rfl) ?_
      refine va_get (D := G) (ci := 6) (v := .ref q_counts) (C := RX6) (T := TX6) (N := 2) hx hb hts hiX6_atMost_X6 hown hK.1 hP 0 rfl rfl 0 (by decide) (hts (.fieldLink RX6 9 "PackedBends$Tally" "counts" "[I") (List.mem_of_getElem? (i := 2) rfl)) (fun _ h9 => h9) rfl dX6_atMost_13 ?_
      refine lv_iload_n hx hb dX6_atMost_16 rfl (lv_at hl 1 rfl) ?_
      obtain ⟨z3, hf⟩ := ck_s hf
      refine va_iald hx hb hK.1 hP 1 0 rfl rfl (vp_in_iff.mpr z3) dX6_atMost_17 ?_
      refine lv_goto (tgt := 22) hx hb dX6_atMost_18 (by decide) ?_
      cases hf
      rw [← hQ]
      exact rt_i hx hb hr hlk hP hD hS rfl dX6_atMost_22
