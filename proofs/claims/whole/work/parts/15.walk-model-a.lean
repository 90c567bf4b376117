def pX9_within (p0 : Int32) (p1 : Int32) (p2 : Int32) : Option (Int32) := if p0 < p1 then some (0 : Int32) else if p2 < p0 then some (0 : Int32) else some (1 : Int32)
def rmX9_within : Room := { frames := 0, cells := 0, slots := 0, locals := 0 }
set_option maxRecDepth 100000 in
set_option maxHeartbeats 4000000 in
theorem kX9_within {l : Launch} {G : va_G} {cI cJ cZ cS cG : ClassId} (p0 : Int32) (p1 : Int32) (p2 : Int32) (R : Int32) (hf : pX9_within p0 p1 p2 = some R) : CTi l yX9_within wsX9_within rmX9_within G cI cJ cZ cS cG [.int p0, .int p1, .int p2] [] [] R := by
  refine Met.ofE (Qc := fun A => QRi G A [] R) (cc := cX9_within) (nL := 3) (ret := some .boolean) (plainFor_of_name (by decide +kernel)) rfl (Nat.le_of_ble_eq_true rfl) ?_
  intro p e s m below meth c A ls hx hb hml hr hlk hts hown hK hA hP hD hS hl
  have hown : s.vm.findClass RX9 = some m.cls := hown
  have hl : lv_has ls 3 [(0, .int p0), (1, .int p1), (2, .int p2)] := hl
  generalize hQ : MQ below (QRi G A [] R) ([.int p0, .int p1, .int p2] : List Value).toArray s 0 0 A = QQ
  unfold pX9_within at hf
  refine lv_iload_n hx hb dX9_within_0 rfl (lv_at hl 0 rfl) ?_
  refine lv_iload_n hx hb dX9_within_1 rfl (lv_at hl 1 rfl) ?_
  refine lv_icmp_lt (tgt := 14) hx hb dX9_within_2 (by decide) (fun c1 => ?_) (fun c1 => ?_)
  · have hf := if_s hf c1
    refine lv_iconst (v := 0) hx hb dX9_within_14 (by decide) ?_
    cases hf
    rw [← hQ]
    exact rt_z hx hb hr hlk rfl hP hD hS rfl dX9_within_15
  · have hf := if_n hf c1
    refine lv_iload_n hx hb dX9_within_5 rfl (lv_at hl 0 rfl) ?_
    refine lv_iload_n hx hb dX9_within_6 rfl (lv_at hl 2 rfl) ?_
    refine lv_icmp_gt (tgt := 14) hx hb dX9_within_7 (by decide) (fun c2 => ?_) (fun c2 => ?_)
    · have hf := if_s hf c2
      refine lv_iconst (v := 0) hx hb dX9_within_14 (by decide) ?_
      cases hf
      rw [← hQ]
      exact rt_z hx hb hr hlk rfl hP hD hS rfl dX9_within_15
    · have hf := if_n hf c2
      refine lv_iconst (v := 1) hx hb dX9_within_10 (by decide) ?_
      refine lv_goto (tgt := 15) hx hb dX9_within_11 (by decide) ?_
      cases hf
      rw [← hQ]
      exact rt_z hx hb hr hlk rfl hP hD hS rfl dX9_within_15
def pX9_isPlace (p0 : Int32) : Option (Int32) := Option.bind (pX9_within p0 (1 : Int32) (4 : Int32)) (fun r1 => ck (r1 = 0 ∨ r1 = 1) (some r1))
def rmX9_isPlace : Room := { frames := 1, cells := 0, slots := 0, locals := 22 }
set_option maxRecDepth 100000 in
set_option maxHeartbeats 4000000 in
theorem kX9_isPlace {l : Launch} {G : va_G} {cI cJ cZ cS cG : ClassId} (p0 : Int32) (R : Int32) (hf : pX9_isPlace p0 = some R) : CTi l yX9_isPlace wsX9_isPlace rmX9_isPlace G cI cJ cZ cS cG [.int p0] [] [] R := by
  refine Met.ofE (Qc := fun A => QRi G A [] R) (cc := cX9_isPlace) (nL := 1) (ret := some .boolean) (plainFor_of_name (by decide +kernel)) rfl (Nat.le_of_ble_eq_true rfl) ?_
  intro p e s m below meth c A ls hx hb hml hr hlk hts hown hK hA hP hD hS hl
  have hown : s.vm.findClass RX9 = some m.cls := hown
  have hl : lv_has ls 1 [(0, .int p0)] := hl
  generalize hQ : MQ below (QRi G A [] R) ([.int p0] : List Value).toArray s 0 0 A = QQ
  unfold pX9_isPlace at hf
  refine lv_iload_n hx hb dX9_isPlace_0 rfl (lv_at hl 0 rfl) ?_
  refine lv_iconst (v := 1) hx hb dX9_isPlace_1 (by decide) ?_
  refine lv_iconst (v := 4) hx hb dX9_isPlace_2 (by decide) ?_
  obtain ⟨r1, hc1, hf⟩ := ob_s hf
  refine bk_i (wc := []) (wc2 := []) (wr := []) (ws2 := []) (r := r1) (va_runS (As := [.int p0, .int (1 : Int32), .int (4 : Int32)]) (rest := []) ⟨hx, hb, hml, hown, hts⟩ (kX9_within (l := l) (G := G) (cI := cI) (cJ := cJ) (cZ := cZ) (cS := cS) (cG := cG) p0 (1 : Int32) (4 : Int32) _ hc1 _) (va_cwS 3 hts gX9_isPlace_X9_within rfl rfl rfl (by decide +kernel) ⟨Nat.le_of_ble_eq_true rfl, Nat.le_of_ble_eq_true rfl⟩) (cut_S hK hP hD [] rfl rfl) rfl rfl hl.1 rfl (lv_room (Nat.le_of_ble_eq_true rfl)) dX9_isPlace_3 ⟨Nat.zero_le _, Nat.zero_le _⟩) hP hD hS hA [] [] [] rfl rfl rfl rfl rfl rfl (fun H locs hP hD hS => ?_)
  obtain ⟨z2, hf⟩ := ck_s hf
  cases hf
  rw [← hQ]
  exact rt_z hx hb hr hlk (by rcases z2 with q | q <;> rw [q] <;> rfl) hP hD hS rfl dX9_isPlace_6
def pX9_isBend (p0 : Int32) : Option (Int32) := Option.bind (pX9_within p0 (-100000 : Int32) (1000000 : Int32)) (fun r1 => ck (r1 = 0 ∨ r1 = 1) (some r1))
def rmX9_isBend : Room := { frames := 1, cells := 0, slots := 0, locals := 22 }
set_option maxRecDepth 100000 in
set_option maxHeartbeats 4000000 in
theorem kX9_isBend {l : Launch} {G : va_G} {cI cJ cZ cS cG : ClassId} (p0 : Int32) (R : Int32) (hf : pX9_isBend p0 = some R) : CTi l yX9_isBend wsX9_isBend rmX9_isBend G cI cJ cZ cS cG [.int p0] [] [] R := by
  refine Met.ofE (Qc := fun A => QRi G A [] R) (cc := cX9_isBend) (nL := 1) (ret := some .boolean) (plainFor_of_name (by decide +kernel)) rfl (Nat.le_of_ble_eq_true rfl) ?_
  intro p e s m below meth c A ls hx hb hml hr hlk hts hown hK hA hP hD hS hl
  have hown : s.vm.findClass RX9 = some m.cls := hown
  have hl : lv_has ls 1 [(0, .int p0)] := hl
  generalize hQ : MQ below (QRi G A [] R) ([.int p0] : List Value).toArray s 0 0 A = QQ
  unfold pX9_isBend at hf
  refine lv_iload_n hx hb dX9_isBend_0 rfl (lv_at hl 0 rfl) ?_
  refine lv_ldc (v := (-100000)) hx hb hown (hts (.constant RX9 67 (-100000)) (List.mem_of_getElem? (i := 1) rfl)) dX9_isBend_1 ?_
  refine lv_ldc (v := 1000000) hx hb hown (hts (.constant RX9 68 (1000000)) (List.mem_of_getElem? (i := 2) rfl)) dX9_isBend_3 ?_
  obtain ⟨r1, hc1, hf⟩ := ob_s hf
  refine bk_i (wc := []) (wc2 := []) (wr := []) (ws2 := []) (r := r1) (va_runS (As := [.int p0, .int (-100000 : Int32), .int (1000000 : Int32)]) (rest := []) ⟨hx, hb, hml, hown, hts⟩ (kX9_within (l := l) (G := G) (cI := cI) (cJ := cJ) (cZ := cZ) (cS := cS) (cG := cG) p0 (-100000 : Int32) (1000000 : Int32) _ hc1 _) (va_cwS 3 hts gX9_isBend_X9_within rfl rfl rfl (by decide +kernel) ⟨Nat.le_of_ble_eq_true rfl, Nat.le_of_ble_eq_true rfl⟩) (cut_S hK hP hD [] rfl rfl) rfl rfl hl.1 rfl (lv_room (Nat.le_of_ble_eq_true rfl)) dX9_isBend_5 ⟨Nat.zero_le _, Nat.zero_le _⟩) hP hD hS hA [] [] [] rfl rfl rfl rfl rfl rfl (fun H locs hP hD hS => ?_)
  obtain ⟨z2, hf⟩ := ck_s hf
  cases hf
  rw [← hQ]
  exact rt_z hx hb hr hlk (by rcases z2 with q | q <;> rw [q] <;> rfl) hP hD hS rfl dX9_isBend_8
def pX9_square (p0 : Int64) : Option (Int64) := some (p0 * p0)
def rmX9_square : Room := { frames := 0, cells := 0, slots := 0, locals := 0 }
set_option maxRecDepth 100000 in
set_option maxHeartbeats 4000000 in
theorem kX9_square {l : Launch} {G : va_G} {cI cJ cZ cS cG : ClassId} (p0 : Int64) (R : Int64) (hf : pX9_square p0 = some R) : CTl l yX9_square wsX9_square rmX9_square G cI cJ cZ cS cG [.long p0] [] [] R := by
  refine Met.ofE (Qc := fun A => QRl G A [] R) (cc := cX9_square) (nL := 2) (ret := some .long) (plainFor_of_name (by decide +kernel)) rfl (Nat.le_of_ble_eq_true rfl) ?_
  intro p e s m below meth c A ls hx hb hml hr hlk hts hown hK hA hP hD hS hl
  have hown : s.vm.findClass RX9 = some m.cls := hown
  have hl : lv_has ls 2 [(0, .long p0)] := hl
  generalize hQ : MQ below (QRl G A [] R) ([.long p0] : List Value).toArray s 0 0 A = QQ
  unfold pX9_square at hf
  refine lv_lload_n hx hb dX9_square_0 rfl (lv_at hl 0 rfl) ?_
  refine lv_lload_n hx hb dX9_square_1 rfl (lv_at hl 0 rfl) ?_
  refine lv_lmul hx hb dX9_square_2 ?_
  cases hf
  rw [← hQ]
  exact rt_l hx hb hr hlk hP hD hS rfl dX9_square_3
def pX9_set (v_bends : (Nat → Int64)) (p1 : Int32) (p2 : Int32) (p3 : Int32) (p4 : Int32) : Option (Int32 × (Nat → Int64)) := Option.bind (pX9_isBend p1) (fun r1 => if r1 = 0 then some ((-2 : Int32), v_bends) else Option.bind (pX9_isBend p2) (fun r3 => if r3 = 0 then some ((-2 : Int32), v_bends) else Option.bind (pX9_isBend p3) (fun r5 => if r5 = 0 then some ((-2 : Int32), v_bends) else Option.bind (pX9_isBend p4) (fun r7 => if r7 = 0 then some ((-2 : Int32), v_bends) else if (((p1.toInt64 + p2.toInt64) + p3.toInt64) + p4.toInt64) ≤ (0 : Int64) then some ((-3 : Int32), v_bends) else Option.bind (pX9_square p1.toInt64) (fun r10 => Option.bind (pX9_square p2.toInt64) (fun r11 => Option.bind (pX9_square p3.toInt64) (fun r12 => Option.bind (pX9_square p4.toInt64) (fun r13 => Option.bind (pX9_square (((p1.toInt64 + p2.toInt64) + p3.toInt64) + p4.toInt64)) (fun r14 => if ((2 : Int64) * (((r10 + r11) + r12) + r13)) = r14 then some ((1 : Int32), vp_updL (vp_updL (vp_updL (vp_updL v_bends (0 : Int32).toNatClampNeg p1.toInt64) (1 : Int32).toNatClampNeg p2.toInt64) (2 : Int32).toNatClampNeg p3.toInt64) (3 : Int32).toNatClampNeg p4.toInt64) else some ((-3 : Int32), v_bends))))))))))
def rmX9_set : Room := { frames := 2, cells := 0, slots := 0, locals := 42 }
theorem hiX9_set_X9 : ∀ w ∈ u_ws RX9 TX9 17, w ∈ wsX9_set := fun _ h => List.mem_cons_of_mem _ (List.mem_append_right _ h)
set_option maxRecDepth 100000 in
set_option maxHeartbeats 4000000 in
theorem kX9_set {l : Launch} {G : va_G} {cI cJ cZ cS cG : ClassId} (q q_bends q_rootAt q_pile q_lastAt q_nextAt q_hasBend q_isMet q_queue q_sums q_kept q_isKept q_copies q_shelfMany q_shelfSort q_shelfHas : Nat) (v_stepAt : Int32) (v_justMany : Int32) (v_bends : (Nat → Int64)) (p1 : Int32) (p2 : Int32) (p3 : Int32) (p4 : Int32) (R : Int32 × (Nat → Int64)) (hf : pX9_set v_bends p1 p2 p3 p4 = some R) : CTi l yX9_set wsX9_set rmX9_set G cI cJ cZ cS cG [.ref q, .int p1, .int p2, .int p3, .int p4] [(q, .inr (9, [.ref q_bends, .ref q_rootAt, .int v_stepAt, .ref q_pile, .ref q_lastAt, .ref q_nextAt, .ref q_hasBend, .int v_justMany, .ref q_isMet, .ref q_queue, .ref q_sums, .ref q_kept, .ref q_isKept, .ref q_copies, .ref q_shelfMany, .ref q_shelfSort, .ref q_shelfHas])), (q_bends, .inl (cJ, 4, .inr (.inl v_bends)))] [(q, .inr (9, [.ref q_bends, .ref q_rootAt, .int v_stepAt, .ref q_pile, .ref q_lastAt, .ref q_nextAt, .ref q_hasBend, .int v_justMany, .ref q_isMet, .ref q_queue, .ref q_sums, .ref q_kept, .ref q_isKept, .ref q_copies, .ref q_shelfMany, .ref q_shelfSort, .ref q_shelfHas])), (q_bends, .inl (cJ, 4, .inr (.inl R.2)))] R.1 := by
  refine Met.ofE (Qc := fun A => QRi G A [(q, .inr (9, [.ref q_bends, .ref q_rootAt, .int v_stepAt, .ref q_pile, .ref q_lastAt, .ref q_nextAt, .ref q_hasBend, .int v_justMany, .ref q_isMet, .ref q_queue, .ref q_sums, .ref q_kept, .ref q_isKept, .ref q_copies, .ref q_shelfMany, .ref q_shelfSort, .ref q_shelfHas])), (q_bends, .inl (cJ, 4, .inr (.inl R.2)))] R.1) (cc := cX9_set) (nL := 7) (ret := some .int) (plainFor_of_name (by decide +kernel)) rfl (Nat.le_of_ble_eq_true rfl) ?_
  intro p e s m below meth c A ls hx hb hml hr hlk hts hown hK hA hP hD hS hl
  have hown : s.vm.findClass RX9 = some m.cls := hown
  have hl : lv_has ls 7 [(0, .ref q), (1, .int p1), (2, .int p2), (3, .int p3), (4, .int p4)] := hl
  generalize hQ : MQ below (QRi G A [(q, .inr (9, [.ref q_bends, .ref q_rootAt, .int v_stepAt, .ref q_pile, .ref q_lastAt, .ref q_nextAt, .ref q_hasBend, .int v_justMany, .ref q_isMet, .ref q_queue, .ref q_sums, .ref q_kept, .ref q_isKept, .ref q_copies, .ref q_shelfMany, .ref q_shelfSort, .ref q_shelfHas])), (q_bends, .inl (cJ, 4, .inr (.inl R.2)))] R.1) ([.ref q, .int p1, .int p2, .int p3, .int p4] : List Value).toArray s 0 0 A = QQ
  unfold pX9_set at hf
  refine lv_iload_n hx hb dX9_set_0 rfl (lv_at hl 1 rfl) ?_
  obtain ⟨r1, hc1, hf⟩ := ob_s hf
  refine bk_i (wc := []) (wc2 := []) (wr := [(q, .inr (9, [.ref q_bends, .ref q_rootAt, .int v_stepAt, .ref q_pile, .ref q_lastAt, .ref q_nextAt, .ref q_hasBend, .int v_justMany, .ref q_isMet, .ref q_queue, .ref q_sums, .ref q_kept, .ref q_isKept, .ref q_copies, .ref q_shelfMany, .ref q_shelfSort, .ref q_shelfHas])), (q_bends, .inl (cJ, 4, .inr (.inl v_bends)))]) (ws2 := [(q, .inr (9, [.ref q_bends, .ref q_rootAt, .int v_stepAt, .ref q_pile, .ref q_lastAt, .ref q_nextAt, .ref q_hasBend, .int v_justMany, .ref q_isMet, .ref q_queue, .ref q_sums, .ref q_kept, .ref q_isKept, .ref q_copies, .ref q_shelfMany, .ref q_shelfSort, .ref q_shelfHas])), (q_bends, .inl (cJ, 4, .inr (.inl v_bends)))]) (r := r1) (va_runS (As := [.int p1]) (rest := []) ⟨hx, hb, hml, hown, hts⟩ (kX9_isBend (l := l) (G := G) (cI := cI) (cJ := cJ) (cZ := cZ) (cS := cS) (cG := cG) p1 _ hc1 _) (va_cwS 1 hts gX9_set_X9_isBend rfl rfl rfl (by decide +kernel) ⟨Nat.le_of_ble_eq_true rfl, Nat.le_of_ble_eq_true rfl⟩) (cut_S hK hP hD [] rfl rfl) rfl rfl hl.1 rfl (lv_room (Nat.le_of_ble_eq_true rfl)) dX9_set_1 ⟨Nat.zero_le _, Nat.zero_le _⟩) hP hD hS hA [] [0, 1] [0, 1] rfl rfl rfl rfl rfl rfl (fun H locs hP hD hS => ?_)
  refine lv_if_eq (tgt := 29) hx hb dX9_set_4 (by decide) (fun c2 => ?_) (fun c2 => ?_)
  · have hf := if_s hf c2
    refine lv_bipush (v := (-2)) hx hb dX9_set_29 (by decide) ?_
    cases hf
    rw [← hQ]
    exact rt_i hx hb hr hlk hP hD hS rfl dX9_set_31
  · have hf := if_n hf c2
    refine lv_iload_n hx hb dX9_set_7 rfl (lv_at hl 2 rfl) ?_
    obtain ⟨r3, hc3, hf⟩ := ob_s hf
    refine bk_i (wc := []) (wc2 := []) (wr := [(q, .inr (9, [.ref q_bends, .ref q_rootAt, .int v_stepAt, .ref q_pile, .ref q_lastAt, .ref q_nextAt, .ref q_hasBend, .int v_justMany, .ref q_isMet, .ref q_queue, .ref q_sums, .ref q_kept, .ref q_isKept, .ref q_copies, .ref q_shelfMany, .ref q_shelfSort, .ref q_shelfHas])), (q_bends, .inl (cJ, 4, .inr (.inl v_bends)))]) (ws2 := [(q, .inr (9, [.ref q_bends, .ref q_rootAt, .int v_stepAt, .ref q_pile, .ref q_lastAt, .ref q_nextAt, .ref q_hasBend, .int v_justMany, .ref q_isMet, .ref q_queue, .ref q_sums, .ref q_kept, .ref q_isKept, .ref q_copies, .ref q_shelfMany, .ref q_shelfSort, .ref q_shelfHas])), (q_bends, .inl (cJ, 4, .inr (.inl v_bends)))]) (r := r3) (va_runS (As := [.int p2]) (rest := []) ⟨hx, hb, hml, hown, hts⟩ (kX9_isBend (l := l) (G := G) (cI := cI) (cJ := cJ) (cZ := cZ) (cS := cS) (cG := cG) p2 _ hc3 _) (va_cwS 1 hts gX9_set_X9_isBend rfl rfl rfl (by decide +kernel) ⟨Nat.le_of_ble_eq_true rfl, Nat.le_of_ble_eq_true rfl⟩) (cut_S hK hP hD [] rfl rfl) rfl rfl hl.1 rfl (lv_room (Nat.le_of_ble_eq_true rfl)) dX9_set_8 ⟨Nat.zero_le _, Nat.zero_le _⟩) hP hD hS hA [] [0, 1] [0, 1] rfl rfl rfl rfl rfl rfl (fun H locs hP hD hS => ?_)
    refine lv_if_eq (tgt := 29) hx hb dX9_set_11 (by decide) (fun c4 => ?_) (fun c4 => ?_)
    · have hf := if_s hf c4
      refine lv_bipush (v := (-2)) hx hb dX9_set_29 (by decide) ?_
      cases hf
      rw [← hQ]
      exact rt_i hx hb hr hlk hP hD hS rfl dX9_set_31
    · have hf := if_n hf c4
      refine lv_iload_n hx hb dX9_set_14 rfl (lv_at hl 3 rfl) ?_
      obtain ⟨r5, hc5, hf⟩ := ob_s hf
      refine bk_i (wc := []) (wc2 := []) (wr := [(q, .inr (9, [.ref q_bends, .ref q_rootAt, .int v_stepAt, .ref q_pile, .ref q_lastAt, .ref q_nextAt, .ref q_hasBend, .int v_justMany, .ref q_isMet, .ref q_queue, .ref q_sums, .ref q_kept, .ref q_isKept, .ref q_copies, .ref q_shelfMany, .ref q_shelfSort, .ref q_shelfHas])), (q_bends, .inl (cJ, 4, .inr (.inl v_bends)))]) (ws2 := [(q, .inr (9, [.ref q_bends, .ref q_rootAt, .int v_stepAt, .ref q_pile, .ref q_lastAt, .ref q_nextAt, .ref q_hasBend, .int v_justMany, .ref q_isMet, .ref q_queue, .ref q_sums, .ref q_kept, .ref q_isKept, .ref q_copies, .ref q_shelfMany, .ref q_shelfSort, .ref q_shelfHas])), (q_bends, .inl (cJ, 4, .inr (.inl v_bends)))]) (r := r5) (va_runS (As := [.int p3]) (rest := []) ⟨hx, hb, hml, hown, hts⟩ (kX9_isBend (l := l) (G := G) (cI := cI) (cJ := cJ) (cZ := cZ) (cS := cS) (cG := cG) p3 _ hc5 _) (va_cwS 1 hts gX9_set_X9_isBend rfl rfl rfl (by decide +kernel) ⟨Nat.le_of_ble_eq_true rfl, Nat.le_of_ble_eq_true rfl⟩) (cut_S hK hP hD [] rfl rfl) rfl rfl hl.1 rfl (lv_room (Nat.le_of_ble_eq_true rfl)) dX9_set_15 ⟨Nat.zero_le _, Nat.zero_le _⟩) hP hD hS hA [] [0, 1] [0, 1] rfl rfl rfl rfl rfl rfl (fun H locs hP hD hS => ?_)
      refine lv_if_eq (tgt := 29) hx hb dX9_set_18 (by decide) (fun c6 => ?_) (fun c6 => ?_)
      · have hf := if_s hf c6
        refine lv_bipush (v := (-2)) hx hb dX9_set_29 (by decide) ?_
        cases hf
        rw [← hQ]
        exact rt_i hx hb hr hlk hP hD hS rfl dX9_set_31
      · have hf := if_n hf c6
        refine lv_iload hx hb dX9_set_21 (lv_at hl 4 rfl) ?_
        obtain ⟨r7, hc7, hf⟩ := ob_s hf
        refine bk_i (wc := []) (wc2 := []) (wr := [(q, .inr (9, [.ref q_bends, .ref q_rootAt, .int v_stepAt, .ref q_pile, .ref q_lastAt, .ref q_nextAt, .ref q_hasBend, .int v_justMany, .ref q_isMet, .ref q_queue, .ref q_sums, .ref q_kept, .ref q_isKept, .ref q_copies, .ref q_shelfMany, .ref q_shelfSort, .ref q_shelfHas])), (q_bends, .inl (cJ, 4, .inr (.inl v_bends)))]) (ws2 := [(q, .inr (9, [.ref q_bends, .ref q_rootAt, .int v_stepAt, .ref q_pile, .ref q_lastAt, .ref q_nextAt, .ref q_hasBend, .int v_justMany, .ref q_isMet, .ref q_queue, .ref q_sums, .ref q_kept, .ref q_isKept, .ref q_copies, .ref q_shelfMany, .ref q_shelfSort, .ref q_shelfHas])), (q_bends, .inl (cJ, 4, .inr (.inl v_bends)))]) (r := r7) (va_runS (As := [.int p4]) (rest := []) ⟨hx, hb, hml, hown, hts⟩ (kX9_isBend (l := l) (G := G) (cI := cI) (cJ := cJ) (cZ := cZ) (cS := cS) (cG := cG) p4 _ hc7 _) (va_cwS 1 hts gX9_set_X9_isBend rfl rfl rfl (by decide +kernel) ⟨Nat.le_of_ble_eq_true rfl, Nat.le_of_ble_eq_true rfl⟩) (cut_S hK hP hD [] rfl rfl) rfl rfl hl.1 rfl (lv_room (Nat.le_of_ble_eq_true rfl)) dX9_set_23 ⟨Nat.zero_le _, Nat.zero_le _⟩) hP hD hS hA [] [0, 1] [0, 1] rfl rfl rfl rfl rfl rfl (fun H locs hP hD hS => ?_)
        refine lv_if_ne (tgt := 32) hx hb dX9_set_26 (by decide) (fun c8 => ?_) (fun c8 => ?_)
        · have hf := if_n hf c8
          refine lv_iload_n hx hb dX9_set_32 rfl (lv_at hl 1 rfl) ?_
          refine lv_i2l hx hb dX9_set_33 rfl ?_
          refine lv_iload_n hx hb dX9_set_34 rfl (lv_at hl 2 rfl) ?_
          refine lv_i2l hx hb dX9_set_35 rfl ?_
          refine lv_ladd hx hb dX9_set_36 ?_
          refine lv_iload_n hx hb dX9_set_37 rfl (lv_at hl 3 rfl) ?_
          refine lv_i2l hx hb dX9_set_38 rfl ?_
          refine lv_ladd hx hb dX9_set_39 ?_
          refine lv_iload hx hb dX9_set_40 (lv_at hl 4 rfl) ?_
          refine lv_i2l hx hb dX9_set_42 rfl ?_
          refine lv_ladd hx hb dX9_set_43 ?_
          refine lv_lstore (lv' := [(5, .long (((p1.toInt64 + p2.toInt64) + p3.toInt64) + p4.toInt64)), (0, .ref q), (1, .int p1), (2, .int p2), (3, .int p3), (4, .int p4)]) hx hb dX9_set_44 hl (by decide) rfl (fun ls hl => ?_)
          refine lv_lload hx hb dX9_set_46 (lv_at hl 0 rfl) ?_
          refine lv_lconst (v := 0) hx hb dX9_set_48 (by decide) ?_
          refine lc_le (tgt := 90) hx hb dX9_set_49 dX9_set_50 (by decide) (fun c9 => ?_) (fun c9 => ?_)
          · have hf := if_s hf c9
            refine lv_bipush (v := (-3)) hx hb dX9_set_90 (by decide) ?_
            cases hf
            rw [← hQ]
            exact rt_i hx hb hr hlk hP hD hS rfl dX9_set_92
          · have hf := if_n hf c9
            refine lv_ldc2 (v := 2) hx hb hown (hts (.constantLong RX9 59 (2)) (List.mem_of_getElem? (i := 1) rfl)) dX9_set_53 ?_
            refine lv_iload_n hx hb dX9_set_56 rfl (lv_at hl 2 rfl) ?_
            refine lv_i2l hx hb dX9_set_57 rfl ?_
            obtain ⟨r10, hc10, hf⟩ := ob_s hf
            refine bk_l (wc := []) (wc2 := []) (wr := [(q, .inr (9, [.ref q_bends, .ref q_rootAt, .int v_stepAt, .ref q_pile, .ref q_lastAt, .ref q_nextAt, .ref q_hasBend, .int v_justMany, .ref q_isMet, .ref q_queue, .ref q_sums, .ref q_kept, .ref q_isKept, .ref q_copies, .ref q_shelfMany, .ref q_shelfSort, .ref q_shelfHas])), (q_bends, .inl (cJ, 4, .inr (.inl v_bends)))]) (ws2 := [(q, .inr (9, [.ref q_bends, .ref q_rootAt, .int v_stepAt, .ref q_pile, .ref q_lastAt, .ref q_nextAt, .ref q_hasBend, .int v_justMany, .ref q_isMet, .ref q_queue, .ref q_sums, .ref q_kept, .ref q_isKept, .ref q_copies, .ref q_shelfMany, .ref q_shelfSort, .ref q_shelfHas])), (q_bends, .inl (cJ, 4, .inr (.inl v_bends)))]) (r := r10) (va_runS (As := [.long p1.toInt64]) (rest := [.long (2 : Int64)]) ⟨hx, hb, hml, hown, hts⟩ (kX9_square (l := l) (G := G) (cI := cI) (cJ := cJ) (cZ := cZ) (cS := cS) (cG := cG) p1.toInt64 _ hc10 _) (va_cwS 1 hts gX9_set_X9_square rfl rfl rfl (by decide +kernel) ⟨Nat.le_of_ble_eq_true rfl, Nat.le_of_ble_eq_true rfl⟩) (cut_S hK hP hD [] rfl rfl) rfl rfl hl.1 rfl (lv_room (Nat.le_of_ble_eq_true rfl)) dX9_set_58 ⟨Nat.zero_le _, Nat.zero_le _⟩) hP hD hS hA [] [0, 1] [0, 1] rfl rfl rfl rfl rfl rfl (fun H locs hP hD hS => ?_)
            refine lv_iload_n hx hb dX9_set_61 rfl (lv_at hl 3 rfl) ?_
            refine lv_i2l hx hb dX9_set_62 rfl ?_
            obtain ⟨r11, hc11, hf⟩ := ob_s hf
            refine bk_l (wc := []) (wc2 := []) (wr := [(q, .inr (9, [.ref q_bends, .ref q_rootAt, .int v_stepAt, .ref q_pile, .ref q_lastAt, .ref q_nextAt, .ref q_hasBend, .int v_justMany, .ref q_isMet, .ref q_queue, .ref q_sums, .ref q_kept, .ref q_isKept, .ref q_copies, .ref q_shelfMany, .ref q_shelfSort, .ref q_shelfHas])), (q_bends, .inl (cJ, 4, .inr (.inl v_bends)))]) (ws2 := [(q, .inr (9, [.ref q_bends, .ref q_rootAt, .int v_stepAt, .ref q_pile, .ref q_lastAt, .ref q_nextAt, .ref q_hasBend, .int v_justMany, .ref q_isMet, .ref q_queue, .ref q_sums, .ref q_kept, .ref q_isKept, .ref q_copies, .ref q_shelfMany, .ref q_shelfSort, .ref q_shelfHas])), (q_bends, .inl (cJ, 4, .inr (.inl v_bends)))]) (r := r11) (va_runS (As := [.long p2.toInt64]) (rest := [.long r10, .long (2 : Int64)]) ⟨hx, hb, hml, hown, hts⟩ (kX9_square (l := l) (G := G) (cI := cI) (cJ := cJ) (cZ := cZ) (cS := cS) (cG := cG) p2.toInt64 _ hc11 _) (va_cwS 1 hts gX9_set_X9_square rfl rfl rfl (by decide +kernel) ⟨Nat.le_of_ble_eq_true rfl, Nat.le_of_ble_eq_true rfl⟩) (cut_S hK hP hD [] rfl rfl) rfl rfl hl.1 rfl (lv_room (Nat.le_of_ble_eq_true rfl)) dX9_set_63 ⟨Nat.zero_le _, Nat.zero_le _⟩) hP hD hS hA [] [0, 1] [0, 1] rfl rfl rfl rfl rfl rfl (fun H locs hP hD hS => ?_)
            refine lv_ladd hx hb dX9_set_66 ?_
            refine lv_iload_n hx hb dX9_set_67 rfl (lv_at hl 4 rfl) ?_
            refine lv_i2l hx hb dX9_set_68 rfl ?_
            obtain ⟨r12, hc12, hf⟩ := ob_s hf
            refine bk_l (wc := []) (wc2 := []) (wr := [(q, .inr (9, [.ref q_bends, .ref q_rootAt, .int v_stepAt, .ref q_pile, .ref q_lastAt, .ref q_nextAt, .ref q_hasBend, .int v_justMany, .ref q_isMet, .ref q_queue, .ref q_sums, .ref q_kept, .ref q_isKept, .ref q_copies, .ref q_shelfMany, .ref q_shelfSort, .ref q_shelfHas])), (q_bends, .inl (cJ, 4, .inr (.inl v_bends)))]) (ws2 := [(q, .inr (9, [.ref q_bends, .ref q_rootAt, .int v_stepAt, .ref q_pile, .ref q_lastAt, .ref q_nextAt, .ref q_hasBend, .int v_justMany, .ref q_isMet, .ref q_queue, .ref q_sums, .ref q_kept, .ref q_isKept, .ref q_copies, .ref q_shelfMany, .ref q_shelfSort, .ref q_shelfHas])), (q_bends, .inl (cJ, 4, .inr (.inl v_bends)))]) (r := r12) (va_runS (As := [.long p3.toInt64]) (rest := [.long (r10 + r11), .long (2 : Int64)]) ⟨hx, hb, hml, hown, hts⟩ (kX9_square (l := l) (G := G) (cI := cI) (cJ := cJ) (cZ := cZ) (cS := cS) (cG := cG) p3.toInt64 _ hc12 _) (va_cwS 1 hts gX9_set_X9_square rfl rfl rfl (by decide +kernel) ⟨Nat.le_of_ble_eq_true rfl, Nat.le_of_ble_eq_true rfl⟩) (cut_S hK hP hD [] rfl rfl) rfl rfl hl.1 rfl (lv_room (Nat.le_of_ble_eq_true rfl)) dX9_set_69 ⟨Nat.zero_le _, Nat.zero_le _⟩) hP hD hS hA [] [0, 1] [0, 1] rfl rfl rfl rfl rfl rfl (fun H locs hP hD hS => ?_)
            refine lv_ladd hx hb dX9_set_72 ?_
            refine lv_iload hx hb dX9_set_73 (lv_at hl 5 rfl) ?_
            refine lv_i2l hx hb dX9_set_75 rfl ?_
            obtain ⟨r13, hc13, hf⟩ := ob_s hf
            refine bk_l (wc := []) (wc2 := []) (wr := [(q, .inr (9, [.ref q_bends, .ref q_rootAt, .int v_stepAt, .ref q_pile, .ref q_lastAt, .ref q_nextAt, .ref q_hasBend, .int v_justMany, .ref q_isMet, .ref q_queue, .ref q_sums, .ref q_kept, .ref q_isKept, .ref q_copies, .ref q_shelfMany, .ref q_shelfSort, .ref q_shelfHas])), (q_bends, .inl (cJ, 4, .inr (.inl v_bends)))]) (ws2 := [(q, .inr (9, [.ref q_bends, .ref q_rootAt, .int v_stepAt, .ref q_pile, .ref q_lastAt, .ref q_nextAt, .ref q_hasBend, .int v_justMany, .ref q_isMet, .ref q_queue, .ref q_sums, .ref q_kept, .ref q_isKept, .ref q_copies, .ref q_shelfMany, .ref q_shelfSort, .ref q_shelfHas])), (q_bends, .inl (cJ, 4, .inr (.inl v_bends)))]) (r := r13) (va_runS (As := [.long p4.toInt64]) (rest := [.long ((r10 + r11) + r12), .long (2 : Int64)]) ⟨hx, hb, hml, hown, hts⟩ (kX9_square (l := l) (G := G) (cI := cI) (cJ := cJ) (cZ := cZ) (cS := cS) (cG := cG) p4.toInt64 _ hc13 _) (va_cwS 1 hts gX9_set_X9_square rfl rfl rfl (by decide +kernel) ⟨Nat.le_of_ble_eq_true rfl, Nat.le_of_ble_eq_true rfl⟩) (cut_S hK hP hD [] rfl rfl) rfl rfl hl.1 rfl (lv_room (Nat.le_of_ble_eq_true rfl)) dX9_set_76 ⟨Nat.zero_le _, Nat.zero_le _⟩) hP hD hS hA [] [0, 1] [0, 1] rfl rfl rfl rfl rfl rfl (fun H locs hP hD hS => ?_)
            refine lv_ladd hx hb dX9_set_79 ?_
            refine lv_lmul hx hb dX9_set_80 ?_
            refine lv_lload hx hb dX9_set_81 (lv_at hl 0 rfl) ?_
            obtain ⟨r14, hc14, hf⟩ := ob_s hf
            refine bk_l (wc := []) (wc2 := []) (wr := [(q, .inr (9, [.ref q_bends, .ref q_rootAt, .int v_stepAt, .ref q_pile, .ref q_lastAt, .ref q_nextAt, .ref q_hasBend, .int v_justMany, .ref q_isMet, .ref q_queue, .ref q_sums, .ref q_kept, .ref q_isKept, .ref q_copies, .ref q_shelfMany, .ref q_shelfSort, .ref q_shelfHas])), (q_bends, .inl (cJ, 4, .inr (.inl v_bends)))]) (ws2 := [(q, .inr (9, [.ref q_bends, .ref q_rootAt, .int v_stepAt, .ref q_pile, .ref q_lastAt, .ref q_nextAt, .ref q_hasBend, .int v_justMany, .ref q_isMet, .ref q_queue, .ref q_sums, .ref q_kept, .ref q_isKept, .ref q_copies, .ref q_shelfMany, .ref q_shelfSort, .ref q_shelfHas])), (q_bends, .inl (cJ, 4, .inr (.inl v_bends)))]) (r := r14) (va_runS (As := [.long (((p1.toInt64 + p2.toInt64) + p3.toInt64) + p4.toInt64)]) (rest := [.long ((2 : Int64) * (((r10 + r11) + r12) + r13))]) ⟨hx, hb, hml, hown, hts⟩ (kX9_square (l := l) (G := G) (cI := cI) (cJ := cJ) (cZ := cZ) (cS := cS) (cG := cG) (((p1.toInt64 + p2.toInt64) + p3.toInt64) + p4.toInt64) _ hc14 _) (va_cwS 1 hts gX9_set_X9_square rfl rfl rfl (by decide +kernel) ⟨Nat.le_of_ble_eq_true rfl, Nat.le_of_ble_eq_true rfl⟩) (cut_S hK hP hD [] rfl rfl) rfl rfl hl.1 rfl (lv_room (Nat.le_of_ble_eq_true rfl)) dX9_set_83 ⟨Nat.zero_le _, Nat.zero_le _⟩) hP hD hS hA [] [0, 1] [0, 1] rfl rfl rfl rfl rfl rfl (fun H locs hP hD hS => ?_)
            refine lc_eq (tgt := 93) hx hb dX9_set_86 dX9_set_87 (by decide) (fun c15 => ?_) (fun c15 => ?_)
            · have hf := if_s hf c15
              refine lv_aload_n hx hb dX9_set_93 rfl (lv_at hl 1 rfl) ?_
              refine va_get (D := G) (ci := 9) (v := .ref q_bends) (C := RX9) (T := TX9) (N := 17) hx hb hts hiX9_set_X9 hown hK.1 hP 0 rfl rfl 0 (by decide) (hts (.fieldLink RX9 7 "PackedBendsModel" "bends" "[J") (List.mem_of_getElem? (i := 2) rfl)) (fun _ h9 => h9) rfl dX9_set_94 ?_
              refine lv_iconst (v := 0) hx hb dX9_set_97 (by decide) ?_
              refine lv_iload_n hx hb dX9_set_98 rfl (lv_at hl 2 rfl) ?_
              refine lv_i2l hx hb dX9_set_99 rfl ?_
              refine va_last hx hb hK.1 hP hD hS 1 1 rfl rfl (vp_in_iff.mpr (by decide)) dX9_set_100 (fun H locs hP hD hS => ?_)
              have hP : va_P G vwCl [(q, .inr (9, [.ref q_bends, .ref q_rootAt, .int v_stepAt, .ref q_pile, .ref q_lastAt, .ref q_nextAt, .ref q_hasBend, .int v_justMany, .ref q_isMet, .ref q_queue, .ref q_sums, .ref q_kept, .ref q_isKept, .ref q_copies, .ref q_shelfMany, .ref q_shelfSort, .ref q_shelfHas])), (q_bends, .inl (cJ, 4, .inr (.inl (vp_updL v_bends (0 : Int32).toNatClampNeg p1.toInt64))))] H := hP
              have hD : va_D A [(q, .inr (9, [.ref q_bends, .ref q_rootAt, .int v_stepAt, .ref q_pile, .ref q_lastAt, .ref q_nextAt, .ref q_hasBend, .int v_justMany, .ref q_isMet, .ref q_queue, .ref q_sums, .ref q_kept, .ref q_isKept, .ref q_copies, .ref q_shelfMany, .ref q_shelfSort, .ref q_shelfHas])), (q_bends, .inl (cJ, 4, .inr (.inl (vp_updL v_bends (0 : Int32).toNatClampNeg p1.toInt64))))] := hD
              refine lv_aload_n hx hb dX9_set_101 rfl (lv_at hl 1 rfl) ?_
              refine va_get (D := G) (ci := 9) (v := .ref q_bends) (C := RX9) (T := TX9) (N := 17) hx hb hts hiX9_set_X9 hown hK.1 hP 0 rfl rfl 0 (by decide) (hts (.fieldLink RX9 7 "PackedBendsModel" "bends" "[J") (List.mem_of_getElem? (i := 2) rfl)) (fun _ h9 => h9) rfl dX9_set_102 ?_
              refine lv_iconst (v := 1) hx hb dX9_set_105 (by decide) ?_
              refine lv_iload_n hx hb dX9_set_106 rfl (lv_at hl 3 rfl) ?_
              refine lv_i2l hx hb dX9_set_107 rfl ?_
              refine va_last hx hb hK.1 hP hD hS 1 1 rfl rfl (vp_in_iff.mpr (by decide)) dX9_set_108 (fun H locs hP hD hS => ?_)
              have hP : va_P G vwCl [(q, .inr (9, [.ref q_bends, .ref q_rootAt, .int v_stepAt, .ref q_pile, .ref q_lastAt, .ref q_nextAt, .ref q_hasBend, .int v_justMany, .ref q_isMet, .ref q_queue, .ref q_sums, .ref q_kept, .ref q_isKept, .ref q_copies, .ref q_shelfMany, .ref q_shelfSort, .ref q_shelfHas])), (q_bends, .inl (cJ, 4, .inr (.inl (vp_updL (vp_updL v_bends (0 : Int32).toNatClampNeg p1.toInt64) (1 : Int32).toNatClampNeg p2.toInt64))))] H := hP
              have hD : va_D A [(q, .inr (9, [.ref q_bends, .ref q_rootAt, .int v_stepAt, .ref q_pile, .ref q_lastAt, .ref q_nextAt, .ref q_hasBend, .int v_justMany, .ref q_isMet, .ref q_queue, .ref q_sums, .ref q_kept, .ref q_isKept, .ref q_copies, .ref q_shelfMany, .ref q_shelfSort, .ref q_shelfHas])), (q_bends, .inl (cJ, 4, .inr (.inl (vp_updL (vp_updL v_bends (0 : Int32).toNatClampNeg p1.toInt64) (1 : Int32).toNatClampNeg p2.toInt64))))] := hD
              refine lv_aload_n hx hb dX9_set_109 rfl (lv_at hl 1 rfl) ?_
              refine va_get (D := G) (ci := 9) (v := .ref q_bends) (C := RX9) (T := TX9) (N := 17) hx hb hts hiX9_set_X9 hown hK.1 hP 0 rfl rfl 0 (by decide) (hts (.fieldLink RX9 7 "PackedBendsModel" "bends" "[J") (List.mem_of_getElem? (i := 2) rfl)) (fun _ h9 => h9) rfl dX9_set_110 ?_
              refine lv_iconst (v := 2) hx hb dX9_set_113 (by decide) ?_
              refine lv_iload_n hx hb dX9_set_114 rfl (lv_at hl 4 rfl) ?_
              refine lv_i2l hx hb dX9_set_115 rfl ?_
              refine va_last hx hb hK.1 hP hD hS 1 1 rfl rfl (vp_in_iff.mpr (by decide)) dX9_set_116 (fun H locs hP hD hS => ?_)
              have hP : va_P G vwCl [(q, .inr (9, [.ref q_bends, .ref q_rootAt, .int v_stepAt, .ref q_pile, .ref q_lastAt, .ref q_nextAt, .ref q_hasBend, .int v_justMany, .ref q_isMet, .ref q_queue, .ref q_sums, .ref q_kept, .ref q_isKept, .ref q_copies, .ref q_shelfMany, .ref q_shelfSort, .ref q_shelfHas])), (q_bends, .inl (cJ, 4, .inr (.inl (vp_updL (vp_updL (vp_updL v_bends (0 : Int32).toNatClampNeg p1.toInt64) (1 : Int32).toNatClampNeg p2.toInt64) (2 : Int32).toNatClampNeg p3.toInt64))))] H := hP
              have hD : va_D A [(q, .inr (9, [.ref q_bends, .ref q_rootAt, .int v_stepAt, .ref q_pile, .ref q_lastAt, .ref q_nextAt, .ref q_hasBend, .int v_justMany, .ref q_isMet, .ref q_queue, .ref q_sums, .ref q_kept, .ref q_isKept, .ref q_copies, .ref q_shelfMany, .ref q_shelfSort, .ref q_shelfHas])), (q_bends, .inl (cJ, 4, .inr (.inl (vp_updL (vp_updL (vp_updL v_bends (0 : Int32).toNatClampNeg p1.toInt64) (1 : Int32).toNatClampNeg p2.toInt64) (2 : Int32).toNatClampNeg p3.toInt64))))] := hD
              refine lv_aload_n hx hb dX9_set_117 rfl (lv_at hl 1 rfl) ?_
              refine va_get (D := G) (ci := 9) (v := .ref q_bends) (C := RX9) (T := TX9) (N := 17) hx hb hts hiX9_set_X9 hown hK.1 hP 0 rfl rfl 0 (by decide) (hts (.fieldLink RX9 7 "PackedBendsModel" "bends" "[J") (List.mem_of_getElem? (i := 2) rfl)) (fun _ h9 => h9) rfl dX9_set_118 ?_
              refine lv_iconst (v := 3) hx hb dX9_set_121 (by decide) ?_
              refine lv_iload hx hb dX9_set_122 (lv_at hl 5 rfl) ?_
              refine lv_i2l hx hb dX9_set_124 rfl ?_
              refine va_last hx hb hK.1 hP hD hS 1 1 rfl rfl (vp_in_iff.mpr (by decide)) dX9_set_125 (fun H locs hP hD hS => ?_)
              have hP : va_P G vwCl [(q, .inr (9, [.ref q_bends, .ref q_rootAt, .int v_stepAt, .ref q_pile, .ref q_lastAt, .ref q_nextAt, .ref q_hasBend, .int v_justMany, .ref q_isMet, .ref q_queue, .ref q_sums, .ref q_kept, .ref q_isKept, .ref q_copies, .ref q_shelfMany, .ref q_shelfSort, .ref q_shelfHas])), (q_bends, .inl (cJ, 4, .inr (.inl (vp_updL (vp_updL (vp_updL (vp_updL v_bends (0 : Int32).toNatClampNeg p1.toInt64) (1 : Int32).toNatClampNeg p2.toInt64) (2 : Int32).toNatClampNeg p3.toInt64) (3 : Int32).toNatClampNeg p4.toInt64))))] H := hP
              have hD : va_D A [(q, .inr (9, [.ref q_bends, .ref q_rootAt, .int v_stepAt, .ref q_pile, .ref q_lastAt, .ref q_nextAt, .ref q_hasBend, .int v_justMany, .ref q_isMet, .ref q_queue, .ref q_sums, .ref q_kept, .ref q_isKept, .ref q_copies, .ref q_shelfMany, .ref q_shelfSort, .ref q_shelfHas])), (q_bends, .inl (cJ, 4, .inr (.inl (vp_updL (vp_updL (vp_updL (vp_updL v_bends (0 : Int32).toNatClampNeg p1.toInt64) (1 : Int32).toNatClampNeg p2.toInt64) (2 : Int32).toNatClampNeg p3.toInt64) (3 : Int32).toNatClampNeg p4.toInt64))))] := hD
              refine lv_iconst (v := 1) hx hb dX9_set_126 (by decide) ?_
              cases hf
              rw [← hQ]
              exact rt_i hx hb hr hlk hP hD hS rfl dX9_set_127
            · have hf := if_n hf c15
              refine lv_bipush (v := (-3)) hx hb dX9_set_90 (by decide) ?_
              cases hf
              rw [← hQ]
              exact rt_i hx hb hr hlk hP hD hS rfl dX9_set_92
        · have hf := if_s hf c8
          refine lv_bipush (v := (-2)) hx hb dX9_set_29 (by decide) ?_
          cases hf
          rw [← hQ]
          exact rt_i hx hb hr hlk hP hD hS rfl dX9_set_31
def pX9_bend (v_bends : (Nat → Int64)) (p1 : Int32) : Option (Int64) := Option.bind (pX9_isPlace p1) (fun r1 => if r1 = 0 then some (-9223372036854775808 : Int64) else ck (ix (p1 - (1 : Int32)) 4) (some (v_bends (p1 - (1 : Int32)).toNatClampNeg)))
def rmX9_bend : Room := { frames := 2, cells := 0, slots := 0, locals := 42 }
theorem hiX9_bend_X9 : ∀ w ∈ u_ws RX9 TX9 17, w ∈ wsX9_bend := fun _ h => List.mem_cons_of_mem _ (List.mem_append_right _ h)
set_option maxRecDepth 100000 in
set_option maxHeartbeats 4000000 in
theorem kX9_bend {l : Launch} {G : va_G} {cI cJ cZ cS cG : ClassId} (q q_bends q_rootAt q_pile q_lastAt q_nextAt q_hasBend q_isMet q_queue q_sums q_kept q_isKept q_copies q_shelfMany q_shelfSort q_shelfHas : Nat) (v_stepAt : Int32) (v_justMany : Int32) (v_bends : (Nat → Int64)) (p1 : Int32) (R : Int64) (hf : pX9_bend v_bends p1 = some R) : CTl l yX9_bend wsX9_bend rmX9_bend G cI cJ cZ cS cG [.ref q, .int p1] [(q, .inr (9, [.ref q_bends, .ref q_rootAt, .int v_stepAt, .ref q_pile, .ref q_lastAt, .ref q_nextAt, .ref q_hasBend, .int v_justMany, .ref q_isMet, .ref q_queue, .ref q_sums, .ref q_kept, .ref q_isKept, .ref q_copies, .ref q_shelfMany, .ref q_shelfSort, .ref q_shelfHas])), (q_bends, .inl (cJ, 4, .inr (.inl v_bends)))] [(q, .inr (9, [.ref q_bends, .ref q_rootAt, .int v_stepAt, .ref q_pile, .ref q_lastAt, .ref q_nextAt, .ref q_hasBend, .int v_justMany, .ref q_isMet, .ref q_queue, .ref q_sums, .ref q_kept, .ref q_isKept, .ref q_copies, .ref q_shelfMany, .ref q_shelfSort, .ref q_shelfHas])), (q_bends, .inl (cJ, 4, .inr (.inl v_bends)))] R := by
  refine Met.ofE (Qc := fun A => QRl G A [(q, .inr (9, [.ref q_bends, .ref q_rootAt, .int v_stepAt, .ref q_pile, .ref q_lastAt, .ref q_nextAt, .ref q_hasBend, .int v_justMany, .ref q_isMet, .ref q_queue, .ref q_sums, .ref q_kept, .ref q_isKept, .ref q_copies, .ref q_shelfMany, .ref q_shelfSort, .ref q_shelfHas])), (q_bends, .inl (cJ, 4, .inr (.inl v_bends)))] R) (cc := cX9_bend) (nL := 2) (ret := some .long) (plainFor_of_name (by decide +kernel)) rfl (Nat.le_of_ble_eq_true rfl) ?_
  intro p e s m below meth c A ls hx hb hml hr hlk hts hown hK hA hP hD hS hl
  have hown : s.vm.findClass RX9 = some m.cls := hown
  have hl : lv_has ls 2 [(0, .ref q), (1, .int p1)] := hl
  generalize hQ : MQ below (QRl G A [(q, .inr (9, [.ref q_bends, .ref q_rootAt, .int v_stepAt, .ref q_pile, .ref q_lastAt, .ref q_nextAt, .ref q_hasBend, .int v_justMany, .ref q_isMet, .ref q_queue, .ref q_sums, .ref q_kept, .ref q_isKept, .ref q_copies, .ref q_shelfMany, .ref q_shelfSort, .ref q_shelfHas])), (q_bends, .inl (cJ, 4, .inr (.inl v_bends)))] R) ([.ref q, .int p1] : List Value).toArray s 0 0 A = QQ
  unfold pX9_bend at hf
  refine lv_iload_n hx hb dX9_bend_0 rfl (lv_at hl 1 rfl) ?_
  obtain ⟨r1, hc1, hf⟩ := ob_s hf
  refine bk_i (wc := []) (wc2 := []) (wr := [(q, .inr (9, [.ref q_bends, .ref q_rootAt, .int v_stepAt, .ref q_pile, .ref q_lastAt, .ref q_nextAt, .ref q_hasBend, .int v_justMany, .ref q_isMet, .ref q_queue, .ref q_sums, .ref q_kept, .ref q_isKept, .ref q_copies, .ref q_shelfMany, .ref q_shelfSort, .ref q_shelfHas])), (q_bends, .inl (cJ, 4, .inr (.inl v_bends)))]) (ws2 := [(q, .inr (9, [.ref q_bends, .ref q_rootAt, .int v_stepAt, .ref q_pile, .ref q_lastAt, .ref q_nextAt, .ref q_hasBend, .int v_justMany, .ref q_isMet, .ref q_queue, .ref q_sums, .ref q_kept, .ref q_isKept, .ref q_copies, .ref q_shelfMany, .ref q_shelfSort, .ref q_shelfHas])), (q_bends, .inl (cJ, 4, .inr (.inl v_bends)))]) (r := r1) (va_runS (As := [.int p1]) (rest := []) ⟨hx, hb, hml, hown, hts⟩ (kX9_isPlace (l := l) (G := G) (cI := cI) (cJ := cJ) (cZ := cZ) (cS := cS) (cG := cG) p1 _ hc1 _) (va_cwS 1 hts gX9_bend_X9_isPlace rfl rfl rfl (by decide +kernel) ⟨Nat.le_of_ble_eq_true rfl, Nat.le_of_ble_eq_true rfl⟩) (cut_S hK hP hD [] rfl rfl) rfl rfl hl.1 rfl (lv_room (Nat.le_of_ble_eq_true rfl)) dX9_bend_1 ⟨Nat.zero_le _, Nat.zero_le _⟩) hP hD hS hA [] [0, 1] [0, 1] rfl rfl rfl rfl rfl rfl (fun H locs hP hD hS => ?_)
  refine lv_if_eq (tgt := 18) hx hb dX9_bend_4 (by decide) (fun c2 => ?_) (fun c2 => ?_)
  · have hf := if_s hf c2
    refine lv_ldc2 (v := (-9223372036854775808)) hx hb hown (hts (.constantLong RX9 80 (-9223372036854775808)) (List.mem_of_getElem? (i := 2) rfl)) dX9_bend_18 ?_
    cases hf
    rw [← hQ]
    exact rt_l hx hb hr hlk hP hD hS rfl dX9_bend_21
  · have hf := if_n hf c2
    refine lv_aload_n hx hb dX9_bend_7 rfl (lv_at hl 0 rfl) ?_
    refine va_get (D := G) (ci := 9) (v := .ref q_bends) (C := RX9) (T := TX9) (N := 17) hx hb hts hiX9_bend_X9 hown hK.1 hP 0 rfl rfl 0 (by decide) (hts (.fieldLink RX9 7 "PackedBendsModel" "bends" "[J") (List.mem_of_getElem? (i := 1) rfl)) (fun _ h9 => h9) rfl dX9_bend_8 ?_
    refine lv_iload_n hx hb dX9_bend_11 rfl (lv_at hl 1 rfl) ?_
    refine lv_iconst (v := 1) hx hb dX9_bend_12 (by decide) ?_
    refine lv_isub hx hb dX9_bend_13 ?_
    obtain ⟨z3, hf⟩ := ck_s hf
    refine va_lald hx hb hK.1 hP 1 1 rfl rfl (vp_in_iff.mpr z3) dX9_bend_14 ?_
    refine lv_goto (tgt := 21) hx hb dX9_bend_15 (by decide) ?_
    cases hf
    rw [← hQ]
    exact rt_l hx hb hr hlk hP hD hS rfl dX9_bend_21
def pX9_turnedIn (v_a0 : (Nat → Int64)) (p1 : Int32) : Option (Int64) := ck (ix p1 4) (some (((2 : Int64) * (((((v_a0 (0 : Int32).toNatClampNeg) + (v_a0 (1 : Int32).toNatClampNeg)) + (v_a0 (2 : Int32).toNatClampNeg)) + (v_a0 (3 : Int32).toNatClampNeg)) - (v_a0 p1.toNatClampNeg))) - (v_a0 p1.toNatClampNeg)))
def rmX9_turnedIn : Room := { frames := 0, cells := 0, slots := 0, locals := 0 }
set_option maxRecDepth 100000 in
set_option maxHeartbeats 4000000 in
theorem kX9_turnedIn {l : Launch} {G : va_G} {cI cJ cZ cS cG : ClassId} (q_a0 : Nat) (v_a0 : (Nat → Int64)) (p1 : Int32) (R : Int64) (hf : pX9_turnedIn v_a0 p1 = some R) : CTl l yX9_turnedIn wsX9_turnedIn rmX9_turnedIn G cI cJ cZ cS cG [.ref q_a0, .int p1] [(q_a0, .inl (cJ, 4, .inr (.inl v_a0)))] [(q_a0, .inl (cJ, 4, .inr (.inl v_a0)))] R := by
  refine Met.ofE (Qc := fun A => QRl G A [(q_a0, .inl (cJ, 4, .inr (.inl v_a0)))] R) (cc := cX9_turnedIn) (nL := 2) (ret := some .long) (plainFor_of_name (by decide +kernel)) rfl (Nat.le_of_ble_eq_true rfl) ?_
  intro p e s m below meth c A ls hx hb hml hr hlk hts hown hK hA hP hD hS hl
  have hown : s.vm.findClass RX9 = some m.cls := hown
  have hl : lv_has ls 2 [(0, .ref q_a0), (1, .int p1)] := hl
  generalize hQ : MQ below (QRl G A [(q_a0, .inl (cJ, 4, .inr (.inl v_a0)))] R) ([.ref q_a0, .int p1] : List Value).toArray s 0 0 A = QQ
  unfold pX9_turnedIn at hf
  refine lv_ldc2 (v := 2) hx hb hown (hts (.constantLong RX9 59 (2)) (List.mem_of_getElem? (i := 1) rfl)) dX9_turnedIn_0 ?_
  refine lv_aload_n hx hb dX9_turnedIn_3 rfl (lv_at hl 0 rfl) ?_
  refine lv_iconst (v := 0) hx hb dX9_turnedIn_4 (by decide) ?_
  refine va_lald hx hb hK.1 hP 0 1 rfl rfl (vp_in_iff.mpr (by decide)) dX9_turnedIn_5 ?_
  refine lv_aload_n hx hb dX9_turnedIn_6 rfl (lv_at hl 0 rfl) ?_
  refine lv_iconst (v := 1) hx hb dX9_turnedIn_7 (by decide) ?_
  refine va_lald hx hb hK.1 hP 0 1 rfl rfl (vp_in_iff.mpr (by decide)) dX9_turnedIn_8 ?_
  refine lv_ladd hx hb dX9_turnedIn_9 ?_
  refine lv_aload_n hx hb dX9_turnedIn_10 rfl (lv_at hl 0 rfl) ?_
  refine lv_iconst (v := 2) hx hb dX9_turnedIn_11 (by decide) ?_
  refine va_lald hx hb hK.1 hP 0 1 rfl rfl (vp_in_iff.mpr (by decide)) dX9_turnedIn_12 ?_
  refine lv_ladd hx hb dX9_turnedIn_13 ?_
  refine lv_aload_n hx hb dX9_turnedIn_14 rfl (lv_at hl 0 rfl) ?_
  refine lv_iconst (v := 3) hx hb dX9_turnedIn_15 (by decide) ?_
  refine va_lald hx hb hK.1 hP 0 1 rfl rfl (vp_in_iff.mpr (by decide)) dX9_turnedIn_16 ?_
  refine lv_ladd hx hb dX9_turnedIn_17 ?_
  refine lv_aload_n hx hb dX9_turnedIn_18 rfl (lv_at hl 0 rfl) ?_
  refine lv_iload_n hx hb dX9_turnedIn_19 rfl (lv_at hl 1 rfl) ?_
  obtain ⟨z1, hf⟩ := ck_s hf
  refine va_lald hx hb hK.1 hP 0 1 rfl rfl (vp_in_iff.mpr z1) dX9_turnedIn_20 ?_
  refine lv_lsub hx hb dX9_turnedIn_21 ?_
  refine lv_lmul hx hb dX9_turnedIn_22 ?_
  refine lv_aload_n hx hb dX9_turnedIn_23 rfl (lv_at hl 0 rfl) ?_
  refine lv_iload_n hx hb dX9_turnedIn_24 rfl (lv_at hl 1 rfl) ?_
  refine va_lald hx hb hK.1 hP 0 1 rfl rfl (vp_in_iff.mpr z1) dX9_turnedIn_25 ?_
  refine lv_lsub hx hb dX9_turnedIn_26 ?_
  cases hf
  rw [← hQ]
  exact rt_l hx hb hr hlk hP hD hS rfl dX9_turnedIn_27
def pX9_turn (v_bends : (Nat → Int64)) (p1 : Int32) : Option (Int32 × (Nat → Int64)) := Option.bind (pX9_isPlace p1) (fun r1 => if r1 = 0 then some ((-1 : Int32), v_bends) else Option.bind (pX9_turnedIn v_bends (p1 - (1 : Int32))) (fun r3 => if (1000000000 : Int64) < r3 then some ((-5 : Int32), v_bends) else if (-1000000000 : Int64) ≤ r3 then ck (ix (p1 - (1 : Int32)) 4) (some ((1 : Int32), vp_updL v_bends (p1 - (1 : Int32)).toNatClampNeg r3)) else some ((-5 : Int32), v_bends)))
def rmX9_turn : Room := { frames := 2, cells := 0, slots := 0, locals := 42 }
theorem hiX9_turn_X9 : ∀ w ∈ u_ws RX9 TX9 17, w ∈ wsX9_turn := fun _ h => List.mem_cons_of_mem _ (List.mem_append_right _ h)
set_option maxRecDepth 100000 in
set_option maxHeartbeats 4000000 in
theorem kX9_turn {l : Launch} {G : va_G} {cI cJ cZ cS cG : ClassId} (q q_bends q_rootAt q_pile q_lastAt q_nextAt q_hasBend q_isMet q_queue q_sums q_kept q_isKept q_copies q_shelfMany q_shelfSort q_shelfHas : Nat) (v_stepAt : Int32) (v_justMany : Int32) (v_bends : (Nat → Int64)) (p1 : Int32) (R : Int32 × (Nat → Int64)) (hf : pX9_turn v_bends p1 = some R) : CTi l yX9_turn wsX9_turn rmX9_turn G cI cJ cZ cS cG [.ref q, .int p1] [(q, .inr (9, [.ref q_bends, .ref q_rootAt, .int v_stepAt, .ref q_pile, .ref q_lastAt, .ref q_nextAt, .ref q_hasBend, .int v_justMany, .ref q_isMet, .ref q_queue, .ref q_sums, .ref q_kept, .ref q_isKept, .ref q_copies, .ref q_shelfMany, .ref q_shelfSort, .ref q_shelfHas])), (q_bends, .inl (cJ, 4, .inr (.inl v_bends)))] [(q, .inr (9, [.ref q_bends, .ref q_rootAt, .int v_stepAt, .ref q_pile, .ref q_lastAt, .ref q_nextAt, .ref q_hasBend, .int v_justMany, .ref q_isMet, .ref q_queue, .ref q_sums, .ref q_kept, .ref q_isKept, .ref q_copies, .ref q_shelfMany, .ref q_shelfSort, .ref q_shelfHas])), (q_bends, .inl (cJ, 4, .inr (.inl R.2)))] R.1 := by
  refine Met.ofE (Qc := fun A => QRi G A [(q, .inr (9, [.ref q_bends, .ref q_rootAt, .int v_stepAt, .ref q_pile, .ref q_lastAt, .ref q_nextAt, .ref q_hasBend, .int v_justMany, .ref q_isMet, .ref q_queue, .ref q_sums, .ref q_kept, .ref q_isKept, .ref q_copies, .ref q_shelfMany, .ref q_shelfSort, .ref q_shelfHas])), (q_bends, .inl (cJ, 4, .inr (.inl R.2)))] R.1) (cc := cX9_turn) (nL := 4) (ret := some .int) (plainFor_of_name (by decide +kernel)) rfl (Nat.le_of_ble_eq_true rfl) ?_
  intro p e s m below meth c A ls hx hb hml hr hlk hts hown hK hA hP hD hS hl
  have hown : s.vm.findClass RX9 = some m.cls := hown
  have hl : lv_has ls 4 [(0, .ref q), (1, .int p1)] := hl
  generalize hQ : MQ below (QRi G A [(q, .inr (9, [.ref q_bends, .ref q_rootAt, .int v_stepAt, .ref q_pile, .ref q_lastAt, .ref q_nextAt, .ref q_hasBend, .int v_justMany, .ref q_isMet, .ref q_queue, .ref q_sums, .ref q_kept, .ref q_isKept, .ref q_copies, .ref q_shelfMany, .ref q_shelfSort, .ref q_shelfHas])), (q_bends, .inl (cJ, 4, .inr (.inl R.2)))] R.1) ([.ref q, .int p1] : List Value).toArray s 0 0 A = QQ
  unfold pX9_turn at hf
  refine lv_iload_n hx hb dX9_turn_0 rfl (lv_at hl 1 rfl) ?_
  obtain ⟨r1, hc1, hf⟩ := ob_s hf
  refine bk_i (wc := []) (wc2 := []) (wr := [(q, .inr (9, [.ref q_bends, .ref q_rootAt, .int v_stepAt, .ref q_pile, .ref q_lastAt, .ref q_nextAt, .ref q_hasBend, .int v_justMany, .ref q_isMet, .ref q_queue, .ref q_sums, .ref q_kept, .ref q_isKept, .ref q_copies, .ref q_shelfMany, .ref q_shelfSort, .ref q_shelfHas])), (q_bends, .inl (cJ, 4, .inr (.inl v_bends)))]) (ws2 := [(q, .inr (9, [.ref q_bends, .ref q_rootAt, .int v_stepAt, .ref q_pile, .ref q_lastAt, .ref q_nextAt, .ref q_hasBend, .int v_justMany, .ref q_isMet, .ref q_queue, .ref q_sums, .ref q_kept, .ref q_isKept, .ref q_copies, .ref q_shelfMany, .ref q_shelfSort, .ref q_shelfHas])), (q_bends, .inl (cJ, 4, .inr (.inl v_bends)))]) (r := r1) (va_runS (As := [.int p1]) (rest := []) ⟨hx, hb, hml, hown, hts⟩ (kX9_isPlace (l := l) (G := G) (cI := cI) (cJ := cJ) (cZ := cZ) (cS := cS) (cG := cG) p1 _ hc1 _) (va_cwS 1 hts gX9_turn_X9_isPlace rfl rfl rfl (by decide +kernel) ⟨Nat.le_of_ble_eq_true rfl, Nat.le_of_ble_eq_true rfl⟩) (cut_S hK hP hD [] rfl rfl) rfl rfl hl.1 rfl (lv_room (Nat.le_of_ble_eq_true rfl)) dX9_turn_1 ⟨Nat.zero_le _, Nat.zero_le _⟩) hP hD hS hA [] [0, 1] [0, 1] rfl rfl rfl rfl rfl rfl (fun H locs hP hD hS => ?_)
  refine lv_if_ne (tgt := 9) hx hb dX9_turn_4 (by decide) (fun c2 => ?_) (fun c2 => ?_)
  · have hf := if_n hf c2
    refine lv_aload_n hx hb dX9_turn_9 rfl (lv_at hl 0 rfl) ?_
    refine va_get (D := G) (ci := 9) (v := .ref q_bends) (C := RX9) (T := TX9) (N := 17) hx hb hts hiX9_turn_X9 hown hK.1 hP 0 rfl rfl 0 (by decide) (hts (.fieldLink RX9 7 "PackedBendsModel" "bends" "[J") (List.mem_of_getElem? (i := 1) rfl)) (fun _ h9 => h9) rfl dX9_turn_10 ?_
    refine lv_iload_n hx hb dX9_turn_13 rfl (lv_at hl 1 rfl) ?_
    refine lv_iconst (v := 1) hx hb dX9_turn_14 (by decide) ?_
    refine lv_isub hx hb dX9_turn_15 ?_
    obtain ⟨r3, hc3, hf⟩ := ob_s hf
    refine bk_l (wc := [(q_bends, .inl (cJ, 4, .inr (.inl v_bends)))]) (wc2 := [(q_bends, .inl (cJ, 4, .inr (.inl v_bends)))]) (wr := [(q, .inr (9, [.ref q_bends, .ref q_rootAt, .int v_stepAt, .ref q_pile, .ref q_lastAt, .ref q_nextAt, .ref q_hasBend, .int v_justMany, .ref q_isMet, .ref q_queue, .ref q_sums, .ref q_kept, .ref q_isKept, .ref q_copies, .ref q_shelfMany, .ref q_shelfSort, .ref q_shelfHas]))]) (ws2 := [(q, .inr (9, [.ref q_bends, .ref q_rootAt, .int v_stepAt, .ref q_pile, .ref q_lastAt, .ref q_nextAt, .ref q_hasBend, .int v_justMany, .ref q_isMet, .ref q_queue, .ref q_sums, .ref q_kept, .ref q_isKept, .ref q_copies, .ref q_shelfMany, .ref q_shelfSort, .ref q_shelfHas])), (q_bends, .inl (cJ, 4, .inr (.inl v_bends)))]) (r := r3) (va_runS (As := [.ref q_bends, .int (p1 - (1 : Int32))]) (rest := []) ⟨hx, hb, hml, hown, hts⟩ (kX9_turnedIn (l := l) (G := G) (cI := cI) (cJ := cJ) (cZ := cZ) (cS := cS) (cG := cG) q_bends v_bends (p1 - (1 : Int32)) _ hc3 _) (va_cwS 2 hts gX9_turn_X9_turnedIn rfl rfl rfl (by decide +kernel) ⟨Nat.le_of_ble_eq_true rfl, Nat.le_of_ble_eq_true rfl⟩) (cut_S hK hP hD [1] rfl rfl) rfl rfl hl.1 rfl (lv_room (Nat.le_of_ble_eq_true rfl)) dX9_turn_16 ⟨Nat.zero_le _, Nat.zero_le _⟩) hP hD hS hA [1] [0] [0, 1] rfl rfl rfl rfl rfl rfl (fun H locs hP hD hS => ?_)
    refine lv_lstore_n (lv' := [(2, .long r3), (0, .ref q), (1, .int p1)]) hx hb dX9_turn_19 rfl hl (by decide) rfl (fun ls hl => ?_)
    refine lv_lload_n hx hb dX9_turn_20 rfl (lv_at hl 0 rfl) ?_
    refine lv_ldc2 (v := 1000000000) hx hb hown (hts (.constantLong RX9 86 (1000000000)) (List.mem_of_getElem? (i := 2) rfl)) dX9_turn_21 ?_
    refine lc_gt (tgt := 36) hx hb dX9_turn_24 dX9_turn_25 (by decide) (fun c4 => ?_) (fun c4 => ?_)
    · have hf := if_s hf c4
      refine lv_bipush (v := (-5)) hx hb dX9_turn_36 (by decide) ?_
      cases hf
      rw [← hQ]
      exact rt_i hx hb hr hlk hP hD hS rfl dX9_turn_38
    · have hf := if_n hf c4
      refine lv_lload_n hx hb dX9_turn_28 rfl (lv_at hl 0 rfl) ?_
      refine lv_ldc2 (v := (-1000000000)) hx hb hown (hts (.constantLong RX9 88 (-1000000000)) (List.mem_of_getElem? (i := 3) rfl)) dX9_turn_29 ?_
      refine lc_ge (tgt := 39) hx hb dX9_turn_32 dX9_turn_33 (by decide) (fun c5 => ?_) (fun c5 => ?_)
      · have hf := if_s hf c5
        refine lv_aload_n hx hb dX9_turn_39 rfl (lv_at hl 1 rfl) ?_
        refine va_get (D := G) (ci := 9) (v := .ref q_bends) (C := RX9) (T := TX9) (N := 17) hx hb hts hiX9_turn_X9 hown hK.1 hP 0 rfl rfl 0 (by decide) (hts (.fieldLink RX9 7 "PackedBendsModel" "bends" "[J") (List.mem_of_getElem? (i := 1) rfl)) (fun _ h9 => h9) rfl dX9_turn_40 ?_
        refine lv_iload_n hx hb dX9_turn_43 rfl (lv_at hl 2 rfl) ?_
        refine lv_iconst (v := 1) hx hb dX9_turn_44 (by decide) ?_
        refine lv_isub hx hb dX9_turn_45 ?_
        refine lv_lload_n hx hb dX9_turn_46 rfl (lv_at hl 0 rfl) ?_
        obtain ⟨z6, hf⟩ := ck_s hf
        refine va_last hx hb hK.1 hP hD hS 1 1 rfl rfl (vp_in_iff.mpr z6) dX9_turn_47 (fun H locs hP hD hS => ?_)
        have hP : va_P G vwCl [(q, .inr (9, [.ref q_bends, .ref q_rootAt, .int v_stepAt, .ref q_pile, .ref q_lastAt, .ref q_nextAt, .ref q_hasBend, .int v_justMany, .ref q_isMet, .ref q_queue, .ref q_sums, .ref q_kept, .ref q_isKept, .ref q_copies, .ref q_shelfMany, .ref q_shelfSort, .ref q_shelfHas])), (q_bends, .inl (cJ, 4, .inr (.inl (vp_updL v_bends (p1 - (1 : Int32)).toNatClampNeg r3))))] H := hP
        have hD : va_D A [(q, .inr (9, [.ref q_bends, .ref q_rootAt, .int v_stepAt, .ref q_pile, .ref q_lastAt, .ref q_nextAt, .ref q_hasBend, .int v_justMany, .ref q_isMet, .ref q_queue, .ref q_sums, .ref q_kept, .ref q_isKept, .ref q_copies, .ref q_shelfMany, .ref q_shelfSort, .ref q_shelfHas])), (q_bends, .inl (cJ, 4, .inr (.inl (vp_updL v_bends (p1 - (1 : Int32)).toNatClampNeg r3))))] := hD
        refine lv_iconst (v := 1) hx hb dX9_turn_48 (by decide) ?_
        cases hf
        rw [← hQ]
        exact rt_i hx hb hr hlk hP hD hS rfl dX9_turn_49
      · have hf := if_n hf c5
        refine lv_bipush (v := (-5)) hx hb dX9_turn_36 (by decide) ?_
        cases hf
        rw [← hQ]
        exact rt_i hx hb hr hlk hP hD hS rfl dX9_turn_38
  · have hf := if_s hf c2
    refine lv_iconst (v := (-1)) hx hb dX9_turn_7 (by decide) ?_
    cases hf
    rw [← hQ]
    exact rt_i hx hb hr hlk hP hD hS rfl dX9_turn_8
def pX9_greatestIn_L4 (v_a0 : (Nat → Int64)) : Nat → Int32 → Int32 → (Int32 → Int32 → Option (Int32)) → Option (Int32)
  | 0, _, _, _ => none
  | n + 1, x1, x2, k => if (4 : Int32) ≤ x2 then k x1 x2 else ck (ix x2 4) (ck (ix x1 4) (if (v_a0 x2.toNatClampNeg) ≤ (v_a0 x1.toNatClampNeg) then pX9_greatestIn_L4 v_a0 n x1 (x2 + (1 : Int32)) k else pX9_greatestIn_L4 v_a0 n x2 (x2 + (1 : Int32)) k))
def pX9_greatestIn (n : Nat) (v_a0 : (Nat → Int64)) : Option (Int32) := pX9_greatestIn_L4 v_a0 n (0 : Int32) (1 : Int32) (fun (y1_5 : Int32) (y2_5 : Int32) => some y1_5)
def rmX9_greatestIn : Room := { frames := 0, cells := 0, slots := 0, locals := 0 }
set_option maxRecDepth 100000 in
set_option maxHeartbeats 4000000 in
theorem kX9_greatestIn {l : Launch} {G : va_G} {cI cJ cZ cS cG : ClassId} (n : Nat) (q_a0 : Nat) (v_a0 : (Nat → Int64)) (R : Int32) (hf : pX9_greatestIn n v_a0 = some R) : CTi l yX9_greatestIn wsX9_greatestIn rmX9_greatestIn G cI cJ cZ cS cG [.ref q_a0] [(q_a0, .inl (cJ, 4, .inr (.inl v_a0)))] [(q_a0, .inl (cJ, 4, .inr (.inl v_a0)))] R := by
  refine Met.ofE (Qc := fun A => QRi G A [(q_a0, .inl (cJ, 4, .inr (.inl v_a0)))] R) (cc := cX9_greatestIn) (nL := 3) (ret := some .int) (plainFor_of_name (by decide +kernel)) rfl (Nat.le_of_ble_eq_true rfl) ?_
  intro p e s m below meth c A ls hx hb hml hr hlk hts hown hK hA hP hD hS hl
  have hown : s.vm.findClass RX9 = some m.cls := hown
  have hl : lv_has ls 3 [(0, .ref q_a0)] := hl
  generalize hQ : MQ below (QRi G A [(q_a0, .inl (cJ, 4, .inr (.inl v_a0)))] R) ([.ref q_a0] : List Value).toArray s 0 0 A = QQ
  unfold pX9_greatestIn at hf
  have hL4 : ∀ (k : Int32 → Int32 → Option (Int32)), (∀ (x1 : Int32) (x2 : Int32) (H : Heap) (locs : List Loc) (ls : Array Slot), k x1 x2 = some R → va_P G vwCl [(q_a0, .inl (cJ, 4, .inr (.inl v_a0)))] H → va_D A [(q_a0, .inl (cJ, 4, .inr (.inl v_a0)))] → va_S A s.heap H locs → lv_has ls 3 [(0, .ref q_a0), (1, .int x1), (2, .int x2)] → W p l e rmX9_greatestIn s m ([.ref q_a0] : List Value).toArray below meth c H locs 0 0 QQ (F0 m 31 ls [])) → ∀ (n : Nat) (x1 : Int32) (x2 : Int32) (H : Heap) (locs : List Loc) (ls : Array Slot), pX9_greatestIn_L4 v_a0 n x1 x2 k = some R → va_P G vwCl [(q_a0, .inl (cJ, 4, .inr (.inl v_a0)))] H → va_D A [(q_a0, .inl (cJ, 4, .inr (.inl v_a0)))] → va_S A s.heap H locs → lv_has ls 3 [(0, .ref q_a0), (1, .int x1), (2, .int x2)] → W p l e rmX9_greatestIn s m ([.ref q_a0] : List Value).toArray below meth c H locs 0 0 QQ (F0 m 4 ls []) := by
    intro  k hk n
    induction n with
    | zero =>
      intro x1 x2 H locs ls hf
      cases hf
    | succ n ih =>
      intro x1 x2 H locs ls hf hP hD hS hl
      unfold pX9_greatestIn_L4 at hf
      refine lv_iload_n hx hb dX9_greatestIn_4 rfl (lv_at hl 2 rfl) ?_
      refine lv_iconst (v := 4) hx hb dX9_greatestIn_5 (by decide) ?_
      refine lv_icmp_ge (tgt := 31) hx hb dX9_greatestIn_6 (by decide) (fun c1 => ?_) (fun c1 => ?_)
      · have hf := if_s hf c1
        exact hk x1 x2 _ _ _ hf hP hD hS (lv_sub hl [0, 1, 2] rfl)
      · have hf := if_n hf c1
        refine lv_aload_n hx hb dX9_greatestIn_9 rfl (lv_at hl 0 rfl) ?_
        refine lv_iload_n hx hb dX9_greatestIn_10 rfl (lv_at hl 2 rfl) ?_
        obtain ⟨z2, hf⟩ := ck_s hf
        refine va_lald hx hb hK.1 hP 0 1 rfl rfl (vp_in_iff.mpr z2) dX9_greatestIn_11 ?_
        refine lv_aload_n hx hb dX9_greatestIn_12 rfl (lv_at hl 0 rfl) ?_
        refine lv_iload_n hx hb dX9_greatestIn_13 rfl (lv_at hl 1 rfl) ?_
        obtain ⟨z3, hf⟩ := ck_s hf
        refine va_lald hx hb hK.1 hP 0 1 rfl rfl (vp_in_iff.mpr z3) dX9_greatestIn_14 ?_
        refine lc_le (tgt := 23) hx hb dX9_greatestIn_15 dX9_greatestIn_16 (by decide) (fun c4 => ?_) (fun c4 => ?_)
        · have hf := if_s hf c4
          refine lv_iload_n hx hb dX9_greatestIn_23 rfl (lv_at hl 1 rfl) ?_
          refine lv_istore_n (lv' := [(1, .int x1), (0, .ref q_a0), (2, .int x2)]) hx hb dX9_greatestIn_24 rfl hl (by decide) rfl (fun ls hl => ?_)
          refine lv_iinc (v := x2 + (1 : Int32)) (lv' := [(2, .int (x2 + (1 : Int32))), (1, .int x1), (0, .ref q_a0)]) hx hb dX9_greatestIn_25 hl (k := 2) rfl rfl (by decide) rfl (fun ls hl => ?_)
          refine lv_goto (tgt := 4) hx hb dX9_greatestIn_28 (by decide) ?_
          exact ih x1 (x2 + (1 : Int32)) _ _ _ hf hP hD hS (lv_sub hl [2, 1, 0] rfl)
        · have hf := if_n hf c4
          refine lv_iload_n hx hb dX9_greatestIn_19 rfl (lv_at hl 2 rfl) ?_
          refine lv_goto (tgt := 24) hx hb dX9_greatestIn_20 (by decide) ?_
          refine lv_istore_n (lv' := [(1, .int x2), (0, .ref q_a0), (2, .int x2)]) hx hb dX9_greatestIn_24 rfl hl (by decide) rfl (fun ls hl => ?_)
          refine lv_iinc (v := x2 + (1 : Int32)) (lv' := [(2, .int (x2 + (1 : Int32))), (1, .int x2), (0, .ref q_a0)]) hx hb dX9_greatestIn_25 hl (k := 2) rfl rfl (by decide) rfl (fun ls hl => ?_)
          refine lv_goto (tgt := 4) hx hb dX9_greatestIn_28 (by decide) ?_
          exact ih x2 (x2 + (1 : Int32)) _ _ _ hf hP hD hS (lv_sub hl [2, 1, 0] rfl)
  refine lv_iconst (v := 0) hx hb dX9_greatestIn_0 (by decide) ?_
  refine lv_istore_n (lv' := [(1, .int (0 : Int32)), (0, .ref q_a0)]) hx hb dX9_greatestIn_1 rfl hl (by decide) rfl (fun ls hl => ?_)
  refine lv_iconst (v := 1) hx hb dX9_greatestIn_2 (by decide) ?_
  refine lv_istore_n (lv' := [(2, .int (1 : Int32)), (1, .int (0 : Int32)), (0, .ref q_a0)]) hx hb dX9_greatestIn_3 rfl hl (by decide) rfl (fun ls hl => ?_)
  refine hL4  _ (fun y1_5 y2_5 H locs ls hf hP hD hS hl => ?_) n (0 : Int32) (1 : Int32) _ _ _ hf hP hD hS (lv_sub hl [2, 1, 0] rfl)
  have hP : va_P G vwCl [(q_a0, .inl (cJ, 4, .inr (.inl v_a0)))] H := hP
  have hD : va_D A [(q_a0, .inl (cJ, 4, .inr (.inl v_a0)))] := hD
  refine lv_iload_n hx hb dX9_greatestIn_31 rfl (lv_at hl 1 rfl) ?_
  cases hf
  rw [← hQ]
  exact rt_i hx hb hr hlk hP hD hS rfl dX9_greatestIn_32
def pX9_sortsRoot_L9 : Nat → Int32 → (Nat → Int64) → (Int32 → (Nat → Int64) → Option ((Nat → Int64))) → Option ((Nat → Int64))
  | 0, _, _, _ => none
  | n + 1, x2, v_rootAt, k => if (3 : Int32) ≤ x2 then k x2 v_rootAt else ck (ix x2 4) (ck (ix (x2 + (1 : Int32)) 4) (if (v_rootAt (x2 + (1 : Int32)).toNatClampNeg) ≤ (v_rootAt x2.toNatClampNeg) then if (v_rootAt (x2 + (1 : Int32)).toNatClampNeg) ≤ (v_rootAt x2.toNatClampNeg) then pX9_sortsRoot_L9 n (x2 + (1 : Int32)) (vp_updL (vp_updL v_rootAt x2.toNatClampNeg (v_rootAt (x2 + (1 : Int32)).toNatClampNeg)) (x2 + (1 : Int32)).toNatClampNeg (v_rootAt x2.toNatClampNeg)) k else pX9_sortsRoot_L9 n (x2 + (1 : Int32)) (vp_updL (vp_updL v_rootAt x2.toNatClampNeg (v_rootAt (x2 + (1 : Int32)).toNatClampNeg)) (x2 + (1 : Int32)).toNatClampNeg (v_rootAt (x2 + (1 : Int32)).toNatClampNeg)) k else if (v_rootAt (x2 + (1 : Int32)).toNatClampNeg) ≤ (v_rootAt x2.toNatClampNeg) then pX9_sortsRoot_L9 n (x2 + (1 : Int32)) (vp_updL (vp_updL v_rootAt x2.toNatClampNeg (v_rootAt x2.toNatClampNeg)) (x2 + (1 : Int32)).toNatClampNeg (v_rootAt x2.toNatClampNeg)) k else pX9_sortsRoot_L9 n (x2 + (1 : Int32)) (vp_updL (vp_updL v_rootAt x2.toNatClampNeg (v_rootAt x2.toNatClampNeg)) (x2 + (1 : Int32)).toNatClampNeg (v_rootAt (x2 + (1 : Int32)).toNatClampNeg)) k))
def pX9_sortsRoot_L2 : Nat → Int32 → (Nat → Int64) → (Int32 → (Nat → Int64) → Option ((Nat → Int64))) → Option ((Nat → Int64))
  | 0, _, _, _ => none
  | n + 1, x1, v_rootAt, k => if (4 : Int32) ≤ x1 then k x1 v_rootAt else pX9_sortsRoot_L9 n (0 : Int32) v_rootAt (fun (y2_8 : Int32) (u8_rootAt : (Nat → Int64)) => pX9_sortsRoot_L2 n (x1 + (1 : Int32)) u8_rootAt k)
def pX9_sortsRoot (n : Nat) (v_rootAt : (Nat → Int64)) : Option ((Nat → Int64)) := pX9_sortsRoot_L2 n (0 : Int32) v_rootAt (fun (y1_9 : Int32) (u9_rootAt : (Nat → Int64)) => some u9_rootAt)
def rmX9_sortsRoot : Room := { frames := 0, cells := 0, slots := 0, locals := 0 }
theorem hiX9_sortsRoot_X9 : ∀ w ∈ u_ws RX9 TX9 17, w ∈ wsX9_sortsRoot := fun _ h => List.mem_cons_of_mem _ (List.mem_append_right _ h)
set_option maxRecDepth 100000 in
set_option maxHeartbeats 4000000 in
theorem kX9_sortsRoot {l : Launch} {G : va_G} {cI cJ cZ cS cG : ClassId} (n : Nat) (q q_bends q_rootAt q_pile q_lastAt q_nextAt q_hasBend q_isMet q_queue q_sums q_kept q_isKept q_copies q_shelfMany q_shelfSort q_shelfHas : Nat) (v_stepAt : Int32) (v_justMany : Int32) (v_rootAt : (Nat → Int64)) (R : (Nat → Int64)) (hf : pX9_sortsRoot n v_rootAt = some R) : CTv l yX9_sortsRoot wsX9_sortsRoot rmX9_sortsRoot G cI cJ cZ cS cG [.ref q] [(q, .inr (9, [.ref q_bends, .ref q_rootAt, .int v_stepAt, .ref q_pile, .ref q_lastAt, .ref q_nextAt, .ref q_hasBend, .int v_justMany, .ref q_isMet, .ref q_queue, .ref q_sums, .ref q_kept, .ref q_isKept, .ref q_copies, .ref q_shelfMany, .ref q_shelfSort, .ref q_shelfHas])), (q_rootAt, .inl (cJ, 4, .inr (.inl v_rootAt)))] [(q, .inr (9, [.ref q_bends, .ref q_rootAt, .int v_stepAt, .ref q_pile, .ref q_lastAt, .ref q_nextAt, .ref q_hasBend, .int v_justMany, .ref q_isMet, .ref q_queue, .ref q_sums, .ref q_kept, .ref q_isKept, .ref q_copies, .ref q_shelfMany, .ref q_shelfSort, .ref q_shelfHas])), (q_rootAt, .inl (cJ, 4, .inr (.inl R)))] := by
  refine Met.ofE (Qc := fun A => QRv G A [(q, .inr (9, [.ref q_bends, .ref q_rootAt, .int v_stepAt, .ref q_pile, .ref q_lastAt, .ref q_nextAt, .ref q_hasBend, .int v_justMany, .ref q_isMet, .ref q_queue, .ref q_sums, .ref q_kept, .ref q_isKept, .ref q_copies, .ref q_shelfMany, .ref q_shelfSort, .ref q_shelfHas])), (q_rootAt, .inl (cJ, 4, .inr (.inl R)))]) (cc := cX9_sortsRoot) (nL := 7) (ret := none) (plainFor_of_name (by decide +kernel)) rfl (Nat.le_of_ble_eq_true rfl) ?_
  intro p e s m below meth c A ls hx hb hml hr hlk hts hown hK hA hP hD hS hl
  have hown : s.vm.findClass RX9 = some m.cls := hown
  have hl : lv_has ls 7 [(0, .ref q)] := hl
  generalize hQ : MQ below (QRv G A [(q, .inr (9, [.ref q_bends, .ref q_rootAt, .int v_stepAt, .ref q_pile, .ref q_lastAt, .ref q_nextAt, .ref q_hasBend, .int v_justMany, .ref q_isMet, .ref q_queue, .ref q_sums, .ref q_kept, .ref q_isKept, .ref q_copies, .ref q_shelfMany, .ref q_shelfSort, .ref q_shelfHas])), (q_rootAt, .inl (cJ, 4, .inr (.inl R)))]) ([.ref q] : List Value).toArray s 0 0 A = QQ
  unfold pX9_sortsRoot at hf
  have hL9 : ∀ (x1 : Int32) (k : Int32 → (Nat → Int64) → Option ((Nat → Int64))), (∀ (x2 : Int32) (v_rootAt : (Nat → Int64)) (H : Heap) (locs : List Loc) (ls : Array Slot), k x2 v_rootAt = some R → va_P G vwCl [(q, .inr (9, [.ref q_bends, .ref q_rootAt, .int v_stepAt, .ref q_pile, .ref q_lastAt, .ref q_nextAt, .ref q_hasBend, .int v_justMany, .ref q_isMet, .ref q_queue, .ref q_sums, .ref q_kept, .ref q_isKept, .ref q_copies, .ref q_shelfMany, .ref q_shelfSort, .ref q_shelfHas])), (q_rootAt, .inl (cJ, 4, .inr (.inl v_rootAt)))] H → va_D A [(q, .inr (9, [.ref q_bends, .ref q_rootAt, .int v_stepAt, .ref q_pile, .ref q_lastAt, .ref q_nextAt, .ref q_hasBend, .int v_justMany, .ref q_isMet, .ref q_queue, .ref q_sums, .ref q_kept, .ref q_isKept, .ref q_copies, .ref q_shelfMany, .ref q_shelfSort, .ref q_shelfHas])), (q_rootAt, .inl (cJ, 4, .inr (.inl v_rootAt)))] → va_S A s.heap H locs → lv_has ls 7 [(0, .ref q), (1, .int x1), (2, .int x2)] → W p l e rmX9_sortsRoot s m ([.ref q] : List Value).toArray below meth c H locs 0 0 QQ (F0 m 77 ls [])) → ∀ (n : Nat) (x2 : Int32) (v_rootAt : (Nat → Int64)) (H : Heap) (locs : List Loc) (ls : Array Slot), pX9_sortsRoot_L9 n x2 v_rootAt k = some R → va_P G vwCl [(q, .inr (9, [.ref q_bends, .ref q_rootAt, .int v_stepAt, .ref q_pile, .ref q_lastAt, .ref q_nextAt, .ref q_hasBend, .int v_justMany, .ref q_isMet, .ref q_queue, .ref q_sums, .ref q_kept, .ref q_isKept, .ref q_copies, .ref q_shelfMany, .ref q_shelfSort, .ref q_shelfHas])), (q_rootAt, .inl (cJ, 4, .inr (.inl v_rootAt)))] H → va_D A [(q, .inr (9, [.ref q_bends, .ref q_rootAt, .int v_stepAt, .ref q_pile, .ref q_lastAt, .ref q_nextAt, .ref q_hasBend, .int v_justMany, .ref q_isMet, .ref q_queue, .ref q_sums, .ref q_kept, .ref q_isKept, .ref q_copies, .ref q_shelfMany, .ref q_shelfSort, .ref q_shelfHas])), (q_rootAt, .inl (cJ, 4, .inr (.inl v_rootAt)))] → va_S A s.heap H locs → lv_has ls 7 [(0, .ref q), (1, .int x1), (2, .int x2)] → W p l e rmX9_sortsRoot s m ([.ref q] : List Value).toArray below meth c H locs 0 0 QQ (F0 m 9 ls []) := by
    intro x1 k hk n
    induction n with
    | zero =>
      intro x2 v_rootAt H locs ls hf
      cases hf
    | succ n ih =>
      intro x2 v_rootAt H locs ls hf hP hD hS hl
      unfold pX9_sortsRoot_L9 at hf
      refine lv_iload_n hx hb dX9_sortsRoot_9 rfl (lv_at hl 2 rfl) ?_
      refine lv_iconst (v := 3) hx hb dX9_sortsRoot_10 (by decide) ?_
      refine lv_icmp_ge (tgt := 77) hx hb dX9_sortsRoot_11 (by decide) (fun c2 => ?_) (fun c2 => ?_)
      · have hf := if_s hf c2
        exact hk x2 v_rootAt _ _ _ hf hP hD hS (lv_sub hl [0, 1, 2] rfl)
      · have hf := if_n hf c2
        refine lv_aload_n hx hb dX9_sortsRoot_14 rfl (lv_at hl 0 rfl) ?_
        refine va_get (D := G) (ci := 9) (v := .ref q_rootAt) (C := RX9) (T := TX9) (N := 17) hx hb hts hiX9_sortsRoot_X9 hown hK.1 hP 0 rfl rfl 1 (by decide) (hts (.fieldLink RX9 13 "PackedBendsModel" "rootAt" "[J") (List.mem_of_getElem? (i := 1) rfl)) (fun _ h9 => h9) rfl dX9_sortsRoot_15 ?_
        refine lv_iload_n hx hb dX9_sortsRoot_18 rfl (lv_at hl 2 rfl) ?_
        obtain ⟨z3, hf⟩ := ck_s hf
        refine va_lald hx hb hK.1 hP 1 1 rfl rfl (vp_in_iff.mpr z3) dX9_sortsRoot_19 ?_
        refine lv_lstore_n (lv' := [(3, .long (v_rootAt x2.toNatClampNeg)), (0, .ref q), (1, .int x1), (2, .int x2)]) hx hb dX9_sortsRoot_20 rfl hl (by decide) rfl (fun ls hl => ?_)
        refine lv_aload_n hx hb dX9_sortsRoot_21 rfl (lv_at hl 1 rfl) ?_
        refine va_get (D := G) (ci := 9) (v := .ref q_rootAt) (C := RX9) (T := TX9) (N := 17) hx hb hts hiX9_sortsRoot_X9 hown hK.1 hP 0 rfl rfl 1 (by decide) (hts (.fieldLink RX9 13 "PackedBendsModel" "rootAt" "[J") (List.mem_of_getElem? (i := 1) rfl)) (fun _ h9 => h9) rfl dX9_sortsRoot_22 ?_
        refine lv_iload_n hx hb dX9_sortsRoot_25 rfl (lv_at hl 3 rfl) ?_
        refine lv_iconst (v := 1) hx hb dX9_sortsRoot_26 (by decide) ?_
        refine lv_iadd hx hb dX9_sortsRoot_27 ?_
        obtain ⟨z4, hf⟩ := ck_s hf
        refine va_lald hx hb hK.1 hP 1 1 rfl rfl (vp_in_iff.mpr z4) dX9_sortsRoot_28 ?_
        refine lv_lstore (lv' := [(5, .long (v_rootAt (x2 + (1 : Int32)).toNatClampNeg)), (3, .long (v_rootAt x2.toNatClampNeg)), (0, .ref q), (1, .int x1), (2, .int x2)]) hx hb dX9_sortsRoot_29 hl (by decide) rfl (fun ls hl => ?_)
        refine lv_aload_n hx hb dX9_sortsRoot_31 rfl (lv_at hl 2 rfl) ?_
        refine va_get (D := G) (ci := 9) (v := .ref q_rootAt) (C := RX9) (T := TX9) (N := 17) hx hb hts hiX9_sortsRoot_X9 hown hK.1 hP 0 rfl rfl 1 (by decide) (hts (.fieldLink RX9 13 "PackedBendsModel" "rootAt" "[J") (List.mem_of_getElem? (i := 1) rfl)) (fun _ h9 => h9) rfl dX9_sortsRoot_32 ?_
        refine lv_iload_n hx hb dX9_sortsRoot_35 rfl (lv_at hl 4 rfl) ?_
        refine lv_lload_n hx hb dX9_sortsRoot_36 rfl (lv_at hl 1 rfl) ?_
        refine lv_lload hx hb dX9_sortsRoot_37 (lv_at hl 0 rfl) ?_
        refine lc_ge (tgt := 47) hx hb dX9_sortsRoot_39 dX9_sortsRoot_40 (by decide) (fun c5 => ?_) (fun c5 => ?_)
        · have hf := if_s hf c5
          refine lv_lload hx hb dX9_sortsRoot_47 (lv_at hl 0 rfl) ?_
          refine va_last hx hb hK.1 hP hD hS 1 1 rfl rfl (vp_in_iff.mpr z3) dX9_sortsRoot_49 (fun H locs hP hD hS => ?_)
          have hP : va_P G vwCl [(q, .inr (9, [.ref q_bends, .ref q_rootAt, .int v_stepAt, .ref q_pile, .ref q_lastAt, .ref q_nextAt, .ref q_hasBend, .int v_justMany, .ref q_isMet, .ref q_queue, .ref q_sums, .ref q_kept, .ref q_isKept, .ref q_copies, .ref q_shelfMany, .ref q_shelfSort, .ref q_shelfHas])), (q_rootAt, .inl (cJ, 4, .inr (.inl (vp_updL v_rootAt x2.toNatClampNeg (v_rootAt (x2 + (1 : Int32)).toNatClampNeg)))))] H := hP
          have hD : va_D A [(q, .inr (9, [.ref q_bends, .ref q_rootAt, .int v_stepAt, .ref q_pile, .ref q_lastAt, .ref q_nextAt, .ref q_hasBend, .int v_justMany, .ref q_isMet, .ref q_queue, .ref q_sums, .ref q_kept, .ref q_isKept, .ref q_copies, .ref q_shelfMany, .ref q_shelfSort, .ref q_shelfHas])), (q_rootAt, .inl (cJ, 4, .inr (.inl (vp_updL v_rootAt x2.toNatClampNeg (v_rootAt (x2 + (1 : Int32)).toNatClampNeg)))))] := hD
          refine lv_aload_n hx hb dX9_sortsRoot_50 rfl (lv_at hl 2 rfl) ?_
          refine va_get (D := G) (ci := 9) (v := .ref q_rootAt) (C := RX9) (T := TX9) (N := 17) hx hb hts hiX9_sortsRoot_X9 hown hK.1 hP 0 rfl rfl 1 (by decide) (hts (.fieldLink RX9 13 "PackedBendsModel" "rootAt" "[J") (List.mem_of_getElem? (i := 1) rfl)) (fun _ h9 => h9) rfl dX9_sortsRoot_51 ?_
          refine lv_iload_n hx hb dX9_sortsRoot_54 rfl (lv_at hl 4 rfl) ?_
          refine lv_iconst (v := 1) hx hb dX9_sortsRoot_55 (by decide) ?_
          refine lv_iadd hx hb dX9_sortsRoot_56 ?_
          refine lv_lload_n hx hb dX9_sortsRoot_57 rfl (lv_at hl 1 rfl) ?_
          refine lv_lload hx hb dX9_sortsRoot_58 (lv_at hl 0 rfl) ?_
          refine lc_ge (tgt := 69) hx hb dX9_sortsRoot_60 dX9_sortsRoot_61 (by decide) (fun c6 => ?_) (fun c6 => ?_)
          · have hf := if_s hf c6
            refine lv_lload_n hx hb dX9_sortsRoot_69 rfl (lv_at hl 1 rfl) ?_
            refine va_last hx hb hK.1 hP hD hS 1 1 rfl rfl (vp_in_iff.mpr z4) dX9_sortsRoot_70 (fun H locs hP hD hS => ?_)
            have hP : va_P G vwCl [(q, .inr (9, [.ref q_bends, .ref q_rootAt, .int v_stepAt, .ref q_pile, .ref q_lastAt, .ref q_nextAt, .ref q_hasBend, .int v_justMany, .ref q_isMet, .ref q_queue, .ref q_sums, .ref q_kept, .ref q_isKept, .ref q_copies, .ref q_shelfMany, .ref q_shelfSort, .ref q_shelfHas])), (q_rootAt, .inl (cJ, 4, .inr (.inl (vp_updL (vp_updL v_rootAt x2.toNatClampNeg (v_rootAt (x2 + (1 : Int32)).toNatClampNeg)) (x2 + (1 : Int32)).toNatClampNeg (v_rootAt x2.toNatClampNeg)))))] H := hP
            have hD : va_D A [(q, .inr (9, [.ref q_bends, .ref q_rootAt, .int v_stepAt, .ref q_pile, .ref q_lastAt, .ref q_nextAt, .ref q_hasBend, .int v_justMany, .ref q_isMet, .ref q_queue, .ref q_sums, .ref q_kept, .ref q_isKept, .ref q_copies, .ref q_shelfMany, .ref q_shelfSort, .ref q_shelfHas])), (q_rootAt, .inl (cJ, 4, .inr (.inl (vp_updL (vp_updL v_rootAt x2.toNatClampNeg (v_rootAt (x2 + (1 : Int32)).toNatClampNeg)) (x2 + (1 : Int32)).toNatClampNeg (v_rootAt x2.toNatClampNeg)))))] := hD
            refine lv_iinc (v := x2 + (1 : Int32)) (lv' := [(2, .int (x2 + (1 : Int32))), (5, .long (v_rootAt (x2 + (1 : Int32)).toNatClampNeg)), (3, .long (v_rootAt x2.toNatClampNeg)), (0, .ref q), (1, .int x1)]) hx hb dX9_sortsRoot_71 hl (k := 4) rfl rfl (by decide) rfl (fun ls hl => ?_)
            refine lv_goto (tgt := 9) hx hb dX9_sortsRoot_74 (by decide) ?_
            exact ih (x2 + (1 : Int32)) (vp_updL (vp_updL v_rootAt x2.toNatClampNeg (v_rootAt (x2 + (1 : Int32)).toNatClampNeg)) (x2 + (1 : Int32)).toNatClampNeg (v_rootAt x2.toNatClampNeg)) _ _ _ hf hP hD hS (lv_sub hl [3, 4, 0] rfl)
          · have hf := if_n hf c6
            refine lv_lload hx hb dX9_sortsRoot_64 (lv_at hl 0 rfl) ?_
            refine lv_goto (tgt := 70) hx hb dX9_sortsRoot_66 (by decide) ?_
            refine va_last hx hb hK.1 hP hD hS 1 1 rfl rfl (vp_in_iff.mpr z4) dX9_sortsRoot_70 (fun H locs hP hD hS => ?_)
            have hP : va_P G vwCl [(q, .inr (9, [.ref q_bends, .ref q_rootAt, .int v_stepAt, .ref q_pile, .ref q_lastAt, .ref q_nextAt, .ref q_hasBend, .int v_justMany, .ref q_isMet, .ref q_queue, .ref q_sums, .ref q_kept, .ref q_isKept, .ref q_copies, .ref q_shelfMany, .ref q_shelfSort, .ref q_shelfHas])), (q_rootAt, .inl (cJ, 4, .inr (.inl (vp_updL (vp_updL v_rootAt x2.toNatClampNeg (v_rootAt (x2 + (1 : Int32)).toNatClampNeg)) (x2 + (1 : Int32)).toNatClampNeg (v_rootAt (x2 + (1 : Int32)).toNatClampNeg)))))] H := hP
            have hD : va_D A [(q, .inr (9, [.ref q_bends, .ref q_rootAt, .int v_stepAt, .ref q_pile, .ref q_lastAt, .ref q_nextAt, .ref q_hasBend, .int v_justMany, .ref q_isMet, .ref q_queue, .ref q_sums, .ref q_kept, .ref q_isKept, .ref q_copies, .ref q_shelfMany, .ref q_shelfSort, .ref q_shelfHas])), (q_rootAt, .inl (cJ, 4, .inr (.inl (vp_updL (vp_updL v_rootAt x2.toNatClampNeg (v_rootAt (x2 + (1 : Int32)).toNatClampNeg)) (x2 + (1 : Int32)).toNatClampNeg (v_rootAt (x2 + (1 : Int32)).toNatClampNeg)))))] := hD
            refine lv_iinc (v := x2 + (1 : Int32)) (lv' := [(2, .int (x2 + (1 : Int32))), (5, .long (v_rootAt (x2 + (1 : Int32)).toNatClampNeg)), (3, .long (v_rootAt x2.toNatClampNeg)), (0, .ref q), (1, .int x1)]) hx hb dX9_sortsRoot_71 hl (k := 4) rfl rfl (by decide) rfl (fun ls hl => ?_)
            refine lv_goto (tgt := 9) hx hb dX9_sortsRoot_74 (by decide) ?_
            exact ih (x2 + (1 : Int32)) (vp_updL (vp_updL v_rootAt x2.toNatClampNeg (v_rootAt (x2 + (1 : Int32)).toNatClampNeg)) (x2 + (1 : Int32)).toNatClampNeg (v_rootAt (x2 + (1 : Int32)).toNatClampNeg)) _ _ _ hf hP hD hS (lv_sub hl [3, 4, 0] rfl)
        · have hf := if_n hf c5
          refine lv_lload_n hx hb dX9_sortsRoot_43 rfl (lv_at hl 1 rfl) ?_
          refine lv_goto (tgt := 49) hx hb dX9_sortsRoot_44 (by decide) ?_
          refine va_last hx hb hK.1 hP hD hS 1 1 rfl rfl (vp_in_iff.mpr z3) dX9_sortsRoot_49 (fun H locs hP hD hS => ?_)
          have hP : va_P G vwCl [(q, .inr (9, [.ref q_bends, .ref q_rootAt, .int v_stepAt, .ref q_pile, .ref q_lastAt, .ref q_nextAt, .ref q_hasBend, .int v_justMany, .ref q_isMet, .ref q_queue, .ref q_sums, .ref q_kept, .ref q_isKept, .ref q_copies, .ref q_shelfMany, .ref q_shelfSort, .ref q_shelfHas])), (q_rootAt, .inl (cJ, 4, .inr (.inl (vp_updL v_rootAt x2.toNatClampNeg (v_rootAt x2.toNatClampNeg)))))] H := hP
          have hD : va_D A [(q, .inr (9, [.ref q_bends, .ref q_rootAt, .int v_stepAt, .ref q_pile, .ref q_lastAt, .ref q_nextAt, .ref q_hasBend, .int v_justMany, .ref q_isMet, .ref q_queue, .ref q_sums, .ref q_kept, .ref q_isKept, .ref q_copies, .ref q_shelfMany, .ref q_shelfSort, .ref q_shelfHas])), (q_rootAt, .inl (cJ, 4, .inr (.inl (vp_updL v_rootAt x2.toNatClampNeg (v_rootAt x2.toNatClampNeg)))))] := hD
          refine lv_aload_n hx hb dX9_sortsRoot_50 rfl (lv_at hl 2 rfl) ?_
          refine va_get (D := G) (ci := 9) (v := .ref q_rootAt) (C := RX9) (T := TX9) (N := 17) hx hb hts hiX9_sortsRoot_X9 hown hK.1 hP 0 rfl rfl 1 (by decide) (hts (.fieldLink RX9 13 "PackedBendsModel" "rootAt" "[J") (List.mem_of_getElem? (i := 1) rfl)) (fun _ h9 => h9) rfl dX9_sortsRoot_51 ?_
          refine lv_iload_n hx hb dX9_sortsRoot_54 rfl (lv_at hl 4 rfl) ?_
          refine lv_iconst (v := 1) hx hb dX9_sortsRoot_55 (by decide) ?_
          refine lv_iadd hx hb dX9_sortsRoot_56 ?_
          refine lv_lload_n hx hb dX9_sortsRoot_57 rfl (lv_at hl 1 rfl) ?_
          refine lv_lload hx hb dX9_sortsRoot_58 (lv_at hl 0 rfl) ?_
          refine lc_ge (tgt := 69) hx hb dX9_sortsRoot_60 dX9_sortsRoot_61 (by decide) (fun c7 => ?_) (fun c7 => ?_)
          · have hf := if_s hf c7
            refine lv_lload_n hx hb dX9_sortsRoot_69 rfl (lv_at hl 1 rfl) ?_
            refine va_last hx hb hK.1 hP hD hS 1 1 rfl rfl (vp_in_iff.mpr z4) dX9_sortsRoot_70 (fun H locs hP hD hS => ?_)
            have hP : va_P G vwCl [(q, .inr (9, [.ref q_bends, .ref q_rootAt, .int v_stepAt, .ref q_pile, .ref q_lastAt, .ref q_nextAt, .ref q_hasBend, .int v_justMany, .ref q_isMet, .ref q_queue, .ref q_sums, .ref q_kept, .ref q_isKept, .ref q_copies, .ref q_shelfMany, .ref q_shelfSort, .ref q_shelfHas])), (q_rootAt, .inl (cJ, 4, .inr (.inl (vp_updL (vp_updL v_rootAt x2.toNatClampNeg (v_rootAt x2.toNatClampNeg)) (x2 + (1 : Int32)).toNatClampNeg (v_rootAt x2.toNatClampNeg)))))] H := hP
            have hD : va_D A [(q, .inr (9, [.ref q_bends, .ref q_rootAt, .int v_stepAt, .ref q_pile, .ref q_lastAt, .ref q_nextAt, .ref q_hasBend, .int v_justMany, .ref q_isMet, .ref q_queue, .ref q_sums, .ref q_kept, .ref q_isKept, .ref q_copies, .ref q_shelfMany, .ref q_shelfSort, .ref q_shelfHas])), (q_rootAt, .inl (cJ, 4, .inr (.inl (vp_updL (vp_updL v_rootAt x2.toNatClampNeg (v_rootAt x2.toNatClampNeg)) (x2 + (1 : Int32)).toNatClampNeg (v_rootAt x2.toNatClampNeg)))))] := hD
            refine lv_iinc (v := x2 + (1 : Int32)) (lv' := [(2, .int (x2 + (1 : Int32))), (5, .long (v_rootAt (x2 + (1 : Int32)).toNatClampNeg)), (3, .long (v_rootAt x2.toNatClampNeg)), (0, .ref q), (1, .int x1)]) hx hb dX9_sortsRoot_71 hl (k := 4) rfl rfl (by decide) rfl (fun ls hl => ?_)
            refine lv_goto (tgt := 9) hx hb dX9_sortsRoot_74 (by decide) ?_
            exact ih (x2 + (1 : Int32)) (vp_updL (vp_updL v_rootAt x2.toNatClampNeg (v_rootAt x2.toNatClampNeg)) (x2 + (1 : Int32)).toNatClampNeg (v_rootAt x2.toNatClampNeg)) _ _ _ hf hP hD hS (lv_sub hl [3, 4, 0] rfl)
          · have hf := if_n hf c7
            refine lv_lload hx hb dX9_sortsRoot_64 (lv_at hl 0 rfl) ?_
            refine lv_goto (tgt := 70) hx hb dX9_sortsRoot_66 (by decide) ?_
            refine va_last hx hb hK.1 hP hD hS 1 1 rfl rfl (vp_in_iff.mpr z4) dX9_sortsRoot_70 (fun H locs hP hD hS => ?_)
            have hP : va_P G vwCl [(q, .inr (9, [.ref q_bends, .ref q_rootAt, .int v_stepAt, .ref q_pile, .ref q_lastAt, .ref q_nextAt, .ref q_hasBend, .int v_justMany, .ref q_isMet, .ref q_queue, .ref q_sums, .ref q_kept, .ref q_isKept, .ref q_copies, .ref q_shelfMany, .ref q_shelfSort, .ref q_shelfHas])), (q_rootAt, .inl (cJ, 4, .inr (.inl (vp_updL (vp_updL v_rootAt x2.toNatClampNeg (v_rootAt x2.toNatClampNeg)) (x2 + (1 : Int32)).toNatClampNeg (v_rootAt (x2 + (1 : Int32)).toNatClampNeg)))))] H := hP
            have hD : va_D A [(q, .inr (9, [.ref q_bends, .ref q_rootAt, .int v_stepAt, .ref q_pile, .ref q_lastAt, .ref q_nextAt, .ref q_hasBend, .int v_justMany, .ref q_isMet, .ref q_queue, .ref q_sums, .ref q_kept, .ref q_isKept, .ref q_copies, .ref q_shelfMany, .ref q_shelfSort, .ref q_shelfHas])), (q_rootAt, .inl (cJ, 4, .inr (.inl (vp_updL (vp_updL v_rootAt x2.toNatClampNeg (v_rootAt x2.toNatClampNeg)) (x2 + (1 : Int32)).toNatClampNeg (v_rootAt (x2 + (1 : Int32)).toNatClampNeg)))))] := hD
            refine lv_iinc (v := x2 + (1 : Int32)) (lv' := [(2, .int (x2 + (1 : Int32))), (5, .long (v_rootAt (x2 + (1 : Int32)).toNatClampNeg)), (3, .long (v_rootAt x2.toNatClampNeg)), (0, .ref q), (1, .int x1)]) hx hb dX9_sortsRoot_71 hl (k := 4) rfl rfl (by decide) rfl (fun ls hl => ?_)
            refine lv_goto (tgt := 9) hx hb dX9_sortsRoot_74 (by decide) ?_
            exact ih (x2 + (1 : Int32)) (vp_updL (vp_updL v_rootAt x2.toNatClampNeg (v_rootAt x2.toNatClampNeg)) (x2 + (1 : Int32)).toNatClampNeg (v_rootAt (x2 + (1 : Int32)).toNatClampNeg)) _ _ _ hf hP hD hS (lv_sub hl [3, 4, 0] rfl)
  have hL2 : ∀ (k : Int32 → (Nat → Int64) → Option ((Nat → Int64))), (∀ (x1 : Int32) (v_rootAt : (Nat → Int64)) (H : Heap) (locs : List Loc) (ls : Array Slot), k x1 v_rootAt = some R → va_P G vwCl [(q, .inr (9, [.ref q_bends, .ref q_rootAt, .int v_stepAt, .ref q_pile, .ref q_lastAt, .ref q_nextAt, .ref q_hasBend, .int v_justMany, .ref q_isMet, .ref q_queue, .ref q_sums, .ref q_kept, .ref q_isKept, .ref q_copies, .ref q_shelfMany, .ref q_shelfSort, .ref q_shelfHas])), (q_rootAt, .inl (cJ, 4, .inr (.inl v_rootAt)))] H → va_D A [(q, .inr (9, [.ref q_bends, .ref q_rootAt, .int v_stepAt, .ref q_pile, .ref q_lastAt, .ref q_nextAt, .ref q_hasBend, .int v_justMany, .ref q_isMet, .ref q_queue, .ref q_sums, .ref q_kept, .ref q_isKept, .ref q_copies, .ref q_shelfMany, .ref q_shelfSort, .ref q_shelfHas])), (q_rootAt, .inl (cJ, 4, .inr (.inl v_rootAt)))] → va_S A s.heap H locs → lv_has ls 7 [(0, .ref q), (1, .int x1)] → W p l e rmX9_sortsRoot s m ([.ref q] : List Value).toArray below meth c H locs 0 0 QQ (F0 m 83 ls [])) → ∀ (n : Nat) (x1 : Int32) (v_rootAt : (Nat → Int64)) (H : Heap) (locs : List Loc) (ls : Array Slot), pX9_sortsRoot_L2 n x1 v_rootAt k = some R → va_P G vwCl [(q, .inr (9, [.ref q_bends, .ref q_rootAt, .int v_stepAt, .ref q_pile, .ref q_lastAt, .ref q_nextAt, .ref q_hasBend, .int v_justMany, .ref q_isMet, .ref q_queue, .ref q_sums, .ref q_kept, .ref q_isKept, .ref q_copies, .ref q_shelfMany, .ref q_shelfSort, .ref q_shelfHas])), (q_rootAt, .inl (cJ, 4, .inr (.inl v_rootAt)))] H → va_D A [(q, .inr (9, [.ref q_bends, .ref q_rootAt, .int v_stepAt, .ref q_pile, .ref q_lastAt, .ref q_nextAt, .ref q_hasBend, .int v_justMany, .ref q_isMet, .ref q_queue, .ref q_sums, .ref q_kept, .ref q_isKept, .ref q_copies, .ref q_shelfMany, .ref q_shelfSort, .ref q_shelfHas])), (q_rootAt, .inl (cJ, 4, .inr (.inl v_rootAt)))] → va_S A s.heap H locs → lv_has ls 7 [(0, .ref q), (1, .int x1)] → W p l e rmX9_sortsRoot s m ([.ref q] : List Value).toArray below meth c H locs 0 0 QQ (F0 m 2 ls []) := by
    intro  k hk n
    induction n with
    | zero =>
      intro x1 v_rootAt H locs ls hf
      cases hf
    | succ n ih =>
      intro x1 v_rootAt H locs ls hf hP hD hS hl
      unfold pX9_sortsRoot_L2 at hf
      refine lv_iload_n hx hb dX9_sortsRoot_2 rfl (lv_at hl 1 rfl) ?_
      refine lv_iconst (v := 4) hx hb dX9_sortsRoot_3 (by decide) ?_
      refine lv_icmp_ge (tgt := 83) hx hb dX9_sortsRoot_4 (by decide) (fun c1 => ?_) (fun c1 => ?_)
      · have hf := if_s hf c1
        exact hk x1 v_rootAt _ _ _ hf hP hD hS (lv_sub hl [0, 1] rfl)
      · have hf := if_n hf c1
        refine lv_iconst (v := 0) hx hb dX9_sortsRoot_7 (by decide) ?_
        refine lv_istore_n (lv' := [(2, .int (0 : Int32)), (0, .ref q), (1, .int x1)]) hx hb dX9_sortsRoot_8 rfl hl (by decide) rfl (fun ls hl => ?_)
        refine hL9 x1 _ (fun y2_8 u8_rootAt H locs ls hf hP hD hS hl => ?_) n (0 : Int32) v_rootAt _ _ _ hf hP hD hS (lv_sub hl [1, 2, 0] rfl)
        have hP : va_P G vwCl [(q, .inr (9, [.ref q_bends, .ref q_rootAt, .int v_stepAt, .ref q_pile, .ref q_lastAt, .ref q_nextAt, .ref q_hasBend, .int v_justMany, .ref q_isMet, .ref q_queue, .ref q_sums, .ref q_kept, .ref q_isKept, .ref q_copies, .ref q_shelfMany, .ref q_shelfSort, .ref q_shelfHas])), (q_rootAt, .inl (cJ, 4, .inr (.inl u8_rootAt)))] H := hP
        have hD : va_D A [(q, .inr (9, [.ref q_bends, .ref q_rootAt, .int v_stepAt, .ref q_pile, .ref q_lastAt, .ref q_nextAt, .ref q_hasBend, .int v_justMany, .ref q_isMet, .ref q_queue, .ref q_sums, .ref q_kept, .ref q_isKept, .ref q_copies, .ref q_shelfMany, .ref q_shelfSort, .ref q_shelfHas])), (q_rootAt, .inl (cJ, 4, .inr (.inl u8_rootAt)))] := hD
        refine lv_iinc (v := x1 + (1 : Int32)) (lv' := [(1, .int (x1 + (1 : Int32))), (0, .ref q), (2, .int y2_8)]) hx hb dX9_sortsRoot_77 hl (k := 1) rfl rfl (by decide) rfl (fun ls hl => ?_)
        refine lv_goto (tgt := 2) hx hb dX9_sortsRoot_80 (by decide) ?_
        exact ih (x1 + (1 : Int32)) u8_rootAt _ _ _ hf hP hD hS (lv_sub hl [1, 0] rfl)
  refine lv_iconst (v := 0) hx hb dX9_sortsRoot_0 (by decide) ?_
  refine lv_istore_n (lv' := [(1, .int (0 : Int32)), (0, .ref q)]) hx hb dX9_sortsRoot_1 rfl hl (by decide) rfl (fun ls hl => ?_)
  refine hL2  _ (fun y1_9 u9_rootAt H locs ls hf hP hD hS hl => ?_) n (0 : Int32) v_rootAt _ _ _ hf hP hD hS (lv_sub hl [1, 0] rfl)
  have hP : va_P G vwCl [(q, .inr (9, [.ref q_bends, .ref q_rootAt, .int v_stepAt, .ref q_pile, .ref q_lastAt, .ref q_nextAt, .ref q_hasBend, .int v_justMany, .ref q_isMet, .ref q_queue, .ref q_sums, .ref q_kept, .ref q_isKept, .ref q_copies, .ref q_shelfMany, .ref q_shelfSort, .ref q_shelfHas])), (q_rootAt, .inl (cJ, 4, .inr (.inl u9_rootAt)))] H := hP
  have hD : va_D A [(q, .inr (9, [.ref q_bends, .ref q_rootAt, .int v_stepAt, .ref q_pile, .ref q_lastAt, .ref q_nextAt, .ref q_hasBend, .int v_justMany, .ref q_isMet, .ref q_queue, .ref q_sums, .ref q_kept, .ref q_isKept, .ref q_copies, .ref q_shelfMany, .ref q_shelfSort, .ref q_shelfHas])), (q_rootAt, .inl (cJ, 4, .inr (.inl u9_rootAt)))] := hD
  cases hf
  rw [← hQ]
  exact rt_v hx hb hr hlk hP hD hS dX9_sortsRoot_83
def pX9_findRoot_L2 (v_bends : (Nat → Int64)) : Nat → Int32 → (Nat → Int64) → (Int32 → (Nat → Int64) → Option (Int32 × Int32 × (Nat → Int64))) → Option (Int32 × Int32 × (Nat → Int64))
  | 0, _, _, _ => none
  | n + 1, x2, v_rootAt, k => if (4 : Int32) ≤ x2 then k x2 v_rootAt else ck (ix x2 4) (pX9_findRoot_L2 v_bends n (x2 + (1 : Int32)) (vp_updL v_rootAt x2.toNatClampNeg (v_bends x2.toNatClampNeg)) k)
def pX9_findRoot_L41 (x1 : Int32) : Nat → Int32 → Int32 → Int32 → (Nat → Int64) → (Int32 → Int32 → Int32 → (Nat → Int64) → Option (Int32 × Int32 × (Nat → Int64))) → Option (Int32 × Int32 × (Nat → Int64))
  | 0, _, _, _, _, _ => none
  | n + 1, x2, x3, v_stepAt, v_rootAt, k => Option.bind (pX9_turnedIn v_rootAt x3) (fun r5 => ck (ix x3 4) (if (v_rootAt x3.toNatClampNeg) ≤ r5 then k x2 x3 v_stepAt v_rootAt else Option.bind (pX9_turnedIn v_rootAt x3) (fun r8 => if x2 = x1 then Option.bind (pX9_greatestIn n (vp_updL v_rootAt x3.toNatClampNeg r8)) (fun r11 => pX9_findRoot_L41 x1 n (x2 + (1 : Int32)) r11 (x3 + (1 : Int32)) (vp_updL v_rootAt x3.toNatClampNeg r8) k) else Option.bind (pX9_greatestIn n (vp_updL v_rootAt x3.toNatClampNeg r8)) (fun r10 => pX9_findRoot_L41 x1 n (x2 + (1 : Int32)) r10 v_stepAt (vp_updL v_rootAt x3.toNatClampNeg r8) k))))
def pX9_findRoot (n : Nat) (v_bends : (Nat → Int64)) (v_rootAt : (Nat → Int64)) (p1 : Int32) : Option (Int32 × Int32 × (Nat → Int64)) := pX9_findRoot_L2 v_bends n (0 : Int32) v_rootAt (fun (y2_3 : Int32) (u3_rootAt : (Nat → Int64)) => Option.bind (pX9_greatestIn n u3_rootAt) (fun r4 => pX9_findRoot_L41 p1 n (0 : Int32) r4 (-9 : Int32) u3_rootAt (fun (y2_12 : Int32) (y3_12 : Int32) (u12_stepAt : Int32) (u12_rootAt : (Nat → Int64)) => Option.bind (pX9_sortsRoot n u12_rootAt) (fun r13 => some (y2_12, u12_stepAt, r13)))))
def rmX9_findRoot : Room := { frames := 1, cells := 0, slots := 0, locals := 26 }
theorem hiX9_findRoot_X9 : ∀ w ∈ u_ws RX9 TX9 17, w ∈ wsX9_findRoot := fun _ h => List.mem_cons_of_mem _ (List.mem_append_right _ h)
set_option maxRecDepth 100000 in
set_option maxHeartbeats 4000000 in
theorem kX9_findRoot {l : Launch} {G : va_G} {cI cJ cZ cS cG : ClassId} (n : Nat) (q q_bends q_rootAt q_pile q_lastAt q_nextAt q_hasBend q_isMet q_queue q_sums q_kept q_isKept q_copies q_shelfMany q_shelfSort q_shelfHas : Nat) (v_stepAt : Int32) (v_justMany : Int32) (v_bends : (Nat → Int64)) (v_rootAt : (Nat → Int64)) (p1 : Int32) (R : Int32 × Int32 × (Nat → Int64)) (hf : pX9_findRoot n v_bends v_rootAt p1 = some R) : CTi l yX9_findRoot wsX9_findRoot rmX9_findRoot G cI cJ cZ cS cG [.ref q, .int p1] [(q, .inr (9, [.ref q_bends, .ref q_rootAt, .int v_stepAt, .ref q_pile, .ref q_lastAt, .ref q_nextAt, .ref q_hasBend, .int v_justMany, .ref q_isMet, .ref q_queue, .ref q_sums, .ref q_kept, .ref q_isKept, .ref q_copies, .ref q_shelfMany, .ref q_shelfSort, .ref q_shelfHas])), (q_bends, .inl (cJ, 4, .inr (.inl v_bends))), (q_rootAt, .inl (cJ, 4, .inr (.inl v_rootAt)))] [(q, .inr (9, [.ref q_bends, .ref q_rootAt, .int R.2.1, .ref q_pile, .ref q_lastAt, .ref q_nextAt, .ref q_hasBend, .int v_justMany, .ref q_isMet, .ref q_queue, .ref q_sums, .ref q_kept, .ref q_isKept, .ref q_copies, .ref q_shelfMany, .ref q_shelfSort, .ref q_shelfHas])), (q_bends, .inl (cJ, 4, .inr (.inl v_bends))), (q_rootAt, .inl (cJ, 4, .inr (.inl R.2.2)))] R.1 := by
  refine Met.ofE (Qc := fun A => QRi G A [(q, .inr (9, [.ref q_bends, .ref q_rootAt, .int R.2.1, .ref q_pile, .ref q_lastAt, .ref q_nextAt, .ref q_hasBend, .int v_justMany, .ref q_isMet, .ref q_queue, .ref q_sums, .ref q_kept, .ref q_isKept, .ref q_copies, .ref q_shelfMany, .ref q_shelfSort, .ref q_shelfHas])), (q_bends, .inl (cJ, 4, .inr (.inl v_bends))), (q_rootAt, .inl (cJ, 4, .inr (.inl R.2.2)))] R.1) (cc := cX9_findRoot) (nL := 4) (ret := some .int) (plainFor_of_name (by decide +kernel)) rfl (Nat.le_of_ble_eq_true rfl) ?_
  intro p e s m below meth c A ls hx hb hml hr hlk hts hown hK hA hP hD hS hl
  have hown : s.vm.findClass RX9 = some m.cls := hown
  have hl : lv_has ls 4 [(0, .ref q), (1, .int p1)] := hl
  generalize hQ : MQ below (QRi G A [(q, .inr (9, [.ref q_bends, .ref q_rootAt, .int R.2.1, .ref q_pile, .ref q_lastAt, .ref q_nextAt, .ref q_hasBend, .int v_justMany, .ref q_isMet, .ref q_queue, .ref q_sums, .ref q_kept, .ref q_isKept, .ref q_copies, .ref q_shelfMany, .ref q_shelfSort, .ref q_shelfHas])), (q_bends, .inl (cJ, 4, .inr (.inl v_bends))), (q_rootAt, .inl (cJ, 4, .inr (.inl R.2.2)))] R.1) ([.ref q, .int p1] : List Value).toArray s 0 0 A = QQ
  unfold pX9_findRoot at hf
  have hL2 : ∀ (x1 : Int32) (v_stepAt : Int32) (k : Int32 → (Nat → Int64) → Option (Int32 × Int32 × (Nat → Int64))), (∀ (x2 : Int32) (v_rootAt : (Nat → Int64)) (H : Heap) (locs : List Loc) (ls : Array Slot), k x2 v_rootAt = some R → va_P G vwCl [(q, .inr (9, [.ref q_bends, .ref q_rootAt, .int v_stepAt, .ref q_pile, .ref q_lastAt, .ref q_nextAt, .ref q_hasBend, .int v_justMany, .ref q_isMet, .ref q_queue, .ref q_sums, .ref q_kept, .ref q_isKept, .ref q_copies, .ref q_shelfMany, .ref q_shelfSort, .ref q_shelfHas])), (q_bends, .inl (cJ, 4, .inr (.inl v_bends))), (q_rootAt, .inl (cJ, 4, .inr (.inl v_rootAt)))] H → va_D A [(q, .inr (9, [.ref q_bends, .ref q_rootAt, .int v_stepAt, .ref q_pile, .ref q_lastAt, .ref q_nextAt, .ref q_hasBend, .int v_justMany, .ref q_isMet, .ref q_queue, .ref q_sums, .ref q_kept, .ref q_isKept, .ref q_copies, .ref q_shelfMany, .ref q_shelfSort, .ref q_shelfHas])), (q_bends, .inl (cJ, 4, .inr (.inl v_bends))), (q_rootAt, .inl (cJ, 4, .inr (.inl v_rootAt)))] → va_S A s.heap H locs → lv_has ls 4 [(0, .ref q), (1, .int x1), (2, .int x2)] → W p l e rmX9_findRoot s m ([.ref q, .int p1] : List Value).toArray below meth c H locs 0 0 QQ (F0 m 25 ls [])) → ∀ (n : Nat) (x2 : Int32) (v_rootAt : (Nat → Int64)) (H : Heap) (locs : List Loc) (ls : Array Slot), pX9_findRoot_L2 v_bends n x2 v_rootAt k = some R → va_P G vwCl [(q, .inr (9, [.ref q_bends, .ref q_rootAt, .int v_stepAt, .ref q_pile, .ref q_lastAt, .ref q_nextAt, .ref q_hasBend, .int v_justMany, .ref q_isMet, .ref q_queue, .ref q_sums, .ref q_kept, .ref q_isKept, .ref q_copies, .ref q_shelfMany, .ref q_shelfSort, .ref q_shelfHas])), (q_bends, .inl (cJ, 4, .inr (.inl v_bends))), (q_rootAt, .inl (cJ, 4, .inr (.inl v_rootAt)))] H → va_D A [(q, .inr (9, [.ref q_bends, .ref q_rootAt, .int v_stepAt, .ref q_pile, .ref q_lastAt, .ref q_nextAt, .ref q_hasBend, .int v_justMany, .ref q_isMet, .ref q_queue, .ref q_sums, .ref q_kept, .ref q_isKept, .ref q_copies, .ref q_shelfMany, .ref q_shelfSort, .ref q_shelfHas])), (q_bends, .inl (cJ, 4, .inr (.inl v_bends))), (q_rootAt, .inl (cJ, 4, .inr (.inl v_rootAt)))] → va_S A s.heap H locs → lv_has ls 4 [(0, .ref q), (1, .int x1), (2, .int x2)] → W p l e rmX9_findRoot s m ([.ref q, .int p1] : List Value).toArray below meth c H locs 0 0 QQ (F0 m 2 ls []) := by
    intro x1 v_stepAt k hk n
    induction n with
    | zero =>
      intro x2 v_rootAt H locs ls hf
      cases hf
    | succ n ih =>
      intro x2 v_rootAt H locs ls hf hP hD hS hl
      unfold pX9_findRoot_L2 at hf
      refine lv_iload_n hx hb dX9_findRoot_2 rfl (lv_at hl 2 rfl) ?_
      refine lv_iconst (v := 4) hx hb dX9_findRoot_3 (by decide) ?_
      refine lv_icmp_ge (tgt := 25) hx hb dX9_findRoot_4 (by decide) (fun c1 => ?_) (fun c1 => ?_)
      · have hf := if_s hf c1
        exact hk x2 v_rootAt _ _ _ hf hP hD hS (lv_sub hl [0, 1, 2] rfl)
      · have hf := if_n hf c1
        refine lv_aload_n hx hb dX9_findRoot_7 rfl (lv_at hl 0 rfl) ?_
        refine va_get (D := G) (ci := 9) (v := .ref q_rootAt) (C := RX9) (T := TX9) (N := 17) hx hb hts hiX9_findRoot_X9 hown hK.1 hP 0 rfl rfl 1 (by decide) (hts (.fieldLink RX9 13 "PackedBendsModel" "rootAt" "[J") (List.mem_of_getElem? (i := 1) rfl)) (fun _ h9 => h9) rfl dX9_findRoot_8 ?_
        refine lv_iload_n hx hb dX9_findRoot_11 rfl (lv_at hl 2 rfl) ?_
        refine lv_aload_n hx hb dX9_findRoot_12 rfl (lv_at hl 0 rfl) ?_
        refine va_get (D := G) (ci := 9) (v := .ref q_bends) (C := RX9) (T := TX9) (N := 17) hx hb hts hiX9_findRoot_X9 hown hK.1 hP 0 rfl rfl 0 (by decide) (hts (.fieldLink RX9 7 "PackedBendsModel" "bends" "[J") (List.mem_of_getElem? (i := 2) rfl)) (fun _ h9 => h9) rfl dX9_findRoot_13 ?_
        refine lv_iload_n hx hb dX9_findRoot_16 rfl (lv_at hl 2 rfl) ?_
        obtain ⟨z2, hf⟩ := ck_s hf
        refine va_lald hx hb hK.1 hP 1 1 rfl rfl (vp_in_iff.mpr z2) dX9_findRoot_17 ?_
        refine va_last hx hb hK.1 hP hD hS 2 1 rfl rfl (vp_in_iff.mpr z2) dX9_findRoot_18 (fun H locs hP hD hS => ?_)
        have hP : va_P G vwCl [(q, .inr (9, [.ref q_bends, .ref q_rootAt, .int v_stepAt, .ref q_pile, .ref q_lastAt, .ref q_nextAt, .ref q_hasBend, .int v_justMany, .ref q_isMet, .ref q_queue, .ref q_sums, .ref q_kept, .ref q_isKept, .ref q_copies, .ref q_shelfMany, .ref q_shelfSort, .ref q_shelfHas])), (q_bends, .inl (cJ, 4, .inr (.inl v_bends))), (q_rootAt, .inl (cJ, 4, .inr (.inl (vp_updL v_rootAt x2.toNatClampNeg (v_bends x2.toNatClampNeg)))))] H := hP
        have hD : va_D A [(q, .inr (9, [.ref q_bends, .ref q_rootAt, .int v_stepAt, .ref q_pile, .ref q_lastAt, .ref q_nextAt, .ref q_hasBend, .int v_justMany, .ref q_isMet, .ref q_queue, .ref q_sums, .ref q_kept, .ref q_isKept, .ref q_copies, .ref q_shelfMany, .ref q_shelfSort, .ref q_shelfHas])), (q_bends, .inl (cJ, 4, .inr (.inl v_bends))), (q_rootAt, .inl (cJ, 4, .inr (.inl (vp_updL v_rootAt x2.toNatClampNeg (v_bends x2.toNatClampNeg)))))] := hD
        refine lv_iinc (v := x2 + (1 : Int32)) (lv' := [(2, .int (x2 + (1 : Int32))), (0, .ref q), (1, .int x1)]) hx hb dX9_findRoot_19 hl (k := 2) rfl rfl (by decide) rfl (fun ls hl => ?_)
        refine lv_goto (tgt := 2) hx hb dX9_findRoot_22 (by decide) ?_
        exact ih (x2 + (1 : Int32)) (vp_updL v_rootAt x2.toNatClampNeg (v_bends x2.toNatClampNeg)) _ _ _ hf hP hD hS (lv_sub hl [1, 2, 0] rfl)
  have hL41 : ∀ (x1 : Int32) (k : Int32 → Int32 → Int32 → (Nat → Int64) → Option (Int32 × Int32 × (Nat → Int64))), (∀ (x2 : Int32) (x3 : Int32) (v_stepAt : Int32) (v_rootAt : (Nat → Int64)) (H : Heap) (locs : List Loc) (ls : Array Slot), k x2 x3 v_stepAt v_rootAt = some R → va_P G vwCl [(q, .inr (9, [.ref q_bends, .ref q_rootAt, .int v_stepAt, .ref q_pile, .ref q_lastAt, .ref q_nextAt, .ref q_hasBend, .int v_justMany, .ref q_isMet, .ref q_queue, .ref q_sums, .ref q_kept, .ref q_isKept, .ref q_copies, .ref q_shelfMany, .ref q_shelfSort, .ref q_shelfHas])), (q_bends, .inl (cJ, 4, .inr (.inl v_bends))), (q_rootAt, .inl (cJ, 4, .inr (.inl v_rootAt)))] H → va_D A [(q, .inr (9, [.ref q_bends, .ref q_rootAt, .int v_stepAt, .ref q_pile, .ref q_lastAt, .ref q_nextAt, .ref q_hasBend, .int v_justMany, .ref q_isMet, .ref q_queue, .ref q_sums, .ref q_kept, .ref q_isKept, .ref q_copies, .ref q_shelfMany, .ref q_shelfSort, .ref q_shelfHas])), (q_bends, .inl (cJ, 4, .inr (.inl v_bends))), (q_rootAt, .inl (cJ, 4, .inr (.inl v_rootAt)))] → va_S A s.heap H locs → lv_has ls 4 [(0, .ref q), (1, .int x1), (2, .int x2), (3, .int x3)] → W p l e rmX9_findRoot s m ([.ref q, .int p1] : List Value).toArray below meth c H locs 0 0 QQ (F0 m 106 ls [])) → ∀ (n : Nat) (x2 : Int32) (x3 : Int32) (v_stepAt : Int32) (v_rootAt : (Nat → Int64)) (H : Heap) (locs : List Loc) (ls : Array Slot), pX9_findRoot_L41 x1 n x2 x3 v_stepAt v_rootAt k = some R → va_P G vwCl [(q, .inr (9, [.ref q_bends, .ref q_rootAt, .int v_stepAt, .ref q_pile, .ref q_lastAt, .ref q_nextAt, .ref q_hasBend, .int v_justMany, .ref q_isMet, .ref q_queue, .ref q_sums, .ref q_kept, .ref q_isKept, .ref q_copies, .ref q_shelfMany, .ref q_shelfSort, .ref q_shelfHas])), (q_bends, .inl (cJ, 4, .inr (.inl v_bends))), (q_rootAt, .inl (cJ, 4, .inr (.inl v_rootAt)))] H → va_D A [(q, .inr (9, [.ref q_bends, .ref q_rootAt, .int v_stepAt, .ref q_pile, .ref q_lastAt, .ref q_nextAt, .ref q_hasBend, .int v_justMany, .ref q_isMet, .ref q_queue, .ref q_sums, .ref q_kept, .ref q_isKept, .ref q_copies, .ref q_shelfMany, .ref q_shelfSort, .ref q_shelfHas])), (q_bends, .inl (cJ, 4, .inr (.inl v_bends))), (q_rootAt, .inl (cJ, 4, .inr (.inl v_rootAt)))] → va_S A s.heap H locs → lv_has ls 4 [(0, .ref q), (1, .int x1), (2, .int x2), (3, .int x3)] → W p l e rmX9_findRoot s m ([.ref q, .int p1] : List Value).toArray below meth c H locs 0 0 QQ (F0 m 41 ls []) := by
    intro x1 k hk n
    induction n with
    | zero =>
      intro x2 x3 v_stepAt v_rootAt H locs ls hf
      cases hf
    | succ n ih =>
      intro x2 x3 v_stepAt v_rootAt H locs ls hf hP hD hS hl
      unfold pX9_findRoot_L41 at hf
      refine lv_aload_n hx hb dX9_findRoot_41 rfl (lv_at hl 0 rfl) ?_
      refine va_get (D := G) (ci := 9) (v := .ref q_rootAt) (C := RX9) (T := TX9) (N := 17) hx hb hts hiX9_findRoot_X9 hown hK.1 hP 0 rfl rfl 1 (by decide) (hts (.fieldLink RX9 13 "PackedBendsModel" "rootAt" "[J") (List.mem_of_getElem? (i := 1) rfl)) (fun _ h9 => h9) rfl dX9_findRoot_42 ?_
      refine lv_iload_n hx hb dX9_findRoot_45 rfl (lv_at hl 3 rfl) ?_
      obtain ⟨r5, hc5, hf⟩ := ob_s hf
      refine bk_l (wc := [(q_rootAt, .inl (cJ, 4, .inr (.inl v_rootAt)))]) (wc2 := [(q_rootAt, .inl (cJ, 4, .inr (.inl v_rootAt)))]) (wr := [(q, .inr (9, [.ref q_bends, .ref q_rootAt, .int v_stepAt, .ref q_pile, .ref q_lastAt, .ref q_nextAt, .ref q_hasBend, .int v_justMany, .ref q_isMet, .ref q_queue, .ref q_sums, .ref q_kept, .ref q_isKept, .ref q_copies, .ref q_shelfMany, .ref q_shelfSort, .ref q_shelfHas])), (q_bends, .inl (cJ, 4, .inr (.inl v_bends)))]) (ws2 := [(q, .inr (9, [.ref q_bends, .ref q_rootAt, .int v_stepAt, .ref q_pile, .ref q_lastAt, .ref q_nextAt, .ref q_hasBend, .int v_justMany, .ref q_isMet, .ref q_queue, .ref q_sums, .ref q_kept, .ref q_isKept, .ref q_copies, .ref q_shelfMany, .ref q_shelfSort, .ref q_shelfHas])), (q_bends, .inl (cJ, 4, .inr (.inl v_bends))), (q_rootAt, .inl (cJ, 4, .inr (.inl v_rootAt)))]) (r := r5) (va_runS (As := [.ref q_rootAt, .int x3]) (rest := []) ⟨hx, hb, hml, hown, hts⟩ (kX9_turnedIn (l := l) (G := G) (cI := cI) (cJ := cJ) (cZ := cZ) (cS := cS) (cG := cG) q_rootAt v_rootAt x3 _ hc5 _) (va_cwS 2 hts gX9_findRoot_X9_turnedIn rfl rfl rfl (by decide +kernel) ⟨Nat.le_of_ble_eq_true rfl, Nat.le_of_ble_eq_true rfl⟩) (cut_S hK hP hD [2] rfl rfl) rfl rfl hl.1 rfl (lv_room (Nat.le_of_ble_eq_true rfl)) dX9_findRoot_46 ⟨Nat.zero_le _, Nat.zero_le _⟩) hP hD hS hA [2] [0, 1] [0, 1, 2] rfl rfl rfl rfl rfl rfl (fun H locs hP hD hS => ?_)
      refine lv_aload_n hx hb dX9_findRoot_49 rfl (lv_at hl 0 rfl) ?_
      refine va_get (D := G) (ci := 9) (v := .ref q_rootAt) (C := RX9) (T := TX9) (N := 17) hx hb hts hiX9_findRoot_X9 hown hK.1 hP 0 rfl rfl 1 (by decide) (hts (.fieldLink RX9 13 "PackedBendsModel" "rootAt" "[J") (List.mem_of_getElem? (i := 1) rfl)) (fun _ h9 => h9) rfl dX9_findRoot_50 ?_
      refine lv_iload_n hx hb dX9_findRoot_53 rfl (lv_at hl 3 rfl) ?_
      obtain ⟨z6, hf⟩ := ck_s hf
      refine va_lald hx hb hK.1 hP 2 1 rfl rfl (vp_in_iff.mpr z6) dX9_findRoot_54 ?_
      refine lc_ge (tgt := 106) hx hb dX9_findRoot_55 dX9_findRoot_56 (by decide) (fun c7 => ?_) (fun c7 => ?_)
      · have hf := if_s hf c7
        exact hk x2 x3 v_stepAt v_rootAt _ _ _ hf hP hD hS (lv_sub hl [0, 1, 2, 3] rfl)
      · have hf := if_n hf c7
        refine lv_aload_n hx hb dX9_findRoot_59 rfl (lv_at hl 0 rfl) ?_
        refine va_get (D := G) (ci := 9) (v := .ref q_rootAt) (C := RX9) (T := TX9) (N := 17) hx hb hts hiX9_findRoot_X9 hown hK.1 hP 0 rfl rfl 1 (by decide) (hts (.fieldLink RX9 13 "PackedBendsModel" "rootAt" "[J") (List.mem_of_getElem? (i := 1) rfl)) (fun _ h9 => h9) rfl dX9_findRoot_60 ?_
        refine lv_iload_n hx hb dX9_findRoot_63 rfl (lv_at hl 3 rfl) ?_
        refine lv_aload_n hx hb dX9_findRoot_64 rfl (lv_at hl 0 rfl) ?_
        refine va_get (D := G) (ci := 9) (v := .ref q_rootAt) (C := RX9) (T := TX9) (N := 17) hx hb hts hiX9_findRoot_X9 hown hK.1 hP 0 rfl rfl 1 (by decide) (hts (.fieldLink RX9 13 "PackedBendsModel" "rootAt" "[J") (List.mem_of_getElem? (i := 1) rfl)) (fun _ h9 => h9) rfl dX9_findRoot_65 ?_
        refine lv_iload_n hx hb dX9_findRoot_68 rfl (lv_at hl 3 rfl) ?_
        obtain ⟨r8, hc8, hf⟩ := ob_s hf
        refine bk_l (wc := [(q_rootAt, .inl (cJ, 4, .inr (.inl v_rootAt)))]) (wc2 := [(q_rootAt, .inl (cJ, 4, .inr (.inl v_rootAt)))]) (wr := [(q, .inr (9, [.ref q_bends, .ref q_rootAt, .int v_stepAt, .ref q_pile, .ref q_lastAt, .ref q_nextAt, .ref q_hasBend, .int v_justMany, .ref q_isMet, .ref q_queue, .ref q_sums, .ref q_kept, .ref q_isKept, .ref q_copies, .ref q_shelfMany, .ref q_shelfSort, .ref q_shelfHas])), (q_bends, .inl (cJ, 4, .inr (.inl v_bends)))]) (ws2 := [(q, .inr (9, [.ref q_bends, .ref q_rootAt, .int v_stepAt, .ref q_pile, .ref q_lastAt, .ref q_nextAt, .ref q_hasBend, .int v_justMany, .ref q_isMet, .ref q_queue, .ref q_sums, .ref q_kept, .ref q_isKept, .ref q_copies, .ref q_shelfMany, .ref q_shelfSort, .ref q_shelfHas])), (q_bends, .inl (cJ, 4, .inr (.inl v_bends))), (q_rootAt, .inl (cJ, 4, .inr (.inl v_rootAt)))]) (r := r8) (va_runS (As := [.ref q_rootAt, .int x3]) (rest := [.int x3, .ref q_rootAt]) ⟨hx, hb, hml, hown, hts⟩ (kX9_turnedIn (l := l) (G := G) (cI := cI) (cJ := cJ) (cZ := cZ) (cS := cS) (cG := cG) q_rootAt v_rootAt x3 _ hc8 _) (va_cwS 2 hts gX9_findRoot_X9_turnedIn rfl rfl rfl (by decide +kernel) ⟨Nat.le_of_ble_eq_true rfl, Nat.le_of_ble_eq_true rfl⟩) (cut_S hK hP hD [2] rfl rfl) rfl rfl hl.1 rfl (lv_room (Nat.le_of_ble_eq_true rfl)) dX9_findRoot_69 ⟨Nat.zero_le _, Nat.zero_le _⟩) hP hD hS hA [2] [0, 1] [0, 1, 2] rfl rfl rfl rfl rfl rfl (fun H locs hP hD hS => ?_)
        refine va_last hx hb hK.1 hP hD hS 2 1 rfl rfl (vp_in_iff.mpr z6) dX9_findRoot_72 (fun H locs hP hD hS => ?_)
        have hP : va_P G vwCl [(q, .inr (9, [.ref q_bends, .ref q_rootAt, .int v_stepAt, .ref q_pile, .ref q_lastAt, .ref q_nextAt, .ref q_hasBend, .int v_justMany, .ref q_isMet, .ref q_queue, .ref q_sums, .ref q_kept, .ref q_isKept, .ref q_copies, .ref q_shelfMany, .ref q_shelfSort, .ref q_shelfHas])), (q_bends, .inl (cJ, 4, .inr (.inl v_bends))), (q_rootAt, .inl (cJ, 4, .inr (.inl (vp_updL v_rootAt x3.toNatClampNeg r8))))] H := hP
        have hD : va_D A [(q, .inr (9, [.ref q_bends, .ref q_rootAt, .int v_stepAt, .ref q_pile, .ref q_lastAt, .ref q_nextAt, .ref q_hasBend, .int v_justMany, .ref q_isMet, .ref q_queue, .ref q_sums, .ref q_kept, .ref q_isKept, .ref q_copies, .ref q_shelfMany, .ref q_shelfSort, .ref q_shelfHas])), (q_bends, .inl (cJ, 4, .inr (.inl v_bends))), (q_rootAt, .inl (cJ, 4, .inr (.inl (vp_updL v_rootAt x3.toNatClampNeg r8))))] := hD
        refine lv_aload_n hx hb dX9_findRoot_73 rfl (lv_at hl 0 rfl) ?_
        refine lv_iload_n hx hb dX9_findRoot_74 rfl (lv_at hl 2 rfl) ?_
        refine lv_iload_n hx hb dX9_findRoot_75 rfl (lv_at hl 1 rfl) ?_
        refine lv_icmp_ne (tgt := 85) hx hb dX9_findRoot_76 (by decide) (fun c9 => ?_) (fun c9 => ?_)
        · have hf := if_n hf c9
          refine lv_aload_n hx hb dX9_findRoot_85 rfl (lv_at hl 0 rfl) ?_
          refine va_get (D := G) (ci := 9) (v := .int v_stepAt) (C := RX9) (T := TX9) (N := 17) hx hb hts hiX9_findRoot_X9 hown hK.1 hP 0 rfl rfl 2 (by decide) (hts (.fieldLink RX9 90 "PackedBendsModel" "stepAt" "I") (List.mem_of_getElem? (i := 3) rfl)) (fun _ h9 => h9) rfl dX9_findRoot_86 ?_
          refine va_put (D := G) (ci := 9) (v := .int v_stepAt) (ty := .int) (C := RX9) (T := TX9) (N := 17) hx hb hts hiX9_findRoot_X9 tyX9 tyX9_ok nmX9 hown hK.1 hP hD hS 0 rfl rfl 2 (by decide) (hts (.fieldLink RX9 90 "PackedBendsModel" "stepAt" "I") (List.mem_of_getElem? (i := 3) rfl)) (fun _ h9 => h9) rfl (by decide +kernel) rfl rfl (Nat.le_of_ble_eq_true rfl) dX9_findRoot_89 (fun H locs hP hD hS => ?_)
          have hP : va_P G vwCl [(q, .inr (9, [.ref q_bends, .ref q_rootAt, .int v_stepAt, .ref q_pile, .ref q_lastAt, .ref q_nextAt, .ref q_hasBend, .int v_justMany, .ref q_isMet, .ref q_queue, .ref q_sums, .ref q_kept, .ref q_isKept, .ref q_copies, .ref q_shelfMany, .ref q_shelfSort, .ref q_shelfHas])), (q_bends, .inl (cJ, 4, .inr (.inl v_bends))), (q_rootAt, .inl (cJ, 4, .inr (.inl (vp_updL v_rootAt x3.toNatClampNeg r8))))] H := hP
          have hD : va_D A [(q, .inr (9, [.ref q_bends, .ref q_rootAt, .int v_stepAt, .ref q_pile, .ref q_lastAt, .ref q_nextAt, .ref q_hasBend, .int v_justMany, .ref q_isMet, .ref q_queue, .ref q_sums, .ref q_kept, .ref q_isKept, .ref q_copies, .ref q_shelfMany, .ref q_shelfSort, .ref q_shelfHas])), (q_bends, .inl (cJ, 4, .inr (.inl v_bends))), (q_rootAt, .inl (cJ, 4, .inr (.inl (vp_updL v_rootAt x3.toNatClampNeg r8))))] := hD
          refine lv_iinc (v := x2 + (1 : Int32)) (lv' := [(2, .int (x2 + (1 : Int32))), (0, .ref q), (1, .int x1), (3, .int x3)]) hx hb dX9_findRoot_92 hl (k := 2) rfl rfl (by decide) rfl (fun ls hl => ?_)
          refine lv_aload_n hx hb dX9_findRoot_95 rfl (lv_at hl 1 rfl) ?_
          refine va_get (D := G) (ci := 9) (v := .ref q_rootAt) (C := RX9) (T := TX9) (N := 17) hx hb hts hiX9_findRoot_X9 hown hK.1 hP 0 rfl rfl 1 (by decide) (hts (.fieldLink RX9 13 "PackedBendsModel" "rootAt" "[J") (List.mem_of_getElem? (i := 1) rfl)) (fun _ h9 => h9) rfl dX9_findRoot_96 ?_
          obtain ⟨r10, hc10, hf⟩ := ob_s hf
          refine bk_i (wc := [(q_rootAt, .inl (cJ, 4, .inr (.inl (vp_updL v_rootAt x3.toNatClampNeg r8))))]) (wc2 := [(q_rootAt, .inl (cJ, 4, .inr (.inl (vp_updL v_rootAt x3.toNatClampNeg r8))))]) (wr := [(q, .inr (9, [.ref q_bends, .ref q_rootAt, .int v_stepAt, .ref q_pile, .ref q_lastAt, .ref q_nextAt, .ref q_hasBend, .int v_justMany, .ref q_isMet, .ref q_queue, .ref q_sums, .ref q_kept, .ref q_isKept, .ref q_copies, .ref q_shelfMany, .ref q_shelfSort, .ref q_shelfHas])), (q_bends, .inl (cJ, 4, .inr (.inl v_bends)))]) (ws2 := [(q, .inr (9, [.ref q_bends, .ref q_rootAt, .int v_stepAt, .ref q_pile, .ref q_lastAt, .ref q_nextAt, .ref q_hasBend, .int v_justMany, .ref q_isMet, .ref q_queue, .ref q_sums, .ref q_kept, .ref q_isKept, .ref q_copies, .ref q_shelfMany, .ref q_shelfSort, .ref q_shelfHas])), (q_bends, .inl (cJ, 4, .inr (.inl v_bends))), (q_rootAt, .inl (cJ, 4, .inr (.inl (vp_updL v_rootAt x3.toNatClampNeg r8))))]) (r := r10) (va_runS (As := [.ref q_rootAt]) (rest := []) ⟨hx, hb, hml, hown, hts⟩ (kX9_greatestIn (l := l) (G := G) (cI := cI) (cJ := cJ) (cZ := cZ) (cS := cS) (cG := cG) n q_rootAt (vp_updL v_rootAt x3.toNatClampNeg r8) _ hc10 _) (va_cwS 1 hts gX9_findRoot_X9_greatestIn rfl rfl rfl (by decide +kernel) ⟨Nat.le_of_ble_eq_true rfl, Nat.le_of_ble_eq_true rfl⟩) (cut_S hK hP hD [2] rfl rfl) rfl rfl hl.1 rfl (lv_room (Nat.le_of_ble_eq_true rfl)) dX9_findRoot_99 ⟨Nat.zero_le _, Nat.zero_le _⟩) hP hD hS hA [2] [0, 1] [0, 1, 2] rfl rfl rfl rfl rfl rfl (fun H locs hP hD hS => ?_)
          refine lv_istore_n (lv' := [(3, .int r10), (2, .int (x2 + (1 : Int32))), (0, .ref q), (1, .int x1)]) hx hb dX9_findRoot_102 rfl hl (by decide) rfl (fun ls hl => ?_)
          refine lv_goto (tgt := 41) hx hb dX9_findRoot_103 (by decide) ?_
          exact ih (x2 + (1 : Int32)) r10 v_stepAt (vp_updL v_rootAt x3.toNatClampNeg r8) _ _ _ hf hP hD hS (lv_sub hl [2, 3, 1, 0] rfl)
        · have hf := if_s hf c9
          refine lv_iload_n hx hb dX9_findRoot_79 rfl (lv_at hl 3 rfl) ?_
          refine lv_iconst (v := 1) hx hb dX9_findRoot_80 (by decide) ?_
          refine lv_iadd hx hb dX9_findRoot_81 ?_
          refine lv_goto (tgt := 89) hx hb dX9_findRoot_82 (by decide) ?_
          refine va_put (D := G) (ci := 9) (v := .int (x3 + (1 : Int32))) (ty := .int) (C := RX9) (T := TX9) (N := 17) hx hb hts hiX9_findRoot_X9 tyX9 tyX9_ok nmX9 hown hK.1 hP hD hS 0 rfl rfl 2 (by decide) (hts (.fieldLink RX9 90 "PackedBendsModel" "stepAt" "I") (List.mem_of_getElem? (i := 3) rfl)) (fun _ h9 => h9) rfl (by decide +kernel) rfl rfl (Nat.le_of_ble_eq_true rfl) dX9_findRoot_89 (fun H locs hP hD hS => ?_)
          have hP : va_P G vwCl [(q, .inr (9, [.ref q_bends, .ref q_rootAt, .int (x3 + (1 : Int32)), .ref q_pile, .ref q_lastAt, .ref q_nextAt, .ref q_hasBend, .int v_justMany, .ref q_isMet, .ref q_queue, .ref q_sums, .ref q_kept, .ref q_isKept, .ref q_copies, .ref q_shelfMany, .ref q_shelfSort, .ref q_shelfHas])), (q_bends, .inl (cJ, 4, .inr (.inl v_bends))), (q_rootAt, .inl (cJ, 4, .inr (.inl (vp_updL v_rootAt x3.toNatClampNeg r8))))] H := hP
          have hD : va_D A [(q, .inr (9, [.ref q_bends, .ref q_rootAt, .int (x3 + (1 : Int32)), .ref q_pile, .ref q_lastAt, .ref q_nextAt, .ref q_hasBend, .int v_justMany, .ref q_isMet, .ref q_queue, .ref q_sums, .ref q_kept, .ref q_isKept, .ref q_copies, .ref q_shelfMany, .ref q_shelfSort, .ref q_shelfHas])), (q_bends, .inl (cJ, 4, .inr (.inl v_bends))), (q_rootAt, .inl (cJ, 4, .inr (.inl (vp_updL v_rootAt x3.toNatClampNeg r8))))] := hD
          refine lv_iinc (v := x2 + (1 : Int32)) (lv' := [(2, .int (x2 + (1 : Int32))), (0, .ref q), (1, .int x1), (3, .int x3)]) hx hb dX9_findRoot_92 hl (k := 2) rfl rfl (by decide) rfl (fun ls hl => ?_)
          refine lv_aload_n hx hb dX9_findRoot_95 rfl (lv_at hl 1 rfl) ?_
          refine va_get (D := G) (ci := 9) (v := .ref q_rootAt) (C := RX9) (T := TX9) (N := 17) hx hb hts hiX9_findRoot_X9 hown hK.1 hP 0 rfl rfl 1 (by decide) (hts (.fieldLink RX9 13 "PackedBendsModel" "rootAt" "[J") (List.mem_of_getElem? (i := 1) rfl)) (fun _ h9 => h9) rfl dX9_findRoot_96 ?_
          obtain ⟨r11, hc11, hf⟩ := ob_s hf
          refine bk_i (wc := [(q_rootAt, .inl (cJ, 4, .inr (.inl (vp_updL v_rootAt x3.toNatClampNeg r8))))]) (wc2 := [(q_rootAt, .inl (cJ, 4, .inr (.inl (vp_updL v_rootAt x3.toNatClampNeg r8))))]) (wr := [(q, .inr (9, [.ref q_bends, .ref q_rootAt, .int (x3 + (1 : Int32)), .ref q_pile, .ref q_lastAt, .ref q_nextAt, .ref q_hasBend, .int v_justMany, .ref q_isMet, .ref q_queue, .ref q_sums, .ref q_kept, .ref q_isKept, .ref q_copies, .ref q_shelfMany, .ref q_shelfSort, .ref q_shelfHas])), (q_bends, .inl (cJ, 4, .inr (.inl v_bends)))]) (ws2 := [(q, .inr (9, [.ref q_bends, .ref q_rootAt, .int (x3 + (1 : Int32)), .ref q_pile, .ref q_lastAt, .ref q_nextAt, .ref q_hasBend, .int v_justMany, .ref q_isMet, .ref q_queue, .ref q_sums, .ref q_kept, .ref q_isKept, .ref q_copies, .ref q_shelfMany, .ref q_shelfSort, .ref q_shelfHas])), (q_bends, .inl (cJ, 4, .inr (.inl v_bends))), (q_rootAt, .inl (cJ, 4, .inr (.inl (vp_updL v_rootAt x3.toNatClampNeg r8))))]) (r := r11) (va_runS (As := [.ref q_rootAt]) (rest := []) ⟨hx, hb, hml, hown, hts⟩ (kX9_greatestIn (l := l) (G := G) (cI := cI) (cJ := cJ) (cZ := cZ) (cS := cS) (cG := cG) n q_rootAt (vp_updL v_rootAt x3.toNatClampNeg r8) _ hc11 _) (va_cwS 1 hts gX9_findRoot_X9_greatestIn rfl rfl rfl (by decide +kernel) ⟨Nat.le_of_ble_eq_true rfl, Nat.le_of_ble_eq_true rfl⟩) (cut_S hK hP hD [2] rfl rfl) rfl rfl hl.1 rfl (lv_room (Nat.le_of_ble_eq_true rfl)) dX9_findRoot_99 ⟨Nat.zero_le _, Nat.zero_le _⟩) hP hD hS hA [2] [0, 1] [0, 1, 2] rfl rfl rfl rfl rfl rfl (fun H locs hP hD hS => ?_)
          refine lv_istore_n (lv' := [(3, .int r11), (2, .int (x2 + (1 : Int32))), (0, .ref q), (1, .int x1)]) hx hb dX9_findRoot_102 rfl hl (by decide) rfl (fun ls hl => ?_)
          refine lv_goto (tgt := 41) hx hb dX9_findRoot_103 (by decide) ?_
          exact ih (x2 + (1 : Int32)) r11 (x3 + (1 : Int32)) (vp_updL v_rootAt x3.toNatClampNeg r8) _ _ _ hf hP hD hS (lv_sub hl [2, 3, 1, 0] rfl)
  refine lv_iconst (v := 0) hx hb dX9_findRoot_0 (by decide) ?_
  refine lv_istore_n (lv' := [(2, .int (0 : Int32)), (0, .ref q), (1, .int p1)]) hx hb dX9_findRoot_1 rfl hl (by decide) rfl (fun ls hl => ?_)
  refine hL2 p1 v_stepAt _ (fun y2_3 u3_rootAt H locs ls hf hP hD hS hl => ?_) n (0 : Int32) v_rootAt _ _ _ hf hP hD hS (lv_sub hl [1, 2, 0] rfl)
  have hP : va_P G vwCl [(q, .inr (9, [.ref q_bends, .ref q_rootAt, .int v_stepAt, .ref q_pile, .ref q_lastAt, .ref q_nextAt, .ref q_hasBend, .int v_justMany, .ref q_isMet, .ref q_queue, .ref q_sums, .ref q_kept, .ref q_isKept, .ref q_copies, .ref q_shelfMany, .ref q_shelfSort, .ref q_shelfHas])), (q_bends, .inl (cJ, 4, .inr (.inl v_bends))), (q_rootAt, .inl (cJ, 4, .inr (.inl u3_rootAt)))] H := hP
  have hD : va_D A [(q, .inr (9, [.ref q_bends, .ref q_rootAt, .int v_stepAt, .ref q_pile, .ref q_lastAt, .ref q_nextAt, .ref q_hasBend, .int v_justMany, .ref q_isMet, .ref q_queue, .ref q_sums, .ref q_kept, .ref q_isKept, .ref q_copies, .ref q_shelfMany, .ref q_shelfSort, .ref q_shelfHas])), (q_bends, .inl (cJ, 4, .inr (.inl v_bends))), (q_rootAt, .inl (cJ, 4, .inr (.inl u3_rootAt)))] := hD
  refine lv_aload_n hx hb dX9_findRoot_25 rfl (lv_at hl 0 rfl) ?_
  refine lv_bipush (v := (-9)) hx hb dX9_findRoot_26 (by decide) ?_
  refine va_put (D := G) (ci := 9) (v := .int (-9 : Int32)) (ty := .int) (C := RX9) (T := TX9) (N := 17) hx hb hts hiX9_findRoot_X9 tyX9 tyX9_ok nmX9 hown hK.1 hP hD hS 0 rfl rfl 2 (by decide) (hts (.fieldLink RX9 90 "PackedBendsModel" "stepAt" "I") (List.mem_of_getElem? (i := 3) rfl)) (fun _ h9 => h9) rfl (by decide +kernel) rfl rfl (Nat.le_of_ble_eq_true rfl) dX9_findRoot_28 (fun H locs hP hD hS => ?_)
  have hP : va_P G vwCl [(q, .inr (9, [.ref q_bends, .ref q_rootAt, .int (-9 : Int32), .ref q_pile, .ref q_lastAt, .ref q_nextAt, .ref q_hasBend, .int v_justMany, .ref q_isMet, .ref q_queue, .ref q_sums, .ref q_kept, .ref q_isKept, .ref q_copies, .ref q_shelfMany, .ref q_shelfSort, .ref q_shelfHas])), (q_bends, .inl (cJ, 4, .inr (.inl v_bends))), (q_rootAt, .inl (cJ, 4, .inr (.inl u3_rootAt)))] H := hP
  have hD : va_D A [(q, .inr (9, [.ref q_bends, .ref q_rootAt, .int (-9 : Int32), .ref q_pile, .ref q_lastAt, .ref q_nextAt, .ref q_hasBend, .int v_justMany, .ref q_isMet, .ref q_queue, .ref q_sums, .ref q_kept, .ref q_isKept, .ref q_copies, .ref q_shelfMany, .ref q_shelfSort, .ref q_shelfHas])), (q_bends, .inl (cJ, 4, .inr (.inl v_bends))), (q_rootAt, .inl (cJ, 4, .inr (.inl u3_rootAt)))] := hD
  refine lv_iconst (v := 0) hx hb dX9_findRoot_31 (by decide) ?_
  refine lv_istore_n (lv' := [(2, .int (0 : Int32)), (0, .ref q), (1, .int p1)]) hx hb dX9_findRoot_32 rfl hl (by decide) rfl (fun ls hl => ?_)
  refine lv_aload_n hx hb dX9_findRoot_33 rfl (lv_at hl 1 rfl) ?_
  refine va_get (D := G) (ci := 9) (v := .ref q_rootAt) (C := RX9) (T := TX9) (N := 17) hx hb hts hiX9_findRoot_X9 hown hK.1 hP 0 rfl rfl 1 (by decide) (hts (.fieldLink RX9 13 "PackedBendsModel" "rootAt" "[J") (List.mem_of_getElem? (i := 1) rfl)) (fun _ h9 => h9) rfl dX9_findRoot_34 ?_
  obtain ⟨r4, hc4, hf⟩ := ob_s hf
  refine bk_i (wc := [(q_rootAt, .inl (cJ, 4, .inr (.inl u3_rootAt)))]) (wc2 := [(q_rootAt, .inl (cJ, 4, .inr (.inl u3_rootAt)))]) (wr := [(q, .inr (9, [.ref q_bends, .ref q_rootAt, .int (-9 : Int32), .ref q_pile, .ref q_lastAt, .ref q_nextAt, .ref q_hasBend, .int v_justMany, .ref q_isMet, .ref q_queue, .ref q_sums, .ref q_kept, .ref q_isKept, .ref q_copies, .ref q_shelfMany, .ref q_shelfSort, .ref q_shelfHas])), (q_bends, .inl (cJ, 4, .inr (.inl v_bends)))]) (ws2 := [(q, .inr (9, [.ref q_bends, .ref q_rootAt, .int (-9 : Int32), .ref q_pile, .ref q_lastAt, .ref q_nextAt, .ref q_hasBend, .int v_justMany, .ref q_isMet, .ref q_queue, .ref q_sums, .ref q_kept, .ref q_isKept, .ref q_copies, .ref q_shelfMany, .ref q_shelfSort, .ref q_shelfHas])), (q_bends, .inl (cJ, 4, .inr (.inl v_bends))), (q_rootAt, .inl (cJ, 4, .inr (.inl u3_rootAt)))]) (r := r4) (va_runS (As := [.ref q_rootAt]) (rest := []) ⟨hx, hb, hml, hown, hts⟩ (kX9_greatestIn (l := l) (G := G) (cI := cI) (cJ := cJ) (cZ := cZ) (cS := cS) (cG := cG) n q_rootAt u3_rootAt _ hc4 _) (va_cwS 1 hts gX9_findRoot_X9_greatestIn rfl rfl rfl (by decide +kernel) ⟨Nat.le_of_ble_eq_true rfl, Nat.le_of_ble_eq_true rfl⟩) (cut_S hK hP hD [2] rfl rfl) rfl rfl hl.1 rfl (lv_room (Nat.le_of_ble_eq_true rfl)) dX9_findRoot_37 ⟨Nat.zero_le _, Nat.zero_le _⟩) hP hD hS hA [2] [0, 1] [0, 1, 2] rfl rfl rfl rfl rfl rfl (fun H locs hP hD hS => ?_)
  refine lv_istore_n (lv' := [(3, .int r4), (2, .int (0 : Int32)), (0, .ref q), (1, .int p1)]) hx hb dX9_findRoot_40 rfl hl (by decide) rfl (fun ls hl => ?_)
  refine hL41 p1 _ (fun y2_12 y3_12 u12_stepAt u12_rootAt H locs ls hf hP hD hS hl => ?_) n (0 : Int32) r4 (-9 : Int32) u3_rootAt _ _ _ hf hP hD hS (lv_sub hl [2, 3, 1, 0] rfl)
  have hP : va_P G vwCl [(q, .inr (9, [.ref q_bends, .ref q_rootAt, .int u12_stepAt, .ref q_pile, .ref q_lastAt, .ref q_nextAt, .ref q_hasBend, .int v_justMany, .ref q_isMet, .ref q_queue, .ref q_sums, .ref q_kept, .ref q_isKept, .ref q_copies, .ref q_shelfMany, .ref q_shelfSort, .ref q_shelfHas])), (q_bends, .inl (cJ, 4, .inr (.inl v_bends))), (q_rootAt, .inl (cJ, 4, .inr (.inl u12_rootAt)))] H := hP
  have hD : va_D A [(q, .inr (9, [.ref q_bends, .ref q_rootAt, .int u12_stepAt, .ref q_pile, .ref q_lastAt, .ref q_nextAt, .ref q_hasBend, .int v_justMany, .ref q_isMet, .ref q_queue, .ref q_sums, .ref q_kept, .ref q_isKept, .ref q_copies, .ref q_shelfMany, .ref q_shelfSort, .ref q_shelfHas])), (q_bends, .inl (cJ, 4, .inr (.inl v_bends))), (q_rootAt, .inl (cJ, 4, .inr (.inl u12_rootAt)))] := hD
  refine lv_aload_n hx hb dX9_findRoot_106 rfl (lv_at hl 0 rfl) ?_
  obtain ⟨r13, hc13, hf⟩ := ob_s hf
  refine bk_v (wc := [(q, .inr (9, [.ref q_bends, .ref q_rootAt, .int u12_stepAt, .ref q_pile, .ref q_lastAt, .ref q_nextAt, .ref q_hasBend, .int v_justMany, .ref q_isMet, .ref q_queue, .ref q_sums, .ref q_kept, .ref q_isKept, .ref q_copies, .ref q_shelfMany, .ref q_shelfSort, .ref q_shelfHas])), (q_rootAt, .inl (cJ, 4, .inr (.inl u12_rootAt)))]) (wc2 := [(q, .inr (9, [.ref q_bends, .ref q_rootAt, .int u12_stepAt, .ref q_pile, .ref q_lastAt, .ref q_nextAt, .ref q_hasBend, .int v_justMany, .ref q_isMet, .ref q_queue, .ref q_sums, .ref q_kept, .ref q_isKept, .ref q_copies, .ref q_shelfMany, .ref q_shelfSort, .ref q_shelfHas])), (q_rootAt, .inl (cJ, 4, .inr (.inl r13)))]) (wr := [(q_bends, .inl (cJ, 4, .inr (.inl v_bends)))]) (ws2 := [(q, .inr (9, [.ref q_bends, .ref q_rootAt, .int u12_stepAt, .ref q_pile, .ref q_lastAt, .ref q_nextAt, .ref q_hasBend, .int v_justMany, .ref q_isMet, .ref q_queue, .ref q_sums, .ref q_kept, .ref q_isKept, .ref q_copies, .ref q_shelfMany, .ref q_shelfSort, .ref q_shelfHas])), (q_bends, .inl (cJ, 4, .inr (.inl v_bends))), (q_rootAt, .inl (cJ, 4, .inr (.inl r13)))]) (va_runV (As := []) (rest := []) ⟨hx, hb, hml, hown, hts⟩ (kX9_sortsRoot (l := l) (G := G) (cI := cI) (cJ := cJ) (cZ := cZ) (cS := cS) (cG := cG) n q q_bends q_rootAt q_pile q_lastAt q_nextAt q_hasBend q_isMet q_queue q_sums q_kept q_isKept q_copies q_shelfMany q_shelfSort q_shelfHas u12_stepAt v_justMany u12_rootAt _ hc13 _) (cwV 0 hts gX9_findRoot_X9_sortsRoot rfl rfl rfl (by decide +kernel) ⟨Nat.le_of_ble_eq_true rfl, Nat.le_of_ble_eq_true rfl⟩) (cut_V hK hP hD [0, 2] rfl rfl (ci := 9) (q0 := 0) rfl rfl) rfl rfl hl.1 rfl (lv_room (Nat.le_of_ble_eq_true rfl)) dX9_findRoot_107 ⟨Nat.zero_le _, Nat.zero_le _⟩) hP hD hS hA [0, 2] [1] [1, 0, 2] rfl rfl rfl rfl rfl rfl (fun H locs hP hD hS => ?_)
  refine lv_iload_n hx hb dX9_findRoot_110 rfl (lv_at hl 2 rfl) ?_
  cases hf
  rw [← hQ]
  exact rt_i hx hb hr hlk hP hD hS rfl dX9_findRoot_111
def pX9_steps (n : Nat) (v_bends : (Nat → Int64)) (v_rootAt : (Nat → Int64)) : Option (Int32 × Int32 × (Nat → Int64)) := Option.bind (pX9_findRoot n v_bends v_rootAt (-9 : Int32)) (fun r1 => some (r1.1, r1.2.1, r1.2.2))
def rmX9_steps : Room := { frames := 2, cells := 0, slots := 0, locals := 49 }
set_option maxRecDepth 100000 in
set_option maxHeartbeats 4000000 in
theorem kX9_steps {l : Launch} {G : va_G} {cI cJ cZ cS cG : ClassId} (n : Nat) (q q_bends q_rootAt q_pile q_lastAt q_nextAt q_hasBend q_isMet q_queue q_sums q_kept q_isKept q_copies q_shelfMany q_shelfSort q_shelfHas : Nat) (v_stepAt : Int32) (v_justMany : Int32) (v_bends : (Nat → Int64)) (v_rootAt : (Nat → Int64)) (R : Int32 × Int32 × (Nat → Int64)) (hf : pX9_steps n v_bends v_rootAt = some R) : CTi l yX9_steps wsX9_steps rmX9_steps G cI cJ cZ cS cG [.ref q] [(q, .inr (9, [.ref q_bends, .ref q_rootAt, .int v_stepAt, .ref q_pile, .ref q_lastAt, .ref q_nextAt, .ref q_hasBend, .int v_justMany, .ref q_isMet, .ref q_queue, .ref q_sums, .ref q_kept, .ref q_isKept, .ref q_copies, .ref q_shelfMany, .ref q_shelfSort, .ref q_shelfHas])), (q_bends, .inl (cJ, 4, .inr (.inl v_bends))), (q_rootAt, .inl (cJ, 4, .inr (.inl v_rootAt)))] [(q, .inr (9, [.ref q_bends, .ref q_rootAt, .int R.2.1, .ref q_pile, .ref q_lastAt, .ref q_nextAt, .ref q_hasBend, .int v_justMany, .ref q_isMet, .ref q_queue, .ref q_sums, .ref q_kept, .ref q_isKept, .ref q_copies, .ref q_shelfMany, .ref q_shelfSort, .ref q_shelfHas])), (q_bends, .inl (cJ, 4, .inr (.inl v_bends))), (q_rootAt, .inl (cJ, 4, .inr (.inl R.2.2)))] R.1 := by
  refine Met.ofE (Qc := fun A => QRi G A [(q, .inr (9, [.ref q_bends, .ref q_rootAt, .int R.2.1, .ref q_pile, .ref q_lastAt, .ref q_nextAt, .ref q_hasBend, .int v_justMany, .ref q_isMet, .ref q_queue, .ref q_sums, .ref q_kept, .ref q_isKept, .ref q_copies, .ref q_shelfMany, .ref q_shelfSort, .ref q_shelfHas])), (q_bends, .inl (cJ, 4, .inr (.inl v_bends))), (q_rootAt, .inl (cJ, 4, .inr (.inl R.2.2)))] R.1) (cc := cX9_steps) (nL := 1) (ret := some .int) (plainFor_of_name (by decide +kernel)) rfl (Nat.le_of_ble_eq_true rfl) ?_
  intro p e s m below meth c A ls hx hb hml hr hlk hts hown hK hA hP hD hS hl
  have hown : s.vm.findClass RX9 = some m.cls := hown
  have hl : lv_has ls 1 [(0, .ref q)] := hl
  generalize hQ : MQ below (QRi G A [(q, .inr (9, [.ref q_bends, .ref q_rootAt, .int R.2.1, .ref q_pile, .ref q_lastAt, .ref q_nextAt, .ref q_hasBend, .int v_justMany, .ref q_isMet, .ref q_queue, .ref q_sums, .ref q_kept, .ref q_isKept, .ref q_copies, .ref q_shelfMany, .ref q_shelfSort, .ref q_shelfHas])), (q_bends, .inl (cJ, 4, .inr (.inl v_bends))), (q_rootAt, .inl (cJ, 4, .inr (.inl R.2.2)))] R.1) ([.ref q] : List Value).toArray s 0 0 A = QQ
  unfold pX9_steps at hf
  refine lv_aload_n hx hb dX9_steps_0 rfl (lv_at hl 0 rfl) ?_
  refine lv_bipush (v := (-9)) hx hb dX9_steps_1 (by decide) ?_
  obtain ⟨r1, hc1, hf⟩ := ob_s hf
  refine bk_i (wc := [(q, .inr (9, [.ref q_bends, .ref q_rootAt, .int v_stepAt, .ref q_pile, .ref q_lastAt, .ref q_nextAt, .ref q_hasBend, .int v_justMany, .ref q_isMet, .ref q_queue, .ref q_sums, .ref q_kept, .ref q_isKept, .ref q_copies, .ref q_shelfMany, .ref q_shelfSort, .ref q_shelfHas])), (q_bends, .inl (cJ, 4, .inr (.inl v_bends))), (q_rootAt, .inl (cJ, 4, .inr (.inl v_rootAt)))]) (wc2 := [(q, .inr (9, [.ref q_bends, .ref q_rootAt, .int r1.2.1, .ref q_pile, .ref q_lastAt, .ref q_nextAt, .ref q_hasBend, .int v_justMany, .ref q_isMet, .ref q_queue, .ref q_sums, .ref q_kept, .ref q_isKept, .ref q_copies, .ref q_shelfMany, .ref q_shelfSort, .ref q_shelfHas])), (q_bends, .inl (cJ, 4, .inr (.inl v_bends))), (q_rootAt, .inl (cJ, 4, .inr (.inl r1.2.2)))]) (wr := []) (ws2 := [(q, .inr (9, [.ref q_bends, .ref q_rootAt, .int r1.2.1, .ref q_pile, .ref q_lastAt, .ref q_nextAt, .ref q_hasBend, .int v_justMany, .ref q_isMet, .ref q_queue, .ref q_sums, .ref q_kept, .ref q_isKept, .ref q_copies, .ref q_shelfMany, .ref q_shelfSort, .ref q_shelfHas])), (q_bends, .inl (cJ, 4, .inr (.inl v_bends))), (q_rootAt, .inl (cJ, 4, .inr (.inl r1.2.2)))]) (r := r1.1) (va_runV (As := [.int (-9 : Int32)]) (rest := []) ⟨hx, hb, hml, hown, hts⟩ (kX9_findRoot (l := l) (G := G) (cI := cI) (cJ := cJ) (cZ := cZ) (cS := cS) (cG := cG) n q q_bends q_rootAt q_pile q_lastAt q_nextAt q_hasBend q_isMet q_queue q_sums q_kept q_isKept q_copies q_shelfMany q_shelfSort q_shelfHas v_stepAt v_justMany v_bends v_rootAt (-9 : Int32) _ hc1 _) (cwV 1 hts gX9_steps_X9_findRoot rfl rfl rfl (by decide +kernel) ⟨Nat.le_of_ble_eq_true rfl, Nat.le_of_ble_eq_true rfl⟩) (cut_V hK hP hD [0, 1, 2] rfl rfl (ci := 9) (q0 := 0) rfl rfl) rfl rfl hl.1 rfl (lv_room (Nat.le_of_ble_eq_true rfl)) dX9_steps_3 ⟨Nat.zero_le _, Nat.zero_le _⟩) hP hD hS hA [0, 1, 2] [] [0, 1, 2] rfl rfl rfl rfl rfl rfl (fun H locs hP hD hS => ?_)
  cases hf
  rw [← hQ]
  exact rt_i hx hb hr hlk hP hD hS rfl dX9_steps_6
def pX9_step (n : Nat) (v_stepAt : Int32) (v_bends : (Nat → Int64)) (v_rootAt : (Nat → Int64)) (p1 : Int32) : Option (Int32 × Int32 × (Nat → Int64)) := if 0 ≤ p1 then Option.bind (pX9_findRoot n v_bends v_rootAt p1) (fun r2 => some (r2.2.1, r2.2.1, r2.2.2)) else some ((-2 : Int32), v_stepAt, v_rootAt)
def rmX9_step : Room := { frames := 2, cells := 0, slots := 0, locals := 49 }
theorem hiX9_step_X9 : ∀ w ∈ u_ws RX9 TX9 17, w ∈ wsX9_step := fun _ h => List.mem_cons_of_mem _ (List.mem_append_right _ h)
set_option maxRecDepth 100000 in
set_option maxHeartbeats 4000000 in
theorem kX9_step {l : Launch} {G : va_G} {cI cJ cZ cS cG : ClassId} (n : Nat) (q q_bends q_rootAt q_pile q_lastAt q_nextAt q_hasBend q_isMet q_queue q_sums q_kept q_isKept q_copies q_shelfMany q_shelfSort q_shelfHas : Nat) (v_stepAt : Int32) (v_justMany : Int32) (v_bends : (Nat → Int64)) (v_rootAt : (Nat → Int64)) (p1 : Int32) (R : Int32 × Int32 × (Nat → Int64)) (hf : pX9_step n v_stepAt v_bends v_rootAt p1 = some R) : CTi l yX9_step wsX9_step rmX9_step G cI cJ cZ cS cG [.ref q, .int p1] [(q, .inr (9, [.ref q_bends, .ref q_rootAt, .int v_stepAt, .ref q_pile, .ref q_lastAt, .ref q_nextAt, .ref q_hasBend, .int v_justMany, .ref q_isMet, .ref q_queue, .ref q_sums, .ref q_kept, .ref q_isKept, .ref q_copies, .ref q_shelfMany, .ref q_shelfSort, .ref q_shelfHas])), (q_bends, .inl (cJ, 4, .inr (.inl v_bends))), (q_rootAt, .inl (cJ, 4, .inr (.inl v_rootAt)))] [(q, .inr (9, [.ref q_bends, .ref q_rootAt, .int R.2.1, .ref q_pile, .ref q_lastAt, .ref q_nextAt, .ref q_hasBend, .int v_justMany, .ref q_isMet, .ref q_queue, .ref q_sums, .ref q_kept, .ref q_isKept, .ref q_copies, .ref q_shelfMany, .ref q_shelfSort, .ref q_shelfHas])), (q_bends, .inl (cJ, 4, .inr (.inl v_bends))), (q_rootAt, .inl (cJ, 4, .inr (.inl R.2.2)))] R.1 := by
  refine Met.ofE (Qc := fun A => QRi G A [(q, .inr (9, [.ref q_bends, .ref q_rootAt, .int R.2.1, .ref q_pile, .ref q_lastAt, .ref q_nextAt, .ref q_hasBend, .int v_justMany, .ref q_isMet, .ref q_queue, .ref q_sums, .ref q_kept, .ref q_isKept, .ref q_copies, .ref q_shelfMany, .ref q_shelfSort, .ref q_shelfHas])), (q_bends, .inl (cJ, 4, .inr (.inl v_bends))), (q_rootAt, .inl (cJ, 4, .inr (.inl R.2.2)))] R.1) (cc := cX9_step) (nL := 2) (ret := some .int) (plainFor_of_name (by decide +kernel)) rfl (Nat.le_of_ble_eq_true rfl) ?_
  intro p e s m below meth c A ls hx hb hml hr hlk hts hown hK hA hP hD hS hl
  have hown : s.vm.findClass RX9 = some m.cls := hown
  have hl : lv_has ls 2 [(0, .ref q), (1, .int p1)] := hl
  generalize hQ : MQ below (QRi G A [(q, .inr (9, [.ref q_bends, .ref q_rootAt, .int R.2.1, .ref q_pile, .ref q_lastAt, .ref q_nextAt, .ref q_hasBend, .int v_justMany, .ref q_isMet, .ref q_queue, .ref q_sums, .ref q_kept, .ref q_isKept, .ref q_copies, .ref q_shelfMany, .ref q_shelfSort, .ref q_shelfHas])), (q_bends, .inl (cJ, 4, .inr (.inl v_bends))), (q_rootAt, .inl (cJ, 4, .inr (.inl R.2.2)))] R.1) ([.ref q, .int p1] : List Value).toArray s 0 0 A = QQ
  unfold pX9_step at hf
  refine lv_iload_n hx hb dX9_step_0 rfl (lv_at hl 1 rfl) ?_
  refine lv_if_ge (tgt := 7) hx hb dX9_step_1 (by decide) (fun c1 => ?_) (fun c1 => ?_)
  · have hf := if_s hf c1
    refine lv_aload_n hx hb dX9_step_7 rfl (lv_at hl 0 rfl) ?_
    refine lv_iload_n hx hb dX9_step_8 rfl (lv_at hl 1 rfl) ?_
    obtain ⟨r2, hc2, hf⟩ := ob_s hf
    refine bk_i (wc := [(q, .inr (9, [.ref q_bends, .ref q_rootAt, .int v_stepAt, .ref q_pile, .ref q_lastAt, .ref q_nextAt, .ref q_hasBend, .int v_justMany, .ref q_isMet, .ref q_queue, .ref q_sums, .ref q_kept, .ref q_isKept, .ref q_copies, .ref q_shelfMany, .ref q_shelfSort, .ref q_shelfHas])), (q_bends, .inl (cJ, 4, .inr (.inl v_bends))), (q_rootAt, .inl (cJ, 4, .inr (.inl v_rootAt)))]) (wc2 := [(q, .inr (9, [.ref q_bends, .ref q_rootAt, .int r2.2.1, .ref q_pile, .ref q_lastAt, .ref q_nextAt, .ref q_hasBend, .int v_justMany, .ref q_isMet, .ref q_queue, .ref q_sums, .ref q_kept, .ref q_isKept, .ref q_copies, .ref q_shelfMany, .ref q_shelfSort, .ref q_shelfHas])), (q_bends, .inl (cJ, 4, .inr (.inl v_bends))), (q_rootAt, .inl (cJ, 4, .inr (.inl r2.2.2)))]) (wr := []) (ws2 := [(q, .inr (9, [.ref q_bends, .ref q_rootAt, .int r2.2.1, .ref q_pile, .ref q_lastAt, .ref q_nextAt, .ref q_hasBend, .int v_justMany, .ref q_isMet, .ref q_queue, .ref q_sums, .ref q_kept, .ref q_isKept, .ref q_copies, .ref q_shelfMany, .ref q_shelfSort, .ref q_shelfHas])), (q_bends, .inl (cJ, 4, .inr (.inl v_bends))), (q_rootAt, .inl (cJ, 4, .inr (.inl r2.2.2)))]) (r := r2.1) (va_runV (As := [.int p1]) (rest := []) ⟨hx, hb, hml, hown, hts⟩ (kX9_findRoot (l := l) (G := G) (cI := cI) (cJ := cJ) (cZ := cZ) (cS := cS) (cG := cG) n q q_bends q_rootAt q_pile q_lastAt q_nextAt q_hasBend q_isMet q_queue q_sums q_kept q_isKept q_copies q_shelfMany q_shelfSort q_shelfHas v_stepAt v_justMany v_bends v_rootAt p1 _ hc2 _) (cwV 1 hts gX9_step_X9_findRoot rfl rfl rfl (by decide +kernel) ⟨Nat.le_of_ble_eq_true rfl, Nat.le_of_ble_eq_true rfl⟩) (cut_V hK hP hD [0, 1, 2] rfl rfl (ci := 9) (q0 := 0) rfl rfl) rfl rfl hl.1 rfl (lv_room (Nat.le_of_ble_eq_true rfl)) dX9_step_9 ⟨Nat.zero_le _, Nat.zero_le _⟩) hP hD hS hA [0, 1, 2] [] [0, 1, 2] rfl rfl rfl rfl rfl rfl (fun H locs hP hD hS => ?_)
    refine lv_pop hx hb dX9_step_12 rfl ?_
    refine lv_aload_n hx hb dX9_step_13 rfl (lv_at hl 0 rfl) ?_
    refine va_get (D := G) (ci := 9) (v := .int r2.2.1) (C := RX9) (T := TX9) (N := 17) hx hb hts hiX9_step_X9 hown hK.1 hP 0 rfl rfl 2 (by decide) (hts (.fieldLink RX9 90 "PackedBendsModel" "stepAt" "I") (List.mem_of_getElem? (i := 1) rfl)) (fun _ h9 => h9) rfl dX9_step_14 ?_
    cases hf
    rw [← hQ]
    exact rt_i hx hb hr hlk hP hD hS rfl dX9_step_17
  · have hf := if_n hf c1
    refine lv_bipush (v := (-2)) hx hb dX9_step_4 (by decide) ?_
    cases hf
    rw [← hQ]
    exact rt_i hx hb hr hlk hP hD hS rfl dX9_step_6
def pX9_root (n : Nat) (v_stepAt : Int32) (v_bends : (Nat → Int64)) (v_rootAt : (Nat → Int64)) (p1 : Int32) : Option (Int64 × Int32 × (Nat → Int64)) := Option.bind (pX9_within p1 (0 : Int32) (3 : Int32)) (fun r1 => if r1 = 0 then some ((-9223372036854775808 : Int64), v_stepAt, v_rootAt) else Option.bind (pX9_findRoot n v_bends v_rootAt (-9 : Int32)) (fun r3 => ck (ix p1 4) (some (r3.2.2 p1.toNatClampNeg, r3.2.1, r3.2.2))))
def rmX9_root : Room := { frames := 2, cells := 0, slots := 0, locals := 49 }
theorem hiX9_root_X9 : ∀ w ∈ u_ws RX9 TX9 17, w ∈ wsX9_root := fun _ h => List.mem_cons_of_mem _ (List.mem_append_right _ h)
set_option maxRecDepth 100000 in
set_option maxHeartbeats 4000000 in
theorem kX9_root {l : Launch} {G : va_G} {cI cJ cZ cS cG : ClassId} (n : Nat) (q q_bends q_rootAt q_pile q_lastAt q_nextAt q_hasBend q_isMet q_queue q_sums q_kept q_isKept q_copies q_shelfMany q_shelfSort q_shelfHas : Nat) (v_stepAt : Int32) (v_justMany : Int32) (v_bends : (Nat → Int64)) (v_rootAt : (Nat → Int64)) (p1 : Int32) (R : Int64 × Int32 × (Nat → Int64)) (hf : pX9_root n v_stepAt v_bends v_rootAt p1 = some R) : CTl l yX9_root wsX9_root rmX9_root G cI cJ cZ cS cG [.ref q, .int p1] [(q, .inr (9, [.ref q_bends, .ref q_rootAt, .int v_stepAt, .ref q_pile, .ref q_lastAt, .ref q_nextAt, .ref q_hasBend, .int v_justMany, .ref q_isMet, .ref q_queue, .ref q_sums, .ref q_kept, .ref q_isKept, .ref q_copies, .ref q_shelfMany, .ref q_shelfSort, .ref q_shelfHas])), (q_bends, .inl (cJ, 4, .inr (.inl v_bends))), (q_rootAt, .inl (cJ, 4, .inr (.inl v_rootAt)))] [(q, .inr (9, [.ref q_bends, .ref q_rootAt, .int R.2.1, .ref q_pile, .ref q_lastAt, .ref q_nextAt, .ref q_hasBend, .int v_justMany, .ref q_isMet, .ref q_queue, .ref q_sums, .ref q_kept, .ref q_isKept, .ref q_copies, .ref q_shelfMany, .ref q_shelfSort, .ref q_shelfHas])), (q_bends, .inl (cJ, 4, .inr (.inl v_bends))), (q_rootAt, .inl (cJ, 4, .inr (.inl R.2.2)))] R.1 := by
  refine Met.ofE (Qc := fun A => QRl G A [(q, .inr (9, [.ref q_bends, .ref q_rootAt, .int R.2.1, .ref q_pile, .ref q_lastAt, .ref q_nextAt, .ref q_hasBend, .int v_justMany, .ref q_isMet, .ref q_queue, .ref q_sums, .ref q_kept, .ref q_isKept, .ref q_copies, .ref q_shelfMany, .ref q_shelfSort, .ref q_shelfHas])), (q_bends, .inl (cJ, 4, .inr (.inl v_bends))), (q_rootAt, .inl (cJ, 4, .inr (.inl R.2.2)))] R.1) (cc := cX9_root) (nL := 2) (ret := some .long) (plainFor_of_name (by decide +kernel)) rfl (Nat.le_of_ble_eq_true rfl) ?_
  intro p e s m below meth c A ls hx hb hml hr hlk hts hown hK hA hP hD hS hl
  have hown : s.vm.findClass RX9 = some m.cls := hown
  have hl : lv_has ls 2 [(0, .ref q), (1, .int p1)] := hl
  generalize hQ : MQ below (QRl G A [(q, .inr (9, [.ref q_bends, .ref q_rootAt, .int R.2.1, .ref q_pile, .ref q_lastAt, .ref q_nextAt, .ref q_hasBend, .int v_justMany, .ref q_isMet, .ref q_queue, .ref q_sums, .ref q_kept, .ref q_isKept, .ref q_copies, .ref q_shelfMany, .ref q_shelfSort, .ref q_shelfHas])), (q_bends, .inl (cJ, 4, .inr (.inl v_bends))), (q_rootAt, .inl (cJ, 4, .inr (.inl R.2.2)))] R.1) ([.ref q, .int p1] : List Value).toArray s 0 0 A = QQ
  unfold pX9_root at hf
  refine lv_iload_n hx hb dX9_root_0 rfl (lv_at hl 1 rfl) ?_
  refine lv_iconst (v := 0) hx hb dX9_root_1 (by decide) ?_
  refine lv_iconst (v := 3) hx hb dX9_root_2 (by decide) ?_
  obtain ⟨r1, hc1, hf⟩ := ob_s hf
  refine bk_i (wc := []) (wc2 := []) (wr := [(q, .inr (9, [.ref q_bends, .ref q_rootAt, .int v_stepAt, .ref q_pile, .ref q_lastAt, .ref q_nextAt, .ref q_hasBend, .int v_justMany, .ref q_isMet, .ref q_queue, .ref q_sums, .ref q_kept, .ref q_isKept, .ref q_copies, .ref q_shelfMany, .ref q_shelfSort, .ref q_shelfHas])), (q_bends, .inl (cJ, 4, .inr (.inl v_bends))), (q_rootAt, .inl (cJ, 4, .inr (.inl v_rootAt)))]) (ws2 := [(q, .inr (9, [.ref q_bends, .ref q_rootAt, .int v_stepAt, .ref q_pile, .ref q_lastAt, .ref q_nextAt, .ref q_hasBend, .int v_justMany, .ref q_isMet, .ref q_queue, .ref q_sums, .ref q_kept, .ref q_isKept, .ref q_copies, .ref q_shelfMany, .ref q_shelfSort, .ref q_shelfHas])), (q_bends, .inl (cJ, 4, .inr (.inl v_bends))), (q_rootAt, .inl (cJ, 4, .inr (.inl v_rootAt)))]) (r := r1) (va_runS (As := [.int p1, .int (0 : Int32), .int (3 : Int32)]) (rest := []) ⟨hx, hb, hml, hown, hts⟩ (kX9_within (l := l) (G := G) (cI := cI) (cJ := cJ) (cZ := cZ) (cS := cS) (cG := cG) p1 (0 : Int32) (3 : Int32) _ hc1 _) (va_cwS 3 hts gX9_root_X9_within rfl rfl rfl (by decide +kernel) ⟨Nat.le_of_ble_eq_true rfl, Nat.le_of_ble_eq_true rfl⟩) (cut_S hK hP hD [] rfl rfl) rfl rfl hl.1 rfl (lv_room (Nat.le_of_ble_eq_true rfl)) dX9_root_3 ⟨Nat.zero_le _, Nat.zero_le _⟩) hP hD hS hA [] [0, 1, 2] [0, 1, 2] rfl rfl rfl rfl rfl rfl (fun H locs hP hD hS => ?_)
  refine lv_if_ne (tgt := 13) hx hb dX9_root_6 (by decide) (fun c2 => ?_) (fun c2 => ?_)
  · have hf := if_n hf c2
    refine lv_aload_n hx hb dX9_root_13 rfl (lv_at hl 0 rfl) ?_
    refine lv_bipush (v := (-9)) hx hb dX9_root_14 (by decide) ?_
    obtain ⟨r3, hc3, hf⟩ := ob_s hf
    refine bk_i (wc := [(q, .inr (9, [.ref q_bends, .ref q_rootAt, .int v_stepAt, .ref q_pile, .ref q_lastAt, .ref q_nextAt, .ref q_hasBend, .int v_justMany, .ref q_isMet, .ref q_queue, .ref q_sums, .ref q_kept, .ref q_isKept, .ref q_copies, .ref q_shelfMany, .ref q_shelfSort, .ref q_shelfHas])), (q_bends, .inl (cJ, 4, .inr (.inl v_bends))), (q_rootAt, .inl (cJ, 4, .inr (.inl v_rootAt)))]) (wc2 := [(q, .inr (9, [.ref q_bends, .ref q_rootAt, .int r3.2.1, .ref q_pile, .ref q_lastAt, .ref q_nextAt, .ref q_hasBend, .int v_justMany, .ref q_isMet, .ref q_queue, .ref q_sums, .ref q_kept, .ref q_isKept, .ref q_copies, .ref q_shelfMany, .ref q_shelfSort, .ref q_shelfHas])), (q_bends, .inl (cJ, 4, .inr (.inl v_bends))), (q_rootAt, .inl (cJ, 4, .inr (.inl r3.2.2)))]) (wr := []) (ws2 := [(q, .inr (9, [.ref q_bends, .ref q_rootAt, .int r3.2.1, .ref q_pile, .ref q_lastAt, .ref q_nextAt, .ref q_hasBend, .int v_justMany, .ref q_isMet, .ref q_queue, .ref q_sums, .ref q_kept, .ref q_isKept, .ref q_copies, .ref q_shelfMany, .ref q_shelfSort, .ref q_shelfHas])), (q_bends, .inl (cJ, 4, .inr (.inl v_bends))), (q_rootAt, .inl (cJ, 4, .inr (.inl r3.2.2)))]) (r := r3.1) (va_runV (As := [.int (-9 : Int32)]) (rest := []) ⟨hx, hb, hml, hown, hts⟩ (kX9_findRoot (l := l) (G := G) (cI := cI) (cJ := cJ) (cZ := cZ) (cS := cS) (cG := cG) n q q_bends q_rootAt q_pile q_lastAt q_nextAt q_hasBend q_isMet q_queue q_sums q_kept q_isKept q_copies q_shelfMany q_shelfSort q_shelfHas v_stepAt v_justMany v_bends v_rootAt (-9 : Int32) _ hc3 _) (cwV 1 hts gX9_root_X9_findRoot rfl rfl rfl (by decide +kernel) ⟨Nat.le_of_ble_eq_true rfl, Nat.le_of_ble_eq_true rfl⟩) (cut_V hK hP hD [0, 1, 2] rfl rfl (ci := 9) (q0 := 0) rfl rfl) rfl rfl hl.1 rfl (lv_room (Nat.le_of_ble_eq_true rfl)) dX9_root_16 ⟨Nat.zero_le _, Nat.zero_le _⟩) hP hD hS hA [0, 1, 2] [] [0, 1, 2] rfl rfl rfl rfl rfl rfl (fun H locs hP hD hS => ?_)
    refine lv_pop hx hb dX9_root_19 rfl ?_
    refine lv_aload_n hx hb dX9_root_20 rfl (lv_at hl 0 rfl) ?_
    refine va_get (D := G) (ci := 9) (v := .ref q_rootAt) (C := RX9) (T := TX9) (N := 17) hx hb hts hiX9_root_X9 hown hK.1 hP 0 rfl rfl 1 (by decide) (hts (.fieldLink RX9 13 "PackedBendsModel" "rootAt" "[J") (List.mem_of_getElem? (i := 2) rfl)) (fun _ h9 => h9) rfl dX9_root_21 ?_
    refine lv_iload_n hx hb dX9_root_24 rfl (lv_at hl 1 rfl) ?_
    obtain ⟨z4, hf⟩ := ck_s hf
    refine va_lald hx hb hK.1 hP 2 1 rfl rfl (vp_in_iff.mpr z4) dX9_root_25 ?_
    cases hf
    rw [← hQ]
    exact rt_l hx hb hr hlk hP hD hS rfl dX9_root_26
  · have hf := if_s hf c2
    refine lv_ldc2 (v := (-9223372036854775808)) hx hb hown (hts (.constantLong RX9 80 (-9223372036854775808)) (List.mem_of_getElem? (i := 1) rfl)) dX9_root_9 ?_
    cases hf
    rw [← hQ]
    exact rt_l hx hb hr hlk hP hD hS rfl dX9_root_12
def pX9_common_L38 : Nat → Int64 → Int64 → (Int64 → Int64 → Option (Int32)) → Option (Int32)
  | 0, _, _, _ => none
  | n + 1, x1, x4, k => if x4 ≤ (0 : Int64) then k x1 x4 else ck (¬ x4 = 0) (pX9_common_L38 n x4 (x1 - x1 / x4 * x4) k)
def pX9_common_L4 (v_bends : (Nat → Int64)) : Nat → Int64 → Int32 → (Int64 → Int32 → Option (Int32)) → Option (Int32)
  | 0, _, _, _ => none
  | n + 1, x1, x3, k => if (4 : Int32) ≤ x3 then k x1 x3 else ck (ix x3 4) (if (0 : Int64) ≤ (v_bends x3.toNatClampNeg) then pX9_common_L38 n x1 (v_bends x3.toNatClampNeg) (fun (y1_6 : Int64) (y4_6 : Int64) => pX9_common_L4 v_bends n y1_6 (x3 + (1 : Int32)) k) else pX9_common_L38 n x1 (-(v_bends x3.toNatClampNeg)) (fun (y1_7 : Int64) (y4_7 : Int64) => pX9_common_L4 v_bends n y1_7 (x3 + (1 : Int32)) k))
def pX9_common (n : Nat) (v_bends : (Nat → Int64)) : Option (Int32) := pX9_common_L4 v_bends n (0 : Int64) (0 : Int32) (fun (y1_8 : Int64) (y3_8 : Int32) => some y1_8.toInt32)
def rmX9_common : Room := { frames := 0, cells := 0, slots := 0, locals := 0 }
theorem hiX9_common_X9 : ∀ w ∈ u_ws RX9 TX9 17, w ∈ wsX9_common := fun _ h => List.mem_cons_of_mem _ (List.mem_append_right _ h)
set_option maxRecDepth 100000 in
set_option maxHeartbeats 4000000 in
theorem kX9_common {l : Launch} {G : va_G} {cI cJ cZ cS cG : ClassId} (n : Nat) (q q_bends q_rootAt q_pile q_lastAt q_nextAt q_hasBend q_isMet q_queue q_sums q_kept q_isKept q_copies q_shelfMany q_shelfSort q_shelfHas : Nat) (v_stepAt : Int32) (v_justMany : Int32) (v_bends : (Nat → Int64)) (R : Int32) (hf : pX9_common n v_bends = some R) : CTi l yX9_common wsX9_common rmX9_common G cI cJ cZ cS cG [.ref q] [(q, .inr (9, [.ref q_bends, .ref q_rootAt, .int v_stepAt, .ref q_pile, .ref q_lastAt, .ref q_nextAt, .ref q_hasBend, .int v_justMany, .ref q_isMet, .ref q_queue, .ref q_sums, .ref q_kept, .ref q_isKept, .ref q_copies, .ref q_shelfMany, .ref q_shelfSort, .ref q_shelfHas])), (q_bends, .inl (cJ, 4, .inr (.inl v_bends)))] [(q, .inr (9, [.ref q_bends, .ref q_rootAt, .int v_stepAt, .ref q_pile, .ref q_lastAt, .ref q_nextAt, .ref q_hasBend, .int v_justMany, .ref q_isMet, .ref q_queue, .ref q_sums, .ref q_kept, .ref q_isKept, .ref q_copies, .ref q_shelfMany, .ref q_shelfSort, .ref q_shelfHas])), (q_bends, .inl (cJ, 4, .inr (.inl v_bends)))] R := by
  refine Met.ofE (Qc := fun A => QRi G A [(q, .inr (9, [.ref q_bends, .ref q_rootAt, .int v_stepAt, .ref q_pile, .ref q_lastAt, .ref q_nextAt, .ref q_hasBend, .int v_justMany, .ref q_isMet, .ref q_queue, .ref q_sums, .ref q_kept, .ref q_isKept, .ref q_copies, .ref q_shelfMany, .ref q_shelfSort, .ref q_shelfHas])), (q_bends, .inl (cJ, 4, .inr (.inl v_bends)))] R) (cc := cX9_common) (nL := 8) (ret := some .int) (plainFor_of_name (by decide +kernel)) rfl (Nat.le_of_ble_eq_true rfl) ?_
  intro p e s m below meth c A ls hx hb hml hr hlk hts hown hK hA hP hD hS hl
  have hown : s.vm.findClass RX9 = some m.cls := hown
  have hl : lv_has ls 8 [(0, .ref q)] := hl
  generalize hQ : MQ below (QRi G A [(q, .inr (9, [.ref q_bends, .ref q_rootAt, .int v_stepAt, .ref q_pile, .ref q_lastAt, .ref q_nextAt, .ref q_hasBend, .int v_justMany, .ref q_isMet, .ref q_queue, .ref q_sums, .ref q_kept, .ref q_isKept, .ref q_copies, .ref q_shelfMany, .ref q_shelfSort, .ref q_shelfHas])), (q_bends, .inl (cJ, 4, .inr (.inl v_bends)))] R) ([.ref q] : List Value).toArray s 0 0 A = QQ
  unfold pX9_common at hf
  have hL38 : ∀ (x3 : Int32) (k : Int64 → Int64 → Option (Int32)), (∀ (x1 : Int64) (x4 : Int64) (H : Heap) (locs : List Loc) (ls : Array Slot), k x1 x4 = some R → va_P G vwCl [(q, .inr (9, [.ref q_bends, .ref q_rootAt, .int v_stepAt, .ref q_pile, .ref q_lastAt, .ref q_nextAt, .ref q_hasBend, .int v_justMany, .ref q_isMet, .ref q_queue, .ref q_sums, .ref q_kept, .ref q_isKept, .ref q_copies, .ref q_shelfMany, .ref q_shelfSort, .ref q_shelfHas])), (q_bends, .inl (cJ, 4, .inr (.inl v_bends)))] H → va_D A [(q, .inr (9, [.ref q_bends, .ref q_rootAt, .int v_stepAt, .ref q_pile, .ref q_lastAt, .ref q_nextAt, .ref q_hasBend, .int v_justMany, .ref q_isMet, .ref q_queue, .ref q_sums, .ref q_kept, .ref q_isKept, .ref q_copies, .ref q_shelfMany, .ref q_shelfSort, .ref q_shelfHas])), (q_bends, .inl (cJ, 4, .inr (.inl v_bends)))] → va_S A s.heap H locs → lv_has ls 8 [(0, .ref q), (1, .long x1), (3, .int x3), (4, .long x4)] → W p l e rmX9_common s m ([.ref q] : List Value).toArray below meth c H locs 0 0 QQ (F0 m 61 ls [])) → ∀ (n : Nat) (x1 : Int64) (x4 : Int64) (H : Heap) (locs : List Loc) (ls : Array Slot), pX9_common_L38 n x1 x4 k = some R → va_P G vwCl [(q, .inr (9, [.ref q_bends, .ref q_rootAt, .int v_stepAt, .ref q_pile, .ref q_lastAt, .ref q_nextAt, .ref q_hasBend, .int v_justMany, .ref q_isMet, .ref q_queue, .ref q_sums, .ref q_kept, .ref q_isKept, .ref q_copies, .ref q_shelfMany, .ref q_shelfSort, .ref q_shelfHas])), (q_bends, .inl (cJ, 4, .inr (.inl v_bends)))] H → va_D A [(q, .inr (9, [.ref q_bends, .ref q_rootAt, .int v_stepAt, .ref q_pile, .ref q_lastAt, .ref q_nextAt, .ref q_hasBend, .int v_justMany, .ref q_isMet, .ref q_queue, .ref q_sums, .ref q_kept, .ref q_isKept, .ref q_copies, .ref q_shelfMany, .ref q_shelfSort, .ref q_shelfHas])), (q_bends, .inl (cJ, 4, .inr (.inl v_bends)))] → va_S A s.heap H locs → lv_has ls 8 [(0, .ref q), (1, .long x1), (3, .int x3), (4, .long x4)] → W p l e rmX9_common s m ([.ref q] : List Value).toArray below meth c H locs 0 0 QQ (F0 m 38 ls []) := by
    intro x3 k hk n
    induction n with
    | zero =>
      intro x1 x4 H locs ls hf
      cases hf
    | succ n ih =>
      intro x1 x4 H locs ls hf hP hD hS hl
      unfold pX9_common_L38 at hf
      refine lv_lload hx hb dX9_common_38 (lv_at hl 3 rfl) ?_
      refine lv_lconst (v := 0) hx hb dX9_common_40 (by decide) ?_
      refine lc_le (tgt := 61) hx hb dX9_common_41 dX9_common_42 (by decide) (fun c4 => ?_) (fun c4 => ?_)
      · have hf := if_s hf c4
        exact hk x1 x4 _ _ _ hf hP hD hS (lv_sub hl [0, 1, 2, 3] rfl)
      · have hf := if_n hf c4
        refine lv_lload_n hx hb dX9_common_45 rfl (lv_at hl 1 rfl) ?_
        refine lv_lload hx hb dX9_common_46 (lv_at hl 3 rfl) ?_
        obtain ⟨z5, hf⟩ := ck_s hf
        refine lv_lrem hx hb dX9_common_48 z5 ?_
        refine lv_lstore (lv' := [(6, .long (x1 - x1 / x4 * x4)), (0, .ref q), (1, .long x1), (3, .int x3), (4, .long x4)]) hx hb dX9_common_49 hl (by decide) rfl (fun ls hl => ?_)
        refine lv_lload hx hb dX9_common_51 (lv_at hl 4 rfl) ?_
        refine lv_lstore_n (lv' := [(1, .long x4), (6, .long (x1 - x1 / x4 * x4)), (0, .ref q), (3, .int x3), (4, .long x4)]) hx hb dX9_common_53 rfl hl (by decide) rfl (fun ls hl => ?_)
        refine lv_lload hx hb dX9_common_54 (lv_at hl 1 rfl) ?_
        refine lv_lstore (lv' := [(4, .long (x1 - x1 / x4 * x4)), (1, .long x4), (6, .long (x1 - x1 / x4 * x4)), (0, .ref q), (3, .int x3)]) hx hb dX9_common_56 hl (by decide) rfl (fun ls hl => ?_)
        refine lv_goto (tgt := 38) hx hb dX9_common_58 (by decide) ?_
        exact ih x4 (x1 - x1 / x4 * x4) _ _ _ hf hP hD hS (lv_sub hl [3, 1, 4, 0] rfl)
  have hL4 : ∀ (k : Int64 → Int32 → Option (Int32)), (∀ (x1 : Int64) (x3 : Int32) (H : Heap) (locs : List Loc) (ls : Array Slot), k x1 x3 = some R → va_P G vwCl [(q, .inr (9, [.ref q_bends, .ref q_rootAt, .int v_stepAt, .ref q_pile, .ref q_lastAt, .ref q_nextAt, .ref q_hasBend, .int v_justMany, .ref q_isMet, .ref q_queue, .ref q_sums, .ref q_kept, .ref q_isKept, .ref q_copies, .ref q_shelfMany, .ref q_shelfSort, .ref q_shelfHas])), (q_bends, .inl (cJ, 4, .inr (.inl v_bends)))] H → va_D A [(q, .inr (9, [.ref q_bends, .ref q_rootAt, .int v_stepAt, .ref q_pile, .ref q_lastAt, .ref q_nextAt, .ref q_hasBend, .int v_justMany, .ref q_isMet, .ref q_queue, .ref q_sums, .ref q_kept, .ref q_isKept, .ref q_copies, .ref q_shelfMany, .ref q_shelfSort, .ref q_shelfHas])), (q_bends, .inl (cJ, 4, .inr (.inl v_bends)))] → va_S A s.heap H locs → lv_has ls 8 [(0, .ref q), (1, .long x1), (3, .int x3)] → W p l e rmX9_common s m ([.ref q] : List Value).toArray below meth c H locs 0 0 QQ (F0 m 67 ls [])) → ∀ (n : Nat) (x1 : Int64) (x3 : Int32) (H : Heap) (locs : List Loc) (ls : Array Slot), pX9_common_L4 v_bends n x1 x3 k = some R → va_P G vwCl [(q, .inr (9, [.ref q_bends, .ref q_rootAt, .int v_stepAt, .ref q_pile, .ref q_lastAt, .ref q_nextAt, .ref q_hasBend, .int v_justMany, .ref q_isMet, .ref q_queue, .ref q_sums, .ref q_kept, .ref q_isKept, .ref q_copies, .ref q_shelfMany, .ref q_shelfSort, .ref q_shelfHas])), (q_bends, .inl (cJ, 4, .inr (.inl v_bends)))] H → va_D A [(q, .inr (9, [.ref q_bends, .ref q_rootAt, .int v_stepAt, .ref q_pile, .ref q_lastAt, .ref q_nextAt, .ref q_hasBend, .int v_justMany, .ref q_isMet, .ref q_queue, .ref q_sums, .ref q_kept, .ref q_isKept, .ref q_copies, .ref q_shelfMany, .ref q_shelfSort, .ref q_shelfHas])), (q_bends, .inl (cJ, 4, .inr (.inl v_bends)))] → va_S A s.heap H locs → lv_has ls 8 [(0, .ref q), (1, .long x1), (3, .int x3)] → W p l e rmX9_common s m ([.ref q] : List Value).toArray below meth c H locs 0 0 QQ (F0 m 4 ls []) := by
    intro  k hk n
    induction n with
    | zero =>
      intro x1 x3 H locs ls hf
      cases hf
    | succ n ih =>
      intro x1 x3 H locs ls hf hP hD hS hl
      unfold pX9_common_L4 at hf
      refine lv_iload_n hx hb dX9_common_4 rfl (lv_at hl 2 rfl) ?_
      refine lv_iconst (v := 4) hx hb dX9_common_5 (by decide) ?_
      refine lv_icmp_ge (tgt := 67) hx hb dX9_common_6 (by decide) (fun c1 => ?_) (fun c1 => ?_)
      · have hf := if_s hf c1
        exact hk x1 x3 _ _ _ hf hP hD hS (lv_sub hl [0, 1, 2] rfl)
      · have hf := if_n hf c1
        refine lv_aload_n hx hb dX9_common_9 rfl (lv_at hl 0 rfl) ?_
        refine va_get (D := G) (ci := 9) (v := .ref q_bends) (C := RX9) (T := TX9) (N := 17) hx hb hts hiX9_common_X9 hown hK.1 hP 0 rfl rfl 0 (by decide) (hts (.fieldLink RX9 7 "PackedBendsModel" "bends" "[J") (List.mem_of_getElem? (i := 1) rfl)) (fun _ h9 => h9) rfl dX9_common_10 ?_
        refine lv_iload_n hx hb dX9_common_13 rfl (lv_at hl 2 rfl) ?_
        obtain ⟨z2, hf⟩ := ck_s hf
        refine va_lald hx hb hK.1 hP 1 1 rfl rfl (vp_in_iff.mpr z2) dX9_common_14 ?_
        refine lv_lconst (v := 0) hx hb dX9_common_15 (by decide) ?_
        refine lc_ge (tgt := 30) hx hb dX9_common_16 dX9_common_17 (by decide) (fun c3 => ?_) (fun c3 => ?_)
        · have hf := if_s hf c3
          refine lv_aload_n hx hb dX9_common_30 rfl (lv_at hl 0 rfl) ?_
          refine va_get (D := G) (ci := 9) (v := .ref q_bends) (C := RX9) (T := TX9) (N := 17) hx hb hts hiX9_common_X9 hown hK.1 hP 0 rfl rfl 0 (by decide) (hts (.fieldLink RX9 7 "PackedBendsModel" "bends" "[J") (List.mem_of_getElem? (i := 1) rfl)) (fun _ h9 => h9) rfl dX9_common_31 ?_
          refine lv_iload_n hx hb dX9_common_34 rfl (lv_at hl 2 rfl) ?_
          refine va_lald hx hb hK.1 hP 1 1 rfl rfl (vp_in_iff.mpr z2) dX9_common_35 ?_
          refine lv_lstore (lv' := [(4, .long (v_bends x3.toNatClampNeg)), (0, .ref q), (1, .long x1), (3, .int x3)]) hx hb dX9_common_36 hl (by decide) rfl (fun ls hl => ?_)
          refine hL38 x3 _ (fun y1_6 y4_6 H locs ls hf hP hD hS hl => ?_) n x1 (v_bends x3.toNatClampNeg) _ _ _ hf hP hD hS (lv_sub hl [1, 2, 3, 0] rfl)
          have hP : va_P G vwCl [(q, .inr (9, [.ref q_bends, .ref q_rootAt, .int v_stepAt, .ref q_pile, .ref q_lastAt, .ref q_nextAt, .ref q_hasBend, .int v_justMany, .ref q_isMet, .ref q_queue, .ref q_sums, .ref q_kept, .ref q_isKept, .ref q_copies, .ref q_shelfMany, .ref q_shelfSort, .ref q_shelfHas])), (q_bends, .inl (cJ, 4, .inr (.inl v_bends)))] H := hP
          have hD : va_D A [(q, .inr (9, [.ref q_bends, .ref q_rootAt, .int v_stepAt, .ref q_pile, .ref q_lastAt, .ref q_nextAt, .ref q_hasBend, .int v_justMany, .ref q_isMet, .ref q_queue, .ref q_sums, .ref q_kept, .ref q_isKept, .ref q_copies, .ref q_shelfMany, .ref q_shelfSort, .ref q_shelfHas])), (q_bends, .inl (cJ, 4, .inr (.inl v_bends)))] := hD
          refine lv_iinc (v := x3 + (1 : Int32)) (lv' := [(3, .int (x3 + (1 : Int32))), (0, .ref q), (1, .long y1_6), (4, .long y4_6)]) hx hb dX9_common_61 hl (k := 2) rfl rfl (by decide) rfl (fun ls hl => ?_)
          refine lv_goto (tgt := 4) hx hb dX9_common_64 (by decide) ?_
          exact ih y1_6 (x3 + (1 : Int32)) _ _ _ hf hP hD hS (lv_sub hl [1, 2, 0] rfl)
        · have hf := if_n hf c3
          refine lv_aload_n hx hb dX9_common_20 rfl (lv_at hl 0 rfl) ?_
          refine va_get (D := G) (ci := 9) (v := .ref q_bends) (C := RX9) (T := TX9) (N := 17) hx hb hts hiX9_common_X9 hown hK.1 hP 0 rfl rfl 0 (by decide) (hts (.fieldLink RX9 7 "PackedBendsModel" "bends" "[J") (List.mem_of_getElem? (i := 1) rfl)) (fun _ h9 => h9) rfl dX9_common_21 ?_
          refine lv_iload_n hx hb dX9_common_24 rfl (lv_at hl 2 rfl) ?_
          refine va_lald hx hb hK.1 hP 1 1 rfl rfl (vp_in_iff.mpr z2) dX9_common_25 ?_
          refine lv_lneg hx hb dX9_common_26 ?_
          refine lv_goto (tgt := 36) hx hb dX9_common_27 (by decide) ?_
          refine lv_lstore (lv' := [(4, .long (-(v_bends x3.toNatClampNeg))), (0, .ref q), (1, .long x1), (3, .int x3)]) hx hb dX9_common_36 hl (by decide) rfl (fun ls hl => ?_)
          refine hL38 x3 _ (fun y1_7 y4_7 H locs ls hf hP hD hS hl => ?_) n x1 (-(v_bends x3.toNatClampNeg)) _ _ _ hf hP hD hS (lv_sub hl [1, 2, 3, 0] rfl)
          have hP : va_P G vwCl [(q, .inr (9, [.ref q_bends, .ref q_rootAt, .int v_stepAt, .ref q_pile, .ref q_lastAt, .ref q_nextAt, .ref q_hasBend, .int v_justMany, .ref q_isMet, .ref q_queue, .ref q_sums, .ref q_kept, .ref q_isKept, .ref q_copies, .ref q_shelfMany, .ref q_shelfSort, .ref q_shelfHas])), (q_bends, .inl (cJ, 4, .inr (.inl v_bends)))] H := hP
          have hD : va_D A [(q, .inr (9, [.ref q_bends, .ref q_rootAt, .int v_stepAt, .ref q_pile, .ref q_lastAt, .ref q_nextAt, .ref q_hasBend, .int v_justMany, .ref q_isMet, .ref q_queue, .ref q_sums, .ref q_kept, .ref q_isKept, .ref q_copies, .ref q_shelfMany, .ref q_shelfSort, .ref q_shelfHas])), (q_bends, .inl (cJ, 4, .inr (.inl v_bends)))] := hD
          refine lv_iinc (v := x3 + (1 : Int32)) (lv' := [(3, .int (x3 + (1 : Int32))), (0, .ref q), (1, .long y1_7), (4, .long y4_7)]) hx hb dX9_common_61 hl (k := 2) rfl rfl (by decide) rfl (fun ls hl => ?_)
          refine lv_goto (tgt := 4) hx hb dX9_common_64 (by decide) ?_
          exact ih y1_7 (x3 + (1 : Int32)) _ _ _ hf hP hD hS (lv_sub hl [1, 2, 0] rfl)
  refine lv_lconst (v := 0) hx hb dX9_common_0 (by decide) ?_
  refine lv_lstore_n (lv' := [(1, .long (0 : Int64)), (0, .ref q)]) hx hb dX9_common_1 rfl hl (by decide) rfl (fun ls hl => ?_)
  refine lv_iconst (v := 0) hx hb dX9_common_2 (by decide) ?_
  refine lv_istore_n (lv' := [(3, .int (0 : Int32)), (1, .long (0 : Int64)), (0, .ref q)]) hx hb dX9_common_3 rfl hl (by decide) rfl (fun ls hl => ?_)
  refine hL4  _ (fun y1_8 y3_8 H locs ls hf hP hD hS hl => ?_) n (0 : Int64) (0 : Int32) _ _ _ hf hP hD hS (lv_sub hl [2, 1, 0] rfl)
  have hP : va_P G vwCl [(q, .inr (9, [.ref q_bends, .ref q_rootAt, .int v_stepAt, .ref q_pile, .ref q_lastAt, .ref q_nextAt, .ref q_hasBend, .int v_justMany, .ref q_isMet, .ref q_queue, .ref q_sums, .ref q_kept, .ref q_isKept, .ref q_copies, .ref q_shelfMany, .ref q_shelfSort, .ref q_shelfHas])), (q_bends, .inl (cJ, 4, .inr (.inl v_bends)))] H := hP
  have hD : va_D A [(q, .inr (9, [.ref q_bends, .ref q_rootAt, .int v_stepAt, .ref q_pile, .ref q_lastAt, .ref q_nextAt, .ref q_hasBend, .int v_justMany, .ref q_isMet, .ref q_queue, .ref q_sums, .ref q_kept, .ref q_isKept, .ref q_copies, .ref q_shelfMany, .ref q_shelfSort, .ref q_shelfHas])), (q_bends, .inl (cJ, 4, .inr (.inl v_bends)))] := hD
  refine lv_lload_n hx hb dX9_common_67 rfl (lv_at hl 1 rfl) ?_
  refine lv_l2i hx hb dX9_common_68 rfl ?_
  cases hf
  rw [← hQ]
  exact rt_i hx hb hr hlk hP hD hS rfl dX9_common_69
def pX9_isBound (n : Nat) (v_bends : (Nat → Int64)) (v_rootAt : (Nat → Int64)) : Option (Int32 × Int32 × (Nat → Int64)) := Option.bind (pX9_findRoot n v_bends v_rootAt (-9 : Int32)) (fun r1 => if (0 : Int64) ≤ (r1.2.2 (0 : Int32).toNatClampNeg) then some ((0 : Int32), r1.2.1, r1.2.2) else some ((1 : Int32), r1.2.1, r1.2.2))
def rmX9_isBound : Room := { frames := 2, cells := 0, slots := 0, locals := 49 }
theorem hiX9_isBound_X9 : ∀ w ∈ u_ws RX9 TX9 17, w ∈ wsX9_isBound := fun _ h => List.mem_cons_of_mem _ (List.mem_append_right _ h)
set_option maxRecDepth 100000 in
set_option maxHeartbeats 4000000 in
theorem kX9_isBound {l : Launch} {G : va_G} {cI cJ cZ cS cG : ClassId} (n : Nat) (q q_bends q_rootAt q_pile q_lastAt q_nextAt q_hasBend q_isMet q_queue q_sums q_kept q_isKept q_copies q_shelfMany q_shelfSort q_shelfHas : Nat) (v_stepAt : Int32) (v_justMany : Int32) (v_bends : (Nat → Int64)) (v_rootAt : (Nat → Int64)) (R : Int32 × Int32 × (Nat → Int64)) (hf : pX9_isBound n v_bends v_rootAt = some R) : CTi l yX9_isBound wsX9_isBound rmX9_isBound G cI cJ cZ cS cG [.ref q] [(q, .inr (9, [.ref q_bends, .ref q_rootAt, .int v_stepAt, .ref q_pile, .ref q_lastAt, .ref q_nextAt, .ref q_hasBend, .int v_justMany, .ref q_isMet, .ref q_queue, .ref q_sums, .ref q_kept, .ref q_isKept, .ref q_copies, .ref q_shelfMany, .ref q_shelfSort, .ref q_shelfHas])), (q_bends, .inl (cJ, 4, .inr (.inl v_bends))), (q_rootAt, .inl (cJ, 4, .inr (.inl v_rootAt)))] [(q, .inr (9, [.ref q_bends, .ref q_rootAt, .int R.2.1, .ref q_pile, .ref q_lastAt, .ref q_nextAt, .ref q_hasBend, .int v_justMany, .ref q_isMet, .ref q_queue, .ref q_sums, .ref q_kept, .ref q_isKept, .ref q_copies, .ref q_shelfMany, .ref q_shelfSort, .ref q_shelfHas])), (q_bends, .inl (cJ, 4, .inr (.inl v_bends))), (q_rootAt, .inl (cJ, 4, .inr (.inl R.2.2)))] R.1 := by
  refine Met.ofE (Qc := fun A => QRi G A [(q, .inr (9, [.ref q_bends, .ref q_rootAt, .int R.2.1, .ref q_pile, .ref q_lastAt, .ref q_nextAt, .ref q_hasBend, .int v_justMany, .ref q_isMet, .ref q_queue, .ref q_sums, .ref q_kept, .ref q_isKept, .ref q_copies, .ref q_shelfMany, .ref q_shelfSort, .ref q_shelfHas])), (q_bends, .inl (cJ, 4, .inr (.inl v_bends))), (q_rootAt, .inl (cJ, 4, .inr (.inl R.2.2)))] R.1) (cc := cX9_isBound) (nL := 1) (ret := some .boolean) (plainFor_of_name (by decide +kernel)) rfl (Nat.le_of_ble_eq_true rfl) ?_
  intro p e s m below meth c A ls hx hb hml hr hlk hts hown hK hA hP hD hS hl
  have hown : s.vm.findClass RX9 = some m.cls := hown
  have hl : lv_has ls 1 [(0, .ref q)] := hl
  generalize hQ : MQ below (QRi G A [(q, .inr (9, [.ref q_bends, .ref q_rootAt, .int R.2.1, .ref q_pile, .ref q_lastAt, .ref q_nextAt, .ref q_hasBend, .int v_justMany, .ref q_isMet, .ref q_queue, .ref q_sums, .ref q_kept, .ref q_isKept, .ref q_copies, .ref q_shelfMany, .ref q_shelfSort, .ref q_shelfHas])), (q_bends, .inl (cJ, 4, .inr (.inl v_bends))), (q_rootAt, .inl (cJ, 4, .inr (.inl R.2.2)))] R.1) ([.ref q] : List Value).toArray s 0 0 A = QQ
  unfold pX9_isBound at hf
  refine lv_aload_n hx hb dX9_isBound_0 rfl (lv_at hl 0 rfl) ?_
  refine lv_bipush (v := (-9)) hx hb dX9_isBound_1 (by decide) ?_
  obtain ⟨r1, hc1, hf⟩ := ob_s hf
  refine bk_i (wc := [(q, .inr (9, [.ref q_bends, .ref q_rootAt, .int v_stepAt, .ref q_pile, .ref q_lastAt, .ref q_nextAt, .ref q_hasBend, .int v_justMany, .ref q_isMet, .ref q_queue, .ref q_sums, .ref q_kept, .ref q_isKept, .ref q_copies, .ref q_shelfMany, .ref q_shelfSort, .ref q_shelfHas])), (q_bends, .inl (cJ, 4, .inr (.inl v_bends))), (q_rootAt, .inl (cJ, 4, .inr (.inl v_rootAt)))]) (wc2 := [(q, .inr (9, [.ref q_bends, .ref q_rootAt, .int r1.2.1, .ref q_pile, .ref q_lastAt, .ref q_nextAt, .ref q_hasBend, .int v_justMany, .ref q_isMet, .ref q_queue, .ref q_sums, .ref q_kept, .ref q_isKept, .ref q_copies, .ref q_shelfMany, .ref q_shelfSort, .ref q_shelfHas])), (q_bends, .inl (cJ, 4, .inr (.inl v_bends))), (q_rootAt, .inl (cJ, 4, .inr (.inl r1.2.2)))]) (wr := []) (ws2 := [(q, .inr (9, [.ref q_bends, .ref q_rootAt, .int r1.2.1, .ref q_pile, .ref q_lastAt, .ref q_nextAt, .ref q_hasBend, .int v_justMany, .ref q_isMet, .ref q_queue, .ref q_sums, .ref q_kept, .ref q_isKept, .ref q_copies, .ref q_shelfMany, .ref q_shelfSort, .ref q_shelfHas])), (q_bends, .inl (cJ, 4, .inr (.inl v_bends))), (q_rootAt, .inl (cJ, 4, .inr (.inl r1.2.2)))]) (r := r1.1) (va_runV (As := [.int (-9 : Int32)]) (rest := []) ⟨hx, hb, hml, hown, hts⟩ (kX9_findRoot (l := l) (G := G) (cI := cI) (cJ := cJ) (cZ := cZ) (cS := cS) (cG := cG) n q q_bends q_rootAt q_pile q_lastAt q_nextAt q_hasBend q_isMet q_queue q_sums q_kept q_isKept q_copies q_shelfMany q_shelfSort q_shelfHas v_stepAt v_justMany v_bends v_rootAt (-9 : Int32) _ hc1 _) (cwV 1 hts gX9_isBound_X9_findRoot rfl rfl rfl (by decide +kernel) ⟨Nat.le_of_ble_eq_true rfl, Nat.le_of_ble_eq_true rfl⟩) (cut_V hK hP hD [0, 1, 2] rfl rfl (ci := 9) (q0 := 0) rfl rfl) rfl rfl hl.1 rfl (lv_room (Nat.le_of_ble_eq_true rfl)) dX9_isBound_3 ⟨Nat.zero_le _, Nat.zero_le _⟩) hP hD hS hA [0, 1, 2] [] [0, 1, 2] rfl rfl rfl rfl rfl rfl (fun H locs hP hD hS => ?_)
  refine lv_pop hx hb dX9_isBound_6 rfl ?_
  refine lv_aload_n hx hb dX9_isBound_7 rfl (lv_at hl 0 rfl) ?_
  refine va_get (D := G) (ci := 9) (v := .ref q_rootAt) (C := RX9) (T := TX9) (N := 17) hx hb hts hiX9_isBound_X9 hown hK.1 hP 0 rfl rfl 1 (by decide) (hts (.fieldLink RX9 13 "PackedBendsModel" "rootAt" "[J") (List.mem_of_getElem? (i := 1) rfl)) (fun _ h9 => h9) rfl dX9_isBound_8 ?_
  refine lv_iconst (v := 0) hx hb dX9_isBound_11 (by decide) ?_
  refine va_lald hx hb hK.1 hP 2 1 rfl rfl (vp_in_iff.mpr (by decide)) dX9_isBound_12 ?_
  refine lv_lconst (v := 0) hx hb dX9_isBound_13 (by decide) ?_
  refine lc_ge (tgt := 22) hx hb dX9_isBound_14 dX9_isBound_15 (by decide) (fun c2 => ?_) (fun c2 => ?_)
  · have hf := if_s hf c2
    refine lv_iconst (v := 0) hx hb dX9_isBound_22 (by decide) ?_
    cases hf
    rw [← hQ]
    exact rt_z hx hb hr hlk rfl hP hD hS rfl dX9_isBound_23
  · have hf := if_n hf c2
    refine lv_iconst (v := 1) hx hb dX9_isBound_18 (by decide) ?_
    refine lv_goto (tgt := 23) hx hb dX9_isBound_19 (by decide) ?_
    cases hf
    rw [← hQ]
    exact rt_z hx hb hr hlk rfl hP hD hS rfl dX9_isBound_23
def pX9_countsBend (v_justMany : Int32) (v_hasBend : (Nat → Int32)) (p1 : Int64) (p3 : Int64) : Option (Int32 × (Nat → Int32)) := if p1 = p3 then if p1 < (0 : Int64) then some (v_justMany + (1 : Int32), v_hasBend) else if (5000 : Int64) < p1 then some (v_justMany + (1 : Int32), v_hasBend) else ck (ix p1.toInt32 5001) (some (v_justMany + (1 : Int32), upd v_hasBend p1.toInt32.toNatClampNeg (1 : Int32))) else if p1 < (0 : Int64) then some (v_justMany + (0 : Int32), v_hasBend) else if (5000 : Int64) < p1 then some (v_justMany + (0 : Int32), v_hasBend) else ck (ix p1.toInt32 5001) (some (v_justMany + (0 : Int32), upd v_hasBend p1.toInt32.toNatClampNeg (1 : Int32)))
def rmX9_countsBend : Room := { frames := 0, cells := 0, slots := 0, locals := 0 }
theorem hiX9_countsBend_X9 : ∀ w ∈ u_ws RX9 TX9 17, w ∈ wsX9_countsBend := fun _ h => List.mem_cons_of_mem _ (List.mem_append_right _ h)
set_option maxRecDepth 100000 in
set_option maxHeartbeats 4000000 in
theorem kX9_countsBend {l : Launch} {G : va_G} {cI cJ cZ cS cG : ClassId} (q q_bends q_rootAt q_pile q_lastAt q_nextAt q_hasBend q_isMet q_queue q_sums q_kept q_isKept q_copies q_shelfMany q_shelfSort q_shelfHas : Nat) (v_stepAt : Int32) (v_justMany : Int32) (v_hasBend : (Nat → Int32)) (p1 : Int64) (p3 : Int64) (R : Int32 × (Nat → Int32)) (hf : pX9_countsBend v_justMany v_hasBend p1 p3 = some R) : CTv l yX9_countsBend wsX9_countsBend rmX9_countsBend G cI cJ cZ cS cG [.ref q, .long p1, .long p3] [(q, .inr (9, [.ref q_bends, .ref q_rootAt, .int v_stepAt, .ref q_pile, .ref q_lastAt, .ref q_nextAt, .ref q_hasBend, .int v_justMany, .ref q_isMet, .ref q_queue, .ref q_sums, .ref q_kept, .ref q_isKept, .ref q_copies, .ref q_shelfMany, .ref q_shelfSort, .ref q_shelfHas])), (q_hasBend, .inl (cZ, 5001, .inl v_hasBend))] [(q, .inr (9, [.ref q_bends, .ref q_rootAt, .int v_stepAt, .ref q_pile, .ref q_lastAt, .ref q_nextAt, .ref q_hasBend, .int R.1, .ref q_isMet, .ref q_queue, .ref q_sums, .ref q_kept, .ref q_isKept, .ref q_copies, .ref q_shelfMany, .ref q_shelfSort, .ref q_shelfHas])), (q_hasBend, .inl (cZ, 5001, .inl R.2))] := by
  refine Met.ofE (Qc := fun A => QRv G A [(q, .inr (9, [.ref q_bends, .ref q_rootAt, .int v_stepAt, .ref q_pile, .ref q_lastAt, .ref q_nextAt, .ref q_hasBend, .int R.1, .ref q_isMet, .ref q_queue, .ref q_sums, .ref q_kept, .ref q_isKept, .ref q_copies, .ref q_shelfMany, .ref q_shelfSort, .ref q_shelfHas])), (q_hasBend, .inl (cZ, 5001, .inl R.2))]) (cc := cX9_countsBend) (nL := 5) (ret := none) (plainFor_of_name (by decide +kernel)) rfl (Nat.le_of_ble_eq_true rfl) ?_
  intro p e s m below meth c A ls hx hb hml hr hlk hts hown hK hA hP hD hS hl
  have hown : s.vm.findClass RX9 = some m.cls := hown
  have hl : lv_has ls 5 [(0, .ref q), (1, .long p1), (3, .long p3)] := hl
  generalize hQ : MQ below (QRv G A [(q, .inr (9, [.ref q_bends, .ref q_rootAt, .int v_stepAt, .ref q_pile, .ref q_lastAt, .ref q_nextAt, .ref q_hasBend, .int R.1, .ref q_isMet, .ref q_queue, .ref q_sums, .ref q_kept, .ref q_isKept, .ref q_copies, .ref q_shelfMany, .ref q_shelfSort, .ref q_shelfHas])), (q_hasBend, .inl (cZ, 5001, .inl R.2))]) ([.ref q, .long p1, .long p3] : List Value).toArray s 0 0 A = QQ
  unfold pX9_countsBend at hf
  refine lv_aload_n hx hb dX9_countsBend_0 rfl (lv_at hl 0 rfl) ?_
  refine lv_dup hx hb dX9_countsBend_1 rfl ?_
  refine va_get (D := G) (ci := 9) (v := .int v_justMany) (C := RX9) (T := TX9) (N := 17) hx hb hts hiX9_countsBend_X9 hown hK.1 hP 0 rfl rfl 7 (by decide) (hts (.fieldLink RX9 105 "PackedBendsModel" "justMany" "I") (List.mem_of_getElem? (i := 1) rfl)) (fun _ h9 => h9) rfl dX9_countsBend_2 ?_
  refine lv_lload_n hx hb dX9_countsBend_5 rfl (lv_at hl 1 rfl) ?_
  refine lv_lload_n hx hb dX9_countsBend_6 rfl (lv_at hl 2 rfl) ?_
  refine lc_ne (tgt := 15) hx hb dX9_countsBend_7 dX9_countsBend_8 (by decide) (fun c1 => ?_) (fun c1 => ?_)
  · have hf := if_n hf c1
    refine lv_iconst (v := 0) hx hb dX9_countsBend_15 (by decide) ?_
    refine lv_iadd hx hb dX9_countsBend_16 ?_
    refine va_put (D := G) (ci := 9) (v := .int (v_justMany + (0 : Int32))) (ty := .int) (C := RX9) (T := TX9) (N := 17) hx hb hts hiX9_countsBend_X9 tyX9 tyX9_ok nmX9 hown hK.1 hP hD hS 0 rfl rfl 7 (by decide) (hts (.fieldLink RX9 105 "PackedBendsModel" "justMany" "I") (List.mem_of_getElem? (i := 1) rfl)) (fun _ h9 => h9) rfl (by decide +kernel) rfl rfl (Nat.le_of_ble_eq_true rfl) dX9_countsBend_17 (fun H locs hP hD hS => ?_)
    have hP : va_P G vwCl [(q, .inr (9, [.ref q_bends, .ref q_rootAt, .int v_stepAt, .ref q_pile, .ref q_lastAt, .ref q_nextAt, .ref q_hasBend, .int (v_justMany + (0 : Int32)), .ref q_isMet, .ref q_queue, .ref q_sums, .ref q_kept, .ref q_isKept, .ref q_copies, .ref q_shelfMany, .ref q_shelfSort, .ref q_shelfHas])), (q_hasBend, .inl (cZ, 5001, .inl v_hasBend))] H := hP
    have hD : va_D A [(q, .inr (9, [.ref q_bends, .ref q_rootAt, .int v_stepAt, .ref q_pile, .ref q_lastAt, .ref q_nextAt, .ref q_hasBend, .int (v_justMany + (0 : Int32)), .ref q_isMet, .ref q_queue, .ref q_sums, .ref q_kept, .ref q_isKept, .ref q_copies, .ref q_shelfMany, .ref q_shelfSort, .ref q_shelfHas])), (q_hasBend, .inl (cZ, 5001, .inl v_hasBend))] := hD
    refine lv_lload_n hx hb dX9_countsBend_20 rfl (lv_at hl 1 rfl) ?_
    refine lv_lconst (v := 0) hx hb dX9_countsBend_21 (by decide) ?_
    refine lc_lt (tgt := 42) hx hb dX9_countsBend_22 dX9_countsBend_23 (by decide) (fun c2 => ?_) (fun c2 => ?_)
    · have hf := if_s hf c2
      cases hf
      rw [← hQ]
      exact rt_v hx hb hr hlk hP hD hS dX9_countsBend_42
    · have hf := if_n hf c2
      refine lv_lload_n hx hb dX9_countsBend_26 rfl (lv_at hl 1 rfl) ?_
      refine lv_ldc2 (v := 5000) hx hb hown (hts (.constantLong RX9 108 (5000)) (List.mem_of_getElem? (i := 2) rfl)) dX9_countsBend_27 ?_
      refine lc_gt (tgt := 42) hx hb dX9_countsBend_30 dX9_countsBend_31 (by decide) (fun c3 => ?_) (fun c3 => ?_)
      · have hf := if_s hf c3
        cases hf
        rw [← hQ]
        exact rt_v hx hb hr hlk hP hD hS dX9_countsBend_42
      · have hf := if_n hf c3
        refine lv_aload_n hx hb dX9_countsBend_34 rfl (lv_at hl 0 rfl) ?_
        refine va_get (D := G) (ci := 9) (v := .ref q_hasBend) (C := RX9) (T := TX9) (N := 17) hx hb hts hiX9_countsBend_X9 hown hK.1 hP 0 rfl rfl 6 (by decide) (hts (.fieldLink RX9 26 "PackedBendsModel" "hasBend" "[Z") (List.mem_of_getElem? (i := 3) rfl)) (fun _ h9 => h9) rfl dX9_countsBend_35 ?_
        refine lv_lload_n hx hb dX9_countsBend_38 rfl (lv_at hl 1 rfl) ?_
        refine lv_l2i hx hb dX9_countsBend_39 rfl ?_
        refine lv_iconst (v := 1) hx hb dX9_countsBend_40 (by decide) ?_
        obtain ⟨z4, hf⟩ := ck_s hf
        refine va_zast hx hb hK.1 hP hD hS 1 2 rfl rfl (vp_in_iff.mpr z4) dX9_countsBend_41 (fun H locs hP hD hS => ?_)
        rw [vz1] at hP hD
        have hP : va_P G vwCl [(q, .inr (9, [.ref q_bends, .ref q_rootAt, .int v_stepAt, .ref q_pile, .ref q_lastAt, .ref q_nextAt, .ref q_hasBend, .int (v_justMany + (0 : Int32)), .ref q_isMet, .ref q_queue, .ref q_sums, .ref q_kept, .ref q_isKept, .ref q_copies, .ref q_shelfMany, .ref q_shelfSort, .ref q_shelfHas])), (q_hasBend, .inl (cZ, 5001, .inl (upd v_hasBend p1.toInt32.toNatClampNeg (1 : Int32))))] H := hP
        have hD : va_D A [(q, .inr (9, [.ref q_bends, .ref q_rootAt, .int v_stepAt, .ref q_pile, .ref q_lastAt, .ref q_nextAt, .ref q_hasBend, .int (v_justMany + (0 : Int32)), .ref q_isMet, .ref q_queue, .ref q_sums, .ref q_kept, .ref q_isKept, .ref q_copies, .ref q_shelfMany, .ref q_shelfSort, .ref q_shelfHas])), (q_hasBend, .inl (cZ, 5001, .inl (upd v_hasBend p1.toInt32.toNatClampNeg (1 : Int32))))] := hD
        cases hf
        rw [← hQ]
        exact rt_v hx hb hr hlk hP hD hS dX9_countsBend_42
  · have hf := if_s hf c1
    refine lv_iconst (v := 1) hx hb dX9_countsBend_11 (by decide) ?_
    refine lv_goto (tgt := 16) hx hb dX9_countsBend_12 (by decide) ?_
    refine lv_iadd hx hb dX9_countsBend_16 ?_
    refine va_put (D := G) (ci := 9) (v := .int (v_justMany + (1 : Int32))) (ty := .int) (C := RX9) (T := TX9) (N := 17) hx hb hts hiX9_countsBend_X9 tyX9 tyX9_ok nmX9 hown hK.1 hP hD hS 0 rfl rfl 7 (by decide) (hts (.fieldLink RX9 105 "PackedBendsModel" "justMany" "I") (List.mem_of_getElem? (i := 1) rfl)) (fun _ h9 => h9) rfl (by decide +kernel) rfl rfl (Nat.le_of_ble_eq_true rfl) dX9_countsBend_17 (fun H locs hP hD hS => ?_)
    have hP : va_P G vwCl [(q, .inr (9, [.ref q_bends, .ref q_rootAt, .int v_stepAt, .ref q_pile, .ref q_lastAt, .ref q_nextAt, .ref q_hasBend, .int (v_justMany + (1 : Int32)), .ref q_isMet, .ref q_queue, .ref q_sums, .ref q_kept, .ref q_isKept, .ref q_copies, .ref q_shelfMany, .ref q_shelfSort, .ref q_shelfHas])), (q_hasBend, .inl (cZ, 5001, .inl v_hasBend))] H := hP
    have hD : va_D A [(q, .inr (9, [.ref q_bends, .ref q_rootAt, .int v_stepAt, .ref q_pile, .ref q_lastAt, .ref q_nextAt, .ref q_hasBend, .int (v_justMany + (1 : Int32)), .ref q_isMet, .ref q_queue, .ref q_sums, .ref q_kept, .ref q_isKept, .ref q_copies, .ref q_shelfMany, .ref q_shelfSort, .ref q_shelfHas])), (q_hasBend, .inl (cZ, 5001, .inl v_hasBend))] := hD
    refine lv_lload_n hx hb dX9_countsBend_20 rfl (lv_at hl 1 rfl) ?_
    refine lv_lconst (v := 0) hx hb dX9_countsBend_21 (by decide) ?_
    refine lc_lt (tgt := 42) hx hb dX9_countsBend_22 dX9_countsBend_23 (by decide) (fun c5 => ?_) (fun c5 => ?_)
    · have hf := if_s hf c5
      cases hf
      rw [← hQ]
      exact rt_v hx hb hr hlk hP hD hS dX9_countsBend_42
    · have hf := if_n hf c5
      refine lv_lload_n hx hb dX9_countsBend_26 rfl (lv_at hl 1 rfl) ?_
      refine lv_ldc2 (v := 5000) hx hb hown (hts (.constantLong RX9 108 (5000)) (List.mem_of_getElem? (i := 2) rfl)) dX9_countsBend_27 ?_
      refine lc_gt (tgt := 42) hx hb dX9_countsBend_30 dX9_countsBend_31 (by decide) (fun c6 => ?_) (fun c6 => ?_)
      · have hf := if_s hf c6
        cases hf
        rw [← hQ]
        exact rt_v hx hb hr hlk hP hD hS dX9_countsBend_42
      · have hf := if_n hf c6
        refine lv_aload_n hx hb dX9_countsBend_34 rfl (lv_at hl 0 rfl) ?_
        refine va_get (D := G) (ci := 9) (v := .ref q_hasBend) (C := RX9) (T := TX9) (N := 17) hx hb hts hiX9_countsBend_X9 hown hK.1 hP 0 rfl rfl 6 (by decide) (hts (.fieldLink RX9 26 "PackedBendsModel" "hasBend" "[Z") (List.mem_of_getElem? (i := 3) rfl)) (fun _ h9 => h9) rfl dX9_countsBend_35 ?_
        refine lv_lload_n hx hb dX9_countsBend_38 rfl (lv_at hl 1 rfl) ?_
        refine lv_l2i hx hb dX9_countsBend_39 rfl ?_
        refine lv_iconst (v := 1) hx hb dX9_countsBend_40 (by decide) ?_
        obtain ⟨z7, hf⟩ := ck_s hf
        refine va_zast hx hb hK.1 hP hD hS 1 2 rfl rfl (vp_in_iff.mpr z7) dX9_countsBend_41 (fun H locs hP hD hS => ?_)
        rw [vz1] at hP hD
        have hP : va_P G vwCl [(q, .inr (9, [.ref q_bends, .ref q_rootAt, .int v_stepAt, .ref q_pile, .ref q_lastAt, .ref q_nextAt, .ref q_hasBend, .int (v_justMany + (1 : Int32)), .ref q_isMet, .ref q_queue, .ref q_sums, .ref q_kept, .ref q_isKept, .ref q_copies, .ref q_shelfMany, .ref q_shelfSort, .ref q_shelfHas])), (q_hasBend, .inl (cZ, 5001, .inl (upd v_hasBend p1.toInt32.toNatClampNeg (1 : Int32))))] H := hP
        have hD : va_D A [(q, .inr (9, [.ref q_bends, .ref q_rootAt, .int v_stepAt, .ref q_pile, .ref q_lastAt, .ref q_nextAt, .ref q_hasBend, .int (v_justMany + (1 : Int32)), .ref q_isMet, .ref q_queue, .ref q_sums, .ref q_kept, .ref q_isKept, .ref q_copies, .ref q_shelfMany, .ref q_shelfSort, .ref q_shelfHas])), (q_hasBend, .inl (cZ, 5001, .inl (upd v_hasBend p1.toInt32.toNatClampNeg (1 : Int32))))] := hD
        cases hf
        rw [← hQ]
        exact rt_v hx hb hr hlk hP hD hS dX9_countsBend_42
def pX9_turnedOn_L5 (x1 : Int32) (v_pile : (Nat → Int64)) : Nat → Int64 → Int32 → (Int64 → Int32 → Option (Int64)) → Option (Int64)
  | 0, _, _, _ => none
  | n + 1, x3, x5, k => if (4 : Int32) ≤ x5 then k x3 x5 else ck (ix (((4 : Int32) * x1) + x5) 10400) (pX9_turnedOn_L5 x1 v_pile n (x3 + (v_pile (((4 : Int32) * x1) + x5).toNatClampNeg)) (x5 + (1 : Int32)) k)
def pX9_turnedOn (n : Nat) (v_pile : (Nat → Int64)) (p1 : Int32) (p2 : Int32) : Option (Int64) := pX9_turnedOn_L5 p1 v_pile n (0 : Int64) (0 : Int32) (fun (y3_3 : Int64) (y5_3 : Int32) => ck (ix (((4 : Int32) * p1) + p2) 10400) (some (((2 : Int64) * (y3_3 - (v_pile (((4 : Int32) * p1) + p2).toNatClampNeg))) - (v_pile (((4 : Int32) * p1) + p2).toNatClampNeg))))
def rmX9_turnedOn : Room := { frames := 0, cells := 0, slots := 0, locals := 0 }
theorem hiX9_turnedOn_X9 : ∀ w ∈ u_ws RX9 TX9 17, w ∈ wsX9_turnedOn := fun _ h => List.mem_cons_of_mem _ (List.mem_append_right _ h)
set_option maxRecDepth 100000 in
set_option maxHeartbeats 4000000 in
theorem kX9_turnedOn {l : Launch} {G : va_G} {cI cJ cZ cS cG : ClassId} (n : Nat) (q q_bends q_rootAt q_pile q_lastAt q_nextAt q_hasBend q_isMet q_queue q_sums q_kept q_isKept q_copies q_shelfMany q_shelfSort q_shelfHas : Nat) (v_stepAt : Int32) (v_justMany : Int32) (v_pile : (Nat → Int64)) (p1 : Int32) (p2 : Int32) (R : Int64) (hf : pX9_turnedOn n v_pile p1 p2 = some R) : CTl l yX9_turnedOn wsX9_turnedOn rmX9_turnedOn G cI cJ cZ cS cG [.ref q, .int p1, .int p2] [(q, .inr (9, [.ref q_bends, .ref q_rootAt, .int v_stepAt, .ref q_pile, .ref q_lastAt, .ref q_nextAt, .ref q_hasBend, .int v_justMany, .ref q_isMet, .ref q_queue, .ref q_sums, .ref q_kept, .ref q_isKept, .ref q_copies, .ref q_shelfMany, .ref q_shelfSort, .ref q_shelfHas])), (q_pile, .inl (cJ, 10400, .inr (.inl v_pile)))] [(q, .inr (9, [.ref q_bends, .ref q_rootAt, .int v_stepAt, .ref q_pile, .ref q_lastAt, .ref q_nextAt, .ref q_hasBend, .int v_justMany, .ref q_isMet, .ref q_queue, .ref q_sums, .ref q_kept, .ref q_isKept, .ref q_copies, .ref q_shelfMany, .ref q_shelfSort, .ref q_shelfHas])), (q_pile, .inl (cJ, 10400, .inr (.inl v_pile)))] R := by
  refine Met.ofE (Qc := fun A => QRl G A [(q, .inr (9, [.ref q_bends, .ref q_rootAt, .int v_stepAt, .ref q_pile, .ref q_lastAt, .ref q_nextAt, .ref q_hasBend, .int v_justMany, .ref q_isMet, .ref q_queue, .ref q_sums, .ref q_kept, .ref q_isKept, .ref q_copies, .ref q_shelfMany, .ref q_shelfSort, .ref q_shelfHas])), (q_pile, .inl (cJ, 10400, .inr (.inl v_pile)))] R) (cc := cX9_turnedOn) (nL := 6) (ret := some .long) (plainFor_of_name (by decide +kernel)) rfl (Nat.le_of_ble_eq_true rfl) ?_
  intro p e s m below meth c A ls hx hb hml hr hlk hts hown hK hA hP hD hS hl
  have hown : s.vm.findClass RX9 = some m.cls := hown
  have hl : lv_has ls 6 [(0, .ref q), (1, .int p1), (2, .int p2)] := hl
  generalize hQ : MQ below (QRl G A [(q, .inr (9, [.ref q_bends, .ref q_rootAt, .int v_stepAt, .ref q_pile, .ref q_lastAt, .ref q_nextAt, .ref q_hasBend, .int v_justMany, .ref q_isMet, .ref q_queue, .ref q_sums, .ref q_kept, .ref q_isKept, .ref q_copies, .ref q_shelfMany, .ref q_shelfSort, .ref q_shelfHas])), (q_pile, .inl (cJ, 10400, .inr (.inl v_pile)))] R) ([.ref q, .int p1, .int p2] : List Value).toArray s 0 0 A = QQ
  unfold pX9_turnedOn at hf
  have hL5 : ∀ (x1 : Int32) (x2 : Int32) (k : Int64 → Int32 → Option (Int64)), (∀ (x3 : Int64) (x5 : Int32) (H : Heap) (locs : List Loc) (ls : Array Slot), k x3 x5 = some R → va_P G vwCl [(q, .inr (9, [.ref q_bends, .ref q_rootAt, .int v_stepAt, .ref q_pile, .ref q_lastAt, .ref q_nextAt, .ref q_hasBend, .int v_justMany, .ref q_isMet, .ref q_queue, .ref q_sums, .ref q_kept, .ref q_isKept, .ref q_copies, .ref q_shelfMany, .ref q_shelfSort, .ref q_shelfHas])), (q_pile, .inl (cJ, 10400, .inr (.inl v_pile)))] H → va_D A [(q, .inr (9, [.ref q_bends, .ref q_rootAt, .int v_stepAt, .ref q_pile, .ref q_lastAt, .ref q_nextAt, .ref q_hasBend, .int v_justMany, .ref q_isMet, .ref q_queue, .ref q_sums, .ref q_kept, .ref q_isKept, .ref q_copies, .ref q_shelfMany, .ref q_shelfSort, .ref q_shelfHas])), (q_pile, .inl (cJ, 10400, .inr (.inl v_pile)))] → va_S A s.heap H locs → lv_has ls 6 [(0, .ref q), (1, .int x1), (2, .int x2), (3, .long x3), (5, .int x5)] → W p l e rmX9_turnedOn s m ([.ref q, .int p1, .int p2] : List Value).toArray below meth c H locs 0 0 QQ (F0 m 31 ls [])) → ∀ (n : Nat) (x3 : Int64) (x5 : Int32) (H : Heap) (locs : List Loc) (ls : Array Slot), pX9_turnedOn_L5 x1 v_pile n x3 x5 k = some R → va_P G vwCl [(q, .inr (9, [.ref q_bends, .ref q_rootAt, .int v_stepAt, .ref q_pile, .ref q_lastAt, .ref q_nextAt, .ref q_hasBend, .int v_justMany, .ref q_isMet, .ref q_queue, .ref q_sums, .ref q_kept, .ref q_isKept, .ref q_copies, .ref q_shelfMany, .ref q_shelfSort, .ref q_shelfHas])), (q_pile, .inl (cJ, 10400, .inr (.inl v_pile)))] H → va_D A [(q, .inr (9, [.ref q_bends, .ref q_rootAt, .int v_stepAt, .ref q_pile, .ref q_lastAt, .ref q_nextAt, .ref q_hasBend, .int v_justMany, .ref q_isMet, .ref q_queue, .ref q_sums, .ref q_kept, .ref q_isKept, .ref q_copies, .ref q_shelfMany, .ref q_shelfSort, .ref q_shelfHas])), (q_pile, .inl (cJ, 10400, .inr (.inl v_pile)))] → va_S A s.heap H locs → lv_has ls 6 [(0, .ref q), (1, .int x1), (2, .int x2), (3, .long x3), (5, .int x5)] → W p l e rmX9_turnedOn s m ([.ref q, .int p1, .int p2] : List Value).toArray below meth c H locs 0 0 QQ (F0 m 5 ls []) := by
    intro x1 x2 k hk n
    induction n with
    | zero =>
      intro x3 x5 H locs ls hf
      cases hf
    | succ n ih =>
      intro x3 x5 H locs ls hf hP hD hS hl
      unfold pX9_turnedOn_L5 at hf
      refine lv_iload hx hb dX9_turnedOn_5 (lv_at hl 4 rfl) ?_
      refine lv_iconst (v := 4) hx hb dX9_turnedOn_7 (by decide) ?_
      refine lv_icmp_ge (tgt := 31) hx hb dX9_turnedOn_8 (by decide) (fun c1 => ?_) (fun c1 => ?_)
      · have hf := if_s hf c1
        exact hk x3 x5 _ _ _ hf hP hD hS (lv_sub hl [0, 1, 2, 3, 4] rfl)
      · have hf := if_n hf c1
        refine lv_lload_n hx hb dX9_turnedOn_11 rfl (lv_at hl 3 rfl) ?_
        refine lv_aload_n hx hb dX9_turnedOn_12 rfl (lv_at hl 0 rfl) ?_
        refine va_get (D := G) (ci := 9) (v := .ref q_pile) (C := RX9) (T := TX9) (N := 17) hx hb hts hiX9_turnedOn_X9 hown hK.1 hP 0 rfl rfl 3 (by decide) (hts (.fieldLink RX9 16 "PackedBendsModel" "pile" "[J") (List.mem_of_getElem? (i := 1) rfl)) (fun _ h9 => h9) rfl dX9_turnedOn_13 ?_
        refine lv_iconst (v := 4) hx hb dX9_turnedOn_16 (by decide) ?_
        refine lv_iload_n hx hb dX9_turnedOn_17 rfl (lv_at hl 1 rfl) ?_
        refine lv_imul hx hb dX9_turnedOn_18 ?_
        refine lv_iload hx hb dX9_turnedOn_19 (lv_at hl 4 rfl) ?_
        refine lv_iadd hx hb dX9_turnedOn_21 ?_
        obtain ⟨z2, hf⟩ := ck_s hf
        refine va_lald hx hb hK.1 hP 1 1 rfl rfl (vp_in_iff.mpr z2) dX9_turnedOn_22 ?_
        refine lv_ladd hx hb dX9_turnedOn_23 ?_
        refine lv_lstore_n (lv' := [(3, .long (x3 + (v_pile (((4 : Int32) * x1) + x5).toNatClampNeg))), (0, .ref q), (1, .int x1), (2, .int x2), (5, .int x5)]) hx hb dX9_turnedOn_24 rfl hl (by decide) rfl (fun ls hl => ?_)
        refine lv_iinc (v := x5 + (1 : Int32)) (lv' := [(5, .int (x5 + (1 : Int32))), (3, .long (x3 + (v_pile (((4 : Int32) * x1) + x5).toNatClampNeg))), (0, .ref q), (1, .int x1), (2, .int x2)]) hx hb dX9_turnedOn_25 hl (k := 4) rfl rfl (by decide) rfl (fun ls hl => ?_)
        refine lv_goto (tgt := 5) hx hb dX9_turnedOn_28 (by decide) ?_
        exact ih (x3 + (v_pile (((4 : Int32) * x1) + x5).toNatClampNeg)) (x5 + (1 : Int32)) _ _ _ hf hP hD hS (lv_sub hl [2, 3, 4, 1, 0] rfl)
  refine lv_lconst (v := 0) hx hb dX9_turnedOn_0 (by decide) ?_
  refine lv_lstore_n (lv' := [(3, .long (0 : Int64)), (0, .ref q), (1, .int p1), (2, .int p2)]) hx hb dX9_turnedOn_1 rfl hl (by decide) rfl (fun ls hl => ?_)
  refine lv_iconst (v := 0) hx hb dX9_turnedOn_2 (by decide) ?_
  refine lv_istore (lv' := [(5, .int (0 : Int32)), (3, .long (0 : Int64)), (0, .ref q), (1, .int p1), (2, .int p2)]) hx hb dX9_turnedOn_3 hl (by decide) rfl (fun ls hl => ?_)
  refine hL5 p1 p2 _ (fun y3_3 y5_3 H locs ls hf hP hD hS hl => ?_) n (0 : Int64) (0 : Int32) _ _ _ hf hP hD hS (lv_sub hl [2, 3, 4, 1, 0] rfl)
  have hP : va_P G vwCl [(q, .inr (9, [.ref q_bends, .ref q_rootAt, .int v_stepAt, .ref q_pile, .ref q_lastAt, .ref q_nextAt, .ref q_hasBend, .int v_justMany, .ref q_isMet, .ref q_queue, .ref q_sums, .ref q_kept, .ref q_isKept, .ref q_copies, .ref q_shelfMany, .ref q_shelfSort, .ref q_shelfHas])), (q_pile, .inl (cJ, 10400, .inr (.inl v_pile)))] H := hP
  have hD : va_D A [(q, .inr (9, [.ref q_bends, .ref q_rootAt, .int v_stepAt, .ref q_pile, .ref q_lastAt, .ref q_nextAt, .ref q_hasBend, .int v_justMany, .ref q_isMet, .ref q_queue, .ref q_sums, .ref q_kept, .ref q_isKept, .ref q_copies, .ref q_shelfMany, .ref q_shelfSort, .ref q_shelfHas])), (q_pile, .inl (cJ, 10400, .inr (.inl v_pile)))] := hD
  refine lv_ldc2 (v := 2) hx hb hown (hts (.constantLong RX9 59 (2)) (List.mem_of_getElem? (i := 2) rfl)) dX9_turnedOn_31 ?_
  refine lv_lload_n hx hb dX9_turnedOn_34 rfl (lv_at hl 3 rfl) ?_
  refine lv_aload_n hx hb dX9_turnedOn_35 rfl (lv_at hl 0 rfl) ?_
  refine va_get (D := G) (ci := 9) (v := .ref q_pile) (C := RX9) (T := TX9) (N := 17) hx hb hts hiX9_turnedOn_X9 hown hK.1 hP 0 rfl rfl 3 (by decide) (hts (.fieldLink RX9 16 "PackedBendsModel" "pile" "[J") (List.mem_of_getElem? (i := 1) rfl)) (fun _ h9 => h9) rfl dX9_turnedOn_36 ?_
  refine lv_iconst (v := 4) hx hb dX9_turnedOn_39 (by decide) ?_
  refine lv_iload_n hx hb dX9_turnedOn_40 rfl (lv_at hl 1 rfl) ?_
  refine lv_imul hx hb dX9_turnedOn_41 ?_
  refine lv_iload_n hx hb dX9_turnedOn_42 rfl (lv_at hl 2 rfl) ?_
  refine lv_iadd hx hb dX9_turnedOn_43 ?_
  obtain ⟨z4, hf⟩ := ck_s hf
  refine va_lald hx hb hK.1 hP 1 1 rfl rfl (vp_in_iff.mpr z4) dX9_turnedOn_44 ?_
  refine lv_lsub hx hb dX9_turnedOn_45 ?_
  refine lv_lmul hx hb dX9_turnedOn_46 ?_
  refine lv_aload_n hx hb dX9_turnedOn_47 rfl (lv_at hl 0 rfl) ?_
  refine va_get (D := G) (ci := 9) (v := .ref q_pile) (C := RX9) (T := TX9) (N := 17) hx hb hts hiX9_turnedOn_X9 hown hK.1 hP 0 rfl rfl 3 (by decide) (hts (.fieldLink RX9 16 "PackedBendsModel" "pile" "[J") (List.mem_of_getElem? (i := 1) rfl)) (fun _ h9 => h9) rfl dX9_turnedOn_48 ?_
  refine lv_iconst (v := 4) hx hb dX9_turnedOn_51 (by decide) ?_
  refine lv_iload_n hx hb dX9_turnedOn_52 rfl (lv_at hl 1 rfl) ?_
  refine lv_imul hx hb dX9_turnedOn_53 ?_
  refine lv_iload_n hx hb dX9_turnedOn_54 rfl (lv_at hl 2 rfl) ?_
  refine lv_iadd hx hb dX9_turnedOn_55 ?_
  refine va_lald hx hb hK.1 hP 1 1 rfl rfl (vp_in_iff.mpr z4) dX9_turnedOn_56 ?_
  refine lv_lsub hx hb dX9_turnedOn_57 ?_
  cases hf
  rw [← hQ]
  exact rt_l hx hb hr hlk hP hD hS rfl dX9_turnedOn_58
def pX9_lays_L3 (x1 : Int32) (x2 : Int32) (x3 : Int64) (v_rootAt : (Nat → Int64)) : Nat → Int32 → (Nat → Int64) → (Int32 → (Nat → Int64) → Option ((Nat → Int64) × (Nat → Int32) × (Nat → Int32))) → Option ((Nat → Int64) × (Nat → Int32) × (Nat → Int32))
  | 0, _, _, _ => none
  | n + 1, x5, v_pile, k => if (4 : Int32) ≤ x5 then k x5 v_pile else if x5 = x2 then ck (ix (((4 : Int32) * x1) + x5) 10400) (pX9_lays_L3 x1 x2 x3 v_rootAt n (x5 + (1 : Int32)) (vp_updL v_pile (((4 : Int32) * x1) + x5).toNatClampNeg x3) k) else if x1 = 0 then ck (ix x5 4) (ck (ix (((4 : Int32) * x1) + x5) 10400) (pX9_lays_L3 x1 x2 x3 v_rootAt n (x5 + (1 : Int32)) (vp_updL v_pile (((4 : Int32) * x1) + x5).toNatClampNeg (v_rootAt x5.toNatClampNeg)) k)) else ck (ix (((4 : Int32) * (x1 - (1 : Int32))) + x5) 10400) (ck (ix (((4 : Int32) * x1) + x5) 10400) (pX9_lays_L3 x1 x2 x3 v_rootAt n (x5 + (1 : Int32)) (vp_updL v_pile (((4 : Int32) * x1) + x5).toNatClampNeg (v_pile (((4 : Int32) * (x1 - (1 : Int32))) + x5).toNatClampNeg)) k))
def pX9_lays (n : Nat) (v_rootAt : (Nat → Int64)) (v_pile : (Nat → Int64)) (v_lastAt : (Nat → Int32)) (v_nextAt : (Nat → Int32)) (p1 : Int32) (p2 : Int32) (p3 : Int64) : Option ((Nat → Int64) × (Nat → Int32) × (Nat → Int32)) := pX9_lays_L3 p1 p2 p3 v_rootAt n (0 : Int32) v_pile (fun (y5_9 : Int32) (u9_pile : (Nat → Int64)) => ck (ix p1 2600) (some (u9_pile, upd v_lastAt p1.toNatClampNeg p2, upd v_nextAt p1.toNatClampNeg (0 : Int32))))
def rmX9_lays : Room := { frames := 0, cells := 0, slots := 0, locals := 0 }
theorem hiX9_lays_X9 : ∀ w ∈ u_ws RX9 TX9 17, w ∈ wsX9_lays := fun _ h => List.mem_cons_of_mem _ (List.mem_append_right _ h)
set_option maxRecDepth 100000 in
set_option maxHeartbeats 4000000 in
theorem kX9_lays {l : Launch} {G : va_G} {cI cJ cZ cS cG : ClassId} (n : Nat) (q q_bends q_rootAt q_pile q_lastAt q_nextAt q_hasBend q_isMet q_queue q_sums q_kept q_isKept q_copies q_shelfMany q_shelfSort q_shelfHas : Nat) (v_stepAt : Int32) (v_justMany : Int32) (v_rootAt : (Nat → Int64)) (v_pile : (Nat → Int64)) (v_lastAt : (Nat → Int32)) (v_nextAt : (Nat → Int32)) (p1 : Int32) (p2 : Int32) (p3 : Int64) (R : (Nat → Int64) × (Nat → Int32) × (Nat → Int32)) (hf : pX9_lays n v_rootAt v_pile v_lastAt v_nextAt p1 p2 p3 = some R) : CTv l yX9_lays wsX9_lays rmX9_lays G cI cJ cZ cS cG [.ref q, .int p1, .int p2, .long p3] [(q, .inr (9, [.ref q_bends, .ref q_rootAt, .int v_stepAt, .ref q_pile, .ref q_lastAt, .ref q_nextAt, .ref q_hasBend, .int v_justMany, .ref q_isMet, .ref q_queue, .ref q_sums, .ref q_kept, .ref q_isKept, .ref q_copies, .ref q_shelfMany, .ref q_shelfSort, .ref q_shelfHas])), (q_rootAt, .inl (cJ, 4, .inr (.inl v_rootAt))), (q_pile, .inl (cJ, 10400, .inr (.inl v_pile))), (q_lastAt, .inl (cI, 2600, .inl v_lastAt)), (q_nextAt, .inl (cI, 2600, .inl v_nextAt))] [(q, .inr (9, [.ref q_bends, .ref q_rootAt, .int v_stepAt, .ref q_pile, .ref q_lastAt, .ref q_nextAt, .ref q_hasBend, .int v_justMany, .ref q_isMet, .ref q_queue, .ref q_sums, .ref q_kept, .ref q_isKept, .ref q_copies, .ref q_shelfMany, .ref q_shelfSort, .ref q_shelfHas])), (q_rootAt, .inl (cJ, 4, .inr (.inl v_rootAt))), (q_pile, .inl (cJ, 10400, .inr (.inl R.1))), (q_lastAt, .inl (cI, 2600, .inl R.2.1)), (q_nextAt, .inl (cI, 2600, .inl R.2.2))] := by
  refine Met.ofE (Qc := fun A => QRv G A [(q, .inr (9, [.ref q_bends, .ref q_rootAt, .int v_stepAt, .ref q_pile, .ref q_lastAt, .ref q_nextAt, .ref q_hasBend, .int v_justMany, .ref q_isMet, .ref q_queue, .ref q_sums, .ref q_kept, .ref q_isKept, .ref q_copies, .ref q_shelfMany, .ref q_shelfSort, .ref q_shelfHas])), (q_rootAt, .inl (cJ, 4, .inr (.inl v_rootAt))), (q_pile, .inl (cJ, 10400, .inr (.inl R.1))), (q_lastAt, .inl (cI, 2600, .inl R.2.1)), (q_nextAt, .inl (cI, 2600, .inl R.2.2))]) (cc := cX9_lays) (nL := 6) (ret := none) (plainFor_of_name (by decide +kernel)) rfl (Nat.le_of_ble_eq_true rfl) ?_
  intro p e s m below meth c A ls hx hb hml hr hlk hts hown hK hA hP hD hS hl
  have hown : s.vm.findClass RX9 = some m.cls := hown
  have hl : lv_has ls 6 [(0, .ref q), (1, .int p1), (2, .int p2), (3, .long p3)] := hl
  generalize hQ : MQ below (QRv G A [(q, .inr (9, [.ref q_bends, .ref q_rootAt, .int v_stepAt, .ref q_pile, .ref q_lastAt, .ref q_nextAt, .ref q_hasBend, .int v_justMany, .ref q_isMet, .ref q_queue, .ref q_sums, .ref q_kept, .ref q_isKept, .ref q_copies, .ref q_shelfMany, .ref q_shelfSort, .ref q_shelfHas])), (q_rootAt, .inl (cJ, 4, .inr (.inl v_rootAt))), (q_pile, .inl (cJ, 10400, .inr (.inl R.1))), (q_lastAt, .inl (cI, 2600, .inl R.2.1)), (q_nextAt, .inl (cI, 2600, .inl R.2.2))]) ([.ref q, .int p1, .int p2, .long p3] : List Value).toArray s 0 0 A = QQ
  unfold pX9_lays at hf
  have hL3 : ∀ (x1 : Int32) (x2 : Int32) (x3 : Int64) (v_lastAt : (Nat → Int32)) (v_nextAt : (Nat → Int32)) (k : Int32 → (Nat → Int64) → Option ((Nat → Int64) × (Nat → Int32) × (Nat → Int32))), (∀ (x5 : Int32) (v_pile : (Nat → Int64)) (H : Heap) (locs : List Loc) (ls : Array Slot), k x5 v_pile = some R → va_P G vwCl [(q, .inr (9, [.ref q_bends, .ref q_rootAt, .int v_stepAt, .ref q_pile, .ref q_lastAt, .ref q_nextAt, .ref q_hasBend, .int v_justMany, .ref q_isMet, .ref q_queue, .ref q_sums, .ref q_kept, .ref q_isKept, .ref q_copies, .ref q_shelfMany, .ref q_shelfSort, .ref q_shelfHas])), (q_rootAt, .inl (cJ, 4, .inr (.inl v_rootAt))), (q_pile, .inl (cJ, 10400, .inr (.inl v_pile))), (q_lastAt, .inl (cI, 2600, .inl v_lastAt)), (q_nextAt, .inl (cI, 2600, .inl v_nextAt))] H → va_D A [(q, .inr (9, [.ref q_bends, .ref q_rootAt, .int v_stepAt, .ref q_pile, .ref q_lastAt, .ref q_nextAt, .ref q_hasBend, .int v_justMany, .ref q_isMet, .ref q_queue, .ref q_sums, .ref q_kept, .ref q_isKept, .ref q_copies, .ref q_shelfMany, .ref q_shelfSort, .ref q_shelfHas])), (q_rootAt, .inl (cJ, 4, .inr (.inl v_rootAt))), (q_pile, .inl (cJ, 10400, .inr (.inl v_pile))), (q_lastAt, .inl (cI, 2600, .inl v_lastAt)), (q_nextAt, .inl (cI, 2600, .inl v_nextAt))] → va_S A s.heap H locs → lv_has ls 6 [(0, .ref q), (1, .int x1), (2, .int x2), (3, .long x3), (5, .int x5)] → W p l e rmX9_lays s m ([.ref q, .int p1, .int p2, .long p3] : List Value).toArray below meth c H locs 0 0 QQ (F0 m 63 ls [])) → ∀ (n : Nat) (x5 : Int32) (v_pile : (Nat → Int64)) (H : Heap) (locs : List Loc) (ls : Array Slot), pX9_lays_L3 x1 x2 x3 v_rootAt n x5 v_pile k = some R → va_P G vwCl [(q, .inr (9, [.ref q_bends, .ref q_rootAt, .int v_stepAt, .ref q_pile, .ref q_lastAt, .ref q_nextAt, .ref q_hasBend, .int v_justMany, .ref q_isMet, .ref q_queue, .ref q_sums, .ref q_kept, .ref q_isKept, .ref q_copies, .ref q_shelfMany, .ref q_shelfSort, .ref q_shelfHas])), (q_rootAt, .inl (cJ, 4, .inr (.inl v_rootAt))), (q_pile, .inl (cJ, 10400, .inr (.inl v_pile))), (q_lastAt, .inl (cI, 2600, .inl v_lastAt)), (q_nextAt, .inl (cI, 2600, .inl v_nextAt))] H → va_D A [(q, .inr (9, [.ref q_bends, .ref q_rootAt, .int v_stepAt, .ref q_pile, .ref q_lastAt, .ref q_nextAt, .ref q_hasBend, .int v_justMany, .ref q_isMet, .ref q_queue, .ref q_sums, .ref q_kept, .ref q_isKept, .ref q_copies, .ref q_shelfMany, .ref q_shelfSort, .ref q_shelfHas])), (q_rootAt, .inl (cJ, 4, .inr (.inl v_rootAt))), (q_pile, .inl (cJ, 10400, .inr (.inl v_pile))), (q_lastAt, .inl (cI, 2600, .inl v_lastAt)), (q_nextAt, .inl (cI, 2600, .inl v_nextAt))] → va_S A s.heap H locs → lv_has ls 6 [(0, .ref q), (1, .int x1), (2, .int x2), (3, .long x3), (5, .int x5)] → W p l e rmX9_lays s m ([.ref q, .int p1, .int p2, .long p3] : List Value).toArray below meth c H locs 0 0 QQ (F0 m 3 ls []) := by
    intro x1 x2 x3 v_lastAt v_nextAt k hk n
    induction n with
    | zero =>
      intro x5 v_pile H locs ls hf
      cases hf
    | succ n ih =>
      intro x5 v_pile H locs ls hf hP hD hS hl
      unfold pX9_lays_L3 at hf
      refine lv_iload hx hb dX9_lays_3 (lv_at hl 4 rfl) ?_
      refine lv_iconst (v := 4) hx hb dX9_lays_5 (by decide) ?_
      refine lv_icmp_ge (tgt := 63) hx hb dX9_lays_6 (by decide) (fun c1 => ?_) (fun c1 => ?_)
      · have hf := if_s hf c1
        exact hk x5 v_pile _ _ _ hf hP hD hS (lv_sub hl [0, 1, 2, 3, 4] rfl)
      · have hf := if_n hf c1
        refine lv_aload_n hx hb dX9_lays_9 rfl (lv_at hl 0 rfl) ?_
        refine va_get (D := G) (ci := 9) (v := .ref q_pile) (C := RX9) (T := TX9) (N := 17) hx hb hts hiX9_lays_X9 hown hK.1 hP 0 rfl rfl 3 (by decide) (hts (.fieldLink RX9 16 "PackedBendsModel" "pile" "[J") (List.mem_of_getElem? (i := 1) rfl)) (fun _ h9 => h9) rfl dX9_lays_10 ?_
        refine lv_iconst (v := 4) hx hb dX9_lays_13 (by decide) ?_
        refine lv_iload_n hx hb dX9_lays_14 rfl (lv_at hl 1 rfl) ?_
        refine lv_imul hx hb dX9_lays_15 ?_
        refine lv_iload hx hb dX9_lays_16 (lv_at hl 4 rfl) ?_
        refine lv_iadd hx hb dX9_lays_18 ?_
        refine lv_iload hx hb dX9_lays_19 (lv_at hl 4 rfl) ?_
        refine lv_iload_n hx hb dX9_lays_21 rfl (lv_at hl 2 rfl) ?_
        refine lv_icmp_ne (tgt := 29) hx hb dX9_lays_22 (by decide) (fun c2 => ?_) (fun c2 => ?_)
        · have hf := if_n hf c2
          refine lv_iload_n hx hb dX9_lays_29 rfl (lv_at hl 1 rfl) ?_
          refine lv_if_ne (tgt := 43) hx hb dX9_lays_30 (by decide) (fun c3 => ?_) (fun c3 => ?_)
          · have hf := if_n hf c3
            refine lv_aload_n hx hb dX9_lays_43 rfl (lv_at hl 0 rfl) ?_
            refine va_get (D := G) (ci := 9) (v := .ref q_pile) (C := RX9) (T := TX9) (N := 17) hx hb hts hiX9_lays_X9 hown hK.1 hP 0 rfl rfl 3 (by decide) (hts (.fieldLink RX9 16 "PackedBendsModel" "pile" "[J") (List.mem_of_getElem? (i := 1) rfl)) (fun _ h9 => h9) rfl dX9_lays_44 ?_
            refine lv_iconst (v := 4) hx hb dX9_lays_47 (by decide) ?_
            refine lv_iload_n hx hb dX9_lays_48 rfl (lv_at hl 1 rfl) ?_
            refine lv_iconst (v := 1) hx hb dX9_lays_49 (by decide) ?_
            refine lv_isub hx hb dX9_lays_50 ?_
            refine lv_imul hx hb dX9_lays_51 ?_
            refine lv_iload hx hb dX9_lays_52 (lv_at hl 4 rfl) ?_
            refine lv_iadd hx hb dX9_lays_54 ?_
            obtain ⟨z4, hf⟩ := ck_s hf
            refine va_lald hx hb hK.1 hP 2 1 rfl rfl (vp_in_iff.mpr z4) dX9_lays_55 ?_
            obtain ⟨z5, hf⟩ := ck_s hf
            refine va_last hx hb hK.1 hP hD hS 2 1 rfl rfl (vp_in_iff.mpr z5) dX9_lays_56 (fun H locs hP hD hS => ?_)
            have hP : va_P G vwCl [(q, .inr (9, [.ref q_bends, .ref q_rootAt, .int v_stepAt, .ref q_pile, .ref q_lastAt, .ref q_nextAt, .ref q_hasBend, .int v_justMany, .ref q_isMet, .ref q_queue, .ref q_sums, .ref q_kept, .ref q_isKept, .ref q_copies, .ref q_shelfMany, .ref q_shelfSort, .ref q_shelfHas])), (q_rootAt, .inl (cJ, 4, .inr (.inl v_rootAt))), (q_pile, .inl (cJ, 10400, .inr (.inl (vp_updL v_pile (((4 : Int32) * x1) + x5).toNatClampNeg (v_pile (((4 : Int32) * (x1 - (1 : Int32))) + x5).toNatClampNeg))))), (q_lastAt, .inl (cI, 2600, .inl v_lastAt)), (q_nextAt, .inl (cI, 2600, .inl v_nextAt))] H := hP
            have hD : va_D A [(q, .inr (9, [.ref q_bends, .ref q_rootAt, .int v_stepAt, .ref q_pile, .ref q_lastAt, .ref q_nextAt, .ref q_hasBend, .int v_justMany, .ref q_isMet, .ref q_queue, .ref q_sums, .ref q_kept, .ref q_isKept, .ref q_copies, .ref q_shelfMany, .ref q_shelfSort, .ref q_shelfHas])), (q_rootAt, .inl (cJ, 4, .inr (.inl v_rootAt))), (q_pile, .inl (cJ, 10400, .inr (.inl (vp_updL v_pile (((4 : Int32) * x1) + x5).toNatClampNeg (v_pile (((4 : Int32) * (x1 - (1 : Int32))) + x5).toNatClampNeg))))), (q_lastAt, .inl (cI, 2600, .inl v_lastAt)), (q_nextAt, .inl (cI, 2600, .inl v_nextAt))] := hD
            refine lv_iinc (v := x5 + (1 : Int32)) (lv' := [(5, .int (x5 + (1 : Int32))), (0, .ref q), (1, .int x1), (2, .int x2), (3, .long x3)]) hx hb dX9_lays_57 hl (k := 4) rfl rfl (by decide) rfl (fun ls hl => ?_)
            refine lv_goto (tgt := 3) hx hb dX9_lays_60 (by decide) ?_
            exact ih (x5 + (1 : Int32)) (vp_updL v_pile (((4 : Int32) * x1) + x5).toNatClampNeg (v_pile (((4 : Int32) * (x1 - (1 : Int32))) + x5).toNatClampNeg)) _ _ _ hf hP hD hS (lv_sub hl [1, 2, 3, 4, 0] rfl)
          · have hf := if_s hf c3
            refine lv_aload_n hx hb dX9_lays_33 rfl (lv_at hl 0 rfl) ?_
            refine va_get (D := G) (ci := 9) (v := .ref q_rootAt) (C := RX9) (T := TX9) (N := 17) hx hb hts hiX9_lays_X9 hown hK.1 hP 0 rfl rfl 1 (by decide) (hts (.fieldLink RX9 13 "PackedBendsModel" "rootAt" "[J") (List.mem_of_getElem? (i := 2) rfl)) (fun _ h9 => h9) rfl dX9_lays_34 ?_
            refine lv_iload hx hb dX9_lays_37 (lv_at hl 4 rfl) ?_
            obtain ⟨z6, hf⟩ := ck_s hf
            refine va_lald hx hb hK.1 hP 1 1 rfl rfl (vp_in_iff.mpr z6) dX9_lays_39 ?_
            refine lv_goto (tgt := 56) hx hb dX9_lays_40 (by decide) ?_
            obtain ⟨z7, hf⟩ := ck_s hf
            refine va_last hx hb hK.1 hP hD hS 2 1 rfl rfl (vp_in_iff.mpr z7) dX9_lays_56 (fun H locs hP hD hS => ?_)
            have hP : va_P G vwCl [(q, .inr (9, [.ref q_bends, .ref q_rootAt, .int v_stepAt, .ref q_pile, .ref q_lastAt, .ref q_nextAt, .ref q_hasBend, .int v_justMany, .ref q_isMet, .ref q_queue, .ref q_sums, .ref q_kept, .ref q_isKept, .ref q_copies, .ref q_shelfMany, .ref q_shelfSort, .ref q_shelfHas])), (q_rootAt, .inl (cJ, 4, .inr (.inl v_rootAt))), (q_pile, .inl (cJ, 10400, .inr (.inl (vp_updL v_pile (((4 : Int32) * x1) + x5).toNatClampNeg (v_rootAt x5.toNatClampNeg))))), (q_lastAt, .inl (cI, 2600, .inl v_lastAt)), (q_nextAt, .inl (cI, 2600, .inl v_nextAt))] H := hP
            have hD : va_D A [(q, .inr (9, [.ref q_bends, .ref q_rootAt, .int v_stepAt, .ref q_pile, .ref q_lastAt, .ref q_nextAt, .ref q_hasBend, .int v_justMany, .ref q_isMet, .ref q_queue, .ref q_sums, .ref q_kept, .ref q_isKept, .ref q_copies, .ref q_shelfMany, .ref q_shelfSort, .ref q_shelfHas])), (q_rootAt, .inl (cJ, 4, .inr (.inl v_rootAt))), (q_pile, .inl (cJ, 10400, .inr (.inl (vp_updL v_pile (((4 : Int32) * x1) + x5).toNatClampNeg (v_rootAt x5.toNatClampNeg))))), (q_lastAt, .inl (cI, 2600, .inl v_lastAt)), (q_nextAt, .inl (cI, 2600, .inl v_nextAt))] := hD
            refine lv_iinc (v := x5 + (1 : Int32)) (lv' := [(5, .int (x5 + (1 : Int32))), (0, .ref q), (1, .int x1), (2, .int x2), (3, .long x3)]) hx hb dX9_lays_57 hl (k := 4) rfl rfl (by decide) rfl (fun ls hl => ?_)
            refine lv_goto (tgt := 3) hx hb dX9_lays_60 (by decide) ?_
            exact ih (x5 + (1 : Int32)) (vp_updL v_pile (((4 : Int32) * x1) + x5).toNatClampNeg (v_rootAt x5.toNatClampNeg)) _ _ _ hf hP hD hS (lv_sub hl [1, 2, 3, 4, 0] rfl)
        · have hf := if_s hf c2
          refine lv_lload_n hx hb dX9_lays_25 rfl (lv_at hl 3 rfl) ?_
          refine lv_goto (tgt := 56) hx hb dX9_lays_26 (by decide) ?_
          obtain ⟨z8, hf⟩ := ck_s hf
          refine va_last hx hb hK.1 hP hD hS 2 1 rfl rfl (vp_in_iff.mpr z8) dX9_lays_56 (fun H locs hP hD hS => ?_)
          have hP : va_P G vwCl [(q, .inr (9, [.ref q_bends, .ref q_rootAt, .int v_stepAt, .ref q_pile, .ref q_lastAt, .ref q_nextAt, .ref q_hasBend, .int v_justMany, .ref q_isMet, .ref q_queue, .ref q_sums, .ref q_kept, .ref q_isKept, .ref q_copies, .ref q_shelfMany, .ref q_shelfSort, .ref q_shelfHas])), (q_rootAt, .inl (cJ, 4, .inr (.inl v_rootAt))), (q_pile, .inl (cJ, 10400, .inr (.inl (vp_updL v_pile (((4 : Int32) * x1) + x5).toNatClampNeg x3)))), (q_lastAt, .inl (cI, 2600, .inl v_lastAt)), (q_nextAt, .inl (cI, 2600, .inl v_nextAt))] H := hP
          have hD : va_D A [(q, .inr (9, [.ref q_bends, .ref q_rootAt, .int v_stepAt, .ref q_pile, .ref q_lastAt, .ref q_nextAt, .ref q_hasBend, .int v_justMany, .ref q_isMet, .ref q_queue, .ref q_sums, .ref q_kept, .ref q_isKept, .ref q_copies, .ref q_shelfMany, .ref q_shelfSort, .ref q_shelfHas])), (q_rootAt, .inl (cJ, 4, .inr (.inl v_rootAt))), (q_pile, .inl (cJ, 10400, .inr (.inl (vp_updL v_pile (((4 : Int32) * x1) + x5).toNatClampNeg x3)))), (q_lastAt, .inl (cI, 2600, .inl v_lastAt)), (q_nextAt, .inl (cI, 2600, .inl v_nextAt))] := hD
          refine lv_iinc (v := x5 + (1 : Int32)) (lv' := [(5, .int (x5 + (1 : Int32))), (0, .ref q), (1, .int x1), (2, .int x2), (3, .long x3)]) hx hb dX9_lays_57 hl (k := 4) rfl rfl (by decide) rfl (fun ls hl => ?_)
          refine lv_goto (tgt := 3) hx hb dX9_lays_60 (by decide) ?_
          exact ih (x5 + (1 : Int32)) (vp_updL v_pile (((4 : Int32) * x1) + x5).toNatClampNeg x3) _ _ _ hf hP hD hS (lv_sub hl [1, 2, 3, 4, 0] rfl)
  refine lv_iconst (v := 0) hx hb dX9_lays_0 (by decide) ?_
  refine lv_istore (lv' := [(5, .int (0 : Int32)), (0, .ref q), (1, .int p1), (2, .int p2), (3, .long p3)]) hx hb dX9_lays_1 hl (by decide) rfl (fun ls hl => ?_)
  refine hL3 p1 p2 p3 v_lastAt v_nextAt _ (fun y5_9 u9_pile H locs ls hf hP hD hS hl => ?_) n (0 : Int32) v_pile _ _ _ hf hP hD hS (lv_sub hl [1, 2, 3, 4, 0] rfl)
  have hP : va_P G vwCl [(q, .inr (9, [.ref q_bends, .ref q_rootAt, .int v_stepAt, .ref q_pile, .ref q_lastAt, .ref q_nextAt, .ref q_hasBend, .int v_justMany, .ref q_isMet, .ref q_queue, .ref q_sums, .ref q_kept, .ref q_isKept, .ref q_copies, .ref q_shelfMany, .ref q_shelfSort, .ref q_shelfHas])), (q_rootAt, .inl (cJ, 4, .inr (.inl v_rootAt))), (q_pile, .inl (cJ, 10400, .inr (.inl u9_pile))), (q_lastAt, .inl (cI, 2600, .inl v_lastAt)), (q_nextAt, .inl (cI, 2600, .inl v_nextAt))] H := hP
  have hD : va_D A [(q, .inr (9, [.ref q_bends, .ref q_rootAt, .int v_stepAt, .ref q_pile, .ref q_lastAt, .ref q_nextAt, .ref q_hasBend, .int v_justMany, .ref q_isMet, .ref q_queue, .ref q_sums, .ref q_kept, .ref q_isKept, .ref q_copies, .ref q_shelfMany, .ref q_shelfSort, .ref q_shelfHas])), (q_rootAt, .inl (cJ, 4, .inr (.inl v_rootAt))), (q_pile, .inl (cJ, 10400, .inr (.inl u9_pile))), (q_lastAt, .inl (cI, 2600, .inl v_lastAt)), (q_nextAt, .inl (cI, 2600, .inl v_nextAt))] := hD
  refine lv_aload_n hx hb dX9_lays_63 rfl (lv_at hl 0 rfl) ?_
  refine va_get (D := G) (ci := 9) (v := .ref q_lastAt) (C := RX9) (T := TX9) (N := 17) hx hb hts hiX9_lays_X9 hown hK.1 hP 0 rfl rfl 4 (by decide) (hts (.fieldLink RX9 19 "PackedBendsModel" "lastAt" "[I") (List.mem_of_getElem? (i := 3) rfl)) (fun _ h9 => h9) rfl dX9_lays_64 ?_
  refine lv_iload_n hx hb dX9_lays_67 rfl (lv_at hl 1 rfl) ?_
  refine lv_iload_n hx hb dX9_lays_68 rfl (lv_at hl 2 rfl) ?_
  obtain ⟨z10, hf⟩ := ck_s hf
  refine va_iast hx hb hK.1 hP hD hS 3 0 rfl rfl (vp_in_iff.mpr z10) dX9_lays_69 (fun H locs hP hD hS => ?_)
  have hP : va_P G vwCl [(q, .inr (9, [.ref q_bends, .ref q_rootAt, .int v_stepAt, .ref q_pile, .ref q_lastAt, .ref q_nextAt, .ref q_hasBend, .int v_justMany, .ref q_isMet, .ref q_queue, .ref q_sums, .ref q_kept, .ref q_isKept, .ref q_copies, .ref q_shelfMany, .ref q_shelfSort, .ref q_shelfHas])), (q_rootAt, .inl (cJ, 4, .inr (.inl v_rootAt))), (q_pile, .inl (cJ, 10400, .inr (.inl u9_pile))), (q_lastAt, .inl (cI, 2600, .inl (upd v_lastAt p1.toNatClampNeg p2))), (q_nextAt, .inl (cI, 2600, .inl v_nextAt))] H := hP
  have hD : va_D A [(q, .inr (9, [.ref q_bends, .ref q_rootAt, .int v_stepAt, .ref q_pile, .ref q_lastAt, .ref q_nextAt, .ref q_hasBend, .int v_justMany, .ref q_isMet, .ref q_queue, .ref q_sums, .ref q_kept, .ref q_isKept, .ref q_copies, .ref q_shelfMany, .ref q_shelfSort, .ref q_shelfHas])), (q_rootAt, .inl (cJ, 4, .inr (.inl v_rootAt))), (q_pile, .inl (cJ, 10400, .inr (.inl u9_pile))), (q_lastAt, .inl (cI, 2600, .inl (upd v_lastAt p1.toNatClampNeg p2))), (q_nextAt, .inl (cI, 2600, .inl v_nextAt))] := hD
  refine lv_aload_n hx hb dX9_lays_70 rfl (lv_at hl 0 rfl) ?_
  refine va_get (D := G) (ci := 9) (v := .ref q_nextAt) (C := RX9) (T := TX9) (N := 17) hx hb hts hiX9_lays_X9 hown hK.1 hP 0 rfl rfl 5 (by decide) (hts (.fieldLink RX9 23 "PackedBendsModel" "nextAt" "[I") (List.mem_of_getElem? (i := 4) rfl)) (fun _ h9 => h9) rfl dX9_lays_71 ?_
  refine lv_iload_n hx hb dX9_lays_74 rfl (lv_at hl 1 rfl) ?_
  refine lv_iconst (v := 0) hx hb dX9_lays_75 (by decide) ?_
  refine va_iast hx hb hK.1 hP hD hS 4 0 rfl rfl (vp_in_iff.mpr z10) dX9_lays_76 (fun H locs hP hD hS => ?_)
  have hP : va_P G vwCl [(q, .inr (9, [.ref q_bends, .ref q_rootAt, .int v_stepAt, .ref q_pile, .ref q_lastAt, .ref q_nextAt, .ref q_hasBend, .int v_justMany, .ref q_isMet, .ref q_queue, .ref q_sums, .ref q_kept, .ref q_isKept, .ref q_copies, .ref q_shelfMany, .ref q_shelfSort, .ref q_shelfHas])), (q_rootAt, .inl (cJ, 4, .inr (.inl v_rootAt))), (q_pile, .inl (cJ, 10400, .inr (.inl u9_pile))), (q_lastAt, .inl (cI, 2600, .inl (upd v_lastAt p1.toNatClampNeg p2))), (q_nextAt, .inl (cI, 2600, .inl (upd v_nextAt p1.toNatClampNeg (0 : Int32))))] H := hP
  have hD : va_D A [(q, .inr (9, [.ref q_bends, .ref q_rootAt, .int v_stepAt, .ref q_pile, .ref q_lastAt, .ref q_nextAt, .ref q_hasBend, .int v_justMany, .ref q_isMet, .ref q_queue, .ref q_sums, .ref q_kept, .ref q_isKept, .ref q_copies, .ref q_shelfMany, .ref q_shelfSort, .ref q_shelfHas])), (q_rootAt, .inl (cJ, 4, .inr (.inl v_rootAt))), (q_pile, .inl (cJ, 10400, .inr (.inl u9_pile))), (q_lastAt, .inl (cI, 2600, .inl (upd v_lastAt p1.toNatClampNeg p2))), (q_nextAt, .inl (cI, 2600, .inl (upd v_nextAt p1.toNatClampNeg (0 : Int32))))] := hD
  cases hf
  rw [← hQ]
  exact rt_v hx hb hr hlk hP hD hS dX9_lays_77
def pX9_goesUpTo_L11 (x1 : Int64) (x4 : Int64) (v_rootAt : (Nat → Int64)) : Nat → Int32 → Int32 → Int32 → (Nat → Int32) → (Int32 → Int32 → Int32 → (Nat → Int32) → Option (Int32 × Int32 × (Nat → Int64) × (Nat → Int32) × (Nat → Int32) × (Nat → Int32))) → Option (Int32 × Int32 × (Nat → Int64) × (Nat → Int32) × (Nat → Int32) × (Nat → Int32))
  | 0, _, _, _, _, _ => none
  | n + 1, x6, x7, v_justMany, v_hasBend, k => if (4 : Int32) ≤ x7 then k x6 x7 v_justMany v_hasBend else ck (ix x7 4) (if x1 < (v_rootAt x7.toNatClampNeg) then pX9_goesUpTo_L11 x1 x4 v_rootAt n x6 (x7 + (1 : Int32)) v_justMany v_hasBend k else Option.bind (pX9_countsBend v_justMany v_hasBend (v_rootAt x7.toNatClampNeg) x4) (fun r4 => pX9_goesUpTo_L11 x1 x4 v_rootAt n (x6 + (1 : Int32)) (x7 + (1 : Int32)) r4.1 r4.2 k))
def pX9_goesUpTo_L62 (x1 : Int64) (x3 : Int32) (x4 : Int64) (v_rootAt : (Nat → Int64)) : Nat → Int32 → Int32 → Int32 → (Nat → Int64) → (Nat → Int32) → (Nat → Int32) → (Nat → Int32) → (Int32 → Int32 → Int32 → (Nat → Int64) → (Nat → Int32) → (Nat → Int32) → (Nat → Int32) → Option (Int32 × Int32 × (Nat → Int64) × (Nat → Int32) × (Nat → Int32) × (Nat → Int32))) → Option (Int32 × Int32 × (Nat → Int64) × (Nat → Int32) × (Nat → Int32) × (Nat → Int32))
  | 0, _, _, _, _, _, _, _, _ => none
  | n + 1, x6, x7, v_justMany, v_pile, v_lastAt, v_nextAt, v_hasBend, k => if x7 < 0 then k x6 x7 v_justMany v_pile v_lastAt v_nextAt v_hasBend else if x3 ≤ x6 then k x6 x7 v_justMany v_pile v_lastAt v_nextAt v_hasBend else ck (ix x7 2600) (if (v_nextAt x7.toNatClampNeg) = (4 : Int32) then pX9_goesUpTo_L62 x1 x3 x4 v_rootAt n x6 (x7 + (-1 : Int32)) v_justMany v_pile v_lastAt (upd v_nextAt x7.toNatClampNeg ((v_nextAt x7.toNatClampNeg) + (1 : Int32))) v_hasBend k else if (v_nextAt x7.toNatClampNeg) = (v_lastAt x7.toNatClampNeg) then pX9_goesUpTo_L62 x1 x3 x4 v_rootAt n x6 x7 v_justMany v_pile v_lastAt (upd v_nextAt x7.toNatClampNeg ((v_nextAt x7.toNatClampNeg) + (1 : Int32))) v_hasBend k else Option.bind (pX9_turnedOn n v_pile x7 (v_nextAt x7.toNatClampNeg)) (fun r12 => if x1 < r12 then pX9_goesUpTo_L62 x1 x3 x4 v_rootAt n x6 x7 v_justMany v_pile v_lastAt (upd v_nextAt x7.toNatClampNeg ((v_nextAt x7.toNatClampNeg) + (1 : Int32))) v_hasBend k else Option.bind (pX9_countsBend v_justMany v_hasBend r12 x4) (fun r14 => Option.bind (pX9_lays n v_rootAt v_pile v_lastAt (upd v_nextAt x7.toNatClampNeg ((v_nextAt x7.toNatClampNeg) + (1 : Int32))) (x7 + (1 : Int32)) (v_nextAt x7.toNatClampNeg) r12) (fun r15 => pX9_goesUpTo_L62 x1 x3 x4 v_rootAt n (x6 + (1 : Int32)) (x7 + (1 : Int32)) r14.1 r15.1 r15.2.1 r15.2.2 r14.2 k))))
def pX9_goesUpTo (n : Nat) (v_rootAt : (Nat → Int64)) (v_pile : (Nat → Int64)) (v_lastAt : (Nat → Int32)) (v_nextAt : (Nat → Int32)) (v_hasBend : (Nat → Int32)) (p1 : Int64) (p3 : Int32) (p4 : Int64) : Option (Int32 × Int32 × (Nat → Int64) × (Nat → Int32) × (Nat → Int32) × (Nat → Int32)) := pX9_goesUpTo_L11 p1 p4 v_rootAt n (0 : Int32) (0 : Int32) (0 : Int32) v_hasBend (fun (y6_5 : Int32) (y7_5 : Int32) (u5_justMany : Int32) (u5_hasBend : (Nat → Int32)) => Option.bind (pX9_lays n v_rootAt v_pile v_lastAt v_nextAt (0 : Int32) (-9 : Int32) (0 : Int64)) (fun r6 => pX9_goesUpTo_L62 p1 p3 p4 v_rootAt n y6_5 (0 : Int32) u5_justMany r6.1 r6.2.1 r6.2.2 u5_hasBend (fun (y6_16 : Int32) (y7_16 : Int32) (u16_justMany : Int32) (u16_pile : (Nat → Int64)) (u16_lastAt : (Nat → Int32)) (u16_nextAt : (Nat → Int32)) (u16_hasBend : (Nat → Int32)) => some (y6_16, u16_justMany, u16_pile, u16_lastAt, u16_nextAt, u16_hasBend))))
def rmX9_goesUpTo : Room := { frames := 1, cells := 0, slots := 0, locals := 25 }
theorem hiX9_goesUpTo_X9 : ∀ w ∈ u_ws RX9 TX9 17, w ∈ wsX9_goesUpTo := fun _ h => List.mem_cons_of_mem _ (List.mem_append_right _ h)
set_option maxRecDepth 100000 in
set_option maxHeartbeats 4000000 in
theorem kX9_goesUpTo {l : Launch} {G : va_G} {cI cJ cZ cS cG : ClassId} (n : Nat) (q q_bends q_rootAt q_pile q_lastAt q_nextAt q_hasBend q_isMet q_queue q_sums q_kept q_isKept q_copies q_shelfMany q_shelfSort q_shelfHas : Nat) (v_stepAt : Int32) (v_justMany : Int32) (v_rootAt : (Nat → Int64)) (v_pile : (Nat → Int64)) (v_lastAt : (Nat → Int32)) (v_nextAt : (Nat → Int32)) (v_hasBend : (Nat → Int32)) (p1 : Int64) (p3 : Int32) (p4 : Int64) (R : Int32 × Int32 × (Nat → Int64) × (Nat → Int32) × (Nat → Int32) × (Nat → Int32)) (hf : pX9_goesUpTo n v_rootAt v_pile v_lastAt v_nextAt v_hasBend p1 p3 p4 = some R) : CTi l yX9_goesUpTo wsX9_goesUpTo rmX9_goesUpTo G cI cJ cZ cS cG [.ref q, .long p1, .int p3, .long p4] [(q, .inr (9, [.ref q_bends, .ref q_rootAt, .int v_stepAt, .ref q_pile, .ref q_lastAt, .ref q_nextAt, .ref q_hasBend, .int v_justMany, .ref q_isMet, .ref q_queue, .ref q_sums, .ref q_kept, .ref q_isKept, .ref q_copies, .ref q_shelfMany, .ref q_shelfSort, .ref q_shelfHas])), (q_rootAt, .inl (cJ, 4, .inr (.inl v_rootAt))), (q_pile, .inl (cJ, 10400, .inr (.inl v_pile))), (q_lastAt, .inl (cI, 2600, .inl v_lastAt)), (q_nextAt, .inl (cI, 2600, .inl v_nextAt)), (q_hasBend, .inl (cZ, 5001, .inl v_hasBend))] [(q, .inr (9, [.ref q_bends, .ref q_rootAt, .int v_stepAt, .ref q_pile, .ref q_lastAt, .ref q_nextAt, .ref q_hasBend, .int R.2.1, .ref q_isMet, .ref q_queue, .ref q_sums, .ref q_kept, .ref q_isKept, .ref q_copies, .ref q_shelfMany, .ref q_shelfSort, .ref q_shelfHas])), (q_rootAt, .inl (cJ, 4, .inr (.inl v_rootAt))), (q_pile, .inl (cJ, 10400, .inr (.inl R.2.2.1))), (q_lastAt, .inl (cI, 2600, .inl R.2.2.2.1)), (q_nextAt, .inl (cI, 2600, .inl R.2.2.2.2.1)), (q_hasBend, .inl (cZ, 5001, .inl R.2.2.2.2.2))] R.1 := by
  refine Met.ofE (Qc := fun A => QRi G A [(q, .inr (9, [.ref q_bends, .ref q_rootAt, .int v_stepAt, .ref q_pile, .ref q_lastAt, .ref q_nextAt, .ref q_hasBend, .int R.2.1, .ref q_isMet, .ref q_queue, .ref q_sums, .ref q_kept, .ref q_isKept, .ref q_copies, .ref q_shelfMany, .ref q_shelfSort, .ref q_shelfHas])), (q_rootAt, .inl (cJ, 4, .inr (.inl v_rootAt))), (q_pile, .inl (cJ, 10400, .inr (.inl R.2.2.1))), (q_lastAt, .inl (cI, 2600, .inl R.2.2.2.1)), (q_nextAt, .inl (cI, 2600, .inl R.2.2.2.2.1)), (q_hasBend, .inl (cZ, 5001, .inl R.2.2.2.2.2))] R.1) (cc := cX9_goesUpTo) (nL := 11) (ret := some .int) (plainFor_of_name (by decide +kernel)) rfl (Nat.le_of_ble_eq_true rfl) ?_
  intro p e s m below meth c A ls hx hb hml hr hlk hts hown hK hA hP hD hS hl
  have hown : s.vm.findClass RX9 = some m.cls := hown
  have hl : lv_has ls 11 [(0, .ref q), (1, .long p1), (3, .int p3), (4, .long p4)] := hl
  generalize hQ : MQ below (QRi G A [(q, .inr (9, [.ref q_bends, .ref q_rootAt, .int v_stepAt, .ref q_pile, .ref q_lastAt, .ref q_nextAt, .ref q_hasBend, .int R.2.1, .ref q_isMet, .ref q_queue, .ref q_sums, .ref q_kept, .ref q_isKept, .ref q_copies, .ref q_shelfMany, .ref q_shelfSort, .ref q_shelfHas])), (q_rootAt, .inl (cJ, 4, .inr (.inl v_rootAt))), (q_pile, .inl (cJ, 10400, .inr (.inl R.2.2.1))), (q_lastAt, .inl (cI, 2600, .inl R.2.2.2.1)), (q_nextAt, .inl (cI, 2600, .inl R.2.2.2.2.1)), (q_hasBend, .inl (cZ, 5001, .inl R.2.2.2.2.2))] R.1) ([.ref q, .long p1, .int p3, .long p4] : List Value).toArray s 0 0 A = QQ
  unfold pX9_goesUpTo at hf
  have hL11 : ∀ (x1 : Int64) (x3 : Int32) (x4 : Int64) (v_pile : (Nat → Int64)) (v_lastAt : (Nat → Int32)) (v_nextAt : (Nat → Int32)) (k : Int32 → Int32 → Int32 → (Nat → Int32) → Option (Int32 × Int32 × (Nat → Int64) × (Nat → Int32) × (Nat → Int32) × (Nat → Int32))), (∀ (x6 : Int32) (x7 : Int32) (v_justMany : Int32) (v_hasBend : (Nat → Int32)) (H : Heap) (locs : List Loc) (ls : Array Slot), k x6 x7 v_justMany v_hasBend = some R → va_P G vwCl [(q, .inr (9, [.ref q_bends, .ref q_rootAt, .int v_stepAt, .ref q_pile, .ref q_lastAt, .ref q_nextAt, .ref q_hasBend, .int v_justMany, .ref q_isMet, .ref q_queue, .ref q_sums, .ref q_kept, .ref q_isKept, .ref q_copies, .ref q_shelfMany, .ref q_shelfSort, .ref q_shelfHas])), (q_rootAt, .inl (cJ, 4, .inr (.inl v_rootAt))), (q_pile, .inl (cJ, 10400, .inr (.inl v_pile))), (q_lastAt, .inl (cI, 2600, .inl v_lastAt)), (q_nextAt, .inl (cI, 2600, .inl v_nextAt)), (q_hasBend, .inl (cZ, 5001, .inl v_hasBend))] H → va_D A [(q, .inr (9, [.ref q_bends, .ref q_rootAt, .int v_stepAt, .ref q_pile, .ref q_lastAt, .ref q_nextAt, .ref q_hasBend, .int v_justMany, .ref q_isMet, .ref q_queue, .ref q_sums, .ref q_kept, .ref q_isKept, .ref q_copies, .ref q_shelfMany, .ref q_shelfSort, .ref q_shelfHas])), (q_rootAt, .inl (cJ, 4, .inr (.inl v_rootAt))), (q_pile, .inl (cJ, 10400, .inr (.inl v_pile))), (q_lastAt, .inl (cI, 2600, .inl v_lastAt)), (q_nextAt, .inl (cI, 2600, .inl v_nextAt)), (q_hasBend, .inl (cZ, 5001, .inl v_hasBend))] → va_S A s.heap H locs → lv_has ls 11 [(0, .ref q), (1, .long x1), (3, .int x3), (4, .long x4), (6, .int x6), (7, .int x7)] → W p l e rmX9_goesUpTo s m ([.ref q, .long p1, .int p3, .long p4] : List Value).toArray below meth c H locs 0 0 QQ (F0 m 51 ls [])) → ∀ (n : Nat) (x6 : Int32) (x7 : Int32) (v_justMany : Int32) (v_hasBend : (Nat → Int32)) (H : Heap) (locs : List Loc) (ls : Array Slot), pX9_goesUpTo_L11 x1 x4 v_rootAt n x6 x7 v_justMany v_hasBend k = some R → va_P G vwCl [(q, .inr (9, [.ref q_bends, .ref q_rootAt, .int v_stepAt, .ref q_pile, .ref q_lastAt, .ref q_nextAt, .ref q_hasBend, .int v_justMany, .ref q_isMet, .ref q_queue, .ref q_sums, .ref q_kept, .ref q_isKept, .ref q_copies, .ref q_shelfMany, .ref q_shelfSort, .ref q_shelfHas])), (q_rootAt, .inl (cJ, 4, .inr (.inl v_rootAt))), (q_pile, .inl (cJ, 10400, .inr (.inl v_pile))), (q_lastAt, .inl (cI, 2600, .inl v_lastAt)), (q_nextAt, .inl (cI, 2600, .inl v_nextAt)), (q_hasBend, .inl (cZ, 5001, .inl v_hasBend))] H → va_D A [(q, .inr (9, [.ref q_bends, .ref q_rootAt, .int v_stepAt, .ref q_pile, .ref q_lastAt, .ref q_nextAt, .ref q_hasBend, .int v_justMany, .ref q_isMet, .ref q_queue, .ref q_sums, .ref q_kept, .ref q_isKept, .ref q_copies, .ref q_shelfMany, .ref q_shelfSort, .ref q_shelfHas])), (q_rootAt, .inl (cJ, 4, .inr (.inl v_rootAt))), (q_pile, .inl (cJ, 10400, .inr (.inl v_pile))), (q_lastAt, .inl (cI, 2600, .inl v_lastAt)), (q_nextAt, .inl (cI, 2600, .inl v_nextAt)), (q_hasBend, .inl (cZ, 5001, .inl v_hasBend))] → va_S A s.heap H locs → lv_has ls 11 [(0, .ref q), (1, .long x1), (3, .int x3), (4, .long x4), (6, .int x6), (7, .int x7)] → W p l e rmX9_goesUpTo s m ([.ref q, .long p1, .int p3, .long p4] : List Value).toArray below meth c H locs 0 0 QQ (F0 m 11 ls []) := by
    intro x1 x3 x4 v_pile v_lastAt v_nextAt k hk n
    induction n with
    | zero =>
      intro x6 x7 v_justMany v_hasBend H locs ls hf
      cases hf
    | succ n ih =>
      intro x6 x7 v_justMany v_hasBend H locs ls hf hP hD hS hl
      unfold pX9_goesUpTo_L11 at hf
      refine lv_iload hx hb dX9_goesUpTo_11 (lv_at hl 5 rfl) ?_
      refine lv_iconst (v := 4) hx hb dX9_goesUpTo_13 (by decide) ?_
      refine lv_icmp_ge (tgt := 51) hx hb dX9_goesUpTo_14 (by decide) (fun c1 => ?_) (fun c1 => ?_)
      · have hf := if_s hf c1
        exact hk x6 x7 v_justMany v_hasBend _ _ _ hf hP hD hS (lv_sub hl [0, 1, 2, 3, 4, 5] rfl)
      · have hf := if_n hf c1
        refine lv_aload_n hx hb dX9_goesUpTo_17 rfl (lv_at hl 0 rfl) ?_
        refine va_get (D := G) (ci := 9) (v := .ref q_rootAt) (C := RX9) (T := TX9) (N := 17) hx hb hts hiX9_goesUpTo_X9 hown hK.1 hP 0 rfl rfl 1 (by decide) (hts (.fieldLink RX9 13 "PackedBendsModel" "rootAt" "[J") (List.mem_of_getElem? (i := 2) rfl)) (fun _ h9 => h9) rfl dX9_goesUpTo_18 ?_
        refine lv_iload hx hb dX9_goesUpTo_21 (lv_at hl 5 rfl) ?_
        obtain ⟨z2, hf⟩ := ck_s hf
        refine va_lald hx hb hK.1 hP 1 1 rfl rfl (vp_in_iff.mpr z2) dX9_goesUpTo_23 ?_
        refine lv_lload_n hx hb dX9_goesUpTo_24 rfl (lv_at hl 1 rfl) ?_
        refine lc_gt (tgt := 45) hx hb dX9_goesUpTo_25 dX9_goesUpTo_26 (by decide) (fun c3 => ?_) (fun c3 => ?_)
        · have hf := if_s hf c3
          refine lv_iinc (v := x7 + (1 : Int32)) (lv' := [(7, .int (x7 + (1 : Int32))), (0, .ref q), (1, .long x1), (3, .int x3), (4, .long x4), (6, .int x6)]) hx hb dX9_goesUpTo_45 hl (k := 5) rfl rfl (by decide) rfl (fun ls hl => ?_)
          refine lv_goto (tgt := 11) hx hb dX9_goesUpTo_48 (by decide) ?_
          exact ih x6 (x7 + (1 : Int32)) v_justMany v_hasBend _ _ _ hf hP hD hS (lv_sub hl [1, 2, 3, 4, 5, 0] rfl)
        · have hf := if_n hf c3
          refine lv_iinc (v := x6 + (1 : Int32)) (lv' := [(6, .int (x6 + (1 : Int32))), (0, .ref q), (1, .long x1), (3, .int x3), (4, .long x4), (7, .int x7)]) hx hb dX9_goesUpTo_29 hl (k := 4) rfl rfl (by decide) rfl (fun ls hl => ?_)
          refine lv_aload_n hx hb dX9_goesUpTo_32 rfl (lv_at hl 1 rfl) ?_
          refine lv_aload_n hx hb dX9_goesUpTo_33 rfl (lv_at hl 1 rfl) ?_
          refine va_get (D := G) (ci := 9) (v := .ref q_rootAt) (C := RX9) (T := TX9) (N := 17) hx hb hts hiX9_goesUpTo_X9 hown hK.1 hP 0 rfl rfl 1 (by decide) (hts (.fieldLink RX9 13 "PackedBendsModel" "rootAt" "[J") (List.mem_of_getElem? (i := 2) rfl)) (fun _ h9 => h9) rfl dX9_goesUpTo_34 ?_
          refine lv_iload hx hb dX9_goesUpTo_37 (lv_at hl 5 rfl) ?_
          refine va_lald hx hb hK.1 hP 1 1 rfl rfl (vp_in_iff.mpr z2) dX9_goesUpTo_39 ?_
          refine lv_lload hx hb dX9_goesUpTo_40 (lv_at hl 4 rfl) ?_
          obtain ⟨r4, hc4, hf⟩ := ob_s hf
          refine bk_v (wc := [(q, .inr (9, [.ref q_bends, .ref q_rootAt, .int v_stepAt, .ref q_pile, .ref q_lastAt, .ref q_nextAt, .ref q_hasBend, .int v_justMany, .ref q_isMet, .ref q_queue, .ref q_sums, .ref q_kept, .ref q_isKept, .ref q_copies, .ref q_shelfMany, .ref q_shelfSort, .ref q_shelfHas])), (q_hasBend, .inl (cZ, 5001, .inl v_hasBend))]) (wc2 := [(q, .inr (9, [.ref q_bends, .ref q_rootAt, .int v_stepAt, .ref q_pile, .ref q_lastAt, .ref q_nextAt, .ref q_hasBend, .int r4.1, .ref q_isMet, .ref q_queue, .ref q_sums, .ref q_kept, .ref q_isKept, .ref q_copies, .ref q_shelfMany, .ref q_shelfSort, .ref q_shelfHas])), (q_hasBend, .inl (cZ, 5001, .inl r4.2))]) (wr := [(q_rootAt, .inl (cJ, 4, .inr (.inl v_rootAt))), (q_pile, .inl (cJ, 10400, .inr (.inl v_pile))), (q_lastAt, .inl (cI, 2600, .inl v_lastAt)), (q_nextAt, .inl (cI, 2600, .inl v_nextAt))]) (ws2 := [(q, .inr (9, [.ref q_bends, .ref q_rootAt, .int v_stepAt, .ref q_pile, .ref q_lastAt, .ref q_nextAt, .ref q_hasBend, .int r4.1, .ref q_isMet, .ref q_queue, .ref q_sums, .ref q_kept, .ref q_isKept, .ref q_copies, .ref q_shelfMany, .ref q_shelfSort, .ref q_shelfHas])), (q_rootAt, .inl (cJ, 4, .inr (.inl v_rootAt))), (q_pile, .inl (cJ, 10400, .inr (.inl v_pile))), (q_lastAt, .inl (cI, 2600, .inl v_lastAt)), (q_nextAt, .inl (cI, 2600, .inl v_nextAt)), (q_hasBend, .inl (cZ, 5001, .inl r4.2))]) (va_runV (As := [.long (v_rootAt x7.toNatClampNeg), .long x4]) (rest := []) ⟨hx, hb, hml, hown, hts⟩ (kX9_countsBend (l := l) (G := G) (cI := cI) (cJ := cJ) (cZ := cZ) (cS := cS) (cG := cG) q q_bends q_rootAt q_pile q_lastAt q_nextAt q_hasBend q_isMet q_queue q_sums q_kept q_isKept q_copies q_shelfMany q_shelfSort q_shelfHas v_stepAt v_justMany v_hasBend (v_rootAt x7.toNatClampNeg) x4 _ hc4 _) (cwV 2 hts gX9_goesUpTo_X9_countsBend rfl rfl rfl (by decide +kernel) ⟨Nat.le_of_ble_eq_true rfl, Nat.le_of_ble_eq_true rfl⟩) (cut_V hK hP hD [0, 5] rfl rfl (ci := 9) (q0 := 0) rfl rfl) rfl rfl hl.1 rfl (lv_room (Nat.le_of_ble_eq_true rfl)) dX9_goesUpTo_42 ⟨Nat.zero_le _, Nat.zero_le _⟩) hP hD hS hA [0, 5] [1, 2, 3, 4] [4, 0, 1, 2, 3, 5] rfl rfl rfl rfl rfl rfl (fun H locs hP hD hS => ?_)
          refine lv_iinc (v := x7 + (1 : Int32)) (lv' := [(7, .int (x7 + (1 : Int32))), (6, .int (x6 + (1 : Int32))), (0, .ref q), (1, .long x1), (3, .int x3), (4, .long x4)]) hx hb dX9_goesUpTo_45 hl (k := 5) rfl rfl (by decide) rfl (fun ls hl => ?_)
          refine lv_goto (tgt := 11) hx hb dX9_goesUpTo_48 (by decide) ?_
          exact ih (x6 + (1 : Int32)) (x7 + (1 : Int32)) r4.1 r4.2 _ _ _ hf hP hD hS (lv_sub hl [2, 3, 4, 5, 1, 0] rfl)
  have hL62 : ∀ (x1 : Int64) (x3 : Int32) (x4 : Int64) (k : Int32 → Int32 → Int32 → (Nat → Int64) → (Nat → Int32) → (Nat → Int32) → (Nat → Int32) → Option (Int32 × Int32 × (Nat → Int64) × (Nat → Int32) × (Nat → Int32) × (Nat → Int32))), (∀ (x6 : Int32) (x7 : Int32) (v_justMany : Int32) (v_pile : (Nat → Int64)) (v_lastAt : (Nat → Int32)) (v_nextAt : (Nat → Int32)) (v_hasBend : (Nat → Int32)) (H : Heap) (locs : List Loc) (ls : Array Slot), k x6 x7 v_justMany v_pile v_lastAt v_nextAt v_hasBend = some R → va_P G vwCl [(q, .inr (9, [.ref q_bends, .ref q_rootAt, .int v_stepAt, .ref q_pile, .ref q_lastAt, .ref q_nextAt, .ref q_hasBend, .int v_justMany, .ref q_isMet, .ref q_queue, .ref q_sums, .ref q_kept, .ref q_isKept, .ref q_copies, .ref q_shelfMany, .ref q_shelfSort, .ref q_shelfHas])), (q_rootAt, .inl (cJ, 4, .inr (.inl v_rootAt))), (q_pile, .inl (cJ, 10400, .inr (.inl v_pile))), (q_lastAt, .inl (cI, 2600, .inl v_lastAt)), (q_nextAt, .inl (cI, 2600, .inl v_nextAt)), (q_hasBend, .inl (cZ, 5001, .inl v_hasBend))] H → va_D A [(q, .inr (9, [.ref q_bends, .ref q_rootAt, .int v_stepAt, .ref q_pile, .ref q_lastAt, .ref q_nextAt, .ref q_hasBend, .int v_justMany, .ref q_isMet, .ref q_queue, .ref q_sums, .ref q_kept, .ref q_isKept, .ref q_copies, .ref q_shelfMany, .ref q_shelfSort, .ref q_shelfHas])), (q_rootAt, .inl (cJ, 4, .inr (.inl v_rootAt))), (q_pile, .inl (cJ, 10400, .inr (.inl v_pile))), (q_lastAt, .inl (cI, 2600, .inl v_lastAt)), (q_nextAt, .inl (cI, 2600, .inl v_nextAt)), (q_hasBend, .inl (cZ, 5001, .inl v_hasBend))] → va_S A s.heap H locs → lv_has ls 11 [(0, .ref q), (1, .long x1), (3, .int x3), (4, .long x4), (6, .int x6), (7, .int x7)] → W p l e rmX9_goesUpTo s m ([.ref q, .long p1, .int p3, .long p4] : List Value).toArray below meth c H locs 0 0 QQ (F0 m 161 ls [])) → ∀ (n : Nat) (x6 : Int32) (x7 : Int32) (v_justMany : Int32) (v_pile : (Nat → Int64)) (v_lastAt : (Nat → Int32)) (v_nextAt : (Nat → Int32)) (v_hasBend : (Nat → Int32)) (H : Heap) (locs : List Loc) (ls : Array Slot), pX9_goesUpTo_L62 x1 x3 x4 v_rootAt n x6 x7 v_justMany v_pile v_lastAt v_nextAt v_hasBend k = some R → va_P G vwCl [(q, .inr (9, [.ref q_bends, .ref q_rootAt, .int v_stepAt, .ref q_pile, .ref q_lastAt, .ref q_nextAt, .ref q_hasBend, .int v_justMany, .ref q_isMet, .ref q_queue, .ref q_sums, .ref q_kept, .ref q_isKept, .ref q_copies, .ref q_shelfMany, .ref q_shelfSort, .ref q_shelfHas])), (q_rootAt, .inl (cJ, 4, .inr (.inl v_rootAt))), (q_pile, .inl (cJ, 10400, .inr (.inl v_pile))), (q_lastAt, .inl (cI, 2600, .inl v_lastAt)), (q_nextAt, .inl (cI, 2600, .inl v_nextAt)), (q_hasBend, .inl (cZ, 5001, .inl v_hasBend))] H → va_D A [(q, .inr (9, [.ref q_bends, .ref q_rootAt, .int v_stepAt, .ref q_pile, .ref q_lastAt, .ref q_nextAt, .ref q_hasBend, .int v_justMany, .ref q_isMet, .ref q_queue, .ref q_sums, .ref q_kept, .ref q_isKept, .ref q_copies, .ref q_shelfMany, .ref q_shelfSort, .ref q_shelfHas])), (q_rootAt, .inl (cJ, 4, .inr (.inl v_rootAt))), (q_pile, .inl (cJ, 10400, .inr (.inl v_pile))), (q_lastAt, .inl (cI, 2600, .inl v_lastAt)), (q_nextAt, .inl (cI, 2600, .inl v_nextAt)), (q_hasBend, .inl (cZ, 5001, .inl v_hasBend))] → va_S A s.heap H locs → lv_has ls 11 [(0, .ref q), (1, .long x1), (3, .int x3), (4, .long x4), (6, .int x6), (7, .int x7)] → W p l e rmX9_goesUpTo s m ([.ref q, .long p1, .int p3, .long p4] : List Value).toArray below meth c H locs 0 0 QQ (F0 m 62 ls []) := by
    intro x1 x3 x4 k hk n
    induction n with
    | zero =>
      intro x6 x7 v_justMany v_pile v_lastAt v_nextAt v_hasBend H locs ls hf
      cases hf
    | succ n ih =>
      intro x6 x7 v_justMany v_pile v_lastAt v_nextAt v_hasBend H locs ls hf hP hD hS hl
      unfold pX9_goesUpTo_L62 at hf
      refine lv_iload hx hb dX9_goesUpTo_62 (lv_at hl 5 rfl) ?_
      refine lv_if_lt (tgt := 161) hx hb dX9_goesUpTo_64 (by decide) (fun c7 => ?_) (fun c7 => ?_)
      · have hf := if_s hf c7
        exact hk x6 x7 v_justMany v_pile v_lastAt v_nextAt v_hasBend _ _ _ hf hP hD hS (lv_sub hl [0, 1, 2, 3, 4, 5] rfl)
      · have hf := if_n hf c7
        refine lv_iload hx hb dX9_goesUpTo_67 (lv_at hl 4 rfl) ?_
        refine lv_iload_n hx hb dX9_goesUpTo_69 rfl (lv_at hl 2 rfl) ?_
        refine lv_icmp_ge (tgt := 161) hx hb dX9_goesUpTo_70 (by decide) (fun c8 => ?_) (fun c8 => ?_)
        · have hf := if_s hf c8
          exact hk x6 x7 v_justMany v_pile v_lastAt v_nextAt v_hasBend _ _ _ hf hP hD hS (lv_sub hl [0, 1, 2, 3, 4, 5] rfl)
        · have hf := if_n hf c8
          refine lv_aload_n hx hb dX9_goesUpTo_73 rfl (lv_at hl 0 rfl) ?_
          refine va_get (D := G) (ci := 9) (v := .ref q_nextAt) (C := RX9) (T := TX9) (N := 17) hx hb hts hiX9_goesUpTo_X9 hown hK.1 hP 0 rfl rfl 5 (by decide) (hts (.fieldLink RX9 23 "PackedBendsModel" "nextAt" "[I") (List.mem_of_getElem? (i := 3) rfl)) (fun _ h9 => h9) rfl dX9_goesUpTo_74 ?_
          refine lv_iload hx hb dX9_goesUpTo_77 (lv_at hl 5 rfl) ?_
          obtain ⟨z9, hf⟩ := ck_s hf
          refine va_iald hx hb hK.1 hP 4 0 rfl rfl (vp_in_iff.mpr z9) dX9_goesUpTo_79 ?_
          refine lv_istore (lv' := [(8, .int (v_nextAt x7.toNatClampNeg)), (0, .ref q), (1, .long x1), (3, .int x3), (4, .long x4), (6, .int x6), (7, .int x7)]) hx hb dX9_goesUpTo_80 hl (by decide) rfl (fun ls hl => ?_)
          refine lv_aload_n hx hb dX9_goesUpTo_82 rfl (lv_at hl 1 rfl) ?_
          refine va_get (D := G) (ci := 9) (v := .ref q_nextAt) (C := RX9) (T := TX9) (N := 17) hx hb hts hiX9_goesUpTo_X9 hown hK.1 hP 0 rfl rfl 5 (by decide) (hts (.fieldLink RX9 23 "PackedBendsModel" "nextAt" "[I") (List.mem_of_getElem? (i := 3) rfl)) (fun _ h9 => h9) rfl dX9_goesUpTo_83 ?_
          refine lv_iload hx hb dX9_goesUpTo_86 (lv_at hl 6 rfl) ?_
          refine lv_dup2_11 hx hb dX9_goesUpTo_88 rfl rfl ?_
          refine va_iald hx hb hK.1 hP 4 0 rfl rfl (vp_in_iff.mpr z9) dX9_goesUpTo_89 ?_
          refine lv_iconst (v := 1) hx hb dX9_goesUpTo_90 (by decide) ?_
          refine lv_iadd hx hb dX9_goesUpTo_91 ?_
          refine va_iast hx hb hK.1 hP hD hS 4 0 rfl rfl (vp_in_iff.mpr z9) dX9_goesUpTo_92 (fun H locs hP hD hS => ?_)
          have hP : va_P G vwCl [(q, .inr (9, [.ref q_bends, .ref q_rootAt, .int v_stepAt, .ref q_pile, .ref q_lastAt, .ref q_nextAt, .ref q_hasBend, .int v_justMany, .ref q_isMet, .ref q_queue, .ref q_sums, .ref q_kept, .ref q_isKept, .ref q_copies, .ref q_shelfMany, .ref q_shelfSort, .ref q_shelfHas])), (q_rootAt, .inl (cJ, 4, .inr (.inl v_rootAt))), (q_pile, .inl (cJ, 10400, .inr (.inl v_pile))), (q_lastAt, .inl (cI, 2600, .inl v_lastAt)), (q_nextAt, .inl (cI, 2600, .inl (upd v_nextAt x7.toNatClampNeg ((v_nextAt x7.toNatClampNeg) + (1 : Int32))))), (q_hasBend, .inl (cZ, 5001, .inl v_hasBend))] H := hP
          have hD : va_D A [(q, .inr (9, [.ref q_bends, .ref q_rootAt, .int v_stepAt, .ref q_pile, .ref q_lastAt, .ref q_nextAt, .ref q_hasBend, .int v_justMany, .ref q_isMet, .ref q_queue, .ref q_sums, .ref q_kept, .ref q_isKept, .ref q_copies, .ref q_shelfMany, .ref q_shelfSort, .ref q_shelfHas])), (q_rootAt, .inl (cJ, 4, .inr (.inl v_rootAt))), (q_pile, .inl (cJ, 10400, .inr (.inl v_pile))), (q_lastAt, .inl (cI, 2600, .inl v_lastAt)), (q_nextAt, .inl (cI, 2600, .inl (upd v_nextAt x7.toNatClampNeg ((v_nextAt x7.toNatClampNeg) + (1 : Int32))))), (q_hasBend, .inl (cZ, 5001, .inl v_hasBend))] := hD
          refine lv_iload hx hb dX9_goesUpTo_93 (lv_at hl 0 rfl) ?_
          refine lv_iconst (v := 4) hx hb dX9_goesUpTo_95 (by decide) ?_
          refine lv_icmp_ne (tgt := 105) hx hb dX9_goesUpTo_96 (by decide) (fun c10 => ?_) (fun c10 => ?_)
          · have hf := if_n hf c10
            refine lv_iload hx hb dX9_goesUpTo_105 (lv_at hl 0 rfl) ?_
            refine lv_aload_n hx hb dX9_goesUpTo_107 rfl (lv_at hl 1 rfl) ?_
            refine va_get (D := G) (ci := 9) (v := .ref q_lastAt) (C := RX9) (T := TX9) (N := 17) hx hb hts hiX9_goesUpTo_X9 hown hK.1 hP 0 rfl rfl 4 (by decide) (hts (.fieldLink RX9 19 "PackedBendsModel" "lastAt" "[I") (List.mem_of_getElem? (i := 4) rfl)) (fun _ h9 => h9) rfl dX9_goesUpTo_108 ?_
            refine lv_iload hx hb dX9_goesUpTo_111 (lv_at hl 6 rfl) ?_
            refine va_iald hx hb hK.1 hP 3 0 rfl rfl (vp_in_iff.mpr z9) dX9_goesUpTo_113 ?_
            refine lv_icmp_eq (tgt := 158) hx hb dX9_goesUpTo_114 (by decide) (fun c11 => ?_) (fun c11 => ?_)
            · have hf := if_s hf c11
              refine lv_goto (tgt := 62) hx hb dX9_goesUpTo_158 (by decide) ?_
              exact ih x6 x7 v_justMany v_pile v_lastAt (upd v_nextAt x7.toNatClampNeg ((v_nextAt x7.toNatClampNeg) + (1 : Int32))) v_hasBend _ _ _ hf hP hD hS (lv_sub hl [1, 2, 3, 4, 5, 6] rfl)
            · have hf := if_n hf c11
              refine lv_aload_n hx hb dX9_goesUpTo_117 rfl (lv_at hl 1 rfl) ?_
              refine lv_iload hx hb dX9_goesUpTo_118 (lv_at hl 6 rfl) ?_
              refine lv_iload hx hb dX9_goesUpTo_120 (lv_at hl 0 rfl) ?_
              obtain ⟨r12, hc12, hf⟩ := ob_s hf
              refine bk_l (wc := [(q, .inr (9, [.ref q_bends, .ref q_rootAt, .int v_stepAt, .ref q_pile, .ref q_lastAt, .ref q_nextAt, .ref q_hasBend, .int v_justMany, .ref q_isMet, .ref q_queue, .ref q_sums, .ref q_kept, .ref q_isKept, .ref q_copies, .ref q_shelfMany, .ref q_shelfSort, .ref q_shelfHas])), (q_pile, .inl (cJ, 10400, .inr (.inl v_pile)))]) (wc2 := [(q, .inr (9, [.ref q_bends, .ref q_rootAt, .int v_stepAt, .ref q_pile, .ref q_lastAt, .ref q_nextAt, .ref q_hasBend, .int v_justMany, .ref q_isMet, .ref q_queue, .ref q_sums, .ref q_kept, .ref q_isKept, .ref q_copies, .ref q_shelfMany, .ref q_shelfSort, .ref q_shelfHas])), (q_pile, .inl (cJ, 10400, .inr (.inl v_pile)))]) (wr := [(q_rootAt, .inl (cJ, 4, .inr (.inl v_rootAt))), (q_lastAt, .inl (cI, 2600, .inl v_lastAt)), (q_nextAt, .inl (cI, 2600, .inl (upd v_nextAt x7.toNatClampNeg ((v_nextAt x7.toNatClampNeg) + (1 : Int32))))), (q_hasBend, .inl (cZ, 5001, .inl v_hasBend))]) (ws2 := [(q, .inr (9, [.ref q_bends, .ref q_rootAt, .int v_stepAt, .ref q_pile, .ref q_lastAt, .ref q_nextAt, .ref q_hasBend, .int v_justMany, .ref q_isMet, .ref q_queue, .ref q_sums, .ref q_kept, .ref q_isKept, .ref q_copies, .ref q_shelfMany, .ref q_shelfSort, .ref q_shelfHas])), (q_rootAt, .inl (cJ, 4, .inr (.inl v_rootAt))), (q_pile, .inl (cJ, 10400, .inr (.inl v_pile))), (q_lastAt, .inl (cI, 2600, .inl v_lastAt)), (q_nextAt, .inl (cI, 2600, .inl (upd v_nextAt x7.toNatClampNeg ((v_nextAt x7.toNatClampNeg) + (1 : Int32))))), (q_hasBend, .inl (cZ, 5001, .inl v_hasBend))]) (r := r12) (va_runV (As := [.int x7, .int (v_nextAt x7.toNatClampNeg)]) (rest := []) ⟨hx, hb, hml, hown, hts⟩ (kX9_turnedOn (l := l) (G := G) (cI := cI) (cJ := cJ) (cZ := cZ) (cS := cS) (cG := cG) n q q_bends q_rootAt q_pile q_lastAt q_nextAt q_hasBend q_isMet q_queue q_sums q_kept q_isKept q_copies q_shelfMany q_shelfSort q_shelfHas v_stepAt v_justMany v_pile x7 (v_nextAt x7.toNatClampNeg) _ hc12 _) (cwV 2 hts gX9_goesUpTo_X9_turnedOn rfl rfl rfl (by decide +kernel) ⟨Nat.le_of_ble_eq_true rfl, Nat.le_of_ble_eq_true rfl⟩) (cut_V hK hP hD [0, 2] rfl rfl (ci := 9) (q0 := 0) rfl rfl) rfl rfl hl.1 rfl (lv_room (Nat.le_of_ble_eq_true rfl)) dX9_goesUpTo_122 ⟨Nat.zero_le _, Nat.zero_le _⟩) hP hD hS hA [0, 2] [1, 3, 4, 5] [4, 0, 5, 1, 2, 3] rfl rfl rfl rfl rfl rfl (fun H locs hP hD hS => ?_)
              refine lv_lstore (lv' := [(9, .long r12), (8, .int (v_nextAt x7.toNatClampNeg)), (0, .ref q), (1, .long x1), (3, .int x3), (4, .long x4), (6, .int x6), (7, .int x7)]) hx hb dX9_goesUpTo_125 hl (by decide) rfl (fun ls hl => ?_)
              refine lv_lload hx hb dX9_goesUpTo_127 (lv_at hl 0 rfl) ?_
              refine lv_lload_n hx hb dX9_goesUpTo_129 rfl (lv_at hl 3 rfl) ?_
              refine lc_gt (tgt := 158) hx hb dX9_goesUpTo_130 dX9_goesUpTo_131 (by decide) (fun c13 => ?_) (fun c13 => ?_)
              · have hf := if_s hf c13
                refine lv_goto (tgt := 62) hx hb dX9_goesUpTo_158 (by decide) ?_
                exact ih x6 x7 v_justMany v_pile v_lastAt (upd v_nextAt x7.toNatClampNeg ((v_nextAt x7.toNatClampNeg) + (1 : Int32))) v_hasBend _ _ _ hf hP hD hS (lv_sub hl [2, 3, 4, 5, 6, 7] rfl)
              · have hf := if_n hf c13
                refine lv_iinc (v := x6 + (1 : Int32)) (lv' := [(6, .int (x6 + (1 : Int32))), (9, .long r12), (8, .int (v_nextAt x7.toNatClampNeg)), (0, .ref q), (1, .long x1), (3, .int x3), (4, .long x4), (7, .int x7)]) hx hb dX9_goesUpTo_134 hl (k := 6) rfl rfl (by decide) rfl (fun ls hl => ?_)
                refine lv_aload_n hx hb dX9_goesUpTo_137 rfl (lv_at hl 3 rfl) ?_
                refine lv_lload hx hb dX9_goesUpTo_138 (lv_at hl 1 rfl) ?_
                refine lv_lload hx hb dX9_goesUpTo_140 (lv_at hl 6 rfl) ?_
                obtain ⟨r14, hc14, hf⟩ := ob_s hf
                refine bk_v (wc := [(q, .inr (9, [.ref q_bends, .ref q_rootAt, .int v_stepAt, .ref q_pile, .ref q_lastAt, .ref q_nextAt, .ref q_hasBend, .int v_justMany, .ref q_isMet, .ref q_queue, .ref q_sums, .ref q_kept, .ref q_isKept, .ref q_copies, .ref q_shelfMany, .ref q_shelfSort, .ref q_shelfHas])), (q_hasBend, .inl (cZ, 5001, .inl v_hasBend))]) (wc2 := [(q, .inr (9, [.ref q_bends, .ref q_rootAt, .int v_stepAt, .ref q_pile, .ref q_lastAt, .ref q_nextAt, .ref q_hasBend, .int r14.1, .ref q_isMet, .ref q_queue, .ref q_sums, .ref q_kept, .ref q_isKept, .ref q_copies, .ref q_shelfMany, .ref q_shelfSort, .ref q_shelfHas])), (q_hasBend, .inl (cZ, 5001, .inl r14.2))]) (wr := [(q_rootAt, .inl (cJ, 4, .inr (.inl v_rootAt))), (q_pile, .inl (cJ, 10400, .inr (.inl v_pile))), (q_lastAt, .inl (cI, 2600, .inl v_lastAt)), (q_nextAt, .inl (cI, 2600, .inl (upd v_nextAt x7.toNatClampNeg ((v_nextAt x7.toNatClampNeg) + (1 : Int32)))))]) (ws2 := [(q, .inr (9, [.ref q_bends, .ref q_rootAt, .int v_stepAt, .ref q_pile, .ref q_lastAt, .ref q_nextAt, .ref q_hasBend, .int r14.1, .ref q_isMet, .ref q_queue, .ref q_sums, .ref q_kept, .ref q_isKept, .ref q_copies, .ref q_shelfMany, .ref q_shelfSort, .ref q_shelfHas])), (q_rootAt, .inl (cJ, 4, .inr (.inl v_rootAt))), (q_pile, .inl (cJ, 10400, .inr (.inl v_pile))), (q_lastAt, .inl (cI, 2600, .inl v_lastAt)), (q_nextAt, .inl (cI, 2600, .inl (upd v_nextAt x7.toNatClampNeg ((v_nextAt x7.toNatClampNeg) + (1 : Int32))))), (q_hasBend, .inl (cZ, 5001, .inl r14.2))]) (va_runV (As := [.long r12, .long x4]) (rest := []) ⟨hx, hb, hml, hown, hts⟩ (kX9_countsBend (l := l) (G := G) (cI := cI) (cJ := cJ) (cZ := cZ) (cS := cS) (cG := cG) q q_bends q_rootAt q_pile q_lastAt q_nextAt q_hasBend q_isMet q_queue q_sums q_kept q_isKept q_copies q_shelfMany q_shelfSort q_shelfHas v_stepAt v_justMany v_hasBend r12 x4 _ hc14 _) (cwV 2 hts gX9_goesUpTo_X9_countsBend rfl rfl rfl (by decide +kernel) ⟨Nat.le_of_ble_eq_true rfl, Nat.le_of_ble_eq_true rfl⟩) (cut_V hK hP hD [0, 5] rfl rfl (ci := 9) (q0 := 0) rfl rfl) rfl rfl hl.1 rfl (lv_room (Nat.le_of_ble_eq_true rfl)) dX9_goesUpTo_142 ⟨Nat.zero_le _, Nat.zero_le _⟩) hP hD hS hA [0, 5] [1, 2, 3, 4] [4, 0, 1, 2, 3, 5] rfl rfl rfl rfl rfl rfl (fun H locs hP hD hS => ?_)
                refine lv_iinc (v := x7 + (1 : Int32)) (lv' := [(7, .int (x7 + (1 : Int32))), (6, .int (x6 + (1 : Int32))), (9, .long r12), (8, .int (v_nextAt x7.toNatClampNeg)), (0, .ref q), (1, .long x1), (3, .int x3), (4, .long x4)]) hx hb dX9_goesUpTo_145 hl (k := 7) rfl rfl (by decide) rfl (fun ls hl => ?_)
                refine lv_aload_n hx hb dX9_goesUpTo_148 rfl (lv_at hl 4 rfl) ?_
                refine lv_iload hx hb dX9_goesUpTo_149 (lv_at hl 0 rfl) ?_
                refine lv_iload hx hb dX9_goesUpTo_151 (lv_at hl 3 rfl) ?_
                refine lv_lload hx hb dX9_goesUpTo_153 (lv_at hl 2 rfl) ?_
                obtain ⟨r15, hc15, hf⟩ := ob_s hf
                refine bk_v (wc := [(q, .inr (9, [.ref q_bends, .ref q_rootAt, .int v_stepAt, .ref q_pile, .ref q_lastAt, .ref q_nextAt, .ref q_hasBend, .int r14.1, .ref q_isMet, .ref q_queue, .ref q_sums, .ref q_kept, .ref q_isKept, .ref q_copies, .ref q_shelfMany, .ref q_shelfSort, .ref q_shelfHas])), (q_rootAt, .inl (cJ, 4, .inr (.inl v_rootAt))), (q_pile, .inl (cJ, 10400, .inr (.inl v_pile))), (q_lastAt, .inl (cI, 2600, .inl v_lastAt)), (q_nextAt, .inl (cI, 2600, .inl (upd v_nextAt x7.toNatClampNeg ((v_nextAt x7.toNatClampNeg) + (1 : Int32)))))]) (wc2 := [(q, .inr (9, [.ref q_bends, .ref q_rootAt, .int v_stepAt, .ref q_pile, .ref q_lastAt, .ref q_nextAt, .ref q_hasBend, .int r14.1, .ref q_isMet, .ref q_queue, .ref q_sums, .ref q_kept, .ref q_isKept, .ref q_copies, .ref q_shelfMany, .ref q_shelfSort, .ref q_shelfHas])), (q_rootAt, .inl (cJ, 4, .inr (.inl v_rootAt))), (q_pile, .inl (cJ, 10400, .inr (.inl r15.1))), (q_lastAt, .inl (cI, 2600, .inl r15.2.1)), (q_nextAt, .inl (cI, 2600, .inl r15.2.2))]) (wr := [(q_hasBend, .inl (cZ, 5001, .inl r14.2))]) (ws2 := [(q, .inr (9, [.ref q_bends, .ref q_rootAt, .int v_stepAt, .ref q_pile, .ref q_lastAt, .ref q_nextAt, .ref q_hasBend, .int r14.1, .ref q_isMet, .ref q_queue, .ref q_sums, .ref q_kept, .ref q_isKept, .ref q_copies, .ref q_shelfMany, .ref q_shelfSort, .ref q_shelfHas])), (q_rootAt, .inl (cJ, 4, .inr (.inl v_rootAt))), (q_pile, .inl (cJ, 10400, .inr (.inl r15.1))), (q_lastAt, .inl (cI, 2600, .inl r15.2.1)), (q_nextAt, .inl (cI, 2600, .inl r15.2.2)), (q_hasBend, .inl (cZ, 5001, .inl r14.2))]) (va_runV (As := [.int (x7 + (1 : Int32)), .int (v_nextAt x7.toNatClampNeg), .long r12]) (rest := []) ⟨hx, hb, hml, hown, hts⟩ (kX9_lays (l := l) (G := G) (cI := cI) (cJ := cJ) (cZ := cZ) (cS := cS) (cG := cG) n q q_bends q_rootAt q_pile q_lastAt q_nextAt q_hasBend q_isMet q_queue q_sums q_kept q_isKept q_copies q_shelfMany q_shelfSort q_shelfHas v_stepAt r14.1 v_rootAt v_pile v_lastAt (upd v_nextAt x7.toNatClampNeg ((v_nextAt x7.toNatClampNeg) + (1 : Int32))) (x7 + (1 : Int32)) (v_nextAt x7.toNatClampNeg) r12 _ hc15 _) (cwV 3 hts gX9_goesUpTo_X9_lays rfl rfl rfl (by decide +kernel) ⟨Nat.le_of_ble_eq_true rfl, Nat.le_of_ble_eq_true rfl⟩) (cut_V hK hP hD [0, 1, 2, 3, 4] rfl rfl (ci := 9) (q0 := 0) rfl rfl) rfl rfl hl.1 rfl (lv_room (Nat.le_of_ble_eq_true rfl)) dX9_goesUpTo_155 ⟨Nat.zero_le _, Nat.zero_le _⟩) hP hD hS hA [0, 1, 2, 3, 4] [5] [1, 2, 3, 4, 5, 0] rfl rfl rfl rfl rfl rfl (fun H locs hP hD hS => ?_)
                refine lv_goto (tgt := 62) hx hb dX9_goesUpTo_158 (by decide) ?_
                exact ih (x6 + (1 : Int32)) (x7 + (1 : Int32)) r14.1 r15.1 r15.2.1 r15.2.2 r14.2 _ _ _ hf hP hD hS (lv_sub hl [4, 5, 6, 7, 1, 0] rfl)
          · have hf := if_s hf c10
            refine lv_iinc (v := x7 + (-1 : Int32)) (lv' := [(7, .int (x7 + (-1 : Int32))), (8, .int (v_nextAt x7.toNatClampNeg)), (0, .ref q), (1, .long x1), (3, .int x3), (4, .long x4), (6, .int x6)]) hx hb dX9_goesUpTo_99 hl (k := 6) rfl rfl (by decide) rfl (fun ls hl => ?_)
            refine lv_goto (tgt := 158) hx hb dX9_goesUpTo_102 (by decide) ?_
            refine lv_goto (tgt := 62) hx hb dX9_goesUpTo_158 (by decide) ?_
            exact ih x6 (x7 + (-1 : Int32)) v_justMany v_pile v_lastAt (upd v_nextAt x7.toNatClampNeg ((v_nextAt x7.toNatClampNeg) + (1 : Int32))) v_hasBend _ _ _ hf hP hD hS (lv_sub hl [2, 3, 4, 5, 6, 0] rfl)
  refine lv_iconst (v := 0) hx hb dX9_goesUpTo_0 (by decide) ?_
  refine lv_istore (lv' := [(6, .int (0 : Int32)), (0, .ref q), (1, .long p1), (3, .int p3), (4, .long p4)]) hx hb dX9_goesUpTo_1 hl (by decide) rfl (fun ls hl => ?_)
  refine lv_aload_n hx hb dX9_goesUpTo_3 rfl (lv_at hl 1 rfl) ?_
  refine lv_iconst (v := 0) hx hb dX9_goesUpTo_4 (by decide) ?_
  refine va_put (D := G) (ci := 9) (v := .int (0 : Int32)) (ty := .int) (C := RX9) (T := TX9) (N := 17) hx hb hts hiX9_goesUpTo_X9 tyX9 tyX9_ok nmX9 hown hK.1 hP hD hS 0 rfl rfl 7 (by decide) (hts (.fieldLink RX9 105 "PackedBendsModel" "justMany" "I") (List.mem_of_getElem? (i := 1) rfl)) (fun _ h9 => h9) rfl (by decide +kernel) rfl rfl (Nat.le_of_ble_eq_true rfl) dX9_goesUpTo_5 (fun H locs hP hD hS => ?_)
  have hP : va_P G vwCl [(q, .inr (9, [.ref q_bends, .ref q_rootAt, .int v_stepAt, .ref q_pile, .ref q_lastAt, .ref q_nextAt, .ref q_hasBend, .int (0 : Int32), .ref q_isMet, .ref q_queue, .ref q_sums, .ref q_kept, .ref q_isKept, .ref q_copies, .ref q_shelfMany, .ref q_shelfSort, .ref q_shelfHas])), (q_rootAt, .inl (cJ, 4, .inr (.inl v_rootAt))), (q_pile, .inl (cJ, 10400, .inr (.inl v_pile))), (q_lastAt, .inl (cI, 2600, .inl v_lastAt)), (q_nextAt, .inl (cI, 2600, .inl v_nextAt)), (q_hasBend, .inl (cZ, 5001, .inl v_hasBend))] H := hP
  have hD : va_D A [(q, .inr (9, [.ref q_bends, .ref q_rootAt, .int v_stepAt, .ref q_pile, .ref q_lastAt, .ref q_nextAt, .ref q_hasBend, .int (0 : Int32), .ref q_isMet, .ref q_queue, .ref q_sums, .ref q_kept, .ref q_isKept, .ref q_copies, .ref q_shelfMany, .ref q_shelfSort, .ref q_shelfHas])), (q_rootAt, .inl (cJ, 4, .inr (.inl v_rootAt))), (q_pile, .inl (cJ, 10400, .inr (.inl v_pile))), (q_lastAt, .inl (cI, 2600, .inl v_lastAt)), (q_nextAt, .inl (cI, 2600, .inl v_nextAt)), (q_hasBend, .inl (cZ, 5001, .inl v_hasBend))] := hD
  refine lv_iconst (v := 0) hx hb dX9_goesUpTo_8 (by decide) ?_
  refine lv_istore (lv' := [(7, .int (0 : Int32)), (6, .int (0 : Int32)), (0, .ref q), (1, .long p1), (3, .int p3), (4, .long p4)]) hx hb dX9_goesUpTo_9 hl (by decide) rfl (fun ls hl => ?_)
  refine hL11 p1 p3 p4 v_pile v_lastAt v_nextAt _ (fun y6_5 y7_5 u5_justMany u5_hasBend H locs ls hf hP hD hS hl => ?_) n (0 : Int32) (0 : Int32) (0 : Int32) v_hasBend _ _ _ hf hP hD hS (lv_sub hl [2, 3, 4, 5, 1, 0] rfl)
  have hP : va_P G vwCl [(q, .inr (9, [.ref q_bends, .ref q_rootAt, .int v_stepAt, .ref q_pile, .ref q_lastAt, .ref q_nextAt, .ref q_hasBend, .int u5_justMany, .ref q_isMet, .ref q_queue, .ref q_sums, .ref q_kept, .ref q_isKept, .ref q_copies, .ref q_shelfMany, .ref q_shelfSort, .ref q_shelfHas])), (q_rootAt, .inl (cJ, 4, .inr (.inl v_rootAt))), (q_pile, .inl (cJ, 10400, .inr (.inl v_pile))), (q_lastAt, .inl (cI, 2600, .inl v_lastAt)), (q_nextAt, .inl (cI, 2600, .inl v_nextAt)), (q_hasBend, .inl (cZ, 5001, .inl u5_hasBend))] H := hP
  have hD : va_D A [(q, .inr (9, [.ref q_bends, .ref q_rootAt, .int v_stepAt, .ref q_pile, .ref q_lastAt, .ref q_nextAt, .ref q_hasBend, .int u5_justMany, .ref q_isMet, .ref q_queue, .ref q_sums, .ref q_kept, .ref q_isKept, .ref q_copies, .ref q_shelfMany, .ref q_shelfSort, .ref q_shelfHas])), (q_rootAt, .inl (cJ, 4, .inr (.inl v_rootAt))), (q_pile, .inl (cJ, 10400, .inr (.inl v_pile))), (q_lastAt, .inl (cI, 2600, .inl v_lastAt)), (q_nextAt, .inl (cI, 2600, .inl v_nextAt)), (q_hasBend, .inl (cZ, 5001, .inl u5_hasBend))] := hD
  refine lv_iconst (v := 0) hx hb dX9_goesUpTo_51 (by decide) ?_
  refine lv_istore (lv' := [(7, .int (0 : Int32)), (0, .ref q), (1, .long p1), (3, .int p3), (4, .long p4), (6, .int y6_5)]) hx hb dX9_goesUpTo_52 hl (by decide) rfl (fun ls hl => ?_)
  refine lv_aload_n hx hb dX9_goesUpTo_54 rfl (lv_at hl 1 rfl) ?_
  refine lv_iconst (v := 0) hx hb dX9_goesUpTo_55 (by decide) ?_
  refine lv_bipush (v := (-9)) hx hb dX9_goesUpTo_56 (by decide) ?_
  refine lv_lconst (v := 0) hx hb dX9_goesUpTo_58 (by decide) ?_
  obtain ⟨r6, hc6, hf⟩ := ob_s hf
  refine bk_v (wc := [(q, .inr (9, [.ref q_bends, .ref q_rootAt, .int v_stepAt, .ref q_pile, .ref q_lastAt, .ref q_nextAt, .ref q_hasBend, .int u5_justMany, .ref q_isMet, .ref q_queue, .ref q_sums, .ref q_kept, .ref q_isKept, .ref q_copies, .ref q_shelfMany, .ref q_shelfSort, .ref q_shelfHas])), (q_rootAt, .inl (cJ, 4, .inr (.inl v_rootAt))), (q_pile, .inl (cJ, 10400, .inr (.inl v_pile))), (q_lastAt, .inl (cI, 2600, .inl v_lastAt)), (q_nextAt, .inl (cI, 2600, .inl v_nextAt))]) (wc2 := [(q, .inr (9, [.ref q_bends, .ref q_rootAt, .int v_stepAt, .ref q_pile, .ref q_lastAt, .ref q_nextAt, .ref q_hasBend, .int u5_justMany, .ref q_isMet, .ref q_queue, .ref q_sums, .ref q_kept, .ref q_isKept, .ref q_copies, .ref q_shelfMany, .ref q_shelfSort, .ref q_shelfHas])), (q_rootAt, .inl (cJ, 4, .inr (.inl v_rootAt))), (q_pile, .inl (cJ, 10400, .inr (.inl r6.1))), (q_lastAt, .inl (cI, 2600, .inl r6.2.1)), (q_nextAt, .inl (cI, 2600, .inl r6.2.2))]) (wr := [(q_hasBend, .inl (cZ, 5001, .inl u5_hasBend))]) (ws2 := [(q, .inr (9, [.ref q_bends, .ref q_rootAt, .int v_stepAt, .ref q_pile, .ref q_lastAt, .ref q_nextAt, .ref q_hasBend, .int u5_justMany, .ref q_isMet, .ref q_queue, .ref q_sums, .ref q_kept, .ref q_isKept, .ref q_copies, .ref q_shelfMany, .ref q_shelfSort, .ref q_shelfHas])), (q_rootAt, .inl (cJ, 4, .inr (.inl v_rootAt))), (q_pile, .inl (cJ, 10400, .inr (.inl r6.1))), (q_lastAt, .inl (cI, 2600, .inl r6.2.1)), (q_nextAt, .inl (cI, 2600, .inl r6.2.2)), (q_hasBend, .inl (cZ, 5001, .inl u5_hasBend))]) (va_runV (As := [.int (0 : Int32), .int (-9 : Int32), .long (0 : Int64)]) (rest := []) ⟨hx, hb, hml, hown, hts⟩ (kX9_lays (l := l) (G := G) (cI := cI) (cJ := cJ) (cZ := cZ) (cS := cS) (cG := cG) n q q_bends q_rootAt q_pile q_lastAt q_nextAt q_hasBend q_isMet q_queue q_sums q_kept q_isKept q_copies q_shelfMany q_shelfSort q_shelfHas v_stepAt u5_justMany v_rootAt v_pile v_lastAt v_nextAt (0 : Int32) (-9 : Int32) (0 : Int64) _ hc6 _) (cwV 3 hts gX9_goesUpTo_X9_lays rfl rfl rfl (by decide +kernel) ⟨Nat.le_of_ble_eq_true rfl, Nat.le_of_ble_eq_true rfl⟩) (cut_V hK hP hD [0, 1, 2, 3, 4] rfl rfl (ci := 9) (q0 := 0) rfl rfl) rfl rfl hl.1 rfl (lv_room (Nat.le_of_ble_eq_true rfl)) dX9_goesUpTo_59 ⟨Nat.zero_le _, Nat.zero_le _⟩) hP hD hS hA [0, 1, 2, 3, 4] [5] [1, 2, 3, 4, 5, 0] rfl rfl rfl rfl rfl rfl (fun H locs hP hD hS => ?_)
  refine hL62 p1 p3 p4 _ (fun y6_16 y7_16 u16_justMany u16_pile u16_lastAt u16_nextAt u16_hasBend H locs ls hf hP hD hS hl => ?_) n y6_5 (0 : Int32) u5_justMany r6.1 r6.2.1 r6.2.2 u5_hasBend _ _ _ hf hP hD hS (lv_sub hl [1, 2, 3, 4, 5, 0] rfl)
  have hP : va_P G vwCl [(q, .inr (9, [.ref q_bends, .ref q_rootAt, .int v_stepAt, .ref q_pile, .ref q_lastAt, .ref q_nextAt, .ref q_hasBend, .int u16_justMany, .ref q_isMet, .ref q_queue, .ref q_sums, .ref q_kept, .ref q_isKept, .ref q_copies, .ref q_shelfMany, .ref q_shelfSort, .ref q_shelfHas])), (q_rootAt, .inl (cJ, 4, .inr (.inl v_rootAt))), (q_pile, .inl (cJ, 10400, .inr (.inl u16_pile))), (q_lastAt, .inl (cI, 2600, .inl u16_lastAt)), (q_nextAt, .inl (cI, 2600, .inl u16_nextAt)), (q_hasBend, .inl (cZ, 5001, .inl u16_hasBend))] H := hP
  have hD : va_D A [(q, .inr (9, [.ref q_bends, .ref q_rootAt, .int v_stepAt, .ref q_pile, .ref q_lastAt, .ref q_nextAt, .ref q_hasBend, .int u16_justMany, .ref q_isMet, .ref q_queue, .ref q_sums, .ref q_kept, .ref q_isKept, .ref q_copies, .ref q_shelfMany, .ref q_shelfSort, .ref q_shelfHas])), (q_rootAt, .inl (cJ, 4, .inr (.inl v_rootAt))), (q_pile, .inl (cJ, 10400, .inr (.inl u16_pile))), (q_lastAt, .inl (cI, 2600, .inl u16_lastAt)), (q_nextAt, .inl (cI, 2600, .inl u16_nextAt)), (q_hasBend, .inl (cZ, 5001, .inl u16_hasBend))] := hD
  refine lv_iload hx hb dX9_goesUpTo_161 (lv_at hl 4 rfl) ?_
  cases hf
  rw [← hQ]
  exact rt_i hx hb hr hlk hP hD hS rfl dX9_goesUpTo_163
def pX9_allUpTo_L3 : Nat → Int32 → (Nat → Int32) → (Int32 → (Nat → Int32) → Option (Int32 × Int32 × (Nat → Int64) × (Nat → Int32) × (Nat → Int32) × (Nat → Int32))) → Option (Int32 × Int32 × (Nat → Int64) × (Nat → Int32) × (Nat → Int32) × (Nat → Int32))
  | 0, _, _, _ => none
  | n + 1, x4, v_hasBend, k => if (5000 : Int32) < x4 then k x4 v_hasBend else ck (ix x4 5001) (pX9_allUpTo_L3 n (x4 + (1 : Int32)) (upd v_hasBend x4.toNatClampNeg (0 : Int32)) k)
def pX9_allUpTo (n : Nat) (v_rootAt : (Nat → Int64)) (v_pile : (Nat → Int64)) (v_lastAt : (Nat → Int32)) (v_nextAt : (Nat → Int32)) (v_hasBend : (Nat → Int32)) (p1 : Int32) (p2 : Int64) : Option (Int32 × Int32 × (Nat → Int64) × (Nat → Int32) × (Nat → Int32) × (Nat → Int32)) := pX9_allUpTo_L3 n (0 : Int32) v_hasBend (fun (y4_3 : Int32) (u3_hasBend : (Nat → Int32)) => Option.bind (pX9_goesUpTo n v_rootAt v_pile v_lastAt v_nextAt u3_hasBend p1.toInt64 (2000000000 : Int32) p2) (fun r4 => some (r4.1, r4.2.1, r4.2.2.1, r4.2.2.2.1, r4.2.2.2.2.1, r4.2.2.2.2.2)))
def rmX9_allUpTo : Room := { frames := 2, cells := 0, slots := 0, locals := 55 }
theorem hiX9_allUpTo_X9 : ∀ w ∈ u_ws RX9 TX9 17, w ∈ wsX9_allUpTo := fun _ h => List.mem_cons_of_mem _ (List.mem_append_right _ h)
set_option maxRecDepth 100000 in
set_option maxHeartbeats 4000000 in
theorem kX9_allUpTo {l : Launch} {G : va_G} {cI cJ cZ cS cG : ClassId} (n : Nat) (q q_bends q_rootAt q_pile q_lastAt q_nextAt q_hasBend q_isMet q_queue q_sums q_kept q_isKept q_copies q_shelfMany q_shelfSort q_shelfHas : Nat) (v_stepAt : Int32) (v_justMany : Int32) (v_rootAt : (Nat → Int64)) (v_pile : (Nat → Int64)) (v_lastAt : (Nat → Int32)) (v_nextAt : (Nat → Int32)) (v_hasBend : (Nat → Int32)) (p1 : Int32) (p2 : Int64) (R : Int32 × Int32 × (Nat → Int64) × (Nat → Int32) × (Nat → Int32) × (Nat → Int32)) (hf : pX9_allUpTo n v_rootAt v_pile v_lastAt v_nextAt v_hasBend p1 p2 = some R) : CTi l yX9_allUpTo wsX9_allUpTo rmX9_allUpTo G cI cJ cZ cS cG [.ref q, .int p1, .long p2] [(q, .inr (9, [.ref q_bends, .ref q_rootAt, .int v_stepAt, .ref q_pile, .ref q_lastAt, .ref q_nextAt, .ref q_hasBend, .int v_justMany, .ref q_isMet, .ref q_queue, .ref q_sums, .ref q_kept, .ref q_isKept, .ref q_copies, .ref q_shelfMany, .ref q_shelfSort, .ref q_shelfHas])), (q_rootAt, .inl (cJ, 4, .inr (.inl v_rootAt))), (q_pile, .inl (cJ, 10400, .inr (.inl v_pile))), (q_lastAt, .inl (cI, 2600, .inl v_lastAt)), (q_nextAt, .inl (cI, 2600, .inl v_nextAt)), (q_hasBend, .inl (cZ, 5001, .inl v_hasBend))] [(q, .inr (9, [.ref q_bends, .ref q_rootAt, .int v_stepAt, .ref q_pile, .ref q_lastAt, .ref q_nextAt, .ref q_hasBend, .int R.2.1, .ref q_isMet, .ref q_queue, .ref q_sums, .ref q_kept, .ref q_isKept, .ref q_copies, .ref q_shelfMany, .ref q_shelfSort, .ref q_shelfHas])), (q_rootAt, .inl (cJ, 4, .inr (.inl v_rootAt))), (q_pile, .inl (cJ, 10400, .inr (.inl R.2.2.1))), (q_lastAt, .inl (cI, 2600, .inl R.2.2.2.1)), (q_nextAt, .inl (cI, 2600, .inl R.2.2.2.2.1)), (q_hasBend, .inl (cZ, 5001, .inl R.2.2.2.2.2))] R.1 := by
  refine Met.ofE (Qc := fun A => QRi G A [(q, .inr (9, [.ref q_bends, .ref q_rootAt, .int v_stepAt, .ref q_pile, .ref q_lastAt, .ref q_nextAt, .ref q_hasBend, .int R.2.1, .ref q_isMet, .ref q_queue, .ref q_sums, .ref q_kept, .ref q_isKept, .ref q_copies, .ref q_shelfMany, .ref q_shelfSort, .ref q_shelfHas])), (q_rootAt, .inl (cJ, 4, .inr (.inl v_rootAt))), (q_pile, .inl (cJ, 10400, .inr (.inl R.2.2.1))), (q_lastAt, .inl (cI, 2600, .inl R.2.2.2.1)), (q_nextAt, .inl (cI, 2600, .inl R.2.2.2.2.1)), (q_hasBend, .inl (cZ, 5001, .inl R.2.2.2.2.2))] R.1) (cc := cX9_allUpTo) (nL := 5) (ret := some .int) (plainFor_of_name (by decide +kernel)) rfl (Nat.le_of_ble_eq_true rfl) ?_
  intro p e s m below meth c A ls hx hb hml hr hlk hts hown hK hA hP hD hS hl
  have hown : s.vm.findClass RX9 = some m.cls := hown
  have hl : lv_has ls 5 [(0, .ref q), (1, .int p1), (2, .long p2)] := hl
  generalize hQ : MQ below (QRi G A [(q, .inr (9, [.ref q_bends, .ref q_rootAt, .int v_stepAt, .ref q_pile, .ref q_lastAt, .ref q_nextAt, .ref q_hasBend, .int R.2.1, .ref q_isMet, .ref q_queue, .ref q_sums, .ref q_kept, .ref q_isKept, .ref q_copies, .ref q_shelfMany, .ref q_shelfSort, .ref q_shelfHas])), (q_rootAt, .inl (cJ, 4, .inr (.inl v_rootAt))), (q_pile, .inl (cJ, 10400, .inr (.inl R.2.2.1))), (q_lastAt, .inl (cI, 2600, .inl R.2.2.2.1)), (q_nextAt, .inl (cI, 2600, .inl R.2.2.2.2.1)), (q_hasBend, .inl (cZ, 5001, .inl R.2.2.2.2.2))] R.1) ([.ref q, .int p1, .long p2] : List Value).toArray s 0 0 A = QQ
  unfold pX9_allUpTo at hf
  have hL3 : ∀ (x1 : Int32) (x2 : Int64) (v_justMany : Int32) (v_pile : (Nat → Int64)) (v_lastAt : (Nat → Int32)) (v_nextAt : (Nat → Int32)) (k : Int32 → (Nat → Int32) → Option (Int32 × Int32 × (Nat → Int64) × (Nat → Int32) × (Nat → Int32) × (Nat → Int32))), (∀ (x4 : Int32) (v_hasBend : (Nat → Int32)) (H : Heap) (locs : List Loc) (ls : Array Slot), k x4 v_hasBend = some R → va_P G vwCl [(q, .inr (9, [.ref q_bends, .ref q_rootAt, .int v_stepAt, .ref q_pile, .ref q_lastAt, .ref q_nextAt, .ref q_hasBend, .int v_justMany, .ref q_isMet, .ref q_queue, .ref q_sums, .ref q_kept, .ref q_isKept, .ref q_copies, .ref q_shelfMany, .ref q_shelfSort, .ref q_shelfHas])), (q_rootAt, .inl (cJ, 4, .inr (.inl v_rootAt))), (q_pile, .inl (cJ, 10400, .inr (.inl v_pile))), (q_lastAt, .inl (cI, 2600, .inl v_lastAt)), (q_nextAt, .inl (cI, 2600, .inl v_nextAt)), (q_hasBend, .inl (cZ, 5001, .inl v_hasBend))] H → va_D A [(q, .inr (9, [.ref q_bends, .ref q_rootAt, .int v_stepAt, .ref q_pile, .ref q_lastAt, .ref q_nextAt, .ref q_hasBend, .int v_justMany, .ref q_isMet, .ref q_queue, .ref q_sums, .ref q_kept, .ref q_isKept, .ref q_copies, .ref q_shelfMany, .ref q_shelfSort, .ref q_shelfHas])), (q_rootAt, .inl (cJ, 4, .inr (.inl v_rootAt))), (q_pile, .inl (cJ, 10400, .inr (.inl v_pile))), (q_lastAt, .inl (cI, 2600, .inl v_lastAt)), (q_nextAt, .inl (cI, 2600, .inl v_nextAt)), (q_hasBend, .inl (cZ, 5001, .inl v_hasBend))] → va_S A s.heap H locs → lv_has ls 5 [(0, .ref q), (1, .int x1), (2, .long x2), (4, .int x4)] → W p l e rmX9_allUpTo s m ([.ref q, .int p1, .long p2] : List Value).toArray below meth c H locs 0 0 QQ (F0 m 25 ls [])) → ∀ (n : Nat) (x4 : Int32) (v_hasBend : (Nat → Int32)) (H : Heap) (locs : List Loc) (ls : Array Slot), pX9_allUpTo_L3 n x4 v_hasBend k = some R → va_P G vwCl [(q, .inr (9, [.ref q_bends, .ref q_rootAt, .int v_stepAt, .ref q_pile, .ref q_lastAt, .ref q_nextAt, .ref q_hasBend, .int v_justMany, .ref q_isMet, .ref q_queue, .ref q_sums, .ref q_kept, .ref q_isKept, .ref q_copies, .ref q_shelfMany, .ref q_shelfSort, .ref q_shelfHas])), (q_rootAt, .inl (cJ, 4, .inr (.inl v_rootAt))), (q_pile, .inl (cJ, 10400, .inr (.inl v_pile))), (q_lastAt, .inl (cI, 2600, .inl v_lastAt)), (q_nextAt, .inl (cI, 2600, .inl v_nextAt)), (q_hasBend, .inl (cZ, 5001, .inl v_hasBend))] H → va_D A [(q, .inr (9, [.ref q_bends, .ref q_rootAt, .int v_stepAt, .ref q_pile, .ref q_lastAt, .ref q_nextAt, .ref q_hasBend, .int v_justMany, .ref q_isMet, .ref q_queue, .ref q_sums, .ref q_kept, .ref q_isKept, .ref q_copies, .ref q_shelfMany, .ref q_shelfSort, .ref q_shelfHas])), (q_rootAt, .inl (cJ, 4, .inr (.inl v_rootAt))), (q_pile, .inl (cJ, 10400, .inr (.inl v_pile))), (q_lastAt, .inl (cI, 2600, .inl v_lastAt)), (q_nextAt, .inl (cI, 2600, .inl v_nextAt)), (q_hasBend, .inl (cZ, 5001, .inl v_hasBend))] → va_S A s.heap H locs → lv_has ls 5 [(0, .ref q), (1, .int x1), (2, .long x2), (4, .int x4)] → W p l e rmX9_allUpTo s m ([.ref q, .int p1, .long p2] : List Value).toArray below meth c H locs 0 0 QQ (F0 m 3 ls []) := by
    intro x1 x2 v_justMany v_pile v_lastAt v_nextAt k hk n
    induction n with
    | zero =>
      intro x4 v_hasBend H locs ls hf
      cases hf
    | succ n ih =>
      intro x4 v_hasBend H locs ls hf hP hD hS hl
      unfold pX9_allUpTo_L3 at hf
      refine lv_iload hx hb dX9_allUpTo_3 (lv_at hl 3 rfl) ?_
      refine lv_sipush (v := 5000) hx hb dX9_allUpTo_5 (by decide) ?_
      refine lv_icmp_gt (tgt := 25) hx hb dX9_allUpTo_8 (by decide) (fun c1 => ?_) (fun c1 => ?_)
      · have hf := if_s hf c1
        exact hk x4 v_hasBend _ _ _ hf hP hD hS (lv_sub hl [0, 1, 2, 3] rfl)
      · have hf := if_n hf c1
        refine lv_aload_n hx hb dX9_allUpTo_11 rfl (lv_at hl 0 rfl) ?_
        refine va_get (D := G) (ci := 9) (v := .ref q_hasBend) (C := RX9) (T := TX9) (N := 17) hx hb hts hiX9_allUpTo_X9 hown hK.1 hP 0 rfl rfl 6 (by decide) (hts (.fieldLink RX9 26 "PackedBendsModel" "hasBend" "[Z") (List.mem_of_getElem? (i := 1) rfl)) (fun _ h9 => h9) rfl dX9_allUpTo_12 ?_
        refine lv_iload hx hb dX9_allUpTo_15 (lv_at hl 3 rfl) ?_
        refine lv_iconst (v := 0) hx hb dX9_allUpTo_17 (by decide) ?_
        obtain ⟨z2, hf⟩ := ck_s hf
        refine va_zast hx hb hK.1 hP hD hS 5 2 rfl rfl (vp_in_iff.mpr z2) dX9_allUpTo_18 (fun H locs hP hD hS => ?_)
        rw [vz0] at hP hD
        have hP : va_P G vwCl [(q, .inr (9, [.ref q_bends, .ref q_rootAt, .int v_stepAt, .ref q_pile, .ref q_lastAt, .ref q_nextAt, .ref q_hasBend, .int v_justMany, .ref q_isMet, .ref q_queue, .ref q_sums, .ref q_kept, .ref q_isKept, .ref q_copies, .ref q_shelfMany, .ref q_shelfSort, .ref q_shelfHas])), (q_rootAt, .inl (cJ, 4, .inr (.inl v_rootAt))), (q_pile, .inl (cJ, 10400, .inr (.inl v_pile))), (q_lastAt, .inl (cI, 2600, .inl v_lastAt)), (q_nextAt, .inl (cI, 2600, .inl v_nextAt)), (q_hasBend, .inl (cZ, 5001, .inl (upd v_hasBend x4.toNatClampNeg (0 : Int32))))] H := hP
        have hD : va_D A [(q, .inr (9, [.ref q_bends, .ref q_rootAt, .int v_stepAt, .ref q_pile, .ref q_lastAt, .ref q_nextAt, .ref q_hasBend, .int v_justMany, .ref q_isMet, .ref q_queue, .ref q_sums, .ref q_kept, .ref q_isKept, .ref q_copies, .ref q_shelfMany, .ref q_shelfSort, .ref q_shelfHas])), (q_rootAt, .inl (cJ, 4, .inr (.inl v_rootAt))), (q_pile, .inl (cJ, 10400, .inr (.inl v_pile))), (q_lastAt, .inl (cI, 2600, .inl v_lastAt)), (q_nextAt, .inl (cI, 2600, .inl v_nextAt)), (q_hasBend, .inl (cZ, 5001, .inl (upd v_hasBend x4.toNatClampNeg (0 : Int32))))] := hD
        refine lv_iinc (v := x4 + (1 : Int32)) (lv' := [(4, .int (x4 + (1 : Int32))), (0, .ref q), (1, .int x1), (2, .long x2)]) hx hb dX9_allUpTo_19 hl (k := 3) rfl rfl (by decide) rfl (fun ls hl => ?_)
        refine lv_goto (tgt := 3) hx hb dX9_allUpTo_22 (by decide) ?_
        exact ih (x4 + (1 : Int32)) (upd v_hasBend x4.toNatClampNeg (0 : Int32)) _ _ _ hf hP hD hS (lv_sub hl [1, 2, 3, 0] rfl)
  refine lv_iconst (v := 0) hx hb dX9_allUpTo_0 (by decide) ?_
  refine lv_istore (lv' := [(4, .int (0 : Int32)), (0, .ref q), (1, .int p1), (2, .long p2)]) hx hb dX9_allUpTo_1 hl (by decide) rfl (fun ls hl => ?_)
  refine hL3 p1 p2 v_justMany v_pile v_lastAt v_nextAt _ (fun y4_3 u3_hasBend H locs ls hf hP hD hS hl => ?_) n (0 : Int32) v_hasBend _ _ _ hf hP hD hS (lv_sub hl [1, 2, 3, 0] rfl)
  have hP : va_P G vwCl [(q, .inr (9, [.ref q_bends, .ref q_rootAt, .int v_stepAt, .ref q_pile, .ref q_lastAt, .ref q_nextAt, .ref q_hasBend, .int v_justMany, .ref q_isMet, .ref q_queue, .ref q_sums, .ref q_kept, .ref q_isKept, .ref q_copies, .ref q_shelfMany, .ref q_shelfSort, .ref q_shelfHas])), (q_rootAt, .inl (cJ, 4, .inr (.inl v_rootAt))), (q_pile, .inl (cJ, 10400, .inr (.inl v_pile))), (q_lastAt, .inl (cI, 2600, .inl v_lastAt)), (q_nextAt, .inl (cI, 2600, .inl v_nextAt)), (q_hasBend, .inl (cZ, 5001, .inl u3_hasBend))] H := hP
  have hD : va_D A [(q, .inr (9, [.ref q_bends, .ref q_rootAt, .int v_stepAt, .ref q_pile, .ref q_lastAt, .ref q_nextAt, .ref q_hasBend, .int v_justMany, .ref q_isMet, .ref q_queue, .ref q_sums, .ref q_kept, .ref q_isKept, .ref q_copies, .ref q_shelfMany, .ref q_shelfSort, .ref q_shelfHas])), (q_rootAt, .inl (cJ, 4, .inr (.inl v_rootAt))), (q_pile, .inl (cJ, 10400, .inr (.inl v_pile))), (q_lastAt, .inl (cI, 2600, .inl v_lastAt)), (q_nextAt, .inl (cI, 2600, .inl v_nextAt)), (q_hasBend, .inl (cZ, 5001, .inl u3_hasBend))] := hD
  refine lv_aload_n hx hb dX9_allUpTo_25 rfl (lv_at hl 0 rfl) ?_
  refine lv_iload_n hx hb dX9_allUpTo_26 rfl (lv_at hl 1 rfl) ?_
  refine lv_i2l hx hb dX9_allUpTo_27 rfl ?_
  refine lv_ldc (v := 2000000000) hx hb hown (hts (.constant RX9 122 (2000000000)) (List.mem_of_getElem? (i := 2) rfl)) dX9_allUpTo_28 ?_
  refine lv_lload_n hx hb dX9_allUpTo_30 rfl (lv_at hl 2 rfl) ?_
  obtain ⟨r4, hc4, hf⟩ := ob_s hf
  refine bk_i (wc := [(q, .inr (9, [.ref q_bends, .ref q_rootAt, .int v_stepAt, .ref q_pile, .ref q_lastAt, .ref q_nextAt, .ref q_hasBend, .int v_justMany, .ref q_isMet, .ref q_queue, .ref q_sums, .ref q_kept, .ref q_isKept, .ref q_copies, .ref q_shelfMany, .ref q_shelfSort, .ref q_shelfHas])), (q_rootAt, .inl (cJ, 4, .inr (.inl v_rootAt))), (q_pile, .inl (cJ, 10400, .inr (.inl v_pile))), (q_lastAt, .inl (cI, 2600, .inl v_lastAt)), (q_nextAt, .inl (cI, 2600, .inl v_nextAt)), (q_hasBend, .inl (cZ, 5001, .inl u3_hasBend))]) (wc2 := [(q, .inr (9, [.ref q_bends, .ref q_rootAt, .int v_stepAt, .ref q_pile, .ref q_lastAt, .ref q_nextAt, .ref q_hasBend, .int r4.2.1, .ref q_isMet, .ref q_queue, .ref q_sums, .ref q_kept, .ref q_isKept, .ref q_copies, .ref q_shelfMany, .ref q_shelfSort, .ref q_shelfHas])), (q_rootAt, .inl (cJ, 4, .inr (.inl v_rootAt))), (q_pile, .inl (cJ, 10400, .inr (.inl r4.2.2.1))), (q_lastAt, .inl (cI, 2600, .inl r4.2.2.2.1)), (q_nextAt, .inl (cI, 2600, .inl r4.2.2.2.2.1)), (q_hasBend, .inl (cZ, 5001, .inl r4.2.2.2.2.2))]) (wr := []) (ws2 := [(q, .inr (9, [.ref q_bends, .ref q_rootAt, .int v_stepAt, .ref q_pile, .ref q_lastAt, .ref q_nextAt, .ref q_hasBend, .int r4.2.1, .ref q_isMet, .ref q_queue, .ref q_sums, .ref q_kept, .ref q_isKept, .ref q_copies, .ref q_shelfMany, .ref q_shelfSort, .ref q_shelfHas])), (q_rootAt, .inl (cJ, 4, .inr (.inl v_rootAt))), (q_pile, .inl (cJ, 10400, .inr (.inl r4.2.2.1))), (q_lastAt, .inl (cI, 2600, .inl r4.2.2.2.1)), (q_nextAt, .inl (cI, 2600, .inl r4.2.2.2.2.1)), (q_hasBend, .inl (cZ, 5001, .inl r4.2.2.2.2.2))]) (r := r4.1) (va_runV (As := [.long p1.toInt64, .int (2000000000 : Int32), .long p2]) (rest := []) ⟨hx, hb, hml, hown, hts⟩ (kX9_goesUpTo (l := l) (G := G) (cI := cI) (cJ := cJ) (cZ := cZ) (cS := cS) (cG := cG) n q q_bends q_rootAt q_pile q_lastAt q_nextAt q_hasBend q_isMet q_queue q_sums q_kept q_isKept q_copies q_shelfMany q_shelfSort q_shelfHas v_stepAt v_justMany v_rootAt v_pile v_lastAt v_nextAt u3_hasBend p1.toInt64 (2000000000 : Int32) p2 _ hc4 _) (cwV 3 hts gX9_allUpTo_X9_goesUpTo rfl rfl rfl (by decide +kernel) ⟨Nat.le_of_ble_eq_true rfl, Nat.le_of_ble_eq_true rfl⟩) (cut_V hK hP hD [0, 1, 2, 3, 4, 5] rfl rfl (ci := 9) (q0 := 0) rfl rfl) rfl rfl hl.1 rfl (lv_room (Nat.le_of_ble_eq_true rfl)) dX9_allUpTo_31 ⟨Nat.zero_le _, Nat.zero_le _⟩) hP hD hS hA [0, 1, 2, 3, 4, 5] [] [0, 1, 2, 3, 4, 5] rfl rfl rfl rfl rfl rfl (fun H locs hP hD hS => ?_)
  cases hf
  rw [← hQ]
  exact rt_i hx hb hr hlk hP hD hS rfl dX9_allUpTo_34
def pX9_upTo (n : Nat) (v_stepAt : Int32) (v_justMany : Int32) (v_bends : (Nat → Int64)) (v_rootAt : (Nat → Int64)) (v_pile : (Nat → Int64)) (v_lastAt : (Nat → Int32)) (v_nextAt : (Nat → Int32)) (v_hasBend : (Nat → Int32)) (p1 : Int32) : Option (Int32 × Int32 × Int32 × (Nat → Int64) × (Nat → Int64) × (Nat → Int32) × (Nat → Int32) × (Nat → Int32)) := Option.bind (pX9_within p1 (-100000 : Int32) (5000 : Int32)) (fun r1 => if r1 = 0 then some ((-2 : Int32), v_stepAt, v_justMany, v_rootAt, v_pile, v_lastAt, v_nextAt, v_hasBend) else Option.bind (pX9_isBound n v_bends v_rootAt) (fun r3 => if r3.1 = 0 then some ((-3 : Int32), r3.2.1, v_justMany, r3.2.2, v_pile, v_lastAt, v_nextAt, v_hasBend) else Option.bind (pX9_allUpTo n r3.2.2 v_pile v_lastAt v_nextAt v_hasBend p1 (-9223372036854775808 : Int64)) (fun r5 => some (r5.1, r3.2.1, r5.2.1, r3.2.2, r5.2.2.1, r5.2.2.2.1, r5.2.2.2.2.1, r5.2.2.2.2.2))))
def rmX9_upTo : Room := { frames := 3, cells := 0, slots := 0, locals := 79 }
set_option maxRecDepth 100000 in
set_option maxHeartbeats 4000000 in
theorem kX9_upTo {l : Launch} {G : va_G} {cI cJ cZ cS cG : ClassId} (n : Nat) (q q_bends q_rootAt q_pile q_lastAt q_nextAt q_hasBend q_isMet q_queue q_sums q_kept q_isKept q_copies q_shelfMany q_shelfSort q_shelfHas : Nat) (v_stepAt : Int32) (v_justMany : Int32) (v_bends : (Nat → Int64)) (v_rootAt : (Nat → Int64)) (v_pile : (Nat → Int64)) (v_lastAt : (Nat → Int32)) (v_nextAt : (Nat → Int32)) (v_hasBend : (Nat → Int32)) (p1 : Int32) (R : Int32 × Int32 × Int32 × (Nat → Int64) × (Nat → Int64) × (Nat → Int32) × (Nat → Int32) × (Nat → Int32)) (hf : pX9_upTo n v_stepAt v_justMany v_bends v_rootAt v_pile v_lastAt v_nextAt v_hasBend p1 = some R) : CTi l yX9_upTo wsX9_upTo rmX9_upTo G cI cJ cZ cS cG [.ref q, .int p1] [(q, .inr (9, [.ref q_bends, .ref q_rootAt, .int v_stepAt, .ref q_pile, .ref q_lastAt, .ref q_nextAt, .ref q_hasBend, .int v_justMany, .ref q_isMet, .ref q_queue, .ref q_sums, .ref q_kept, .ref q_isKept, .ref q_copies, .ref q_shelfMany, .ref q_shelfSort, .ref q_shelfHas])), (q_bends, .inl (cJ, 4, .inr (.inl v_bends))), (q_rootAt, .inl (cJ, 4, .inr (.inl v_rootAt))), (q_pile, .inl (cJ, 10400, .inr (.inl v_pile))), (q_lastAt, .inl (cI, 2600, .inl v_lastAt)), (q_nextAt, .inl (cI, 2600, .inl v_nextAt)), (q_hasBend, .inl (cZ, 5001, .inl v_hasBend))] [(q, .inr (9, [.ref q_bends, .ref q_rootAt, .int R.2.1, .ref q_pile, .ref q_lastAt, .ref q_nextAt, .ref q_hasBend, .int R.2.2.1, .ref q_isMet, .ref q_queue, .ref q_sums, .ref q_kept, .ref q_isKept, .ref q_copies, .ref q_shelfMany, .ref q_shelfSort, .ref q_shelfHas])), (q_bends, .inl (cJ, 4, .inr (.inl v_bends))), (q_rootAt, .inl (cJ, 4, .inr (.inl R.2.2.2.1))), (q_pile, .inl (cJ, 10400, .inr (.inl R.2.2.2.2.1))), (q_lastAt, .inl (cI, 2600, .inl R.2.2.2.2.2.1)), (q_nextAt, .inl (cI, 2600, .inl R.2.2.2.2.2.2.1)), (q_hasBend, .inl (cZ, 5001, .inl R.2.2.2.2.2.2.2))] R.1 := by
  refine Met.ofE (Qc := fun A => QRi G A [(q, .inr (9, [.ref q_bends, .ref q_rootAt, .int R.2.1, .ref q_pile, .ref q_lastAt, .ref q_nextAt, .ref q_hasBend, .int R.2.2.1, .ref q_isMet, .ref q_queue, .ref q_sums, .ref q_kept, .ref q_isKept, .ref q_copies, .ref q_shelfMany, .ref q_shelfSort, .ref q_shelfHas])), (q_bends, .inl (cJ, 4, .inr (.inl v_bends))), (q_rootAt, .inl (cJ, 4, .inr (.inl R.2.2.2.1))), (q_pile, .inl (cJ, 10400, .inr (.inl R.2.2.2.2.1))), (q_lastAt, .inl (cI, 2600, .inl R.2.2.2.2.2.1)), (q_nextAt, .inl (cI, 2600, .inl R.2.2.2.2.2.2.1)), (q_hasBend, .inl (cZ, 5001, .inl R.2.2.2.2.2.2.2))] R.1) (cc := cX9_upTo) (nL := 2) (ret := some .int) (plainFor_of_name (by decide +kernel)) rfl (Nat.le_of_ble_eq_true rfl) ?_
  intro p e s m below meth c A ls hx hb hml hr hlk hts hown hK hA hP hD hS hl
  have hown : s.vm.findClass RX9 = some m.cls := hown
  have hl : lv_has ls 2 [(0, .ref q), (1, .int p1)] := hl
  generalize hQ : MQ below (QRi G A [(q, .inr (9, [.ref q_bends, .ref q_rootAt, .int R.2.1, .ref q_pile, .ref q_lastAt, .ref q_nextAt, .ref q_hasBend, .int R.2.2.1, .ref q_isMet, .ref q_queue, .ref q_sums, .ref q_kept, .ref q_isKept, .ref q_copies, .ref q_shelfMany, .ref q_shelfSort, .ref q_shelfHas])), (q_bends, .inl (cJ, 4, .inr (.inl v_bends))), (q_rootAt, .inl (cJ, 4, .inr (.inl R.2.2.2.1))), (q_pile, .inl (cJ, 10400, .inr (.inl R.2.2.2.2.1))), (q_lastAt, .inl (cI, 2600, .inl R.2.2.2.2.2.1)), (q_nextAt, .inl (cI, 2600, .inl R.2.2.2.2.2.2.1)), (q_hasBend, .inl (cZ, 5001, .inl R.2.2.2.2.2.2.2))] R.1) ([.ref q, .int p1] : List Value).toArray s 0 0 A = QQ
  unfold pX9_upTo at hf
  refine lv_iload_n hx hb dX9_upTo_0 rfl (lv_at hl 1 rfl) ?_
  refine lv_ldc (v := (-100000)) hx hb hown (hts (.constant RX9 67 (-100000)) (List.mem_of_getElem? (i := 1) rfl)) dX9_upTo_1 ?_
  refine lv_sipush (v := 5000) hx hb dX9_upTo_3 (by decide) ?_
  obtain ⟨r1, hc1, hf⟩ := ob_s hf
  refine bk_i (wc := []) (wc2 := []) (wr := [(q, .inr (9, [.ref q_bends, .ref q_rootAt, .int v_stepAt, .ref q_pile, .ref q_lastAt, .ref q_nextAt, .ref q_hasBend, .int v_justMany, .ref q_isMet, .ref q_queue, .ref q_sums, .ref q_kept, .ref q_isKept, .ref q_copies, .ref q_shelfMany, .ref q_shelfSort, .ref q_shelfHas])), (q_bends, .inl (cJ, 4, .inr (.inl v_bends))), (q_rootAt, .inl (cJ, 4, .inr (.inl v_rootAt))), (q_pile, .inl (cJ, 10400, .inr (.inl v_pile))), (q_lastAt, .inl (cI, 2600, .inl v_lastAt)), (q_nextAt, .inl (cI, 2600, .inl v_nextAt)), (q_hasBend, .inl (cZ, 5001, .inl v_hasBend))]) (ws2 := [(q, .inr (9, [.ref q_bends, .ref q_rootAt, .int v_stepAt, .ref q_pile, .ref q_lastAt, .ref q_nextAt, .ref q_hasBend, .int v_justMany, .ref q_isMet, .ref q_queue, .ref q_sums, .ref q_kept, .ref q_isKept, .ref q_copies, .ref q_shelfMany, .ref q_shelfSort, .ref q_shelfHas])), (q_bends, .inl (cJ, 4, .inr (.inl v_bends))), (q_rootAt, .inl (cJ, 4, .inr (.inl v_rootAt))), (q_pile, .inl (cJ, 10400, .inr (.inl v_pile))), (q_lastAt, .inl (cI, 2600, .inl v_lastAt)), (q_nextAt, .inl (cI, 2600, .inl v_nextAt)), (q_hasBend, .inl (cZ, 5001, .inl v_hasBend))]) (r := r1) (va_runS (As := [.int p1, .int (-100000 : Int32), .int (5000 : Int32)]) (rest := []) ⟨hx, hb, hml, hown, hts⟩ (kX9_within (l := l) (G := G) (cI := cI) (cJ := cJ) (cZ := cZ) (cS := cS) (cG := cG) p1 (-100000 : Int32) (5000 : Int32) _ hc1 _) (va_cwS 3 hts gX9_upTo_X9_within rfl rfl rfl (by decide +kernel) ⟨Nat.le_of_ble_eq_true rfl, Nat.le_of_ble_eq_true rfl⟩) (cut_S hK hP hD [] rfl rfl) rfl rfl hl.1 rfl (lv_room (Nat.le_of_ble_eq_true rfl)) dX9_upTo_6 ⟨Nat.zero_le _, Nat.zero_le _⟩) hP hD hS hA [] [0, 1, 2, 3, 4, 5, 6] [0, 1, 2, 3, 4, 5, 6] rfl rfl rfl rfl rfl rfl (fun H locs hP hD hS => ?_)
  refine lv_if_ne (tgt := 15) hx hb dX9_upTo_9 (by decide) (fun c2 => ?_) (fun c2 => ?_)
  · have hf := if_n hf c2
    refine lv_aload_n hx hb dX9_upTo_15 rfl (lv_at hl 0 rfl) ?_
    obtain ⟨r3, hc3, hf⟩ := ob_s hf
    refine bk_i (wc := [(q, .inr (9, [.ref q_bends, .ref q_rootAt, .int v_stepAt, .ref q_pile, .ref q_lastAt, .ref q_nextAt, .ref q_hasBend, .int v_justMany, .ref q_isMet, .ref q_queue, .ref q_sums, .ref q_kept, .ref q_isKept, .ref q_copies, .ref q_shelfMany, .ref q_shelfSort, .ref q_shelfHas])), (q_bends, .inl (cJ, 4, .inr (.inl v_bends))), (q_rootAt, .inl (cJ, 4, .inr (.inl v_rootAt)))]) (wc2 := [(q, .inr (9, [.ref q_bends, .ref q_rootAt, .int r3.2.1, .ref q_pile, .ref q_lastAt, .ref q_nextAt, .ref q_hasBend, .int v_justMany, .ref q_isMet, .ref q_queue, .ref q_sums, .ref q_kept, .ref q_isKept, .ref q_copies, .ref q_shelfMany, .ref q_shelfSort, .ref q_shelfHas])), (q_bends, .inl (cJ, 4, .inr (.inl v_bends))), (q_rootAt, .inl (cJ, 4, .inr (.inl r3.2.2)))]) (wr := [(q_pile, .inl (cJ, 10400, .inr (.inl v_pile))), (q_lastAt, .inl (cI, 2600, .inl v_lastAt)), (q_nextAt, .inl (cI, 2600, .inl v_nextAt)), (q_hasBend, .inl (cZ, 5001, .inl v_hasBend))]) (ws2 := [(q, .inr (9, [.ref q_bends, .ref q_rootAt, .int r3.2.1, .ref q_pile, .ref q_lastAt, .ref q_nextAt, .ref q_hasBend, .int v_justMany, .ref q_isMet, .ref q_queue, .ref q_sums, .ref q_kept, .ref q_isKept, .ref q_copies, .ref q_shelfMany, .ref q_shelfSort, .ref q_shelfHas])), (q_bends, .inl (cJ, 4, .inr (.inl v_bends))), (q_rootAt, .inl (cJ, 4, .inr (.inl r3.2.2))), (q_pile, .inl (cJ, 10400, .inr (.inl v_pile))), (q_lastAt, .inl (cI, 2600, .inl v_lastAt)), (q_nextAt, .inl (cI, 2600, .inl v_nextAt)), (q_hasBend, .inl (cZ, 5001, .inl v_hasBend))]) (r := r3.1) (va_runV (As := []) (rest := []) ⟨hx, hb, hml, hown, hts⟩ (kX9_isBound (l := l) (G := G) (cI := cI) (cJ := cJ) (cZ := cZ) (cS := cS) (cG := cG) n q q_bends q_rootAt q_pile q_lastAt q_nextAt q_hasBend q_isMet q_queue q_sums q_kept q_isKept q_copies q_shelfMany q_shelfSort q_shelfHas v_stepAt v_justMany v_bends v_rootAt _ hc3 _) (cwV 0 hts gX9_upTo_X9_isBound rfl rfl rfl (by decide +kernel) ⟨Nat.le_of_ble_eq_true rfl, Nat.le_of_ble_eq_true rfl⟩) (cut_V hK hP hD [0, 1, 2] rfl rfl (ci := 9) (q0 := 0) rfl rfl) rfl rfl hl.1 rfl (lv_room (Nat.le_of_ble_eq_true rfl)) dX9_upTo_16 ⟨Nat.zero_le _, Nat.zero_le _⟩) hP hD hS hA [0, 1, 2] [3, 4, 5, 6] [4, 5, 6, 0, 1, 2, 3] rfl rfl rfl rfl rfl rfl (fun H locs hP hD hS => ?_)
    refine lv_if_eq (tgt := 33) hx hb dX9_upTo_19 (by decide) (fun c4 => ?_) (fun c4 => ?_)
    · have hf := if_s hf c4
      refine lv_bipush (v := (-3)) hx hb dX9_upTo_33 (by decide) ?_
      cases hf
      rw [← hQ]
      exact rt_i hx hb hr hlk hP hD hS rfl dX9_upTo_35
    · have hf := if_n hf c4
      refine lv_aload_n hx hb dX9_upTo_22 rfl (lv_at hl 0 rfl) ?_
      refine lv_iload_n hx hb dX9_upTo_23 rfl (lv_at hl 1 rfl) ?_
      refine lv_ldc2 (v := (-9223372036854775808)) hx hb hown (hts (.constantLong RX9 80 (-9223372036854775808)) (List.mem_of_getElem? (i := 2) rfl)) dX9_upTo_24 ?_
      obtain ⟨r5, hc5, hf⟩ := ob_s hf
      refine bk_i (wc := [(q, .inr (9, [.ref q_bends, .ref q_rootAt, .int r3.2.1, .ref q_pile, .ref q_lastAt, .ref q_nextAt, .ref q_hasBend, .int v_justMany, .ref q_isMet, .ref q_queue, .ref q_sums, .ref q_kept, .ref q_isKept, .ref q_copies, .ref q_shelfMany, .ref q_shelfSort, .ref q_shelfHas])), (q_rootAt, .inl (cJ, 4, .inr (.inl r3.2.2))), (q_pile, .inl (cJ, 10400, .inr (.inl v_pile))), (q_lastAt, .inl (cI, 2600, .inl v_lastAt)), (q_nextAt, .inl (cI, 2600, .inl v_nextAt)), (q_hasBend, .inl (cZ, 5001, .inl v_hasBend))]) (wc2 := [(q, .inr (9, [.ref q_bends, .ref q_rootAt, .int r3.2.1, .ref q_pile, .ref q_lastAt, .ref q_nextAt, .ref q_hasBend, .int r5.2.1, .ref q_isMet, .ref q_queue, .ref q_sums, .ref q_kept, .ref q_isKept, .ref q_copies, .ref q_shelfMany, .ref q_shelfSort, .ref q_shelfHas])), (q_rootAt, .inl (cJ, 4, .inr (.inl r3.2.2))), (q_pile, .inl (cJ, 10400, .inr (.inl r5.2.2.1))), (q_lastAt, .inl (cI, 2600, .inl r5.2.2.2.1)), (q_nextAt, .inl (cI, 2600, .inl r5.2.2.2.2.1)), (q_hasBend, .inl (cZ, 5001, .inl r5.2.2.2.2.2))]) (wr := [(q_bends, .inl (cJ, 4, .inr (.inl v_bends)))]) (ws2 := [(q, .inr (9, [.ref q_bends, .ref q_rootAt, .int r3.2.1, .ref q_pile, .ref q_lastAt, .ref q_nextAt, .ref q_hasBend, .int r5.2.1, .ref q_isMet, .ref q_queue, .ref q_sums, .ref q_kept, .ref q_isKept, .ref q_copies, .ref q_shelfMany, .ref q_shelfSort, .ref q_shelfHas])), (q_bends, .inl (cJ, 4, .inr (.inl v_bends))), (q_rootAt, .inl (cJ, 4, .inr (.inl r3.2.2))), (q_pile, .inl (cJ, 10400, .inr (.inl r5.2.2.1))), (q_lastAt, .inl (cI, 2600, .inl r5.2.2.2.1)), (q_nextAt, .inl (cI, 2600, .inl r5.2.2.2.2.1)), (q_hasBend, .inl (cZ, 5001, .inl r5.2.2.2.2.2))]) (r := r5.1) (va_runV (As := [.int p1, .long (-9223372036854775808 : Int64)]) (rest := []) ⟨hx, hb, hml, hown, hts⟩ (kX9_allUpTo (l := l) (G := G) (cI := cI) (cJ := cJ) (cZ := cZ) (cS := cS) (cG := cG) n q q_bends q_rootAt q_pile q_lastAt q_nextAt q_hasBend q_isMet q_queue q_sums q_kept q_isKept q_copies q_shelfMany q_shelfSort q_shelfHas r3.2.1 v_justMany r3.2.2 v_pile v_lastAt v_nextAt v_hasBend p1 (-9223372036854775808 : Int64) _ hc5 _) (cwV 2 hts gX9_upTo_X9_allUpTo rfl rfl rfl (by decide +kernel) ⟨Nat.le_of_ble_eq_true rfl, Nat.le_of_ble_eq_true rfl⟩) (cut_V hK hP hD [0, 2, 3, 4, 5, 6] rfl rfl (ci := 9) (q0 := 0) rfl rfl) rfl rfl hl.1 rfl (lv_room (Nat.le_of_ble_eq_true rfl)) dX9_upTo_27 ⟨Nat.zero_le _, Nat.zero_le _⟩) hP hD hS hA [0, 2, 3, 4, 5, 6] [1] [1, 0, 2, 3, 4, 5, 6] rfl rfl rfl rfl rfl rfl (fun H locs hP hD hS => ?_)
      refine lv_goto (tgt := 35) hx hb dX9_upTo_30 (by decide) ?_
      cases hf
      rw [← hQ]
      exact rt_i hx hb hr hlk hP hD hS rfl dX9_upTo_35
  · have hf := if_s hf c2
    refine lv_bipush (v := (-2)) hx hb dX9_upTo_12 (by decide) ?_
    cases hf
    rw [← hQ]
    exact rt_i hx hb hr hlk hP hD hS rfl dX9_upTo_14
def pX9_just (n : Nat) (v_stepAt : Int32) (v_justMany : Int32) (v_bends : (Nat → Int64)) (v_rootAt : (Nat → Int64)) (v_pile : (Nat → Int64)) (v_lastAt : (Nat → Int32)) (v_nextAt : (Nat → Int32)) (v_hasBend : (Nat → Int32)) (p1 : Int32) : Option (Int32 × Int32 × Int32 × (Nat → Int64) × (Nat → Int64) × (Nat → Int32) × (Nat → Int32) × (Nat → Int32)) := Option.bind (pX9_within p1 (-100000 : Int32) (5000 : Int32)) (fun r1 => if r1 = 0 then some ((-2 : Int32), v_stepAt, v_justMany, v_rootAt, v_pile, v_lastAt, v_nextAt, v_hasBend) else Option.bind (pX9_isBound n v_bends v_rootAt) (fun r3 => if r3.1 = 0 then some ((-3 : Int32), r3.2.1, v_justMany, r3.2.2, v_pile, v_lastAt, v_nextAt, v_hasBend) else Option.bind (pX9_allUpTo n r3.2.2 v_pile v_lastAt v_nextAt v_hasBend p1 p1.toInt64) (fun r5 => some (r5.2.1, r3.2.1, r5.2.1, r3.2.2, r5.2.2.1, r5.2.2.2.1, r5.2.2.2.2.1, r5.2.2.2.2.2))))
def rmX9_just : Room := { frames := 3, cells := 0, slots := 0, locals := 79 }
theorem hiX9_just_X9 : ∀ w ∈ u_ws RX9 TX9 17, w ∈ wsX9_just := fun _ h => List.mem_cons_of_mem _ (List.mem_append_right _ h)
set_option maxRecDepth 100000 in
set_option maxHeartbeats 4000000 in
theorem kX9_just {l : Launch} {G : va_G} {cI cJ cZ cS cG : ClassId} (n : Nat) (q q_bends q_rootAt q_pile q_lastAt q_nextAt q_hasBend q_isMet q_queue q_sums q_kept q_isKept q_copies q_shelfMany q_shelfSort q_shelfHas : Nat) (v_stepAt : Int32) (v_justMany : Int32) (v_bends : (Nat → Int64)) (v_rootAt : (Nat → Int64)) (v_pile : (Nat → Int64)) (v_lastAt : (Nat → Int32)) (v_nextAt : (Nat → Int32)) (v_hasBend : (Nat → Int32)) (p1 : Int32) (R : Int32 × Int32 × Int32 × (Nat → Int64) × (Nat → Int64) × (Nat → Int32) × (Nat → Int32) × (Nat → Int32)) (hf : pX9_just n v_stepAt v_justMany v_bends v_rootAt v_pile v_lastAt v_nextAt v_hasBend p1 = some R) : CTi l yX9_just wsX9_just rmX9_just G cI cJ cZ cS cG [.ref q, .int p1] [(q, .inr (9, [.ref q_bends, .ref q_rootAt, .int v_stepAt, .ref q_pile, .ref q_lastAt, .ref q_nextAt, .ref q_hasBend, .int v_justMany, .ref q_isMet, .ref q_queue, .ref q_sums, .ref q_kept, .ref q_isKept, .ref q_copies, .ref q_shelfMany, .ref q_shelfSort, .ref q_shelfHas])), (q_bends, .inl (cJ, 4, .inr (.inl v_bends))), (q_rootAt, .inl (cJ, 4, .inr (.inl v_rootAt))), (q_pile, .inl (cJ, 10400, .inr (.inl v_pile))), (q_lastAt, .inl (cI, 2600, .inl v_lastAt)), (q_nextAt, .inl (cI, 2600, .inl v_nextAt)), (q_hasBend, .inl (cZ, 5001, .inl v_hasBend))] [(q, .inr (9, [.ref q_bends, .ref q_rootAt, .int R.2.1, .ref q_pile, .ref q_lastAt, .ref q_nextAt, .ref q_hasBend, .int R.2.2.1, .ref q_isMet, .ref q_queue, .ref q_sums, .ref q_kept, .ref q_isKept, .ref q_copies, .ref q_shelfMany, .ref q_shelfSort, .ref q_shelfHas])), (q_bends, .inl (cJ, 4, .inr (.inl v_bends))), (q_rootAt, .inl (cJ, 4, .inr (.inl R.2.2.2.1))), (q_pile, .inl (cJ, 10400, .inr (.inl R.2.2.2.2.1))), (q_lastAt, .inl (cI, 2600, .inl R.2.2.2.2.2.1)), (q_nextAt, .inl (cI, 2600, .inl R.2.2.2.2.2.2.1)), (q_hasBend, .inl (cZ, 5001, .inl R.2.2.2.2.2.2.2))] R.1 := by
  refine Met.ofE (Qc := fun A => QRi G A [(q, .inr (9, [.ref q_bends, .ref q_rootAt, .int R.2.1, .ref q_pile, .ref q_lastAt, .ref q_nextAt, .ref q_hasBend, .int R.2.2.1, .ref q_isMet, .ref q_queue, .ref q_sums, .ref q_kept, .ref q_isKept, .ref q_copies, .ref q_shelfMany, .ref q_shelfSort, .ref q_shelfHas])), (q_bends, .inl (cJ, 4, .inr (.inl v_bends))), (q_rootAt, .inl (cJ, 4, .inr (.inl R.2.2.2.1))), (q_pile, .inl (cJ, 10400, .inr (.inl R.2.2.2.2.1))), (q_lastAt, .inl (cI, 2600, .inl R.2.2.2.2.2.1)), (q_nextAt, .inl (cI, 2600, .inl R.2.2.2.2.2.2.1)), (q_hasBend, .inl (cZ, 5001, .inl R.2.2.2.2.2.2.2))] R.1) (cc := cX9_just) (nL := 2) (ret := some .int) (plainFor_of_name (by decide +kernel)) rfl (Nat.le_of_ble_eq_true rfl) ?_
  intro p e s m below meth c A ls hx hb hml hr hlk hts hown hK hA hP hD hS hl
  have hown : s.vm.findClass RX9 = some m.cls := hown
  have hl : lv_has ls 2 [(0, .ref q), (1, .int p1)] := hl
  generalize hQ : MQ below (QRi G A [(q, .inr (9, [.ref q_bends, .ref q_rootAt, .int R.2.1, .ref q_pile, .ref q_lastAt, .ref q_nextAt, .ref q_hasBend, .int R.2.2.1, .ref q_isMet, .ref q_queue, .ref q_sums, .ref q_kept, .ref q_isKept, .ref q_copies, .ref q_shelfMany, .ref q_shelfSort, .ref q_shelfHas])), (q_bends, .inl (cJ, 4, .inr (.inl v_bends))), (q_rootAt, .inl (cJ, 4, .inr (.inl R.2.2.2.1))), (q_pile, .inl (cJ, 10400, .inr (.inl R.2.2.2.2.1))), (q_lastAt, .inl (cI, 2600, .inl R.2.2.2.2.2.1)), (q_nextAt, .inl (cI, 2600, .inl R.2.2.2.2.2.2.1)), (q_hasBend, .inl (cZ, 5001, .inl R.2.2.2.2.2.2.2))] R.1) ([.ref q, .int p1] : List Value).toArray s 0 0 A = QQ
  unfold pX9_just at hf
  refine lv_iload_n hx hb dX9_just_0 rfl (lv_at hl 1 rfl) ?_
  refine lv_ldc (v := (-100000)) hx hb hown (hts (.constant RX9 67 (-100000)) (List.mem_of_getElem? (i := 1) rfl)) dX9_just_1 ?_
  refine lv_sipush (v := 5000) hx hb dX9_just_3 (by decide) ?_
  obtain ⟨r1, hc1, hf⟩ := ob_s hf
  refine bk_i (wc := []) (wc2 := []) (wr := [(q, .inr (9, [.ref q_bends, .ref q_rootAt, .int v_stepAt, .ref q_pile, .ref q_lastAt, .ref q_nextAt, .ref q_hasBend, .int v_justMany, .ref q_isMet, .ref q_queue, .ref q_sums, .ref q_kept, .ref q_isKept, .ref q_copies, .ref q_shelfMany, .ref q_shelfSort, .ref q_shelfHas])), (q_bends, .inl (cJ, 4, .inr (.inl v_bends))), (q_rootAt, .inl (cJ, 4, .inr (.inl v_rootAt))), (q_pile, .inl (cJ, 10400, .inr (.inl v_pile))), (q_lastAt, .inl (cI, 2600, .inl v_lastAt)), (q_nextAt, .inl (cI, 2600, .inl v_nextAt)), (q_hasBend, .inl (cZ, 5001, .inl v_hasBend))]) (ws2 := [(q, .inr (9, [.ref q_bends, .ref q_rootAt, .int v_stepAt, .ref q_pile, .ref q_lastAt, .ref q_nextAt, .ref q_hasBend, .int v_justMany, .ref q_isMet, .ref q_queue, .ref q_sums, .ref q_kept, .ref q_isKept, .ref q_copies, .ref q_shelfMany, .ref q_shelfSort, .ref q_shelfHas])), (q_bends, .inl (cJ, 4, .inr (.inl v_bends))), (q_rootAt, .inl (cJ, 4, .inr (.inl v_rootAt))), (q_pile, .inl (cJ, 10400, .inr (.inl v_pile))), (q_lastAt, .inl (cI, 2600, .inl v_lastAt)), (q_nextAt, .inl (cI, 2600, .inl v_nextAt)), (q_hasBend, .inl (cZ, 5001, .inl v_hasBend))]) (r := r1) (va_runS (As := [.int p1, .int (-100000 : Int32), .int (5000 : Int32)]) (rest := []) ⟨hx, hb, hml, hown, hts⟩ (kX9_within (l := l) (G := G) (cI := cI) (cJ := cJ) (cZ := cZ) (cS := cS) (cG := cG) p1 (-100000 : Int32) (5000 : Int32) _ hc1 _) (va_cwS 3 hts gX9_just_X9_within rfl rfl rfl (by decide +kernel) ⟨Nat.le_of_ble_eq_true rfl, Nat.le_of_ble_eq_true rfl⟩) (cut_S hK hP hD [] rfl rfl) rfl rfl hl.1 rfl (lv_room (Nat.le_of_ble_eq_true rfl)) dX9_just_6 ⟨Nat.zero_le _, Nat.zero_le _⟩) hP hD hS hA [] [0, 1, 2, 3, 4, 5, 6] [0, 1, 2, 3, 4, 5, 6] rfl rfl rfl rfl rfl rfl (fun H locs hP hD hS => ?_)
  refine lv_if_ne (tgt := 15) hx hb dX9_just_9 (by decide) (fun c2 => ?_) (fun c2 => ?_)
  · have hf := if_n hf c2
    refine lv_aload_n hx hb dX9_just_15 rfl (lv_at hl 0 rfl) ?_
    obtain ⟨r3, hc3, hf⟩ := ob_s hf
    refine bk_i (wc := [(q, .inr (9, [.ref q_bends, .ref q_rootAt, .int v_stepAt, .ref q_pile, .ref q_lastAt, .ref q_nextAt, .ref q_hasBend, .int v_justMany, .ref q_isMet, .ref q_queue, .ref q_sums, .ref q_kept, .ref q_isKept, .ref q_copies, .ref q_shelfMany, .ref q_shelfSort, .ref q_shelfHas])), (q_bends, .inl (cJ, 4, .inr (.inl v_bends))), (q_rootAt, .inl (cJ, 4, .inr (.inl v_rootAt)))]) (wc2 := [(q, .inr (9, [.ref q_bends, .ref q_rootAt, .int r3.2.1, .ref q_pile, .ref q_lastAt, .ref q_nextAt, .ref q_hasBend, .int v_justMany, .ref q_isMet, .ref q_queue, .ref q_sums, .ref q_kept, .ref q_isKept, .ref q_copies, .ref q_shelfMany, .ref q_shelfSort, .ref q_shelfHas])), (q_bends, .inl (cJ, 4, .inr (.inl v_bends))), (q_rootAt, .inl (cJ, 4, .inr (.inl r3.2.2)))]) (wr := [(q_pile, .inl (cJ, 10400, .inr (.inl v_pile))), (q_lastAt, .inl (cI, 2600, .inl v_lastAt)), (q_nextAt, .inl (cI, 2600, .inl v_nextAt)), (q_hasBend, .inl (cZ, 5001, .inl v_hasBend))]) (ws2 := [(q, .inr (9, [.ref q_bends, .ref q_rootAt, .int r3.2.1, .ref q_pile, .ref q_lastAt, .ref q_nextAt, .ref q_hasBend, .int v_justMany, .ref q_isMet, .ref q_queue, .ref q_sums, .ref q_kept, .ref q_isKept, .ref q_copies, .ref q_shelfMany, .ref q_shelfSort, .ref q_shelfHas])), (q_bends, .inl (cJ, 4, .inr (.inl v_bends))), (q_rootAt, .inl (cJ, 4, .inr (.inl r3.2.2))), (q_pile, .inl (cJ, 10400, .inr (.inl v_pile))), (q_lastAt, .inl (cI, 2600, .inl v_lastAt)), (q_nextAt, .inl (cI, 2600, .inl v_nextAt)), (q_hasBend, .inl (cZ, 5001, .inl v_hasBend))]) (r := r3.1) (va_runV (As := []) (rest := []) ⟨hx, hb, hml, hown, hts⟩ (kX9_isBound (l := l) (G := G) (cI := cI) (cJ := cJ) (cZ := cZ) (cS := cS) (cG := cG) n q q_bends q_rootAt q_pile q_lastAt q_nextAt q_hasBend q_isMet q_queue q_sums q_kept q_isKept q_copies q_shelfMany q_shelfSort q_shelfHas v_stepAt v_justMany v_bends v_rootAt _ hc3 _) (cwV 0 hts gX9_just_X9_isBound rfl rfl rfl (by decide +kernel) ⟨Nat.le_of_ble_eq_true rfl, Nat.le_of_ble_eq_true rfl⟩) (cut_V hK hP hD [0, 1, 2] rfl rfl (ci := 9) (q0 := 0) rfl rfl) rfl rfl hl.1 rfl (lv_room (Nat.le_of_ble_eq_true rfl)) dX9_just_16 ⟨Nat.zero_le _, Nat.zero_le _⟩) hP hD hS hA [0, 1, 2] [3, 4, 5, 6] [4, 5, 6, 0, 1, 2, 3] rfl rfl rfl rfl rfl rfl (fun H locs hP hD hS => ?_)
    refine lv_if_ne (tgt := 25) hx hb dX9_just_19 (by decide) (fun c4 => ?_) (fun c4 => ?_)
    · have hf := if_n hf c4
      refine lv_aload_n hx hb dX9_just_25 rfl (lv_at hl 0 rfl) ?_
      refine lv_iload_n hx hb dX9_just_26 rfl (lv_at hl 1 rfl) ?_
      refine lv_iload_n hx hb dX9_just_27 rfl (lv_at hl 1 rfl) ?_
      refine lv_i2l hx hb dX9_just_28 rfl ?_
      obtain ⟨r5, hc5, hf⟩ := ob_s hf
      refine bk_i (wc := [(q, .inr (9, [.ref q_bends, .ref q_rootAt, .int r3.2.1, .ref q_pile, .ref q_lastAt, .ref q_nextAt, .ref q_hasBend, .int v_justMany, .ref q_isMet, .ref q_queue, .ref q_sums, .ref q_kept, .ref q_isKept, .ref q_copies, .ref q_shelfMany, .ref q_shelfSort, .ref q_shelfHas])), (q_rootAt, .inl (cJ, 4, .inr (.inl r3.2.2))), (q_pile, .inl (cJ, 10400, .inr (.inl v_pile))), (q_lastAt, .inl (cI, 2600, .inl v_lastAt)), (q_nextAt, .inl (cI, 2600, .inl v_nextAt)), (q_hasBend, .inl (cZ, 5001, .inl v_hasBend))]) (wc2 := [(q, .inr (9, [.ref q_bends, .ref q_rootAt, .int r3.2.1, .ref q_pile, .ref q_lastAt, .ref q_nextAt, .ref q_hasBend, .int r5.2.1, .ref q_isMet, .ref q_queue, .ref q_sums, .ref q_kept, .ref q_isKept, .ref q_copies, .ref q_shelfMany, .ref q_shelfSort, .ref q_shelfHas])), (q_rootAt, .inl (cJ, 4, .inr (.inl r3.2.2))), (q_pile, .inl (cJ, 10400, .inr (.inl r5.2.2.1))), (q_lastAt, .inl (cI, 2600, .inl r5.2.2.2.1)), (q_nextAt, .inl (cI, 2600, .inl r5.2.2.2.2.1)), (q_hasBend, .inl (cZ, 5001, .inl r5.2.2.2.2.2))]) (wr := [(q_bends, .inl (cJ, 4, .inr (.inl v_bends)))]) (ws2 := [(q, .inr (9, [.ref q_bends, .ref q_rootAt, .int r3.2.1, .ref q_pile, .ref q_lastAt, .ref q_nextAt, .ref q_hasBend, .int r5.2.1, .ref q_isMet, .ref q_queue, .ref q_sums, .ref q_kept, .ref q_isKept, .ref q_copies, .ref q_shelfMany, .ref q_shelfSort, .ref q_shelfHas])), (q_bends, .inl (cJ, 4, .inr (.inl v_bends))), (q_rootAt, .inl (cJ, 4, .inr (.inl r3.2.2))), (q_pile, .inl (cJ, 10400, .inr (.inl r5.2.2.1))), (q_lastAt, .inl (cI, 2600, .inl r5.2.2.2.1)), (q_nextAt, .inl (cI, 2600, .inl r5.2.2.2.2.1)), (q_hasBend, .inl (cZ, 5001, .inl r5.2.2.2.2.2))]) (r := r5.1) (va_runV (As := [.int p1, .long p1.toInt64]) (rest := []) ⟨hx, hb, hml, hown, hts⟩ (kX9_allUpTo (l := l) (G := G) (cI := cI) (cJ := cJ) (cZ := cZ) (cS := cS) (cG := cG) n q q_bends q_rootAt q_pile q_lastAt q_nextAt q_hasBend q_isMet q_queue q_sums q_kept q_isKept q_copies q_shelfMany q_shelfSort q_shelfHas r3.2.1 v_justMany r3.2.2 v_pile v_lastAt v_nextAt v_hasBend p1 p1.toInt64 _ hc5 _) (cwV 2 hts gX9_just_X9_allUpTo rfl rfl rfl (by decide +kernel) ⟨Nat.le_of_ble_eq_true rfl, Nat.le_of_ble_eq_true rfl⟩) (cut_V hK hP hD [0, 2, 3, 4, 5, 6] rfl rfl (ci := 9) (q0 := 0) rfl rfl) rfl rfl hl.1 rfl (lv_room (Nat.le_of_ble_eq_true rfl)) dX9_just_29 ⟨Nat.zero_le _, Nat.zero_le _⟩) hP hD hS hA [0, 2, 3, 4, 5, 6] [1] [1, 0, 2, 3, 4, 5, 6] rfl rfl rfl rfl rfl rfl (fun H locs hP hD hS => ?_)
      refine lv_pop hx hb dX9_just_32 rfl ?_
      refine lv_aload_n hx hb dX9_just_33 rfl (lv_at hl 0 rfl) ?_
      refine va_get (D := G) (ci := 9) (v := .int r5.2.1) (C := RX9) (T := TX9) (N := 17) hx hb hts hiX9_just_X9 hown hK.1 hP 0 rfl rfl 7 (by decide) (hts (.fieldLink RX9 105 "PackedBendsModel" "justMany" "I") (List.mem_of_getElem? (i := 2) rfl)) (fun _ h9 => h9) rfl dX9_just_34 ?_
      cases hf
      rw [← hQ]
      exact rt_i hx hb hr hlk hP hD hS rfl dX9_just_37
    · have hf := if_s hf c4
      refine lv_bipush (v := (-3)) hx hb dX9_just_22 (by decide) ?_
      cases hf
      rw [← hQ]
      exact rt_i hx hb hr hlk hP hD hS rfl dX9_just_24
  · have hf := if_s hf c2
    refine lv_bipush (v := (-2)) hx hb dX9_just_12 (by decide) ?_
    cases hf
    rw [← hQ]
    exact rt_i hx hb hr hlk hP hD hS rfl dX9_just_14
def pX9_least_L29 (x1 : Int32) (v_rootAt : (Nat → Int64)) : Nat → Int64 → Int32 → (Nat → Int64) → (Nat → Int32) → (Nat → Int32) → (Nat → Int32) → (Int64 → Int32 → (Nat → Int64) → (Nat → Int32) → (Nat → Int32) → (Nat → Int32) → Option (Int64 × Int32 × Int32 × (Nat → Int64) × (Nat → Int64) × (Nat → Int32) × (Nat → Int32) × (Nat → Int32))) → Option (Int64 × Int32 × Int32 × (Nat → Int64) × (Nat → Int64) × (Nat → Int32) × (Nat → Int32) × (Nat → Int32))
  | 0, _, _, _, _, _, _, _ => none
  | n + 1, x2, v_justMany, v_pile, v_lastAt, v_nextAt, v_hasBend, k => Option.bind (pX9_goesUpTo n v_rootAt v_pile v_lastAt v_nextAt v_hasBend x2 (x1 + (1 : Int32)) (-9223372036854775808 : Int64)) (fun r5 => if x1 < r5.1 then k x2 r5.2.1 r5.2.2.1 r5.2.2.2.1 r5.2.2.2.2.1 r5.2.2.2.2.2 else pX9_least_L29 x1 v_rootAt n (x2 * (2 : Int64)) r5.2.1 r5.2.2.1 r5.2.2.2.1 r5.2.2.2.2.1 r5.2.2.2.2.2 k)
def pX9_least_L63 (x1 : Int32) (v_rootAt : (Nat → Int64)) : Nat → Int64 → Int64 → Int32 → (Nat → Int64) → (Nat → Int32) → (Nat → Int32) → (Nat → Int32) → (Int64 → Int64 → Int32 → (Nat → Int64) → (Nat → Int32) → (Nat → Int32) → (Nat → Int32) → Option (Int64 × Int32 × Int32 × (Nat → Int64) × (Nat → Int64) × (Nat → Int32) × (Nat → Int32) × (Nat → Int32))) → Option (Int64 × Int32 × Int32 × (Nat → Int64) × (Nat → Int64) × (Nat → Int32) × (Nat → Int32) × (Nat → Int32))
  | 0, _, _, _, _, _, _, _, _ => none
  | n + 1, x2, x4, v_justMany, v_pile, v_lastAt, v_nextAt, v_hasBend, k => if (x2 - x4) ≤ (1 : Int64) then k x2 x4 v_justMany v_pile v_lastAt v_nextAt v_hasBend else Option.bind (pX9_goesUpTo n v_rootAt v_pile v_lastAt v_nextAt v_hasBend (x4 + ((x2 - x4) / (2 : Int64))) (x1 + (1 : Int32)) (-9223372036854775808 : Int64)) (fun r9 => if r9.1 ≤ x1 then pX9_least_L63 x1 v_rootAt n x2 (x4 + ((x2 - x4) / (2 : Int64))) r9.2.1 r9.2.2.1 r9.2.2.2.1 r9.2.2.2.2.1 r9.2.2.2.2.2 k else pX9_least_L63 x1 v_rootAt n (x4 + ((x2 - x4) / (2 : Int64))) x4 r9.2.1 r9.2.2.1 r9.2.2.2.1 r9.2.2.2.2.1 r9.2.2.2.2.2 k)
def pX9_least (n : Nat) (v_stepAt : Int32) (v_justMany : Int32) (v_bends : (Nat → Int64)) (v_rootAt : (Nat → Int64)) (v_pile : (Nat → Int64)) (v_lastAt : (Nat → Int32)) (v_nextAt : (Nat → Int32)) (v_hasBend : (Nat → Int32)) (p1 : Int32) : Option (Int64 × Int32 × Int32 × (Nat → Int64) × (Nat → Int64) × (Nat → Int32) × (Nat → Int32) × (Nat → Int32)) := Option.bind (pX9_within p1 (0 : Int32) (2000 : Int32)) (fun r1 => if r1 = 0 then some ((-9223372036854775808 : Int64), v_stepAt, v_justMany, v_rootAt, v_pile, v_lastAt, v_nextAt, v_hasBend) else Option.bind (pX9_isBound n v_bends v_rootAt) (fun r3 => if r3.1 = 0 then some ((-9223372036854775808 : Int64), r3.2.1, v_justMany, r3.2.2, v_pile, v_lastAt, v_nextAt, v_hasBend) else pX9_least_L29 p1 r3.2.2 n (r3.2.2 (3 : Int32).toNatClampNeg) v_justMany v_pile v_lastAt v_nextAt v_hasBend (fun (y2_7 : Int64) (u7_justMany : Int32) (u7_pile : (Nat → Int64)) (u7_lastAt : (Nat → Int32)) (u7_nextAt : (Nat → Int32)) (u7_hasBend : (Nat → Int32)) => pX9_least_L63 p1 r3.2.2 n y2_7 ((r3.2.2 (0 : Int32).toNatClampNeg) - (1 : Int64)) u7_justMany u7_pile u7_lastAt u7_nextAt u7_hasBend (fun (y2_11 : Int64) (y4_11 : Int64) (u11_justMany : Int32) (u11_pile : (Nat → Int64)) (u11_lastAt : (Nat → Int32)) (u11_nextAt : (Nat → Int32)) (u11_hasBend : (Nat → Int32)) => some (y2_11, r3.2.1, u11_justMany, r3.2.2, u11_pile, u11_lastAt, u11_nextAt, u11_hasBend)))))
def rmX9_least : Room := { frames := 3, cells := 0, slots := 0, locals := 69 }
theorem hiX9_least_X9 : ∀ w ∈ u_ws RX9 TX9 17, w ∈ wsX9_least := fun _ h => List.mem_cons_of_mem _ (List.mem_append_right _ h)
set_option maxRecDepth 100000 in
set_option maxHeartbeats 4000000 in
theorem kX9_least {l : Launch} {G : va_G} {cI cJ cZ cS cG : ClassId} (n : Nat) (q q_bends q_rootAt q_pile q_lastAt q_nextAt q_hasBend q_isMet q_queue q_sums q_kept q_isKept q_copies q_shelfMany q_shelfSort q_shelfHas : Nat) (v_stepAt : Int32) (v_justMany : Int32) (v_bends : (Nat → Int64)) (v_rootAt : (Nat → Int64)) (v_pile : (Nat → Int64)) (v_lastAt : (Nat → Int32)) (v_nextAt : (Nat → Int32)) (v_hasBend : (Nat → Int32)) (p1 : Int32) (R : Int64 × Int32 × Int32 × (Nat → Int64) × (Nat → Int64) × (Nat → Int32) × (Nat → Int32) × (Nat → Int32)) (hf : pX9_least n v_stepAt v_justMany v_bends v_rootAt v_pile v_lastAt v_nextAt v_hasBend p1 = some R) : CTl l yX9_least wsX9_least rmX9_least G cI cJ cZ cS cG [.ref q, .int p1] [(q, .inr (9, [.ref q_bends, .ref q_rootAt, .int v_stepAt, .ref q_pile, .ref q_lastAt, .ref q_nextAt, .ref q_hasBend, .int v_justMany, .ref q_isMet, .ref q_queue, .ref q_sums, .ref q_kept, .ref q_isKept, .ref q_copies, .ref q_shelfMany, .ref q_shelfSort, .ref q_shelfHas])), (q_bends, .inl (cJ, 4, .inr (.inl v_bends))), (q_rootAt, .inl (cJ, 4, .inr (.inl v_rootAt))), (q_pile, .inl (cJ, 10400, .inr (.inl v_pile))), (q_lastAt, .inl (cI, 2600, .inl v_lastAt)), (q_nextAt, .inl (cI, 2600, .inl v_nextAt)), (q_hasBend, .inl (cZ, 5001, .inl v_hasBend))] [(q, .inr (9, [.ref q_bends, .ref q_rootAt, .int R.2.1, .ref q_pile, .ref q_lastAt, .ref q_nextAt, .ref q_hasBend, .int R.2.2.1, .ref q_isMet, .ref q_queue, .ref q_sums, .ref q_kept, .ref q_isKept, .ref q_copies, .ref q_shelfMany, .ref q_shelfSort, .ref q_shelfHas])), (q_bends, .inl (cJ, 4, .inr (.inl v_bends))), (q_rootAt, .inl (cJ, 4, .inr (.inl R.2.2.2.1))), (q_pile, .inl (cJ, 10400, .inr (.inl R.2.2.2.2.1))), (q_lastAt, .inl (cI, 2600, .inl R.2.2.2.2.2.1)), (q_nextAt, .inl (cI, 2600, .inl R.2.2.2.2.2.2.1)), (q_hasBend, .inl (cZ, 5001, .inl R.2.2.2.2.2.2.2))] R.1 := by
  refine Met.ofE (Qc := fun A => QRl G A [(q, .inr (9, [.ref q_bends, .ref q_rootAt, .int R.2.1, .ref q_pile, .ref q_lastAt, .ref q_nextAt, .ref q_hasBend, .int R.2.2.1, .ref q_isMet, .ref q_queue, .ref q_sums, .ref q_kept, .ref q_isKept, .ref q_copies, .ref q_shelfMany, .ref q_shelfSort, .ref q_shelfHas])), (q_bends, .inl (cJ, 4, .inr (.inl v_bends))), (q_rootAt, .inl (cJ, 4, .inr (.inl R.2.2.2.1))), (q_pile, .inl (cJ, 10400, .inr (.inl R.2.2.2.2.1))), (q_lastAt, .inl (cI, 2600, .inl R.2.2.2.2.2.1)), (q_nextAt, .inl (cI, 2600, .inl R.2.2.2.2.2.2.1)), (q_hasBend, .inl (cZ, 5001, .inl R.2.2.2.2.2.2.2))] R.1) (cc := cX9_least) (nL := 8) (ret := some .long) (plainFor_of_name (by decide +kernel)) rfl (Nat.le_of_ble_eq_true rfl) ?_
  intro p e s m below meth c A ls hx hb hml hr hlk hts hown hK hA hP hD hS hl
  have hown : s.vm.findClass RX9 = some m.cls := hown
  have hl : lv_has ls 8 [(0, .ref q), (1, .int p1)] := hl
  generalize hQ : MQ below (QRl G A [(q, .inr (9, [.ref q_bends, .ref q_rootAt, .int R.2.1, .ref q_pile, .ref q_lastAt, .ref q_nextAt, .ref q_hasBend, .int R.2.2.1, .ref q_isMet, .ref q_queue, .ref q_sums, .ref q_kept, .ref q_isKept, .ref q_copies, .ref q_shelfMany, .ref q_shelfSort, .ref q_shelfHas])), (q_bends, .inl (cJ, 4, .inr (.inl v_bends))), (q_rootAt, .inl (cJ, 4, .inr (.inl R.2.2.2.1))), (q_pile, .inl (cJ, 10400, .inr (.inl R.2.2.2.2.1))), (q_lastAt, .inl (cI, 2600, .inl R.2.2.2.2.2.1)), (q_nextAt, .inl (cI, 2600, .inl R.2.2.2.2.2.2.1)), (q_hasBend, .inl (cZ, 5001, .inl R.2.2.2.2.2.2.2))] R.1) ([.ref q, .int p1] : List Value).toArray s 0 0 A = QQ
  unfold pX9_least at hf
  have hL29 : ∀ (x1 : Int32) (v_stepAt : Int32) (v_rootAt : (Nat → Int64)) (k : Int64 → Int32 → (Nat → Int64) → (Nat → Int32) → (Nat → Int32) → (Nat → Int32) → Option (Int64 × Int32 × Int32 × (Nat → Int64) × (Nat → Int64) × (Nat → Int32) × (Nat → Int32) × (Nat → Int32))), (∀ (x2 : Int64) (v_justMany : Int32) (v_pile : (Nat → Int64)) (v_lastAt : (Nat → Int32)) (v_nextAt : (Nat → Int32)) (v_hasBend : (Nat → Int32)) (H : Heap) (locs : List Loc) (ls : Array Slot), k x2 v_justMany v_pile v_lastAt v_nextAt v_hasBend = some R → va_P G vwCl [(q, .inr (9, [.ref q_bends, .ref q_rootAt, .int v_stepAt, .ref q_pile, .ref q_lastAt, .ref q_nextAt, .ref q_hasBend, .int v_justMany, .ref q_isMet, .ref q_queue, .ref q_sums, .ref q_kept, .ref q_isKept, .ref q_copies, .ref q_shelfMany, .ref q_shelfSort, .ref q_shelfHas])), (q_bends, .inl (cJ, 4, .inr (.inl v_bends))), (q_rootAt, .inl (cJ, 4, .inr (.inl v_rootAt))), (q_pile, .inl (cJ, 10400, .inr (.inl v_pile))), (q_lastAt, .inl (cI, 2600, .inl v_lastAt)), (q_nextAt, .inl (cI, 2600, .inl v_nextAt)), (q_hasBend, .inl (cZ, 5001, .inl v_hasBend))] H → va_D A [(q, .inr (9, [.ref q_bends, .ref q_rootAt, .int v_stepAt, .ref q_pile, .ref q_lastAt, .ref q_nextAt, .ref q_hasBend, .int v_justMany, .ref q_isMet, .ref q_queue, .ref q_sums, .ref q_kept, .ref q_isKept, .ref q_copies, .ref q_shelfMany, .ref q_shelfSort, .ref q_shelfHas])), (q_bends, .inl (cJ, 4, .inr (.inl v_bends))), (q_rootAt, .inl (cJ, 4, .inr (.inl v_rootAt))), (q_pile, .inl (cJ, 10400, .inr (.inl v_pile))), (q_lastAt, .inl (cI, 2600, .inl v_lastAt)), (q_nextAt, .inl (cI, 2600, .inl v_nextAt)), (q_hasBend, .inl (cZ, 5001, .inl v_hasBend))] → va_S A s.heap H locs → lv_has ls 8 [(0, .ref q), (1, .int x1), (2, .long x2)] → W p l e rmX9_least s m ([.ref q, .int p1] : List Value).toArray below meth c H locs 0 0 QQ (F0 m 53 ls [])) → ∀ (n : Nat) (x2 : Int64) (v_justMany : Int32) (v_pile : (Nat → Int64)) (v_lastAt : (Nat → Int32)) (v_nextAt : (Nat → Int32)) (v_hasBend : (Nat → Int32)) (H : Heap) (locs : List Loc) (ls : Array Slot), pX9_least_L29 x1 v_rootAt n x2 v_justMany v_pile v_lastAt v_nextAt v_hasBend k = some R → va_P G vwCl [(q, .inr (9, [.ref q_bends, .ref q_rootAt, .int v_stepAt, .ref q_pile, .ref q_lastAt, .ref q_nextAt, .ref q_hasBend, .int v_justMany, .ref q_isMet, .ref q_queue, .ref q_sums, .ref q_kept, .ref q_isKept, .ref q_copies, .ref q_shelfMany, .ref q_shelfSort, .ref q_shelfHas])), (q_bends, .inl (cJ, 4, .inr (.inl v_bends))), (q_rootAt, .inl (cJ, 4, .inr (.inl v_rootAt))), (q_pile, .inl (cJ, 10400, .inr (.inl v_pile))), (q_lastAt, .inl (cI, 2600, .inl v_lastAt)), (q_nextAt, .inl (cI, 2600, .inl v_nextAt)), (q_hasBend, .inl (cZ, 5001, .inl v_hasBend))] H → va_D A [(q, .inr (9, [.ref q_bends, .ref q_rootAt, .int v_stepAt, .ref q_pile, .ref q_lastAt, .ref q_nextAt, .ref q_hasBend, .int v_justMany, .ref q_isMet, .ref q_queue, .ref q_sums, .ref q_kept, .ref q_isKept, .ref q_copies, .ref q_shelfMany, .ref q_shelfSort, .ref q_shelfHas])), (q_bends, .inl (cJ, 4, .inr (.inl v_bends))), (q_rootAt, .inl (cJ, 4, .inr (.inl v_rootAt))), (q_pile, .inl (cJ, 10400, .inr (.inl v_pile))), (q_lastAt, .inl (cI, 2600, .inl v_lastAt)), (q_nextAt, .inl (cI, 2600, .inl v_nextAt)), (q_hasBend, .inl (cZ, 5001, .inl v_hasBend))] → va_S A s.heap H locs → lv_has ls 8 [(0, .ref q), (1, .int x1), (2, .long x2)] → W p l e rmX9_least s m ([.ref q, .int p1] : List Value).toArray below meth c H locs 0 0 QQ (F0 m 29 ls []) := by
    intro x1 v_stepAt v_rootAt k hk n
    induction n with
    | zero =>
      intro x2 v_justMany v_pile v_lastAt v_nextAt v_hasBend H locs ls hf
      cases hf
    | succ n ih =>
      intro x2 v_justMany v_pile v_lastAt v_nextAt v_hasBend H locs ls hf hP hD hS hl
      unfold pX9_least_L29 at hf
      refine lv_aload_n hx hb dX9_least_29 rfl (lv_at hl 0 rfl) ?_
      refine lv_lload_n hx hb dX9_least_30 rfl (lv_at hl 2 rfl) ?_
      refine lv_iload_n hx hb dX9_least_31 rfl (lv_at hl 1 rfl) ?_
      refine lv_iconst (v := 1) hx hb dX9_least_32 (by decide) ?_
      refine lv_iadd hx hb dX9_least_33 ?_
      refine lv_ldc2 (v := (-9223372036854775808)) hx hb hown (hts (.constantLong RX9 80 (-9223372036854775808)) (List.mem_of_getElem? (i := 1) rfl)) dX9_least_34 ?_
      obtain ⟨r5, hc5, hf⟩ := ob_s hf
      refine bk_i (wc := [(q, .inr (9, [.ref q_bends, .ref q_rootAt, .int v_stepAt, .ref q_pile, .ref q_lastAt, .ref q_nextAt, .ref q_hasBend, .int v_justMany, .ref q_isMet, .ref q_queue, .ref q_sums, .ref q_kept, .ref q_isKept, .ref q_copies, .ref q_shelfMany, .ref q_shelfSort, .ref q_shelfHas])), (q_rootAt, .inl (cJ, 4, .inr (.inl v_rootAt))), (q_pile, .inl (cJ, 10400, .inr (.inl v_pile))), (q_lastAt, .inl (cI, 2600, .inl v_lastAt)), (q_nextAt, .inl (cI, 2600, .inl v_nextAt)), (q_hasBend, .inl (cZ, 5001, .inl v_hasBend))]) (wc2 := [(q, .inr (9, [.ref q_bends, .ref q_rootAt, .int v_stepAt, .ref q_pile, .ref q_lastAt, .ref q_nextAt, .ref q_hasBend, .int r5.2.1, .ref q_isMet, .ref q_queue, .ref q_sums, .ref q_kept, .ref q_isKept, .ref q_copies, .ref q_shelfMany, .ref q_shelfSort, .ref q_shelfHas])), (q_rootAt, .inl (cJ, 4, .inr (.inl v_rootAt))), (q_pile, .inl (cJ, 10400, .inr (.inl r5.2.2.1))), (q_lastAt, .inl (cI, 2600, .inl r5.2.2.2.1)), (q_nextAt, .inl (cI, 2600, .inl r5.2.2.2.2.1)), (q_hasBend, .inl (cZ, 5001, .inl r5.2.2.2.2.2))]) (wr := [(q_bends, .inl (cJ, 4, .inr (.inl v_bends)))]) (ws2 := [(q, .inr (9, [.ref q_bends, .ref q_rootAt, .int v_stepAt, .ref q_pile, .ref q_lastAt, .ref q_nextAt, .ref q_hasBend, .int r5.2.1, .ref q_isMet, .ref q_queue, .ref q_sums, .ref q_kept, .ref q_isKept, .ref q_copies, .ref q_shelfMany, .ref q_shelfSort, .ref q_shelfHas])), (q_bends, .inl (cJ, 4, .inr (.inl v_bends))), (q_rootAt, .inl (cJ, 4, .inr (.inl v_rootAt))), (q_pile, .inl (cJ, 10400, .inr (.inl r5.2.2.1))), (q_lastAt, .inl (cI, 2600, .inl r5.2.2.2.1)), (q_nextAt, .inl (cI, 2600, .inl r5.2.2.2.2.1)), (q_hasBend, .inl (cZ, 5001, .inl r5.2.2.2.2.2))]) (r := r5.1) (va_runV (As := [.long x2, .int (x1 + (1 : Int32)), .long (-9223372036854775808 : Int64)]) (rest := []) ⟨hx, hb, hml, hown, hts⟩ (kX9_goesUpTo (l := l) (G := G) (cI := cI) (cJ := cJ) (cZ := cZ) (cS := cS) (cG := cG) n q q_bends q_rootAt q_pile q_lastAt q_nextAt q_hasBend q_isMet q_queue q_sums q_kept q_isKept q_copies q_shelfMany q_shelfSort q_shelfHas v_stepAt v_justMany v_rootAt v_pile v_lastAt v_nextAt v_hasBend x2 (x1 + (1 : Int32)) (-9223372036854775808 : Int64) _ hc5 _) (cwV 3 hts gX9_least_X9_goesUpTo rfl rfl rfl (by decide +kernel) ⟨Nat.le_of_ble_eq_true rfl, Nat.le_of_ble_eq_true rfl⟩) (cut_V hK hP hD [0, 2, 3, 4, 5, 6] rfl rfl (ci := 9) (q0 := 0) rfl rfl) rfl rfl hl.1 rfl (lv_room (Nat.le_of_ble_eq_true rfl)) dX9_least_37 ⟨Nat.zero_le _, Nat.zero_le _⟩) hP hD hS hA [0, 2, 3, 4, 5, 6] [1] [1, 0, 2, 3, 4, 5, 6] rfl rfl rfl rfl rfl rfl (fun H locs hP hD hS => ?_)
      refine lv_iload_n hx hb dX9_least_40 rfl (lv_at hl 1 rfl) ?_
      refine lv_icmp_gt (tgt := 53) hx hb dX9_least_41 (by decide) (fun c6 => ?_) (fun c6 => ?_)
      · have hf := if_s hf c6
        exact hk x2 r5.2.1 r5.2.2.1 r5.2.2.2.1 r5.2.2.2.2.1 r5.2.2.2.2.2 _ _ _ hf hP hD hS (lv_sub hl [0, 1, 2] rfl)
      · have hf := if_n hf c6
        refine lv_lload_n hx hb dX9_least_44 rfl (lv_at hl 2 rfl) ?_
        refine lv_ldc2 (v := 2) hx hb hown (hts (.constantLong RX9 59 (2)) (List.mem_of_getElem? (i := 3) rfl)) dX9_least_45 ?_
        refine lv_lmul hx hb dX9_least_48 ?_
        refine lv_lstore_n (lv' := [(2, .long (x2 * (2 : Int64))), (0, .ref q), (1, .int x1)]) hx hb dX9_least_49 rfl hl (by decide) rfl (fun ls hl => ?_)
        refine lv_goto (tgt := 29) hx hb dX9_least_50 (by decide) ?_
        exact ih (x2 * (2 : Int64)) r5.2.1 r5.2.2.1 r5.2.2.2.1 r5.2.2.2.2.1 r5.2.2.2.2.2 _ _ _ hf hP hD hS (lv_sub hl [1, 2, 0] rfl)
  have hL63 : ∀ (x1 : Int32) (v_stepAt : Int32) (v_rootAt : (Nat → Int64)) (k : Int64 → Int64 → Int32 → (Nat → Int64) → (Nat → Int32) → (Nat → Int32) → (Nat → Int32) → Option (Int64 × Int32 × Int32 × (Nat → Int64) × (Nat → Int64) × (Nat → Int32) × (Nat → Int32) × (Nat → Int32))), (∀ (x2 : Int64) (x4 : Int64) (v_justMany : Int32) (v_pile : (Nat → Int64)) (v_lastAt : (Nat → Int32)) (v_nextAt : (Nat → Int32)) (v_hasBend : (Nat → Int32)) (H : Heap) (locs : List Loc) (ls : Array Slot), k x2 x4 v_justMany v_pile v_lastAt v_nextAt v_hasBend = some R → va_P G vwCl [(q, .inr (9, [.ref q_bends, .ref q_rootAt, .int v_stepAt, .ref q_pile, .ref q_lastAt, .ref q_nextAt, .ref q_hasBend, .int v_justMany, .ref q_isMet, .ref q_queue, .ref q_sums, .ref q_kept, .ref q_isKept, .ref q_copies, .ref q_shelfMany, .ref q_shelfSort, .ref q_shelfHas])), (q_bends, .inl (cJ, 4, .inr (.inl v_bends))), (q_rootAt, .inl (cJ, 4, .inr (.inl v_rootAt))), (q_pile, .inl (cJ, 10400, .inr (.inl v_pile))), (q_lastAt, .inl (cI, 2600, .inl v_lastAt)), (q_nextAt, .inl (cI, 2600, .inl v_nextAt)), (q_hasBend, .inl (cZ, 5001, .inl v_hasBend))] H → va_D A [(q, .inr (9, [.ref q_bends, .ref q_rootAt, .int v_stepAt, .ref q_pile, .ref q_lastAt, .ref q_nextAt, .ref q_hasBend, .int v_justMany, .ref q_isMet, .ref q_queue, .ref q_sums, .ref q_kept, .ref q_isKept, .ref q_copies, .ref q_shelfMany, .ref q_shelfSort, .ref q_shelfHas])), (q_bends, .inl (cJ, 4, .inr (.inl v_bends))), (q_rootAt, .inl (cJ, 4, .inr (.inl v_rootAt))), (q_pile, .inl (cJ, 10400, .inr (.inl v_pile))), (q_lastAt, .inl (cI, 2600, .inl v_lastAt)), (q_nextAt, .inl (cI, 2600, .inl v_nextAt)), (q_hasBend, .inl (cZ, 5001, .inl v_hasBend))] → va_S A s.heap H locs → lv_has ls 8 [(0, .ref q), (1, .int x1), (2, .long x2), (4, .long x4)] → W p l e rmX9_least s m ([.ref q, .int p1] : List Value).toArray below meth c H locs 0 0 QQ (F0 m 114 ls [])) → ∀ (n : Nat) (x2 : Int64) (x4 : Int64) (v_justMany : Int32) (v_pile : (Nat → Int64)) (v_lastAt : (Nat → Int32)) (v_nextAt : (Nat → Int32)) (v_hasBend : (Nat → Int32)) (H : Heap) (locs : List Loc) (ls : Array Slot), pX9_least_L63 x1 v_rootAt n x2 x4 v_justMany v_pile v_lastAt v_nextAt v_hasBend k = some R → va_P G vwCl [(q, .inr (9, [.ref q_bends, .ref q_rootAt, .int v_stepAt, .ref q_pile, .ref q_lastAt, .ref q_nextAt, .ref q_hasBend, .int v_justMany, .ref q_isMet, .ref q_queue, .ref q_sums, .ref q_kept, .ref q_isKept, .ref q_copies, .ref q_shelfMany, .ref q_shelfSort, .ref q_shelfHas])), (q_bends, .inl (cJ, 4, .inr (.inl v_bends))), (q_rootAt, .inl (cJ, 4, .inr (.inl v_rootAt))), (q_pile, .inl (cJ, 10400, .inr (.inl v_pile))), (q_lastAt, .inl (cI, 2600, .inl v_lastAt)), (q_nextAt, .inl (cI, 2600, .inl v_nextAt)), (q_hasBend, .inl (cZ, 5001, .inl v_hasBend))] H → va_D A [(q, .inr (9, [.ref q_bends, .ref q_rootAt, .int v_stepAt, .ref q_pile, .ref q_lastAt, .ref q_nextAt, .ref q_hasBend, .int v_justMany, .ref q_isMet, .ref q_queue, .ref q_sums, .ref q_kept, .ref q_isKept, .ref q_copies, .ref q_shelfMany, .ref q_shelfSort, .ref q_shelfHas])), (q_bends, .inl (cJ, 4, .inr (.inl v_bends))), (q_rootAt, .inl (cJ, 4, .inr (.inl v_rootAt))), (q_pile, .inl (cJ, 10400, .inr (.inl v_pile))), (q_lastAt, .inl (cI, 2600, .inl v_lastAt)), (q_nextAt, .inl (cI, 2600, .inl v_nextAt)), (q_hasBend, .inl (cZ, 5001, .inl v_hasBend))] → va_S A s.heap H locs → lv_has ls 8 [(0, .ref q), (1, .int x1), (2, .long x2), (4, .long x4)] → W p l e rmX9_least s m ([.ref q, .int p1] : List Value).toArray below meth c H locs 0 0 QQ (F0 m 63 ls []) := by
    intro x1 v_stepAt v_rootAt k hk n
    induction n with
    | zero =>
      intro x2 x4 v_justMany v_pile v_lastAt v_nextAt v_hasBend H locs ls hf
      cases hf
    | succ n ih =>
      intro x2 x4 v_justMany v_pile v_lastAt v_nextAt v_hasBend H locs ls hf hP hD hS hl
      unfold pX9_least_L63 at hf
      refine lv_lload_n hx hb dX9_least_63 rfl (lv_at hl 2 rfl) ?_
      refine lv_lload hx hb dX9_least_64 (lv_at hl 3 rfl) ?_
      refine lv_lsub hx hb dX9_least_66 ?_
      refine lv_lconst (v := 1) hx hb dX9_least_67 (by decide) ?_
      refine lc_le (tgt := 114) hx hb dX9_least_68 dX9_least_69 (by decide) (fun c8 => ?_) (fun c8 => ?_)
      · have hf := if_s hf c8
        exact hk x2 x4 v_justMany v_pile v_lastAt v_nextAt v_hasBend _ _ _ hf hP hD hS (lv_sub hl [0, 1, 2, 3] rfl)
      · have hf := if_n hf c8
        refine lv_lload hx hb dX9_least_72 (lv_at hl 3 rfl) ?_
        refine lv_lload_n hx hb dX9_least_74 rfl (lv_at hl 2 rfl) ?_
        refine lv_lload hx hb dX9_least_75 (lv_at hl 3 rfl) ?_
        refine lv_lsub hx hb dX9_least_77 ?_
        refine lv_ldc2 (v := 2) hx hb hown (hts (.constantLong RX9 59 (2)) (List.mem_of_getElem? (i := 3) rfl)) dX9_least_78 ?_
        refine lv_ldiv hx hb dX9_least_81 (by decide) ?_
        refine lv_ladd hx hb dX9_least_82 ?_
        refine lv_lstore (lv' := [(6, .long (x4 + ((x2 - x4) / (2 : Int64)))), (0, .ref q), (1, .int x1), (2, .long x2), (4, .long x4)]) hx hb dX9_least_83 hl (by decide) rfl (fun ls hl => ?_)
        refine lv_aload_n hx hb dX9_least_85 rfl (lv_at hl 1 rfl) ?_
        refine lv_lload hx hb dX9_least_86 (lv_at hl 0 rfl) ?_
        refine lv_iload_n hx hb dX9_least_88 rfl (lv_at hl 2 rfl) ?_
        refine lv_iconst (v := 1) hx hb dX9_least_89 (by decide) ?_
        refine lv_iadd hx hb dX9_least_90 ?_
        refine lv_ldc2 (v := (-9223372036854775808)) hx hb hown (hts (.constantLong RX9 80 (-9223372036854775808)) (List.mem_of_getElem? (i := 1) rfl)) dX9_least_91 ?_
        obtain ⟨r9, hc9, hf⟩ := ob_s hf
        refine bk_i (wc := [(q, .inr (9, [.ref q_bends, .ref q_rootAt, .int v_stepAt, .ref q_pile, .ref q_lastAt, .ref q_nextAt, .ref q_hasBend, .int v_justMany, .ref q_isMet, .ref q_queue, .ref q_sums, .ref q_kept, .ref q_isKept, .ref q_copies, .ref q_shelfMany, .ref q_shelfSort, .ref q_shelfHas])), (q_rootAt, .inl (cJ, 4, .inr (.inl v_rootAt))), (q_pile, .inl (cJ, 10400, .inr (.inl v_pile))), (q_lastAt, .inl (cI, 2600, .inl v_lastAt)), (q_nextAt, .inl (cI, 2600, .inl v_nextAt)), (q_hasBend, .inl (cZ, 5001, .inl v_hasBend))]) (wc2 := [(q, .inr (9, [.ref q_bends, .ref q_rootAt, .int v_stepAt, .ref q_pile, .ref q_lastAt, .ref q_nextAt, .ref q_hasBend, .int r9.2.1, .ref q_isMet, .ref q_queue, .ref q_sums, .ref q_kept, .ref q_isKept, .ref q_copies, .ref q_shelfMany, .ref q_shelfSort, .ref q_shelfHas])), (q_rootAt, .inl (cJ, 4, .inr (.inl v_rootAt))), (q_pile, .inl (cJ, 10400, .inr (.inl r9.2.2.1))), (q_lastAt, .inl (cI, 2600, .inl r9.2.2.2.1)), (q_nextAt, .inl (cI, 2600, .inl r9.2.2.2.2.1)), (q_hasBend, .inl (cZ, 5001, .inl r9.2.2.2.2.2))]) (wr := [(q_bends, .inl (cJ, 4, .inr (.inl v_bends)))]) (ws2 := [(q, .inr (9, [.ref q_bends, .ref q_rootAt, .int v_stepAt, .ref q_pile, .ref q_lastAt, .ref q_nextAt, .ref q_hasBend, .int r9.2.1, .ref q_isMet, .ref q_queue, .ref q_sums, .ref q_kept, .ref q_isKept, .ref q_copies, .ref q_shelfMany, .ref q_shelfSort, .ref q_shelfHas])), (q_bends, .inl (cJ, 4, .inr (.inl v_bends))), (q_rootAt, .inl (cJ, 4, .inr (.inl v_rootAt))), (q_pile, .inl (cJ, 10400, .inr (.inl r9.2.2.1))), (q_lastAt, .inl (cI, 2600, .inl r9.2.2.2.1)), (q_nextAt, .inl (cI, 2600, .inl r9.2.2.2.2.1)), (q_hasBend, .inl (cZ, 5001, .inl r9.2.2.2.2.2))]) (r := r9.1) (va_runV (As := [.long (x4 + ((x2 - x4) / (2 : Int64))), .int (x1 + (1 : Int32)), .long (-9223372036854775808 : Int64)]) (rest := []) ⟨hx, hb, hml, hown, hts⟩ (kX9_goesUpTo (l := l) (G := G) (cI := cI) (cJ := cJ) (cZ := cZ) (cS := cS) (cG := cG) n q q_bends q_rootAt q_pile q_lastAt q_nextAt q_hasBend q_isMet q_queue q_sums q_kept q_isKept q_copies q_shelfMany q_shelfSort q_shelfHas v_stepAt v_justMany v_rootAt v_pile v_lastAt v_nextAt v_hasBend (x4 + ((x2 - x4) / (2 : Int64))) (x1 + (1 : Int32)) (-9223372036854775808 : Int64) _ hc9 _) (cwV 3 hts gX9_least_X9_goesUpTo rfl rfl rfl (by decide +kernel) ⟨Nat.le_of_ble_eq_true rfl, Nat.le_of_ble_eq_true rfl⟩) (cut_V hK hP hD [0, 2, 3, 4, 5, 6] rfl rfl (ci := 9) (q0 := 0) rfl rfl) rfl rfl hl.1 rfl (lv_room (Nat.le_of_ble_eq_true rfl)) dX9_least_94 ⟨Nat.zero_le _, Nat.zero_le _⟩) hP hD hS hA [0, 2, 3, 4, 5, 6] [1] [1, 0, 2, 3, 4, 5, 6] rfl rfl rfl rfl rfl rfl (fun H locs hP hD hS => ?_)
        refine lv_iload_n hx hb dX9_least_97 rfl (lv_at hl 2 rfl) ?_
        refine lv_icmp_le (tgt := 107) hx hb dX9_least_98 (by decide) (fun c10 => ?_) (fun c10 => ?_)
        · have hf := if_s hf c10
          refine lv_lload hx hb dX9_least_107 (lv_at hl 0 rfl) ?_
          refine lv_lstore (lv' := [(4, .long (x4 + ((x2 - x4) / (2 : Int64)))), (6, .long (x4 + ((x2 - x4) / (2 : Int64)))), (0, .ref q), (1, .int x1), (2, .long x2)]) hx hb dX9_least_109 hl (by decide) rfl (fun ls hl => ?_)
          refine lv_goto (tgt := 63) hx hb dX9_least_111 (by decide) ?_
          exact ih x2 (x4 + ((x2 - x4) / (2 : Int64))) r9.2.1 r9.2.2.1 r9.2.2.2.1 r9.2.2.2.2.1 r9.2.2.2.2.2 _ _ _ hf hP hD hS (lv_sub hl [2, 3, 4, 0] rfl)
        · have hf := if_n hf c10
          refine lv_lload hx hb dX9_least_101 (lv_at hl 0 rfl) ?_
          refine lv_lstore_n (lv' := [(2, .long (x4 + ((x2 - x4) / (2 : Int64)))), (6, .long (x4 + ((x2 - x4) / (2 : Int64)))), (0, .ref q), (1, .int x1), (4, .long x4)]) hx hb dX9_least_103 rfl hl (by decide) rfl (fun ls hl => ?_)
          refine lv_goto (tgt := 111) hx hb dX9_least_104 (by decide) ?_
          refine lv_goto (tgt := 63) hx hb dX9_least_111 (by decide) ?_
          exact ih (x4 + ((x2 - x4) / (2 : Int64))) x4 r9.2.1 r9.2.2.1 r9.2.2.2.1 r9.2.2.2.2.1 r9.2.2.2.2.2 _ _ _ hf hP hD hS (lv_sub hl [2, 3, 0, 4] rfl)
  refine lv_iload_n hx hb dX9_least_0 rfl (lv_at hl 1 rfl) ?_
  refine lv_iconst (v := 0) hx hb dX9_least_1 (by decide) ?_
  refine lv_sipush (v := 2000) hx hb dX9_least_2 (by decide) ?_
  obtain ⟨r1, hc1, hf⟩ := ob_s hf
  refine bk_i (wc := []) (wc2 := []) (wr := [(q, .inr (9, [.ref q_bends, .ref q_rootAt, .int v_stepAt, .ref q_pile, .ref q_lastAt, .ref q_nextAt, .ref q_hasBend, .int v_justMany, .ref q_isMet, .ref q_queue, .ref q_sums, .ref q_kept, .ref q_isKept, .ref q_copies, .ref q_shelfMany, .ref q_shelfSort, .ref q_shelfHas])), (q_bends, .inl (cJ, 4, .inr (.inl v_bends))), (q_rootAt, .inl (cJ, 4, .inr (.inl v_rootAt))), (q_pile, .inl (cJ, 10400, .inr (.inl v_pile))), (q_lastAt, .inl (cI, 2600, .inl v_lastAt)), (q_nextAt, .inl (cI, 2600, .inl v_nextAt)), (q_hasBend, .inl (cZ, 5001, .inl v_hasBend))]) (ws2 := [(q, .inr (9, [.ref q_bends, .ref q_rootAt, .int v_stepAt, .ref q_pile, .ref q_lastAt, .ref q_nextAt, .ref q_hasBend, .int v_justMany, .ref q_isMet, .ref q_queue, .ref q_sums, .ref q_kept, .ref q_isKept, .ref q_copies, .ref q_shelfMany, .ref q_shelfSort, .ref q_shelfHas])), (q_bends, .inl (cJ, 4, .inr (.inl v_bends))), (q_rootAt, .inl (cJ, 4, .inr (.inl v_rootAt))), (q_pile, .inl (cJ, 10400, .inr (.inl v_pile))), (q_lastAt, .inl (cI, 2600, .inl v_lastAt)), (q_nextAt, .inl (cI, 2600, .inl v_nextAt)), (q_hasBend, .inl (cZ, 5001, .inl v_hasBend))]) (r := r1) (va_runS (As := [.int p1, .int (0 : Int32), .int (2000 : Int32)]) (rest := []) ⟨hx, hb, hml, hown, hts⟩ (kX9_within (l := l) (G := G) (cI := cI) (cJ := cJ) (cZ := cZ) (cS := cS) (cG := cG) p1 (0 : Int32) (2000 : Int32) _ hc1 _) (va_cwS 3 hts gX9_least_X9_within rfl rfl rfl (by decide +kernel) ⟨Nat.le_of_ble_eq_true rfl, Nat.le_of_ble_eq_true rfl⟩) (cut_S hK hP hD [] rfl rfl) rfl rfl hl.1 rfl (lv_room (Nat.le_of_ble_eq_true rfl)) dX9_least_5 ⟨Nat.zero_le _, Nat.zero_le _⟩) hP hD hS hA [] [0, 1, 2, 3, 4, 5, 6] [0, 1, 2, 3, 4, 5, 6] rfl rfl rfl rfl rfl rfl (fun H locs hP hD hS => ?_)
  refine lv_if_eq (tgt := 18) hx hb dX9_least_8 (by decide) (fun c2 => ?_) (fun c2 => ?_)
  · have hf := if_s hf c2
    refine lv_ldc2 (v := (-9223372036854775808)) hx hb hown (hts (.constantLong RX9 80 (-9223372036854775808)) (List.mem_of_getElem? (i := 1) rfl)) dX9_least_18 ?_
    cases hf
    rw [← hQ]
    exact rt_l hx hb hr hlk hP hD hS rfl dX9_least_21
  · have hf := if_n hf c2
    refine lv_aload_n hx hb dX9_least_11 rfl (lv_at hl 0 rfl) ?_
    obtain ⟨r3, hc3, hf⟩ := ob_s hf
    refine bk_i (wc := [(q, .inr (9, [.ref q_bends, .ref q_rootAt, .int v_stepAt, .ref q_pile, .ref q_lastAt, .ref q_nextAt, .ref q_hasBend, .int v_justMany, .ref q_isMet, .ref q_queue, .ref q_sums, .ref q_kept, .ref q_isKept, .ref q_copies, .ref q_shelfMany, .ref q_shelfSort, .ref q_shelfHas])), (q_bends, .inl (cJ, 4, .inr (.inl v_bends))), (q_rootAt, .inl (cJ, 4, .inr (.inl v_rootAt)))]) (wc2 := [(q, .inr (9, [.ref q_bends, .ref q_rootAt, .int r3.2.1, .ref q_pile, .ref q_lastAt, .ref q_nextAt, .ref q_hasBend, .int v_justMany, .ref q_isMet, .ref q_queue, .ref q_sums, .ref q_kept, .ref q_isKept, .ref q_copies, .ref q_shelfMany, .ref q_shelfSort, .ref q_shelfHas])), (q_bends, .inl (cJ, 4, .inr (.inl v_bends))), (q_rootAt, .inl (cJ, 4, .inr (.inl r3.2.2)))]) (wr := [(q_pile, .inl (cJ, 10400, .inr (.inl v_pile))), (q_lastAt, .inl (cI, 2600, .inl v_lastAt)), (q_nextAt, .inl (cI, 2600, .inl v_nextAt)), (q_hasBend, .inl (cZ, 5001, .inl v_hasBend))]) (ws2 := [(q, .inr (9, [.ref q_bends, .ref q_rootAt, .int r3.2.1, .ref q_pile, .ref q_lastAt, .ref q_nextAt, .ref q_hasBend, .int v_justMany, .ref q_isMet, .ref q_queue, .ref q_sums, .ref q_kept, .ref q_isKept, .ref q_copies, .ref q_shelfMany, .ref q_shelfSort, .ref q_shelfHas])), (q_bends, .inl (cJ, 4, .inr (.inl v_bends))), (q_rootAt, .inl (cJ, 4, .inr (.inl r3.2.2))), (q_pile, .inl (cJ, 10400, .inr (.inl v_pile))), (q_lastAt, .inl (cI, 2600, .inl v_lastAt)), (q_nextAt, .inl (cI, 2600, .inl v_nextAt)), (q_hasBend, .inl (cZ, 5001, .inl v_hasBend))]) (r := r3.1) (va_runV (As := []) (rest := []) ⟨hx, hb, hml, hown, hts⟩ (kX9_isBound (l := l) (G := G) (cI := cI) (cJ := cJ) (cZ := cZ) (cS := cS) (cG := cG) n q q_bends q_rootAt q_pile q_lastAt q_nextAt q_hasBend q_isMet q_queue q_sums q_kept q_isKept q_copies q_shelfMany q_shelfSort q_shelfHas v_stepAt v_justMany v_bends v_rootAt _ hc3 _) (cwV 0 hts gX9_least_X9_isBound rfl rfl rfl (by decide +kernel) ⟨Nat.le_of_ble_eq_true rfl, Nat.le_of_ble_eq_true rfl⟩) (cut_V hK hP hD [0, 1, 2] rfl rfl (ci := 9) (q0 := 0) rfl rfl) rfl rfl hl.1 rfl (lv_room (Nat.le_of_ble_eq_true rfl)) dX9_least_12 ⟨Nat.zero_le _, Nat.zero_le _⟩) hP hD hS hA [0, 1, 2] [3, 4, 5, 6] [4, 5, 6, 0, 1, 2, 3] rfl rfl rfl rfl rfl rfl (fun H locs hP hD hS => ?_)
    refine lv_if_ne (tgt := 22) hx hb dX9_least_15 (by decide) (fun c4 => ?_) (fun c4 => ?_)
    · have hf := if_n hf c4
      refine lv_aload_n hx hb dX9_least_22 rfl (lv_at hl 0 rfl) ?_
      refine va_get (D := G) (ci := 9) (v := .ref q_rootAt) (C := RX9) (T := TX9) (N := 17) hx hb hts hiX9_least_X9 hown hK.1 hP 0 rfl rfl 1 (by decide) (hts (.fieldLink RX9 13 "PackedBendsModel" "rootAt" "[J") (List.mem_of_getElem? (i := 2) rfl)) (fun _ h9 => h9) rfl dX9_least_23 ?_
      refine lv_iconst (v := 3) hx hb dX9_least_26 (by decide) ?_
      refine va_lald hx hb hK.1 hP 2 1 rfl rfl (vp_in_iff.mpr (by decide)) dX9_least_27 ?_
      refine lv_lstore_n (lv' := [(2, .long (r3.2.2 (3 : Int32).toNatClampNeg)), (0, .ref q), (1, .int p1)]) hx hb dX9_least_28 rfl hl (by decide) rfl (fun ls hl => ?_)
      refine hL29 p1 r3.2.1 r3.2.2 _ (fun y2_7 u7_justMany u7_pile u7_lastAt u7_nextAt u7_hasBend H locs ls hf hP hD hS hl => ?_) n (r3.2.2 (3 : Int32).toNatClampNeg) v_justMany v_pile v_lastAt v_nextAt v_hasBend _ _ _ hf hP hD hS (lv_sub hl [1, 2, 0] rfl)
      have hP : va_P G vwCl [(q, .inr (9, [.ref q_bends, .ref q_rootAt, .int r3.2.1, .ref q_pile, .ref q_lastAt, .ref q_nextAt, .ref q_hasBend, .int u7_justMany, .ref q_isMet, .ref q_queue, .ref q_sums, .ref q_kept, .ref q_isKept, .ref q_copies, .ref q_shelfMany, .ref q_shelfSort, .ref q_shelfHas])), (q_bends, .inl (cJ, 4, .inr (.inl v_bends))), (q_rootAt, .inl (cJ, 4, .inr (.inl r3.2.2))), (q_pile, .inl (cJ, 10400, .inr (.inl u7_pile))), (q_lastAt, .inl (cI, 2600, .inl u7_lastAt)), (q_nextAt, .inl (cI, 2600, .inl u7_nextAt)), (q_hasBend, .inl (cZ, 5001, .inl u7_hasBend))] H := hP
      have hD : va_D A [(q, .inr (9, [.ref q_bends, .ref q_rootAt, .int r3.2.1, .ref q_pile, .ref q_lastAt, .ref q_nextAt, .ref q_hasBend, .int u7_justMany, .ref q_isMet, .ref q_queue, .ref q_sums, .ref q_kept, .ref q_isKept, .ref q_copies, .ref q_shelfMany, .ref q_shelfSort, .ref q_shelfHas])), (q_bends, .inl (cJ, 4, .inr (.inl v_bends))), (q_rootAt, .inl (cJ, 4, .inr (.inl r3.2.2))), (q_pile, .inl (cJ, 10400, .inr (.inl u7_pile))), (q_lastAt, .inl (cI, 2600, .inl u7_lastAt)), (q_nextAt, .inl (cI, 2600, .inl u7_nextAt)), (q_hasBend, .inl (cZ, 5001, .inl u7_hasBend))] := hD
      refine lv_aload_n hx hb dX9_least_53 rfl (lv_at hl 0 rfl) ?_
      refine va_get (D := G) (ci := 9) (v := .ref q_rootAt) (C := RX9) (T := TX9) (N := 17) hx hb hts hiX9_least_X9 hown hK.1 hP 0 rfl rfl 1 (by decide) (hts (.fieldLink RX9 13 "PackedBendsModel" "rootAt" "[J") (List.mem_of_getElem? (i := 2) rfl)) (fun _ h9 => h9) rfl dX9_least_54 ?_
      refine lv_iconst (v := 0) hx hb dX9_least_57 (by decide) ?_
      refine va_lald hx hb hK.1 hP 2 1 rfl rfl (vp_in_iff.mpr (by decide)) dX9_least_58 ?_
      refine lv_lconst (v := 1) hx hb dX9_least_59 (by decide) ?_
      refine lv_lsub hx hb dX9_least_60 ?_
      refine lv_lstore (lv' := [(4, .long ((r3.2.2 (0 : Int32).toNatClampNeg) - (1 : Int64))), (0, .ref q), (1, .int p1), (2, .long y2_7)]) hx hb dX9_least_61 hl (by decide) rfl (fun ls hl => ?_)
      refine hL63 p1 r3.2.1 r3.2.2 _ (fun y2_11 y4_11 u11_justMany u11_pile u11_lastAt u11_nextAt u11_hasBend H locs ls hf hP hD hS hl => ?_) n y2_7 ((r3.2.2 (0 : Int32).toNatClampNeg) - (1 : Int64)) u7_justMany u7_pile u7_lastAt u7_nextAt u7_hasBend _ _ _ hf hP hD hS (lv_sub hl [1, 2, 3, 0] rfl)
      have hP : va_P G vwCl [(q, .inr (9, [.ref q_bends, .ref q_rootAt, .int r3.2.1, .ref q_pile, .ref q_lastAt, .ref q_nextAt, .ref q_hasBend, .int u11_justMany, .ref q_isMet, .ref q_queue, .ref q_sums, .ref q_kept, .ref q_isKept, .ref q_copies, .ref q_shelfMany, .ref q_shelfSort, .ref q_shelfHas])), (q_bends, .inl (cJ, 4, .inr (.inl v_bends))), (q_rootAt, .inl (cJ, 4, .inr (.inl r3.2.2))), (q_pile, .inl (cJ, 10400, .inr (.inl u11_pile))), (q_lastAt, .inl (cI, 2600, .inl u11_lastAt)), (q_nextAt, .inl (cI, 2600, .inl u11_nextAt)), (q_hasBend, .inl (cZ, 5001, .inl u11_hasBend))] H := hP
      have hD : va_D A [(q, .inr (9, [.ref q_bends, .ref q_rootAt, .int r3.2.1, .ref q_pile, .ref q_lastAt, .ref q_nextAt, .ref q_hasBend, .int u11_justMany, .ref q_isMet, .ref q_queue, .ref q_sums, .ref q_kept, .ref q_isKept, .ref q_copies, .ref q_shelfMany, .ref q_shelfSort, .ref q_shelfHas])), (q_bends, .inl (cJ, 4, .inr (.inl v_bends))), (q_rootAt, .inl (cJ, 4, .inr (.inl r3.2.2))), (q_pile, .inl (cJ, 10400, .inr (.inl u11_pile))), (q_lastAt, .inl (cI, 2600, .inl u11_lastAt)), (q_nextAt, .inl (cI, 2600, .inl u11_nextAt)), (q_hasBend, .inl (cZ, 5001, .inl u11_hasBend))] := hD
      refine lv_lload_n hx hb dX9_least_114 rfl (lv_at hl 2 rfl) ?_
      cases hf
      rw [← hQ]
      exact rt_l hx hb hr hlk hP hD hS rfl dX9_least_115
    · have hf := if_s hf c4
      refine lv_ldc2 (v := (-9223372036854775808)) hx hb hown (hts (.constantLong RX9 80 (-9223372036854775808)) (List.mem_of_getElem? (i := 1) rfl)) dX9_least_18 ?_
      cases hf
      rw [← hQ]
      exact rt_l hx hb hr hlk hP hD hS rfl dX9_least_21
