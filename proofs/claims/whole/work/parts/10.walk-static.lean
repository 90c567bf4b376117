def pX8_isPlace (p0 : Int32) : Option (Int32) := if p0 < (1 : Int32) then some (0 : Int32) else if (4 : Int32) < p0 then some (0 : Int32) else some (1 : Int32)
def rmX8_isPlace : Room := { frames := 0, cells := 0, slots := 0, locals := 0 }
set_option maxRecDepth 100000 in
set_option maxHeartbeats 4000000 in
theorem kX8_isPlace {l : Launch} {G : va_G} {cI cJ cZ cS cG : ClassId} (p0 : Int32) (R : Int32) (hf : pX8_isPlace p0 = some R) : CTi l yX8_isPlace wsX8_isPlace rmX8_isPlace G cI cJ cZ cS cG [.int p0] [] [] R := by
  refine Met.ofE (Qc := fun A => QRi G A [] R) (cc := cX8_isPlace) (nL := 1) (ret := some .boolean) (plainFor_of_name (by decide +kernel)) rfl (Nat.le_of_ble_eq_true rfl) ?_
  intro p e s m below meth c A ls hx hb hml hr hlk hts hown hK hA hP hD hS hl
  have hown : s.vm.findClass RX8 = some m.cls := hown
  have hl : lv_has ls 1 [(0, .int p0)] := hl
  generalize hQ : MQ below (QRi G A [] R) ([.int p0] : List Value).toArray s 0 0 A = QQ
  unfold pX8_isPlace at hf
  refine lv_iload_n hx hb dX8_isPlace_0 rfl (lv_at hl 0 rfl) ?_
  refine lv_iconst (v := 1) hx hb dX8_isPlace_1 (by decide) ?_
  refine lv_icmp_lt (tgt := 14) hx hb dX8_isPlace_2 (by decide) (fun c1 => ?_) (fun c1 => ?_)
  · have hf := if_s hf c1
    refine lv_iconst (v := 0) hx hb dX8_isPlace_14 (by decide) ?_
    cases hf
    rw [← hQ]
    exact rt_z hx hb hr hlk rfl hP hD hS rfl dX8_isPlace_15
  · have hf := if_n hf c1
    refine lv_iload_n hx hb dX8_isPlace_5 rfl (lv_at hl 0 rfl) ?_
    refine lv_iconst (v := 4) hx hb dX8_isPlace_6 (by decide) ?_
    refine lv_icmp_gt (tgt := 14) hx hb dX8_isPlace_7 (by decide) (fun c2 => ?_) (fun c2 => ?_)
    · have hf := if_s hf c2
      refine lv_iconst (v := 0) hx hb dX8_isPlace_14 (by decide) ?_
      cases hf
      rw [← hQ]
      exact rt_z hx hb hr hlk rfl hP hD hS rfl dX8_isPlace_15
    · have hf := if_n hf c2
      refine lv_iconst (v := 1) hx hb dX8_isPlace_10 (by decide) ?_
      refine lv_goto (tgt := 15) hx hb dX8_isPlace_11 (by decide) ?_
      cases hf
      rw [← hQ]
      exact rt_z hx hb hr hlk rfl hP hD hS rfl dX8_isPlace_15
def pX8_isIndex (p0 : Int32) : Option (Int32) := if p0 < 0 then some (0 : Int32) else if (4 : Int32) ≤ p0 then some (0 : Int32) else some (1 : Int32)
def rmX8_isIndex : Room := { frames := 0, cells := 0, slots := 0, locals := 0 }
set_option maxRecDepth 100000 in
set_option maxHeartbeats 4000000 in
theorem kX8_isIndex {l : Launch} {G : va_G} {cI cJ cZ cS cG : ClassId} (p0 : Int32) (R : Int32) (hf : pX8_isIndex p0 = some R) : CTi l yX8_isIndex wsX8_isIndex rmX8_isIndex G cI cJ cZ cS cG [.int p0] [] [] R := by
  refine Met.ofE (Qc := fun A => QRi G A [] R) (cc := cX8_isIndex) (nL := 1) (ret := some .boolean) (plainFor_of_name (by decide +kernel)) rfl (Nat.le_of_ble_eq_true rfl) ?_
  intro p e s m below meth c A ls hx hb hml hr hlk hts hown hK hA hP hD hS hl
  have hown : s.vm.findClass RX8 = some m.cls := hown
  have hl : lv_has ls 1 [(0, .int p0)] := hl
  generalize hQ : MQ below (QRi G A [] R) ([.int p0] : List Value).toArray s 0 0 A = QQ
  unfold pX8_isIndex at hf
  refine lv_iload_n hx hb dX8_isIndex_0 rfl (lv_at hl 0 rfl) ?_
  refine lv_if_lt (tgt := 13) hx hb dX8_isIndex_1 (by decide) (fun c1 => ?_) (fun c1 => ?_)
  · have hf := if_s hf c1
    refine lv_iconst (v := 0) hx hb dX8_isIndex_13 (by decide) ?_
    cases hf
    rw [← hQ]
    exact rt_z hx hb hr hlk rfl hP hD hS rfl dX8_isIndex_14
  · have hf := if_n hf c1
    refine lv_iload_n hx hb dX8_isIndex_4 rfl (lv_at hl 0 rfl) ?_
    refine lv_iconst (v := 4) hx hb dX8_isIndex_5 (by decide) ?_
    refine lv_icmp_ge (tgt := 13) hx hb dX8_isIndex_6 (by decide) (fun c2 => ?_) (fun c2 => ?_)
    · have hf := if_s hf c2
      refine lv_iconst (v := 0) hx hb dX8_isIndex_13 (by decide) ?_
      cases hf
      rw [← hQ]
      exact rt_z hx hb hr hlk rfl hP hD hS rfl dX8_isIndex_14
    · have hf := if_n hf c2
      refine lv_iconst (v := 1) hx hb dX8_isIndex_9 (by decide) ?_
      refine lv_goto (tgt := 14) hx hb dX8_isIndex_10 (by decide) ?_
      cases hf
      rw [← hQ]
      exact rt_z hx hb hr hlk rfl hP hD hS rfl dX8_isIndex_14
def pX8_isCopy (p0 : Int32) : Option (Int32) := if p0 < 0 then some (0 : Int32) else if (3 : Int32) ≤ p0 then some (0 : Int32) else some (1 : Int32)
def rmX8_isCopy : Room := { frames := 0, cells := 0, slots := 0, locals := 0 }
set_option maxRecDepth 100000 in
set_option maxHeartbeats 4000000 in
theorem kX8_isCopy {l : Launch} {G : va_G} {cI cJ cZ cS cG : ClassId} (p0 : Int32) (R : Int32) (hf : pX8_isCopy p0 = some R) : CTi l yX8_isCopy wsX8_isCopy rmX8_isCopy G cI cJ cZ cS cG [.int p0] [] [] R := by
  refine Met.ofE (Qc := fun A => QRi G A [] R) (cc := cX8_isCopy) (nL := 1) (ret := some .boolean) (plainFor_of_name (by decide +kernel)) rfl (Nat.le_of_ble_eq_true rfl) ?_
  intro p e s m below meth c A ls hx hb hml hr hlk hts hown hK hA hP hD hS hl
  have hown : s.vm.findClass RX8 = some m.cls := hown
  have hl : lv_has ls 1 [(0, .int p0)] := hl
  generalize hQ : MQ below (QRi G A [] R) ([.int p0] : List Value).toArray s 0 0 A = QQ
  unfold pX8_isCopy at hf
  refine lv_iload_n hx hb dX8_isCopy_0 rfl (lv_at hl 0 rfl) ?_
  refine lv_if_lt (tgt := 13) hx hb dX8_isCopy_1 (by decide) (fun c1 => ?_) (fun c1 => ?_)
  · have hf := if_s hf c1
    refine lv_iconst (v := 0) hx hb dX8_isCopy_13 (by decide) ?_
    cases hf
    rw [← hQ]
    exact rt_z hx hb hr hlk rfl hP hD hS rfl dX8_isCopy_14
  · have hf := if_n hf c1
    refine lv_iload_n hx hb dX8_isCopy_4 rfl (lv_at hl 0 rfl) ?_
    refine lv_iconst (v := 3) hx hb dX8_isCopy_5 (by decide) ?_
    refine lv_icmp_ge (tgt := 13) hx hb dX8_isCopy_6 (by decide) (fun c2 => ?_) (fun c2 => ?_)
    · have hf := if_s hf c2
      refine lv_iconst (v := 0) hx hb dX8_isCopy_13 (by decide) ?_
      cases hf
      rw [← hQ]
      exact rt_z hx hb hr hlk rfl hP hD hS rfl dX8_isCopy_14
    · have hf := if_n hf c2
      refine lv_iconst (v := 1) hx hb dX8_isCopy_9 (by decide) ?_
      refine lv_goto (tgt := 14) hx hb dX8_isCopy_10 (by decide) ?_
      cases hf
      rw [← hQ]
      exact rt_z hx hb hr hlk rfl hP hD hS rfl dX8_isCopy_14
def pX8_isShelf (p0 : Int32) : Option (Int32) := if p0 < 0 then some (0 : Int32) else if (3 : Int32) ≤ p0 then some (0 : Int32) else some (1 : Int32)
def rmX8_isShelf : Room := { frames := 0, cells := 0, slots := 0, locals := 0 }
set_option maxRecDepth 100000 in
set_option maxHeartbeats 4000000 in
theorem kX8_isShelf {l : Launch} {G : va_G} {cI cJ cZ cS cG : ClassId} (p0 : Int32) (R : Int32) (hf : pX8_isShelf p0 = some R) : CTi l yX8_isShelf wsX8_isShelf rmX8_isShelf G cI cJ cZ cS cG [.int p0] [] [] R := by
  refine Met.ofE (Qc := fun A => QRi G A [] R) (cc := cX8_isShelf) (nL := 1) (ret := some .boolean) (plainFor_of_name (by decide +kernel)) rfl (Nat.le_of_ble_eq_true rfl) ?_
  intro p e s m below meth c A ls hx hb hml hr hlk hts hown hK hA hP hD hS hl
  have hown : s.vm.findClass RX8 = some m.cls := hown
  have hl : lv_has ls 1 [(0, .int p0)] := hl
  generalize hQ : MQ below (QRi G A [] R) ([.int p0] : List Value).toArray s 0 0 A = QQ
  unfold pX8_isShelf at hf
  refine lv_iload_n hx hb dX8_isShelf_0 rfl (lv_at hl 0 rfl) ?_
  refine lv_if_lt (tgt := 13) hx hb dX8_isShelf_1 (by decide) (fun c1 => ?_) (fun c1 => ?_)
  · have hf := if_s hf c1
    refine lv_iconst (v := 0) hx hb dX8_isShelf_13 (by decide) ?_
    cases hf
    rw [← hQ]
    exact rt_z hx hb hr hlk rfl hP hD hS rfl dX8_isShelf_14
  · have hf := if_n hf c1
    refine lv_iload_n hx hb dX8_isShelf_4 rfl (lv_at hl 0 rfl) ?_
    refine lv_iconst (v := 3) hx hb dX8_isShelf_5 (by decide) ?_
    refine lv_icmp_ge (tgt := 13) hx hb dX8_isShelf_6 (by decide) (fun c2 => ?_) (fun c2 => ?_)
    · have hf := if_s hf c2
      refine lv_iconst (v := 0) hx hb dX8_isShelf_13 (by decide) ?_
      cases hf
      rw [← hQ]
      exact rt_z hx hb hr hlk rfl hP hD hS rfl dX8_isShelf_14
    · have hf := if_n hf c2
      refine lv_iconst (v := 1) hx hb dX8_isShelf_9 (by decide) ?_
      refine lv_goto (tgt := 14) hx hb dX8_isShelf_10 (by decide) ?_
      cases hf
      rw [← hQ]
      exact rt_z hx hb hr hlk rfl hP hD hS rfl dX8_isShelf_14
def pX8_mayBeGiven (p0 : Int32) : Option (Int32) := if p0 < (-100000 : Int32) then some (0 : Int32) else if (1000000 : Int32) < p0 then some (0 : Int32) else some (1 : Int32)
def rmX8_mayBeGiven : Room := { frames := 0, cells := 0, slots := 0, locals := 0 }
set_option maxRecDepth 100000 in
set_option maxHeartbeats 4000000 in
theorem kX8_mayBeGiven {l : Launch} {G : va_G} {cI cJ cZ cS cG : ClassId} (p0 : Int32) (R : Int32) (hf : pX8_mayBeGiven p0 = some R) : CTi l yX8_mayBeGiven wsX8_mayBeGiven rmX8_mayBeGiven G cI cJ cZ cS cG [.int p0] [] [] R := by
  refine Met.ofE (Qc := fun A => QRi G A [] R) (cc := cX8_mayBeGiven) (nL := 1) (ret := some .boolean) (plainFor_of_name (by decide +kernel)) rfl (Nat.le_of_ble_eq_true rfl) ?_
  intro p e s m below meth c A ls hx hb hml hr hlk hts hown hK hA hP hD hS hl
  have hown : s.vm.findClass RX8 = some m.cls := hown
  have hl : lv_has ls 1 [(0, .int p0)] := hl
  generalize hQ : MQ below (QRi G A [] R) ([.int p0] : List Value).toArray s 0 0 A = QQ
  unfold pX8_mayBeGiven at hf
  refine lv_iload_n hx hb dX8_mayBeGiven_0 rfl (lv_at hl 0 rfl) ?_
  refine lv_ldc (v := (-100000)) hx hb hown (hts (.constant RX8 200 (-100000)) (List.mem_of_getElem? (i := 1) rfl)) dX8_mayBeGiven_1 ?_
  refine lv_icmp_lt (tgt := 16) hx hb dX8_mayBeGiven_3 (by decide) (fun c1 => ?_) (fun c1 => ?_)
  · have hf := if_s hf c1
    refine lv_iconst (v := 0) hx hb dX8_mayBeGiven_16 (by decide) ?_
    cases hf
    rw [← hQ]
    exact rt_z hx hb hr hlk rfl hP hD hS rfl dX8_mayBeGiven_17
  · have hf := if_n hf c1
    refine lv_iload_n hx hb dX8_mayBeGiven_6 rfl (lv_at hl 0 rfl) ?_
    refine lv_ldc (v := 1000000) hx hb hown (hts (.constant RX8 179 (1000000)) (List.mem_of_getElem? (i := 2) rfl)) dX8_mayBeGiven_7 ?_
    refine lv_icmp_gt (tgt := 16) hx hb dX8_mayBeGiven_9 (by decide) (fun c2 => ?_) (fun c2 => ?_)
    · have hf := if_s hf c2
      refine lv_iconst (v := 0) hx hb dX8_mayBeGiven_16 (by decide) ?_
      cases hf
      rw [← hQ]
      exact rt_z hx hb hr hlk rfl hP hD hS rfl dX8_mayBeGiven_17
    · have hf := if_n hf c2
      refine lv_iconst (v := 1) hx hb dX8_mayBeGiven_12 (by decide) ?_
      refine lv_goto (tgt := 17) hx hb dX8_mayBeGiven_13 (by decide) ?_
      cases hf
      rw [← hQ]
      exact rt_z hx hb hr hlk rfl hP hD hS rfl dX8_mayBeGiven_17
def pX8_mayBeAsked (p0 : Int32) : Option (Int32) := if p0 < (-100000 : Int32) then some (0 : Int32) else if (5000 : Int32) < p0 then some (0 : Int32) else some (1 : Int32)
def rmX8_mayBeAsked : Room := { frames := 0, cells := 0, slots := 0, locals := 0 }
set_option maxRecDepth 100000 in
set_option maxHeartbeats 4000000 in
theorem kX8_mayBeAsked {l : Launch} {G : va_G} {cI cJ cZ cS cG : ClassId} (p0 : Int32) (R : Int32) (hf : pX8_mayBeAsked p0 = some R) : CTi l yX8_mayBeAsked wsX8_mayBeAsked rmX8_mayBeAsked G cI cJ cZ cS cG [.int p0] [] [] R := by
  refine Met.ofE (Qc := fun A => QRi G A [] R) (cc := cX8_mayBeAsked) (nL := 1) (ret := some .boolean) (plainFor_of_name (by decide +kernel)) rfl (Nat.le_of_ble_eq_true rfl) ?_
  intro p e s m below meth c A ls hx hb hml hr hlk hts hown hK hA hP hD hS hl
  have hown : s.vm.findClass RX8 = some m.cls := hown
  have hl : lv_has ls 1 [(0, .int p0)] := hl
  generalize hQ : MQ below (QRi G A [] R) ([.int p0] : List Value).toArray s 0 0 A = QQ
  unfold pX8_mayBeAsked at hf
  refine lv_iload_n hx hb dX8_mayBeAsked_0 rfl (lv_at hl 0 rfl) ?_
  refine lv_ldc (v := (-100000)) hx hb hown (hts (.constant RX8 200 (-100000)) (List.mem_of_getElem? (i := 1) rfl)) dX8_mayBeAsked_1 ?_
  refine lv_icmp_lt (tgt := 17) hx hb dX8_mayBeAsked_3 (by decide) (fun c1 => ?_) (fun c1 => ?_)
  · have hf := if_s hf c1
    refine lv_iconst (v := 0) hx hb dX8_mayBeAsked_17 (by decide) ?_
    cases hf
    rw [← hQ]
    exact rt_z hx hb hr hlk rfl hP hD hS rfl dX8_mayBeAsked_18
  · have hf := if_n hf c1
    refine lv_iload_n hx hb dX8_mayBeAsked_6 rfl (lv_at hl 0 rfl) ?_
    refine lv_sipush (v := 5000) hx hb dX8_mayBeAsked_7 (by decide) ?_
    refine lv_icmp_gt (tgt := 17) hx hb dX8_mayBeAsked_10 (by decide) (fun c2 => ?_) (fun c2 => ?_)
    · have hf := if_s hf c2
      refine lv_iconst (v := 0) hx hb dX8_mayBeAsked_17 (by decide) ?_
      cases hf
      rw [← hQ]
      exact rt_z hx hb hr hlk rfl hP hD hS rfl dX8_mayBeAsked_18
    · have hf := if_n hf c2
      refine lv_iconst (v := 1) hx hb dX8_mayBeAsked_13 (by decide) ?_
      refine lv_goto (tgt := 18) hx hb dX8_mayBeAsked_14 (by decide) ?_
      cases hf
      rw [← hQ]
      exact rt_z hx hb hr hlk rfl hP hD hS rfl dX8_mayBeAsked_18
def pX8_isGood (p0 : Int64) (p2 : Int64) (p4 : Int64) (p6 : Int64) : Option (Int32) := if (((p0 + p2) + p4) + p6) ≤ (0 : Int64) then some (0 : Int32) else if ((2 : Int64) * ((((p0 * p0) + (p2 * p2)) + (p4 * p4)) + (p6 * p6))) = ((((p0 + p2) + p4) + p6) * (((p0 + p2) + p4) + p6)) then some (1 : Int32) else some (0 : Int32)
def rmX8_isGood : Room := { frames := 0, cells := 0, slots := 0, locals := 0 }
set_option maxRecDepth 100000 in
set_option maxHeartbeats 4000000 in
theorem kX8_isGood {l : Launch} {G : va_G} {cI cJ cZ cS cG : ClassId} (p0 : Int64) (p2 : Int64) (p4 : Int64) (p6 : Int64) (R : Int32) (hf : pX8_isGood p0 p2 p4 p6 = some R) : CTi l yX8_isGood wsX8_isGood rmX8_isGood G cI cJ cZ cS cG [.long p0, .long p2, .long p4, .long p6] [] [] R := by
  refine Met.ofE (Qc := fun A => QRi G A [] R) (cc := cX8_isGood) (nL := 10) (ret := some .boolean) (plainFor_of_name (by decide +kernel)) rfl (Nat.le_of_ble_eq_true rfl) ?_
  intro p e s m below meth c A ls hx hb hml hr hlk hts hown hK hA hP hD hS hl
  have hown : s.vm.findClass RX8 = some m.cls := hown
  have hl : lv_has ls 10 [(0, .long p0), (2, .long p2), (4, .long p4), (6, .long p6)] := hl
  generalize hQ : MQ below (QRi G A [] R) ([.long p0, .long p2, .long p4, .long p6] : List Value).toArray s 0 0 A = QQ
  unfold pX8_isGood at hf
  refine lv_lload_n hx hb dX8_isGood_0 rfl (lv_at hl 0 rfl) ?_
  refine lv_lload_n hx hb dX8_isGood_1 rfl (lv_at hl 1 rfl) ?_
  refine lv_ladd hx hb dX8_isGood_2 ?_
  refine lv_lload hx hb dX8_isGood_3 (lv_at hl 2 rfl) ?_
  refine lv_ladd hx hb dX8_isGood_5 ?_
  refine lv_lload hx hb dX8_isGood_6 (lv_at hl 3 rfl) ?_
  refine lv_ladd hx hb dX8_isGood_8 ?_
  refine lv_lstore (lv' := [(8, .long (((p0 + p2) + p4) + p6)), (0, .long p0), (2, .long p2), (4, .long p4), (6, .long p6)]) hx hb dX8_isGood_9 hl (by decide) rfl (fun ls hl => ?_)
  refine lv_lload hx hb dX8_isGood_11 (lv_at hl 0 rfl) ?_
  refine lv_lconst (v := 0) hx hb dX8_isGood_13 (by decide) ?_
  refine lc_le (tgt := 54) hx hb dX8_isGood_14 dX8_isGood_15 (by decide) (fun c1 => ?_) (fun c1 => ?_)
  · have hf := if_s hf c1
    refine lv_iconst (v := 0) hx hb dX8_isGood_54 (by decide) ?_
    cases hf
    rw [← hQ]
    exact rt_z hx hb hr hlk rfl hP hD hS rfl dX8_isGood_55
  · have hf := if_n hf c1
    refine lv_ldc2 (v := 2) hx hb hown (hts (.constantLong RX8 11 (2)) (List.mem_of_getElem? (i := 1) rfl)) dX8_isGood_18 ?_
    refine lv_lload_n hx hb dX8_isGood_21 rfl (lv_at hl 1 rfl) ?_
    refine lv_lload_n hx hb dX8_isGood_22 rfl (lv_at hl 1 rfl) ?_
    refine lv_lmul hx hb dX8_isGood_23 ?_
    refine lv_lload_n hx hb dX8_isGood_24 rfl (lv_at hl 2 rfl) ?_
    refine lv_lload_n hx hb dX8_isGood_25 rfl (lv_at hl 2 rfl) ?_
    refine lv_lmul hx hb dX8_isGood_26 ?_
    refine lv_ladd hx hb dX8_isGood_27 ?_
    refine lv_lload hx hb dX8_isGood_28 (lv_at hl 3 rfl) ?_
    refine lv_lload hx hb dX8_isGood_30 (lv_at hl 3 rfl) ?_
    refine lv_lmul hx hb dX8_isGood_32 ?_
    refine lv_ladd hx hb dX8_isGood_33 ?_
    refine lv_lload hx hb dX8_isGood_34 (lv_at hl 4 rfl) ?_
    refine lv_lload hx hb dX8_isGood_36 (lv_at hl 4 rfl) ?_
    refine lv_lmul hx hb dX8_isGood_38 ?_
    refine lv_ladd hx hb dX8_isGood_39 ?_
    refine lv_lmul hx hb dX8_isGood_40 ?_
    refine lv_lload hx hb dX8_isGood_41 (lv_at hl 0 rfl) ?_
    refine lv_lload hx hb dX8_isGood_43 (lv_at hl 0 rfl) ?_
    refine lv_lmul hx hb dX8_isGood_45 ?_
    refine lc_ne (tgt := 54) hx hb dX8_isGood_46 dX8_isGood_47 (by decide) (fun c2 => ?_) (fun c2 => ?_)
    · have hf := if_n hf c2
      refine lv_iconst (v := 0) hx hb dX8_isGood_54 (by decide) ?_
      cases hf
      rw [← hQ]
      exact rt_z hx hb hr hlk rfl hP hD hS rfl dX8_isGood_55
    · have hf := if_s hf c2
      refine lv_iconst (v := 1) hx hb dX8_isGood_50 (by decide) ?_
      refine lv_goto (tgt := 55) hx hb dX8_isGood_51 (by decide) ?_
      cases hf
      rw [← hQ]
      exact rt_z hx hb hr hlk rfl hP hD hS rfl dX8_isGood_55
def pX8_turnedOver (v_a0 : (Nat → Int64)) (p1 : Int32) : Option (Int64) := ck (ix p1 4) (some (((2 : Int64) * (((((v_a0 (0 : Int32).toNatClampNeg) + (v_a0 (1 : Int32).toNatClampNeg)) + (v_a0 (2 : Int32).toNatClampNeg)) + (v_a0 (3 : Int32).toNatClampNeg)) - (v_a0 p1.toNatClampNeg))) - (v_a0 p1.toNatClampNeg)))
def rmX8_turnedOver : Room := { frames := 0, cells := 0, slots := 0, locals := 0 }
set_option maxRecDepth 100000 in
set_option maxHeartbeats 4000000 in
theorem kX8_turnedOver {l : Launch} {G : va_G} {cI cJ cZ cS cG : ClassId} (q_a0 : Nat) (v_a0 : (Nat → Int64)) (p1 : Int32) (R : Int64) (hf : pX8_turnedOver v_a0 p1 = some R) : CTl l yX8_turnedOver wsX8_turnedOver rmX8_turnedOver G cI cJ cZ cS cG [.ref q_a0, .int p1] [(q_a0, .inl (cJ, 4, .inr (.inl v_a0)))] [(q_a0, .inl (cJ, 4, .inr (.inl v_a0)))] R := by
  refine Met.ofE (Qc := fun A => QRl G A [(q_a0, .inl (cJ, 4, .inr (.inl v_a0)))] R) (cc := cX8_turnedOver) (nL := 4) (ret := some .long) (plainFor_of_name (by decide +kernel)) rfl (Nat.le_of_ble_eq_true rfl) ?_
  intro p e s m below meth c A ls hx hb hml hr hlk hts hown hK hA hP hD hS hl
  have hown : s.vm.findClass RX8 = some m.cls := hown
  have hl : lv_has ls 4 [(0, .ref q_a0), (1, .int p1)] := hl
  generalize hQ : MQ below (QRl G A [(q_a0, .inl (cJ, 4, .inr (.inl v_a0)))] R) ([.ref q_a0, .int p1] : List Value).toArray s 0 0 A = QQ
  unfold pX8_turnedOver at hf
  refine lv_aload_n hx hb dX8_turnedOver_0 rfl (lv_at hl 0 rfl) ?_
  refine lv_iconst (v := 0) hx hb dX8_turnedOver_1 (by decide) ?_
  refine va_lald hx hb hK.1 hP 0 1 rfl rfl (vp_in_iff.mpr (by decide)) dX8_turnedOver_2 ?_
  refine lv_aload_n hx hb dX8_turnedOver_3 rfl (lv_at hl 0 rfl) ?_
  refine lv_iconst (v := 1) hx hb dX8_turnedOver_4 (by decide) ?_
  refine va_lald hx hb hK.1 hP 0 1 rfl rfl (vp_in_iff.mpr (by decide)) dX8_turnedOver_5 ?_
  refine lv_ladd hx hb dX8_turnedOver_6 ?_
  refine lv_aload_n hx hb dX8_turnedOver_7 rfl (lv_at hl 0 rfl) ?_
  refine lv_iconst (v := 2) hx hb dX8_turnedOver_8 (by decide) ?_
  refine va_lald hx hb hK.1 hP 0 1 rfl rfl (vp_in_iff.mpr (by decide)) dX8_turnedOver_9 ?_
  refine lv_ladd hx hb dX8_turnedOver_10 ?_
  refine lv_aload_n hx hb dX8_turnedOver_11 rfl (lv_at hl 0 rfl) ?_
  refine lv_iconst (v := 3) hx hb dX8_turnedOver_12 (by decide) ?_
  refine va_lald hx hb hK.1 hP 0 1 rfl rfl (vp_in_iff.mpr (by decide)) dX8_turnedOver_13 ?_
  refine lv_ladd hx hb dX8_turnedOver_14 ?_
  refine lv_lstore_n (lv' := [(2, .long ((((v_a0 (0 : Int32).toNatClampNeg) + (v_a0 (1 : Int32).toNatClampNeg)) + (v_a0 (2 : Int32).toNatClampNeg)) + (v_a0 (3 : Int32).toNatClampNeg))), (0, .ref q_a0), (1, .int p1)]) hx hb dX8_turnedOver_15 rfl hl (by decide) rfl (fun ls hl => ?_)
  refine lv_ldc2 (v := 2) hx hb hown (hts (.constantLong RX8 11 (2)) (List.mem_of_getElem? (i := 1) rfl)) dX8_turnedOver_16 ?_
  refine lv_lload_n hx hb dX8_turnedOver_19 rfl (lv_at hl 0 rfl) ?_
  refine lv_aload_n hx hb dX8_turnedOver_20 rfl (lv_at hl 1 rfl) ?_
  refine lv_iload_n hx hb dX8_turnedOver_21 rfl (lv_at hl 2 rfl) ?_
  obtain ⟨z1, hf⟩ := ck_s hf
  refine va_lald hx hb hK.1 hP 0 1 rfl rfl (vp_in_iff.mpr z1) dX8_turnedOver_22 ?_
  refine lv_lsub hx hb dX8_turnedOver_23 ?_
  refine lv_lmul hx hb dX8_turnedOver_24 ?_
  refine lv_aload_n hx hb dX8_turnedOver_25 rfl (lv_at hl 1 rfl) ?_
  refine lv_iload_n hx hb dX8_turnedOver_26 rfl (lv_at hl 2 rfl) ?_
  refine va_lald hx hb hK.1 hP 0 1 rfl rfl (vp_in_iff.mpr z1) dX8_turnedOver_27 ?_
  refine lv_lsub hx hb dX8_turnedOver_28 ?_
  cases hf
  rw [← hQ]
  exact rt_l hx hb hr hlk hP hD hS rfl dX8_turnedOver_29
def pX8_copyFour_L2 (v_a0 : (Nat → Int64)) : Nat → Int32 → (Nat → Int64) → (Int32 → (Nat → Int64) → Option ((Nat → Int64))) → Option ((Nat → Int64))
  | 0, _, _, _ => none
  | n + 1, x2, v_a1, k => if (4 : Int32) ≤ x2 then k x2 v_a1 else ck (ix x2 4) (pX8_copyFour_L2 v_a0 n (x2 + (1 : Int32)) (vp_updL v_a1 x2.toNatClampNeg (v_a0 x2.toNatClampNeg)) k)
def pX8_copyFour (n : Nat) (v_a0 : (Nat → Int64)) (v_a1 : (Nat → Int64)) : Option ((Nat → Int64)) := pX8_copyFour_L2 v_a0 n (0 : Int32) v_a1 (fun (y2_3 : Int32) (u3_a1 : (Nat → Int64)) => some u3_a1)
def rmX8_copyFour : Room := { frames := 0, cells := 0, slots := 0, locals := 0 }
set_option maxRecDepth 100000 in
set_option maxHeartbeats 4000000 in
theorem kX8_copyFour {l : Launch} {G : va_G} {cI cJ cZ cS cG : ClassId} (n : Nat) (q_a0 q_a1 : Nat) (v_a0 : (Nat → Int64)) (v_a1 : (Nat → Int64)) (R : (Nat → Int64)) (hf : pX8_copyFour n v_a0 v_a1 = some R) : CTv l yX8_copyFour wsX8_copyFour rmX8_copyFour G cI cJ cZ cS cG [.ref q_a0, .ref q_a1] [(q_a0, .inl (cJ, 4, .inr (.inl v_a0))), (q_a1, .inl (cJ, 4, .inr (.inl v_a1)))] [(q_a0, .inl (cJ, 4, .inr (.inl v_a0))), (q_a1, .inl (cJ, 4, .inr (.inl R)))] := by
  refine Met.ofE (Qc := fun A => QRv G A [(q_a0, .inl (cJ, 4, .inr (.inl v_a0))), (q_a1, .inl (cJ, 4, .inr (.inl R)))]) (cc := cX8_copyFour) (nL := 3) (ret := none) (plainFor_of_name (by decide +kernel)) rfl (Nat.le_of_ble_eq_true rfl) ?_
  intro p e s m below meth c A ls hx hb hml hr hlk hts hown hK hA hP hD hS hl
  have hown : s.vm.findClass RX8 = some m.cls := hown
  have hl : lv_has ls 3 [(0, .ref q_a0), (1, .ref q_a1)] := hl
  generalize hQ : MQ below (QRv G A [(q_a0, .inl (cJ, 4, .inr (.inl v_a0))), (q_a1, .inl (cJ, 4, .inr (.inl R)))]) ([.ref q_a0, .ref q_a1] : List Value).toArray s 0 0 A = QQ
  unfold pX8_copyFour at hf
  have hL2 : ∀ (k : Int32 → (Nat → Int64) → Option ((Nat → Int64))), (∀ (x2 : Int32) (v_a1 : (Nat → Int64)) (H : Heap) (locs : List Loc) (ls : Array Slot), k x2 v_a1 = some R → va_P G vwCl [(q_a0, .inl (cJ, 4, .inr (.inl v_a0))), (q_a1, .inl (cJ, 4, .inr (.inl v_a1)))] H → va_D A [(q_a0, .inl (cJ, 4, .inr (.inl v_a0))), (q_a1, .inl (cJ, 4, .inr (.inl v_a1)))] → va_S A s.heap H locs → lv_has ls 3 [(0, .ref q_a0), (1, .ref q_a1), (2, .int x2)] → W p l e rmX8_copyFour s m ([.ref q_a0, .ref q_a1] : List Value).toArray below meth c H locs 0 0 QQ (F0 m 19 ls [])) → ∀ (n : Nat) (x2 : Int32) (v_a1 : (Nat → Int64)) (H : Heap) (locs : List Loc) (ls : Array Slot), pX8_copyFour_L2 v_a0 n x2 v_a1 k = some R → va_P G vwCl [(q_a0, .inl (cJ, 4, .inr (.inl v_a0))), (q_a1, .inl (cJ, 4, .inr (.inl v_a1)))] H → va_D A [(q_a0, .inl (cJ, 4, .inr (.inl v_a0))), (q_a1, .inl (cJ, 4, .inr (.inl v_a1)))] → va_S A s.heap H locs → lv_has ls 3 [(0, .ref q_a0), (1, .ref q_a1), (2, .int x2)] → W p l e rmX8_copyFour s m ([.ref q_a0, .ref q_a1] : List Value).toArray below meth c H locs 0 0 QQ (F0 m 2 ls []) := by
    intro  k hk n
    induction n with
    | zero =>
      intro x2 v_a1 H locs ls hf
      cases hf
    | succ n ih =>
      intro x2 v_a1 H locs ls hf hP hD hS hl
      unfold pX8_copyFour_L2 at hf
      refine lv_iload_n hx hb dX8_copyFour_2 rfl (lv_at hl 2 rfl) ?_
      refine lv_iconst (v := 4) hx hb dX8_copyFour_3 (by decide) ?_
      refine lv_icmp_ge (tgt := 19) hx hb dX8_copyFour_4 (by decide) (fun c1 => ?_) (fun c1 => ?_)
      · have hf := if_s hf c1
        exact hk x2 v_a1 _ _ _ hf hP hD hS (lv_sub hl [0, 1, 2] rfl)
      · have hf := if_n hf c1
        refine lv_aload_n hx hb dX8_copyFour_7 rfl (lv_at hl 1 rfl) ?_
        refine lv_iload_n hx hb dX8_copyFour_8 rfl (lv_at hl 2 rfl) ?_
        refine lv_aload_n hx hb dX8_copyFour_9 rfl (lv_at hl 0 rfl) ?_
        refine lv_iload_n hx hb dX8_copyFour_10 rfl (lv_at hl 2 rfl) ?_
        obtain ⟨z2, hf⟩ := ck_s hf
        refine va_lald hx hb hK.1 hP 0 1 rfl rfl (vp_in_iff.mpr z2) dX8_copyFour_11 ?_
        refine va_last hx hb hK.1 hP hD hS 1 1 rfl rfl (vp_in_iff.mpr z2) dX8_copyFour_12 (fun H locs hP hD hS => ?_)
        have hP : va_P G vwCl [(q_a0, .inl (cJ, 4, .inr (.inl v_a0))), (q_a1, .inl (cJ, 4, .inr (.inl (vp_updL v_a1 x2.toNatClampNeg (v_a0 x2.toNatClampNeg)))))] H := hP
        have hD : va_D A [(q_a0, .inl (cJ, 4, .inr (.inl v_a0))), (q_a1, .inl (cJ, 4, .inr (.inl (vp_updL v_a1 x2.toNatClampNeg (v_a0 x2.toNatClampNeg)))))] := hD
        refine lv_iinc (v := x2 + (1 : Int32)) (lv' := [(2, .int (x2 + (1 : Int32))), (0, .ref q_a0), (1, .ref q_a1)]) hx hb dX8_copyFour_13 hl (k := 2) rfl rfl (by decide) rfl (fun ls hl => ?_)
        refine lv_goto (tgt := 2) hx hb dX8_copyFour_16 (by decide) ?_
        exact ih (x2 + (1 : Int32)) (vp_updL v_a1 x2.toNatClampNeg (v_a0 x2.toNatClampNeg)) _ _ _ hf hP hD hS (lv_sub hl [1, 2, 0] rfl)
  refine lv_iconst (v := 0) hx hb dX8_copyFour_0 (by decide) ?_
  refine lv_istore_n (lv' := [(2, .int (0 : Int32)), (0, .ref q_a0), (1, .ref q_a1)]) hx hb dX8_copyFour_1 rfl hl (by decide) rfl (fun ls hl => ?_)
  refine hL2  _ (fun y2_3 u3_a1 H locs ls hf hP hD hS hl => ?_) n (0 : Int32) v_a1 _ _ _ hf hP hD hS (lv_sub hl [1, 2, 0] rfl)
  have hP : va_P G vwCl [(q_a0, .inl (cJ, 4, .inr (.inl v_a0))), (q_a1, .inl (cJ, 4, .inr (.inl u3_a1)))] H := hP
  have hD : va_D A [(q_a0, .inl (cJ, 4, .inr (.inl v_a0))), (q_a1, .inl (cJ, 4, .inr (.inl u3_a1)))] := hD
  cases hf
  rw [← hQ]
  exact rt_v hx hb hr hlk hP hD hS dX8_copyFour_19
def pX8_order_L8 (x1 : Int32) : Nat → Int32 → (Nat → Int64) → (Int32 → (Nat → Int64) → Option ((Nat → Int64))) → Option ((Nat → Int64))
  | 0, _, _, _ => none
  | n + 1, x2, v_a0, k => if x1 ≤ x2 then k x2 v_a0 else ck (ix x2 4) (ck (ix (x2 + (1 : Int32)) 4) (if (v_a0 x2.toNatClampNeg) ≤ (v_a0 (x2 + (1 : Int32)).toNatClampNeg) then pX8_order_L8 x1 n (x2 + (1 : Int32)) v_a0 k else pX8_order_L8 x1 n (x2 + (1 : Int32)) (vp_updL (vp_updL v_a0 x2.toNatClampNeg (v_a0 (x2 + (1 : Int32)).toNatClampNeg)) (x2 + (1 : Int32)).toNatClampNeg (v_a0 x2.toNatClampNeg)) k))
def pX8_order_L2 : Nat → Int32 → (Nat → Int64) → (Int32 → (Nat → Int64) → Option ((Nat → Int64))) → Option ((Nat → Int64))
  | 0, _, _, _ => none
  | n + 1, x1, v_a0, k => if x1 ≤ 0 then k x1 v_a0 else pX8_order_L8 x1 n (0 : Int32) v_a0 (fun (y2_6 : Int32) (u6_a0 : (Nat → Int64)) => pX8_order_L2 n (x1 + (-1 : Int32)) u6_a0 k)
def pX8_order (n : Nat) (v_a0 : (Nat → Int64)) : Option ((Nat → Int64)) := pX8_order_L2 n (3 : Int32) v_a0 (fun (y1_7 : Int32) (u7_a0 : (Nat → Int64)) => some u7_a0)
def rmX8_order : Room := { frames := 0, cells := 0, slots := 0, locals := 0 }
set_option maxRecDepth 100000 in
set_option maxHeartbeats 4000000 in
theorem kX8_order {l : Launch} {G : va_G} {cI cJ cZ cS cG : ClassId} (n : Nat) (q_a0 : Nat) (v_a0 : (Nat → Int64)) (R : (Nat → Int64)) (hf : pX8_order n v_a0 = some R) : CTv l yX8_order wsX8_order rmX8_order G cI cJ cZ cS cG [.ref q_a0] [(q_a0, .inl (cJ, 4, .inr (.inl v_a0)))] [(q_a0, .inl (cJ, 4, .inr (.inl R)))] := by
  refine Met.ofE (Qc := fun A => QRv G A [(q_a0, .inl (cJ, 4, .inr (.inl R)))]) (cc := cX8_order) (nL := 5) (ret := none) (plainFor_of_name (by decide +kernel)) rfl (Nat.le_of_ble_eq_true rfl) ?_
  intro p e s m below meth c A ls hx hb hml hr hlk hts hown hK hA hP hD hS hl
  have hown : s.vm.findClass RX8 = some m.cls := hown
  have hl : lv_has ls 5 [(0, .ref q_a0)] := hl
  generalize hQ : MQ below (QRv G A [(q_a0, .inl (cJ, 4, .inr (.inl R)))]) ([.ref q_a0] : List Value).toArray s 0 0 A = QQ
  unfold pX8_order at hf
  have hL8 : ∀ (x1 : Int32) (k : Int32 → (Nat → Int64) → Option ((Nat → Int64))), (∀ (x2 : Int32) (v_a0 : (Nat → Int64)) (H : Heap) (locs : List Loc) (ls : Array Slot), k x2 v_a0 = some R → va_P G vwCl [(q_a0, .inl (cJ, 4, .inr (.inl v_a0)))] H → va_D A [(q_a0, .inl (cJ, 4, .inr (.inl v_a0)))] → va_S A s.heap H locs → lv_has ls 5 [(0, .ref q_a0), (1, .int x1), (2, .int x2)] → W p l e rmX8_order s m ([.ref q_a0] : List Value).toArray below meth c H locs 0 0 QQ (F0 m 49 ls [])) → ∀ (n : Nat) (x2 : Int32) (v_a0 : (Nat → Int64)) (H : Heap) (locs : List Loc) (ls : Array Slot), pX8_order_L8 x1 n x2 v_a0 k = some R → va_P G vwCl [(q_a0, .inl (cJ, 4, .inr (.inl v_a0)))] H → va_D A [(q_a0, .inl (cJ, 4, .inr (.inl v_a0)))] → va_S A s.heap H locs → lv_has ls 5 [(0, .ref q_a0), (1, .int x1), (2, .int x2)] → W p l e rmX8_order s m ([.ref q_a0] : List Value).toArray below meth c H locs 0 0 QQ (F0 m 8 ls []) := by
    intro x1 k hk n
    induction n with
    | zero =>
      intro x2 v_a0 H locs ls hf
      cases hf
    | succ n ih =>
      intro x2 v_a0 H locs ls hf hP hD hS hl
      unfold pX8_order_L8 at hf
      refine lv_iload_n hx hb dX8_order_8 rfl (lv_at hl 2 rfl) ?_
      refine lv_iload_n hx hb dX8_order_9 rfl (lv_at hl 1 rfl) ?_
      refine lv_icmp_ge (tgt := 49) hx hb dX8_order_10 (by decide) (fun c2 => ?_) (fun c2 => ?_)
      · have hf := if_s hf c2
        exact hk x2 v_a0 _ _ _ hf hP hD hS (lv_sub hl [0, 1, 2] rfl)
      · have hf := if_n hf c2
        refine lv_aload_n hx hb dX8_order_13 rfl (lv_at hl 0 rfl) ?_
        refine lv_iload_n hx hb dX8_order_14 rfl (lv_at hl 2 rfl) ?_
        obtain ⟨z3, hf⟩ := ck_s hf
        refine va_lald hx hb hK.1 hP 0 1 rfl rfl (vp_in_iff.mpr z3) dX8_order_15 ?_
        refine lv_aload_n hx hb dX8_order_16 rfl (lv_at hl 0 rfl) ?_
        refine lv_iload_n hx hb dX8_order_17 rfl (lv_at hl 2 rfl) ?_
        refine lv_iconst (v := 1) hx hb dX8_order_18 (by decide) ?_
        refine lv_iadd hx hb dX8_order_19 ?_
        obtain ⟨z4, hf⟩ := ck_s hf
        refine va_lald hx hb hK.1 hP 0 1 rfl rfl (vp_in_iff.mpr z4) dX8_order_20 ?_
        refine lc_le (tgt := 43) hx hb dX8_order_21 dX8_order_22 (by decide) (fun c5 => ?_) (fun c5 => ?_)
        · have hf := if_s hf c5
          refine lv_iinc (v := x2 + (1 : Int32)) (lv' := [(2, .int (x2 + (1 : Int32))), (0, .ref q_a0), (1, .int x1)]) hx hb dX8_order_43 hl (k := 2) rfl rfl (by decide) rfl (fun ls hl => ?_)
          refine lv_goto (tgt := 8) hx hb dX8_order_46 (by decide) ?_
          exact ih (x2 + (1 : Int32)) v_a0 _ _ _ hf hP hD hS (lv_sub hl [1, 2, 0] rfl)
        · have hf := if_n hf c5
          refine lv_aload_n hx hb dX8_order_25 rfl (lv_at hl 0 rfl) ?_
          refine lv_iload_n hx hb dX8_order_26 rfl (lv_at hl 2 rfl) ?_
          refine va_lald hx hb hK.1 hP 0 1 rfl rfl (vp_in_iff.mpr z3) dX8_order_27 ?_
          refine lv_lstore_n (lv' := [(3, .long (v_a0 x2.toNatClampNeg)), (0, .ref q_a0), (1, .int x1), (2, .int x2)]) hx hb dX8_order_28 rfl hl (by decide) rfl (fun ls hl => ?_)
          refine lv_aload_n hx hb dX8_order_29 rfl (lv_at hl 1 rfl) ?_
          refine lv_iload_n hx hb dX8_order_30 rfl (lv_at hl 3 rfl) ?_
          refine lv_aload_n hx hb dX8_order_31 rfl (lv_at hl 1 rfl) ?_
          refine lv_iload_n hx hb dX8_order_32 rfl (lv_at hl 3 rfl) ?_
          refine lv_iconst (v := 1) hx hb dX8_order_33 (by decide) ?_
          refine lv_iadd hx hb dX8_order_34 ?_
          refine va_lald hx hb hK.1 hP 0 1 rfl rfl (vp_in_iff.mpr z4) dX8_order_35 ?_
          refine va_last hx hb hK.1 hP hD hS 0 1 rfl rfl (vp_in_iff.mpr z3) dX8_order_36 (fun H locs hP hD hS => ?_)
          have hP : va_P G vwCl [(q_a0, .inl (cJ, 4, .inr (.inl (vp_updL v_a0 x2.toNatClampNeg (v_a0 (x2 + (1 : Int32)).toNatClampNeg)))))] H := hP
          have hD : va_D A [(q_a0, .inl (cJ, 4, .inr (.inl (vp_updL v_a0 x2.toNatClampNeg (v_a0 (x2 + (1 : Int32)).toNatClampNeg)))))] := hD
          refine lv_aload_n hx hb dX8_order_37 rfl (lv_at hl 1 rfl) ?_
          refine lv_iload_n hx hb dX8_order_38 rfl (lv_at hl 3 rfl) ?_
          refine lv_iconst (v := 1) hx hb dX8_order_39 (by decide) ?_
          refine lv_iadd hx hb dX8_order_40 ?_
          refine lv_lload_n hx hb dX8_order_41 rfl (lv_at hl 0 rfl) ?_
          refine va_last hx hb hK.1 hP hD hS 0 1 rfl rfl (vp_in_iff.mpr z4) dX8_order_42 (fun H locs hP hD hS => ?_)
          have hP : va_P G vwCl [(q_a0, .inl (cJ, 4, .inr (.inl (vp_updL (vp_updL v_a0 x2.toNatClampNeg (v_a0 (x2 + (1 : Int32)).toNatClampNeg)) (x2 + (1 : Int32)).toNatClampNeg (v_a0 x2.toNatClampNeg)))))] H := hP
          have hD : va_D A [(q_a0, .inl (cJ, 4, .inr (.inl (vp_updL (vp_updL v_a0 x2.toNatClampNeg (v_a0 (x2 + (1 : Int32)).toNatClampNeg)) (x2 + (1 : Int32)).toNatClampNeg (v_a0 x2.toNatClampNeg)))))] := hD
          refine lv_iinc (v := x2 + (1 : Int32)) (lv' := [(2, .int (x2 + (1 : Int32))), (3, .long (v_a0 x2.toNatClampNeg)), (0, .ref q_a0), (1, .int x1)]) hx hb dX8_order_43 hl (k := 3) rfl rfl (by decide) rfl (fun ls hl => ?_)
          refine lv_goto (tgt := 8) hx hb dX8_order_46 (by decide) ?_
          exact ih (x2 + (1 : Int32)) (vp_updL (vp_updL v_a0 x2.toNatClampNeg (v_a0 (x2 + (1 : Int32)).toNatClampNeg)) (x2 + (1 : Int32)).toNatClampNeg (v_a0 x2.toNatClampNeg)) _ _ _ hf hP hD hS (lv_sub hl [2, 3, 0] rfl)
  have hL2 : ∀ (k : Int32 → (Nat → Int64) → Option ((Nat → Int64))), (∀ (x1 : Int32) (v_a0 : (Nat → Int64)) (H : Heap) (locs : List Loc) (ls : Array Slot), k x1 v_a0 = some R → va_P G vwCl [(q_a0, .inl (cJ, 4, .inr (.inl v_a0)))] H → va_D A [(q_a0, .inl (cJ, 4, .inr (.inl v_a0)))] → va_S A s.heap H locs → lv_has ls 5 [(0, .ref q_a0), (1, .int x1)] → W p l e rmX8_order s m ([.ref q_a0] : List Value).toArray below meth c H locs 0 0 QQ (F0 m 55 ls [])) → ∀ (n : Nat) (x1 : Int32) (v_a0 : (Nat → Int64)) (H : Heap) (locs : List Loc) (ls : Array Slot), pX8_order_L2 n x1 v_a0 k = some R → va_P G vwCl [(q_a0, .inl (cJ, 4, .inr (.inl v_a0)))] H → va_D A [(q_a0, .inl (cJ, 4, .inr (.inl v_a0)))] → va_S A s.heap H locs → lv_has ls 5 [(0, .ref q_a0), (1, .int x1)] → W p l e rmX8_order s m ([.ref q_a0] : List Value).toArray below meth c H locs 0 0 QQ (F0 m 2 ls []) := by
    intro  k hk n
    induction n with
    | zero =>
      intro x1 v_a0 H locs ls hf
      cases hf
    | succ n ih =>
      intro x1 v_a0 H locs ls hf hP hD hS hl
      unfold pX8_order_L2 at hf
      refine lv_iload_n hx hb dX8_order_2 rfl (lv_at hl 1 rfl) ?_
      refine lv_if_le (tgt := 55) hx hb dX8_order_3 (by decide) (fun c1 => ?_) (fun c1 => ?_)
      · have hf := if_s hf c1
        exact hk x1 v_a0 _ _ _ hf hP hD hS (lv_sub hl [0, 1] rfl)
      · have hf := if_n hf c1
        refine lv_iconst (v := 0) hx hb dX8_order_6 (by decide) ?_
        refine lv_istore_n (lv' := [(2, .int (0 : Int32)), (0, .ref q_a0), (1, .int x1)]) hx hb dX8_order_7 rfl hl (by decide) rfl (fun ls hl => ?_)
        refine hL8 x1 _ (fun y2_6 u6_a0 H locs ls hf hP hD hS hl => ?_) n (0 : Int32) v_a0 _ _ _ hf hP hD hS (lv_sub hl [1, 2, 0] rfl)
        have hP : va_P G vwCl [(q_a0, .inl (cJ, 4, .inr (.inl u6_a0)))] H := hP
        have hD : va_D A [(q_a0, .inl (cJ, 4, .inr (.inl u6_a0)))] := hD
        refine lv_iinc (v := x1 + (-1 : Int32)) (lv' := [(1, .int (x1 + (-1 : Int32))), (0, .ref q_a0), (2, .int y2_6)]) hx hb dX8_order_49 hl (k := 1) rfl rfl (by decide) rfl (fun ls hl => ?_)
        refine lv_goto (tgt := 2) hx hb dX8_order_52 (by decide) ?_
        exact ih (x1 + (-1 : Int32)) u6_a0 _ _ _ hf hP hD hS (lv_sub hl [1, 0] rfl)
  refine lv_iconst (v := 3) hx hb dX8_order_0 (by decide) ?_
  refine lv_istore_n (lv' := [(1, .int (3 : Int32)), (0, .ref q_a0)]) hx hb dX8_order_1 rfl hl (by decide) rfl (fun ls hl => ?_)
  refine hL2  _ (fun y1_7 u7_a0 H locs ls hf hP hD hS hl => ?_) n (3 : Int32) v_a0 _ _ _ hf hP hD hS (lv_sub hl [1, 0] rfl)
  have hP : va_P G vwCl [(q_a0, .inl (cJ, 4, .inr (.inl u7_a0)))] H := hP
  have hD : va_D A [(q_a0, .inl (cJ, 4, .inr (.inl u7_a0)))] := hD
  cases hf
  rw [← hQ]
  exact rt_v hx hb hr hlk hP hD hS dX8_order_55
def pX8_greatestDivisor_L9 : Nat → Int64 → Int64 → Int32 → (Int64 → Int64 → Int32 → Option (Int64)) → Option (Int64)
  | 0, _, _, _, _ => none
  | n + 1, x4, x6, x8, k => if (1000000 : Int32) ≤ x8 then k x4 x6 x8 else if x6 = (0 : Int64) then k x4 x6 x8 else ck (¬ x6 = 0) (pX8_greatestDivisor_L9 n x6 (x4 - x4 / x6 * x6) (x8 + (1 : Int32)) k)
def pX8_greatestDivisor (n : Nat) (p0 : Int64) (p2 : Int64) : Option (Int64) := pX8_greatestDivisor_L9 n p0 p2 (0 : Int32) (fun (y4_4 : Int64) (y6_4 : Int64) (y8_4 : Int32) => some y4_4)
def rmX8_greatestDivisor : Room := { frames := 0, cells := 0, slots := 0, locals := 0 }
set_option maxRecDepth 100000 in
set_option maxHeartbeats 4000000 in
theorem kX8_greatestDivisor {l : Launch} {G : va_G} {cI cJ cZ cS cG : ClassId} (n : Nat) (p0 : Int64) (p2 : Int64) (R : Int64) (hf : pX8_greatestDivisor n p0 p2 = some R) : CTl l yX8_greatestDivisor wsX8_greatestDivisor rmX8_greatestDivisor G cI cJ cZ cS cG [.long p0, .long p2] [] [] R := by
  refine Met.ofE (Qc := fun A => QRl G A [] R) (cc := cX8_greatestDivisor) (nL := 11) (ret := some .long) (plainFor_of_name (by decide +kernel)) rfl (Nat.le_of_ble_eq_true rfl) ?_
  intro p e s m below meth c A ls hx hb hml hr hlk hts hown hK hA hP hD hS hl
  have hown : s.vm.findClass RX8 = some m.cls := hown
  have hl : lv_has ls 11 [(0, .long p0), (2, .long p2)] := hl
  generalize hQ : MQ below (QRl G A [] R) ([.long p0, .long p2] : List Value).toArray s 0 0 A = QQ
  unfold pX8_greatestDivisor at hf
  have hL9 : ∀ (x0 : Int64) (x2 : Int64) (k : Int64 → Int64 → Int32 → Option (Int64)), (∀ (x4 : Int64) (x6 : Int64) (x8 : Int32) (H : Heap) (locs : List Loc) (ls : Array Slot), k x4 x6 x8 = some R → va_P G vwCl [] H → va_D A [] → va_S A s.heap H locs → lv_has ls 11 [(0, .long x0), (2, .long x2), (4, .long x4), (6, .long x6), (8, .int x8)] → W p l e rmX8_greatestDivisor s m ([.long p0, .long p2] : List Value).toArray below meth c H locs 0 0 QQ (F0 m 44 ls [])) → ∀ (n : Nat) (x4 : Int64) (x6 : Int64) (x8 : Int32) (H : Heap) (locs : List Loc) (ls : Array Slot), pX8_greatestDivisor_L9 n x4 x6 x8 k = some R → va_P G vwCl [] H → va_D A [] → va_S A s.heap H locs → lv_has ls 11 [(0, .long x0), (2, .long x2), (4, .long x4), (6, .long x6), (8, .int x8)] → W p l e rmX8_greatestDivisor s m ([.long p0, .long p2] : List Value).toArray below meth c H locs 0 0 QQ (F0 m 9 ls []) := by
    intro x0 x2 k hk n
    induction n with
    | zero =>
      intro x4 x6 x8 H locs ls hf
      cases hf
    | succ n ih =>
      intro x4 x6 x8 H locs ls hf hP hD hS hl
      unfold pX8_greatestDivisor_L9 at hf
      refine lv_iload hx hb dX8_greatestDivisor_9 (lv_at hl 4 rfl) ?_
      refine lv_ldc (v := 1000000) hx hb hown (hts (.constant RX8 179 (1000000)) (List.mem_of_getElem? (i := 1) rfl)) dX8_greatestDivisor_11 ?_
      refine lv_icmp_ge (tgt := 44) hx hb dX8_greatestDivisor_13 (by decide) (fun c1 => ?_) (fun c1 => ?_)
      · have hf := if_s hf c1
        exact hk x4 x6 x8 _ _ _ hf hP hD hS (lv_sub hl [0, 1, 2, 3, 4] rfl)
      · have hf := if_n hf c1
        refine lv_lload hx hb dX8_greatestDivisor_16 (lv_at hl 3 rfl) ?_
        refine lv_lconst (v := 0) hx hb dX8_greatestDivisor_18 (by decide) ?_
        refine lc_eq (tgt := 44) hx hb dX8_greatestDivisor_19 dX8_greatestDivisor_20 (by decide) (fun c2 => ?_) (fun c2 => ?_)
        · have hf := if_s hf c2
          exact hk x4 x6 x8 _ _ _ hf hP hD hS (lv_sub hl [0, 1, 2, 3, 4] rfl)
        · have hf := if_n hf c2
          refine lv_lload hx hb dX8_greatestDivisor_23 (lv_at hl 2 rfl) ?_
          refine lv_lload hx hb dX8_greatestDivisor_25 (lv_at hl 3 rfl) ?_
          obtain ⟨z3, hf⟩ := ck_s hf
          refine lv_lrem hx hb dX8_greatestDivisor_27 z3 ?_
          refine lv_lstore (lv' := [(9, .long (x4 - x4 / x6 * x6)), (0, .long x0), (2, .long x2), (4, .long x4), (6, .long x6), (8, .int x8)]) hx hb dX8_greatestDivisor_28 hl (by decide) rfl (fun ls hl => ?_)
          refine lv_lload hx hb dX8_greatestDivisor_30 (lv_at hl 4 rfl) ?_
          refine lv_lstore (lv' := [(4, .long x6), (9, .long (x4 - x4 / x6 * x6)), (0, .long x0), (2, .long x2), (6, .long x6), (8, .int x8)]) hx hb dX8_greatestDivisor_32 hl (by decide) rfl (fun ls hl => ?_)
          refine lv_lload hx hb dX8_greatestDivisor_34 (lv_at hl 1 rfl) ?_
          refine lv_lstore (lv' := [(6, .long (x4 - x4 / x6 * x6)), (4, .long x6), (9, .long (x4 - x4 / x6 * x6)), (0, .long x0), (2, .long x2), (8, .int x8)]) hx hb dX8_greatestDivisor_36 hl (by decide) rfl (fun ls hl => ?_)
          refine lv_iinc (v := x8 + (1 : Int32)) (lv' := [(8, .int (x8 + (1 : Int32))), (6, .long (x4 - x4 / x6 * x6)), (4, .long x6), (9, .long (x4 - x4 / x6 * x6)), (0, .long x0), (2, .long x2)]) hx hb dX8_greatestDivisor_38 hl (k := 5) rfl rfl (by decide) rfl (fun ls hl => ?_)
          refine lv_goto (tgt := 9) hx hb dX8_greatestDivisor_41 (by decide) ?_
          exact ih x6 (x4 - x4 / x6 * x6) (x8 + (1 : Int32)) _ _ _ hf hP hD hS (lv_sub hl [4, 5, 2, 1, 0] rfl)
  refine lv_lload_n hx hb dX8_greatestDivisor_0 rfl (lv_at hl 0 rfl) ?_
  refine lv_lstore (lv' := [(4, .long p0), (0, .long p0), (2, .long p2)]) hx hb dX8_greatestDivisor_1 hl (by decide) rfl (fun ls hl => ?_)
  refine lv_lload_n hx hb dX8_greatestDivisor_3 rfl (lv_at hl 2 rfl) ?_
  refine lv_lstore (lv' := [(6, .long p2), (4, .long p0), (0, .long p0), (2, .long p2)]) hx hb dX8_greatestDivisor_4 hl (by decide) rfl (fun ls hl => ?_)
  refine lv_iconst (v := 0) hx hb dX8_greatestDivisor_6 (by decide) ?_
  refine lv_istore (lv' := [(8, .int (0 : Int32)), (6, .long p2), (4, .long p0), (0, .long p0), (2, .long p2)]) hx hb dX8_greatestDivisor_7 hl (by decide) rfl (fun ls hl => ?_)
  refine hL9 p0 p2 _ (fun y4_4 y6_4 y8_4 H locs ls hf hP hD hS hl => ?_) n p0 p2 (0 : Int32) _ _ _ hf hP hD hS (lv_sub hl [3, 4, 2, 1, 0] rfl)
  have hP : va_P G vwCl [] H := hP
  have hD : va_D A [] := hD
  refine lv_lload hx hb dX8_greatestDivisor_44 (lv_at hl 2 rfl) ?_
  cases hf
  rw [← hQ]
  exact rt_l hx hb hr hlk hP hD hS rfl dX8_greatestDivisor_46
def pX8_productOf_L11 (v_a0 : (Nat → Int64)) (v_a1 : (Nat → Int64)) : Nat → Int64 → Int64 → Int64 → Int32 → (Int64 → Int64 → Int64 → Int32 → Option (Int64)) → Option (Int64)
  | 0, _, _, _, _, _ => none
  | n + 1, x2, x4, x6, x8, k => if (4 : Int32) ≤ x8 then k x2 x4 x6 x8 else ck (ix x8 4) (pX8_productOf_L11 v_a0 v_a1 n (x2 + ((v_a0 x8.toNatClampNeg) * (v_a1 x8.toNatClampNeg))) (x4 + (v_a0 x8.toNatClampNeg)) (x6 + (v_a1 x8.toNatClampNeg)) (x8 + (1 : Int32)) k)
def pX8_productOf (n : Nat) (v_a0 : (Nat → Int64)) (v_a1 : (Nat → Int64)) : Option (Int64) := pX8_productOf_L11 v_a0 v_a1 n (0 : Int64) (0 : Int64) (0 : Int64) (0 : Int32) (fun (y2_3 : Int64) (y4_3 : Int64) (y6_3 : Int64) (y8_3 : Int32) => some (((2 : Int64) * y2_3) - (y4_3 * y6_3)))
def rmX8_productOf : Room := { frames := 0, cells := 0, slots := 0, locals := 0 }
set_option maxRecDepth 100000 in
set_option maxHeartbeats 4000000 in
theorem kX8_productOf {l : Launch} {G : va_G} {cI cJ cZ cS cG : ClassId} (n : Nat) (q_a0 q_a1 : Nat) (v_a0 : (Nat → Int64)) (v_a1 : (Nat → Int64)) (R : Int64) (hf : pX8_productOf n v_a0 v_a1 = some R) : CTl l yX8_productOf wsX8_productOf rmX8_productOf G cI cJ cZ cS cG [.ref q_a0, .ref q_a1] [(q_a0, .inl (cJ, 4, .inr (.inl v_a0))), (q_a1, .inl (cJ, 4, .inr (.inl v_a1)))] [(q_a0, .inl (cJ, 4, .inr (.inl v_a0))), (q_a1, .inl (cJ, 4, .inr (.inl v_a1)))] R := by
  refine Met.ofE (Qc := fun A => QRl G A [(q_a0, .inl (cJ, 4, .inr (.inl v_a0))), (q_a1, .inl (cJ, 4, .inr (.inl v_a1)))] R) (cc := cX8_productOf) (nL := 9) (ret := some .long) (plainFor_of_name (by decide +kernel)) rfl (Nat.le_of_ble_eq_true rfl) ?_
  intro p e s m below meth c A ls hx hb hml hr hlk hts hown hK hA hP hD hS hl
  have hown : s.vm.findClass RX8 = some m.cls := hown
  have hl : lv_has ls 9 [(0, .ref q_a0), (1, .ref q_a1)] := hl
  generalize hQ : MQ below (QRl G A [(q_a0, .inl (cJ, 4, .inr (.inl v_a0))), (q_a1, .inl (cJ, 4, .inr (.inl v_a1)))] R) ([.ref q_a0, .ref q_a1] : List Value).toArray s 0 0 A = QQ
  unfold pX8_productOf at hf
  have hL11 : ∀ (k : Int64 → Int64 → Int64 → Int32 → Option (Int64)), (∀ (x2 : Int64) (x4 : Int64) (x6 : Int64) (x8 : Int32) (H : Heap) (locs : List Loc) (ls : Array Slot), k x2 x4 x6 x8 = some R → va_P G vwCl [(q_a0, .inl (cJ, 4, .inr (.inl v_a0))), (q_a1, .inl (cJ, 4, .inr (.inl v_a1)))] H → va_D A [(q_a0, .inl (cJ, 4, .inr (.inl v_a0))), (q_a1, .inl (cJ, 4, .inr (.inl v_a1)))] → va_S A s.heap H locs → lv_has ls 9 [(0, .ref q_a0), (1, .ref q_a1), (2, .long x2), (4, .long x4), (6, .long x6), (8, .int x8)] → W p l e rmX8_productOf s m ([.ref q_a0, .ref q_a1] : List Value).toArray below meth c H locs 0 0 QQ (F0 m 53 ls [])) → ∀ (n : Nat) (x2 : Int64) (x4 : Int64) (x6 : Int64) (x8 : Int32) (H : Heap) (locs : List Loc) (ls : Array Slot), pX8_productOf_L11 v_a0 v_a1 n x2 x4 x6 x8 k = some R → va_P G vwCl [(q_a0, .inl (cJ, 4, .inr (.inl v_a0))), (q_a1, .inl (cJ, 4, .inr (.inl v_a1)))] H → va_D A [(q_a0, .inl (cJ, 4, .inr (.inl v_a0))), (q_a1, .inl (cJ, 4, .inr (.inl v_a1)))] → va_S A s.heap H locs → lv_has ls 9 [(0, .ref q_a0), (1, .ref q_a1), (2, .long x2), (4, .long x4), (6, .long x6), (8, .int x8)] → W p l e rmX8_productOf s m ([.ref q_a0, .ref q_a1] : List Value).toArray below meth c H locs 0 0 QQ (F0 m 11 ls []) := by
    intro  k hk n
    induction n with
    | zero =>
      intro x2 x4 x6 x8 H locs ls hf
      cases hf
    | succ n ih =>
      intro x2 x4 x6 x8 H locs ls hf hP hD hS hl
      unfold pX8_productOf_L11 at hf
      refine lv_iload hx hb dX8_productOf_11 (lv_at hl 5 rfl) ?_
      refine lv_iconst (v := 4) hx hb dX8_productOf_13 (by decide) ?_
      refine lv_icmp_ge (tgt := 53) hx hb dX8_productOf_14 (by decide) (fun c1 => ?_) (fun c1 => ?_)
      · have hf := if_s hf c1
        exact hk x2 x4 x6 x8 _ _ _ hf hP hD hS (lv_sub hl [0, 1, 2, 3, 4, 5] rfl)
      · have hf := if_n hf c1
        refine lv_lload_n hx hb dX8_productOf_17 rfl (lv_at hl 2 rfl) ?_
        refine lv_aload_n hx hb dX8_productOf_18 rfl (lv_at hl 0 rfl) ?_
        refine lv_iload hx hb dX8_productOf_19 (lv_at hl 5 rfl) ?_
        obtain ⟨z2, hf⟩ := ck_s hf
        refine va_lald hx hb hK.1 hP 0 1 rfl rfl (vp_in_iff.mpr z2) dX8_productOf_21 ?_
        refine lv_aload_n hx hb dX8_productOf_22 rfl (lv_at hl 1 rfl) ?_
        refine lv_iload hx hb dX8_productOf_23 (lv_at hl 5 rfl) ?_
        refine va_lald hx hb hK.1 hP 1 1 rfl rfl (vp_in_iff.mpr z2) dX8_productOf_25 ?_
        refine lv_lmul hx hb dX8_productOf_26 ?_
        refine lv_ladd hx hb dX8_productOf_27 ?_
        refine lv_lstore_n (lv' := [(2, .long (x2 + ((v_a0 x8.toNatClampNeg) * (v_a1 x8.toNatClampNeg)))), (0, .ref q_a0), (1, .ref q_a1), (4, .long x4), (6, .long x6), (8, .int x8)]) hx hb dX8_productOf_28 rfl hl (by decide) rfl (fun ls hl => ?_)
        refine lv_lload hx hb dX8_productOf_29 (lv_at hl 3 rfl) ?_
        refine lv_aload_n hx hb dX8_productOf_31 rfl (lv_at hl 1 rfl) ?_
        refine lv_iload hx hb dX8_productOf_32 (lv_at hl 5 rfl) ?_
        refine va_lald hx hb hK.1 hP 0 1 rfl rfl (vp_in_iff.mpr z2) dX8_productOf_34 ?_
        refine lv_ladd hx hb dX8_productOf_35 ?_
        refine lv_lstore (lv' := [(4, .long (x4 + (v_a0 x8.toNatClampNeg))), (2, .long (x2 + ((v_a0 x8.toNatClampNeg) * (v_a1 x8.toNatClampNeg)))), (0, .ref q_a0), (1, .ref q_a1), (6, .long x6), (8, .int x8)]) hx hb dX8_productOf_36 hl (by decide) rfl (fun ls hl => ?_)
        refine lv_lload hx hb dX8_productOf_38 (lv_at hl 4 rfl) ?_
        refine lv_aload_n hx hb dX8_productOf_40 rfl (lv_at hl 3 rfl) ?_
        refine lv_iload hx hb dX8_productOf_41 (lv_at hl 5 rfl) ?_
        refine va_lald hx hb hK.1 hP 1 1 rfl rfl (vp_in_iff.mpr z2) dX8_productOf_43 ?_
        refine lv_ladd hx hb dX8_productOf_44 ?_
        refine lv_lstore (lv' := [(6, .long (x6 + (v_a1 x8.toNatClampNeg))), (4, .long (x4 + (v_a0 x8.toNatClampNeg))), (2, .long (x2 + ((v_a0 x8.toNatClampNeg) * (v_a1 x8.toNatClampNeg)))), (0, .ref q_a0), (1, .ref q_a1), (8, .int x8)]) hx hb dX8_productOf_45 hl (by decide) rfl (fun ls hl => ?_)
        refine lv_iinc (v := x8 + (1 : Int32)) (lv' := [(8, .int (x8 + (1 : Int32))), (6, .long (x6 + (v_a1 x8.toNatClampNeg))), (4, .long (x4 + (v_a0 x8.toNatClampNeg))), (2, .long (x2 + ((v_a0 x8.toNatClampNeg) * (v_a1 x8.toNatClampNeg)))), (0, .ref q_a0), (1, .ref q_a1)]) hx hb dX8_productOf_47 hl (k := 5) rfl rfl (by decide) rfl (fun ls hl => ?_)
        refine lv_goto (tgt := 11) hx hb dX8_productOf_50 (by decide) ?_
        exact ih (x2 + ((v_a0 x8.toNatClampNeg) * (v_a1 x8.toNatClampNeg))) (x4 + (v_a0 x8.toNatClampNeg)) (x6 + (v_a1 x8.toNatClampNeg)) (x8 + (1 : Int32)) _ _ _ hf hP hD hS (lv_sub hl [4, 5, 3, 2, 1, 0] rfl)
  refine lv_lconst (v := 0) hx hb dX8_productOf_0 (by decide) ?_
  refine lv_lstore_n (lv' := [(2, .long (0 : Int64)), (0, .ref q_a0), (1, .ref q_a1)]) hx hb dX8_productOf_1 rfl hl (by decide) rfl (fun ls hl => ?_)
  refine lv_lconst (v := 0) hx hb dX8_productOf_2 (by decide) ?_
  refine lv_lstore (lv' := [(4, .long (0 : Int64)), (2, .long (0 : Int64)), (0, .ref q_a0), (1, .ref q_a1)]) hx hb dX8_productOf_3 hl (by decide) rfl (fun ls hl => ?_)
  refine lv_lconst (v := 0) hx hb dX8_productOf_5 (by decide) ?_
  refine lv_lstore (lv' := [(6, .long (0 : Int64)), (4, .long (0 : Int64)), (2, .long (0 : Int64)), (0, .ref q_a0), (1, .ref q_a1)]) hx hb dX8_productOf_6 hl (by decide) rfl (fun ls hl => ?_)
  refine lv_iconst (v := 0) hx hb dX8_productOf_8 (by decide) ?_
  refine lv_istore (lv' := [(8, .int (0 : Int32)), (6, .long (0 : Int64)), (4, .long (0 : Int64)), (2, .long (0 : Int64)), (0, .ref q_a0), (1, .ref q_a1)]) hx hb dX8_productOf_9 hl (by decide) rfl (fun ls hl => ?_)
  refine hL11  _ (fun y2_3 y4_3 y6_3 y8_3 H locs ls hf hP hD hS hl => ?_) n (0 : Int64) (0 : Int64) (0 : Int64) (0 : Int32) _ _ _ hf hP hD hS (lv_sub hl [4, 5, 3, 2, 1, 0] rfl)
  have hP : va_P G vwCl [(q_a0, .inl (cJ, 4, .inr (.inl v_a0))), (q_a1, .inl (cJ, 4, .inr (.inl v_a1)))] H := hP
  have hD : va_D A [(q_a0, .inl (cJ, 4, .inr (.inl v_a0))), (q_a1, .inl (cJ, 4, .inr (.inl v_a1)))] := hD
  refine lv_ldc2 (v := 2) hx hb hown (hts (.constantLong RX8 11 (2)) (List.mem_of_getElem? (i := 1) rfl)) dX8_productOf_53 ?_
  refine lv_lload_n hx hb dX8_productOf_56 rfl (lv_at hl 2 rfl) ?_
  refine lv_lmul hx hb dX8_productOf_57 ?_
  refine lv_lload hx hb dX8_productOf_58 (lv_at hl 3 rfl) ?_
  refine lv_lload hx hb dX8_productOf_60 (lv_at hl 4 rfl) ?_
  refine lv_lmul hx hb dX8_productOf_62 ?_
  refine lv_lsub hx hb dX8_productOf_63 ?_
  cases hf
  rw [← hQ]
  exact rt_l hx hb hr hlk hP hD hS rfl dX8_productOf_64
def pJ9_floorMod_7cf53 (p0 : Int32) (p1 : Int32) : Option (Int32) := ck (¬ p1 = 0) (if 0 ≤ (p0 ^^^ p1) then some (p0 - p0 / p1 * p1) else if (p0 - p0 / p1 * p1) = 0 then some (p0 - p0 / p1 * p1) else some ((p0 - p0 / p1 * p1) + p1))
def rmJ9_floorMod_7cf53 : Room := { frames := 0, cells := 0, slots := 0, locals := 0 }
set_option maxRecDepth 100000 in
set_option maxHeartbeats 4000000 in
theorem kJ9_floorMod_7cf53 {l : Launch} {G : va_G} {cI cJ cZ cS cG : ClassId} (p0 : Int32) (p1 : Int32) (R : Int32) (hf : pJ9_floorMod_7cf53 p0 p1 = some R) : CTi l yJ9_floorMod_7cf53 wsJ9_floorMod_7cf53 rmJ9_floorMod_7cf53 G cI cJ cZ cS cG [.int p0, .int p1] [] [] R := by
  refine Met.ofE (Qc := fun A => QRi G A [] R) (cc := cJ9_floorMod_7cf53) (nL := 3) (ret := some .int) (by decide +kernel) rfl (Nat.le_of_ble_eq_true rfl) ?_
  intro p e s m below meth c A ls hx hb hml hr hlk hts hown hK hA hP hD hS hl
  have hown : s.vm.findClass RJ9 = some m.cls := hown
  have hl : lv_has ls 3 [(0, .int p0), (1, .int p1)] := hl
  generalize hQ : MQ below (QRi G A [] R) ([.int p0, .int p1] : List Value).toArray s 0 0 A = QQ
  unfold pJ9_floorMod_7cf53 at hf
  refine lv_iload_n hx hb dJ9_floorMod_7cf53_0 rfl (lv_at hl 0 rfl) ?_
  refine lv_iload_n hx hb dJ9_floorMod_7cf53_1 rfl (lv_at hl 1 rfl) ?_
  obtain ⟨z1, hf⟩ := ck_s hf
  refine lv_irem hx hb dJ9_floorMod_7cf53_2 z1 ?_
  refine lv_istore_n (lv' := [(2, .int (p0 - p0 / p1 * p1)), (0, .int p0), (1, .int p1)]) hx hb dJ9_floorMod_7cf53_3 rfl hl (by decide) rfl (fun ls hl => ?_)
  refine lv_iload_n hx hb dJ9_floorMod_7cf53_4 rfl (lv_at hl 1 rfl) ?_
  refine lv_iload_n hx hb dJ9_floorMod_7cf53_5 rfl (lv_at hl 2 rfl) ?_
  refine lv_ixor hx hb dJ9_floorMod_7cf53_6 ?_
  refine lv_if_ge (tgt := 18) hx hb dJ9_floorMod_7cf53_7 (by decide) (fun c2 => ?_) (fun c2 => ?_)
  · have hf := if_s hf c2
    refine lv_iload_n hx hb dJ9_floorMod_7cf53_18 rfl (lv_at hl 0 rfl) ?_
    cases hf
    rw [← hQ]
    exact rt_i hx hb hr hlk hP hD hS rfl dJ9_floorMod_7cf53_19
  · have hf := if_n hf c2
    refine lv_iload_n hx hb dJ9_floorMod_7cf53_10 rfl (lv_at hl 0 rfl) ?_
    refine lv_if_eq (tgt := 18) hx hb dJ9_floorMod_7cf53_11 (by decide) (fun c3 => ?_) (fun c3 => ?_)
    · have hf := if_s hf c3
      refine lv_iload_n hx hb dJ9_floorMod_7cf53_18 rfl (lv_at hl 0 rfl) ?_
      cases hf
      rw [← hQ]
      exact rt_i hx hb hr hlk hP hD hS rfl dJ9_floorMod_7cf53_19
    · have hf := if_n hf c3
      refine lv_iload_n hx hb dJ9_floorMod_7cf53_14 rfl (lv_at hl 0 rfl) ?_
      refine lv_iload_n hx hb dJ9_floorMod_7cf53_15 rfl (lv_at hl 2 rfl) ?_
      refine lv_iadd hx hb dJ9_floorMod_7cf53_16 ?_
      cases hf
      rw [← hQ]
      exact rt_i hx hb hr hlk hP hD hS rfl dJ9_floorMod_7cf53_17
def pJ9_floorMod_f86c9 (p0 : Int64) (p2 : Int64) : Option (Int64) := ck (¬ p2 = 0) (if (0 : Int64) ≤ (p0 ^^^ p2) then some (p0 - p0 / p2 * p2) else if (p0 - p0 / p2 * p2) = (0 : Int64) then some (p0 - p0 / p2 * p2) else some ((p0 - p0 / p2 * p2) + p2))
def rmJ9_floorMod_f86c9 : Room := { frames := 0, cells := 0, slots := 0, locals := 0 }
set_option maxRecDepth 100000 in
set_option maxHeartbeats 4000000 in
theorem kJ9_floorMod_f86c9 {l : Launch} {G : va_G} {cI cJ cZ cS cG : ClassId} (p0 : Int64) (p2 : Int64) (R : Int64) (hf : pJ9_floorMod_f86c9 p0 p2 = some R) : CTl l yJ9_floorMod_f86c9 wsJ9_floorMod_f86c9 rmJ9_floorMod_f86c9 G cI cJ cZ cS cG [.long p0, .long p2] [] [] R := by
  refine Met.ofE (Qc := fun A => QRl G A [] R) (cc := cJ9_floorMod_f86c9) (nL := 6) (ret := some .long) (by decide +kernel) rfl (Nat.le_of_ble_eq_true rfl) ?_
  intro p e s m below meth c A ls hx hb hml hr hlk hts hown hK hA hP hD hS hl
  have hown : s.vm.findClass RJ9 = some m.cls := hown
  have hl : lv_has ls 6 [(0, .long p0), (2, .long p2)] := hl
  generalize hQ : MQ below (QRl G A [] R) ([.long p0, .long p2] : List Value).toArray s 0 0 A = QQ
  unfold pJ9_floorMod_f86c9 at hf
  refine lv_lload_n hx hb dJ9_floorMod_f86c9_0 rfl (lv_at hl 0 rfl) ?_
  refine lv_lload_n hx hb dJ9_floorMod_f86c9_1 rfl (lv_at hl 1 rfl) ?_
  obtain ⟨z1, hf⟩ := ck_s hf
  refine lv_lrem hx hb dJ9_floorMod_f86c9_2 z1 ?_
  refine lv_lstore (lv' := [(4, .long (p0 - p0 / p2 * p2)), (0, .long p0), (2, .long p2)]) hx hb dJ9_floorMod_f86c9_3 hl (by decide) rfl (fun ls hl => ?_)
  refine lv_lload_n hx hb dJ9_floorMod_f86c9_5 rfl (lv_at hl 1 rfl) ?_
  refine lv_lload_n hx hb dJ9_floorMod_f86c9_6 rfl (lv_at hl 2 rfl) ?_
  refine lv_lxor hx hb dJ9_floorMod_f86c9_7 ?_
  refine lv_lconst (v := 0) hx hb dJ9_floorMod_f86c9_8 (by decide) ?_
  refine lc_ge (tgt := 25) hx hb dJ9_floorMod_f86c9_9 dJ9_floorMod_f86c9_10 (by decide) (fun c2 => ?_) (fun c2 => ?_)
  · have hf := if_s hf c2
    refine lv_lload hx hb dJ9_floorMod_f86c9_25 (lv_at hl 0 rfl) ?_
    cases hf
    rw [← hQ]
    exact rt_l hx hb hr hlk hP hD hS rfl dJ9_floorMod_f86c9_27
  · have hf := if_n hf c2
    refine lv_lload hx hb dJ9_floorMod_f86c9_13 (lv_at hl 0 rfl) ?_
    refine lv_lconst (v := 0) hx hb dJ9_floorMod_f86c9_15 (by decide) ?_
    refine lc_eq (tgt := 25) hx hb dJ9_floorMod_f86c9_16 dJ9_floorMod_f86c9_17 (by decide) (fun c3 => ?_) (fun c3 => ?_)
    · have hf := if_s hf c3
      refine lv_lload hx hb dJ9_floorMod_f86c9_25 (lv_at hl 0 rfl) ?_
      cases hf
      rw [← hQ]
      exact rt_l hx hb hr hlk hP hD hS rfl dJ9_floorMod_f86c9_27
    · have hf := if_n hf c3
      refine lv_lload hx hb dJ9_floorMod_f86c9_20 (lv_at hl 0 rfl) ?_
      refine lv_lload_n hx hb dJ9_floorMod_f86c9_22 rfl (lv_at hl 2 rfl) ?_
      refine lv_ladd hx hb dJ9_floorMod_f86c9_23 ?_
      cases hf
      rw [← hQ]
      exact rt_l hx hb hr hlk hP hD hS rfl dJ9_floorMod_f86c9_24
