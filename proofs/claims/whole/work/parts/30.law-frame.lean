/-! THE CLAIM OUT OF ONE WALK OF THE LAW'S BODY. Your part is whole_start (and what it stands on); all else here is the same for every law, but numbers. -/
def R_law : String := "PackedBendsLaw"
def lw_P (b : Addr) (xs : List Int32) (args : Array Value) (s : State) : Prop := args = #[.ref b] ∧ s.IntsAt b xs ∧ xs.length ≤ 2560 ∧ (Jvm.Cond.and given_1 narrow_1).before args s = true
def lw_Q (_ : Array Value) (s : State) (o : Outcome) (t : State) : Prop := o = .returned (some (.int 1)) ∧ Framed s o t [] 600000 7302249
def lw_Z (below : List Frame) (a : Array Value) (s : State) : State → Prop := fun t => ∃ o, t.status = .running ∧ Ended t below o ∧ lw_Q a s o t
/-- the law's own end, with 1 on the stack, nothing written that was there before, its room as the claim has it -/
theorem lw_ret {p : Program} {l : Launch} {e : Env} {s : State} {m : MethodId} {below : List Frame} {meth : Method} {c : Code} {b : Nat} (hx : p.tables.exec = Jvm.exec) (hb : c.code = code) (hr : meth.sig.returnType = ret) (hlocks : meth.locks = false) {pc : Nat} {H : Heap} {ls : Array Slot} (hdg : decode code pc = .ok (.ireturn, 1)) : W p l e room_1 s m #[Value.ref b] below meth c H [] 600000 7302249 (lw_Z below #[Value.ref b] s) (F0 m pc ls [.int 1]) := by
  intro T hT X
  obtain ⟨fs, hret, hrun, hended, hW, hframe⟩ := X.leave (v := some (.int 1)) (hlocks := hlocks) (fun h => by rw [hr] at h; cases h)
  have hmeth' : T.vm.method? m = some meth := X.method'
  refine ⟨T.setFrames fs, ?_, .returned (some (.int 1)), hrun, hended, rfl, ⟨_, rfl⟩, hW, hframe⟩
  jvm_step X.here [X.here.top, hx, hb, hdg, hmeth', hr, ret, narrow_b1]
  (try refine ⟨rfl, ?_⟩); (try refine ⟨rfl, ?_⟩)
  first | (intro acts; rw [hret _ acts rfl rfl rfl]) | rw [hret _ _ rfl rfl rfl]
  exact Steps.refl _
/-- what holds at the law's entry: the machine, the code, the tables' words (any of lw_tbl by 'hts w (by decide +kernel)'), the script of L ints xs at the cell b, what the Statement gives of the start (any of its parts by flat_of_before) -/
def lw_At (p : Program) (s : State) (m : MethodId) (meth : Method) (c : Code) (b L : Nat) (xs : Nat → Int32) : Prop :=
  p.tables.exec = Jvm.exec ∧ c.code = code ∧ meth.sig.returnType = ret ∧ c.maxLocals = 4 ∧ s.vm.findClass R_law = some m.cls ∧ (∀ w ∈ lw_tbl, w.before #[Value.ref b] s = true) ∧ va_X b L xs s s.heap ∧ b < s.heap.size ∧ meth.locks = false ∧ (Jvm.Cond.and given_1 narrow_1).before #[Value.ref b] s = true
/-! the law's start: what its tables say, as KN; a script's place -/
theorem arr_of_class {s : State} {A : Array Value} {ty : FieldType} (h : (Cond.arrayClass ty).before A s = true) : ∃ c : ClassId, ArrOfT s c ty ∧ s.vm.findClass ("[" ++ ty.toString) = some c := by
  obtain ⟨c, k, comp, h1, h2, h3⟩ := Cond.arrayClass_spec h
  exact ⟨c, fun n z => ⟨(fun q hq => by cases hq), k, h2, comp, h3⟩, h1⟩
theorem kn_start {s : State} {b : Nat} (hts : ∀ w ∈ lw_tbl, w.before #[Value.ref b] s = true) (hn : ∀ q ∈ NWl, Cond.methodLinkNest q.1 q.2.1 q.2.2 "PackedBends" ∈ lw_tbl) (h1 : Cond.arrayOver (.object "PackedBends$Shelf") ∈ lw_tbl) (h2 : Cond.arrayOver (.array .long) ∈ lw_tbl) (h3 : Cond.arrayClass .int ∈ lw_tbl) (h4 : Cond.arrayClass .long ∈ lw_tbl) (h5 : Cond.arrayClass .boolean ∈ lw_tbl) {G : va_G} (hG : ∀ (k : Nat) (q : vw_C), vwCl[k]? = some q → u_Kn s q.1 q.2.1 q.2.2 (G.1 k) (G.2 k)) : ∃ cI cJ cZ cS cG, KN G cI cJ cZ cS cG s := by
  obtain ⟨cI, aI, fI⟩ := arr_of_class (hts _ h3)
  obtain ⟨cJ, aJ, fJ⟩ := arr_of_class (hts _ h4)
  obtain ⟨cZ, aZ, fZ⟩ := arr_of_class (hts _ h5)
  obtain ⟨comp, cS, k, g1, g2, g3, g4, g5⟩ := Cond.arrayOver_spec (hts _ h1)
  obtain ⟨comp2, cG, k2, e1, e2, e3, e4, e5⟩ := aoa_spec (hts _ h2)
  refine ⟨cI, cJ, cZ, cS, cG, ⟨hG, fun k9 q hq => ?_⟩, fun q hq => va_Nw.of rfl (hts _ (hn q hq)), va_AO.of (hts _ h1), hts _ h2⟩
  match k9, hq with
  | 0, hq => cases hq; exact ⟨aI, fI⟩
  | 1, hq => cases hq; exact ⟨aJ, fJ⟩
  | 2, hq => cases hq; exact ⟨aZ, fZ⟩
  | 3, hq => cases hq; exact ⟨fun n z => ⟨(fun q hq => by cases hq), k, g3, comp, g4⟩, k, comp, g3, g4, g1, g5⟩
  | 4, hq => cases hq; exact ⟨fun n z => ⟨(fun q hq => by cases hq), k2, e3, comp2, e4⟩, e5⟩
  | k9 + 5, hq => simp at hq
theorem and31 (x : Int32) : ∃ j : Nat, j < 32 ∧ x &&& 31 = nI j := pk_andE x 5 (by decide)
theorem tbl_nest : ∀ q ∈ NWl, Cond.methodLinkNest q.1 q.2.1 q.2.2 "PackedBends" ∈ lw_tbl := by decide +kernel
theorem tbl_ao : Cond.arrayOver (.object "PackedBends$Shelf") ∈ lw_tbl := by decide +kernel
theorem tbl_aoa : Cond.arrayOver (.array .long) ∈ lw_tbl := by decide +kernel
theorem law_end {i L : Nat} (hL : L ≤ 2560) (hi : i ≤ L) (h : L < i + 5) : Int32.ofNat L - 5 < nI i := by
  show nI L - nI 5 < nI i
  rw [Int32.lt_iff_toInt_lt, pk_sub_toInt (by omega) (by omega), nI_toInt (by omega)]
  omega
