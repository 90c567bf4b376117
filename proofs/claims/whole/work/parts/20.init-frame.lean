/-! constructors: contracts of methods that make cells; u: the addresses of the cells that are made -/
def QRn (G : va_G) (A : Nat → Prop) (WS : List Nat → va_W) : Array Value → State → Outcome → State → Prop := va_Qv (fun (_ : List Nat) => True) (fun u t => PST G A (WS u) t) A
def CTn (l : Launch) (y : MethodName) (wd : List Cond) (rm : Room) (G : va_G) (cI cJ cZ cS cG : ClassId) (av : List Value) (ws : va_W) (WS : List Nat → va_W) (mc ms : Nat) : Prop := ∀ sz : Nat, Met l y wd rm (va_Pc av (PRE G cI cJ cZ cS cG sz ws)) (QRn G (va_A ws sz) WS) mc ms (va_A ws sz)
theorem Met.ofN {WS : List Nat → va_W} {l : Launch} {y : MethodName} {wd wd' : List Cond} {rm : Room} {cc : ByteArray} {nL mc ms : Nat} {G : va_G} {cI cJ cZ cS cG : ClassId} {av : List Value} {ws : va_W} (hy : plainFor y = true) (hyn : y.name = "<init>") (hw : wd = Cond.code y cc nL none :: wd') (hn : (lg_sl av).length ≤ nL)
    (E : ∀ (p : Program) (e : Env) (s : State) (m : MethodId) (below : List Frame) (meth : Method) (c : Code) (A : Nat → Prop) (ls : Array Slot), p.tables.exec = Jvm.exec → c.code = cc → c.maxLocals = nL → meth.sig.returnType = none → meth.locks = false → meth.name = "<init>" → (∀ w ∈ wd, w.before av.toArray s = true) → s.vm.findClass y.cls = some m.cls → KN G cI cJ cZ cS cG s → (∀ q : Nat, s.heap.size ≤ q → A q) → va_P G vwCl ws s.heap → va_D A ws → va_S A s.heap s.heap [] → lv_has ls nL (lv_args 0 av) →
    W p l e rm s m av.toArray below meth c s.heap [] 0 0 (MQ below (QRn G A WS) av.toArray s mc ms A) (F0 m 0 ls [])) : CTn l y wd rm G cI cJ cZ cS cG av ws WS mc ms := by
  intro sz
  refine Met.ofWF (cc := cc) (maxL := nL) (ret := none) hy hw ?_
  intro p e s m args below meth c s₁ B hml hv
  obtain ⟨rfl, hsz, hP, hK, hD0⟩ := hv
  subst hsz
  have hl := lv_entry av (n := nL) hn
  rw [lg_entry_eq]
  exact E p e s m below meth c (va_A ws s.heap.size) _ B.exec B.bytes hml B.returns B.notSynchronized ((name_of_methodNamed B.named B.method).1.trans hyn) (atoms_spec (ws := wd) B.pre) (findClass_of_methodNamed B.named) hK (fun q h => Or.inr h) hP (hD0.self (sz := s.heap.size)) va_S.rf hl
section RN
variable {p : Program} {l : Launch} {e : Env} {R : Room} {s : State} {m : MethodId} {args : Array Value} {below : List Frame} {meth : Method} {c : Code} {H H0 : Heap} {locs : List Loc} {Q : State → Prop} {cells slots : Nat}
variable {cc : ByteArray} {pc : Nat} {ls : Array Slot} {rest st0 : List Value} {G : va_G} {cI cJ cZ cS cG : ClassId} {A : Nat → Prop} {ws wc wr : va_W} {a : Array Value} {tys : List (ClassId × FieldType)}
theorem rt_n {WS : List Nat → va_W} {ws2 : va_W} (u : List Nat) (hx : p.tables.exec = Jvm.exec) (hb : c.code = cc) (hr : meth.sig.returnType = none) (hlk : meth.locks = false) (hP : va_P G vwCl ws2 H) (hD : va_D A ws2) (hS : va_S A s.heap H locs) (hw : WS u = ws2) (hdg : decode cc pc = .ok (.return_, 1)) : W p l e R s m args below meth c H locs cells slots (MQ below (QRn G A WS) args s cells slots A) (F0 m pc ls []) := by
  subst hw
  exact W.vret hx hb hr (fun t ht _ => ⟨⟨u, rfl, trivial, by rw [ht]; exact hP, hD⟩, hS.F ht⟩) hS.2.2 hdg hlk
theorem bk_n {WS : List Nat → va_W} {mc ms : Nat} (hr : va_Run p l e R s m args below meth c H locs cells slots mc ms (F0 m pc ls st0) rest (QRn G (va_A wc H.size) WS a) (va_A wc H.size)) (hP : va_P G vwCl ws H) (hD : va_D A ws) (hS : va_S A H0 H locs) (hA : ∀ q, H0.size ≤ q → A q) (isC isR : List Nat) (hC : isC.map (fun i => ws[i]?) = wc.map some) (hR : isR.map (fun i => ws[i]?) = wr.map some) (hnR : va_nd isR = true) (hdis : (isR.all fun i => !isC.contains i) = true)
    (kk : ∀ (u : List Nat) (H1 : Heap) (locs1 : List Loc), va_P G vwCl (wr ++ WS u) H1 → va_D A (wr ++ WS u) → va_S A H0 H1 locs1 → W p l e R s m args below meth c H1 locs1 (cells + mc) (slots + ms) Q (F0 m (pc + 3) ls rest)) : W p l e R s m args below meth c H locs cells slots Q (F0 m pc ls st0) := by
  have hF := va_free (wc := wc) hD hS hA isC hC
  refine va_callv hr hS (fun q _ h => hF q h) hF (fun u t H1 locs1 ht hvm hw hB1 hz1 hk1 hS1 => ?_)
  obtain ⟨hP1, hD1⟩ := hB1
  rw [ht] at hP1
  have hd2 : ∀ i ∈ isR, i ∉ isC := fun i hi hc => by
    have h := List.all_eq_true.mp hdis i hi
    rw [List.contains_iff_mem.mpr hc] at h
    cases h
  obtain ⟨h1, h2⟩ := va_join (wr := wr) (w1 := WS u) hP hD isC isR hC hR hnR hd2 hk1 hF hP1 hD1
  exact kk u H1 locs1 h1 h2 hS1
/-- a new row whose class is known already -/
theorem nw_a {cA : ClassId} (hexec : p.tables.exec = Jvm.exec) (hb : c.code = cc) {atype : ArrayType} (harr : (Cond.arrayClass (newarray.typeOf atype)).before args s = true) {ty : FieldType} (hty : newarray.typeOf atype = ty) (hra : ∀ c : ClassId, va_RA s c ty → s.vm.findClass ("[" ++ ty.toString) = some c) (hK : va_K G vwCl tys s) (t0 : Nat) (ht : tys[t0]? = some (cA, ty)) (hP : va_P G vwCl ws H) (hD : va_D A ws) (hS : va_S A H0 H locs) (hA : ∀ q, H0.size ≤ q → A q)
    {n : Int32} {N' : Nat} {a0 : vp_A} (ha : ∀ cA : ClassId, vp_cell cA a0 = arrV cA N' (fun _ => defaultValue ty)) (hn : ¬ n < 0) (hN : n.toNatClampNeg = N') (hbytes : N' * componentBytes ty ≤ 536870912) (hcells : cells + 1 ≤ R.cells) (hslots : slots + N' ≤ R.slots) (hdg : decode cc pc = .ok (.newarray atype, 2))
    (kk : ∀ (q : Nat) (H1 : Heap), va_P G vwCl (ws ++ [(q, .inl (cA, a0))]) H1 → va_D A (ws ++ [(q, .inl (cA, a0))]) → va_S A H0 H1 locs →
      W p l e R s m args below meth c H1 locs (cells + 1) (slots + N') Q (F0 m (pc + 2) ls (.ref q :: rest))) : W p l e R s m args below meth c H locs cells slots Q (F0 m pc ls (.int n :: rest)) := by
  refine va_newa hexec hb harr hty hK hP hD hS hA ha hn hN hbytes hcells hslots hdg (fun q cB H1 hK2 hP2 hD2 hS2 => ?_)
  have h1 := hra _ (hK.2 t0 _ ht).2
  have h2 := hra _ (hK2.2 tys.length (cB, ty) (by simp)).2
  cases Option.some.inj (h1.symm.trans h2)
  exact kk q H1 hP2 hD2 hS2
/-- new Shelf[n] -/
theorem nw_q {cA : ClassId} (hexec : p.tables.exec = Jvm.exec) (hb : c.code = cc) {own C : String} {index : Nat} (hown : s.vm.findClass own = some m.cls) (hclink : (Cond.classLink own index C).before args s = true) (hover : va_AO C s) (hK : va_K G vwCl tys s) (t0 : Nat) (ht : tys[t0]? = some (cA, .object C)) (hP : va_P G vwCl ws H) (hD : va_D A ws) (hS : va_S A H0 H locs) (hA : ∀ q, H0.size ≤ q → A q)
    {n : Int32} {N' : Nat} (hn : ¬ n < 0) (hN : n.toNatClampNeg = N') (hbytes : N' * 4 ≤ 536870912) (hcells : cells + 1 ≤ R.cells) (hslots : slots + N' ≤ R.slots) (hdg : decode cc pc = .ok (.anewarray index, 3))
    (kk : ∀ (q : Nat) (H1 : Heap), va_P G vwCl (ws ++ [(q, .inl (cA, N', .inr (.inr (.inr (.inr (fun _ => none))))))]) H1 → va_D A (ws ++ [(q, .inl (cA, N', .inr (.inr (.inr (.inr (fun _ => none))))))]) → va_S A H0 H1 locs →
      W p l e R s m args below meth c H1 locs (cells + 1) (slots + N') Q (F0 m (pc + 3) ls (.ref q :: rest))) : W p l e R s m args below meth c H locs cells slots Q (F0 m pc ls (.int n :: rest)) := by
  refine va_newq hexec hb hown hclink hover hK hP hD hS hA hn hN hbytes hcells hslots hdg (fun q cB H1 hK2 hP2 hD2 hS2 => ?_)
  obtain ⟨_, _, -, -, -, h1⟩ := (hK.2 t0 _ ht).2
  obtain ⟨_, _, -, -, -, h2⟩ := (hK2.2 tys.length (cB, .object C) (by simp)).2
  cases Option.some.inj (h1.symm.trans h2)
  exact kk q H1 hP2 hD2 hS2
/-- new long[n][4] -/
theorem nw_m {cA cR : ClassId} (hexec : p.tables.exec = Jvm.exec) (hb : c.code = cc) {own : String} {index : Nat} (hown : s.vm.findClass own = some m.cls) (hclink : (Cond.classLink own index ("[" ++ (FieldType.array .long).toString)).before args s = true) (hover : va_AOA .long s) (harr : (Cond.arrayClass .long).before args s = true) (hK : va_K G vwCl tys s) (t0 t1 : Nat) (ht : tys[t0]? = some (cA, .array .long)) (ht1 : tys[t1]? = some (cR, .long)) (hP : va_P G vwCl ws H) (hD : va_D A ws) (hS : va_S A H0 H locs) (hA : ∀ q, H0.size ≤ q → A q)
    {n k : Int32} {N' K' : Nat} (hn : ¬ n < 0) (hk : ¬ k < 0) (hN : n.toNatClampNeg = N') (hM : k.toNatClampNeg = K') (hb1 : N' * 4 ≤ 536870912) (hb2 : K' * componentBytes .long ≤ 536870912) (hb3 : K' ≤ 536870912) (hcells : cells + (1 + N') ≤ R.cells) (hslots : slots + (N' + N' * K') ≤ R.slots) (hdg : decode cc pc = .ok (.multianewarray index 2, 4))
    (kk : ∀ (q : Nat) (r : Nat → Nat) (H1 : Heap), va_P G vwCl ((ws ++ [(q, .inl (cA, N', .inr (.inr (.inr (.inr (fun i => if i < N' then some (r i) else none))))))]) ++ ((List.range N').map r).map (fun a => (a, .inl (cR, K', .inr (.inl (fun _ => 0)))))) H1 → va_D A ((ws ++ [(q, .inl (cA, N', .inr (.inr (.inr (.inr (fun i => if i < N' then some (r i) else none))))))]) ++ ((List.range N').map r).map (fun a => (a, .inl (cR, K', .inr (.inl (fun _ => 0)))))) → va_S A H0 H1 locs →
      W p l e R s m args below meth c H1 locs (cells + 1 + N') (slots + N' + N' * K') Q (F0 m (pc + 4) ls (.ref q :: rest))) : W p l e R s m args below meth c H locs cells slots Q (F0 m pc ls (.int k :: .int n :: rest)) := by
  have h1 : s.vm.findClass ("[" ++ (FieldType.array .long).toString) = some cA := (hK.2 t0 _ ht).2
  have h3 : s.vm.findClass ("[" ++ FieldType.long.toString) = some cR := (hK.2 t1 _ ht1).2
  have hcy : s.vm.findClass (FieldType.array .long).toString = some cR := h3
  refine va_mna (X := ws) (L := []) (f := fun _ => .inr (0, [])) hexec hb hown hclink hover harr hcy hK (by rw [show va_pl [] _ = [] from rfl, List.append_nil]; exact hP) (by rw [show va_pl [] _ = [] from rfl, List.append_nil]; exact hD) hS hA (z := (K', .inr (.inl (fun _ => 0)))) hn hk hN hM hb1 hb2 hb3 rfl rfl hcells hslots (fun c => arrV_new c K' (.long 0)) hdg (fun q r cB H1 hinj hnl hK2 hP2 hD2 hS2 => ?_)
  have h2 : s.vm.findClass ("[" ++ (FieldType.array .long).toString) = some cB := (hK2.2 tys.length (cB, .array .long) (by simp)).2
  cases Option.some.inj (h1.symm.trans h2)
  have e0 : va_pl ([] ++ (List.range N').map r) (vr_up (fun _ => (.inr (0, []) : va_E)) ((List.range N').map r) (.inl (cR, (K', .inr (.inl (fun _ => 0)))))) = ((List.range N').map r).map (fun a => (a, .inl (cR, K', .inr (.inl (fun _ => 0))))) := by
    rw [List.nil_append]
    unfold va_pl
    apply List.map_congr_left
    intro x hx
    rw [vr_up_in hx]
  rw [e0] at hP2 hD2
  exact kk q r H1 hP2 hD2 hS2
end RN
theorem rr4_of (r : Nat → Nat) : (fun i => if i < 4 then some (r i) else none) = rr4 (r 0) (r 1) (r 2) (r 3) := by
  funext i
  match i with
  | 0 => rfl
  | 1 => rfl
  | 2 => rfl
  | 3 => rfl
  | i + 4 => rw [if_neg (by omega)]; rfl
theorem rr3_of (r : Nat → Nat) : (fun i => if i < 3 then some (r i) else none) = rr3 (r 0) (r 1) (r 2) := by
  funext i
  match i with
  | 0 => rfl
  | 1 => rfl
  | 2 => rfl
  | i + 3 => rw [if_neg (by omega)]; rfl
theorem rr3_up (a b c : Nat) : va_up (va_up (va_up (fun _ => none) 0 (some a)) 1 (some b)) 2 (some c) = rr3 a b c := by
  funext i
  match i with
  | 0 => rfl
  | 1 => rfl
  | 2 => rfl
  | i + 3 => simp [va_up, rr3]
