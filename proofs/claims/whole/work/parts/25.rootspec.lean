/-! what findRoot answers on either side -/
def eq4 (f g : Nat → Int64) : Prop := f 0 = g 0 ∧ f 1 = g 1 ∧ f 2 = g 2 ∧ f 3 = g 3
theorem eq4.rf (f : Nat → Int64) : eq4 f f := ⟨rfl, rfl, rfl, rfl⟩
theorem eq4.sym {f g : Nat → Int64} (h : eq4 f g) : eq4 g f := ⟨h.1.symm, h.2.1.symm, h.2.2.1.symm, h.2.2.2.symm⟩
theorem eq4.tr {f g k : Nat → Int64} (h : eq4 f g) (h2 : eq4 g k) : eq4 f k := ⟨h.1.trans h2.1, h.2.1.trans h2.2.1, h.2.2.1.trans h2.2.2.1, h.2.2.2.trans h2.2.2.2⟩
theorem eq4.at {f g : Nat → Int64} (h : eq4 f g) {i : Nat} (hi : i < 4) : f i = g i := four_cases (P := fun i => f i = g i) hi h.1 h.2.1 h.2.2.1 h.2.2.2
theorem eq4.of {f g : Nat → Int64} (h : ∀ i, i < 4 → f i = g i) : eq4 f g := ⟨h 0 (by omega), h 1 (by omega), h 2 (by omega), h 3 (by omega)⟩
theorem eq4.gN {f g : Nat → Int64} (h : eq4 f g) : gN f = gN g := by
  obtain ⟨h0, h1, h2, h3⟩ := h
  unfold Jvm.Pilot.@@N@@.gN
  rw [h0, h1, h2, h3]
theorem eq4.tv {f g : Nat → Int64} (h : eq4 f g) {i : Nat} (hi : i < 4) : tv f i = tv g i := by
  have hi := h.at hi
  obtain ⟨h0, h1, h2, h3⟩ := h
  unfold Jvm.Pilot.@@N@@.tv
  rw [h0, h1, h2, h3, hi]
theorem eq4.up {f g : Nat → Int64} (h : eq4 f g) (i : Nat) (x : Int64) : eq4 (vp_updL f i x) (vp_updL g i x) := eq4.of (fun j hj => by rw [updL_at, updL_at, h.at hj])
theorem eq4.nx {f g : Nat → Int64} (h : eq4 f g) : eq4 (nx f) (nx g) := by
  unfold Jvm.Pilot.@@N@@.nx
  rw [h.gN, h.tv (gN_lt g)]
  exact h.up _ _
theorem eq4.dn {k : Nat} : ∀ {f f' g : Nat → Int64}, eq4 f f' → Dn k f g → ∃ g', Dn k f' g' ∧ eq4 g g' := by
  induction k with
  | zero =>
    intro f f' g h hd
    refine ⟨f', ⟨rfl, ?_⟩, by rw [hd.1]; exact h⟩
    rw [← h.gN, ← h.tv (gN_lt f), ← h.at (gN_lt f)]
    exact hd.2
  | succ k ih =>
    intro f f' g h hd
    obtain ⟨g', h1, h2⟩ := ih h.nx hd.2
    refine ⟨g', ⟨?_, h1⟩, h2⟩
    rw [← h.gN, ← h.tv (gN_lt f), ← h.at (gN_lt f)]
    exact hd.1
theorem eq4.sp {k : Nat} : ∀ {f f' : Nat → Int64}, eq4 f f' → sp k f = sp k f' := by
  induction k with
  | zero => intro f f' h; exact h.gN
  | succ k ih => intro f f' h; exact ih h.nx
theorem eq4.gb {f g : Nat → Int64} (h : eq4 f g) (hg : GB f) : GB g := by
  obtain ⟨h0, h1, h2, h3⟩ := h
  unfold GB Bd at hg ⊢
  rw [h0, h1, h2, h3] at hg
  exact hg
theorem eq4.ce {f g : Nat → Int64} (h : eq4 f g) {i : Nat} (hi : i < 3) : eq4 (ce i f) (ce i g) := by
  unfold Jvm.Pilot.@@N@@.ce
  rw [h.at (show i < 4 by omega), h.at (show i + 1 < 4 by omega)]
  split
  · exact h
  · exact (h.up _ _).up _ _
theorem eq4.srt {f g : Nat → Int64} (h : eq4 f g) : eq4 (srt f) (srt g) := (((((h.ce (i := 0) (by omega)).ce (i := 1) (by omega)).ce (i := 2) (by omega)).ce (i := 0) (by omega)).ce (i := 1) (by omega)).ce (i := 0) (by omega)
theorem Dn.det {k : Nat} : ∀ {k' : Nat} {f g g' : Nat → Int64}, Dn k f g → Dn k' f g' → k = k' ∧ g = g' := by
  induction k with
  | zero =>
    intro k' f g g' h h'
    cases k' with
    | zero => exact ⟨rfl, h.1.trans h'.1.symm⟩
    | succ k' => exact absurd h'.1 h.2
  | succ k ih =>
    intro k' f g g' h h'
    cases k' with
    | zero => exact absurd h.1 h'.2
    | succ k' =>
      obtain ⟨h1, h2⟩ := ih h.2 h'.2
      exact ⟨by omega, h2⟩
/-- the root of f, in order, k steps away -/
def RT (f : Nat → Int64) (k : Nat) (r : Nat → Int64) : Prop := ∃ g, Dn k f g ∧ eq4 r (srt g)
theorem RT.ex {f : Nat → Int64} (h : GB f) : ∃ k r, RT f k r ∧ k < 45000 := by
  obtain ⟨k, g, h1, -⟩ := dn_ex (SI f).toNat h (by have := h.1.2; unfold SI; omega)
  exact ⟨k, srt g, ⟨g, h1, eq4.rf _⟩, dn_few h h1⟩
theorem RT.det {f r r' : Nat → Int64} {k k' : Nat} (h : RT f k r) (h' : RT f k' r') : k = k' ∧ eq4 r r' := by
  obtain ⟨g, h1, h2⟩ := h
  obtain ⟨g', h3, h4⟩ := h'
  obtain ⟨e1, rfl⟩ := h1.det h3
  exact ⟨e1, h2.tr h4.sym⟩
theorem RT.cong {f f' r : Nat → Int64} {k : Nat} (h : RT f k r) (e : eq4 f f') : RT f' k r := by
  obtain ⟨g, h1, h2⟩ := h
  obtain ⟨g', h3, h4⟩ := e.dn h1
  exact ⟨g', h3, h2.tr h4.srt⟩
theorem RT.r {f r r' : Nat → Int64} {k : Nat} (h : RT f k r) (e : eq4 r' r) : RT f k r' := by
  obtain ⟨g, h1, h2⟩ := h
  exact ⟨g, h1, e.tr h2⟩
theorem cx_eq {n : Nat} (hn : 5 ≤ n) (f g : Nat → Int64) : ∃ z, pX8_copyFour n f g = some z ∧ eq4 z f := by
  obtain ⟨m, rfl⟩ : ∃ m, n = m + 5 := ⟨n - 5, by omega⟩
  exact ⟨_, cf5 m f g, rfl, rfl, rfl, rfl⟩
/-- x's way down to the root, the copy made first -/
theorem go_eq {n : Nat} (hn : 50000 ≤ n) {now four : Nat → Int64} {k : Nat} {r : Nat → Int64} (h : RT now k r) (hk : k < 45000) : ∃ la z, pX0_go n four now (1000000 : Int32) = some (nI k, la, z) ∧ eq4 r (srt z) := by
  obtain ⟨c, e1, e2⟩ := cx_eq (n := n) (by omega) now four
  obtain ⟨g, h1, h2⟩ := h
  obtain ⟨g', h3, h4⟩ := e2.sym.dn h1
  unfold pX0_go
  rw [e1, Option.bind_some, show (1000000 : Int32) = nI 1000000 from rfl, show (0 : Int32) = nI 0 from rfl, go_end h3 (by omega) (by omega) (by omega), Nat.zero_add]
  exact ⟨_, g', rfl, h2.tr h4.srt⟩
theorem same_L (f g : Nat → Int64) (n : Nat) {i : Nat} (hi : i < 4) (k : Int32 → Option Int32) : pX3_isSame_L2 f g (n + 1) (nI i) k = if g i = f i then pX3_isSame_L2 f g n (nI (i + 1)) k else some 0 := by
  rw [pX3_isSame_L2, if_neg (by rw [show (4 : Int32) = nI 4 from rfl, nI_leI (by omega) (by omega)]; omega), ck_t (ix_nI hi (by omega)), nI_clamp (by omega), nI_1]
theorem same_E (f g : Nat → Int64) (n : Nat) (k : Int32 → Option Int32) : pX3_isSame_L2 f g (n + 1) (nI 4) k = k (nI 4) := by
  rw [pX3_isSame_L2, if_pos (by decide)]
theorem same_eq {n : Nat} (hn : 5 ≤ n) (f g : Nat → Int64) : (eq4 f g ∧ pX3_isSame n f g = some 1) ∨ (¬ eq4 f g ∧ pX3_isSame n f g = some 0) := by
  obtain ⟨m, rfl⟩ : ∃ m, n = m + 5 := ⟨n - 5, by omega⟩
  have e : pX3_isSame (m + 5) f g = if g 0 = f 0 then (if g 1 = f 1 then (if g 2 = f 2 then (if g 3 = f 3 then some 1 else some 0) else some 0) else some 0) else some 0 := by
    unfold pX3_isSame
    rw [show (0 : Int32) = nI 0 from rfl, same_L f g (m + 4) (i := 0) (by omega), same_L f g (m + 3) (i := 0 + 1) (by omega), same_L f g (m + 2) (i := 0 + 1 + 1) (by omega), same_L f g (m + 1) (i := 0 + 1 + 1 + 1) (by omega), same_E]
    rfl
  rw [e]
  by_cases h0 : g 0 = f 0
  · by_cases h1 : g 1 = f 1
    · by_cases h2 : g 2 = f 2
      · by_cases h3 : g 3 = f 3
        · exact Or.inl ⟨⟨h0.symm, h1.symm, h2.symm, h3.symm⟩, by rw [if_pos h0, if_pos h1, if_pos h2, if_pos h3]⟩
        · exact Or.inr ⟨fun q => h3 q.2.2.2.symm, by rw [if_pos h0, if_pos h1, if_pos h2, if_neg h3]⟩
      · exact Or.inr ⟨fun q => h2 q.2.2.1.symm, by rw [if_pos h0, if_pos h1, if_neg h2]⟩
    · exact Or.inr ⟨fun q => h1 q.2.1.symm, by rw [if_pos h0, if_neg h1]⟩
  · exact Or.inr ⟨fun q => h0 q.1.symm, by rw [if_neg h0]⟩
theorem bec_L (n : Nat) {i : Nat} (hi : i < 13) (f : Nat → Int32) (k : Int32 → (Nat → Int32) → Option ((Nat → Int64) × Int32 × Int32 × (Nat → Int32))) : pX3_become_L33 (n + 1) (nI i) f k = pX3_become_L33 n (nI (i + 1)) (upd f i 0) k := by
  rw [pX3_become_L33, if_neg (by rw [show (12 : Int32) = nI 12 from rfl, nI_ltI (by omega) (by omega)]; omega), ck_t (ix_nI hi (by omega)), nI_clamp (by omega), nI_1]
theorem bec_eq (d : Nat) : ∀ {n i : Nat} {f : Nat → Int32} {k : Int32 → (Nat → Int32) → Option ((Nat → Int64) × Int32 × Int32 × (Nat → Int32))}, i + d = 13 → d + 1 ≤ n → ∃ z, pX3_become_L33 n (nI i) f k = k (nI 13) z ∧ (∀ j, i ≤ j → j < 13 → z j = 0) ∧ (∀ j, j < i → z j = f j) := by
  induction d with
  | zero =>
    intro n i f k h hn
    obtain ⟨m, rfl⟩ : ∃ m, n = m + 1 := ⟨n - 1, by omega⟩
    have : i = 13 := by omega
    subst this
    exact ⟨f, by rw [pX3_become_L33, if_pos (by decide)], fun j h1 h2 => by omega, fun j _ => rfl⟩
  | succ d ih =>
    intro n i f k h hn
    obtain ⟨m, rfl⟩ : ∃ m, n = m + 1 := ⟨n - 1, by omega⟩
    rw [bec_L m (by omega)]
    obtain ⟨z, h1, h2, h3⟩ := ih (n := m) (i := i + 1) (f := upd f i 0) (k := k) (by omega) (by omega)
    refine ⟨z, h1, fun j hj hj2 => ?_, fun j hj => ?_⟩
    · by_cases q : j = i
      · rw [h3 j (by omega), q]; exact pk_us
      · exact h2 j (by omega) hj2
    · rw [h3 j (by omega)]; exact pk_un (by omega)
/-- what is kept of a packing when the root is found anew: all, or nothing -/
theorem frx {n : Nat} (hn : 50000 ≤ n) {now four first : Nat → Int64} {re ls : Int32} {rs : Nat → Int32} (h : GB now) : ∃ (k : Nat) (R : Int32 × Int32 × Int32 × (Nat → Int64) × (Nat → Int64) × Int32 × Int32 × (Nat → Int32)), pX8_findRoot n now four first re ls rs = some R ∧ R.1 = nI k ∧ RT now k R.2.2.2.2.1 ∧
    ((R.2.2.2.2.1 = first ∧ R.2.2.2.2.2.1 = re ∧ R.2.2.2.2.2.2.1 = ls ∧ R.2.2.2.2.2.2.2 = rs) ∨ (R.2.2.2.2.2.1 = -1 ∧ R.2.2.2.2.2.2.1 = 0 ∧ ∀ j, j < 13 → R.2.2.2.2.2.2.2 j = 0)) := by
  obtain ⟨k, r, hr, hk⟩ := RT.ex h
  obtain ⟨la, z, e1, e2⟩ := go_eq hn (four := four) hr hk
  obtain ⟨m, rfl⟩ : ∃ m, n = m + 10 := ⟨n - 10, by omega⟩
  have e3 := ox_eq m z
  have hz := hr.r e2.sym
  unfold pX8_findRoot
  rw [e1, Option.bind_some, e3, Option.bind_some]
  unfold pX3_become
  rcases same_eq (n := m + 10) (by omega) first (srt z) with ⟨q, e4⟩ | ⟨q, e4⟩
  · rw [e4, Option.bind_some, if_neg (by decide)]
    exact ⟨k, _, rfl, rfl, hz.r q, Or.inl ⟨rfl, rfl, rfl, rfl⟩⟩
  · obtain ⟨c, e5, e6⟩ := cx_eq (n := m + 10) (by omega) (srt z) first
    rw [e4, Option.bind_some, if_pos rfl, e5, Option.bind_some, pX6_forget, Option.bind_some, pX1_forget, Option.bind_some, show (0 : Int32) = nI 0 from rfl]
    obtain ⟨w, e7, e8, -⟩ := bec_eq 13 (n := m + 10) (i := 0) (f := rs) (k := fun (y2_8 : Int32) (u8_remainderSets : Nat → Int32) => some (c, (-1 : Int32), nI 0, u8_remainderSets)) (by omega) (by omega)
    rw [e7]
    exact ⟨k, _, rfl, rfl, hz.r e6, Or.inr ⟨rfl, rfl, fun j hj => e8 j (by omega) hj⟩⟩
theorem mcp_L (b : Nat → Int64) (n : Nat) {i : Nat} (hi : i < 4) (f : Nat → Int64) (k : Int32 → (Nat → Int64) → Option (Int32 × Int32 × (Nat → Int64))) : pX9_findRoot_L2 b (n + 1) (nI i) f k = pX9_findRoot_L2 b n (nI (i + 1)) (vp_updL f i (b i)) k := by
  rw [pX9_findRoot_L2, if_neg (by rw [show (4 : Int32) = nI 4 from rfl, nI_leI (by omega) (by omega)]; omega), ck_t (ix_nI hi (by omega)), nI_clamp (by omega), nI_1]
/-- the model's -/
theorem frm {n : Nat} (hn : 50000 ≤ n) {bends ra : Nat → Int64} {w : Int32} {k : Nat} {r : Nat → Int64} (h : RT bends k r) (hk : k < 45000) : ∃ z, pX9_findRoot n bends ra w = some (nI k, (if ∃ i, i < k ∧ w = nI i then nI (sp w.toInt.toNat bends + 1) else -9), z) ∧ eq4 z r := by
  obtain ⟨m, rfl⟩ : ∃ m, n = m + 10 := ⟨n - 10, by omega⟩
  unfold pX9_findRoot
  rw [show (0 : Int32) = nI 0 from rfl, mcp_L bends (m + 9) (i := 0) (by omega), mcp_L bends (m + 8) (i := 0 + 1) (by omega), mcp_L bends (m + 7) (i := 0 + 1 + 1) (by omega), mcp_L bends (m + 6) (i := 0 + 1 + 1 + 1) (by omega), pX9_findRoot_L2, if_pos (by decide)]
  generalize hc : vp_updL (vp_updL (vp_updL (vp_updL ra 0 (bends 0)) (0 + 1) (bends (0 + 1))) (0 + 1 + 1) (bends (0 + 1 + 1))) (0 + 1 + 1 + 1) (bends (0 + 1 + 1 + 1)) = c
  have ec : eq4 bends c := by rw [← hc]; exact ⟨rfl, rfl, rfl, rfl⟩
  obtain ⟨g, h1, h2⟩ := h
  obtain ⟨g', h3, h4⟩ := ec.dn h1
  rw [gm_eq (m + 6), Option.bind_some]
  obtain ⟨z, e⟩ := mroot (w := w) (sa := (-9)) (n := m + 10) (j := 0) (K := fun (y2_12 : Int32) (y3_12 : Int32) (u12_stepAt : Int32) (u12_rootAt : Nat → Int64) => Option.bind (pX9_sortsRoot (m + 10) u12_rootAt) (fun r13 => some (y2_12, u12_stepAt, r13))) h3 (by omega) (by omega)
  rw [e, om_eq m, Option.bind_some, ← ec.sp]
  simp only [Nat.zero_add, Nat.sub_zero]
  exact ⟨srt g', rfl, (h2.tr h4.srt).sym⟩
