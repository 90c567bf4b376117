theorem inv_start (n : Nat) (hn : FU ≤ n) : ∃ (R : Int32 × Int32 × Int32 × (Nat → Int64) × (Nat → Int64) × Int32 × Int32 × (Nat → Int32)), pX8_init n = some R ∧ INV (vp_updL (vp_updL (vp_updL (vp_updL (fun _ => 0) 0 (-1 : Int64)) 1 (2 : Int64)) 2 (2 : Int64)) 3 (3 : Int64)) R.1 R.2.2.2.2.1 (fun _ => 0) R.2.2.2.2.2.1 (fun _ => 0) R.2.2.2.2.2.2.1 R.2.2.2.2.2.2.2 (fun _ => 0) (fun _ => 0) (fun _ => 0) (fun _ => 0) 0 0 0 (fun _ => 0) (fun _ => 0) 0 0 0 (fun _ => 0) (fun _ => 0) 0 0 0 (fun _ => 0) (fun _ => 0) (vp_updL (vp_updL (vp_updL (vp_updL (fun _ => 0) 0 (-1 : Int64)) 1 (2 : Int64)) 2 (2 : Int64)) 3 (3 : Int64)) (fun _ => 0) (fun _ => 0) (upd (upd (upd (fun _ => 0) 0 (-9 : Int32)) 1 (-9 : Int32)) 2 (-9 : Int32)) (fun _ => 0) (fun _ => 0) := by
  have hg : GB (vp_updL (vp_updL (vp_updL (vp_updL (fun _ => 0) 0 (-1 : Int64)) 1 (2 : Int64)) 2 (2 : Int64)) 3 (3 : Int64)) := by
    refine ⟨?_, ?_⟩
    · show GQ (-1) 2 2 3
      unfold GQ
      decide
    · show ((-1000000000 : Int) ≤ -1 ∧ (-1 : Int) ≤ 1000000000) ∧ ((-1000000000 : Int) ≤ 2 ∧ (2 : Int) ≤ 1000000000) ∧ ((-1000000000 : Int) ≤ 2 ∧ (2 : Int) ≤ 1000000000) ∧ ((-1000000000 : Int) ≤ 3 ∧ (3 : Int) ≤ 1000000000)
      decide
  obtain ⟨k, R, e1, e2, e3, e4⟩ := frx (fu1 hn) (four := fun _ => 0) (first := fun _ => 0) (re := -1) (ls := 0) (rs := fun _ => 0) hg
  obtain ⟨k', r', hr', hk'⟩ := RT.ex hg
  have hkk := (RT.det e3 hr').1
  refine ⟨R, e1, ⟨hg, eq4.rf _, k, by omega, e3, e2⟩, ?_, ?_, ?_, ?_, ?_⟩
  · rcases e4 with ⟨a, b, c, d⟩ | ⟨a, b, c⟩
    · exact pk_reset _ _ _ b c (fun j _ => by rw [d])
    · exact pk_reset _ _ _ a b c
  · have h0 : ¬ (0 : Int32) = 1 := by decide
    exact ⟨⟨rfl, Or.inl rfl, fun h => absurd h h0⟩, ⟨rfl, Or.inl rfl, fun h => absurd h h0⟩, ⟨rfl, Or.inl rfl, fun h => absurd h h0⟩⟩
  · exact Or.inl ⟨rfl, rfl, fun _ _ => rfl⟩
  · exact Or.inl ⟨rfl, rfl, fun _ _ => rfl⟩
  · exact Or.inl ⟨rfl, rfl, fun _ _ => rfl⟩
