theorem sg0_I (a j : Nat) : rI sg0 a j = 0 := rfl
theorem Rep0 (M : Nat) : Rep sg0 M (fun _ => 0) := by
  have r : ∀ k, rowIs sg0 k 0 (fun _ => (0 : Int32)) := fun k => ⟨Nat.zero_le _, rfl, fun j hj => absurd hj (by omega)⟩
  refine ⟨0, 0, 0, 0, 0, 0, ⟨⟨rfl, by omega⟩, ⟨rfl, by omega⟩, ⟨rfl, by omega⟩, ⟨rfl, by omega⟩, ⟨rfl, by omega⟩, rfl, by omega⟩, ⟨fun k hk => absurd hk (by omega), fun k hk => absurd hk (by omega), fun k hk => absurd hk (by omega), fun k hk => absurd hk (by omega), mom_zero _ _ _ _ _ rfl, fun k hk => absurd hk (by omega)⟩, r _, r _, r _, r _, r _, r _, r _, r _, rfl, rfl, r _, r _⟩
theorem Inv_sg0 : Inv sg0 := by
  refine ⟨(Rep0 1).cong (fun j _ => (sg0_I 113 j).symm), ⟨0, by omega, rfl, ⟨Nat.zero_le _, rfl, fun j hj => absurd hj (by omega)⟩, fun j hj => absurd hj (by omega)⟩, ⟨0, 0, by omega, by omega, rfl, rfl, rfl, fun h => absurd h (by omega), fun h => absurd h (by omega)⟩, ⟨?_, ?_⟩, rfl, rfl, rfl⟩
  · rfl
  · rfl
