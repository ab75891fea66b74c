/-! the start -/
theorem inv_0 : INV0 INV := by
  intro N h1 h2
  refine INV_mk h1 h2 rfl rfl ⟨Or.inl rfl, rfl, rfl, rfl, Or.inl rfl, fun _ => by decide⟩ ⟨rfl, fun k _ => ⟨rfl, Or.inl rfl, fun _ => rfl⟩, Or.inl rfl⟩ (fun i _ => ⟨0, by omega, by decide, by decide⟩) (fun i _ => ⟨rfl, Or.inl rfl⟩) ⟨rfl, rfl, fun i _ _ => rfl⟩ (fun i _ _ => rfl) (S := 0) (E := 0) (r := 0) ?_
  exact ⟨⟨rfl, rfl, rfl, rfl, rfl, rfl⟩, ⟨Nat.le_refl _, by omega, by omega, Nat.le_refl _⟩, fun i hi => absurd hi (by omega), fun i k _ hk => absurd hk (by omega), by rw [if_pos rfl]⟩
