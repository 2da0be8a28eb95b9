theorem IV_zero : IV 0 A0F := by
  have z99 : ∀ c, A0F.1 99 c = 0 := fun c => rfl
  have z100 : ∀ c, A0F.1 100 c = 0 := fun c => rfl
  have z98 : ∀ c, A0F.1 98 c = 0 := fun c => rfl
  refine ⟨⟨?_, ⟨0, Nat.zero_le _, ?_, ?_, fun i hi => by omega⟩, ⟨0, ?_, Nat.le_refl _, fun c _ => ⟨by rw [z99]; decide, by rw [z100]; decide⟩, fun c _ => by rw [z98]; decide⟩, ⟨0, Nat.zero_le _, ?_, ?_, fun _ => rfl, fun k hk => by omega⟩⟩, Or.inl ⟨?_, ?_, ?_, ?_, ?_, ?_, ?_, ?_, ?_, ?_⟩⟩
  · refine ⟨0, 0, fun _ => 0, Nat.zero_le _, Nat.zero_le _, ?_, ?_, ?_, ?_, rfl, fun d hd => ?_, fun d hd => by omega, Nat.zero_le _, ?_, fun j hj => by omega, fun d hd => by omega⟩
    · decide +kernel
    · decide +kernel
    · decide +kernel
    · decide +kernel
    · obtain rfl : d = 0 := (by omega)
      decide +kernel
    · decide +kernel
  all_goals decide +kernel
