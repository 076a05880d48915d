/-! ===== PURE: the start ===== -/
theorem inv0 : Inv 0 mem0 := by
  have z : ∀ k j, k ≠ 2 → k ≠ 59 → mem0 k j = nI 0 := fun k j h1 h2 => by
    unfold mem0
    simp [h1, h2, nI]
  have m1 : ∀ r, r < 8 → mem0 2 r = -nI 1 ∧ mem0 59 r = -nI 1 := fun r hr => by
    unfold mem0
    simp [hr, nI]
  refine ⟨fun _ => 0, ⟨⟨z _ _ (by omega) (by omega), z _ _ (by omega) (by omega), z _ _ (by omega) (by omega), z _ _ (by omega) (by omega), z _ _ (by omega) (by omega)⟩, fun l hl => absurd hl (Nat.not_lt_zero l), fun r hr => absurd hr (Nat.not_lt_zero r), fun r l hr => absurd hr (Nat.not_lt_zero r)⟩, fun j _ => z _ _ (by omega) (by omega), ⟨by simp, fun l hl => absurd hl (Nat.not_lt_zero l), fun r hr => absurd hr (Nat.not_lt_zero r), fun r l hr => absurd hr (Nat.not_lt_zero r)⟩, ⟨Or.inl ⟨z _ _ (by omega) (by omega), z _ _ (by omega) (by omega)⟩, Or.inl ⟨z _ _ (by omega) (by omega), z _ _ (by omega) (by omega)⟩⟩, ⟨0, 0, fun _ _ => 0, by omega, by omega, z _ _ (by omega) (by omega), z _ _ (by omega) (by omega), z _ _ (by omega) (by omega), rfl, fun i hi => absurd hi (Nat.not_lt_zero i)⟩, fun r hr => Or.inl (m1 r hr), ⟨0, by omega, z _ _ (by omega) (by omega), z _ _ (by omega) (by omega), fun i hi => absurd hi (Nat.not_lt_zero i)⟩, ⟨?_, ?_⟩, ⟨0, by omega, z _ _ (by omega) (by omega), z _ _ (by omega) (by omega), fun i hi => absurd hi (Nat.not_lt_zero i)⟩⟩
  · rw [z _ _ (by omega) (by omega), z _ _ (by omega) (by omega)]
  · rw [z _ _ (by omega) (by omega), z _ _ (by omega) (by omega)]
