theorem s0_z {c k : Nat} (h : ¬ (116 ≤ c ∧ c < 132 ∧ c % 2 = 0 ∧ k = 1)) : ct_s0 c k = 0 := if_neg h
theorem t0_z {c k : Nat} (h : ¬ (c = 141 ∧ k < 8)) : ct_t0 c k = 0 := if_neg h
theorem rel_0 : Rel ct_s0 ct_t0 := by
  refine ⟨fun r hr => ⟨Or.inl ⟨if_pos (by omega), if_pos (by omega)⟩, ⟨0, by omega, s0_z (by omega), t0_z (by omega)⟩, fun i hi => ?_⟩, ⟨0, by omega, s0_z (by omega), t0_z (by omega), fun i hi => ⟨?_, 0, by omega, t0_z (by omega)⟩⟩, ⟨0, by omega, s0_z (by omega), t0_z (by omega), fun i hi => absurd hi (by omega)⟩, ⟨fun _ => 0, ?_, fun k hk => t0_z (by omega), Or.inl (fun _ => rfl)⟩, ⟨0, 0, fun _ _ => 0, by omega, by omega, s0_z (by omega), s0_z (by omega), t0_z (by omega), fun i hi => absurd hi (by omega)⟩, fun j hj => Or.inl ⟨s0_z (by omega), t0_z (by omega)⟩, ?_, ?_⟩
  · rw [s0_z (by omega), t0_z (by omega)]
  · rw [s0_z (by omega), t0_z (by omega)]
  · exact ⟨s0_z (by omega), s0_z (by omega), s0_z (by omega), s0_z (by omega), s0_z (by omega), s0_z (by omega), fun f hf => absurd hf (Nat.not_lt_zero _), fun s hs => absurd hs (Nat.not_lt_zero _)⟩
  · rw [s0_z (by omega), t0_z (by omega)]
  · rw [s0_z (by omega), t0_z (by omega)]
