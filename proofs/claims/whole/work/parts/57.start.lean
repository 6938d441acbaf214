/-! ===== the first heap ===== -/
def sig0 : HP := fun j k =>
  if j = 134 then nI (57 + 19 * k) else if j = 141 then (if k = 3 then 1 else if k = 5 then 3 else 0) else if kd j = 4 then (if k = 6 then 1 else if k = 8 then 3 else 0) else 0
theorem sig0_st : ∀ (p k : Nat), kd p = 4 → sig0 p k = if k = 6 then 1 else if k = 8 then 3 else 0 := by
  intro p k h
  have h1 : p ≠ 134 := fun z => by rw [z] at h; exact absurd h (by decide +kernel)
  have h2 : p ≠ 141 := fun z => by rw [z] at h; exact absurd h (by decide +kernel)
  unfold sig0
  rw [if_neg h1, if_neg h2, if_pos h]
theorem sig0_z : ∀ (j k : Nat), j ≠ 134 → j ≠ 141 → kd j ≠ 4 → sig0 j k = 0 := by
  intro j k h1 h2 h3
  unfold sig0
  rw [if_neg h1, if_neg h2, if_neg h3]
theorem sig0_m (k : Nat) : sig0 141 k = if k = 3 then 1 else if k = 5 then 3 else 0 := rfl
theorem inv0 : Inv2 sig0 sig0 := by
  have hm : ∀ k, k ≠ 3 → k ≠ 5 → sig0 141 k = 0 := fun k h1 h2 => by rw [sig0_m, if_neg h1, if_neg h2]
  have hz : ∀ j k, j ≠ 134 → j ≠ 141 → kd j ≠ 4 → sig0 j k = 0 := sig0_z
  have k0 : kd 0 = 4 := by decide +kernel
  refine ⟨0, 0, fun i => i, ⟨0, 0, 0, 0, 0, 0, by omega, ⟨by omega, by omega, by omega, hm 0 (by decide) (by decide), hm 10 (by decide) (by decide), hz 1 6 (by decide) (by decide) (by decide +kernel), hz 1 7 (by decide) (by decide) (by decide +kernel), fun k hk => by omega, fun k hk => by omega, fun i k hi => by omega⟩,
    ⟨by omega, hm 6 (by decide) (by decide), hz 8 3 (by decide) (by decide) (by decide +kernel), fun k hk => by omega, fun i k hi hk => by omega⟩,
    ⟨by omega, hm 11 (by decide) (by decide), hz 12 4 (by decide) (by decide) (by decide +kernel), (hz 12 5 (by decide) (by decide) (by decide +kernel)).trans (hm 9 (by decide) (by decide)).symm, fun k hk => by omega⟩,
    ⟨by omega, hm 7 (by decide) (by decide), hz 17 1 (by decide) (by decide) (by decide +kernel), fun k hk => by omega, fun k hk => by rw [hz (0 + 17 + 1) k (by decide) (by decide) (by decide +kernel)]; decide⟩, ?_⟩,
    by omega, hz 133 8 (by decide) (by decide) (by decide +kernel), hz 140 3 (by decide) (by decide) (by decide +kernel), ⟨fun i hi => ⟨hi, rfl⟩, fun i j _ _ h => h⟩, fun i hi => by omega, Or.inl ⟨hz 133 7 (by decide) (by decide) (by decide +kernel), hz 140 5 (by decide) (by decide) (by decide +kernel)⟩, by omega, hz 133 9 (by decide) (by decide) (by decide +kernel), hz 140 7 (by decide) (by decide) (by decide +kernel), fun k hk => by omega, fun k hk => by rw [hz 135 k (by decide) (by decide) (by decide +kernel)]; decide⟩
  refine ⟨hm 1 (by decide) (by decide), sig0_st 0 4 k0, ?_, ?_, ?_, ?_, ?_, ?_, ?_, ?_, ?_⟩
  · rw [sig0_st 0 5 k0]; rfl
  · rw [sig0_st 0 6 k0]; rfl
  · rw [sig0_st 0 7 k0]; rfl
  · rw [sig0_st 0 8 k0]; rfl
  · rw [sig0_st 0 9 k0]; rfl
  · exact ⟨0, by omega, by omega, rfl⟩
  · exact ⟨1, by omega, by omega, rfl⟩
  · exact Or.inl rfl
  · exact ⟨3, by omega, by omega, rfl⟩
