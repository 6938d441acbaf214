/-! ===== one heap for both: the class runs, then the reference ===== -/
theorem both {F G : HP → Option (Int32 × HP)} {σ : HP} (h : Inv2 σ σ) (hop : ∀ s, Inv2 σ s → Res (F σ) (G s) σ s) : ∃ r σ1 σ2, F σ = some (r, σ1) ∧ G σ1 = some (r, σ2) ∧ Inv2 σ2 σ2 := by
  obtain ⟨r, σ1, s1, a1, a2, a3, a4, a5⟩ := hop σ h
  obtain ⟨r', σ1', σ2, b1, b2, b3, b4, b5⟩ := hop σ1 (h.read (fun _ _ => rfl) (fun j hj => a4 j (by omega)))
  rw [a1] at b1
  obtain ⟨rfl, rfl⟩ := Prod.mk.inj (Option.some.inj b1)
  exact ⟨r, σ1, σ2, a1, b2, b3.read (fun j hj => b5 j (by omega)) (fun _ _ => rfl)⟩
theorem bothC {F : HP → Option (Int32 × HP)} {G : HP → Option Int32} {σ : HP} (h : Inv2 σ σ) (hop : ∀ s, Inv2 σ s → ResC (F σ) (G s) σ s) : ∃ r σ1, F σ = some (r, σ1) ∧ G σ1 = some r ∧ Inv2 σ1 σ1 := by
  obtain ⟨r, σ1, a1, a2, a3, a4⟩ := hop σ h
  obtain ⟨r', σ1', b1, b2, b3, b4⟩ := hop σ1 (h.read (fun _ _ => rfl) (fun j hj => a4 j (by omega)))
  rw [a1] at b1
  obtain ⟨rfl, rfl⟩ := Prod.mk.inj (Option.some.inj b1)
  exact ⟨r, σ1, a1, b2, b3⟩
theorem bothP {F G : HP → Option Int32} {σ : HP} (h : Inv2 σ σ) (hop : ∀ s, Inv2 σ s → ResP (F σ) (G s)) : ∃ r, F σ = some r ∧ G σ = some r := hop σ h
