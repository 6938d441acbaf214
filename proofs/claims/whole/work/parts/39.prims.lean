/-! ===== what the writers do to the cells ===== -/
section PR1
variable {N q : Nat} {σ0 : HP}
/-- the log's object q: one more tangle -/
theorem cAdd_l {a1 a2 a3 a4 : Int32} : ∀ (d m : Nat) (σ : HP), d ≤ 7 → d < m → (∀ j, j ≠ q + 1 → j ≠ q + 2 → j ≠ q + 3 → j ≠ q + 4 → σ j = σ0 j) →
    (∀ v, 1 ≤ v → v ≤ 4 → ∀ k, k < 8 → σ (q + v) k = if d < k then σ0 (q + v) (k - 1) else σ0 (q + v) k) →
    ∃ σ', L_X5_add_4 N m q a1 a2 a3 a4 (nI d) σ = some σ' ∧ (∀ j, j < q ∨ q + 4 < j → σ' j = σ0 j) ∧ (∀ i, i ≠ 4 → i ≠ 5 → σ' q i = σ0 q i) ∧
      σ' q 4 = (if 8 < σ0 q 4 + 1 then 8 else σ0 q 4 + 1) ∧ σ' q 5 = σ0 q 5 + 1 ∧ σ' (q + 1) 0 = a1 ∧ σ' (q + 2) 0 = a2 ∧ σ' (q + 3) 0 = a3 ∧ σ' (q + 4) 0 = a4 ∧
      ∀ v, 1 ≤ v → v ≤ 4 → ∀ k, 0 < k → k < 8 → σ' (q + v) k = σ0 (q + v) (k - 1) := by
  intro d
  induction d with
  | zero =>
    intro m σ hd hm h1 h2
    obtain ⟨m, rfl⟩ : ∃ m', m = m' + 1 := ⟨m - 1, by omega⟩
    rw [L_X5_add_4, if_pos (by decide)]
    simp only [bd_t, show ix 0 = 0 from rfl]
    have hq := h1 q (by omega) (by omega) (by omega) (by omega)
    refine ⟨_, rfl, fun j hj => ?_, fun i i1 i2 => ?_, ?_, ?_, ?_, ?_, ?_, ?_, fun v v1 v2 k k1 k2 => ?_⟩
    · rw [wr_n (by omega), wr_n (by omega), wr_n (by omega), wr_n (by omega), wr_n (by omega), wr_n (by omega)]
      exact h1 j (by omega) (by omega) (by omega) (by omega)
    · rw [wr_s, upd_n i2, wr_s, upd_n i1, wr_n (by omega), wr_n (by omega), wr_n (by omega), wr_n (by omega), hq]
    · rw [wr_s, upd_n (by decide), wr_s, upd_s, wr_n (by omega), wr_n (by omega), wr_n (by omega), wr_n (by omega), hq]
    · rw [wr_s, upd_s, wr_s, upd_n (by decide), wr_n (by omega), wr_n (by omega), wr_n (by omega), wr_n (by omega), hq]
    · rw [wr_n (by omega), wr_n (by omega), wr_n (by omega), wr_n (by omega), wr_n (by omega), wr_s, upd_s]
    · rw [wr_n (by omega), wr_n (by omega), wr_n (by omega), wr_n (by omega), wr_s, upd_s]
    · rw [wr_n (by omega), wr_n (by omega), wr_n (by omega), wr_s, upd_s]
    · rw [wr_n (by omega), wr_n (by omega), wr_s, upd_s]
    · rw [wr_n (by omega), wr_n (by omega)]
      have h := h2 v v1 v2 k k2
      rw [if_pos k1] at h
      rcases (show v = 1 ∨ v = 2 ∨ v = 3 ∨ v = 4 by omega) with rfl | rfl | rfl | rfl
      · rw [wr_n (by omega), wr_n (by omega), wr_n (by omega), wr_s, upd_n (by omega), h]
      · rw [wr_n (by omega), wr_n (by omega), wr_s, upd_n (by omega), wr_n (by omega), h]
      · rw [wr_n (by omega), wr_s, upd_n (by omega), wr_n (by omega), wr_n (by omega), h]
      · rw [wr_s, upd_n (by omega), wr_n (by omega), wr_n (by omega), wr_n (by omega), h]
  | succ d ih =>
    intro m σ hd hm h1 h2
    obtain ⟨m, rfl⟩ : ∃ m', m = m' + 1 := ⟨m - 1, by omega⟩
    rw [L_X5_add_4, if_neg (by rw [l0, le_n (by omega) (by omega)]; omega)]
    simp (disch := omega) only [l1, sub_n, addm_n, Nat.add_sub_cancel, in_n, gd_True, ix_n, bd_t]
    refine ih m _ (by omega) (by omega) (fun j j1 j2 j3 j4 => by rw [wr_n j4, wr_n j3, wr_n j2, wr_n j1]; exact h1 j j1 j2 j3 j4) (fun v v1 v2 k hk => ?_)
    have hv : ∀ {s : HP}, s (q + v) = σ (q + v) → (upd (s (q + v)) (d + 1) (σ (q + v) d)) k = if d < k then σ0 (q + v) (k - 1) else σ0 (q + v) k := by
      intro s hs
      rw [hs]
      by_cases e : k = d + 1
      · rw [e, upd_s, if_pos (by omega), h2 v v1 v2 d (by omega), if_neg (by omega)]
        rfl
      · rw [upd_n e, h2 v v1 v2 k hk]
        by_cases c : d < k
        · rw [if_pos c, if_pos (by omega)]
        · rw [if_neg c, if_neg (by omega)]
    rcases (show v = 1 ∨ v = 2 ∨ v = 3 ∨ v = 4 by omega) with rfl | rfl | rfl | rfl
    · rw [wr_n (by omega), wr_n (by omega), wr_n (by omega), wr_s]
      exact hv rfl
    · rw [wr_n (by omega), wr_n (by omega), wr_s, wr_n (j := q + 1) (i := q + 2) (by omega)]
      exact hv rfl
    · rw [wr_n (by omega), wr_s, wr_n (j := q + 2) (i := q + 3) (by omega), wr_n (j := q + 1) (i := q + 3) (by omega)]
      exact hv rfl
    · rw [wr_s, wr_n (j := q + 3) (i := q + 4) (by omega), wr_n (j := q + 2) (i := q + 4) (by omega), wr_n (j := q + 1) (i := q + 4) (by omega)]
      exact hv rfl
theorem cAdd_n (hN : 200 ≤ N) {a1 a2 a3 a4 : Int32} : ∃ σ', F_X5_add N q a1 a2 a3 a4 σ0 = some σ' ∧ (∀ j, j < q ∨ q + 4 < j → σ' j = σ0 j) ∧ (∀ i, i ≠ 4 → i ≠ 5 → σ' q i = σ0 q i) ∧
      σ' q 4 = (if 8 < σ0 q 4 + 1 then 8 else σ0 q 4 + 1) ∧ σ' q 5 = σ0 q 5 + 1 ∧ σ' (q + 1) 0 = a1 ∧ σ' (q + 2) 0 = a2 ∧ σ' (q + 3) 0 = a3 ∧ σ' (q + 4) 0 = a4 ∧
      ∀ v, 1 ≤ v → v ≤ 4 → ∀ k, 0 < k → k < 8 → σ' (q + v) k = σ0 (q + v) (k - 1) := by
  unfold F_X5_add
  exact cAdd_l 7 N σ0 (by omega) (by omega) (fun _ _ _ _ _ => rfl) (fun v _ _ k hk => by rw [if_neg (by omega)])
/-- the reference's log -/
theorem mLogs_l {r k g : Nat} {b : Int32} (hk : k + 1 < 12) (hg : g ≤ 8) (hg0 : σ0 r 11 = nI g) : ∀ (d m : Nat) (σ : HP), d ≤ 28 → d < m → (∀ j, j ≠ r → σ j = σ0 j) → (∀ i, i < 152 → σ r i = if 123 + d < i then σ0 r (i - 4) else σ0 r i) →
    ∃ σ', L_X8_logs_3 N m r (nI k) b (nI (d + 3)) σ = some σ' ∧ (∀ j, j ≠ r → σ' j = σ0 j) ∧ σ' r 11 = nI (min (g + 1) 8) ∧ σ' r 120 = σ0 r 1 ∧ σ' r 121 = σ0 r (12 + 6 * k) ∧ σ' r 122 = σ0 r (12 + 6 * (k + 1)) ∧ σ' r 123 = b ∧
      (∀ i, 124 ≤ i → i < 152 → σ' r i = σ0 r (i - 4)) ∧ ∀ i, i < 120 → i ≠ 11 → σ' r i = σ0 r i := by
  intro d
  induction d with
  | zero =>
    intro m σ hd hm h1 h2
    obtain ⟨m, rfl⟩ : ∃ m', m = m' + 1 := ⟨m - 1, by omega⟩
    have hlow : ∀ i, i < 124 → σ r i = σ0 r i := fun i hi => by rw [h2 i (by omega), if_neg (by omega)]
    rw [L_X8_logs_3, if_pos (by decide), show ix 120 = 120 from rfl, show ix 1 = 1 from rfl, show ix 121 = 121 from rfl, show ix 122 = 122 from rfl, show ix 123 = 123 from rfl, show ix 11 = 11 from rfl]
    rw [bd_t, l0, of_n (by omega) (by decide), bind_t, bd_t, nI_1, of_n hk (by decide), bind_t, bd_t, bd_t]
    unfold J_X8_logs_81
    have e11 : ∀ x y z w : Int32, wr (wr (wr (wr σ r 120 x) r 121 y) r 122 z) r 123 w r 11 = nI g := fun x y z w => by
      rw [wr_s, upd_n (by decide), wr_s, upd_n (by decide), wr_s, upd_n (by decide), wr_s, upd_n (by decide), hlow 11 (by decide), hg0]
    rw [e11]
    have h11 : ∀ v : Int32, v = nI (min (g + 1) 8) → ∃ σ', gd (vp_in 11 152) (bd (wr (wr (wr (wr (wr σ r 120 (σ r 1)) r 121 (wr σ r 120 (σ r 1) r (12 + 6 * k + 0))) r 122 (wr (wr σ r 120 (σ r 1)) r 121 (wr σ r 120 (σ r 1) r (12 + 6 * k + 0)) r (12 + 6 * (k + 1) + 0))) r 123 b) r (ix 11) v) fun σ22 => some σ22) = some σ' ∧ (∀ j, j ≠ r → σ' j = σ0 j) ∧ σ' r 11 = nI (min (g + 1) 8) ∧ σ' r 120 = σ0 r 1 ∧ σ' r 121 = σ0 r (12 + 6 * k) ∧ σ' r 122 = σ0 r (12 + 6 * (k + 1)) ∧ σ' r 123 = b ∧
      (∀ i, 124 ≤ i → i < 152 → σ' r i = σ0 r (i - 4)) ∧ ∀ i, i < 120 → i ≠ 11 → σ' r i = σ0 r i := by
      intro v hv
      rw [l11, in_n (by omega) (by omega), gd_True, bd_t, ix_n (by omega)]
      refine ⟨_, rfl, fun j hj => ?_, ?_, ?_, ?_, ?_, ?_, fun i i1 i2 => ?_, fun i i1 i2 => ?_⟩
      · rw [wr_n hj, wr_n hj, wr_n hj, wr_n hj, wr_n hj]; exact h1 j hj
      · rw [wr_s, upd_s]; exact hv
      · rw [wr_s, upd_n (by decide), wr_s, upd_n (by decide), wr_s, upd_n (by decide), wr_s, upd_n (by decide), wr_s, upd_s]; exact hlow 1 (by decide)
      · rw [wr_s, upd_n (by decide), wr_s, upd_n (by decide), wr_s, upd_n (by decide), wr_s, upd_s, wr_s, upd_n (by omega)]; exact hlow _ (by omega)
      · rw [wr_s, upd_n (by decide), wr_s, upd_n (by decide), wr_s, upd_s, wr_s, upd_n (by omega), wr_s, upd_n (by omega)]; exact hlow _ (by omega)
      · rw [wr_s, upd_n (by decide), wr_s, upd_s]
      · rw [wr_s, upd_n (by omega), wr_s, upd_n (by omega), wr_s, upd_n (by omega), wr_s, upd_n (by omega), wr_s, upd_n (by omega), h2 i i2, if_pos (by omega)]
      · rw [wr_s, upd_n (by omega), wr_s, upd_n (by omega), wr_s, upd_n (by omega), wr_s, upd_n (by omega), wr_s, upd_n (by omega)]; exact hlow i (by omega)
    by_cases c : (8 : Int32) ≤ nI g
    · rw [if_pos c]
      rw [l8, le_n (by omega) (by omega)] at c
      exact h11 _ (by rw [← l0, Int32.add_zero, show min (g + 1) 8 = g by omega])
    · rw [if_neg c]
      rw [l8, le_n (by omega) (by omega)] at c
      exact h11 _ (by rw [nI_1, show min (g + 1) 8 = g + 1 by omega])
  | succ d ih =>
    intro m σ hd hm h1 h2
    obtain ⟨m, rfl⟩ : ∃ m', m = m' + 1 := ⟨m - 1, by omega⟩
    rw [L_X8_logs_3, if_neg (by rw [l3, le_n (by omega) (by omega)]; omega)]
    simp (disch := omega) only [l120, l4, l1, nI_add, sub_n, addm_n, in_n, gd_True, ix_n, bd_t]
    rw [show d + 1 + 3 - 1 = d + 3 by omega]
    refine ih m _ (by omega) (by omega) (fun j hj => by rw [wr_n hj]; exact h1 j hj) (fun i hi => ?_)
    rw [wr_s]
    by_cases e : i = 120 + (d + 1 + 3)
    · rw [e, upd_s, if_pos (by omega), h2 _ (by omega), if_neg (by omega)]
    · rw [upd_n e, h2 i hi]
      by_cases c : 123 + d < i
      · rw [if_pos c, if_pos (by omega)]
      · rw [if_neg c, if_neg (by omega)]
theorem mLogs_n (hN : 200 ≤ N) {r k g : Nat} {b : Int32} (hk : k + 1 < 12) (hg : g ≤ 8) (hg0 : σ0 r 11 = nI g) : ∃ σ', F_X8_logs N r (nI k) b σ0 = some σ' ∧ (∀ j, j ≠ r → σ' j = σ0 j) ∧ σ' r 11 = nI (min (g + 1) 8) ∧ σ' r 120 = σ0 r 1 ∧ σ' r 121 = σ0 r (12 + 6 * k) ∧ σ' r 122 = σ0 r (12 + 6 * (k + 1)) ∧ σ' r 123 = b ∧
      (∀ i, 124 ≤ i → i < 152 → σ' r i = σ0 r (i - 4)) ∧ ∀ i, i < 120 → i ≠ 11 → σ' r i = σ0 r i := by
  unfold F_X8_logs
  exact mLogs_l hk hg hg0 28 N σ0 (by omega) (by omega) (fun _ _ => rfl) (fun i hi => by rw [if_neg (by omega)])
/-- what a tangle of the places k and k + 1 does to the reference's row -/
def TgE (μ μ' : Nat → Int32) (k g : Nat) (b : Int32) : Prop :=
  μ' (12 + 6 * k + 3) = μ (12 + 6 * (k + 1)) ∧ μ' (12 + 6 * (k + 1) + 3) = μ (12 + 6 * k) ∧ μ' (12 + 6 * k + 4) = μ 5 ∧ μ' (12 + 6 * (k + 1) + 4) = μ 5 ∧ μ' 9 = μ 9 + 1 ∧ μ' 11 = nI (min (g + 1) 8) ∧
  μ' 120 = μ 1 ∧ μ' 121 = μ (12 + 6 * k) ∧ μ' 122 = μ (12 + 6 * (k + 1)) ∧ μ' 123 = b ∧ (∀ i, 124 ≤ i → i < 152 → μ' i = μ (i - 4)) ∧
  ∀ i, i < 120 → i ≠ 9 → i ≠ 11 → i ≠ 12 + 6 * k + 3 → i ≠ 12 + 6 * k + 4 → i ≠ 12 + 6 * (k + 1) + 3 → i ≠ 12 + 6 * (k + 1) + 4 → μ' i = μ i
theorem mTangles_n (hN : 200 ≤ N) {r k g : Nat} {b : Int32} (hk : k + 1 < 12) (hg : g ≤ 8) (hg0 : σ0 r 11 = nI g) : ∃ σ', F_X8_tangles N r (nI k) b σ0 = some σ' ∧ (∀ j, j ≠ r → σ' j = σ0 j) ∧ TgE (σ0 r) (σ' r) k g b := by
  unfold F_X8_tangles
  rw [nI_1, l0, l3, l4, of_n hk (by decide), bind_t, puts_n (by omega) (by decide), bind_t, of_n (by omega) (by decide), bind_t, puts_n hk (by decide), bind_t]
  rw [show ix 5 = 5 from rfl, show ix 9 = 9 from rfl]
  rw [puts_n (by omega) (by decide), bind_t, puts_n hk (by decide), bind_t, bd_t]
  generalize hs : wr _ r 9 _ = s
  have e0 : ∀ i, i ≠ 9 → i ≠ 12 + 6 * k + 3 → i ≠ 12 + 6 * k + 4 → i ≠ 12 + 6 * (k + 1) + 3 → i ≠ 12 + 6 * (k + 1) + 4 → s r i = σ0 r i := fun i i1 i2 i3 i4 i5 => by
    rw [← hs, wr_s, upd_n i1, wr_s, upd_n i5, wr_s, upd_n i3, wr_s, upd_n i4, wr_s, upd_n i2]
  have e3 : s r (12 + 6 * k + 3) = σ0 r (12 + 6 * (k + 1)) := by
    rw [← hs, wr_s, upd_n (by omega), wr_s, upd_n (by omega), wr_s, upd_n (by omega), wr_s, upd_n (by omega), wr_s, upd_s]; rfl
  have e3' : s r (12 + 6 * (k + 1) + 3) = σ0 r (12 + 6 * k) := by
    rw [← hs, wr_s, upd_n (by omega), wr_s, upd_n (by omega), wr_s, upd_n (by omega), wr_s, upd_s, wr_s, upd_n (by omega)]; rfl
  have e4 : s r (12 + 6 * k + 4) = σ0 r 5 := by
    rw [← hs, wr_s, upd_n (by omega), wr_s, upd_n (by omega), wr_s, upd_s, wr_s, upd_n (by omega), wr_s, upd_n (by omega)]
  have e4' : s r (12 + 6 * (k + 1) + 4) = σ0 r 5 := by
    rw [← hs, wr_s, upd_n (by omega), wr_s, upd_s, wr_s, upd_n (by omega), wr_s, upd_n (by omega), wr_s, upd_n (by omega)]
  have e9 : s r 9 = σ0 r 9 + 1 := by
    rw [← hs, wr_s, upd_s, wr_s, upd_n (by omega), wr_s, upd_n (by omega), wr_s, upd_n (by omega), wr_s, upd_n (by omega)]
  have es : ∀ j, j ≠ r → s j = σ0 j := fun j hj => by rw [← hs, wr_n hj, wr_n hj, wr_n hj, wr_n hj, wr_n hj]
  obtain ⟨s', a1, a2, a3, a4, a5, a6, a7, a8, a9⟩ := mLogs_n (N := N) (σ0 := s) (r := r) (k := k) (g := g) (b := b) hN hk hg (by rw [e0 11 (by omega) (by omega) (by omega) (by omega) (by omega)]; exact hg0)
  rw [a1, bind_t]
  refine ⟨s', rfl, fun j hj => by rw [a2 j hj, es j hj], ?_, ?_, ?_, ?_, ?_, a3, ?_, ?_, ?_, a7, fun i i1 i2 => ?_, fun i i1 i2 i3 i4 i5 i6 i7 => ?_⟩
  · rw [a9 _ (by omega) (by omega), e3]
  · rw [a9 _ (by omega) (by omega), e3']
  · rw [a9 _ (by omega) (by omega), e4]
  · rw [a9 _ (by omega) (by omega), e4']
  · rw [a9 _ (by omega) (by omega), e9]
  · rw [a4, e0 1 (by omega) (by omega) (by omega) (by omega) (by omega)]
  · rw [a5, e0 _ (by omega) (by omega) (by omega) (by omega) (by omega)]
  · rw [a6, e0 _ (by omega) (by omega) (by omega) (by omega) (by omega)]
  · rw [a8 i i1 i2, e0 _ (by omega) (by omega) (by omega) (by omega) (by omega)]
  · rw [a9 i i1 i3, e0 i i2 i4 i5 i6 i7]
end PR1
/-- nothing outside a state's nineteen cells -/
def FrC (p : Nat) (σ σ' : HP) : Prop := ∀ j, j < p ∨ p + 19 ≤ j → σ' j = σ j
theorem FrC.rf {p : Nat} {σ : HP} : FrC p σ σ := fun _ _ => rfl
theorem FrC.trans {p : Nat} {σ σ' σ'' : HP} (h : FrC p σ σ') (h' : FrC p σ' σ'') : FrC p σ σ'' := fun j hj => (h' j hj).trans (h j hj)
theorem WordR.mu {σ : HP} {q : Nat} {μ μ' : Nat → Int32} {l : Nat} (h : WordR σ q μ l) (h7 : μ' 7 = μ 7) (hm : ∀ i, 108 ≤ i → i < 120 → μ' i = μ i) : WordR σ q μ' l := h.congr (fun _ _ _ => rfl) h7 hm
theorem tgM_of {μ μ' : Nat → Int32} {k : Nat} (h : μ' (12 + 6 * k + 4) = μ (12 + 6 * k + 4)) : tgM μ' k ↔ tgM μ k := by unfold tgM; rw [h]
/-- two neighbours are tangled, in both -/
theorem tangle_n {N p r n e t g l mi k : Nat} {σ s : HP} {b : Int32} (hN : 200 ≤ N) (h : SRx σ p (s r) n e t g l mi) (hk : k + 1 < n) (f1 : ¬ tgM (s r) k) (f2 : ¬ tgM (s r) (k + 1)) (hb : b = 0 ∨ b = 1) :
    ∃ σ' s', F_X4_tangleAt N p (nI k) b σ = some σ' ∧ F_X8_tangles N r (nI k) b s = some s' ∧ FrC p σ σ' ∧ (∀ j, j ≠ r → s' j = s j) ∧ SRx σ' p (s' r) n e t (min (g + 1) 8) l mi ∧ TgE (s r) (s' r) k g b := by
  obtain ⟨hR, hPl, hLg, hW, hSc⟩ := h
  have hn := hR.1
  have hg := hLg.1
  obtain ⟨s', m1, m2, mE⟩ := mTangles_n (N := N) (σ0 := s) (r := r) (k := k) (g := g) (b := b) hN (by omega) hg hLg.2.1
  have mE0 := mE
  obtain ⟨x1, x2, x3, x4, x5, x6, x7, x8, x9, x10, x11, x12⟩ := mE
  -- the class
  have hcT : F_X4_tangleAt N p (nI k) b σ = (F_X5_add N (p + 12) (nI mi) (s r (12 + 6 * k)) (s r (12 + 6 * (k + 1))) b (wr (wr (wr (wr σ (p + 1 + 4) k 1) (p + 1 + 4) (k + 1) (-1)) (p + 1 + 5) k (s r 5)) (p + 1 + 5) (k + 1) (s r 5))).bind (fun σ28 => some σ28) := by
    unfold F_X4_tangleAt F_X3_tie
    simp (disch := omega) only [nI_1, in_n, gd_True, ix_n, bd_t, bind_t]
    have hA : ∀ z : HP, F_X7_asNumber N b z = some b := fun z => by
      unfold F_X7_asNumber
      rcases hb with rfl | rfl
      · rw [if_pos rfl]
      · rw [if_neg (by decide)]
    rw [hA, bind_t, hSc.2.2.2.2.2.1]
    rw [wr_n (show p ≠ p + 1 + 5 by omega), wr_n (show p ≠ p + 1 + 5 by omega), wr_n (show p ≠ p + 1 + 4 by omega), wr_n (show p ≠ p + 1 + 4 by omega), hSc.2.1]
    rw [wr_n (show p + 1 + 1 ≠ p + 1 + 5 by omega), wr_n (show p + 1 + 1 ≠ p + 1 + 5 by omega), wr_n (show p + 1 + 1 ≠ p + 1 + 4 by omega), wr_n (show p + 1 + 1 ≠ p + 1 + 4 by omega)]
    rw [(hR.2.2.2.2.2.2.2.1 k (by omega)).1, (hR.2.2.2.2.2.2.2.1 (k + 1) hk).1]
  generalize hσ1 : (wr (wr (wr (wr σ (p + 1 + 4) k 1) (p + 1 + 4) (k + 1) (-1)) (p + 1 + 5) k (s r 5)) (p + 1 + 5) (k + 1) (s r 5)) = σ1 at hcT
  have y1 : ∀ j, j ≠ p + 1 + 4 → j ≠ p + 1 + 5 → σ1 j = σ j := fun j j1 j2 => by rw [← hσ1, wr_n j2, wr_n j2, wr_n j1, wr_n j1]
  have y4 : ∀ i, σ1 (p + 1 + 4) i = if i = k + 1 then -1 else if i = k then 1 else σ (p + 1 + 4) i := fun i => by
    rw [← hσ1, wr_n (by omega), wr_n (by omega), wr_s]
    by_cases c : i = k + 1
    · rw [c, upd_s, if_pos rfl]
    · rw [upd_n c, if_neg c, wr_s]
      by_cases c2 : i = k
      · rw [c2, upd_s, if_pos rfl]
      · rw [upd_n c2, if_neg c2]
  have y5 : ∀ i, σ1 (p + 1 + 5) i = if i = k + 1 then s r 5 else if i = k then s r 5 else σ (p + 1 + 5) i := fun i => by
    rw [← hσ1, wr_s]
    by_cases c : i = k + 1
    · rw [c, upd_s, if_pos rfl]
    · rw [upd_n c, if_neg c, wr_s]
      by_cases c2 : i = k
      · rw [c2, upd_s, if_pos rfl]
      · rw [upd_n c2, if_neg c2, wr_n (by omega), wr_n (by omega)]
  obtain ⟨σ', z1, z2, z3, z4, z5, z6, z7, z8, z9, z10⟩ := cAdd_n (N := N) (q := p + 12) (σ0 := σ1) (a1 := nI mi) (a2 := s r (12 + 6 * k)) (a3 := s r (12 + 6 * (k + 1))) (a4 := b) hN
  rw [z1, bind_t] at hcT
  have w : ∀ j, j < p + 12 → σ' j = σ1 j := fun j hj => z2 j (by omega)
  have hst : bn (s r 5) 1 9 := hSc.2.2.2.2.2.2.2.2.2.2
  have hst0 : s r 5 ≠ 0 := by
    obtain ⟨i, i1, i2, i3⟩ := hst
    rw [i3, l0]
    intro z
    rw [eq_n (by omega) (by omega)] at z
    omega
  refine ⟨σ', s', hcT, m1, fun j hj => ?_, m2, ⟨?_, ?_, ?_, ?_, ?_⟩, mE0⟩
  · rw [z2 j (by omega), y1 j (by omega) (by omega)]
  · -- the row
    obtain ⟨a1, a2, a3, a4, a5, a6, a7, a8, a9, a10⟩ := hR
    have hnum : ∀ i, i < 12 → s' r (12 + 6 * i) = s r (12 + 6 * i) := fun i hi => x12 _ (by omega) (by omega) (by omega) (by omega) (by omega) (by omega) (by omega)
    have hfree : ∀ i, i < n → (i = k ∨ i = k + 1) → σ (p + 1 + 4) i = 0 := fun i hi hc => by
      rcases hc with rfl | rfl
      · exact (RowR.tg ⟨a1, a2, a3, a4, a5, a6, a7, a8, a9, a10⟩ hi).mpr f1
      · exact (RowR.tg ⟨a1, a2, a3, a4, a5, a6, a7, a8, a9, a10⟩ hi).mpr f2
    refine ⟨a1, a2, a3, ?_, ?_, ?_, ?_, fun i hi => ?_, fun i hi => ?_, fun i j hi hj => ?_⟩
    · rw [x12 0 (by omega) (by omega) (by omega) (by omega) (by omega) (by omega) (by omega)]; exact a4
    · rw [x12 10 (by omega) (by omega) (by omega) (by omega) (by omega) (by omega) (by omega)]; exact a5
    · rw [w _ (by omega), y1 _ (by omega) (by omega)]; exact a6
    · rw [w _ (by omega), y1 _ (by omega) (by omega)]; exact a7
    · have h8 := a8 i hi
      obtain ⟨b1, b2, b3, b4, b5, b6, b7, b8⟩ := h8
      refine ⟨?_, ?_, ?_, ?_, ?_, ?_, ?_, ?_⟩
      · rw [w _ (by omega), y1 _ (by omega) (by omega), hnum i (by omega)]; exact b1
      · rw [w _ (by omega), y1 _ (by omega) (by omega), x12 _ (by omega) (by omega) (by omega) (by omega) (by omega) (by omega) (by omega)]; exact b2
      · rw [w _ (by omega), y1 _ (by omega) (by omega), x12 _ (by omega) (by omega) (by omega) (by omega) (by omega) (by omega) (by omega)]; exact b3
      · rw [w _ (by omega), y5 i]
        by_cases c : i = k + 1
        · rw [if_pos c, c, x4]
        · rw [if_neg c]
          by_cases c2 : i = k
          · rw [if_pos c2, c2, x3]
          · rw [if_neg c2, x12 _ (by omega) (by omega) (by omega) (by omega) (by omega) (by omega) (by omega)]; exact b4
      · rw [w _ (by omega), y1 _ (by omega) (by omega), x12 _ (by omega) (by omega) (by omega) (by omega) (by omega) (by omega) (by omega)]; exact b5
      · rw [hnum i (by omega)]; exact b6
      · rw [x12 _ (by omega) (by omega) (by omega) (by omega) (by omega) (by omega) (by omega)]; exact b7
      · by_cases c : i = k + 1
        · rw [c, x4]; obtain ⟨i', i1, i2, i3⟩ := hst; exact ⟨i', by omega, i2, i3⟩
        · by_cases c2 : i = k
          · rw [c2, x3]; obtain ⟨i', i1, i2, i3⟩ := hst; exact ⟨i', by omega, i2, i3⟩
          · rw [x12 _ (by omega) (by omega) (by omega) (by omega) (by omega) (by omega) (by omega)]; exact b8
    · have e4 : ∀ j, σ' (p + 1 + 4) j = if j = k + 1 then -1 else if j = k then 1 else σ (p + 1 + 4) j := fun j => by rw [w _ (by omega), y4 j]
      unfold MateR
      by_cases c : i = k + 1
      · subst c
        refine Or.inr (Or.inr ⟨by rw [e4, if_pos rfl], by rw [x4]; exact hst0, k, rfl, by rw [e4, if_neg (by omega), if_pos rfl], by rw [x2, hnum k (by omega)], by rw [x3, x4]⟩)
      · by_cases c2 : i = k
        · subst c2
          refine Or.inr (Or.inl ⟨by rw [e4, if_neg c, if_pos rfl], by rw [x3]; exact hst0, by omega, by rw [e4, if_pos rfl], by rw [x1, hnum (i + 1) (by omega)], by rw [x3, x4]⟩)
        · have h9 := a9 i hi
          have o3 : s' r (12 + 6 * i + 3) = s r (12 + 6 * i + 3) := x12 _ (by omega) (by omega) (by omega) (by omega) (by omega) (by omega) (by omega)
          have o4 : s' r (12 + 6 * i + 4) = s r (12 + 6 * i + 4) := x12 _ (by omega) (by omega) (by omega) (by omega) (by omega) (by omega) (by omega)
          rw [e4, if_neg c, if_neg c2, o3, o4]
          rcases h9 with h9 | ⟨g1, g2, g3, g4, g5, g6⟩ | ⟨g1, g2, j, g3, g4, g5, g6⟩
          · exact Or.inl h9
          · have d1 : i + 1 ≠ k := fun z => by
              have := hfree (i + 1) (by omega) (Or.inl z)
              rw [g4] at this
              exact absurd this (by decide)
            refine Or.inr (Or.inl ⟨g1, g2, g3, ?_, ?_, ?_⟩)
            · rw [e4, if_neg (by omega), if_neg (by omega)]; exact g4
            · rw [hnum (i + 1) (by omega)]; exact g5
            · rw [x12 _ (by omega) (by omega) (by omega) (by omega) (by omega) (by omega) (by omega)]; exact g6
          · have d1 : j ≠ k + 1 := fun z => by
              have := hfree j (by omega) (Or.inr z)
              rw [g4] at this
              exact absurd this (by decide)
            refine Or.inr (Or.inr ⟨g1, g2, j, g3, ?_, ?_, ?_⟩)
            · rw [e4, if_neg (by omega), if_neg (by omega)]; exact g4
            · rw [hnum j (by omega)]; exact g5
            · rw [x12 _ (by omega) (by omega) (by omega) (by omega) (by omega) (by omega) (by omega)]; exact g6
    · rw [hnum i (by omega), hnum j (by omega)]
      exact a10 i j hi hj
  · exact hPl.congr (fun j j1 j2 => by rw [w _ (by omega), y1 _ (by omega) (by omega)]) (x12 6 (by omega) (by omega) (by omega) (by omega) (by omega) (by omega) (by omega)) (fun i i1 i2 => x12 i (by omega) (by omega) (by omega) (by omega) (by omega) (by omega) (by omega))
  · -- the log
    obtain ⟨c1, c2, c3, c4, c5⟩ := hLg
    have q0 : σ1 (p + 12) = σ (p + 12) := y1 _ (by omega) (by omega)
    refine ⟨by omega, x6, ?_, ?_, fun i hi => ?_⟩
    · rw [z4, q0, c3, nI_1]
      by_cases c : 8 < g + 1
      · rw [if_pos (by rw [l8, lt_n (by omega) (by omega)]; exact c), show min (g + 1) 8 = 8 by omega]; rfl
      · rw [if_neg (by rw [l8, lt_n (by omega) (by omega)]; exact c), show min (g + 1) 8 = g + 1 by omega]
    · rw [z5, q0, c4, x5]
    · rcases Nat.eq_zero_or_pos i with rfl | hi0
      · rw [z6, z7, z8, z9]
        refine ⟨?_, ?_, ?_, ?_⟩
        · rw [show 120 + 4 * 0 = 120 from rfl, x7]; exact hSc.1.symm
        · rw [show 120 + 4 * 0 + 1 = 121 from rfl, x8]
        · rw [show 120 + 4 * 0 + 2 = 122 from rfl, x9]
        · rw [show 120 + 4 * 0 + 3 = 123 from rfl, x10]
      · have hc := c5 (i - 1) (by omega)
        rw [z10 1 (by omega) (by omega) i hi0 (by omega), z10 2 (by omega) (by omega) i hi0 (by omega), z10 3 (by omega) (by omega) i hi0 (by omega), z10 4 (by omega) (by omega) i hi0 (by omega)]
        rw [y1 _ (by omega) (by omega), y1 _ (by omega) (by omega), y1 _ (by omega) (by omega), y1 _ (by omega) (by omega)]
        rw [x11 _ (by omega) (by omega), x11 _ (by omega) (by omega), x11 _ (by omega) (by omega), x11 _ (by omega) (by omega)]
        rw [show 120 + 4 * i - 4 = 120 + 4 * (i - 1) by omega, show 120 + 4 * i + 1 - 4 = 120 + 4 * (i - 1) + 1 by omega, show 120 + 4 * i + 2 - 4 = 120 + 4 * (i - 1) + 2 by omega, show 120 + 4 * i + 3 - 4 = 120 + 4 * (i - 1) + 3 by omega]
        exact hc
  · exact hW.congr (fun j j1 j2 => by rw [z2 _ (by omega), y1 _ (by omega) (by omega)]) (x12 7 (by omega) (by omega) (by omega) (by omega) (by omega) (by omega) (by omega)) (fun i i1 i2 => x12 i (by omega) (by omega) (by omega) (by omega) (by omega) (by omega) (by omega))
  · exact hSc.congr (by rw [w _ (by omega), y1 _ (by omega) (by omega)]) (fun i i1 i2 i3 i4 => x12 i (by omega) (by omega) (by omega) (by omega) (by omega) (by omega) (by omega))
