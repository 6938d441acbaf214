/-! ===== one minute less for all that are tangled ===== -/
def dL (x : Int32) : Int32 := if x ≤ 0 then x else x - 1
section LO
variable {N : Nat}
theorem mLoose_l {r n : Nat} {s0 : HP} (hn : n ≤ 12) (h0 : s0 r 0 = nI n) : ∀ (d k m : Nat) (s : HP), k + d = n → d < m → (∀ j, j ≠ r → s j = s0 j) → (∀ i, (∀ k', k' < k → i ≠ 12 + 6 * k' + 4) → s r i = s0 r i) → (∀ k', k' < k → s r (12 + 6 * k' + 4) = dL (s0 r (12 + 6 * k' + 4))) →
    ∃ s' m', d + m' = m ∧ L_X8_minute_9 N m 140 r (nI k) s = L_X8_minute_9 N m' 140 r (nI n) s' ∧ (∀ j, j ≠ r → s' j = s0 j) ∧ (∀ i, (∀ k', k' < n → i ≠ 12 + 6 * k' + 4) → s' r i = s0 r i) ∧ ∀ k', k' < n → s' r (12 + 6 * k' + 4) = dL (s0 r (12 + 6 * k' + 4)) := by
  intro d
  induction d with
  | zero =>
    intro k m s hk hm h1 h2 h3
    obtain rfl : k = n := by omega
    exact ⟨s, m, by omega, rfl, h1, h2, h3⟩
  | succ d ih =>
    intro k m s hk hm h1 h2 h3
    obtain ⟨m, rfl⟩ : ∃ m', m = m' + 1 := ⟨m - 1, by omega⟩
    have e0 : s r 0 = nI n := by rw [h2 0 (fun k' _ => by omega)]; exact h0
    have ek : s r (12 + 6 * k + 4) = s0 r (12 + 6 * k + 4) := h2 _ (fun k' hk' => by omega)
    rw [L_X8_minute_9, show ix 0 = 0 from rfl, e0, if_neg (by rw [le_n (by omega) (by omega)]; omega), isTangled_n (by omega), bind_t]
    by_cases c : tgM (s r) k
    · rw [bI_t c, if_neg (by decide), l4, of_n (by omega) (by decide), bind_t, puts_n (by omega) (by decide), bind_t, nI_1]
      obtain ⟨s', m', a1, a2, a3, a4, a5⟩ := ih (k + 1) m (wr s r (12 + 6 * k + 4) (s r (12 + 6 * k + 4) - 1)) (by omega) (by omega) (fun j hj => by rw [wr_n hj]; exact h1 j hj) (fun i hi => by
        rw [wr_s, upd_n (hi k (by omega))]
        exact h2 i (fun k' hk' => hi k' (by omega))) (fun k' hk' => by
        rw [wr_s]
        by_cases e : k' = k
        · rw [e, upd_s, ek]
          unfold dL
          rw [if_neg (by unfold tgM at c; rw [← ek]; exact c)]
        · rw [upd_n (by omega)]
          exact h3 k' (by omega))
      exact ⟨s', m', by omega, a2, a3, a4, a5⟩
    · rw [bI_f c, if_pos rfl, nI_1]
      obtain ⟨s', m', a1, a2, a3, a4, a5⟩ := ih (k + 1) m s (by omega) (by omega) h1 (fun i hi => h2 i (fun k' hk' => hi k' (by omega))) (fun k' hk' => by
        by_cases e : k' = k
        · rw [e, ek]
          unfold dL
          rw [if_pos (by unfold tgM at c; rw [← ek]; exact Classical.not_not.mp c)]
        · exact h3 k' (by omega))
      exact ⟨s', m', by omega, a2, a3, a4, a5⟩
theorem cLoose_l {q n : Nat} {σ0 : HP} (hn : n ≤ 12) (h0 : σ0 q 6 = nI n) : ∀ (d k m : Nat) (σ : HP), k + d = n → d < m → (∀ j, j ≠ q + 4 → j ≠ q + 5 → σ j = σ0 j) → (∀ i, σ (q + 5) i = if i < k then dL (σ0 (q + 5) i) else σ0 (q + 5) i) → (∀ i, σ (q + 4) i = if i < k ∧ dL (σ0 (q + 5) i) = 0 then 0 else σ0 (q + 4) i) →
    ∃ σ', L_X3_loosen_2 N m q (nI k) σ = some σ' ∧ (∀ j, j ≠ q + 4 → j ≠ q + 5 → σ' j = σ0 j) ∧ (∀ i, i < n → σ' (q + 5) i = dL (σ0 (q + 5) i)) ∧ ∀ i, i < n → σ' (q + 4) i = if dL (σ0 (q + 5) i) = 0 then 0 else σ0 (q + 4) i := by
  intro d
  induction d with
  | zero =>
    intro k m σ hk hm h1 h5 h4
    obtain ⟨m, rfl⟩ : ∃ m', m = m' + 1 := ⟨m - 1, by omega⟩
    obtain rfl : k = n := by omega
    rw [L_X3_loosen_2, h1 q (by omega) (by omega), h0, if_pos (by rw [le_n (by omega) (by omega)]; exact Nat.le_refl _)]
    refine ⟨σ, rfl, h1, fun i hi => by rw [h5 i, if_pos hi], fun i hi => ?_⟩
    rw [h4 i]
    by_cases c : dL (σ0 (q + 5) i) = 0
    · rw [if_pos ⟨hi, c⟩, if_pos c]
    · rw [if_neg (fun z => c z.2), if_neg c]
  | succ d ih =>
    intro k m σ hk hm h1 h5 h4
    obtain ⟨m, rfl⟩ : ∃ m', m = m' + 1 := ⟨m - 1, by omega⟩
    have e5 : σ (q + 5) k = σ0 (q + 5) k := by rw [h5 k, if_neg (by omega)]
    rw [L_X3_loosen_2, h1 q (by omega) (by omega), h0, if_neg (by rw [le_n (by omega) (by omega)]; omega)]
    simp (disch := omega) only [in_n, gd_True, ix_n, bd_t]
    rw [e5]
    -- the second step, from a heap whose left time is settled
    have J : ∀ s : HP, (∀ j, j ≠ q + 4 → j ≠ q + 5 → s j = σ0 j) → (∀ i, s (q + 5) i = if i < k + 1 then dL (σ0 (q + 5) i) else σ0 (q + 5) i) → (∀ i, s (q + 4) i = if i < k ∧ dL (σ0 (q + 5) i) = 0 then 0 else σ0 (q + 4) i) →
        ∃ σ', J_X3_loosen_29 (L_X3_loosen_2 N m) N q (nI k) s = some σ' ∧ (∀ j, j ≠ q + 4 → j ≠ q + 5 → σ' j = σ0 j) ∧ (∀ i, i < n → σ' (q + 5) i = dL (σ0 (q + 5) i)) ∧ ∀ i, i < n → σ' (q + 4) i = if dL (σ0 (q + 5) i) = 0 then 0 else σ0 (q + 4) i := by
      intro s g1 g5 g4
      unfold J_X3_loosen_29
      simp (disch := omega) only [in_n, gd_True, ix_n, bd_t]
      rw [show s (q + 5) k = dL (σ0 (q + 5) k) from by rw [g5 k, if_pos (by omega)], nI_1]
      by_cases c : dL (σ0 (q + 5) k) = 0
      · rw [if_pos c]
        refine ih (k + 1) m _ (by omega) (by omega) (fun j j1 j2 => by rw [wr_n j1]; exact g1 j j1 j2) (fun i => by rw [wr_n (by omega)]; exact g5 i) (fun i => ?_)
        rw [wr_s]
        by_cases e : i = k
        · rw [e, upd_s, if_pos ⟨by omega, c⟩]
        · rw [upd_n e, g4 i]
          by_cases d1 : i < k ∧ dL (σ0 (q + 5) i) = 0
          · rw [if_pos d1, if_pos ⟨by omega, d1.2⟩]
          · rw [if_neg d1, if_neg (fun z => d1 ⟨by omega, z.2⟩)]
      · rw [if_neg c]
        refine ih (k + 1) m _ (by omega) (by omega) g1 g5 (fun i => ?_)
        rw [g4 i]
        by_cases d1 : i < k ∧ dL (σ0 (q + 5) i) = 0
        · rw [if_pos d1, if_pos ⟨by omega, d1.2⟩]
        · rw [if_neg d1, if_neg (fun z => by
            by_cases e : i = k
            · rw [e] at z; exact c z.2
            · exact d1 ⟨by omega, z.2⟩)]
    by_cases c : σ0 (q + 5) k ≤ 0
    · rw [if_pos c]
      refine J σ h1 (fun i => ?_) h4
      rw [h5 i]
      by_cases e : i = k
      · rw [e, if_neg (by omega), if_pos (by omega)]
        unfold dL
        rw [if_pos c]
      · by_cases d1 : i < k
        · rw [if_pos d1, if_pos (by omega)]
        · rw [if_neg d1, if_neg (by omega)]
    · rw [if_neg c]
      refine J _ (fun j j1 j2 => by rw [wr_n j2]; exact h1 j j1 j2) (fun i => ?_) (fun i => by rw [wr_n (by omega)]; exact h4 i)
      rw [wr_s]
      by_cases e : i = k
      · rw [e, upd_s, if_pos (by omega)]
        unfold dL
        rw [if_neg c]
      · rw [upd_n e, h5 i]
        by_cases d1 : i < k
        · rw [if_pos d1, if_pos (by omega)]
        · rw [if_neg d1, if_neg (by omega)]
/-- RowR behind it -/
theorem RowR.loose {q n e : Nat} {σ σ' : HP} {μ μ' : Nat → Int32} (h : RowR σ q μ n e) (h1 : ∀ j, q ≤ j → j ≤ q + 6 → j ≠ q + 4 → j ≠ q + 5 → σ' j = σ j) (h5 : ∀ i, i < n → σ' (q + 5) i = dL (σ (q + 5) i)) (h4 : ∀ i, i < n → σ' (q + 4) i = if dL (σ (q + 5) i) = 0 then 0 else σ (q + 4) i)
    (g1 : ∀ i, i < 84 → i = 0 ∨ i = 10 ∨ 12 ≤ i → (∀ k', k' < n → i ≠ 12 + 6 * k' + 4) → μ' i = μ i) (g4 : ∀ k', k' < n → μ' (12 + 6 * k' + 4) = dL (μ (12 + 6 * k' + 4))) : RowR σ' q μ' n e := by
  obtain ⟨a1, a2, a3, a4, a5, a6, a7, a8, a9, a10⟩ := h
  have hnum : ∀ i, i < 12 → μ' (12 + 6 * i) = μ (12 + 6 * i) := fun i hi => g1 _ (by omega) (by omega) (fun k' _ => by omega)
  have hoth : ∀ i v, i < 12 → v < 6 → v ≠ 4 → μ' (12 + 6 * i + v) = μ (12 + 6 * i + v) := fun i v hi hv h => g1 _ (by omega) (by omega) (fun k' _ => by omega)
  have hdL0 : ∀ i, i < n → (dL (μ (12 + 6 * i + 4)) = 0 ∨ μ (12 + 6 * i + 4) ≠ 0) := fun i hi => by
    by_cases c : μ (12 + 6 * i + 4) = 0
    · left; unfold dL; rw [c]; decide
    · exact Or.inr c
  have h5' : ∀ i, i < n → σ (q + 5) i = μ (12 + 6 * i + 4) := fun i hi => (a8 i hi).2.2.2.1
  refine ⟨a1, a2, a3, by rw [g1 0 (by omega) (by omega) (fun k' _ => by omega)]; exact a4, by rw [g1 10 (by omega) (by omega) (fun k' _ => by omega)]; exact a5, by rw [h1 q (by omega) (by omega) (by omega) (by omega)]; exact a6, by rw [h1 q (by omega) (by omega) (by omega) (by omega)]; exact a7, fun i hi => ?_, fun i hi => ?_, fun i j hi hj => ?_⟩
  · obtain ⟨b1, b2, b3, b4, b5, b6, b7, b8⟩ := a8 i hi
    refine ⟨?_, ?_, ?_, ?_, ?_, ?_, ?_, ?_⟩
    · rw [h1 _ (by omega) (by omega) (by omega) (by omega), hnum i (by omega)]; exact b1
    · rw [h1 _ (by omega) (by omega) (by omega) (by omega), hoth i 1 (by omega) (by decide) (by decide)]; exact b2
    · rw [h1 _ (by omega) (by omega) (by omega) (by omega), hoth i 2 (by omega) (by decide) (by decide)]; exact b3
    · rw [h5 i hi, g4 i hi, b4]
    · rw [h1 _ (by omega) (by omega) (by omega) (by omega), hoth i 5 (by omega) (by decide) (by decide)]; exact b5
    · rw [hnum i (by omega)]; exact b6
    · rw [hoth i 2 (by omega) (by decide) (by decide)]; exact b7
    · rw [g4 i hi]
      obtain ⟨z, z1, z2, z3⟩ := b8
      rw [z3]
      unfold dL
      by_cases c : (nI z : Int32) ≤ 0
      · rw [if_pos c]; exact ⟨z, z1, z2, rfl⟩
      · rw [if_neg c]
        rw [l0, le_n (by omega) (by omega)] at c
        exact ⟨z - 1, by omega, by omega, by rw [l1, sub_n (by omega)]⟩
  · have h9 := a9 i hi
    unfold MateR
    rw [h4 i hi, g4 i hi, h5' i hi, hoth i 3 (by omega) (by decide) (by decide)]
    rcases h9 with ⟨k1, k2⟩ | ⟨k1, k2, k3, k4, k5, k6⟩ | ⟨k1, k2, j, k3, k4, k5, k6⟩
    · refine Or.inl ⟨?_, ?_⟩
      · rw [k2, if_pos (by decide)]
      · rw [k2]; decide
    · by_cases c : dL (μ (12 + 6 * i + 4)) = 0
      · exact Or.inl ⟨by rw [if_pos c], c⟩
      · refine Or.inr (Or.inl ⟨by rw [if_neg c]; exact k1, c, k3, ?_, ?_, ?_⟩)
        · rw [h4 (i + 1) k3, h5' (i + 1) k3, k6, if_neg c]; exact k4
        · rw [hnum (i + 1) (by omega)]; exact k5
        · rw [g4 (i + 1) k3, k6]
    · by_cases c : dL (μ (12 + 6 * i + 4)) = 0
      · exact Or.inl ⟨by rw [if_pos c], c⟩
      · refine Or.inr (Or.inr ⟨by rw [if_neg c]; exact k1, c, j, k3, ?_, ?_, ?_⟩)
        · rw [h4 j (by omega), h5' j (by omega), k6, if_neg c]; exact k4
        · rw [hnum j (by omega)]; exact k5
        · rw [g4 j (by omega), k6]
  · rw [hnum i (by omega), hnum j (by omega)]
    exact a10 i j hi hj
end LO
/-! ===== a turn leaves the plan ===== -/
section PLN
variable {N : Nat}
theorem cMove_n {q i j : Nat} {σ : HP} (hi : i < 8) (hj : j < 8) : F_X1_move N q (nI i) (nI j) σ = some (wr (wr (wr σ (q + 1) j (σ (q + 1) i)) (q + 2) j (σ (q + 2) i)) (q + 3) j (σ (q + 3) i)) := by
  unfold F_X1_move
  simp (disch := omega) only [in_n, gd_True, ix_n, bd_t]
  rw [wr_n (show q + 2 ≠ q + 1 by omega), wr_n (show q + 3 ≠ q + 2 by omega), wr_n (show q + 3 ≠ q + 1 by omega)]
theorem cMove_v {q i j : Nat} {σ : HP} (v : Nat) (v1 : 1 ≤ v) (v2 : v ≤ 3) (k : Nat) : (wr (wr (wr σ (q + 1) j (σ (q + 1) i)) (q + 2) j (σ (q + 2) i)) (q + 3) j (σ (q + 3) i)) (q + v) k = if k = j then σ (q + v) i else σ (q + v) k := by
  rcases (show v = 1 ∨ v = 2 ∨ v = 3 by omega) with rfl | rfl | rfl
  · rw [wr_n (by omega), wr_n (by omega), wr_s]
    by_cases c : k = j
    · rw [c, upd_s, if_pos rfl]
    · rw [upd_n c, if_neg c]
  · rw [wr_n (by omega), wr_s]
    by_cases c : k = j
    · rw [c, upd_s, if_pos rfl]
    · rw [upd_n c, if_neg c, wr_n (by omega)]
  · rw [wr_s]
    by_cases c : k = j
    · rw [c, upd_s, if_pos rfl]
    · rw [upd_n c, if_neg c, wr_n (by omega), wr_n (by omega)]
theorem cMove_o {q i j : Nat} {σ : HP} {x : Nat} (h : x < q + 1 ∨ q + 3 < x) : (wr (wr (wr σ (q + 1) j (σ (q + 1) i)) (q + 2) j (σ (q + 2) i)) (q + 3) j (σ (q + 3) i)) x = σ x := by
  rw [wr_n (by omega), wr_n (by omega), wr_n (by omega)]
theorem cRemove_l {q t rk : Nat} {σ0 : HP} (ht : t ≤ 8) (hrk : rk < t) (h3 : σ0 q 3 = nI t) : ∀ (d i m : Nat) (σ : HP), i + d = t - 1 → d < m → rk ≤ i → (∀ j, j < q + 1 ∨ q + 3 < j → σ j = σ0 j) → (∀ v, 1 ≤ v → v ≤ 3 → ∀ k, σ (q + v) k = if rk ≤ k ∧ k < i then σ0 (q + v) (k + 1) else σ0 (q + v) k) →
    ∃ σ', L_X1_remove_2 N m q (nI i) σ = some σ' ∧ (∀ j, j < q ∨ q + 3 < j → σ' j = σ0 j) ∧ σ' q 3 = nI (t - 1) ∧ ∀ v, 1 ≤ v → v ≤ 3 → ∀ k, σ' (q + v) k = if rk ≤ k ∧ k < t - 1 then σ0 (q + v) (k + 1) else σ0 (q + v) k := by
  intro d
  induction d with
  | zero =>
    intro i m σ hi hm hri h1 h2
    obtain ⟨m, rfl⟩ : ∃ m', m = m' + 1 := ⟨m - 1, by omega⟩
    obtain rfl : i = t - 1 := by omega
    rw [L_X1_remove_2, h1 q (by omega), h3, l1, sub_n (by omega), if_pos (by rw [le_n (by omega) (by omega)]; exact Nat.le_refl _), bd_t]
    refine ⟨_, rfl, fun j hj => by rw [wr_n (by omega)]; exact h1 j (by omega), by rw [wr_s, upd_s], fun v v1 v2 k => by rw [wr_n (by omega)]; exact h2 v v1 v2 k⟩
  | succ d ih =>
    intro i m σ hi hm hri h1 h2
    obtain ⟨m, rfl⟩ : ∃ m', m = m' + 1 := ⟨m - 1, by omega⟩
    rw [L_X1_remove_2, h1 q (by omega), h3, l1, sub_n (by omega), if_neg (by rw [le_n (by omega) (by omega)]; omega), ← l1, nI_1, cMove_n (by omega) (by omega), bind_t]
    refine ih (i + 1) m _ (by omega) (by omega) (by omega) (fun j hj => by rw [cMove_o hj]; exact h1 j hj) (fun v v1 v2 k => ?_)
    rw [cMove_v v v1 v2 k]
    by_cases c : k = i
    · rw [if_pos c, c, h2 v v1 v2 (i + 1), if_neg (by omega), if_pos (by omega)]
    · rw [if_neg c, h2 v v1 v2 k]
      by_cases c2 : rk ≤ k ∧ k < i
      · rw [if_pos c2, if_pos (by omega)]
      · rw [if_neg c2, if_neg (by omega)]
theorem mDrop1_l {r t rk : Nat} {s0 : HP} (ht : t ≤ 8) (hrk : rk < t) (h6 : s0 r 6 = nI (t - 1)) : ∀ (d i m : Nat) (s : HP), i + d = 84 + 3 * (t - 1) → d < m → 84 + 3 * rk ≤ i → (∀ j, j ≠ r → s j = s0 j) → (∀ x, s r x = if 84 + 3 * rk ≤ x ∧ x < i then s0 r (x + 3) else s0 r x) →
    ∃ s', L_X8_dropsTurn_15 N m r (nI i) s = L_X8_dropsTurn_44 N N r 0 s' ∧ (∀ j, j ≠ r → s' j = s0 j) ∧ ∀ x, s' r x = if 84 + 3 * rk ≤ x ∧ x < 84 + 3 * (t - 1) then s0 r (x + 3) else s0 r x := by
  intro d
  induction d with
  | zero =>
    intro i m s hi hm hri h1 h2
    obtain ⟨m, rfl⟩ : ∃ m', m = m' + 1 := ⟨m - 1, by omega⟩
    have e6 : s r 6 = nI (t - 1) := by rw [h2 6, if_neg (by omega)]; exact h6
    rw [L_X8_dropsTurn_15, show ix 6 = 6 from rfl, e6, l84, l3, pk_mul, nI_add, if_pos (by rw [le_n (by omega) (by omega)]; omega)]
    obtain rfl : i = 84 + 3 * (t - 1) := by omega
    exact ⟨s, rfl, h1, h2⟩
  | succ d ih =>
    intro i m s hi hm hri h1 h2
    obtain ⟨m, rfl⟩ : ∃ m', m = m' + 1 := ⟨m - 1, by omega⟩
    have e6 : s r 6 = nI (t - 1) := by rw [h2 6, if_neg (by omega)]; exact h6
    rw [L_X8_dropsTurn_15, show ix 6 = 6 from rfl, e6, l84, l3, pk_mul, nI_add, if_neg (by rw [le_n (by omega) (by omega)]; omega)]
    simp (disch := omega) only [nI_add, in_n, gd_True, ix_n, bd_t, nI_1]
    refine ih (i + 1) m _ (by omega) (by omega) (by omega) (fun j hj => by rw [wr_n hj]; exact h1 j hj) (fun x => ?_)
    rw [wr_s]
    by_cases c : x = i
    · rw [c, upd_s, h2 (i + 3), if_neg (by omega), if_pos (by omega)]
    · rw [upd_n c, h2 x]
      by_cases c2 : 84 + 3 * rk ≤ x ∧ x < i
      · rw [if_pos c2, if_pos (by omega)]
      · rw [if_neg c2, if_neg (by omega)]
theorem mDrop_n (hN : 200 ≤ N) {r t rk : Nat} {s : HP} (ht : t ≤ 8) (hrk : rk < t) (h6 : s r 6 = nI t) : ∃ s', F_X8_dropsTurn N r (nI rk) s = some s' ∧ (∀ j, j ≠ r → s' j = s j) ∧ s' r 6 = nI (t - 1) ∧ (∀ i, i < 84 ∨ 108 ≤ i → i ≠ 6 → s' r i = s r i) ∧ ∀ x, 84 ≤ x → x < 84 + 3 * (t - 1) → s' r x = if 84 + 3 * rk ≤ x then s r (x + 3) else s r x := by
  unfold F_X8_dropsTurn
  rw [show ix 6 = 6 from rfl, h6, l1, sub_n (by omega), bd_t, l84, l3, pk_mul, nI_add, bd_t]
  generalize hs1 : wr s r 6 (nI (t - 1)) = s1
  have f6 : s1 r 6 = nI (t - 1) := by rw [← hs1, wr_s, upd_s]
  have fo : ∀ x, x ≠ 6 → s1 r x = s r x := fun x hx => by rw [← hs1, wr_s, upd_n hx]
  obtain ⟨s2, a1, a2, a3⟩ := mDrop1_l (N := N) (r := r) (t := t) (rk := rk) (s0 := s1) ht hrk f6 (3 * (t - 1) - 3 * rk) (84 + 3 * rk) N s1 (by omega) (by omega) (Nat.le_refl _) (fun _ _ => rfl) (fun x => by rw [if_neg (by omega)])
  rw [a1]
  have g6 : s2 r 6 = nI (t - 1) := by rw [a3 6, if_neg (by omega)]; exact f6
  -- three zeros
  have z : ∀ (w : HP) (m v : Nat), v < 3 → w r 6 = nI (t - 1) → L_X8_dropsTurn_44 N (m + 1) r (nI v) w = L_X8_dropsTurn_44 N m r (nI (v + 1)) (wr w r (84 + 3 * (t - 1) + v) 0) := by
    intro w m v hv hw
    rw [L_X8_dropsTurn_44, if_neg (by rw [l3, le_n (by omega) (by omega)]; omega), show ix 6 = 6 from rfl, hw, l84, l3, pk_mul, nI_add, nI_add]
    simp (disch := omega) only [in_n, gd_True, ix_n, bd_t, nI_1]
  obtain ⟨m, rfl⟩ : ∃ m', N = m' + 4 := ⟨N - 4, by omega⟩
  have hk : ∀ (w : HP) (x : Nat) (y : Int32), 84 ≤ x → w r 6 = nI (t - 1) → (wr w r x y) r 6 = nI (t - 1) := fun w x y hx hw => by rw [wr_s, upd_n (by omega)]; exact hw
  rw [l0, z s2 (m + 3) 0 (by omega) g6, z _ (m + 2) 1 (by omega) (hk _ _ _ (by omega) g6), z _ (m + 1) 2 (by omega) (hk _ _ _ (by omega) (hk _ _ _ (by omega) g6))]
  rw [L_X8_dropsTurn_44, if_pos (by rw [l3, le_n (by omega) (by omega)]; omega)]
  refine ⟨_, rfl, fun j hj => ?_, ?_, fun i hi h6 => ?_, fun x x1 x2 => ?_⟩
  · rw [wr_n hj, wr_n hj, wr_n hj, a2 j hj, ← hs1, wr_n hj]
  · exact hk _ _ _ (by omega) (hk _ _ _ (by omega) (hk _ _ _ (by omega) g6))
  · rw [wr_s, upd_n (by omega), wr_s, upd_n (by omega), wr_s, upd_n (by omega), a3 i, if_neg (by omega), fo i h6]
  · rw [wr_s, upd_n (by omega), wr_s, upd_n (by omega), wr_s, upd_n (by omega), a3 x]
    by_cases c : 84 + 3 * rk ≤ x
    · rw [if_pos ⟨c, x2⟩, if_pos c, fo _ (by omega)]
    · rw [if_neg (fun q => c q.1), if_neg c, fo _ (by omega)]
/-- the plan without the turn of rank rk; the minutes may have come as far as the first that is left -/
theorem PlanR.drop {q t mi mi' rk : Nat} {σ σ' : HP} {μ μ' : Nat → Int32} (h : PlanR σ q μ t mi) (hrk : rk < t) (h3 : σ' q 3 = nI (t - 1)) (hv : ∀ v, 1 ≤ v → v ≤ 3 → ∀ k, σ' (q + v) k = if rk ≤ k ∧ k < t - 1 then σ (q + v) (k + 1) else σ (q + v) k)
    (h6 : μ' 6 = nI (t - 1)) (hx : ∀ x, 84 ≤ x → x < 84 + 3 * (t - 1) → μ' x = if 84 + 3 * rk ≤ x then μ (x + 3) else μ x) (hmi : ∀ k, k < t → k ≠ rk → bn (μ (84 + 3 * k)) (mi' + 1) 9999) : PlanR σ' q μ' (t - 1) mi' := by
  obtain ⟨a1, a2, a3, a4, a5⟩ := h
  have hf : ∀ k, k < t - 1 → ∃ k', k' < t ∧ k' ≠ rk ∧ (k' = if rk ≤ k then k + 1 else k) := fun k hk => by
    by_cases c : rk ≤ k
    · exact ⟨k + 1, by omega, by omega, by rw [if_pos c]⟩
    · exact ⟨k, by omega, by omega, by rw [if_neg c]⟩
  have hμ : ∀ k v, k < t - 1 → v < 3 → μ' (84 + 3 * k + v) = μ (84 + 3 * (if rk ≤ k then k + 1 else k) + v) := fun k v hk hv => by
    rw [hx _ (by omega) (by omega)]
    by_cases c : rk ≤ k
    · rw [if_pos (by omega), if_pos c]; exact congrArg μ (by omega)
    · rw [if_neg (by omega), if_neg c]
  refine ⟨by omega, h6, h3, fun k hk => ?_, fun i k hik hk => ?_⟩
  · obtain ⟨k', b1, b2, b3⟩ := hf k hk
    obtain ⟨c1, c2, c3, c4, c5, c6⟩ := a4 k' b1
    have hσ : ∀ v, 1 ≤ v → v ≤ 3 → σ' (q + v) k = σ (q + v) k' := fun v v1 v2 => by
      rw [hv v v1 v2 k, b3]
      by_cases c : rk ≤ k
      · rw [if_pos ⟨c, hk⟩, if_pos c]
      · rw [if_neg (fun z => c z.1), if_neg c]
    have e0 := hμ k 0 hk (by decide)
    have e1 := hμ k 1 hk (by decide)
    have e2 := hμ k 2 hk (by decide)
    rw [← b3] at e0 e1 e2
    refine ⟨by rw [hσ 1 (by omega) (by omega)]; exact c1.trans e0.symm, by rw [hσ 2 (by omega) (by omega), e1]; exact c2, by rw [hσ 3 (by omega) (by omega), e2]; exact c3, ?_, by rw [e1]; exact c5, by rw [e2]; exact c6⟩
    have := hmi k' b1 b2
    rw [← show μ' (84 + 3 * k) = μ (84 + 3 * k') from e0] at this
    exact this
  · have e0 := hμ k 0 (by omega) (by decide)
    have e1 := hμ i 0 (by omega) (by decide)
    rw [show μ' (84 + 3 * i) = _ from e1, show μ' (84 + 3 * k) = _ from e0]
    by_cases c : rk ≤ i
    · rw [if_pos c, if_pos (by omega)]; exact a5 _ _ (by omega) (by omega)
    · rw [if_neg c]
      by_cases c2 : rk ≤ k
      · rw [if_pos c2]; exact a5 _ _ (by omega) (by omega)
      · rw [if_neg c2]; exact a5 _ _ (by omega) (by omega)
theorem rank_hit {q t mi rk : Nat} {σ : HP} {μ : Nat → Int32} (h : PlanR σ q μ t mi) (hrk : rk < t) : ∀ (d i m : Nat), i + d = rk → d < m → L_X1_rankOf_2 N σ m q (μ (84 + 3 * rk)) (nI i) = some (nI rk) := by
  have ht := h.1
  intro d
  induction d with
  | zero =>
    intro i m hi hm
    obtain ⟨m, rfl⟩ : ∃ m', m = m' + 1 := ⟨m - 1, by omega⟩
    obtain rfl : i = rk := by omega
    rw [L_X1_rankOf_2, h.2.2.1, if_neg (by rw [le_n (by omega) (by omega)]; omega)]
    simp (disch := omega) only [in_n, gd_True, ix_n]
    rw [if_pos (h.2.2.2.1 i hrk).1]
  | succ d ih =>
    intro i m hi hm
    obtain ⟨m, rfl⟩ : ∃ m', m = m' + 1 := ⟨m - 1, by omega⟩
    have hlt := h.2.2.2.2 i rk (by omega) hrk
    rw [L_X1_rankOf_2, h.2.2.1, if_neg (by rw [le_n (by omega) (by omega)]; omega)]
    simp (disch := omega) only [in_n, gd_True, ix_n, nI_1]
    rw [if_neg (fun z => by
      rw [(h.2.2.2.1 i (by omega)).1] at z
      rw [z, Int32.lt_iff_toInt_lt] at hlt
      omega)]
    exact ih (i + 1) m (by omega) (by omega)
theorem rank_miss {q t mi : Nat} {a : Int32} {σ : HP} {μ : Nat → Int32} (h : PlanR σ q μ t mi) (ha : ∀ k, k < t → μ (84 + 3 * k) ≠ a) : ∀ (d i m : Nat), i + d = t → d < m → L_X1_rankOf_2 N σ m q a (nI i) = some (-1) := by
  have ht := h.1
  intro d
  induction d with
  | zero =>
    intro i m hi hm
    obtain ⟨m, rfl⟩ : ∃ m', m = m' + 1 := ⟨m - 1, by omega⟩
    rw [L_X1_rankOf_2, h.2.2.1, if_pos (by rw [le_n (by omega) (by omega)]; omega)]
  | succ d ih =>
    intro i m hi hm
    obtain ⟨m, rfl⟩ : ∃ m', m = m' + 1 := ⟨m - 1, by omega⟩
    rw [L_X1_rankOf_2, h.2.2.1, if_neg (by rw [le_n (by omega) (by omega)]; omega)]
    simp (disch := omega) only [in_n, gd_True, ix_n, nI_1]
    rw [if_neg (fun z => ha i (by omega) (by rw [← (h.2.2.2.1 i (by omega)).1]; exact z))]
    exact ih (i + 1) m (by omega) (by omega)
theorem cRemove_n (hN : 200 ≤ N) {q t rk : Nat} {σ : HP} (ht : t ≤ 8) (hrk : rk < t) (h3 : σ q 3 = nI t) : ∃ σ', F_X1_remove N q (nI rk) σ = some σ' ∧ (∀ j, j < q ∨ q + 3 < j → σ' j = σ j) ∧ σ' q 3 = nI (t - 1) ∧ ∀ v, 1 ≤ v → v ≤ 3 → ∀ k, σ' (q + v) k = if rk ≤ k ∧ k < t - 1 then σ (q + v) (k + 1) else σ (q + v) k := by
  unfold F_X1_remove
  exact cRemove_l ht hrk h3 (t - 1 - rk) rk N σ (by omega) (by omega) (Nat.le_refl _) (fun _ _ => rfl) (fun v _ _ k => by rw [if_neg (by omega)])
end PLN
