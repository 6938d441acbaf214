/-! ===== the reference's count of the fewest trades ===== -/
theorem nar0 : vp_nar .boolean 0 = 0 := rfl
theorem nar1 : vp_nar .boolean 1 = 1 := rfl
noncomputable def gM (μ : Nat → Int32) (n k : Nat) : Nat := pick (fun i => i < n ∧ Mt (aM μ n) (wdM μ) i k)
theorem g_spec {μ : Nat → Int32} {n k : Nat} (h : Ps (aM μ n) (wdM μ) n) (hk : k < n) : gM μ n k < n ∧ Mt (aM μ n) (wdM μ) (gM μ n k) k := by
  have h1 : ∃ i, i < n ∧ Mt (aM μ n) (wdM μ) i k := by
    obtain ⟨i, hi, hM⟩ := h.symm k hk
    exact ⟨i, hi, hM.symm⟩
  exact pick_spec (p := fun i => i < n ∧ Mt (aM μ n) (wdM μ) i k) h1
theorem cnt_cut {p : Nat → Prop} {k : Nat} : ∀ {n : Nat}, k ≤ n → cnt (fun j => j < k ∧ p j) n = cnt p k
  | 0, h => by rw [show k = 0 by omega]; rfl
  | n + 1, h => by
    rcases Nat.lt_or_ge n k with q | q
    · rw [show k = n + 1 by omega]
      exact cnt_congr (fun j hj => ⟨fun z => z.2, fun z => ⟨hj, z⟩⟩)
    · rw [cnt_f (p := fun j => j < k ∧ p j) (fun z => by have := z.1; omega), cnt_cut q]
theorem fw_goal {μ : Nat → Int32} {n : Nat} (h : Ps (aM μ n) (wdM μ) n) (h4 : μ 4 = 0 ∨ μ 4 = 1) : sm (fun k => cnt (fun j => gM μ n k < gM μ n j) k) n = fwM μ n := by
  have e1 : sm (fun k => cnt (fun j => gM μ n k < gM μ n j) k) n = dc (fun k j => j < k ∧ gM μ n k < gM μ n j) n := sm_congr (fun k hk => (cnt_cut (p := fun j => gM μ n k < gM μ n j) (by omega)).symm)
  have hg : ∀ x, x < n → gM μ n (tgtM μ n x) = plM μ n x := fun x hx => (g_spec h (tgt_spec h hx).1).2.inj (tgt_spec h hx).2
  have hp : ∀ {P : Nat → Nat → Prop}, dc P n = dc (fun x y => P (tgtM μ n x) (tgtM μ n y)) n := fun {P} => (dc_perm (p := P) (τ := tgtM μ n) (fun x hx => (tgt_spec h hx).1) (fun x y hx hy e => tgt_inj h hx hy e)).symm
  rw [e1, dc_T, hp]
  unfold fwM
  rcases h4 with h4 | h4
  · rw [dc_T]
    refine dc_congr (fun x y hx hy => ?_)
    rw [hg x hx, hg y hy]
    unfold WrM plM
    rw [if_pos h4, if_neg (by rw [h4]; decide), if_neg (by rw [h4]; decide)]
    exact ⟨fun z => ⟨z.2, z.1⟩, fun z => ⟨z.2, z.1⟩⟩
  · refine dc_congr (fun x y hx hy => ?_)
    rw [hg x hx, hg y hy]
    unfold WrM plM
    rw [if_pos h4, if_pos h4, if_neg (by rw [h4]; decide)]
    exact ⟨fun z => ⟨by omega, z.1⟩, fun z => ⟨z.2, by omega⟩⟩
section FW
variable {N r n l : Nat} {σ σ0 : HP}
def Rest3 (σ σ' : HP) : Prop := ∀ j, j ≠ 146 → j ≠ 147 → σ' j = σ j
theorem letterAt_n (hn : n ≤ 12) (h0 : σ r 0 = nI n) {i : Nat} (hi : i < n) (h4 : σ r 4 = 0 ∨ σ r 4 = 1) : F_X8_letterAt N r (nI i) σ = some (aM (σ r) n i) := by
  have hpl := plM_lt (μ := σ r) hi
  have e : F_X8_letterAt N r (nI i) σ = J_X8_letterAt_19 N r (nI (plM (σ r) n i)) σ := by
    unfold F_X8_letterAt
    rw [show ix 4 = 4 from rfl, show ix 0 = 0 from rfl, h0]
    unfold plM
    rcases h4 with h4 | h4
    · rw [h4, if_neg (by decide), if_neg (by decide)]
    · rw [h4, if_pos rfl, if_pos rfl, l1, sub_n (by omega), sub_n (by omega)]
  rw [e]
  unfold J_X8_letterAt_19
  rw [l1, of_n (by omega) (by decide)]
  rfl
theorem goal0_l {r : Nat} : ∀ (d k m : Nat) (σ : HP), k + d = 12 → d < m → (∀ i, i < k → σ 146 i = 0) → (∀ j, j ≠ 146 → j ≠ 147 → σ j = σ0 j) → r ≠ 146 → r ≠ 147 →
    ∃ σ', L_X8_laysGoal_2 N m 140 r (nI k) σ = (if (σ0 r 7) ≤ 0 then J_X8_laysGoal_49 N 140 r σ' else if σ0 r 0 = σ0 r 7 then J_X8_laysGoal_50 N 140 r 1 σ' else J_X8_laysGoal_49 N 140 r σ') ∧ (∀ i, i < 12 → σ' 146 i = 0) ∧ (∀ j, j ≠ 146 → j ≠ 147 → σ' j = σ0 j) := by
  intro d
  induction d with
  | zero =>
    intro k m σ hk hm h1 h2 hr1 hr2
    obtain ⟨m, rfl⟩ : ∃ m', m = m' + 1 := ⟨m - 1, by omega⟩
    obtain rfl : k = 12 := by omega
    refine ⟨σ, ?_, h1, h2⟩
    rw [L_X8_laysGoal_2, if_pos (by rw [l12, le_n (by omega) (by omega)]; exact Nat.le_refl _), show ix 7 = 7 from rfl, show ix 0 = 0 from rfl, h2 r hr1 hr2]
  | succ d ih =>
    intro k m σ hk hm h1 h2 hr1 hr2
    obtain ⟨m, rfl⟩ : ∃ m', m = m' + 1 := ⟨m - 1, by omega⟩
    rw [L_X8_laysGoal_2, if_neg (by rw [l12, le_n (by omega) (by omega)]; omega)]
    simp (disch := omega) only [in_n, gd_True, ix_n, bd_t, nI_1, nar0]
    refine ih (k + 1) m _ (by omega) (by omega) (fun i hi => ?_) (fun j q1 q2 => by rw [wr_n q2, wr_n q1]; exact h2 j q1 q2) hr1 hr2
    rw [wr_n (by decide), wr_s]
    by_cases e : i = k
    · rw [e, upd_s]
    · rw [upd_n e]; exact h1 i (by omega)
theorem search_n {k53 : Nat → Nat → Int32 → Int32 → HP → Option (Int32 × HP)} (hn : n ≤ 12) (h0 : σ r 0 = nI n) (h4 : σ r 4 = 0 ∨ σ r 4 = 1) {k i0 : Nat} (hk : k < 12) (hi0 : i0 ≤ n) (hS : ∀ i, i < 12 → σ 146 i = 0 ∨ σ 146 i = 1)
    (hno : ∀ i, i < i0 → ¬ (σ 146 i = 0 ∧ aM (σ r) n i = wdM (σ r) k)) (hyes : i0 < n → σ 146 i0 = 0 ∧ aM (σ r) n i0 = wdM (σ r) k) : ∀ (d i m : Nat), i + d = i0 → d < m → L_X8_laysGoal_68 k53 N m 140 r (nI k) (nI i) σ = J_X8_laysGoal_107 k53 N 140 r (nI k) (nI i0) σ := by
  intro d
  induction d with
  | zero =>
    intro i m hi hm
    obtain ⟨m, rfl⟩ : ∃ m', m = m' + 1 := ⟨m - 1, by omega⟩
    obtain rfl : i = i0 := by omega
    rw [L_X8_laysGoal_68, show ix 0 = 0 from rfl, h0]
    by_cases c : n ≤ i
    · rw [if_pos (by rw [le_n (by omega) (by omega)]; exact c)]
    · rw [if_neg (by rw [le_n (by omega) (by omega)]; exact c)]
      obtain ⟨g1, g2⟩ := hyes (by omega)
      simp (disch := omega) only [in_n, gd_True, ix_n]
      rw [g1, if_pos rfl, letterAt_n hn h0 (by omega) h4, bind_t]
      simp (disch := omega) only [l108, nI_add, in_n, gd_True, ix_n]
      rw [if_pos (show aM (σ r) n i = σ r (108 + k) from g2)]
  | succ d ih =>
    intro i m hi hm
    obtain ⟨m, rfl⟩ : ∃ m', m = m' + 1 := ⟨m - 1, by omega⟩
    rw [L_X8_laysGoal_68, show ix 0 = 0 from rfl, h0, if_neg (by rw [le_n (by omega) (by omega)]; omega)]
    have g := hno i (by omega)
    simp (disch := omega) only [in_n, gd_True, ix_n, nI_1]
    by_cases c : σ 146 i = 0
    · rw [if_pos c, letterAt_n hn h0 (by omega) h4, bind_t]
      simp (disch := omega) only [l108, nI_add, in_n, gd_True, ix_n]
      rw [if_neg (show ¬ aM (σ r) n i = σ r (108 + k) from fun q => g ⟨c, q⟩)]
      exact ih (i + 1) m (by omega) (by omega)
    · rw [if_neg c]
      exact ih (i + 1) m (by omega) (by omega)
theorem goal_l (hN : 200 ≤ N) (hn : n ≤ 12) (hr : r ≠ 146 ∧ r ≠ 147) (h0 : σ0 r 0 = nI n) (h7 : σ0 r 7 = nI n) (h4 : σ0 r 4 = 0 ∨ σ0 r 4 = 1) : ∀ (d k m : Nat) (σ : HP), k + d = n → d < m →
    (∀ i, i < 12 → σ 146 i = bI (∃ k', k' < k ∧ Mt (aM (σ0 r) n) (wdM (σ0 r)) i k')) → (∀ k', k' < k → ∃ i, i < n ∧ Mt (aM (σ0 r) n) (wdM (σ0 r)) i k' ∧ σ 147 k' = nI i) → (∀ j, j ≠ 146 → j ≠ 147 → σ j = σ0 j) →
    (Ps (aM (σ0 r) n) (wdM (σ0 r)) n → ∃ σ', L_X8_laysGoal_53 N m 140 r 1 (nI k) σ = some (1, σ') ∧ (∀ j, j ≠ 146 → j ≠ 147 → σ' j = σ0 j) ∧ ∀ k', k' < n → σ' 147 k' = nI (gM (σ0 r) n k')) ∧
    (¬ Ps (aM (σ0 r) n) (wdM (σ0 r)) n → ∃ σ', L_X8_laysGoal_53 N m 140 r 1 (nI k) σ = some (0, σ') ∧ ∀ j, j ≠ 146 → j ≠ 147 → σ' j = σ0 j) := by
  intro d
  induction d with
  | zero =>
    intro k m σ hk hm hT hG hσ
    obtain ⟨m, rfl⟩ : ∃ m', m = m' + 1 := ⟨m - 1, by omega⟩
    obtain rfl : k = n := by omega
    rw [L_X8_laysGoal_53, show ix 7 = 7 from rfl, hσ r hr.1 hr.2, h7, if_pos (by rw [le_n (by omega) (by omega)]; exact Nat.le_refl _), gd_t (Or.inr rfl)]
    refine ⟨fun hPs => ⟨σ, rfl, hσ, fun k' hk' => ?_⟩, fun hno => absurd ?_ hno⟩
    · obtain ⟨i, hi, hM, e⟩ := hG k' hk'
      rw [e, (g_spec hPs hk').2.inj hM]
    · exact Ps.symm (fun k' hk' => by
        obtain ⟨i, hi, hM, -⟩ := hG k' hk'
        exact ⟨i, hi, hM.symm⟩)
  | succ d ih =>
    intro k m σ hk hm hT hG hσ
    obtain ⟨m, rfl⟩ : ∃ m', m = m' + 1 := ⟨m - 1, by omega⟩
    have hσr := hσ r hr.1 hr.2
    rw [L_X8_laysGoal_53, show ix 7 = 7 from rfl, hσr, h7, if_neg (by rw [le_n (by omega) (by omega)]; omega), if_neg (by decide)]
    have hS : ∀ i, i < 12 → σ 146 i = 0 ∨ σ 146 i = 1 := fun i hi => by
      rw [hT i hi]
      by_cases c : ∃ k', k' < k ∧ Mt (aM (σ0 r) n) (wdM (σ0 r)) i k'
      · rw [bI_t c]; exact Or.inr rfl
      · rw [bI_f c]; exact Or.inl rfl
    have hz : ∀ i, i < 12 → (σ 146 i = 0 ↔ ¬ ∃ k', k' < k ∧ Mt (aM (σ0 r) n) (wdM (σ0 r)) i k') := fun i hi => by
      rw [hT i hi, l0, bI_0]
    by_cases hex : ∃ i, i < n ∧ Mt (aM (σ0 r) n) (wdM (σ0 r)) i k
    · obtain ⟨i0, hi0, hM⟩ := hex
      have hs := search_n (k53 := L_X8_laysGoal_53 N m) (N := N) (σ := σ) (r := r) (k := k) (i0 := i0) hn (by rw [hσr]; exact h0) (by rw [hσr]; exact h4) (by omega) (by omega) hS (fun i hi z => by
        rw [hσr, hz i (by omega)] at z
        obtain ⟨k', a1, a2⟩ := hM.symm.first hi0 hi z.2
        exact z.1 ⟨k', a1, a2.symm⟩) (fun _ => by
        rw [hσr, hz i0 (by omega)]
        exact ⟨fun ⟨k', a1, a2⟩ => hM.symm.free a1 a2.symm, hM.1⟩) i0 0 N (by omega) (by omega)
      rw [show L_X8_laysGoal_68 (L_X8_laysGoal_53 N m) N N 140 r (nI k) 0 σ = _ from hs]
      unfold J_X8_laysGoal_107 J_X8_laysGoal_120
      rw [show ix 0 = 0 from rfl, hσr, h0, if_neg (by rw [le_n (by omega) (by omega)]; omega), if_neg (by decide)]
      simp (disch := omega) only [in_n, gd_True, ix_n, bd_t, nI_1, nar1]
      refine ih (k + 1) m _ (by omega) (by omega) (fun i hi => ?_) (fun k' hk' => ?_) (fun j q1 q2 => by rw [wr_n q2, wr_n q1]; exact hσ j q1 q2)
      · rw [wr_n (by decide), wr_s]
        by_cases e : i = i0
        · rw [e, upd_s, bI_t ⟨k, by omega, hM⟩]
        · rw [upd_n e, hT i hi]
          exact bI_c ⟨fun ⟨k', a1, a2⟩ => ⟨k', by omega, a2⟩, fun ⟨k', a1, a2⟩ => by
            rcases Nat.lt_or_ge k' k with q | q
            · exact ⟨k', q, a2⟩
            · obtain rfl : k' = k := by omega
              exact absurd (a2.inj hM) e⟩
      · rcases Nat.lt_or_ge k' k with q | q
        · obtain ⟨i, a1, a2, a3⟩ := hG k' q
          exact ⟨i, a1, a2, by rw [wr_s, upd_n (by omega), wr_n (by decide)]; exact a3⟩
        · obtain rfl : k' = k := by omega
          exact ⟨i0, hi0, hM, by rw [wr_s, upd_s]⟩
    · have hs := search_n (k53 := L_X8_laysGoal_53 N m) (N := N) (σ := σ) (r := r) (k := k) (i0 := n) hn (by rw [hσr]; exact h0) (by rw [hσr]; exact h4) (by omega) (Nat.le_refl _) hS (fun i hi z => by
        rw [hσr, hz i (by omega)] at z
        obtain ⟨i', a1, a2⟩ := Mt.found (a := wdM (σ0 r)) (w := aM (σ0 r) n) (i := k) hi z.2 (fun k' hk' q => z.1 ⟨k', hk', q.symm⟩)
        exact hex ⟨i', a1, a2.symm⟩) (fun q => absurd q (Nat.lt_irrefl _)) n 0 N (by omega) (by omega)
      rw [show L_X8_laysGoal_68 (L_X8_laysGoal_53 N m) N N 140 r (nI k) 0 σ = _ from hs]
      unfold J_X8_laysGoal_107 J_X8_laysGoal_120
      rw [show ix 0 = 0 from rfl, hσr, h0, if_pos (by rw [le_n (by omega) (by omega)]; exact Nat.le_refl _), if_pos rfl]
      refine ⟨fun hPs => absurd ?_ hex, fun _ => ⟨σ, ?_, hσ⟩⟩
      · obtain ⟨i, hi, hM⟩ := hPs.symm k (by omega)
        exact ⟨i, hi, hM.symm⟩
      · obtain ⟨m, rfl⟩ : ∃ m', m = m' + 1 := ⟨m - 1, by omega⟩
        rw [L_X8_laysGoal_53]
        split
        · exact gd_t (Or.inl rfl)
        · rw [if_pos rfl]; exact gd_t (Or.inl rfl)
theorem few_in {k15 : Nat → Nat → Int32 → Int32 → HP → Option (Int32 × HP)} {G : Nat → Nat} (hn : n ≤ 12) (hG : ∀ k, k < n → σ 147 k = nI (G k) ∧ G k < n) {k s : Nat} (hk : k < n) : ∀ (d j m : Nat), j + d = k → d < m →
    L_X8_fewest_26 k15 N m 140 r (nI (s + cnt (fun j => G k < G j) j)) (nI k) (nI j) σ = k15 140 r (nI (s + cnt (fun j => G k < G j) k)) (nI (k + 1)) σ := by
  intro d
  induction d with
  | zero =>
    intro j m hj hm
    obtain ⟨m, rfl⟩ : ∃ m', m = m' + 1 := ⟨m - 1, by omega⟩
    obtain rfl : j = k := by omega
    rw [L_X8_fewest_26, if_pos (by rw [le_n (by omega) (by omega)]; exact Nat.le_refl _), nI_1]
  | succ d ih =>
    intro j m hj hm
    obtain ⟨m, rfl⟩ : ∃ m', m = m' + 1 := ⟨m - 1, by omega⟩
    have g1 := hG j (by omega)
    have g2 := hG k hk
    rw [L_X8_fewest_26, if_neg (by rw [le_n (by omega) (by omega)]; omega)]
    simp (disch := omega) only [in_n, gd_True, ix_n, nI_1, bd_t]
    rw [g1.1, g2.1]
    by_cases c : G k < G j
    · rw [if_neg (by rw [le_n (by omega) (by omega)]; omega), ← ih (j + 1) m (by omega) (by omega), cnt_t (p := fun j => G k < G j) c]
      rfl
    · rw [if_pos (by rw [le_n (by omega) (by omega)]; omega), Int32.add_zero, ← ih (j + 1) m (by omega) (by omega), cnt_f (p := fun j => G k < G j) c]
theorem few_out {G : Nat → Nat} (hN : 200 ≤ N) (hn : n ≤ 12) (h7 : σ r 7 = nI n) (hG : ∀ k, k < n → σ 147 k = nI (G k) ∧ G k < n) : ∀ (d k m : Nat), k + d = n → d < m →
    L_X8_fewest_15 N m 140 r (nI (sm (fun k => cnt (fun j => G k < G j) k) k)) (nI k) σ = some (nI (sm (fun k => cnt (fun j => G k < G j) k) n), σ) := by
  intro d
  induction d with
  | zero =>
    intro k m hk hm
    obtain ⟨m, rfl⟩ : ∃ m', m = m' + 1 := ⟨m - 1, by omega⟩
    obtain rfl : k = n := by omega
    rw [L_X8_fewest_15, show ix 7 = 7 from rfl, h7, if_pos (by rw [le_n (by omega) (by omega)]; exact Nat.le_refl _)]
  | succ d ih =>
    intro k m hk hm
    obtain ⟨m, rfl⟩ : ∃ m', m = m' + 1 := ⟨m - 1, by omega⟩
    rw [L_X8_fewest_15, show ix 7 = 7 from rfl, h7, if_neg (by rw [le_n (by omega) (by omega)]; omega)]
    have h := few_in (k15 := L_X8_fewest_15 N m) (N := N) (r := r) (s := sm (fun k => cnt (fun j => G k < G j) k) k) hn hG (show k < n by omega) k 0 N (by omega) (by omega)
    exact h.trans (ih (k + 1) m (by omega) (by omega))
theorem fewest_n (hN : 200 ≤ N) (hn : n ≤ 12) (hl : l ≤ 12) (hr : r ≠ 146 ∧ r ≠ 147) (h0 : σ r 0 = nI n) (h7 : σ r 7 = nI l) (h4 : σ r 4 = 0 ∨ σ r 4 = 1) :
    (PsM (σ r) n l → ∃ σ', F_X8_fewest N 140 r σ = some (nI (fwM (σ r) n), σ') ∧ Rest3 σ σ') ∧ (¬ PsM (σ r) n l → ∃ σ', F_X8_fewest N 140 r σ = some (-1000005, σ') ∧ Rest3 σ σ') := by
  obtain ⟨s, g1, g2, g3⟩ := goal0_l (N := N) (σ0 := σ) (r := r) 12 0 N σ (by omega) (by omega) (fun i hi => absurd hi (Nat.not_lt_zero _)) (fun _ _ _ => rfl) hr.1 hr.2
  have hsr := g3 r hr.1 hr.2
  have e1 : F_X8_laysGoal N 140 r σ = _ := g1
  rw [h7, h0] at e1
  unfold F_X8_fewest
  rw [e1]
  have hJ49 : J_X8_laysGoal_49 N 140 r s = some (0, s) := by
    unfold J_X8_laysGoal_49 J_X8_laysGoal_50
    obtain ⟨m, rfl⟩ : ∃ m', N = m' + 1 := ⟨N - 1, by omega⟩
    rw [L_X8_laysGoal_53]
    split
    · exact gd_t (Or.inl rfl)
    · rw [if_pos rfl]; exact gd_t (Or.inl rfl)
  rw [hJ49]
  by_cases c1 : l ≤ 0
  · rw [if_pos (by rw [l0, le_n (by omega) (by omega)]; exact c1), bind2_t, if_pos rfl]
    exact ⟨fun q => absurd c1 (by have := q.1; omega), fun _ => ⟨s, rfl, g3⟩⟩
  · rw [if_neg (by rw [l0, le_n (by omega) (by omega)]; exact c1)]
    by_cases c2 : n = l
    · subst c2
      rw [if_pos rfl]
      unfold J_X8_laysGoal_50
      have hL := goal_l (N := N) (σ0 := σ) (n := n) hN hn hr h0 h7 h4 n 0 N s (by omega) (by omega) (fun i hi => by rw [g2 i hi, bI_f (fun ⟨k', a, _⟩ => absurd a (Nat.not_lt_zero _))]) (fun k' hk' => absurd hk' (Nat.not_lt_zero _)) g3
      by_cases hPs : Ps (aM (σ r) n) (wdM (σ r)) n
      · obtain ⟨s', a1, a2, a3⟩ := hL.1 hPs
        refine ⟨fun _ => ⟨s', ?_, a2⟩, fun q => absurd ⟨by omega, rfl, hPs⟩ q⟩
        rw [show L_X8_laysGoal_53 N N 140 r 1 0 s = some (1, s') from a1, bind2_t, if_neg (by decide)]
        have ho := few_out (N := N) (r := r) (σ := s') (G := gM (σ r) n) hN hn (by rw [a2 r hr.1 hr.2]; exact h7) (fun k hk => ⟨a3 k hk, (g_spec hPs hk).1⟩) n 0 N (by omega) (by omega)
        rw [fw_goal hPs h4] at ho
        exact ho
      · obtain ⟨s', a1, a2⟩ := hL.2 hPs
        rw [show L_X8_laysGoal_53 N N 140 r 1 0 s = some (0, s') from a1, bind2_t, if_pos rfl]
        exact ⟨fun q => absurd q.2.2 hPs, fun _ => ⟨s', rfl, a2⟩⟩
    · rw [if_neg (by rw [eq_n (by omega) (by omega)]; exact c2), bind2_t, if_pos rfl]
      exact ⟨fun q => absurd q.2.1 c2, fun _ => ⟨s, rfl, g3⟩⟩
end FW
