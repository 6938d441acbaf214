/-! ===== two neighbours trade places ===== -/
section SW
variable {N : Nat}
theorem swn_n {a k : Nat} {σ : HP} (hk : k + 1 < 12) : F_X3_swapWithNext N a (nI k) σ = some (wr (wr σ a k (σ a (k + 1))) a (k + 1) (σ a k)) := by
  unfold F_X3_swapWithNext
  simp (disch := omega) only [nI_1, in_n, gd_True, ix_n, bd_t]
theorem swn_v {a k : Nat} {σ : HP} (i : Nat) : (wr (wr σ a k (σ a (k + 1))) a (k + 1) (σ a k)) a i = σ a (tr k i) := by
  rw [wr_s]
  by_cases c : i = k + 1
  · rw [c, upd_s, tr_q]
  · rw [upd_n c, wr_s]
    by_cases c2 : i = k
    · rw [c2, upd_s, tr_p]
    · rw [upd_n c2, tr_n c2 c]
theorem swn_o {a k j : Nat} {σ : HP} (h : j ≠ a) : (wr (wr σ a k (σ a (k + 1))) a (k + 1) (σ a k)) j = σ j := by rw [wr_n h, wr_n h]
theorem swe_n {q k : Nat} {σ : HP} (hk : k + 1 < 12) : ∃ σ', F_X3_swapEntries N q (nI k) σ = some σ' ∧ (∀ j, j < q + 1 ∨ q + 6 < j → σ' j = σ j) ∧ ∀ v, 1 ≤ v → v ≤ 6 → ∀ i, σ' (q + v) i = σ (q + v) (tr k i) := by
  unfold F_X3_swapEntries
  rw [swn_n hk, bind_t, swn_n hk, bind_t, swn_n hk, bind_t, swn_n hk, bind_t, swn_n hk, bind_t, swn_n hk, bind_t]
  refine ⟨_, rfl, fun j hj => ?_, fun v v1 v2 i => ?_⟩
  · rw [swn_o (by omega), swn_o (by omega), swn_o (by omega), swn_o (by omega), swn_o (by omega), swn_o (by omega)]
  · rcases (show v = 1 ∨ v = 2 ∨ v = 3 ∨ v = 4 ∨ v = 5 ∨ v = 6 by omega) with rfl | rfl | rfl | rfl | rfl | rfl
    · rw [swn_o (by omega), swn_o (by omega), swn_o (by omega), swn_o (by omega), swn_o (by omega), swn_v]
    · rw [swn_o (by omega), swn_o (by omega), swn_o (by omega), swn_o (by omega), swn_v, swn_o (by omega)]
    · rw [swn_o (by omega), swn_o (by omega), swn_o (by omega), swn_v, swn_o (by omega), swn_o (by omega)]
    · rw [swn_o (by omega), swn_o (by omega), swn_v, swn_o (by omega), swn_o (by omega), swn_o (by omega)]
    · rw [swn_o (by omega), swn_v, swn_o (by omega), swn_o (by omega), swn_o (by omega), swn_o (by omega)]
    · rw [swn_v, swn_o (by omega), swn_o (by omega), swn_o (by omega), swn_o (by omega), swn_o (by omega)]
theorem cSwap_n {q k : Nat} {σ : HP} (hk : k + 1 < 12) : ∃ σ', F_X3_swap N q (nI k) σ = some σ' ∧ (∀ j, j < q + 1 ∨ q + 6 < j → σ' j = σ j) ∧ (∀ v, 1 ≤ v → v ≤ 5 → ∀ i, σ' (q + v) i = σ (q + v) (tr k i)) ∧ ∀ i, σ' (q + 6) i = if i = k ∨ i = k + 1 then σ (q + 6) (tr k i) + 1 else σ (q + 6) i := by
  obtain ⟨s, a1, a2, a3⟩ := swe_n (N := N) (q := q) (σ := σ) hk
  unfold F_X3_swap
  rw [a1, bind_t]
  simp (disch := omega) only [nI_1, in_n, gd_True, ix_n, bd_t]
  refine ⟨_, rfl, fun j hj => by rw [wr_n (by omega), wr_n (by omega)]; exact a2 j hj, fun v v1 v2 i => by rw [wr_n (by omega), wr_n (by omega)]; exact a3 v v1 (by omega) i, fun i => ?_⟩
  have h6 := a3 6 (by omega) (by omega)
  rw [wr_s]
  by_cases c : i = k + 1
  · rw [c, upd_s, wr_s, upd_n (by omega), h6, if_pos (Or.inr rfl)]
  · rw [upd_n c, wr_s]
    by_cases c2 : i = k
    · rw [c2, upd_s, h6, if_pos (Or.inl rfl)]
    · rw [upd_n c2, h6, tr_n c2 c, if_neg (by omega)]
end SW
theorem tr_ne {k i j : Nat} (h : i ≠ j) : tr k i ≠ tr k j := fun z => h (by rw [← tr_tr (p := k) (x := i), z, tr_tr])
/-- the rows behind a swap of two who are free, their counts of trades one more -/
theorem RowR.swap {q n e k : Nat} {σ σ' : HP} {μ μ' : Nat → Int32} (h : RowR σ q μ n e) (hk : k + 1 < n) (f1 : ¬ tgM μ k) (f2 : ¬ tgM μ (k + 1)) (h0 : σ' q = σ q) (hv : ∀ v, 1 ≤ v → v ≤ 5 → ∀ i, σ' (q + v) i = σ (q + v) (tr k i)) (h6 : ∀ i, σ' (q + 6) i = if i = k ∨ i = k + 1 then σ (q + 6) (tr k i) + 1 else σ (q + 6) i)
    (g0 : μ' 0 = μ 0) (g10 : μ' 10 = μ 10) (gv : ∀ i v, i < 12 → v < 5 → μ' (12 + 6 * i + v) = μ (12 + 6 * tr k i + v)) (g5 : ∀ i, i < 12 → μ' (12 + 6 * i + 5) = if i = k ∨ i = k + 1 then μ (12 + 6 * tr k i + 5) + 1 else μ (12 + 6 * i + 5)) : RowR σ' q μ' n e := by
  have hR := h
  obtain ⟨a1, a2, a3, a4, a5, a6, a7, a8, a9, a10⟩ := h
  have gnum : ∀ i, i < 12 → μ' (12 + 6 * i) = μ (12 + 6 * tr k i) := fun i hi => gv i 0 hi (by decide)
  have ht : ∀ i, i < n → tr k i < n := fun i hi => tr_lt hk hi
  refine ⟨a1, a2, a3, by rw [g0]; exact a4, by rw [g10]; exact a5, by rw [h0]; exact a6, by rw [h0]; exact a7, fun i hi => ?_, fun i hi => ?_, fun i j hi hj z => ?_⟩
  · obtain ⟨b1, b2, b3, b4, b5, b6, b7, b8⟩ := a8 (tr k i) (ht i hi)
    refine ⟨?_, ?_, ?_, ?_, ?_, ?_, ?_, ?_⟩
    · rw [hv 1 (by omega) (by omega), gnum i (by omega)]; exact b1
    · rw [hv 2 (by omega) (by omega), gv i 1 (by omega) (by decide)]; exact b2
    · rw [hv 3 (by omega) (by omega), gv i 2 (by omega) (by decide)]; exact b3
    · rw [hv 5 (by omega) (by omega), gv i 4 (by omega) (by decide)]; exact b4
    · rw [h6, g5 i (by omega)]
      by_cases c : i = k ∨ i = k + 1
      · rw [if_pos c, if_pos c, b5]
      · rw [if_neg c, if_neg c]; exact (a8 i hi).2.2.2.2.1
    · rw [gnum i (by omega)]; exact b6
    · rw [gv i 2 (by omega) (by decide)]; exact b7
    · rw [gv i 4 (by omega) (by decide)]; exact b8
  · have hM := a9 (tr k i) (ht i hi)
    have hfr : ∀ j, (j = k ∨ j = k + 1) → σ (q + 4) j = 0 := fun j hj => by
      rcases hj with rfl | rfl
      · exact (hR.tg (by omega)).mpr f1
      · exact (hR.tg hk).mpr f2
    unfold MateR
    rw [hv 4 (by omega) (by omega), gv i 4 (by omega) (by decide), gv i 3 (by omega) (by decide)]
    by_cases c : i = k ∨ i = k + 1
    · have hz : σ (q + 4) (tr k i) = 0 := hfr _ (by rcases c with rfl | rfl; rw [tr_p]; exact Or.inr rfl; rw [tr_q]; exact Or.inl rfl)
      rcases hM with hM | ⟨m1, -⟩ | ⟨m1, -⟩
      · exact Or.inl hM
      · rw [hz] at m1; exact absurd m1 (by decide)
      · rw [hz] at m1; exact absurd m1 (by decide)
    · have ti : tr k i = i := tr_n (by omega) (by omega)
      rw [ti] at hM ⊢
      rcases hM with hM | ⟨m1, m2, m3, m4, m5, m6⟩ | ⟨m1, m2, j, m3, m4, m5, m6⟩
      · exact Or.inl hM
      · have d1 : ¬ (i + 1 = k ∨ i + 1 = k + 1) := fun z => by rw [hfr _ z] at m4; exact absurd m4 (by decide)
        have tj : tr k (i + 1) = i + 1 := tr_n (by omega) (by omega)
        refine Or.inr (Or.inl ⟨m1, m2, m3, ?_, ?_, ?_⟩)
        · rw [hv 4 (by omega) (by omega), tj]; exact m4
        · rw [gnum (i + 1) (by omega), tj]; exact m5
        · rw [gv (i + 1) 4 (by omega) (by decide), tj]; exact m6
      · have d1 : ¬ (j = k ∨ j = k + 1) := fun z => by rw [hfr _ z] at m4; exact absurd m4 (by decide)
        have tj : tr k j = j := tr_n (by omega) (by omega)
        refine Or.inr (Or.inr ⟨m1, m2, j, m3, ?_, ?_, ?_⟩)
        · rw [hv 4 (by omega) (by omega), tj]; exact m4
        · rw [gnum j (by omega), tj]; exact m5
        · rw [gv j 4 (by omega) (by decide), tj]; exact m6
  · rw [gnum i (by omega), gnum j (by omega)] at z
    have := a10 _ _ (ht i hi) (ht j hj) z
    exact Classical.byContradiction fun q => tr_ne q this
/-- letters and lines behind a trade -/
def KpS (μ μ' : Nat → Int32) (k : Nat) : Prop := (∀ i, (i = 0 ∨ i = 4 ∨ i = 7 ∨ (108 ≤ i ∧ i < 120)) → μ' i = μ i) ∧ ∀ x, x < 12 → μ' (12 + 6 * x + 1) = μ (12 + 6 * tr k x + 1)
section TRD
variable {N p r n e t g l mi k : Nat} {σ s : HP}
theorem trade_n (hN : 200 ≤ N) (hr : r ≠ 148) (hmi : mi < 100000) (h : SRx σ p (s r) n e t g l mi) (hk : k + 1 < n) (f1 : ¬ tgM (s r) k) (f2 : ¬ tgM (s r) (k + 1)) :
    ∃ v t' g' σ' s', (v = 0 ∨ v = 1) ∧ F_X4_tradePlaces N p (nI k) σ = some (v, σ') ∧ F_X8_trades N 140 r (nI k) s = some (v, s') ∧ SRx σ' p (s' r) n e t' g' l (mi + 1) ∧ FrC p σ σ' ∧ FrM r s s' ∧ KpS (s r) (s' r) k := by
  have hn := h.1.1
  obtain ⟨hR, hPl, hLg, hW, hSc⟩ := h
  unfold F_X4_tradePlaces F_X8_trades
  rw [drift_n hSc.2.2.1 hSc.2.2.2.1, bind_t, cWould_n hR hk hSc.2.2.2.2.2.2.2.2.1, bind_t, wouldTangle_n (by omega), bind_t]
  obtain ⟨σ1, a1, a2, a3, a4⟩ := cSwap_n (N := N) (q := p + 1) (σ := σ) (show k + 1 < 12 by omega)
  obtain ⟨s1, b1, b2, b3, b4⟩ := swaps_n (N := N) (r := r) (σ0 := s) hN (show k + 1 < 12 by omega)
  rw [a1, bind_t, b1, bind_t, bd_t, l5, of_n (by omega) (by decide), bind_t, puts_n (by omega) (by decide), bind_t, nI_1, of_n (by omega) (by decide), bind_t, puts_n (by omega) (by decide), bind_t, bd_t, show ix 8 = 8 from rfl]
  generalize hσ2 : wr σ1 p 9 (σ1 p 9 + 1) = σ2
  generalize hs2 : wr (wr (wr s1 r (12 + 6 * k + 5) (s1 r (12 + 6 * k + 5) + 1)) r (12 + 6 * (k + 1) + 5) _) r 8 _ = s2
  have u1 : ∀ j, j ≠ p → σ2 j = σ1 j := fun j hj => by rw [← hσ2, wr_n hj]
  have u2 : ∀ j, j ≠ r → s2 j = s j := fun j hj => by rw [← hs2, wr_n hj, wr_n hj, wr_n hj]; exact b2 j hj
  have x1 : ∀ i, i ≠ 8 → i ≠ 12 + 6 * k + 5 → i ≠ 12 + 6 * (k + 1) + 5 → s2 r i = s1 r i := fun i i1 i2 i3 => by rw [← hs2, wr_s, upd_n i1, wr_s, upd_n i3, wr_s, upd_n i2]
  have x8 : s2 r 8 = s r 8 + 1 := by
    rw [← hs2, wr_s, upd_s, wr_s, upd_n (by omega), wr_s, upd_n (by omega), b3 8 (by omega)]
  have x5 : s2 r (12 + 6 * k + 5) = s r (12 + 6 * (k + 1) + 5) + 1 := by
    rw [← hs2, wr_s, upd_n (by omega), wr_s, upd_n (by omega), wr_s, upd_s, b4 k 5 (by omega) (by decide), tr_p]
  have x5' : s2 r (12 + 6 * (k + 1) + 5) = s r (12 + 6 * k + 5) + 1 := by
    rw [← hs2, wr_s, upd_n (by omega), wr_s, upd_s, wr_s, upd_n (by omega), b4 (k + 1) 5 (by omega) (by decide), tr_q]
  have xlo : ∀ i, i < 12 ∨ 84 ≤ i → i ≠ 8 → s2 r i = s r i := fun i i1 i2 => by rw [x1 i i2 (by omega) (by omega)]; exact b3 i i1
  have xfl : ∀ i v, i < 12 → v < 5 → s2 r (12 + 6 * i + v) = s r (12 + 6 * tr k i + v) := fun i v hi hv => by rw [x1 _ (by omega) (by omega) (by omega)]; exact b4 i v hi (by omega)
  have hR2 : RowR σ2 (p + 1) (s2 r) n e := hR.swap hk f1 f2 (by rw [u1 _ (by omega), a2 _ (by omega)]) (fun v v1 v2 i => by rw [u1 _ (by omega)]; exact a3 v v1 v2 i) (fun i => by rw [u1 _ (by omega)]; exact a4 i) (xlo 0 (by omega) (by omega)) (xlo 10 (by omega) (by omega)) xfl (fun i hi => by
    by_cases c : i = k ∨ i = k + 1
    · rw [if_pos c]
      rcases c with rfl | rfl
      · rw [x5, tr_p]
      · rw [x5', tr_q]
    · rw [if_neg c, x1 _ (by omega) (by omega) (by omega), b4 i 5 hi (by decide), tr_n (by omega) (by omega)])
  have hS2 : SRx σ2 p (s2 r) n e t g l mi := by
    refine ⟨hR2, hPl.congr (fun j j1 j2 => by rw [u1 _ (by omega), a2 _ (by omega)]) (xlo 6 (by omega) (by omega)) (fun i i1 i2 => xlo i (by omega) (by omega)), hLg.congr (fun j j1 j2 => by rw [u1 _ (by omega), a2 _ (by omega)]) (xlo 9 (by omega) (by omega)) (xlo 11 (by omega) (by omega)) (fun i i1 i2 => xlo i (by omega) (by omega)), hW.congr (fun j j1 j2 => by rw [u1 _ (by omega), a2 _ (by omega)]) (xlo 7 (by omega) (by omega)) (fun i i1 i2 => xlo i (by omega) (by omega)), ?_⟩
    obtain ⟨c1, c2, c3, c4, c5, c6, c7, c8, c9, c10, c11⟩ := hSc
    have y : ∀ i, i ≠ 9 → σ2 p i = σ p i := fun i hi => by rw [← hσ2, wr_s, upd_n hi, a2 p (by omega)]
    have y9 : σ2 p 9 = σ p 9 + 1 := by rw [← hσ2, wr_s, upd_s, a2 p (by omega)]
    refine ⟨by rw [xlo 1 (by omega) (by omega)]; exact c1, by rw [y 4 (by decide)]; exact c2, by rw [y 5 (by decide), xlo 2 (by omega) (by omega)]; exact c3, by rw [y 6 (by decide), xlo 3 (by omega) (by omega)]; exact c4, by rw [y 7 (by decide), xlo 4 (by omega) (by omega)]; exact c5, by rw [y 8 (by decide), xlo 5 (by omega) (by omega)]; exact c6, by rw [y9, x8, c7], by rw [xlo 2 (by omega) (by omega)]; exact c8, by rw [xlo 3 (by omega) (by omega)]; exact c9, by rw [xlo 4 (by omega) (by omega)]; exact c10, by rw [xlo 5 (by omega) (by omega)]; exact c11⟩
  have hF2 : FrC p σ σ2 := fun j hj => by rw [u1 j (by omega), a2 j (by omega)]
  have hks : KpS (s r) (s2 r) k := ⟨fun i hi => xlo i (by omega) (by omega), fun x hx => xfl x 1 hx (by decide)⟩
  have hkt : ∀ μ'' : Nat → Int32, Kp (s2 r) μ'' → KpS (s r) μ'' k := fun μ'' hq => ⟨fun i hi => by rw [hq i (by omega)]; exact hks.1 i hi, fun x hx => by rw [hq _ (Or.inr (Or.inr (Or.inr (Or.inr ⟨x, hx, Or.inl rfl⟩))))]; exact hks.2 x hx⟩
  unfold J_X4_tradePlaces_41 J_X8_trades_61
  by_cases hw : wtM (s r) k
  · rw [bI_t hw, if_neg (by decide), if_neg (by decide)]
    have g1 : ¬ tgM (s2 r) k := by
      unfold tgM at f2 ⊢
      rw [xfl k 4 (by omega) (by decide), tr_p]
      exact f2
    have g2 : ¬ tgM (s2 r) (k + 1) := by
      unfold tgM at f1 ⊢
      rw [xfl (k + 1) 4 (by omega) (by decide), tr_q]
      exact f1
    obtain ⟨σ3, s3, t1, t2, t3, t4, t5, t6⟩ := tangle_n (N := N) (b := 1) hN hS2 hk g1 g2 (Or.inr rfl)
    obtain ⟨c', t', g', σ', s', m1, m2, m3, m4, m5, m6, m7⟩ := minute_n (N := N) hN hr hmi t5
    rw [t1, bind_t, t2, bind_t, m2, bind2_t, m3, bind2_t, gd_t (Or.inr rfl), if_neg (by decide), if_neg (by rw [l0, lt_n (by omega) (by omega)]; omega)]
    exact ⟨1, t', g', σ', s', Or.inr rfl, rfl, rfl, m4, (hF2.trans t3).trans m5, fun j j1 j2 => by rw [m6 j j1 j2, t4 j j1, u2 j j1], hkt _ ((t6.kp (by omega)).trans m7)⟩
  · rw [bI_f hw, if_pos rfl, if_pos rfl]
    obtain ⟨c', t', g', σ', s', m1, m2, m3, m4, m5, m6, m7⟩ := minute_n (N := N) hN hr hmi hS2
    rw [m2, bind2_t, m3, bind2_t, gd_t (Or.inl rfl), if_pos rfl]
    exact ⟨0, t', g', σ', s', Or.inl rfl, rfl, rfl, m4, hF2.trans m5, fun j j1 j2 => by rw [m6 j j1 j2, u2 j j1], hkt _ m7⟩
end TRD
