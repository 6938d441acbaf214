/-! ===== the wind turns, a minute passes, two neighbours trade: in lockstep ===== -/
theorem pred_I {n : Nat} (hn : n < 1073741824) : (nI n - 1 : Int32).toInt = (n : Int) - 1 := by
  have h1 : (nI n).toInt = n := nI_toInt (by omega)
  have h2 : (1 : Int32).toInt = 1 := rfl
  rw [toI_sub (by omega) (by omega)]
  omega
theorem lep {n k : Nat} (hn : n < 1073741824) (hk : k < 1073741824) : (nI n - 1 ≤ nI k) = (n ≤ k + 1) := by
  rw [Int32.le_iff_toInt_le, pred_I hn, nI_toInt (by omega)]
  exact propext ⟨fun h => by omega, fun h => by omega⟩
/-- what time, tangles and trades of others leave alone -/
def Kp (μ μ' : Nat → Int32) : Prop := ∀ i, (i = 0 ∨ i = 4 ∨ i = 7 ∨ (108 ≤ i ∧ i < 120) ∨ ∃ k, k < 12 ∧ (i = 12 + 6 * k + 1 ∨ i = 12 + 6 * k + 2)) → μ' i = μ i
theorem Kp.rf {μ : Nat → Int32} : Kp μ μ := fun _ _ => rfl
theorem Kp.trans {μ μ' μ'' : Nat → Int32} (h : Kp μ μ') (h' : Kp μ' μ'') : Kp μ μ'' := fun i hi => (h' i hi).trans (h i hi)
theorem TgE.kp {μ μ' : Nat → Int32} {k g : Nat} {b : Int32} (h : TgE μ μ' k g b) (hk : k + 1 < 12) : Kp μ μ' := fun i hi => h.2.2.2.2.2.2.2.2.2.2.2 i (by omega) (by omega) (by omega) (by omega) (by omega) (by omega) (by omega)
def FrM (r : Nat) (s s' : HP) : Prop := ∀ j, j ≠ r → j ≠ 148 → s' j = s j
theorem sdD_kp {μ μ' : Nat → Int32} {d : Int32} {k : Nat} (h : Kp μ μ') (hk : k + 1 < 12) : sdD d μ' k = sdD d μ k := by
  unfold sdD swD
  rw [h _ (Or.inr (Or.inr (Or.inr (Or.inr ⟨k, by omega, Or.inr rfl⟩)))), h _ (Or.inr (Or.inr (Or.inr (Or.inr ⟨k + 1, hk, Or.inr rfl⟩))))]
section WB
variable {N p r n e t l mi : Nat}
theorem blow_l (hN : 200 ≤ N) (hr : r ≠ 148) (d0 : Int32) : ∀ (d k c g m m' : Nat) (σ s : HP), k + d = n - 1 → d < m → d < m' → c ≤ k → SRx σ p (s r) n e t g l mi → (∀ j, j + 1 < n → s 148 j = sdD d0 (s r) j) →
    ∃ c' g' σ' s', c' ≤ n ∧ L_X4_turnWind_21 N m p d0 (nI c) (nI k) σ = some (nI c', σ') ∧ L_X8_blows_46 N m' 140 r (nI c) (nI k) s = some (nI c', s') ∧ SRx σ' p (s' r) n e t g' l mi ∧ FrC p σ σ' ∧ (∀ j, j ≠ r → s' j = s j) ∧ Kp (s r) (s' r) := by
  intro d
  induction d with
  | zero =>
    intro k c g m m' σ s hk hm hm' hc h hrel
    obtain ⟨m, rfl⟩ : ∃ z, m = z + 1 := ⟨m - 1, by omega⟩
    obtain ⟨m', rfl⟩ : ∃ z, m' = z + 1 := ⟨m' - 1, by omega⟩
    have hn := h.1.1
    rw [L_X4_turnWind_21, L_X8_blows_46, h.1.2.2.2.2.2.1, show ix 0 = 0 from rfl, h.1.2.2.2.1, if_pos (by rw [lep (by omega) (by omega)]; omega), if_pos (by rw [lep (by omega) (by omega)]; omega)]
    exact ⟨c, g, σ, s, by omega, rfl, rfl, h, FrC.rf, fun _ _ => rfl, Kp.rf⟩
  | succ d ih =>
    intro k c g m m' σ s hk hm hm' hc h hrel
    obtain ⟨m, rfl⟩ : ∃ z, m = z + 1 := ⟨m - 1, by omega⟩
    obtain ⟨m', rfl⟩ : ∃ z, m' = z + 1 := ⟨m' - 1, by omega⟩
    have hn := h.1.1
    have hSc := h.2.2.2.2
    rw [L_X4_turnWind_21, L_X8_blows_46, h.1.2.2.2.2.2.1, show ix 0 = 0 from rfl, h.1.2.2.2.1, if_neg (by rw [lep (by omega) (by omega)]; omega), if_neg (by rw [lep (by omega) (by omega)]; omega)]
    rw [cPair_n h.1 (by omega), bind_t, isTangled_n (by omega), bind_t, nI_1, isTangled_n (by omega)]
    have hstep : ∃ c' g' σ' s', c' ≤ n ∧ L_X4_turnWind_21 N m p d0 (nI c) (nI (k + 1)) σ = some (nI c', σ') ∧ L_X8_blows_46 N m' 140 r (nI c) (nI (k + 1)) s = some (nI c', s') ∧ SRx σ' p (s' r) n e t g' l mi ∧ FrC p σ σ' ∧ (∀ j, j ≠ r → s' j = s j) ∧ Kp (s r) (s' r) :=
      ih (k + 1) c g m m' σ s (by omega) (by omega) (by omega) (by omega) h hrel
    by_cases f1 : tgM (s r) k
    · rw [bI_f (fun z => z.1 f1), if_pos rfl, bI_t f1, if_neg (by decide)]
      exact hstep
    · rw [bI_f f1, if_pos rfl, bind_t]
      by_cases f2 : tgM (s r) (k + 1)
      · rw [bI_f (fun z => z.2 f2), if_pos rfl, bI_t f2, if_neg (by decide)]
        exact hstep
      · rw [bI_f f2, if_pos rfl, bI_t ⟨f1, f2⟩, if_neg (by decide), cSide_n h.1 (by omega), bind_t, drift_n hSc.2.2.1 hSc.2.2.2.1, bind_t, cSide_n h.1 (by omega), bind_t]
        rw [relation_n (by omega) hSc.2.2.2.2.2.2.2.2.1 (h.1.wd (by omega)) (h.1.wd (by omega)), bind_t]
        simp (disch := omega) only [in_n, gd_True, ix_n]
        rw [hrel k (by omega)]
        by_cases q : sdD d0 (s r) k = sdM (s r) k
        · rw [if_pos (show sdD d0 (s r) k = sdD (drM (s r)) (s r) k from q), if_pos q.symm]
          exact hstep
        · rw [if_neg (show ¬ sdD d0 (s r) k = sdD (drM (s r)) (s r) k from q), if_neg (fun z => q z.symm)]
          obtain ⟨σ1, s1, a1, a2, a3, a4, a5, a6⟩ := tangle_n (b := 0) hN h (by omega) f1 f2 (Or.inl rfl)
          rw [a1, bind_t, a2, bind_t, nI_1]
          obtain ⟨c', g', σ', s', b1, b2, b3, b4, b5, b6, b7⟩ := ih (k + 1) (c + 1) (min (g + 1) 8) m m' σ1 s1 (by omega) (by omega) (by omega) (by omega) a5 (fun j hj => by rw [a4 148 (fun z => hr z.symm), hrel j hj, sdD_kp (a6.kp (by omega)) (by omega)])
          exact ⟨c', g', σ', s', b1, b2, b3, b4, a3.trans b5, fun j hj => by rw [b6 j hj, a4 j hj], (a6.kp (by omega)).trans b7⟩
theorem rels_l (hr : r ≠ 148) {a2 a3 : Int32} {s0 : HP} (hn : n ≤ 12) (h0 : s0 r 0 = nI n) (h3 : bn (s0 r 3) 0 5) (hl : ∀ k, k < n → bn (s0 r (12 + 6 * k + 2)) 1 9) : ∀ (d k m : Nat) (s : HP), k + d = n - 1 → d < m → (∀ j, j ≠ 148 → s j = s0 j) → (∀ j, j < k → s 148 j = sdM (s0 r) j) →
    ∃ s', L_X8_blows_3 N m 140 r a2 a3 (nI k) s = L_X8_blows_46 N N 140 r 0 0 (wr (wr s' r 2 a2) r 3 a3) ∧ (∀ j, j ≠ 148 → s' j = s0 j) ∧ ∀ j, j + 1 < n → s' 148 j = sdM (s0 r) j := by
  intro d
  induction d with
  | zero =>
    intro k m s hk hm h1 h2
    obtain ⟨m, rfl⟩ : ∃ z, m = z + 1 := ⟨m - 1, by omega⟩
    rw [L_X8_blows_3, show ix 0 = 0 from rfl, h1 r hr, h0, if_pos (by rw [lep (by omega) (by omega)]; omega), bd_t, bd_t, show ix 2 = 2 from rfl, show ix 3 = 3 from rfl]
    exact ⟨s, rfl, h1, fun j hj => h2 j (by omega)⟩
  | succ d ih =>
    intro k m s hk hm h1 h2
    obtain ⟨m, rfl⟩ : ∃ z, m = z + 1 := ⟨m - 1, by omega⟩
    rw [L_X8_blows_3, show ix 0 = 0 from rfl, h1 r hr, h0, if_neg (by rw [lep (by omega) (by omega)]; omega)]
    rw [relation_n (by omega) (by rw [h1 r hr]; exact h3) (by rw [h1 r hr]; exact hl k (by omega)) (by rw [h1 r hr]; exact hl (k + 1) (by omega)), bind_t]
    simp (disch := omega) only [in_n, gd_True, ix_n, bd_t, nI_1]
    refine ih (k + 1) m _ (by omega) (by omega) (fun j hj => by rw [wr_n hj]; exact h1 j hj) (fun j hj => ?_)
    rw [wr_s]
    by_cases c : j = k
    · rw [c, upd_s, h1 r hr]
    · rw [upd_n c]; exact h2 j (by omega)
theorem wind_n (hN : 200 ≤ N) (hr : r ≠ 148) {g : Nat} {σ s : HP} {a2 a3 : Int32} (h : SRx σ p (s r) n e t g l mi) (hb2 : bn a2 0 3) (hb3 : bn a3 0 5) :
    ∃ c' g' σ' s', c' ≤ n ∧ F_X4_turnWind N p a2 a3 σ = some (nI c', σ') ∧ F_X8_blows N 140 r a2 a3 s = some (nI c', s') ∧ SRx σ' p (s' r) n e t g' l mi ∧ FrC p σ σ' ∧ FrM r s s' ∧ Kp (s r) (s' r) := by
  have hn := h.1.1
  obtain ⟨hR, hPl, hLg, hW, hSc⟩ := h
  obtain ⟨s1, a1, a4, a5⟩ := rels_l (N := N) (a2 := a2) (a3 := a3) hr hn hR.2.2.2.1 hSc.2.2.2.2.2.2.2.2.1 (fun k hk => hR.wd hk) (n - 1) 0 N s (by omega) (by omega) (fun _ _ => rfl) (fun j hj => absurd hj (Nat.not_lt_zero _))
  unfold F_X4_turnWind F_X8_blows
  rw [drift_n hSc.2.2.1 hSc.2.2.2.1, bind_t, bd_t, bd_t, show L_X8_blows_3 N N 140 r a2 a3 0 s = _ from a1]
  have hμ : ∀ i, i ≠ 2 → i ≠ 3 → wr (wr s1 r 2 a2) r 3 a3 r i = s r i := fun i i2 i3 => by rw [wr_s, upd_n i3, wr_s, upd_n i2, a4 r hr]
  have hm2 : wr (wr s1 r 2 a2) r 3 a3 r 2 = a2 := by rw [wr_s, upd_n (by decide), wr_s, upd_s]
  have hm3 : wr (wr s1 r 2 a2) r 3 a3 r 3 = a3 := by rw [wr_s, upd_s]
  have hkp : Kp (s r) (wr (wr s1 r 2 a2) r 3 a3 r) := fun i hi => hμ i (by omega) (by omega)
  have hS : SRx (wr (wr σ p 5 a2) p 6 a3) p (wr (wr s1 r 2 a2) r 3 a3 r) n e t g l mi := by
    refine ⟨hR.congr (fun j j1 j2 => by rw [wr_n (by omega), wr_n (by omega)]) (hμ 0 (by decide) (by decide)) (hμ 10 (by decide) (by decide)) (fun i i1 i2 => hμ i (by omega) (by omega)), hPl.congr (fun j j1 j2 => by rw [wr_n (by omega), wr_n (by omega)]) (hμ 6 (by decide) (by decide)) (fun i i1 i2 => hμ i (by omega) (by omega)), hLg.congr (fun j j1 j2 => by rw [wr_n (by omega), wr_n (by omega)]) (hμ 9 (by decide) (by decide)) (hμ 11 (by decide) (by decide)) (fun i i1 i2 => hμ i (by omega) (by omega)), hW.congr (fun j j1 j2 => by rw [wr_n (by omega), wr_n (by omega)]) (hμ 7 (by decide) (by decide)) (fun i i1 i2 => hμ i (by omega) (by omega)), ?_⟩
    obtain ⟨c1, c2, c3, c4, c5, c6, c7, c8, c9, c10, c11⟩ := hSc
    refine ⟨by rw [hμ 1 (by decide) (by decide)]; exact c1, ?_, ?_, ?_, ?_, ?_, ?_, by rw [hm2]; exact hb2, by rw [hm3]; exact hb3, by rw [hμ 4 (by decide) (by decide)]; exact c10, by rw [hμ 5 (by decide) (by decide)]; exact c11⟩
    · rw [wr_s, upd_n (by decide), wr_s, upd_n (by decide)]; exact c2
    · rw [hm2, wr_s, upd_n (by decide), wr_s, upd_s]
    · rw [hm3, wr_s, upd_s]
    · rw [hμ 4 (by decide) (by decide), wr_s, upd_n (by decide), wr_s, upd_n (by decide)]; exact c5
    · rw [hμ 5 (by decide) (by decide), wr_s, upd_n (by decide), wr_s, upd_n (by decide)]; exact c6
    · rw [hμ 8 (by decide) (by decide), wr_s, upd_n (by decide), wr_s, upd_n (by decide)]; exact c7
  obtain ⟨c', g', σ', s', b1, b2, b3, b4, b5, b6, b7⟩ := blow_l (N := N) hN hr (drM (s r)) (n - 1) 0 0 g N N _ _ (by omega) (by omega) (by omega) (Nat.le_refl _) hS (fun j hj => by
    rw [wr_n (fun z => hr z.symm), wr_n (fun z => hr z.symm), a5 j hj, sdD_kp hkp (by omega)]
    rfl)
  refine ⟨c', g', σ', s', b1, b2, b3, b4, fun j hj => ?_, fun j j1 j2 => ?_, hkp.trans b7⟩
  · rw [b5 j hj, wr_n (by omega), wr_n (by omega)]
  · rw [b6 j j1, wr_n j1, wr_n j1, a4 j j2]
/-- a minute -/
theorem minute_n (hN : 200 ≤ N) (hr : r ≠ 148) (hmi : mi < 100000) {g : Nat} {σ s : HP} (h : SRx σ p (s r) n e t g l mi) :
    ∃ c' t' g' σ' s', c' ≤ n ∧ F_X4_passMinute N p σ = some (nI c', σ') ∧ F_X8_minute N 140 r s = some (nI c', s') ∧ SRx σ' p (s' r) n e t' g' l (mi + 1) ∧ FrC p σ σ' ∧ FrM r s s' ∧ Kp (s r) (s' r) := by
  have hn := h.1.1
  obtain ⟨hR, hPl, hLg, hW, hSc⟩ := h
  have ht := hPl.1
  -- the counts of minutes grow
  unfold F_X4_passMinute F_X8_minute
  rw [hSc.2.1, show ix 1 = 1 from rfl, hSc.1, nI_1, bd_t, bd_t]
  generalize hσ1 : wr σ p 4 (nI (mi + 1)) = σ1
  generalize hs1 : wr s r 1 (nI (mi + 1)) = s1
  have u1 : ∀ j, j ≠ p → σ1 j = σ j := fun j hj => by rw [← hσ1, wr_n hj]
  have u2 : ∀ j, j ≠ r → s1 j = s j := fun j hj => by rw [← hs1, wr_n hj]
  have v1 : ∀ i, i ≠ 1 → s1 r i = s r i := fun i hi => by rw [← hs1, wr_s, upd_n hi]
  have v2 : s1 r 1 = nI (mi + 1) := by rw [← hs1, wr_s, upd_s]
  have hR1 : RowR σ1 (p + 1) (s1 r) n e := hR.congr (fun j j1 j2 => u1 j (by omega)) (v1 0 (by decide)) (v1 10 (by decide)) (fun i i1 i2 => v1 i (by omega))
  -- one minute less
  obtain ⟨s2, m', d1, d2, d3, d4, d5⟩ := mLoose_l (N := N) (r := r) (s0 := s1) hn hR1.2.2.2.1 n 0 N s1 (by omega) (by omega) (fun _ _ => rfl) (fun _ _ => rfl) (fun k' hk' => absurd hk' (Nat.not_lt_zero _))
  obtain ⟨σ2, e1, e2, e3, e4⟩ := cLoose_l (N := N) (q := p + 1) (σ0 := σ1) hn hR1.2.2.2.2.2.1 n 0 N σ1 (by omega) (by omega) (fun _ _ _ => rfl) (fun i => by rw [if_neg (by omega)]) (fun i => by rw [if_neg (by omega)])
  have hR2 : RowR σ2 (p + 1) (s2 r) n e := hR1.loose (fun j j1 j2 j3 j4 => e2 j j3 j4) e3 e4 (fun i i1 i2 i3 => d4 i i3) d5
  have w2 : ∀ j, j < p ∨ p + 7 < j → σ2 j = σ j := fun j hj => by rw [e2 j (by omega) (by omega), u1 j (by omega)]
  have wp : σ2 p = σ1 p := e2 p (by omega) (by omega)
  have x2 : ∀ i, i ≠ 1 → (∀ k', k' < n → i ≠ 12 + 6 * k' + 4) → s2 r i = s r i := fun i h1 h2 => by rw [d4 i h2, v1 i h1]
  have x1 : s2 r 1 = nI (mi + 1) := by rw [d4 1 (fun k' _ => by omega)]; exact v2
  have hkp : Kp (s r) (s2 r) := fun i hi => x2 i (by omega) (fun k' _ => by omega)
  have hfr : ∀ j, j ≠ r → s2 j = s j := fun j hj => by rw [d3 j hj, u2 j hj]
  have hSc2 : ScR σ2 p (s2 r) (mi + 1) := by
    obtain ⟨c1, c2, c3, c4, c5, c6, c7, c8, c9, c10, c11⟩ := hSc
    have y : ∀ i, i ≠ 4 → σ2 p i = σ p i := fun i hi => by rw [wp, ← hσ1, wr_s, upd_n hi]
    refine ⟨x1, by rw [wp, ← hσ1, wr_s, upd_s], ?_, ?_, ?_, ?_, ?_, ?_, ?_, ?_, ?_⟩
    · rw [y 5 (by decide), x2 2 (by decide) (fun k' _ => by omega)]; exact c3
    · rw [y 6 (by decide), x2 3 (by decide) (fun k' _ => by omega)]; exact c4
    · rw [y 7 (by decide), x2 4 (by decide) (fun k' _ => by omega)]; exact c5
    · rw [y 8 (by decide), x2 5 (by decide) (fun k' _ => by omega)]; exact c6
    · rw [y 9 (by decide), x2 8 (by decide) (fun k' _ => by omega)]; exact c7
    · rw [x2 2 (by decide) (fun k' _ => by omega)]; exact c8
    · rw [x2 3 (by decide) (fun k' _ => by omega)]; exact c9
    · rw [x2 4 (by decide) (fun k' _ => by omega)]; exact c10
    · rw [x2 5 (by decide) (fun k' _ => by omega)]; exact c11
  have hPl2 : PlanR σ2 (p + 8) (s2 r) t mi := hPl.congr (fun j j1 j2 => w2 j (by omega)) (x2 6 (by decide) (fun k' _ => by omega)) (fun i i1 i2 => x2 i (by omega) (fun k' _ => by omega))
  have hLg2 : LogR σ2 (p + 12) (s2 r) g := hLg.congr (fun j j1 j2 => w2 j (by omega)) (x2 9 (by decide) (fun k' _ => by omega)) (x2 11 (by decide) (fun k' _ => by omega)) (fun i i1 i2 => x2 i (by omega) (fun k' _ => by omega))
  have hW2 : WordR σ2 (p + 17) (s2 r) l := hW.congr (fun j j1 j2 => w2 j (by omega)) (x2 7 (by decide) (fun k' _ => by omega)) (fun i i1 i2 => x2 i (by omega) (fun k' _ => by omega))
  have hFr2 : FrC p σ σ2 := fun j hj => w2 j (by omega)
  rw [show F_X3_loosen N (p + 1) σ1 = some σ2 from e1, bind_t, hSc2.2.1]
  have hd2 : L_X8_minute_9 N N 140 r 0 s1 = L_X8_minute_9 N m' 140 r (nI n) s2 := d2
  obtain ⟨m'', rfl⟩ : ∃ z, m' = z + 1 := ⟨m' - 1, by omega⟩
  rw [hd2, L_X8_minute_9, show ix 0 = 0 from rfl, hR2.2.2.2.1, if_pos (by rw [le_n (by omega) (by omega)]; exact Nat.le_refl _)]
  rw [show ix 6 = 6 from rfl, show ix 84 = 84 from rfl, show ix 1 = 1 from rfl, show ix 85 = 85 from rfl, show ix 86 = 86 from rfl, hPl2.2.1, x1]
  by_cases hex : ∃ k, k < t ∧ s2 r (84 + 3 * k) = nI (mi + 1)
  · obtain ⟨k, hk, z⟩ := hex
    have hk0 : k = 0 := by
      refine Classical.byContradiction fun hk0 => ?_
      have hlt := hPl2.2.2.2.2 0 k (by omega) hk
      obtain ⟨i, i1, i2, i3⟩ := (hPl2.2.2.2.1 0 (by omega)).2.2.2.1
      rw [z, i3, lt_n (by omega) (by omega)] at hlt
      omega
    subst hk0
    have hf : s2 r 84 = nI (mi + 1) := z
    rw [if_neg (by rw [l0, eq_n (by omega) (by omega)]; omega), if_pos hf, bd_t, bd_t]
    have hm := rank_hit (N := N) (rk := 0) hPl2 (by omega) 0 0 N (by omega) (by omega)
    rw [show F_X1_rankOf N (p + 8) (nI (mi + 1)) σ2 = some (nI 0) from by rw [← hf]; exact hm, bind_t, if_neg (by decide)]
    simp (disch := omega) only [in_n, gd_True, ix_n, bd_t]
    have hT0 := hPl2.2.2.2.1 0 (by omega)
    rw [hT0.2.1, hT0.2.2.1]
    obtain ⟨σ3, f1, f2, f3, f4⟩ := cRemove_n (N := N) (q := p + 8) (rk := 0) hN ht (by omega) hPl2.2.2.1
    obtain ⟨s3, k1, k2, k3, k4, k5⟩ := mDrop_n (N := N) (r := r) (rk := 0) (s := s2) hN ht (by omega) hPl2.2.1
    rw [f1, bind_t, show F_X8_dropsTurn N r 0 s2 = some s3 from k1, bind_t]
    have hPl3 : PlanR σ3 (p + 8) (s3 r) (t - 1) (mi + 1) := hPl2.drop (by omega) f3 f4 k3 k5 (fun k hk hk0 => by
      obtain ⟨i, i1, i2, i3⟩ := (hPl2.2.2.2.1 k hk).2.2.2.1
      have hlt := hPl2.2.2.2.2 0 k (by omega) hk
      rw [show s2 r (84 + 3 * 0) = nI (mi + 1) from hf, i3, lt_n (by omega) (by omega)] at hlt
      exact ⟨i, by omega, i2, i3⟩)
    have hS3 : SRx σ3 p (s3 r) n e (t - 1) g l (mi + 1) := ⟨hR2.congr (fun j j1 j2 => f2 j (by omega)) (k4 0 (by omega) (by omega)) (k4 10 (by omega) (by omega)) (fun i i1 i2 => k4 i (by omega) (by omega)), hPl3, hLg2.congr (fun j j1 j2 => f2 j (by omega)) (k4 9 (by omega) (by omega)) (k4 11 (by omega) (by omega)) (fun i i1 i2 => k4 i (by omega) (by omega)), hW2.congr (fun j j1 j2 => f2 j (by omega)) (k4 7 (by omega) (by omega)) (fun i i1 i2 => k4 i (by omega) (by omega)), hSc2.congr (f2 p (by omega)) (fun i i1 i2 i3 i4 => k4 i (by omega) (by omega))⟩
    obtain ⟨c', g', σ', s', b1, b2, b3, b4, b5, b6, b7⟩ := wind_n (N := N) hN hr (a2 := s2 r 85) (a3 := s2 r 86) hS3 hT0.2.2.2.2.1 hT0.2.2.2.2.2
    rw [show F_X4_turnWind N p (s2 r (84 + 3 * 0 + 1)) (s2 r (84 + 3 * 0 + 2)) σ3 = some (nI c', σ') from b2, bind2_t, b3, bind2_t]
    refine ⟨c', t - 1, g', σ', s', b1, rfl, rfl, b4, fun j hj => by rw [b5 j hj, f2 j (by omega), hFr2 j hj], fun j j1 j2 => by rw [b6 j j1 j2, k2 j j1, hfr j j1], hkp.trans (Kp.trans (fun i hi => k4 i (by omega) (by omega)) b7)⟩
  · have hk : ∀ k, k < t → s2 r (84 + 3 * k) ≠ nI (mi + 1) := fun k h1 h2 => hex ⟨k, h1, h2⟩
    have hm := rank_miss (N := N) (a := nI (mi + 1)) hPl2 hk t 0 N (by omega) (by omega)
    rw [show F_X1_rankOf N (p + 8) (nI (mi + 1)) σ2 = some (-1) from hm, bind_t, if_pos rfl]
    have hS3 : SRx σ2 p (s2 r) n e t g l (mi + 1) := by
      refine ⟨hR2, ?_, hLg2, hW2, hSc2⟩
      obtain ⟨p1, p2, p3, p4, p5⟩ := hPl2
      refine ⟨p1, p2, p3, fun k hkt => ?_, p5⟩
      obtain ⟨q1, q2, q3, ⟨i, i1, i2, i3⟩, q5, q6⟩ := p4 k hkt
      refine ⟨q1, q2, q3, ⟨i, ?_, i2, i3⟩, q5, q6⟩
      have := hk k hkt
      rw [i3] at this
      have : i ≠ mi + 1 := fun z => this (by rw [z])
      omega
    by_cases t0 : t = 0
    · rw [if_pos (show nI t = 0 from by rw [t0]; rfl)]
      exact ⟨0, t, g, σ2, s2, Nat.zero_le _, rfl, rfl, hS3, hFr2, fun j j1 _ => hfr j j1, hkp⟩
    · rw [if_neg (by rw [l0, eq_n (by omega) (by omega)]; exact t0), if_neg (hk 0 (by omega))]
      exact ⟨0, t, g, σ2, s2, Nat.zero_le _, rfl, rfl, hS3, hFr2, fun j j1 _ => hfr j j1, hkp⟩
end WB
