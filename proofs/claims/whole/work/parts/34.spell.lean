/-! ===== is the word spelled ===== -/
def spM (μ : Nat → Int32) (n l : Nat) : Prop := l ≠ 0 ∧ n = l ∧ cnt (rdM μ n) n = n ∧ ∀ k, k < n → rdM μ n k → μ (12 + 6 * k + 1) = μ (108 + rkM μ n k)
section SP
variable {N p r n e l : Nat} {σ : HP} {μ : Nat → Int32}
theorem rk_onto {μ : Nat → Int32} {n j : Nat} (h : j < cnt (rdM μ n) n) : ∃ k, k < n ∧ rdM μ n k ∧ rkM μ n k = j :=
  rkf_onto (P := rdM μ n) (f := keyM μ) (M := n) (fun a b ha _ _ pb h => key_inj ha pb h) n j (Nat.le_refl _) h
theorem rk_lt {μ : Nat → Int32} {n k : Nat} (hk : k < n) (h : rdM μ n k) : rkM μ n k < cnt (rdM μ n) n := rkf_cnt hk h
theorem rk_inj {μ : Nat → Int32} {n a b : Nat} (ha : a < n) (hb : b < n) (pa : rdM μ n a) (pb : rdM μ n b) (h : rkM μ n a = rkM μ n b) : a = b := by
  rcases Int.lt_trichotomy (keyM μ a) (keyM μ b) with q | q | q
  · have := rkf_lt (i := n) ha pa q; unfold rkM at h; omega
  · exact key_inj ha pb q
  · have := rkf_lt (i := n) hb pb q; unfold rkM at h; omega
theorem cSpell_l (hR : RowR σ (p + 1) μ n e) (hW : WordR σ (p + 17) μ n) (hL : LkR σ (rdM μ n) (keyM μ) n) (hc : cnt (rdM μ n) n = n) : ∀ (d i m : Nat), i + d = n → d < m →
    L_X7_isSpelled_56 N m 133 p (nI i) σ = some (bI (∀ k, k < n → rdM μ n k → i ≤ rkM μ n k → μ (12 + 6 * k + 1) = μ (108 + rkM μ n k)), σ) := by
  have hn := hR.1
  intro d
  induction d with
  | zero =>
    intro i m hi hm
    obtain ⟨m, rfl⟩ : ∃ m', m = m' + 1 := ⟨m - 1, by omega⟩
    rw [L_X7_isSpelled_56, hL.1]
    simp (disch := omega) only [le_n]
    rw [if_pos (by omega), bI_t (fun k hk pk h => by have := rk_lt hk pk; omega)]
  | succ d ih =>
    intro i m hi hm
    obtain ⟨m, rfl⟩ : ∃ m', m = m' + 1 := ⟨m - 1, by omega⟩
    rw [L_X7_isSpelled_56, hL.1]
    obtain ⟨k, hk, pk, ek⟩ := rk_onto (μ := μ) (n := n) (j := i) (by omega)
    have hpl : σ 137 i = nI k := by rw [← ek]; exact hL.2 k hk pk
    simp (disch := omega) only [le_n, in_n, gd_True, ix_n]
    rw [if_neg (by omega), hpl]
    simp (disch := omega) only [in_n, gd_True, ix_n]
    rw [(hR.2.2.2.2.2.2.2.1 k hk).2.1, hW.2.2.2.1 i (by omega)]
    by_cases he : μ (12 + 6 * k + 1) = μ (108 + i)
    · rw [if_pos he, nI_1, ih (i + 1) m (by omega) (by omega)]
      refine congrArg some (congrArg (fun z => (z, σ)) (bI_c ⟨fun h j hj pj hij => ?_, fun h j hj pj hij => h j hj pj (by omega)⟩))
      rcases Nat.lt_or_ge i (rkM μ n j) with q | q
      · exact h j hj pj (by omega)
      · have := rk_inj hj hk pj pk (by omega)
        subst this
        rw [ek]; exact he
    · rw [if_neg he, bI_f (fun q => he (by have := q k hk pk (by omega); rw [ek] at this; exact this))]
theorem cSpell_n (hN : 200 ≤ N) (hR : RowR σ (p + 1) μ n e) (hW : WordR σ (p + 17) μ l) (hp : p + 19 ≤ 136) (h5 : σ p 5 = μ 2) (h6 : σ p 6 = μ 3) (h7 : σ p 7 = μ 4) (h4 : μ 4 = 0 ∨ μ 4 = 1) :
    ∃ σ', F_X7_isSpelled N 133 p σ = some (bI (spM μ n l), σ') ∧ Rest2 σ σ' := by
  have hn := hR.1
  have hl := hW.1
  obtain ⟨σ', g1, g2, g3⟩ := look_n hN hR hp h5 h6 h7 h4
  refine ⟨σ', ?_, g2⟩
  unfold F_X7_isSpelled
  have hR' : RowR σ' (p + 1) μ n e := hR.congr (fun j q1 q2 => g2 j (by omega) (by omega)) rfl rfl (fun _ _ _ => rfl)
  have hW' : WordR σ' (p + 17) μ l := hW.congr (fun j q1 q2 => g2 j (by omega) (by omega)) rfl (fun _ _ _ => rfl)
  have hcn := cnt_le (rdM μ n) n
  rw [g1, bind_t, g3.1, hR'.2.2.2.2.2.1, hW'.2.2.1]
  simp (disch := omega) only [l0, eq_n]
  by_cases c1 : cnt (rdM μ n) n = n
  · rw [if_pos c1]
    by_cases c2 : cnt (rdM μ n) n = l
    · rw [if_pos c2]
      by_cases c3 : l = 0
      · rw [if_pos c3, bI_f (fun q => q.1 c3)]; rfl
      · have e9 : n = l := by omega
        subst e9
        rw [if_neg c3, cSpell_l hR' hW' g3 c1 n 0 N (by omega) (by omega)]
        exact congrArg some (congrArg (fun z => (z, σ')) (bI_c ⟨fun h => ⟨c3, rfl, c1, fun k hk pk => h k hk pk (Nat.zero_le _)⟩, fun h k hk pk _ => h.2.2.2 k hk pk⟩))
    · rw [if_neg c2, bI_f (fun q => c2 (by rw [c1]; exact q.2.1))]; rfl
  · rw [if_neg c1, bI_f (fun q => c1 q.2.2.1)]; rfl
theorem mSpell_l (hN : 200 ≤ N) (hn : n ≤ 12) (h0 : σ r 0 = nI n) (h7 : σ r 7 = nI n) (hc : cnt (rdM (σ r) n) n = n) : ∀ (d i m : Nat) (b : Prop), i + d = n → d < m →
    L_X8_isSpelled_35 N σ m r (bI b) (nI i) = some (bI (b ∧ ∀ k, k < n → rdM (σ r) n k → i ≤ rkM (σ r) n k → σ r (12 + 6 * k + 1) = σ r (108 + rkM (σ r) n k))) := by
  intro d
  induction d with
  | zero =>
    intro i m b hi hm
    obtain ⟨m, rfl⟩ : ∃ m', m = m' + 1 := ⟨m - 1, by omega⟩
    rw [L_X8_isSpelled_35, show ix 7 = 7 from rfl, h7]
    simp (disch := omega) only [le_n]
    rw [if_pos (by omega), l0, l1, bI_01, gd_True]
    exact congrArg some (bI_c ⟨fun h => ⟨h, fun k hk pk h => by have := rk_lt hk pk; omega⟩, fun h => h.1⟩)
  | succ d ih =>
    intro i m b hi hm
    obtain ⟨m, rfl⟩ : ∃ m', m = m' + 1 := ⟨m - 1, by omega⟩
    rw [L_X8_isSpelled_35, show ix 7 = 7 from rfl, h7]
    simp (disch := omega) only [le_n]
    rw [if_neg (by omega)]
    by_cases hb : b
    · rw [bI_t hb, if_neg (by decide)]
      obtain ⟨k, hk, pk, ek⟩ := rk_onto (μ := σ r) (n := n) (j := i) (by omega)
      rw [show F_X8_ranked N r (nI i) σ = some (nI k) from by rw [← ek]; exact ranked_hit hN hn h0 hk pk, bind_t, l1, of_n (by omega) (by decide), bind_t]
      simp (disch := omega) only [l108, nI_add, in_n, gd_True, ix_n]
      by_cases he : σ r (12 + 6 * k + 1) = σ r (108 + i)
      · rw [if_pos he, show (nI 1 : Int32) = bI b from (bI_t hb).symm, ih (i + 1) m b (by omega) (by omega)]
        refine congrArg some (bI_c ⟨fun h => ⟨hb, fun j hj pj hij => ?_⟩, fun h => ⟨hb, fun j hj pj hij => h.2 j hj pj (by omega)⟩⟩)
        rcases Nat.lt_or_ge i (rkM (σ r) n j) with q | q
        · exact h.2 j hj pj (by omega)
        · have := rk_inj hj hk pj pk (by omega)
          subst this
          rw [ek]; exact he
      · rw [if_neg he, l0, show (nI 0 : Int32) = bI False from (bI_f id).symm, ih (i + 1) m False (by omega) (by omega)]
        exact congrArg some (bI_c ⟨fun h => absurd h.1 id, fun h => absurd (by have := h.2 k hk pk (by omega); rw [ek] at this; exact this) he⟩)
    · rw [bI_f hb, if_pos rfl, gd_t (Or.inl rfl), bI_f (fun q => hb q.1)]
theorem mSpell_n (hN : 200 ≤ N) (hn : n ≤ 12) (hl : l ≤ 12) (h0 : σ r 0 = nI n) (h7 : σ r 7 = nI l) : F_X8_isSpelled N r σ = some (bI (spM (σ r) n l)) := by
  unfold F_X8_isSpelled J_X8_isSpelled_31
  have hcn := cnt_le (rdM (σ r) n) n
  have hz : L_X8_isSpelled_35 N σ N r (bI False) (nI 0) = some (bI False) := by
    obtain ⟨m, rfl⟩ : ∃ m', N = m' + 1 := ⟨N - 1, by omega⟩
    rw [L_X8_isSpelled_35, bI_f id]
    split
    · exact gd_t (Or.inl rfl)
    · rw [if_pos rfl]; exact gd_t (Or.inl rfl)
  have hJ : J_X8_isSpelled_32 N r 0 σ = some 0 := by
    unfold J_X8_isSpelled_32
    rw [bI_f id] at hz
    exact hz
  rw [show ix 7 = 7 from rfl, show ix 0 = 0 from rfl, h0, h7, readable_n hN hn h0, bind_t, hJ]
  simp (disch := omega) only [l0, le_n, eq_n]
  by_cases c1 : l ≤ 0
  · rw [if_pos c1, bI_f (fun q => q.1 (by omega))]; rfl
  · rw [if_neg c1]
    by_cases c2 : n = l
    · subst c2
      rw [if_pos rfl]
      by_cases c3 : cnt (rdM (σ r) n) n = n
      · rw [if_pos c3]
        unfold J_X8_isSpelled_32
        rw [show (1 : Int32) = bI True from (bI_t trivial).symm, l0, mSpell_l hN hn h0 h7 c3 n 0 N True (by omega) (by omega)]
        exact congrArg some (bI_c ⟨fun h => ⟨by omega, rfl, c3, fun k hk pk => h.2 k hk pk (Nat.zero_le _)⟩, fun h => ⟨trivial, fun k hk pk _ => h.2.2.2 k hk pk⟩⟩)
      · rw [if_neg c3, bI_f (fun q => c3 q.2.2.1)]; rfl
    · rw [if_neg c2, bI_f (fun q => c2 q.2.1)]; rfl
end SP
