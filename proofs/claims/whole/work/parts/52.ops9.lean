/-! ===== spelledIn ===== -/
theorem cnt_all {p : Nat → Prop} {n : Nat} (h : cnt p n = n) : ∀ k, k < n → p k := fun k hk => by
  refine Classical.byContradiction fun q => ?_
  have h1 := cnt_lt (p := p) (q := fun _ => True) (fun _ _ _ => trivial) hk trivial q
  have h2 := cnt_le (fun _ => True) n
  omega
theorem ps_of_occ {a w : Nat → Int32} {n : Nat} (h : ∀ c, occ a c n = occ w c n) : Ps a w n := fun i hi => by
  have h1 := occ_lt (a := a) hi (rfl : a i = a i)
  rw [h] at h1
  obtain ⟨k, hk, e1, e2⟩ := occ_onto n _ h1
  exact ⟨k, hk, e1.symm, e2.symm⟩
theorem spM.ps {μ : Nat → Int32} {n l : Nat} (h : spM μ n l) : PsM μ n l := by
  obtain ⟨h1, h2, h3, h4⟩ := h
  refine ⟨h1, h2, ps_of_occ fun c => ?_⟩
  have hr := cnt_all h3
  have hb : ∀ x, x < n → rkM μ n (plM μ n x) < n := fun x hx => by
    have := rk_lt (plM_lt (μ := μ) hx) (hr _ (plM_lt hx))
    omega
  have e1 : occ (aM μ n) c n = cnt (fun j => wdM μ (rkM μ n (plM μ n j)) = c) n := cnt_congr (fun j hj => by
    have := h4 _ (plM_lt (μ := μ) hj) (hr _ (plM_lt hj))
    unfold aM wdM
    rw [this])
  rw [e1, cnt_sm]
  unfold occ
  rw [cnt_sm]
  refine sm_perm (f := fun k => ind (wdM μ k = c)) (τ := fun x => rkM μ n (plM μ n x)) hb (fun x y hx hy z => ?_)
  have := rk_inj (plM_lt hx) (plM_lt hy) (hr _ (plM_lt hx)) (hr _ (plM_lt hy)) z
  rw [← plM_plM (μ := μ) hx, ← plM_plM (μ := μ) hy, this]
/-! what does not look at the minute -/
section SAME1
variable {μ μ' : Nat → Int32}
theorem s1_dr (h : ∀ i, i ≠ 1 → μ' i = μ i) : drM μ' = drM μ := by unfold drM; rw [h 2 (by decide), h 3 (by decide)]
theorem s1_as (h : ∀ i, i ≠ 1 → μ' i = μ i) : asM μ' = asM μ := funext fun k => by unfold asM; rw [s1_dr h, h _ (by omega)]
theorem s1_sw (h : ∀ i, i ≠ 1 → μ' i = μ i) : swM μ' = swM μ := funext fun k => by unfold swM; rw [s1_as h]
theorem s1_tg (h : ∀ i, i ≠ 1 → μ' i = μ i) : tgM μ' = tgM μ := funext fun k => by unfold tgM; rw [h _ (by omega)]
theorem s1_rd (h : ∀ i, i ≠ 1 → μ' i = μ i) (n : Nat) : rdM μ' n = rdM μ n := funext fun k => by unfold rdM; rw [s1_tg h, s1_sw h]
theorem s1_key (h : ∀ i, i ≠ 1 → μ' i = μ i) : keyM μ' = keyM μ := funext fun k => by unfold keyM; rw [h 4 (by decide), s1_sw h]
theorem s1_rk (h : ∀ i, i ≠ 1 → μ' i = μ i) (n : Nat) : rkM μ' n = rkM μ n := funext fun k => by unfold rkM; rw [s1_rd h, s1_key h]
theorem s1_sp (h : ∀ i, i ≠ 1 → μ' i = μ i) (n l : Nat) : spM μ' n l = spM μ n l := by
  have ha : ∀ k, μ' (12 + 6 * k + 1) = μ (12 + 6 * k + 1) := fun k => h _ (by omega)
  have hb : ∀ k, μ' (108 + k) = μ (108 + k) := fun k => h _ (by omega)
  unfold spM
  simp only [s1_rd h, s1_rk h, ha, hb]
theorem s1_pl (h : ∀ i, i ≠ 1 → μ' i = μ i) : plM μ' = plM μ := funext fun n => funext fun i => by unfold plM; rw [h 4 (by decide)]
theorem s1_a (h : ∀ i, i ≠ 1 → μ' i = μ i) : aM μ' = aM μ := funext fun n => funext fun i => by unfold aM; rw [s1_pl h, h _ (by omega)]
theorem s1_wd (h : ∀ i, i ≠ 1 → μ' i = μ i) : wdM μ' = wdM μ := funext fun k => by unfold wdM; rw [h _ (by omega)]
theorem s1_ps (h : ∀ i, i ≠ 1 → μ' i = μ i) (n l : Nat) : PsM μ' n l = PsM μ n l := by unfold PsM; rw [s1_a h, s1_wd h]
theorem s1_tgt (h : ∀ i, i ≠ 1 → μ' i = μ i) : tgtM μ' = tgtM μ := funext fun n => funext fun x => by unfold tgtM; rw [s1_a h, s1_wd h, s1_pl h]
theorem s1_wr (h : ∀ i, i ≠ 1 → μ' i = μ i) : WrM μ' = WrM μ := funext fun u => funext fun v => by unfold WrM; rw [h 4 (by decide)]
theorem s1_wt (h : ∀ i, i ≠ 1 → μ' i = μ i) : wtM μ' = wtM μ := funext fun k => by unfold wtM; rw [s1_as h]
theorem s1_nx (h : ∀ i, i ≠ 1 → μ' i = μ i) : nxP μ' = nxP μ := funext fun n => funext fun p => by unfold nxP; rw [s1_wr h, s1_tgt h, s1_tg h, s1_wt h]
theorem s1_none (h : ∀ i, i ≠ 1 → μ' i = μ i) {n l : Nat} (q : NxR μ n l none) : NxR μ' n l none := by
  show PsM μ' n l → ∀ p, p + 1 < n → ¬ nxP μ' n p
  rw [s1_ps h, s1_nx h]
  exact q
end SAME1
section OPS9
variable {N : Nat} {σ s : HP}
/-- a minute where nothing is tangled and nothing planned -/
theorem still_n (hN : 200 ≤ N) {r n : Nat} (hn : n ≤ 12) (h0 : s r 0 = nI n) (h6 : s r 6 = nI 0) (ht : ∀ k, k < n → ¬ tgM (s r) k) : ∃ s', F_X8_minute N 140 r s = some (0, s') ∧ ∀ i, i ≠ 1 → s' r i = s r i := by
  unfold F_X8_minute
  rw [bd_t, show ix 1 = 1 from rfl]
  have hw : ∀ i, i ≠ 1 → (wr s r 1 (s r 1 + 1)) r i = s r i := fun i hi => by rw [wr_s, upd_n hi]
  obtain ⟨s', m', a1, a2, a3, a4, a5⟩ := mLoose_l (N := N) (r := r) (s0 := wr s r 1 (s r 1 + 1)) hn (by rw [hw 0 (by decide)]; exact h0) n 0 N (wr s r 1 (s r 1 + 1)) (by omega) (by omega) (fun _ _ => rfl) (fun _ _ => rfl) (fun k' hk' => absurd hk' (Nat.not_lt_zero _))
  have hv : ∀ i, i ≠ 1 → s' r i = s r i := fun i hi => by
    by_cases c : ∃ k', k' < n ∧ i = 12 + 6 * k' + 4
    · obtain ⟨k', hk', rfl⟩ := c
      rw [a5 k' hk', hw _ (by omega)]
      have := ht k' hk'
      unfold tgM at this
      unfold dL
      rw [if_pos (Classical.not_not.mp this)]
    · rw [a4 i (fun k' hk' z => c ⟨k', hk', z⟩), hw i hi]
  obtain ⟨m', rfl⟩ : ∃ z, m' = z + 1 := ⟨m' - 1, by omega⟩
  refine ⟨s', ?_, hv⟩
  rw [show L_X8_minute_9 N N 140 r 0 (wr s r 1 (s r 1 + 1)) = _ from a2, L_X8_minute_9, show ix 0 = 0 from rfl, show ix 6 = 6 from rfl, hv 0 (by decide), h0, if_pos (by rw [le_n (by omega) (by omega)]; exact Nat.le_refl _), hv 6 (by decide), h6, if_pos (show nI 0 = 0 from rfl)]
def RestM (s s' : HP) : Prop := ∀ j, j ≠ 142 → j ≠ 146 → j ≠ 147 → j ≠ 148 → j ≠ 149 → s' j = s j
theorem RestM.trans {a b c : HP} (h : RestM a b) (h' : RestM b c) : RestM a c := fun j j1 j2 j3 j4 j5 => (h' j j1 j2 j3 j4 j5).trans (h j j1 j2 j3 j4 j5)
/-- none is spelled or traded any more -/
theorem dead_l {n e l : Nat} (hN : 700 ≤ N) (D : (Nat → Int32) → Prop) (hD1 : ∀ μ, D μ → ¬ spM μ n l) (hD2 : ∀ μ o, D μ → NxR μ n l o → o = none)
    (hD3 : ∀ (s s' : HP) (c' : Int32) (σ : HP) (t g mi : Nat), mi < 100000 → SRx σ 19 (s 142) n e t g l mi → D (s 142) → F_X8_minute N 140 142 s = some (c', s') → D (s' 142)) :
    ∀ (d i m mi t g : Nat) (σ s : HP), i + d = 201 → d < m → mi + d < 100000 → SRx σ 19 (s 142) n e t g l mi → D (s 142) → ∃ s', L_X8_spelledIn_15 N m 140 (nI i) s = some (-1000005, s') ∧ RestM s s' := by
  intro d
  induction d with
  | zero =>
    intro i m mi t g σ s hi hm hmi h hd
    obtain ⟨m, rfl⟩ : ∃ z, m = z + 1 := ⟨m - 1, by omega⟩
    rw [L_X8_spelledIn_15, if_pos (by rw [l200, lt_n (by omega) (by omega)]; omega)]
    exact ⟨s, rfl, fun _ _ _ _ _ _ => rfl⟩
  | succ d ih =>
    intro i m mi t g σ s hi hm hmi h hd
    obtain ⟨m, rfl⟩ : ∃ z, m = z + 1 := ⟨m - 1, by omega⟩
    have hn := h.1.1
    have h0 : s 142 0 = nI n := h.1.2.2.2.1
    have h7 : s 142 7 = nI l := h.2.2.2.1.2.1
    have h4 := h.2.2.2.2.2.2.2.2.2.2.2.2.2.1
    obtain ⟨o, s1, b1, b2, b3⟩ := mNext_n (N := N) (r := 142) (by omega) hn h.2.2.2.1.1 (Or.inr rfl) h0 h7 h4
    have ho := hD2 _ o hd b3
    subst ho
    have hs1 : s1 142 = s 142 := b2 142 (by decide) (by decide) (by decide)
    have hx1 : SRx σ 19 (s1 142) n e t g l mi := by rw [hs1]; exact h
    obtain ⟨c', t', g', σ', s', a1, a2, a3, a4, a5, a6, a7⟩ := minute_n (N := N) (p := 19) (r := 142) (by omega) (by decide) (by omega) hx1
    obtain ⟨s2, e1, e2⟩ := ih (i + 1) m (mi + 1) t' g' σ' s' (by omega) (by omega) (by omega) a4 (hD3 s1 s' _ σ t g mi (by omega) hx1 (by rw [hs1]; exact hd) a3)
    rw [L_X8_spelledIn_15, if_neg (by rw [l200, lt_n (by omega) (by omega)]; omega), show F_X8_isSpelled N (140 + 2) s = some (bI (spM (s 142) n l)) from mSpell_n (by omega) hn h.2.2.2.1.1 h0 h7, bind_t, bI_f (hD1 _ hd), if_pos rfl, show F_X8_next N 140 (140 + 2) s = some (-1000005, s1) from b1, bind2_t, if_pos rfl]
    unfold J_X8_spelledIn_65 J_X8_spelledIn_66
    rw [if_pos rfl, show F_X8_minute N 140 (140 + 2) s1 = _ from a3, bind2_t, nI_1]
    exact ⟨s2, e1, fun j j1 j2 j3 j4 j5 => by rw [e2 j j1 j2 j3 j4 j5, a6 j j1 j4, b2 j j2 j3 j5]⟩
theorem rest_l {q n e : Nat} {μ : Nat → Int32} (h : RowR σ (q + 1) μ n e) : ∀ (d i m : Nat), i + d = n → d < m → L_X4_isAtRest_14 N σ m q (nI i) = some (bI (∀ k, i ≤ k → k < n → ¬ tgM μ k)) := by
  have hn := h.1
  intro d
  induction d with
  | zero =>
    intro i m hi hm
    obtain ⟨m, rfl⟩ : ∃ z, m = z + 1 := ⟨m - 1, by omega⟩
    rw [L_X4_isAtRest_14, h.2.2.2.2.2.1, if_pos (by rw [le_n (by omega) (by omega)]; omega), bI_t (fun k k1 k2 => by omega)]
  | succ d ih =>
    intro i m hi hm
    obtain ⟨m, rfl⟩ : ∃ z, m = z + 1 := ⟨m - 1, by omega⟩
    rw [L_X4_isAtRest_14, h.2.2.2.2.2.1, if_neg (by rw [le_n (by omega) (by omega)]; omega), cTangled_n h (by omega), bind_t]
    by_cases c : tgM μ i
    · rw [bI_t c, if_neg n10, bI_f (fun z => z i (Nat.le_refl _) (by omega) c)]
    · rw [bI_f c, if_pos rfl, nI_1, ih (i + 1) m (by omega) (by omega)]
      refine congrArg some (bI_c ⟨fun z k k1 k2 => ?_, fun z k k1 k2 => z k (by omega) k2⟩)
      rcases Nat.lt_or_ge i k with y | y
      · exact z k y k2
      · rw [show k = i by omega]; exact c
theorem rest_n (hN : 200 ≤ N) {q n e t mi : Nat} {μ : Nat → Int32} (h : RowR σ (q + 1) μ n e) (hP : PlanR σ (q + 8) μ t mi) : F_X4_isAtRest N q σ = some (bI (t = 0 ∧ ∀ k, k < n → ¬ tgM μ k)) := by
  have hn := h.1
  have ht := hP.1
  unfold F_X4_isAtRest
  rw [hP.2.2.1]
  by_cases c : t = 0
  · subst c
    rw [if_pos (by decide), show L_X4_isAtRest_14 N σ N q 0 = _ from rest_l h n 0 N (by omega) (by omega)]
    exact congrArg some (bI_c ⟨fun z => ⟨rfl, fun k hk => z k (Nat.zero_le _) hk⟩, fun z k _ hk => z.2 k hk⟩)
  · rw [if_neg (by rw [l0, le_n (by omega) (by omega)]; omega), bI_f (fun z => c z.1)]
def RestC (σ σ' : HP) : Prop := ∀ j, (j < 19 ∨ 38 ≤ j) → (j < 136 ∨ 140 ≤ j) → σ' j = σ j
theorem sp_l {n e l : Nat} (hN : 700 ≤ N) : ∀ (d i m m' mi t g : Nat) (σ s : HP), i + d = 201 → d < m → d < m' → mi + d < 100000 → SRx σ 19 (s 142) n e t g l mi →
    ∃ r σ' s', L_X7_spelledIn_37 N m 133 (nI i) σ = some (r, σ') ∧ L_X8_spelledIn_15 N m' 140 (nI i) s = some (r, s') ∧ RestC σ σ' ∧ RestM s s' := by
  intro d
  induction d with
  | zero =>
    intro i m m' mi t g σ s hi hm hm' hmi h
    obtain ⟨m, rfl⟩ : ∃ z, m = z + 1 := ⟨m - 1, by omega⟩
    obtain ⟨m', rfl⟩ : ∃ z, m' = z + 1 := ⟨m' - 1, by omega⟩
    have hlt : 200 < nI i := by rw [l200, lt_n (by omega) (by omega)]; omega
    rw [L_X7_spelledIn_37, L_X8_spelledIn_15, if_pos hlt, if_pos hlt]
    exact ⟨_, σ, s, rfl, rfl, fun _ _ _ => rfl, fun _ _ _ _ _ _ => rfl⟩
  | succ d ih =>
    intro i m m' mi t g σ s hi hm hm' hmi h
    have hs0 := h
    obtain ⟨m, rfl⟩ : ∃ z, m = z + 1 := ⟨m - 1, by omega⟩
    have hn := h.1.1
    have h0 : s 142 0 = nI n := h.1.2.2.2.1
    have h7 : s 142 7 = nI l := h.2.2.2.1.2.1
    have h4 := h.2.2.2.2.2.2.2.2.2.2.2.2.2.1
    have hlt : ¬ 200 < nI i := by rw [l200, lt_n (by omega) (by omega)]; omega
    obtain ⟨σ1, a1, a2⟩ := cSpell_n (N := N) (p := 19) (by omega) h.1 h.2.2.2.1 (by decide) h.2.2.2.2.2.2.1 h.2.2.2.2.2.2.2.1 h.2.2.2.2.2.2.2.2.1 h4
    have b1 := mSpell_n (N := N) (r := 142) (by omega) hn h.2.2.2.1.1 h0 h7
    have hx1 : SRx σ1 19 (s 142) n e t g l mi := h.frame (fun j j1 j2 => a2 j (by omega) (by omega)) (fun _ _ => rfl)
    obtain ⟨o, σ2, c1, c2, c3⟩ := cNext_n (N := N) (p := 19) (by omega) hx1.1 hx1.2.2.2.1 (by decide) hx1.2.2.2.2.2.2.1 hx1.2.2.2.2.2.2.2.1 hx1.2.2.2.2.2.2.2.2.1 hx1.2.2.2.2.2.2.2.2.2.2.2.2.1 h4
    obtain ⟨o', s1, d1, d2, d3⟩ := mNext_n (N := N) (r := 142) (by omega) hn h.2.2.2.1.1 (Or.inr rfl) h0 h7 h4
    obtain rfl := c3.one d3
    have hs1 : s1 142 = s 142 := d2 142 (by decide) (by decide) (by decide)
    have hx2 : SRx σ2 19 (s1 142) n e t g l mi := hx1.frame (fun j j1 j2 => c2 j (by omega) (by omega)) (fun i _ => by rw [hs1])
    have fC : RestC σ σ2 := fun j j1 j2 => by rw [c2 j (by omega) (by omega), a2 j (by omega) (by omega)]
    have fM : RestM s s1 := fun j j1 j2 j3 j4 j5 => d2 j j2 j3 j5
    -- at rest
    have hdead : ∀ m', d + 1 < m' → t = 0 → (∀ k, k < n → ¬ tgM (s 142) k) → ¬ spM (s 142) n l → o = none → ∃ s', L_X8_spelledIn_15 N m' 140 (nI i) s = some (-1000005, s') ∧ RestM s s' := by
      intro m' hm' t0 tg nsp on
      subst t0 on
      refine dead_l (n := n) (e := e) (l := l) hN (fun μ => μ 0 = nI n ∧ μ 6 = nI 0 ∧ (∀ k, k < n → ¬ tgM μ k) ∧ ¬ spM μ n l ∧ NxR μ n l none) (fun μ h => h.2.2.2.1) (fun μ o h ho => ho.one h.2.2.2.2) (fun s s' c' σ t g mi hmi hx hD hmin => ?_) (d + 1) i m' mi 0 g σ s hi hm' hmi h ⟨h0, h.2.1.2.1, tg, nsp, c3⟩
      obtain ⟨s2, e1, e2⟩ := still_n (N := N) (r := 142) (by omega) hn hD.1 hD.2.1 hD.2.2.1
      rw [e1] at hmin
      obtain rfl : s2 = s' := (Prod.mk.inj (Option.some.inj hmin)).2
      exact ⟨by rw [e2 0 (by decide)]; exact hD.1, by rw [e2 6 (by decide)]; exact hD.2.1, by rw [s1_tg e2]; exact hD.2.2.1, by rw [s1_sp e2]; exact hD.2.2.2.1, s1_none e2 hD.2.2.2.2⟩
    by_cases hsp : spM (s 142) n l
    · obtain ⟨m', rfl⟩ : ∃ z, m' = z + 1 := ⟨m' - 1, by omega⟩
      rw [L_X7_spelledIn_37, L_X8_spelledIn_15, if_neg hlt, if_neg hlt, a1, bind2_t, show F_X8_isSpelled N (140 + 2) s = _ from b1, bind_t, bI_t hsp, if_neg n10, if_neg n10]
      exact ⟨_, σ1, s, rfl, rfl, fun j j1 j2 => a2 j (by omega) (by omega), fun _ _ _ _ _ _ => rfl⟩
    · by_cases hrest : o = none ∧ t = 0 ∧ ∀ k, k < n → ¬ tgM (s 142) k
      · obtain ⟨s', e1, e2⟩ := hdead m' hm' hrest.2.1 hrest.2.2 hsp hrest.1
        obtain ⟨on, tt⟩ := hrest
        subst on
        rw [L_X7_spelledIn_37, if_neg hlt, a1, bind2_t, bI_f hsp, if_pos rfl, c1, bind2_t, if_pos rfl, rest_n (by omega) hx2.1 hx2.2.1, bind_t, hs1, bI_t tt, if_neg n10]
        exact ⟨_, σ2, s', rfl, e1, fC, e2⟩
      · obtain ⟨m', rfl⟩ : ∃ z, m' = z + 1 := ⟨m' - 1, by omega⟩
        rw [L_X7_spelledIn_37, L_X8_spelledIn_15, if_neg hlt, if_neg hlt, a1, bind2_t, show F_X8_isSpelled N (140 + 2) s = _ from b1, bind_t, bI_f hsp, if_pos rfl, if_pos rfl, c1, bind2_t, show F_X8_next N 140 (140 + 2) s = _ from d1, bind2_t]
        unfold J_X8_spelledIn_65 J_X8_spelledIn_66
        cases o with
        | none =>
          have hr : ¬ (t = 0 ∧ ∀ k, k < n → ¬ tgM (s1 142) k) := fun z => hrest ⟨rfl, z.1, by rw [← hs1]; exact z.2⟩
          obtain ⟨c', t', g', σ', s', p1, p2, p3, p4, p5, p6, p7⟩ := minute_n (N := N) (p := 19) (r := 142) (by omega) (by decide) (by omega) hx2
          obtain ⟨r, σ'', s'', q1, q2, q3, q4⟩ := ih (i + 1) m m' (mi + 1) t' g' σ' s' (by omega) (by omega) (by omega) (by omega) p4
          dsimp only
          rw [if_pos rfl, if_pos rfl, rest_n (by omega) hx2.1 hx2.2.1, bind_t, bI_f hr, if_pos rfl, p2, bind2_t, if_pos rfl, show F_X8_minute N 140 (140 + 2) s1 = _ from p3, bind2_t, nI_1]
          exact ⟨r, σ'', s'', q1, q2, fun j j1 j2 => by rw [q3 j j1 j2, p5 j (by omega), fC j j1 j2], fun j j1 j2 j3 j4 j5 => by rw [q4 j j1 j2 j3 j4 j5, p6 j j1 j4, fM j j1 j2 j3 j4 j5]⟩
        | some q =>
          obtain ⟨-, hq, ⟨-, f1, f2, -⟩, -⟩ := c3
          obtain ⟨v, t', g', σ', s', p0, p1, p2, p3, p4, p5, p6⟩ := trade_n (N := N) (p := 19) (r := 142) (by omega) (by decide) (by omega) hx2 hq (by rw [hs1]; exact f1) (by rw [hs1]; exact f2)
          obtain ⟨r, σ'', s'', q1, q2, q3, q4⟩ := ih (i + 1) m m' (mi + 1) t' g' σ' s' (by omega) (by omega) (by omega) (by omega) p3
          dsimp only
          rw [if_neg (nne_one (by omega)), if_neg (nne_none (by omega)), p1, bind2_t, show F_X8_trades N 140 (140 + 2) (nI q) s1 = _ from p2, bind2_t, if_neg (nne_none (by omega)), ite_self, nI_1]
          exact ⟨r, σ'', s'', q1, q2, fun j j1 j2 => by rw [q3 j j1 j2, p4 j (by omega), fC j j1 j2], fun j j1 j2 j3 j4 j5 => by rw [q4 j j1 j2 j3 j4 j5, p5 j j1 j4, fM j j1 j2 j3 j4 j5]⟩
theorem op_spelledIn (hN : 700 ≤ N) (h : Inv2 σ s) : Res (F_X7_spelledIn N 133 σ) (F_X8_spelledIn N 140 s) σ s := by
  obtain ⟨n, e, t, g, l, mi, hmi, hx⟩ := h.sr
  have hn := hx.1.1
  have h4 := hx.2.2.2.2.2.2.2.2.2.2.2.2.2.1
  unfold F_X7_spelledIn F_X8_spelledIn
  obtain ⟨σ1, a1, a2, a3⟩ := match_n (N := N) (p := 0) (by omega) hx.1 hx.2.2.2.1 (by decide) hx.2.2.2.2.2.2.2.2.1 h4
  obtain ⟨s1, b1, b2, b3⟩ := lays_n (N := N) (σ0 := s) (a := 141) (b := 142) (oa := 0) (ob := 0) (by omega) (by decide) (by decide) (by decide) (by decide)
  have hs1 : ∀ i, i < 152 → s1 142 i = s 141 i := fun i hi => by rw [b3 i, if_pos (by omega)]; exact congrArg (s 141) (by omega)
  rw [a1, bind_t, show F_X8_lays N (140 + 1) 0 (140 + 2) 0 s = some s1 from b1, bind_t]
  obtain ⟨σ2, c1, c2, n', e', t', g', l', mi', hmi', hx2⟩ := copy_n (N := N) (a := 19) (b := 0) (σ := σ1) (μ := s1 142) (B := 9999) (by omega) ⟨n, e, t, g, l, mi, hmi, hx.frame (fun j j1 j2 => a2 j (by omega) (by omega)) hs1⟩
  by_cases hP : PsM (s 141) n l
  · obtain ⟨z1, -⟩ := a3.1 hP
    obtain ⟨r, σ', s', q1, q2, q3, q4⟩ := sp_l (N := N) hN 201 0 N N mi' t' g' σ2 s1 (by omega) (by omega) (by omega) (by omega) hx2
    rw [z1, if_neg n10, c1, bind_t]
    refine ⟨r, σ', s', q1, q2, h.upd (fun j j1 j2 => by rw [q3 j (by omega) (by omega), c2 j (by omega), a2 j (by omega) (by omega)]) (by rw [q4 140 (by decide) (by decide) (by decide) (by decide) (by decide), b2 140 (by decide)]) (by rw [q4 143 (by decide) (by decide) (by decide) (by decide) (by decide), b2 143 (by decide)]) (by rw [q4 144 (by decide) (by decide) (by decide) (by decide) (by decide), b2 144 (by decide)]) (by rw [q4 145 (by decide) (by decide) (by decide) (by decide) (by decide), b2 145 (by decide)]) (h.sr.frame (fun j j1 j2 => by rw [q3 j (by omega) (by omega), c2 j (by omega), a2 j (by omega) (by omega)]) (fun i _ => by rw [q4 141 (by decide) (by decide) (by decide) (by decide) (by decide), b2 141 (by decide)])), fun j hj => by rw [q3 j (by omega) (by omega), c2 j (by omega), a2 j (by omega) (by omega)], fun j hj => by rw [q4 j (by omega) (by omega) (by omega) (by omega) (by omega), b2 j (by omega)]⟩
  · rw [a3.2 hP, if_pos rfl]
    have hx3 : SRx σ2 19 (s1 142) n' e' t' g' l' mi' := hx2
    have hnn : n' = n := by
      have u1 := hx2.1.2.2.2.1
      rw [hs1 0 (by decide), show s 141 0 = nI n from hx.1.2.2.2.1, eq_n (by omega) (by have := hx2.1.1; omega)] at u1
      exact u1.symm
    have hll : l' = l := by
      have u1 := hx2.2.2.2.1.2.1
      rw [hs1 7 (by decide), show s 141 7 = nI l from hx.2.2.2.1.2.1, eq_n (by have := hx.2.2.2.1.1; omega) (by have := hx2.2.2.2.1.1; omega)] at u1
      exact u1.symm
    subst hnn hll
    have hP2 : ¬ PsM (s1 142) n' l' := fun z => hP (((fw_congr (μ := s 141) (μ' := s1 142) hn (hs1 4 (by decide)) (fun k hk => hs1 _ (by omega)) (fun x hx => hs1 _ (by omega))).1 l').mp z)
    obtain ⟨s', q1, q2⟩ := dead_l (N := N) (n := n') (e := e') (l := l') hN (fun μ => ¬ PsM μ n' l') (fun μ h z => h z.ps) (fun μ o h ho => by cases o with | none => rfl | some q => exact absurd ho.1 h) (fun s s' c' σ t g mi hmi hx hD hmin => by
      obtain ⟨c2, t2, g2, σ2, s2, p1, p2, p3, p4, p5, p6, p7⟩ := minute_n (N := N) (p := 19) (r := 142) (by omega) (by decide) hmi hx
      rw [p3] at hmin
      obtain rfl : s2 = s' := (Prod.mk.inj (Option.some.inj hmin)).2
      exact fun z => hD (((fw_congr hn (p7 4 (by omega)) (fun k hk => p7 _ (by omega)) (fun x hx => p7 _ (Or.inr (Or.inr (Or.inr (Or.inr ⟨x, by omega, Or.inl rfl⟩)))))).1 l').mp z)) 201 0 N mi' t' g' σ2 s1 (by omega) (by omega) (by omega) hx2 hP2
    exact Res.read h (-1000005) rfl q1 (fun j hj => a2 j (by omega) (by omega)) (fun j hj => by rw [q2 j (by omega) (by omega) (by omega) (by omega) (by omega), b2 j (by omega)])
end OPS9
