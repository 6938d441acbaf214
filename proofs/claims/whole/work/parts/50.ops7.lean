/-! ===== readings: nothing but what lies beside the state changes ===== -/
section OPS7
variable {N : Nat} {σ s : HP}
theorem Inv2.sr {σ s : HP} (h : Inv2 σ s) : SR σ 0 (s 141) 9999 := by
  obtain ⟨_, _, _, h, _⟩ := h
  exact h
theorem Inv2.read {σ σ' s s' : HP} (h : Inv2 σ s) (hc : ∀ j, j < 136 → σ' j = σ j) (hm : ∀ j, (j = 140 ∨ j = 141 ∨ j = 143 ∨ j = 144 ∨ j = 145) → s' j = s j) : Inv2 σ' s' :=
  h.upd (fun j _ j2 => hc j j2) (hm 140 (by omega)) (hm 143 (by omega)) (hm 144 (by omega)) (hm 145 (by omega)) (h.sr.frame (fun j _ j2 => hc j (by omega)) (fun i _ => by rw [hm 141 (by omega)]))
theorem Res.read {σ σ' s s' : HP} {o1 o2 : Option (Int32 × HP)} (h : Inv2 σ s) (r : Int32) (h1 : o1 = some (r, σ')) (h2 : o2 = some (r, s')) (hc : ∀ j, j < 136 ∨ 140 ≤ j → σ' j = σ j) (hm : ∀ j, (j < 142 ∨ j = 143 ∨ j = 144 ∨ j = 145) → s' j = s j) : Res o1 o2 σ s :=
  ⟨r, σ', s', h1, h2, h.read (fun j hj => hc j (Or.inl hj)) (fun j hj => hm j (by omega)), fun j hj => hc j (Or.inr hj), fun j hj => hm j (by omega)⟩
/-- both answer the same, and change nothing -/
def ResP (o1 o2 : Option Int32) : Prop := ∃ r, o1 = some r ∧ o2 = some r
/-- the class changes cells of its own -/
def ResC (o1 : Option (Int32 × HP)) (o2 : Option Int32) (σ s : HP) : Prop := ∃ r σ', o1 = some (r, σ') ∧ o2 = some r ∧ Inv2 σ' s ∧ ∀ j, 140 ≤ j → σ' j = σ j
theorem part_miss {n k : Nat} {x : Int32} (hn : n ≤ 12) (h0 : s 141 0 = nI n) (hk : k < n) (hx : s 141 (12 + 6 * k + 3) = x) : ∀ (d i m : Nat) (a2 : Int32), i + d = n → d < m → (∀ j, i ≤ j → j < n → s 141 (12 + 6 * j) ≠ x) → L_X8_partner_5 N s m 140 (nI k) a2 (nI i) = some a2 := by
  intro d
  induction d with
  | zero =>
    intro i m a2 hi hm _
    obtain ⟨m, rfl⟩ : ∃ z, m = z + 1 := ⟨m - 1, by omega⟩
    rw [L_X8_partner_5, show s (140 + 1) (ix 0) = nI n from h0, if_pos (by rw [le_n (by omega) (by omega)]; omega)]
  | succ d ih =>
    intro i m a2 hi hm ha
    obtain ⟨m, rfl⟩ : ∃ z, m = z + 1 := ⟨m - 1, by omega⟩
    rw [L_X8_partner_5, show s (140 + 1) (ix 0) = nI n from h0, if_neg (by rw [le_n (by omega) (by omega)]; omega), show F_X8_isTangled N (140 + 1) (nI k) s = _ from isTangled_n (by omega), bind_t, show F_X8_of N (140 + 1) (nI i) 0 s = some (s 141 (12 + 6 * i)) from of_n (w := 0) (by omega) (by decide), bind_t, show F_X8_of N (140 + 1) (nI k) 3 s = some (s 141 (12 + 6 * k + 3)) from of_n (by omega) (by decide), bind_t, hx, if_neg (ha i (Nat.le_refl _) (by omega)), nI_1]
    by_cases c : tgM (s 141) k
    · rw [bI_t c, if_neg n10]
      exact ih (i + 1) m a2 (by omega) (by omega) (fun j j1 j2 => ha j (by omega) j2)
    · rw [bI_f c, if_pos rfl]
theorem part_hit {n k t : Nat} {x : Int32} (hn : n ≤ 12) (h0 : s 141 0 = nI n) (hk : k < n) (hx : s 141 (12 + 6 * k + 3) = x) (ht : t < n) (hxt : s 141 (12 + 6 * t) = x) (hu : ∀ j, j < n → j ≠ t → s 141 (12 + 6 * j) ≠ x) (c : tgM (s 141) k) : ∀ (d i m : Nat) (a2 : Int32), i + d = t → n + 1 < m + i → L_X8_partner_5 N s m 140 (nI k) a2 (nI i) = some (nI t) := by
  intro d
  induction d with
  | zero =>
    intro i m a2 hi hm
    obtain ⟨m, rfl⟩ : ∃ z, m = z + 1 := ⟨m - 1, by omega⟩
    obtain rfl : i = t := by omega
    rw [L_X8_partner_5, show s (140 + 1) (ix 0) = nI n from h0, if_neg (by rw [le_n (by omega) (by omega)]; omega), show F_X8_isTangled N (140 + 1) (nI k) s = _ from isTangled_n (by omega), bind_t, bI_t c, if_neg n10, show F_X8_of N (140 + 1) (nI i) 0 s = some (s 141 (12 + 6 * i)) from of_n (w := 0) (by omega) (by decide), bind_t, show F_X8_of N (140 + 1) (nI k) 3 s = some (s 141 (12 + 6 * k + 3)) from of_n (by omega) (by decide), bind_t, hx, if_pos hxt, nI_1]
    exact part_miss hn h0 hk hx (n - (i + 1)) (i + 1) m _ (by omega) (by omega) (fun j j1 j2 => hu j j2 (by omega))
  | succ d ih =>
    intro i m a2 hi hm
    obtain ⟨m, rfl⟩ : ∃ z, m = z + 1 := ⟨m - 1, by omega⟩
    rw [L_X8_partner_5, show s (140 + 1) (ix 0) = nI n from h0, if_neg (by rw [le_n (by omega) (by omega)]; omega), show F_X8_isTangled N (140 + 1) (nI k) s = _ from isTangled_n (by omega), bind_t, bI_t c, if_neg n10, show F_X8_of N (140 + 1) (nI i) 0 s = some (s 141 (12 + 6 * i)) from of_n (w := 0) (by omega) (by decide), bind_t, show F_X8_of N (140 + 1) (nI k) 3 s = some (s 141 (12 + 6 * k + 3)) from of_n (by omega) (by decide), bind_t, hx, if_neg (hu i (by omega) (by omega)), nI_1]
    exact ih (i + 1) m a2 (by omega) (by omega)
theorem bI_num (c : Prop) : (if bI c = 0 then (0 : Int32) else 1) = bI c := by
  by_cases h : c
  · rw [bI_t h]; rfl
  · rw [bI_f h]; rfl
theorem asn_n (c : Prop) : F_X7_asNumber N (bI c) σ = some (bI c) := by
  unfold F_X7_asNumber
  by_cases h : c
  · rw [bI_t h]; rfl
  · rw [bI_f h]; rfl
theorem ite_num (c : Prop) : (if bI c = 0 then some (0 : Int32) else some 1) = some (bI c) := by
  by_cases h : c
  · rw [bI_t h]; rfl
  · rw [bI_f h]; rfl
theorem op_flier (hN : 700 ≤ N) (h : Inv2 σ s) (a b : Int32) : ResP (F_X7_flier N 133 a b σ) (F_X8_flier N 140 a b s) := by
  obtain ⟨n, e, t, g, l, mi, hmi, hx⟩ := h.sr
  have hn := hx.1.1
  unfold F_X7_flier F_X8_flier
  rcases place_c (N := N) (σ := σ) 1 hn hx.1.2.2.2.2.2.1 a with ⟨p1, p2⟩ | ⟨p1, k, hk, rfl⟩
  · rcases place_m (N := N) hn hx.1.2.2.2.1 a with ⟨q1, q2⟩ | ⟨q1, q2⟩
    · rw [show F_X3_hasPlace N (0 + 1) a σ = _ from p1, q1, bind_t, bind_t, if_pos rfl, if_pos rfl]; exact ⟨_, rfl, rfl⟩
    · exact absurd q2 p2
  · rcases place_m (N := N) hn hx.1.2.2.2.1 (nI k) with ⟨q1, q2⟩ | ⟨q1, q2⟩
    · exact absurd ⟨k, hk, rfl⟩ q2
    · rw [show F_X3_hasPlace N (0 + 1) (nI k) σ = _ from p1, q1, bind_t, bind_t, if_neg n10, if_neg n10]
      have hf := hx.1.2.2.2.2.2.2.2.1 k hk
      have hof : ∀ w, w < 6 → F_X8_of N (140 + 1) (nI k) (nI w) s = some (s 141 (12 + 6 * k + w)) := fun w hw => of_n (by omega) hw
      have hg : ∀ {α : Type} (x : Option α), gd (vp_in (nI k) 12) x = x := fun x => gd_t (vp_in_nI (by omega) (by decide))
      simp only [hg, ix_n (show k < 2147483648 by omega)]
      by_cases c0 : b = 0
      · subst c0
        rw [if_pos rfl, if_pos rfl, show F_X8_of N (140 + 1) (nI k) 0 s = _ from hof 0 (by decide), bind_t]
        exact ⟨_, rfl, by rw [show σ (0 + 1 + 1) k = _ from hf.1]; rfl⟩
      rw [if_neg c0, if_neg c0]
      by_cases c1 : b = 1
      · subst c1
        rw [if_pos rfl, if_pos rfl, show F_X8_of N (140 + 1) (nI k) 1 s = _ from hof 1 (by decide), bind_t]
        exact ⟨_, rfl, by rw [show σ (0 + 1 + 2) k = _ from hf.2.1]⟩
      rw [if_neg c1, if_neg c1]
      by_cases c2 : b = 2
      · subst c2
        rw [if_pos rfl, if_pos rfl, show F_X8_of N (140 + 1) (nI k) 2 s = _ from hof 2 (by decide), bind_t]
        exact ⟨_, rfl, by rw [show σ (0 + 1 + 3) k = _ from hf.2.2.1]⟩
      rw [if_neg c2, if_neg c2]
      have hdr := drift_n (N := N) (p := 0) (σ := σ) (μ := s 141) hx.2.2.2.2.2.2.1 hx.2.2.2.2.2.2.2.1
      by_cases c3 : b = 3
      · subst c3
        rw [if_pos rfl, if_pos rfl, hdr, bind_t, cShown_n hx.1 hk, bind_t, show F_X8_shown N (140 + 1) (nI k) s = _ from shown_n (by omega), bind_t]
        exact ⟨_, rfl, rfl⟩
      rw [if_neg c3, if_neg c3]
      by_cases c4 : b = 4
      · subst c4
        rw [if_pos rfl, if_pos rfl, cTangled_n hx.1 hk, bind_t]
        unfold F_X8_partner
        have hrow := hx.1
        have hM := hx.1.2.2.2.2.2.2.2.2.1 k hk
        have h0 : s 141 0 = nI n := hx.1.2.2.2.1
        have hu := hx.1.2.2.2.2.2.2.2.2.2
        by_cases f : tgM (s 141) k
        · rw [bI_t f, if_neg n10]
          have f4 : ¬ σ 5 k = 0 := fun z => (hrow.tg hk).mp z f
          rcases hM with ⟨m1, m2⟩ | ⟨m1, m2, m3, m4, m5, m6⟩ | ⟨m1, m2, j, m3, m4, m5, m6⟩
          · exact absurd m1 f4
          · rw [show L_X8_partner_5 N s N 140 (nI k) (-1000005) 0 = some (nI (k + 1)) from part_hit hn h0 hk m5 m3 rfl (fun j j1 j2 z => j2 (hu j (k + 1) j1 m3 z)) f (k + 1) 0 N _ (by omega) (by omega), bind_t]
            refine ⟨_, rfl, ?_⟩
            rw [show σ (0 + 1 + 4) k = 1 from m1, nI_1]
          · rw [show L_X8_partner_5 N s N 140 (nI k) (-1000005) 0 = some (nI j) from part_hit hn h0 hk m5 (by omega) rfl (fun i j1 j2 z => j2 (hu i j j1 (by omega) z)) f j 0 N _ (by omega) (by omega), bind_t]
            refine ⟨_, rfl, ?_⟩
            rw [show σ (0 + 1 + 4) k = -1 from m1, m3, show nI (j + 1) + -1 = nI j from addm_n (a := j + 1) (b := 1) (by omega)]
        · rw [bI_f f, if_pos rfl]
          obtain ⟨m, rfl⟩ : ∃ z, N = z + 1 := ⟨N - 1, by omega⟩
          rw [L_X8_partner_5, show s (140 + 1) (ix 0) = nI n from h0, if_neg (show ¬ nI n ≤ 0 by rw [l0, le_n (by omega) (by omega)]; omega), show F_X8_isTangled (m + 1) (140 + 1) (nI k) s = _ from isTangled_n (by omega), bind_t, bI_f f, if_pos rfl, bind_t]
          exact ⟨_, rfl, rfl⟩
      rw [if_neg c4, if_neg c4]
      by_cases c5 : b = 5
      · subst c5
        rw [if_pos rfl, if_pos rfl, show F_X8_of N (140 + 1) (nI k) 4 s = _ from hof 4 (by decide), bind_t]
        exact ⟨_, rfl, by rw [show σ (0 + 1 + 5) k = _ from hf.2.2.2.1]⟩
      rw [if_neg c5, if_neg c5]
      by_cases c6 : b = 6
      · subst c6
        rw [if_pos rfl, if_pos rfl, hdr, bind_t, cRead_n (by omega) hx.1 hk, bind_t, asn_n, bind_t, show F_X8_isRead N (140 + 1) (nI k) s = _ from isRead_n (by omega) hn hx.1.2.2.2.1 (by omega), bind_t, ite_num]
        exact ⟨_, rfl, rfl⟩
      rw [if_neg c6, if_neg c6]
      by_cases c7 : b = 7
      · subst c7
        rw [if_pos rfl, if_pos rfl, show F_X8_of N (140 + 1) (nI k) 5 s = _ from hof 5 (by decide), bind_t]
        exact ⟨_, rfl, by rw [show σ (0 + 1 + 6) k = _ from hf.2.2.2.2.1]⟩
      rw [if_neg c7, if_neg c7]
      exact ⟨_, rfl, rfl⟩
theorem op_turnOf (h : Inv2 σ s) (a b : Int32) : ResP (F_X7_turnOf N 133 a b σ) (F_X8_turnOf N 140 a b s) := by
  obtain ⟨n, e, t, g, l, mi, hmi, hx⟩ := h.sr
  have ht := hx.2.1.1
  unfold F_X7_turnOf F_X8_turnOf
  by_cases c : a < 0
  · rw [if_pos c, if_pos c]; exact ⟨_, rfl, rfl⟩
  · rw [if_neg c, if_neg c, cwi, mwi, bind_t, bind_t]
    obtain ⟨i, hi, rfl⟩ := nI_of c
    rcases wi_or b 0 2 with d | ⟨d, d1, d2⟩
    · rw [d, if_pos rfl, if_pos rfl]; exact ⟨_, rfl, rfl⟩
    · obtain ⟨w, -, w2, rfl⟩ := wi_bn (lo := 0) (hi := 2) (by decide) d1 d2 (by decide)
      rw [d, if_neg n10, if_neg n10, show σ (0 + 8) 3 = nI t from hx.2.1.2.2.1, show s (140 + 1) (ix 6) = nI t from hx.2.1.2.1]
      by_cases z : i < t
      · have hT := hx.2.1.2.2.2.1 i z
        rw [if_pos (by rw [lt_n (by omega) (by omega)]; exact z), if_neg (show ¬ nI t ≤ nI i by rw [le_n (by omega) (by omega)]; omega), l84, l3, pk_mul, nI_add, nI_add]
        simp (disch := omega) only [in_n, gd_True, ix_n]
        rcases (show w = 0 ∨ w = 1 ∨ w = 2 by omega) with rfl | rfl | rfl
        · exact ⟨_, rfl, congrArg some hT.1.symm⟩
        · exact ⟨_, rfl, congrArg some hT.2.1.symm⟩
        · exact ⟨_, rfl, congrArg some hT.2.2.1.symm⟩
      · rw [if_neg (show ¬ nI i < nI t by rw [lt_n (by omega) (by omega)]; exact z), if_pos (show nI t ≤ nI i by rw [le_n (by omega) (by omega)]; omega)]
        exact ⟨_, rfl, rfl⟩
theorem op_tangle (h : Inv2 σ s) (a b : Int32) : ResP (F_X7_tangle N 133 a b σ) (F_X8_tangle N 140 a b s) := by
  obtain ⟨n, e, t, g, l, mi, hmi, hx⟩ := h.sr
  have ht := hx.2.2.1.1
  unfold F_X7_tangle F_X8_tangle
  by_cases c : a < 0
  · rw [if_pos c, if_pos c]; exact ⟨_, rfl, rfl⟩
  · rw [if_neg c, if_neg c, cwi, mwi, bind_t, bind_t]
    obtain ⟨i, hi, rfl⟩ := nI_of c
    rcases wi_or b 0 3 with d | ⟨d, d1, d2⟩
    · rw [d, if_pos rfl, if_pos rfl]; exact ⟨_, rfl, rfl⟩
    · obtain ⟨w, -, w2, rfl⟩ := wi_bn (lo := 0) (hi := 3) (by decide) d1 d2 (by decide)
      rw [d, if_neg n10, if_neg n10, show σ (0 + 12) 4 = nI g from hx.2.2.1.2.2.1, show s (140 + 1) (ix 11) = nI g from hx.2.2.1.2.1]
      by_cases z : i < g
      · have hT := hx.2.2.1.2.2.2.2 i z
        rw [if_pos (by rw [lt_n (by omega) (by omega)]; exact z), if_neg (show ¬ nI g ≤ nI i by rw [le_n (by omega) (by omega)]; omega), l120, l4, pk_mul, nI_add, nI_add]
        simp (disch := omega) only [in_n, gd_True, ix_n]
        rcases (show w = 0 ∨ w = 1 ∨ w = 2 ∨ w = 3 by omega) with rfl | rfl | rfl | rfl
        · exact ⟨_, rfl, congrArg some hT.1.symm⟩
        · exact ⟨_, rfl, congrArg some hT.2.1.symm⟩
        · exact ⟨_, rfl, congrArg some hT.2.2.1.symm⟩
        · exact ⟨_, rfl, congrArg some hT.2.2.2.symm⟩
      · rw [if_neg (show ¬ nI i < nI g by rw [lt_n (by omega) (by omega)]; exact z), if_pos (show nI g ≤ nI i by rw [le_n (by omega) (by omega)]; omega)]
        exact ⟨_, rfl, rfl⟩
end OPS7
