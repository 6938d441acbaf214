/-! reads, ifTraded, nextTrade, count -/
section OPS8
variable {N : Nat} {σ s : HP}
theorem op_reads (hN : 700 ≤ N) (h : Inv2 σ s) (a : Int32) : ResC (F_X7_reads N 133 a σ) (F_X8_reads N 140 a s) σ s := by
  obtain ⟨n, e, t, g, l, mi, hmi, hx⟩ := h.sr
  have hn := hx.1.1
  have h0 : s 141 0 = nI n := hx.1.2.2.2.1
  unfold F_X7_reads F_X8_reads
  by_cases c : 0 ≤ a
  · rw [if_pos c, if_pos c]
    obtain ⟨i, hi, rfl⟩ := nI_of (Int32.not_lt.mpr c)
    obtain ⟨σ', b1, b2, b3, b4⟩ := look_n (N := N) (p := 0) (by omega) hx.1 (by decide) hx.2.2.2.2.2.2.1 hx.2.2.2.2.2.2.2.1 hx.2.2.2.2.2.2.2.2.1 hx.2.2.2.2.2.2.2.2.2.2.2.2.2.1
    have hI : Inv2 σ' s := h.read (fun j hj => b2 j (by omega) (by omega)) (fun _ _ => rfl)
    have hct := cnt_le (rdM (s 141) n) n
    rw [b1, bind_t, b3]
    by_cases z : i < cnt (rdM (s 141) n) n
    · obtain ⟨k, hk, hr, hrk⟩ := rk_onto z
      have h137 : σ' 137 i = nI k := by rw [← hrk]; exact b4 k hk hr
      rw [if_pos (show nI i < nI (cnt (rdM (s 141) n) n) by rw [lt_n (by omega) (by omega)]; exact z), show F_X8_ranked N (140 + 1) (nI i) s = some (nI k) from by rw [← hrk]; exact ranked_hit (by omega) hn h0 hk hr, bind_t, if_neg (nne_none (by omega)), show F_X8_of N (140 + 1) (nI k) 1 s = some (s 141 (12 + 6 * k + 1)) from of_n (by omega) (by decide), bind_t]
      simp (disch := omega) only [in_n, gd_True, ix_n]
      rw [show σ' (136 + 1) i = nI k from h137]
      simp (disch := omega) only [in_n, gd_True, ix_n]
      refine ⟨_, σ', rfl, ?_, hI, fun j hj => b2 j (by omega) (by omega)⟩
      rw [show σ' (0 + 1 + 2) k = σ 3 k from congrFun (b2 3 (by decide) (by decide)) k, show σ 3 k = s 141 (12 + 6 * k + 1) from (hx.1.2.2.2.2.2.2.2.1 k hk).2.1]
    · rw [if_neg (show ¬ nI i < nI (cnt (rdM (s 141) n) n) by rw [lt_n (by omega) (by omega)]; exact z), show F_X8_ranked N (140 + 1) (nI i) s = some (-1000005) from ranked_miss (by omega) hn h0 (fun k hk hr w => by
        have q : rkM (s 141) n k < cnt (rdM (s 141) n) n := rk_lt hk hr
        have w' : nI (rkM (s 141) n k) = nI i := w
        rw [eq_n (by omega) (by omega)] at w'
        omega), bind_t, if_pos rfl]
      exact ⟨_, σ', rfl, rfl, hI, fun j hj => b2 j (by omega) (by omega)⟩
  · rw [if_neg c, if_neg c]
    exact ⟨_, σ, rfl, rfl, h, fun _ _ => rfl⟩
theorem op_nextTrade (hN : 700 ≤ N) (h : Inv2 σ s) : Res (F_X7_nextTrade N 133 σ) (F_X8_nextTrade N 140 s) σ s := by
  obtain ⟨n, e, t, g, l, mi, hmi, hx⟩ := h.sr
  have hn := hx.1.1
  have h0 : s 141 0 = nI n := hx.1.2.2.2.1
  have h7 : s 141 7 = nI l := hx.2.2.2.1.2.1
  have h4 := hx.2.2.2.2.2.2.2.2.2.2.2.2.2.1
  obtain ⟨o, σ', a1, a2, a3⟩ := cNext_n (N := N) (p := 0) (by omega) hx.1 hx.2.2.2.1 (by decide) hx.2.2.2.2.2.2.1 hx.2.2.2.2.2.2.2.1 hx.2.2.2.2.2.2.2.2.1 hx.2.2.2.2.2.2.2.2.2.2.2.2.1 h4
  obtain ⟨o', s', b1, b2, b3⟩ := mNext_n (N := N) (r := 141) (by omega) hn hx.2.2.2.1.1 (Or.inl rfl) h0 h7 h4
  obtain rfl := a3.one b3
  unfold F_X7_nextTrade F_X8_nextTrade
  rw [a1, bind2_t, show F_X8_next N 140 (140 + 1) s = _ from b1, bind2_t]
  have hc : ∀ j, j < 136 ∨ 140 ≤ j → σ' j = σ j := fun j hj => a2 j (by omega) (by omega)
  have hm : ∀ j, (j < 142 ∨ j = 143 ∨ j = 144 ∨ j = 145) → s' j = s j := fun j hj => b2 j (by omega) (by omega) (by omega)
  cases o with
  | none => exact Res.read h (-1000005) rfl rfl hc hm
  | some q =>
    have hq : q + 1 < n := a3.2.1
    exact Res.read h (nI q) (if_neg (nne_one (by omega))) rfl hc hm
theorem op_ifTraded (hN : 700 ≤ N) (h : Inv2 σ s) (a b : Int32) : Res (F_X7_ifTraded N 133 a b σ) (F_X8_ifTraded N 140 a b s) σ s := by
  obtain ⟨n, e, t, g, l, mi, hmi, hx⟩ := h.sr
  have hn := hx.1.1
  have h0 : s 141 0 = nI n := hx.1.2.2.2.1
  have h7 : s 141 7 = nI l := hx.2.2.2.1.2.1
  have h4 := hx.2.2.2.2.2.2.2.2.2.2.2.2.2.1
  unfold F_X7_ifTraded F_X8_ifTraded
  rcases pair_c (N := N) (σ := σ) 1 hn hx.1.2.2.2.2.2.1 a with ⟨p1, p2⟩ | ⟨p1, k, hk, rfl⟩
  · rcases pair_m (N := N) hn h0 a with ⟨q1, q2⟩ | ⟨q1, q2⟩
    · rw [show F_X3_hasPairAt N (0 + 1) a σ = _ from p1, show F_X8_in N a 0 (s (140 + 1) (ix 0) - 2) s = _ from q1, bind_t, bind_t, if_pos rfl, if_pos rfl]; exact Res.same h _
    · exact absurd q2 p2
  · rcases pair_m (N := N) hn h0 (nI k) with ⟨q1, q2⟩ | ⟨q1, q2⟩
    · exact absurd ⟨k, hk, rfl⟩ q2
    · rw [show F_X3_hasPairAt N (0 + 1) (nI k) σ = _ from p1, show F_X8_in N (nI k) 0 (s (140 + 1) (ix 0) - 2) s = _ from q1, bind_t, bind_t, if_neg n10, if_neg n10, cwi, mwi, bind_t, bind_t]
      rcases wi_or b 0 2 with d | ⟨d, d1, d2⟩
      · rw [d, if_pos rfl, if_pos rfl]; exact Res.same h _
      · obtain ⟨w, -, w2, rfl⟩ := wi_bn (lo := 0) (hi := 2) (by decide) d1 d2 (by decide)
        rw [d, if_neg n10, if_neg n10]
        by_cases c1 : w = 1
        · subst c1
          rw [if_pos i11, if_pos i11, cSafe_n (p := 0) hx.1 hk hx.2.2.2.2.2.2.1 hx.2.2.2.2.2.2.2.1 hx.2.2.2.2.2.2.2.2.2.2.2.2.1, bind_t, asn_n, bind_t, show F_X8_isSafe N (140 + 1) (nI k) s = _ from isSafe_n (by omega), bind_t]
          refine Res.read h _ rfl ?_ (fun _ _ => rfl) (fun _ _ => rfl)
          by_cases y : (¬ tgM (s 141) k ∧ ¬ tgM (s 141) (k + 1) ∧ ¬ wtM (s 141) k)
          · rw [show bI (¬ tgM (s (140 + 1)) k ∧ ¬ tgM (s (140 + 1)) (k + 1) ∧ ¬ wtM (s (140 + 1)) k) = 1 from bI_t y, if_neg n10]
          · rw [show bI (¬ tgM (s (140 + 1)) k ∧ ¬ tgM (s (140 + 1)) (k + 1) ∧ ¬ wtM (s (140 + 1)) k) = 0 from bI_f y, if_pos rfl]
        · have hw1 : ¬ nI w = 1 := by rw [l1, eq_n (by omega) (by omega)]; exact c1
          rw [if_neg hw1, if_neg hw1]
          obtain ⟨σ', a1, a2, a3⟩ := match_n (N := N) (p := 0) (by omega) hx.1 hx.2.2.2.1 (by decide) hx.2.2.2.2.2.2.2.2.1 h4
          have hf := fewest_n (N := N) (r := 141) (σ := s) (by omega) hn hx.2.2.2.1.1 (by decide) h0 h7 h4
          have hc : ∀ j, j < 136 ∨ 140 ≤ j → σ' j = σ j := fun j hj => a2 j (by omega) (by omega)
          have hR' : RowR σ' (0 + 1) (s 141) n e := hx.1.congr (fun j j1 j2 => hc j (by omega)) rfl rfl (fun _ _ _ => rfl)
          rw [a1, bind_t]
          by_cases hP : PsM (s 141) n l
          · obtain ⟨z1, z2, z3⟩ := a3.1 hP
            obtain ⟨s1, b1, b2⟩ := hf.1 hP
            have hs1 : s1 141 = s 141 := b2 141 (by decide) (by decide)
            obtain ⟨s2, d1, d2⟩ := behind_n (N := N) (r := 141) (σ := s1) (n := n) (l := l) (p := k) (by omega) hn (Or.inl rfl) (by rw [hs1]; exact h0) (by rw [hs1]; exact h7) (by rw [hs1]; exact h4) (by rw [hs1]; exact hP) hk
            rw [hs1] at d1
            have hm : ∀ j, (j < 142 ∨ j = 143 ∨ j = 144 ∨ j = 145) → s2 j = s j := fun j hj => by rw [d2 j (by omega) (by omega) (by omega), b2 j (by omega) (by omega)]
            have hfw := fw_le (μ := s 141) hn
            rw [z1, if_neg n10, show F_X8_fewest N 140 (140 + 1) s = _ from b1, bind2_t, if_neg (nne_none (by omega)), show F_X8_behind N 140 (140 + 1) (nI k) s1 = _ from d1, bind2_t]
            by_cases c0 : w = 0
            · subst c0
              rw [if_pos i00, if_neg (show ¬ nI 0 = 2 by decide), good_n z3 hn hk, bind_t, asn_n, bind_t]
              refine Res.read h _ rfl ?_ hc hm
              by_cases y : WrM (s 141) (tgtM (s 141) n k) (tgtM (s 141) n (k + 1))
              · rw [bI_t y, if_neg (fun v => (bh_lt hn hk h4 hP.2.2).mp v y)]
              · rw [bI_f y, if_pos ((bh_lt hn hk h4 hP.2.2).mpr y)]
            · obtain rfl : w = 2 := by omega
              rw [if_neg i20, if_pos (show nI 2 = 2 from rfl), cBehind_n hR' z3 z2 hk, bind_t]
              exact Res.read h _ rfl rfl hc hm
          · obtain ⟨s1, b1, b2⟩ := hf.2 hP
            rw [a3.2 hP, if_pos rfl, show F_X8_fewest N 140 (140 + 1) s = _ from b1, bind2_t, if_pos rfl]
            exact Res.read h _ rfl rfl hc (fun j hj => b2 j (by omega) (by omega))
theorem op_count (hN : 700 ≤ N) (h : Inv2 σ s) (a : Int32) : Res (F_X7_count N 133 a σ) (F_X8_count N 140 a s) σ s := by
  obtain ⟨n, e, t, g, l, mi, hmi, hx⟩ := h.sr
  have hn := hx.1.1
  have h0 : s 141 0 = nI n := hx.1.2.2.2.1
  have h7 : s 141 7 = nI l := hx.2.2.2.1.2.1
  have h4 := hx.2.2.2.2.2.2.2.2.2.2.2.2.2.1
  have hC7 := hx.2.2.2.2.2.2.2.2.1
  unfold F_X7_count F_X8_count
  have same : ∀ x y : Int32, x = y → Res (some (x, σ)) (some (y, s)) σ s := fun x y hxy => by rw [hxy]; exact Res.same h _
  by_cases c0 : a = 0
  · subst c0
    rw [if_pos rfl, if_pos rfl, gd_t (show vp_in 0 152 from (vp_in_nI (by decide) (by decide) : vp_in (nI 0) 152))]
    exact same _ _ (hx.1.2.2.2.2.2.1.trans h0.symm)
  rw [if_neg c0, if_neg c0]
  by_cases c1 : a = 1
  · subst c1
    rw [if_pos rfl, if_pos rfl, gd_t (show vp_in 1 152 from (vp_in_nI (by decide) (by decide) : vp_in (nI 1) 152))]
    exact same _ _ (hx.2.2.2.2.2.1.trans hx.2.2.2.2.1.symm)
  rw [if_neg c1, if_neg c1]
  by_cases c2 : a = 2
  · subst c2
    rw [if_pos rfl, if_pos rfl, gd_t (show vp_in 2 152 from (vp_in_nI (by decide) (by decide) : vp_in (nI 2) 152))]
    exact same _ _ hx.2.2.2.2.2.2.1
  rw [if_neg c2, if_neg c2]
  by_cases c3 : a = 3
  · subst c3
    rw [if_pos rfl, if_pos rfl, gd_t (show vp_in 3 152 from (vp_in_nI (by decide) (by decide) : vp_in (nI 3) 152))]
    exact same _ _ hx.2.2.2.2.2.2.2.1
  rw [if_neg c3, if_neg c3]
  by_cases c4 : a = 4
  · subst c4
    rw [if_pos rfl, if_pos rfl, gd_t (show vp_in 4 152 from (vp_in_nI (by decide) (by decide) : vp_in (nI 4) 152)), hC7]
    unfold F_X7_asNumber
    show Res (Option.bind (if s 141 4 = 0 then some 0 else some 1) fun r27 => some (r27, σ)) (some (s 141 4, s)) σ s
    rcases h4 with z | z
    · rw [z, if_pos rfl, bind_t]; exact Res.same h _
    · rw [z, if_neg n10, bind_t]; exact Res.same h _
  rw [if_neg c4, if_neg c4]
  by_cases c5 : a = 5
  · subst c5
    rw [if_pos rfl, if_pos rfl]
    obtain ⟨σ', b1, b2, b3⟩ := look_n (N := N) (p := 0) (by omega) hx.1 (by decide) hx.2.2.2.2.2.2.1 hx.2.2.2.2.2.2.2.1 hC7 h4
    unfold F_X7_readableKites
    rw [b1, bind_t, b3.1, bind2_t, show F_X8_readable N (140 + 1) s = _ from readable_n (by omega) hn h0, bind_t]
    exact Res.read h _ rfl rfl (fun j hj => b2 j (by omega) (by omega)) (fun _ _ => rfl)
  rw [if_neg c5, if_neg c5]
  by_cases c6 : a = 6
  · subst c6
    rw [if_pos rfl, if_pos rfl]
    exact same _ _ (hx.2.2.2.1.2.2.1.trans h7.symm)
  rw [if_neg c6, if_neg c6]
  by_cases c7 : a = 7
  · subst c7
    rw [if_pos rfl, if_pos rfl]
    obtain ⟨σ', a1, a2, a3⟩ := match_n (N := N) (p := 0) (by omega) hx.1 hx.2.2.2.1 (by decide) hC7 h4
    have hf := fewest_n (N := N) (r := 141) (σ := s) (by omega) hn hx.2.2.2.1.1 (by decide) h0 h7 h4
    unfold F_X7_fewestTrades
    rw [a1, bind_t]
    by_cases hP : PsM (s 141) n l
    · obtain ⟨z1, z2, z3⟩ := a3.1 hP
      obtain ⟨s1, b1, b2⟩ := hf.1 hP
      rw [z1, if_neg n10, z2, bind2_t, show F_X8_fewest N 140 (140 + 1) s = _ from b1, bind2_t]
      exact Res.read h _ rfl rfl (fun j hj => a2 j (by omega) (by omega)) (fun j hj => b2 j (by omega) (by omega))
    · obtain ⟨s1, b1, b2⟩ := hf.2 hP
      rw [a3.2 hP, if_pos rfl, bind2_t, show F_X8_fewest N 140 (140 + 1) s = _ from b1, bind2_t]
      exact Res.read h _ rfl rfl (fun j hj => a2 j (by omega) (by omega)) (fun j hj => b2 j (by omega) (by omega))
  rw [if_neg c7, if_neg c7]
  by_cases c8 : a = 8
  · subst c8
    rw [if_pos rfl, if_pos rfl]
    obtain ⟨σ', b1, b2⟩ := cSpell_n (N := N) (p := 0) (by omega) hx.1 hx.2.2.2.1 (by decide) hx.2.2.2.2.2.2.1 hx.2.2.2.2.2.2.2.1 hC7 h4
    rw [b1, bind2_t, asn_n, bind_t, show F_X8_isSpelled N (140 + 1) s = _ from mSpell_n (by omega) hn hx.2.2.2.1.1 h0 h7, bind_t]
    refine Res.read h _ rfl ?_ (fun j hj => b2 j (by omega) (by omega)) (fun _ _ => rfl)
    by_cases y : spM (s 141) n l
    · rw [show bI (spM (s (140 + 1)) n l) = 1 from bI_t y, if_neg n10]
    · rw [show bI (spM (s (140 + 1)) n l) = 0 from bI_f y, if_pos rfl]
  rw [if_neg c8, if_neg c8]
  by_cases c9 : a = 9
  · subst c9
    rw [if_pos rfl, if_pos rfl]
    exact same _ _ hx.2.2.2.2.2.2.2.2.2.2.1
  rw [if_neg c9, if_neg c9]
  by_cases c10 : a = 10
  · subst c10
    rw [if_pos rfl, if_pos rfl]
    exact same _ _ hx.2.2.1.2.2.2.1
  rw [if_neg c10, if_neg c10]
  by_cases c11 : a = 11
  · subst c11
    rw [if_pos rfl, if_pos rfl]
    exact same _ _ (hx.2.1.2.2.1.trans hx.2.1.2.1.symm)
  rw [if_neg c11, if_neg c11]
  obtain ⟨h', ty, π, -, -, e8, e3, -, -, -, -, e9, e7, -⟩ := id h
  by_cases c12 : a = 12
  · subst c12
    rw [if_pos rfl, if_pos rfl]
    exact same _ _ (e8.trans e3.symm)
  rw [if_neg c12, if_neg c12]
  by_cases c13 : a = 13
  · subst c13
    rw [if_pos rfl, if_pos rfl]
    exact same _ _ (e9.trans e7.symm)
  rw [if_neg c13, if_neg c13]
  exact Res.same h _
end OPS8
