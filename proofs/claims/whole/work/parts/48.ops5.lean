/-! crowd, type, clearText, undo, keep, restore -/
section OPS5
variable {N : Nat} {σ s : HP}
theorem op_crowd (hN : 700 ≤ N) (h : Inv2 σ s) (a : Int32) (ha : a = 0 ∨ a = 1) : Res (F_X7_crowd N 133 a σ) (J_X8_crowd_9 N 140 a s) σ s := by
  obtain ⟨-, -, -, ⟨n, e, t, g, l, mi, hmi, hx⟩, -⟩ := id h
  unfold F_X7_crowd J_X8_crowd_9
  rw [show σ 0 7 = s 141 4 from hx.2.2.2.2.2.2.2.2.1, show s (140 + 1) (ix 4) = s 141 4 from rfl]
  by_cases c : s 141 4 = a
  · rw [if_pos c, if_pos c]; exact Res.same h _
  · rw [if_neg c, if_neg c]
    obtain ⟨σ1, s1, r1, r2, r3, r4⟩ := record_n hN h
    have hx1 := now_rec hx r4
    obtain ⟨hR, hPl, hLg, hW, hSc⟩ := hx1
    rw [r1, bind_t, r2, bind_t, gd_t ha, bd_t, bd_t]
    have hc : ∀ j, j ≠ 0 → (wr σ1 0 7 a) j = σ1 j := fun j hj => wr_n hj
    have hc0 : ∀ i, i ≠ 7 → (wr σ1 0 7 a) 0 i = σ1 0 i := fun i hi => by rw [wr_s, upd_n hi]
    have hm : ∀ i, i ≠ 4 → (wr s1 (140 + 1) (ix 4) a) 141 i = s1 141 i := fun i hi => by
      show (wr s1 141 4 a) 141 i = _
      rw [wr_s, upd_n hi]
    have hm4 : (wr s1 (140 + 1) (ix 4) a) 141 4 = a := by
      show (wr s1 141 4 a) 141 4 = _
      rw [wr_s, upd_s]
    have hx2 : SRx (wr σ1 0 7 a) 0 ((wr s1 (140 + 1) (ix 4) a) 141) n e t g l mi := by
      refine ⟨hR.congr (fun j j1 j2 => hc j (by omega)) (hm 0 (by decide)) (hm 10 (by decide)) (fun i i1 i2 => hm i (by omega)), hPl.congr (fun j j1 j2 => hc j (by omega)) (hm 6 (by decide)) (fun i i1 i2 => hm i (by omega)), hLg.congr (fun j j1 j2 => hc j (by omega)) (hm 9 (by decide)) (hm 11 (by decide)) (fun i i1 i2 => hm i (by omega)), hW.congr (fun j j1 j2 => hc j (by omega)) (hm 7 (by decide)) (fun i i1 i2 => hm i (by omega)), ?_⟩
      obtain ⟨y1, y2, y3, y4, y5, y6, y7, y8, y9, y10, y11⟩ := hSc
      refine ⟨by rw [hm 1 (by decide)]; exact y1, by rw [hc0 4 (by decide)]; exact y2, by rw [hc0 5 (by decide), hm 2 (by decide)]; exact y3, by rw [hc0 6 (by decide), hm 3 (by decide)]; exact y4, by rw [wr_s, upd_s, hm4], by rw [hc0 8 (by decide), hm 5 (by decide)]; exact y6, by rw [hc0 9 (by decide), hm 8 (by decide)]; exact y7, by rw [hm 2 (by decide)]; exact y8, by rw [hm 3 (by decide)]; exact y9, by rw [hm4]; exact ha, by rw [hm 5 (by decide)]; exact y11⟩
    obtain ⟨σ', b1, b2, b3⟩ := look_n (N := N) (p := 0) (by omega) hx2.1 (by decide) hx2.2.2.2.2.2.2.1 hx2.2.2.2.2.2.2.2.1 hx2.2.2.2.2.2.2.2.2.1 hx2.2.2.2.2.2.2.2.2.2.2.2.2.2.1
    unfold F_X7_readableKites
    rw [b1, bind_t, bind2_t, b3.1, readable_n (N := N) (by omega) hx2.1.1 (show (wr s1 (140 + 1) (ix 4) a) (140 + 1) 0 = nI n from hx2.1.2.2.2.1), bind_t]
    exact Res.fin _ rfl rfl r3 r4 (fun j j1 j2 => by rw [b2 j (by omega) (by omega), hc j (by omega)]) (fun j j1 => wr_n (by omega)) ⟨n, e, t, g, l, mi, hmi, hx2.frame (fun j j1 j2 => b2 j (by omega) (by omega)) (fun _ _ => rfl)⟩
theorem op_crowd0 (hN : 700 ≤ N) (h : Inv2 σ s) : Res (F_X7_crowd N 133 0 σ) (F_X8_crowd N 140 0 s) σ s := by
  unfold F_X8_crowd
  rw [if_pos rfl]
  exact op_crowd hN h 0 (Or.inl rfl)
theorem op_crowd1 (hN : 700 ≤ N) (h : Inv2 σ s) : Res (F_X7_crowd N 133 1 σ) (F_X8_crowd N 140 1 s) σ s := by
  unfold F_X8_crowd
  rw [if_neg n10]
  exact op_crowd hN h 1 (Or.inr rfl)
theorem op_clearText (h : Inv2 σ s) : Res (F_X7_clearText N 133 σ) (F_X8_clearText N 140 s) σ s := by
  obtain ⟨h', ty, π, a1, a2, a3, a4, a5, a6, a7, a8, a9, a10, a11, a12⟩ := h
  unfold F_X7_clearText F_X8_clearText
  rw [a9, a10, bd_t, bd_t, bd_t, bd_t]
  have hc : ∀ j, j ≠ 133 → (wr σ 133 9 0) j = σ j := fun j hj => wr_n hj
  have hc0 : ∀ i, i ≠ 9 → (wr σ 133 9 0) 133 i = σ 133 i := fun i hi => by rw [wr_s, upd_n hi]
  have hm : ∀ j, j ≠ 140 → (wr s 140 7 0) j = s j := fun j hj => wr_n hj
  have hm0 : ∀ i, i ≠ 7 → (wr s 140 7 0) 140 i = s 140 i := fun i hi => by rw [wr_s, upd_n hi]
  refine ⟨_, _, _, rfl, rfl, ⟨h', 0, π, a1.frame (fun j j1 j2 => hc j (by omega)) (fun i _ => by rw [hm 141 (by decide)]), a2, by rw [hc0 8 (by decide)]; exact a3, by rw [hm0 3 (by decide)]; exact a4, ⟨fun i hi => by rw [hc 134 (by decide)]; exact a5.1 i hi, a5.2⟩, fun i hi => ?_, ?_, by omega, by rw [wr_s, upd_s]; rfl, by rw [wr_s, upd_s]; rfl, fun k hk => by omega, fun k hk => by rw [hc 135 (by decide)]; exact a12 k hk⟩, fun j hj => hc j (by omega), fun j hj => hm j (by omega)⟩
  · have := (a5.1 i (by omega)).1
    exact (a6 i hi).frame (fun j j1 j2 => hc j (by omega)) (fun k _ => by rw [hm 143 (by decide)])
  · rw [hc0 7 (by decide), hm0 5 (by decide)]
    rcases a7 with b | ⟨b1, b2, b3⟩
    · exact Or.inl b
    · exact Or.inr ⟨b1, b2, b3.frame (fun j j1 j2 => hc j (by omega)) (fun k _ => by rw [hm 144 (by decide)])⟩
theorem op_type (h : Inv2 σ s) (a : Int32) (hf : fits .char (.int (vp_nar .char a)) = true) : Res (F_X7_type N 133 a σ) (F_X8_type N 140 a s) σ s := by
  obtain ⟨h', ty, π, a1, a2, a3, a4, a5, a6, a7, a8, a9, a10, a11, a12⟩ := id h
  unfold F_X7_type F_X8_type
  rw [a9, a10]
  by_cases c : ty < 60
  · rw [if_pos (show nI ty < 60 by rw [l60, lt_n (by omega) (by omega)]; exact c), if_neg (show ¬ nI ty = 60 by rw [l60, eq_n (by omega) (by omega)]; omega)]
    simp (disch := omega) only [in_n, gd_True, ix_n, bd_t]
    have hc : ∀ j, j ≠ 133 → j ≠ 135 → (wr (wr σ 135 ty (vp_nar .char a)) 133 9 (nI (ty + 1))) j = σ j := fun j h1 h2 => by rw [wr_n h1, wr_n h2]
    have hc0 : ∀ i, i ≠ 9 → (wr (wr σ 135 ty (vp_nar .char a)) 133 9 (nI (ty + 1))) 133 i = σ 133 i := fun i hi => by rw [wr_s, upd_n hi, wr_n (by decide)]
    have hc5 : ∀ i, (wr (wr σ 135 ty (vp_nar .char a)) 133 9 (nI (ty + 1))) 135 i = if i = ty then vp_nar .char a else σ 135 i := fun i => by
      rw [wr_n (by decide), wr_s]
      by_cases c : i = ty
      · rw [c, upd_s, if_pos rfl]
      · rw [upd_n c, if_neg c]
    have hm : ∀ j, j ≠ 140 → j ≠ 145 → (wr (wr s 145 ty (vp_nar .char a)) 140 7 (nI (ty + 1))) j = s j := fun j h1 h2 => by rw [wr_n h1, wr_n h2]
    have hm0 : ∀ i, i ≠ 7 → (wr (wr s 145 ty (vp_nar .char a)) 140 7 (nI (ty + 1))) 140 i = s 140 i := fun i hi => by rw [wr_s, upd_n hi, wr_n (by decide)]
    have hm5 : ∀ i, (wr (wr s 145 ty (vp_nar .char a)) 140 7 (nI (ty + 1))) 145 i = if i = ty then vp_nar .char a else s 145 i := fun i => by
      rw [wr_n (by decide), wr_s]
      by_cases c : i = ty
      · rw [c, upd_s, if_pos rfl]
      · rw [upd_n c, if_neg c]
    rw [show (wr σ 135 ty (vp_nar .char a)) 133 9 = nI ty by rw [wr_n (by decide)]; exact a9, show (wr s (140 + 5) ty (vp_nar .char a)) 140 7 = nI ty by rw [wr_n (by decide)]; exact a10, nI_1,
      show (wr (wr σ 135 ty (vp_nar .char a)) 133 9 (nI (ty + 1))) 133 9 = nI (ty + 1) by rw [wr_s, upd_s], show (wr (wr s (140 + 5) ty (vp_nar .char a)) 140 7 (nI (ty + 1))) 140 7 = nI (ty + 1) by rw [wr_s, upd_s]]
    refine ⟨_, _, _, rfl, rfl, ⟨h', ty + 1, π, a1.frame (fun j j1 j2 => hc j (by omega) (by omega)) (fun i _ => congrFun (hm 141 (by decide) (by decide)) i), a2, (hc0 8 (by decide)).trans a3, (hm0 3 (by decide)).trans a4, ⟨fun i hi => by rw [hc 134 (by decide) (by decide)]; exact a5.1 i hi, a5.2⟩, fun i hi => ?_, ?_, by omega, by rw [wr_s, upd_s], by rw [wr_s, upd_s], fun k hk => ?_, fun k hk => ?_⟩, fun j hj => hc j (by omega) (by omega), fun j hj => hm j (by omega) (by omega)⟩
    · have := (a5.1 i (by omega)).1
      exact (a6 i hi).frame (fun j j1 j2 => hc j (by omega) (by omega)) (fun k _ => congrFun (hm 143 (by decide) (by decide)) _)
    · rcases a7 with ⟨b1, b2⟩ | ⟨b1, b2, b3⟩
      · exact Or.inl ⟨(hc0 7 (by decide)).trans b1, (hm0 5 (by decide)).trans b2⟩
      · exact Or.inr ⟨(hc0 7 (by decide)).trans b1, (hm0 5 (by decide)).trans b2, b3.frame (fun j j1 j2 => hc j (by omega) (by omega)) (fun k _ => congrFun (hm 144 (by decide) (by decide)) _)⟩
    · refine (hc5 k).trans (Eq.trans ?_ (hm5 k).symm)
      by_cases c : k = ty
      · rw [if_pos c, if_pos c]
      · rw [if_neg c, if_neg c]; exact a11 k (by omega)
    · rw [hc5 k]
      by_cases c : k = ty
      · rw [if_pos c]
        exact hf
      · rw [if_neg c]; exact a12 k hk
  · obtain rfl : ty = 60 := by omega
    rw [if_neg (show ¬ nI 60 < 60 by decide), if_pos (show nI 60 = 60 from rfl)]
    exact Res.same h _
theorem op_undo (hN : 700 ≤ N) (h : Inv2 σ s) : Res (F_X7_undo N 133 σ) (F_X8_undo N 140 s) σ s := by
  obtain ⟨h', ty, π, a1, a2, a3, a4, a5, a6, a7, a8, a9, a10, a11, a12⟩ := id h
  unfold F_X7_undo F_X8_undo
  rw [a3, a4]
  by_cases c : 0 < h'
  · rw [if_pos (show 0 < nI h' by rw [l0, lt_n (by omega) (by omega)]; exact c), if_neg (show ¬ nI h' = 0 by rw [l0, eq_n (by omega) (by omega)]; omega), l1, sub_n (by omega), bd_t, bd_t, bd_t]
    have hπ := a5.1 (h' - 1) (by omega)
    have hc : ∀ j, j ≠ 133 → (wr σ 133 8 (nI (h' - 1))) j = σ j := fun j hj => wr_n hj
    have hc8 : (wr σ 133 8 (nI (h' - 1))) 133 8 = nI (h' - 1) := by rw [wr_s, upd_s]
    have hm3 : (wr s 140 3 (nI (h' - 1))) 140 3 = nI (h' - 1) := by rw [wr_s, upd_s]
    rw [hc8, hm3]
    simp (disch := omega) only [in_n, gd_True, ix_n]
    rw [hc 134 (by decide), hπ.2, ix_n (by omega), gd_t (kd_h _ hπ.1), l152, pk_mul]
    obtain ⟨σ', b1, b2, b3⟩ := copy_n (N := N) (a := 0) (b := 57 + 19 * π (h' - 1)) (σ := wr σ 133 8 (nI (h' - 1))) (by omega) ((a6 (h' - 1) (by omega)).frame (fun j j1 j2 => hc j (by omega)) (fun _ _ => rfl))
    obtain ⟨s', d1, d2, d3⟩ := lays_n (N := N) (σ0 := wr s 140 3 (nI (h' - 1))) (a := 143) (b := 141) (oa := 152 * (h' - 1)) (ob := 0) (by omega) (by decide) (by rw [show ln 143 = 608 from by decide]; omega) (by decide) (by decide)
    rw [b1, bind_t, show F_X8_lays N (140 + 3) (nI (152 * (h' - 1))) (140 + 1) 0 (wr s 140 3 (nI (h' - 1))) = some s' from d1, bind_t]
    have e : ∀ j, 19 ≤ j → j ≠ 133 → σ' j = σ j := fun j j1 j2 => by rw [b2 j (by omega), hc j j2]
    have f : ∀ j, j ≠ 140 → j ≠ 141 → s' j = s j := fun j j1 j2 => by rw [d2 j j2, wr_n j1]
    have e3 : ∀ i, i ≠ 8 → σ' 133 i = σ 133 i := fun i hi => by rw [b2 133 (by omega), wr_s, upd_n hi]
    have f3 : ∀ i, i ≠ 3 → s' 140 i = s 140 i := fun i hi => by rw [d2 140 (by decide), wr_s, upd_n hi]
    have e8 : σ' 133 8 = nI (h' - 1) := by rw [b2 133 (by omega)]; exact hc8
    have f8 : s' 140 3 = nI (h' - 1) := by rw [d2 140 (by decide)]; exact hm3
    rw [e8, f8]
    refine ⟨_, σ', s', rfl, rfl, ⟨h' - 1, ty, π, b3.mu (fun i hi => ?_), by omega, e8, f8, ⟨fun i hi => by rw [e 134 (by decide) (by decide)]; exact a5.1 i hi, a5.2⟩, fun i hi => ?_, ?_, a8, (e3 9 (by decide)).trans a9, (f3 7 (by decide)).trans a10, fun k hk => by rw [e 135 (by decide) (by decide), f 145 (by decide) (by decide)]; exact a11 k hk, fun k hk => by rw [e 135 (by decide) (by decide)]; exact a12 k hk⟩, fun j hj => e j (by omega) (by omega), fun j hj => f j (by omega) (by omega)⟩
    · rw [d3 i, if_pos (by omega), wr_n (by decide)]; rfl
    · have := (a5.1 i (by omega)).1
      exact (a6 i (by omega)).frame (fun j j1 j2 => e j (by omega) (by omega)) (fun k _ => by rw [f 143 (by decide) (by decide)])
    · rcases a7 with ⟨b1, b2⟩ | ⟨b1, b2, b3⟩
      · exact Or.inl ⟨(e3 7 (by decide)).trans b1, (f3 5 (by decide)).trans b2⟩
      · exact Or.inr ⟨(e3 7 (by decide)).trans b1, (f3 5 (by decide)).trans b2, b3.frame (fun j j1 j2 => e j (by omega) (by omega)) (fun k _ => by rw [f 144 (by decide) (by decide)])⟩
  · obtain rfl : h' = 0 := by omega
    rw [if_neg (by decide), if_pos (show nI 0 = 0 from rfl)]
    exact Res.same h _
theorem op_keep (hN : 700 ≤ N) (h : Inv2 σ s) : Res (F_X7_keep N 133 σ) (F_X8_keep N 140 s) σ s := by
  obtain ⟨h', ty, π, a1, a2, a3, a4, a5, a6, a7, a8, a9, a10, a11, a12⟩ := id h
  unfold F_X7_keep F_X8_keep
  obtain ⟨σ1, b1, b2, b3⟩ := copy_n (N := N) (a := 38) (b := 0) (σ := σ) (by omega) a1
  obtain ⟨s1, d1, d2, d3⟩ := lays_n (N := N) (σ0 := s) (a := 141) (b := 144) (oa := 0) (ob := 0) (by omega) (by decide) (by decide) (by decide) (by decide)
  rw [b1, bind_t, show F_X8_lays N (140 + 1) 0 (140 + 4) 0 s = some s1 from d1, bind_t, bd_t, bd_t]
  have e : ∀ j, (j < 38 ∨ 57 ≤ j) → j ≠ 133 → (wr σ1 133 7 1) j = σ j := fun j j1 j2 => by rw [wr_n j2, b2 j (by omega)]
  have f : ∀ j, j ≠ 140 → j ≠ 144 → (wr s1 140 5 1) j = s j := fun j j1 j2 => by rw [wr_n j1, d2 j j2]
  have e3 : ∀ i, i ≠ 7 → (wr σ1 133 7 1) 133 i = σ 133 i := fun i hi => by rw [wr_s, upd_n hi, b2 133 (by omega)]
  have f3 : ∀ i, i ≠ 5 → (wr s1 140 5 1) 140 i = s 140 i := fun i hi => by rw [wr_s, upd_n hi, d2 140 (by decide)]
  have hr : (wr σ1 133 7 1) 0 4 = (wr s1 140 5 1) 141 1 := by
    rw [e 0 (by omega) (by decide), f 141 (by decide) (by decide)]
    obtain ⟨n, e, t, g, l, mi, hmi, hx⟩ := a1
    exact hx.2.2.2.2.2.1.trans hx.2.2.2.2.1.symm
  rw [hr]
  refine ⟨_, _, _, rfl, rfl, ⟨h', ty, π, a1.frame (fun j j1 j2 => e j (by omega) (by omega)) (fun i _ => by rw [f 141 (by decide) (by decide)]), a2, (e3 8 (by decide)).trans a3, (f3 3 (by decide)).trans a4, ⟨fun i hi => by rw [e 134 (by omega) (by decide)]; exact a5.1 i hi, a5.2⟩, fun i hi => ?_, Or.inr ⟨by rw [wr_s, upd_s], by rw [wr_s, upd_s], ?_⟩, a8, (e3 9 (by decide)).trans a9, (f3 7 (by decide)).trans a10, fun k hk => by rw [e 135 (by omega) (by decide), f 145 (by decide) (by decide)]; exact a11 k hk, fun k hk => by rw [e 135 (by omega) (by decide)]; exact a12 k hk⟩, fun j hj => e j (by omega) (by omega), fun j hj => f j (by omega) (by omega)⟩
  · have := (a5.1 i (by omega)).1
    exact (a6 i hi).frame (fun j j1 j2 => e j (by omega) (by omega)) (fun k _ => by rw [f 143 (by decide) (by decide)])
  · exact b3.frame (fun j j1 j2 => wr_n (by omega)) (fun i hi => by rw [wr_n (by decide), d3 i, if_pos (by omega)]; exact congrArg (s 141) (by omega))
theorem op_restore (hN : 700 ≤ N) (h : Inv2 σ s) : Res (F_X7_restore N 133 σ) (F_X8_restore N 140 s) σ s := by
  obtain ⟨h', ty, π, a1, a2, a3, a4, a5, a6, a7, a8, a9, a10, a11, a12⟩ := id h
  unfold F_X7_restore F_X8_restore
  rcases a7 with ⟨b1, b2⟩ | ⟨b1, b2, b3⟩
  · rw [b1, b2, if_pos rfl, if_pos rfl]
    exact Res.same h _
  · rw [b1, b2, if_neg n10, if_neg n10]
    obtain ⟨σ1, s1, r1, r2, r3, r4⟩ := record_n hN h
    obtain ⟨σ2, c1, c2, c3⟩ := copy_n (N := N) (a := 0) (b := 38) (σ := σ1) (by omega) (b3.frame (μ' := s 144) (fun j j1 j2 => r4.1 j (by omega)) (fun _ _ => rfl))
    obtain ⟨s2, d1, d2, d3⟩ := lays_n (N := N) (σ0 := s1) (a := 144) (b := 141) (oa := 0) (ob := 0) (by omega) (by decide) (by decide) (by decide) (by decide)
    have hS : SR σ2 0 (s2 141) 9999 := c3.mu (fun i hi => by rw [d3 i, if_pos (by omega), r4.2.2.1 144 (by decide) (by decide)]; exact congrArg (s 144) (by omega))
    rw [r1, bind_t, r2, bind_t, c1, bind_t, show F_X8_lays N (140 + 4) 0 (140 + 1) 0 s1 = some s2 from d1, bind_t]
    have hr : σ2 0 4 = s2 141 1 := by
      obtain ⟨n, e, t, g, l, mi, hmi, hx⟩ := hS
      exact hx.2.2.2.2.2.1.trans hx.2.2.2.2.1.symm
    exact Res.fin _ (by rw [hr]; rfl) rfl r3 r4 (fun j j1 j2 => c2 j (by omega)) (fun j j1 => d2 j (by omega)) hS
end OPS5
