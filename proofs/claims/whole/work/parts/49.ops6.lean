/-! want -/
section OPS6
variable {N : Nat} {σ s : HP}
theorem wf_l {ty : Nat} (hty : ty ≤ 60) (c9 : σ 133 9 = nI ty) (m7 : s 140 7 = nI ty) (tx : ∀ k, k < ty → σ 135 k = s 145 k) : ∀ (d i m m' : Nat), i + d = ty → d < m → d < m' →
    (L_X7_wordFault_2 N σ m 133 (nI i) = some (-1) ∧ L_X8_wordFault_2 N s m' 140 (nI i) = some (-1000005) ∧ 0 < ty ∧ (i ≤ 12 → ty ≤ 12)) ∨ ∃ j, j ≤ 60 ∧ L_X7_wordFault_2 N σ m 133 (nI i) = some (nI j) ∧ L_X8_wordFault_2 N s m' 140 (nI i) = some (nI j) := by
  intro d
  induction d with
  | zero =>
    intro i m m' hi hm hm'
    obtain ⟨m, rfl⟩ : ∃ z, m = z + 1 := ⟨m - 1, by omega⟩
    obtain ⟨m', rfl⟩ : ∃ z, m' = z + 1 := ⟨m' - 1, by omega⟩
    obtain rfl : i = ty := by omega
    have hle : nI i ≤ nI i := by rw [le_n (by omega) (by omega)]; exact Nat.le_refl _
    rw [L_X7_wordFault_2, L_X8_wordFault_2, c9, m7, if_pos hle, if_pos hle]
    unfold J_X8_wordFault_38
    rw [m7, if_pos (show nI i = nI i from rfl)]
    by_cases c : i = 0
    · have hz : nI i ≤ 0 := by rw [c]; decide
      rw [if_pos hz, if_pos hz]
      exact Or.inr ⟨i, hty, by rw [c]; rfl, rfl⟩
    · have hz : ¬ nI i ≤ 0 := by rw [l0, le_n (by omega) (by omega)]; omega
      rw [if_neg hz, if_neg hz]
      exact Or.inl ⟨rfl, rfl, by omega, fun z => z⟩
  | succ d ih =>
    intro i m m' hi hm hm'
    obtain ⟨m, rfl⟩ : ∃ z, m = z + 1 := ⟨m - 1, by omega⟩
    obtain ⟨m', rfl⟩ : ∃ z, m' = z + 1 := ⟨m' - 1, by omega⟩
    have hle : ¬ nI ty ≤ nI i := by rw [le_n (by omega) (by omega)]; omega
    have hJ : J_X8_wordFault_38 N 140 (nI i) s = some (nI i) := by
      unfold J_X8_wordFault_38
      rw [m7, if_neg (show ¬ nI i = nI ty by rw [eq_n (by omega) (by omega)]; omega)]
    rw [L_X7_wordFault_2, L_X8_wordFault_2, c9, m7, if_neg hle, if_neg hle, hJ]
    by_cases c : 12 ≤ i
    · have hz : 12 ≤ nI i := by rw [l12, le_n (by omega) (by omega)]; exact c
      rw [if_pos hz, if_pos hz]
      exact Or.inr ⟨i, by omega, rfl, rfl⟩
    · have hz : ¬ 12 ≤ nI i := by rw [l12, le_n (by omega) (by omega)]; exact c
      rw [if_neg hz, if_neg hz]
      simp (disch := omega) only [l60, in_n, gd_True, ix_n]
      rw [show s (140 + 5) i = σ 135 i from (tx i (by omega)).symm, clet, mwi, bind_t, bind_t, nI_1]
      rcases wi_or (σ 135 i) 97 122 with z | ⟨z, -⟩
      · rw [z, if_pos rfl, if_pos rfl]
        exact Or.inr ⟨i, by omega, rfl, rfl⟩
      · rw [z, if_neg n10, if_neg n10]
        rcases ih (i + 1) m m' (by omega) (by omega) (by omega) with ⟨a1, a2, a3, a4⟩ | q
        · exact Or.inl ⟨a1, a2, a3, fun _ => a4 (by omega)⟩
        · exact Or.inr q
theorem same_l {l : Nat} (hW : WordR σ 17 (s 141) l) (m7 : s 140 7 = nI l) (tx : ∀ k, k < l → σ 135 k = s 145 k) : ∀ (d i m m' : Nat), i + d = l → d < m → d + 1 < m' →
    ∃ r, (r = 0 ∨ r = 1) ∧ L_X6_isSame_12 N σ m 17 135 (nI i) = some r ∧ L_X8_isWord_22 N s m' 140 1 (nI i) = some r := by
  have hl := hW.1
  intro d
  induction d with
  | zero =>
    intro i m m' hi hm hm'
    obtain ⟨m, rfl⟩ : ∃ z, m = z + 1 := ⟨m - 1, by omega⟩
    obtain ⟨m', rfl⟩ : ∃ z, m' = z + 1 := ⟨m' - 1, by omega⟩
    have hle : nI l ≤ nI i := by rw [le_n (by omega) (by omega)]; omega
    rw [L_X6_isSame_12, L_X8_isWord_22, hW.2.2.1, m7, if_pos hle, if_pos hle, gd_t (Or.inr rfl)]
    exact ⟨1, Or.inr rfl, rfl, rfl⟩
  | succ d ih =>
    intro i m m' hi hm hm'
    obtain ⟨m, rfl⟩ : ∃ z, m = z + 1 := ⟨m - 1, by omega⟩
    obtain ⟨m', rfl⟩ : ∃ z, m' = z + 1 := ⟨m' - 1, by omega⟩
    have hle : ¬ nI l ≤ nI i := by rw [le_n (by omega) (by omega)]; omega
    rw [L_X6_isSame_12, L_X8_isWord_22, hW.2.2.1, m7, if_neg hle, if_neg hle, if_neg n10, l108, nI_add]
    simp (disch := omega) only [in_n, gd_True, ix_n]
    rw [show σ (17 + 1) i = s 141 (108 + i) from hW.2.2.2.1 i (by omega), show s (140 + 1) (108 + i) = s 141 (108 + i) from rfl, tx i (by omega), show s (140 + 5) i = s 145 i from rfl, nI_1]
    by_cases c : s 141 (108 + i) = s 145 i
    · rw [if_pos c, if_pos c]
      exact ih (i + 1) m m' (by omega) (by omega) (by omega)
    · rw [if_neg c, if_neg c]
      refine ⟨0, Or.inl rfl, rfl, ?_⟩
      obtain ⟨m', rfl⟩ : ∃ z, m' = z + 1 := ⟨m' - 1, by omega⟩
      rw [L_X8_isWord_22, gd_t (Or.inl rfl), if_pos rfl]
      split <;> rfl
theorem mwant_l {ty : Nat} {s0 : HP} (hty : ty ≤ 12) (m7 : s0 140 7 = nI ty) : ∀ (d i m : Nat) (s : HP), i + d = 12 → d < m → (∀ j, j ≠ 141 → s j = s0 j) → (∀ x, (x < 108 ∨ 108 + i ≤ x) → s 141 x = s0 141 x) → (∀ k, k < i → k < ty → s 141 (108 + k) = s0 145 k) →
    ∃ s', L_X8_want_32 N m 140 (nI i) s = some (nI ty, s') ∧ (∀ j, j ≠ 141 → s' j = s0 j) ∧ s' 141 7 = nI ty ∧ (∀ x, (x < 108 ∨ 120 ≤ x) → x ≠ 7 → s' 141 x = s0 141 x) ∧ ∀ k, k < ty → s' 141 (108 + k) = s0 145 k := by
  intro d
  induction d with
  | zero =>
    intro i m s hi hm ho hx hk
    obtain ⟨m, rfl⟩ : ∃ z, m = z + 1 := ⟨m - 1, by omega⟩
    obtain rfl : i = 12 := by omega
    rw [L_X8_want_32, if_pos (by decide), show s 140 7 = nI ty by rw [ho 140 (by decide)]; exact m7, bd_t]
    refine ⟨wr s 141 7 (nI ty), ?_, fun j hj => by rw [wr_n hj, ho j hj], by rw [wr_s, upd_s], fun x h1 h2 => by rw [wr_s, upd_n h2, hx x (by omega)], fun k hk' => by rw [wr_s, upd_n (by omega), hk k (by omega) hk']⟩
    show some ((wr s 141 7 (nI ty)) 140 7, wr s 141 7 (nI ty)) = _
    rw [wr_n (by decide), ho 140 (by decide), m7]
  | succ d ih =>
    intro i m s hi hm ho hx hk
    obtain ⟨m, rfl⟩ : ∃ z, m = z + 1 := ⟨m - 1, by omega⟩
    have h7 : s 140 7 = nI ty := by rw [ho 140 (by decide)]; exact m7
    have hJ : ∀ v, J_X8_want_64 (L_X8_want_32 N m) N 140 (nI i) (140 + 1) (108 + nI i) v s = L_X8_want_32 N m 140 (nI (i + 1)) (wr s 141 (108 + i) v) := fun v => by
      unfold J_X8_want_64
      rw [l108, nI_add, nI_1]
      simp (disch := omega) only [in_n, gd_True, ix_n, bd_t]
    rw [L_X8_want_32, if_neg (by rw [l12, le_n (by omega) (by omega)]; omega), h7, hJ, hJ, show s (140 + 5) (ix (nI i)) = s0 145 i by rw [ix_n (by omega)]; exact congrFun (ho 145 (by decide)) i]
    have step : ∀ v, (i < ty → v = s0 145 i) → ∃ s', L_X8_want_32 N m 140 (nI (i + 1)) (wr s 141 (108 + i) v) = some (nI ty, s') ∧ (∀ j, j ≠ 141 → s' j = s0 j) ∧ s' 141 7 = nI ty ∧ (∀ x, (x < 108 ∨ 120 ≤ x) → x ≠ 7 → s' 141 x = s0 141 x) ∧ ∀ k, k < ty → s' 141 (108 + k) = s0 145 k := fun v hv => by
      refine ih (i + 1) m _ (by omega) (by omega) (fun j hj => by rw [wr_n hj, ho j hj]) (fun x h1 => by rw [wr_s, upd_n (by omega), hx x (by omega)]) (fun k k1 k2 => ?_)
      rw [wr_s]
      by_cases c : k = i
      · rw [c, upd_s, hv (by omega)]
      · rw [upd_n (by omega), hk k (by omega) k2]
    by_cases c : ty ≤ i
    · rw [if_pos (by rw [le_n (by omega) (by omega)]; exact c)]
      exact step 0 (fun z => by omega)
    · rw [if_neg (by rw [le_n (by omega) (by omega)]; exact c)]
      simp (disch := omega) only [l60, in_n, gd_True]
      exact step _ (fun _ => rfl)
theorem op_want (hN : 700 ≤ N) (h : Inv2 σ s) : Res (F_X7_want N 133 σ) (F_X8_want N 140 s) σ s := by
  obtain ⟨h', ty, π, ⟨n, e, t, g, l, mi, hmi, hx⟩, -, -, -, -, -, -, hty, c9, m7, tx, tf⟩ := id h
  have hW := hx.2.2.2.1
  have hl := hW.1
  unfold F_X7_want F_X8_want F_X7_wordFault F_X8_wordFault
  rcases wf_l (N := N) hty c9 m7 tx ty 0 N N (by omega) (by omega) (by omega) with ⟨a1, a2, a3, a4⟩ | ⟨j, j1, a1, a2⟩
  · have h12 := a4 (by omega)
    rw [show L_X7_wordFault_2 N σ N 133 0 = _ from a1, show L_X8_wordFault_2 N s N 140 0 = _ from a2, bind_t, bind_t, if_pos rfl, if_pos rfl]
    have key : Res ((F_X7_record N 133 σ).bind (fun σ28 => (F_X6_become N (0 + 17) 135 (σ28 133 9) σ28).bind (fun σ30 => some ((σ30 (0 + 17) 1), σ30)))) ((F_X8_records N 140 s).bind (fun σ28 => L_X8_want_32 N N 140 0 σ28)) σ s := by
      obtain ⟨σ1, s1, r1, r2, r3, r4⟩ := record_n hN h
      have hx1 := now_rec hx r4
      obtain ⟨hR, hPl, hLg, hW1, hSc⟩ := hx1
      have c9' : σ1 133 9 = nI ty := by rw [r4.2.1 9 (by decide)]; exact c9
      have m7' : s1 140 7 = nI ty := by rw [r4.2.2.2 7 (by decide)]; exact m7
      have tx' : ∀ k, k < ty → σ1 135 k = s1 145 k := fun k hk => by rw [r4.1 135 (by omega), r4.2.2.1 145 (by decide) (by decide)]; exact tx k hk
      have tf' : ∀ k, k < 60 → fits .char (.int (σ1 135 k)) = true := fun k hk => by rw [r4.1 135 (by omega)]; exact tf k hk
      obtain ⟨s', b1, b2, b3, b4, b5⟩ := mwant_l (N := N) (s0 := s1) h12 m7' 12 0 N s1 (by omega) (by omega) (fun _ _ => rfl) (fun _ _ => rfl) (fun k hk => by omega)
      have hmin : (if 12 < nI ty then 12 else nI ty : Int32) = nI ty := if_neg (by rw [l12, lt_n (by omega) (by omega)]; omega)
      unfold F_X6_become
      rw [r1, bind_t, r2, bind_t, show L_X8_want_32 N N 140 0 s1 = _ from b1, c9', hmin, bd_t, wr_s, upd_s, ix_n (by omega), show ix 0 = 0 from rfl]
      rw [gd_t ⟨by rw [l0, lt_n (by omega) (by omega)]; omega, by omega, by omega⟩, gd_t (fun i hi => by rw [wr_n (by decide), Nat.zero_add]; exact tf' i (by omega)), bd_t, bind_t]
      rw [show (wr σ1 (0 + 17) 1 (nI ty)) 135 = σ1 135 from wr_n (by decide), show (wr σ1 (0 + 17) 1 (nI ty)) (0 + 17 + 1) = σ1 18 from wr_n (by decide)]
      generalize hσ' : wrA (wr σ1 (0 + 17) 1 (nI ty)) (0 + 17 + 1) (va_cpy (σ1 135) (σ1 18) 0 0 ty) = σ'
      have q1 : σ' 17 1 = nI ty := by rw [← hσ', wrA_n (by decide), wr_s, upd_s]
      have qo : ∀ j, j ≠ 17 → j ≠ 18 → σ' j = σ1 j := fun j h1 h2 => by rw [← hσ', wrA_n (by omega), wr_n (by omega)]
      have q8 : σ' 18 = va_cpy (σ1 135) (σ1 18) 0 0 ty := by rw [← hσ']; exact wrA_s
      have hwv : ∀ k, k < ty → σ' 18 k = σ1 135 k := fun k hk => by rw [q8, cpy_in hk]
      rw [show σ' (0 + 17) 1 = _ from q1]
      refine Res.fin _ rfl rfl r3 r4 (fun j j1 j2 => qo j (by omega) (by omega)) (fun j j1 => b2 j (by omega)) ⟨n, e, t, g, ty, mi, hmi, hR.congr (fun j j1 j2 => qo j (by omega) (by omega)) (b4 0 (by decide) (by decide)) (b4 10 (by decide) (by decide)) (fun i i1 i2 => b4 i (by omega) (by omega)), hPl.congr (fun j j1 j2 => qo j (by omega) (by omega)) (b4 6 (by decide) (by decide)) (fun i i1 i2 => b4 i (by omega) (by omega)), hLg.congr (fun j j1 j2 => qo j (by omega) (by omega)) (b4 9 (by decide) (by decide)) (b4 11 (by decide) (by decide)) (fun i i1 i2 => b4 i (by omega) (by omega)), ⟨h12, b3, q1, fun k hk => ?_, fun k hk => ?_⟩, hSc.congr (qo 0 (by decide) (by decide)) (fun i i1 i2 i3 i4 => b4 i (by omega) i4)⟩
      · rw [b5 k hk]
        exact (hwv k hk).trans (tx' k hk)
      · rcases Nat.lt_or_ge k ty with c | c
        · rw [show (0 + 17 + 1 : Nat) = 18 from rfl, hwv k c]
          exact tf' k (by omega)
        · rw [show (0 + 17 + 1 : Nat) = 18 from rfl, q8, pk_cpy_out (by omega)]
          exact hW1.2.2.2.2 k hk
    unfold F_X6_isSame F_X8_isWord J_X8_isWord_19
    rw [c9, m7, show σ (0 + 17) 1 = nI l from hW.2.2.1, show s (140 + 1) (ix 7) = nI l from hW.2.1]
    by_cases c : l = ty
    · subst c
      rw [if_pos (show nI l = nI l from rfl), if_pos (show nI l = nI l from rfl)]
      obtain ⟨r, hr, b1, b2⟩ := same_l (N := N) hW m7 tx l 0 N N (by omega) (by omega) (by omega)
      rw [show L_X6_isSame_12 N σ N (0 + 17) 135 0 = some r from b1, show L_X8_isWord_22 N s N 140 1 0 = some r from b2, bind_t, bind_t]
      rcases hr with rfl | rfl
      · rw [if_pos rfl, if_pos rfl]
        exact key
      · rw [if_neg n10, if_neg n10]
        exact Res.same h _
    · have hne : ¬ nI l = nI ty := by rw [eq_n (by omega) (by omega)]; exact c
      rw [if_neg hne, if_neg hne, bind_t, if_pos rfl]
      obtain ⟨m, rfl⟩ : ∃ z, N = z + 1 := ⟨N - 1, by omega⟩
      rw [L_X8_isWord_22, gd_t (Or.inl rfl), if_pos (rfl : (0 : Int32) = 0), ite_self, bind_t, if_pos rfl]
      exact key
  · rw [show L_X7_wordFault_2 N σ N 133 0 = _ from a1, show L_X8_wordFault_2 N s N 140 0 = _ from a2, bind_t, bind_t, if_neg (nne_one (by omega)), if_neg (nne_none (by omega))]
    exact Res.same h _
end OPS6
