/-! go, pay -/
section OPS3
variable {N : Nat} {σ s : HP}
def upi (k i : Nat) : Nat := if i < k then i else i + 1
theorem upi_l {k i : Nat} (h : i < k) : upi k i = i := if_pos h
theorem upi_g {k i : Nat} (h : k ≤ i) : upi k i = i + 1 := if_neg (by omega)
theorem upi_lt {k i n : Nat} (h : i < n - 1) : upi k i < n := by unfold upi; split <;> omega
theorem upi_ne {k i : Nat} : upi k i ≠ k := by unfold upi; split <;> omega
theorem upi_inj {k i j : Nat} (h : upi k i = upi k j) : i = j := by unfold upi at h; split at h <;> split at h <;> omega
theorem RowR.rem {q n e k : Nat} {σ σ' : HP} {μ μ' : Nat → Int32} (h : RowR σ q μ n e) (hk : k < n) (f : ¬ tgM μ k) (h6 : σ' q 6 = nI (n - 1)) (h7 : σ' q 7 = σ q 7)
    (hv : ∀ v, 1 ≤ v → v ≤ 6 → ∀ i, i < n - 1 → σ' (q + v) i = σ (q + v) (upi k i)) (m0 : μ' 0 = nI (n - 1)) (m10 : μ' 10 = μ 10)
    (hm : ∀ i v, i < n - 1 → v < 6 → μ' (12 + 6 * i + v) = μ (12 + 6 * upi k i + v)) : RowR σ' q μ' (n - 1) e := by
  have ht := (h.tg hk).mpr f
  obtain ⟨b1, b2, b3, b4, b5, b6, b7, b8, b9, b10⟩ := h
  have hm0 : ∀ i, i < n - 1 → μ' (12 + 6 * i) = μ (12 + 6 * upi k i) := fun i hi => hm i 0 hi (by decide)
  refine ⟨by omega, by omega, b3, m0, by rw [m10]; exact b5, h6, by rw [h7]; exact b7, fun i hi => ?_, fun i hi => ?_, fun i j hi hj z => ?_⟩
  · have := b8 _ (upi_lt (k := k) hi)
    unfold FlR at this ⊢
    rw [hv 1 (by omega) (by omega) i hi, hv 2 (by omega) (by omega) i hi, hv 3 (by omega) (by omega) i hi, hv 5 (by omega) (by omega) i hi, hv 6 (by omega) (by omega) i hi, hm0 i hi, hm i 1 hi (by decide), hm i 2 hi (by decide), hm i 4 hi (by decide), hm i 5 hi (by decide)]
    exact this
  · have := b9 _ (upi_lt (k := k) hi)
    have hne := upi_ne (k := k) (i := i)
    unfold MateR at this ⊢
    rw [hv 4 (by omega) (by omega) i hi, hm i 3 hi (by decide), hm i 4 hi (by decide)]
    rcases this with h | ⟨d1, d2, d3, d4, d5⟩ | ⟨d1, d2, j, d3, d4, d5⟩
    · exact Or.inl h
    · have hk1 : upi k i + 1 ≠ k := fun z => by rw [z, ht] at d4; exact absurd d4 (by decide)
      have hu : upi k (i + 1) = upi k i + 1 := by unfold upi at hk1 ⊢; split <;> split at hk1 <;> simp_all <;> omega
      have hi1 : i + 1 < n - 1 := by unfold upi at d3 hk1; split at d3 <;> simp_all <;> omega
      refine Or.inr (Or.inl ⟨d1, d2, hi1, ?_⟩)
      rw [hv 4 (by omega) (by omega) (i + 1) hi1, hm0 (i + 1) hi1, hm (i + 1) 4 hi1 (by decide), hu]
      exact ⟨d4, d5⟩
    · have hj : j ≠ k := fun z => by rw [z, ht] at d4; exact absurd d4 (by decide)
      obtain ⟨i', e1, e2⟩ : ∃ i', i = i' + 1 ∧ upi k i' = j := by
        by_cases c : i < k
        · rw [upi_l c] at d3
          exact ⟨j, d3, upi_l (by omega)⟩
        · rw [upi_g (by omega)] at d3
          exact ⟨i - 1, by omega, by rw [upi_g (by omega)]; omega⟩
      refine Or.inr (Or.inr ⟨d1, d2, i', e1, ?_⟩)
      rw [hv 4 (by omega) (by omega) i' (by omega), hm0 i' (by omega), hm i' 4 (by omega) (by decide), e2]
      exact ⟨d4, d5⟩
  · rw [hm0 i hi, hm0 j hj] at z
    exact upi_inj (b10 _ _ (upi_lt hi) (upi_lt hj) z)
theorem crem_l {q n k : Nat} {σ0 : HP} (hn : n ≤ 12) (hk : k < n) (h6 : σ0 q 6 = nI n) : ∀ (d i m : Nat) (σ : HP), i + d = n - 1 → d < m → k ≤ i → (∀ j, j < q + 1 ∨ q + 6 < j → σ j = σ0 j) →
    (∀ v, 1 ≤ v → v ≤ 6 → ∀ x, (x < i → σ (q + v) x = σ0 (q + v) (upi k x)) ∧ (x = i → σ (q + v) x = σ0 (q + v) k) ∧ (i < x → σ (q + v) x = σ0 (q + v) x)) →
    ∃ σ', L_X3_remove_2 N m q (nI i) σ = some σ' ∧ (∀ j, j < q ∨ q + 6 < j → σ' j = σ0 j) ∧ σ' q 6 = nI (n - 1) ∧ σ' q 7 = σ0 q 7 ∧ ∀ v, 1 ≤ v → v ≤ 6 → ∀ x, x < n - 1 → σ' (q + v) x = σ0 (q + v) (upi k x) := by
  intro d
  induction d with
  | zero =>
    intro i m σ hi hm hki ho hv
    obtain ⟨m, rfl⟩ : ∃ z, m = z + 1 := ⟨m - 1, by omega⟩
    rw [L_X3_remove_2, ho q (by omega), h6, if_pos (by rw [lep (by omega) (by omega)]; omega), bd_t, l1, sub_n (by omega)]
    refine ⟨_, rfl, fun j hj => ?_, ?_, ?_, fun v v1 v2 x hx => ?_⟩
    · rw [wr_n (by omega), ho j (by omega)]
    · rw [wr_s, upd_s]
    · rw [wr_s, upd_n (by decide), ho q (by omega)]
    · rw [wr_n (by omega), (hv v v1 v2 x).1 (by omega)]
  | succ d ih =>
    intro i m σ hi hm hki ho hv
    obtain ⟨m, rfl⟩ : ∃ z, m = z + 1 := ⟨m - 1, by omega⟩
    obtain ⟨σ1, a1, a2, a3⟩ := swe_n (N := N) (q := q) (k := i) (σ := σ) (by omega)
    rw [L_X3_remove_2, ho q (by omega), h6, if_neg (by rw [lep (by omega) (by omega)]; omega), a1, bind_t, nI_1]
    refine ih (i + 1) m σ1 (by omega) (by omega) (by omega) (fun j hj => by rw [a2 j hj, ho j hj]) (fun v v1 v2 x => ?_)
    rw [a3 v v1 v2 x]
    refine ⟨fun hx => ?_, fun hx => ?_, fun hx => ?_⟩
    · by_cases c : x = i
      · rw [c, show tr i i = i + 1 by unfold tr; simp, ((hv v v1 v2 (i + 1)).2.2 (by omega)), upi_g (by omega)]
      · rw [show tr i x = x by unfold tr; rw [if_neg c, if_neg (by omega)], (hv v v1 v2 x).1 (by omega)]
    · rw [hx, show tr i (i + 1) = i by unfold tr; rw [if_neg (by omega), if_pos rfl], (hv v v1 v2 i).2.1 rfl]
    · rw [show tr i x = x by unfold tr; rw [if_neg (by omega), if_neg (by omega)], (hv v v1 v2 x).2.2 (by omega)]
theorem mgo_l {n k : Nat} {s0 : HP} (hn : n ≤ 12) (hk : k < n) (h0 : s0 141 0 = nI (n - 1)) : ∀ (d i m : Nat) (s : HP), i + d = 12 + 6 * (n - 1) → d < m → 12 + 6 * k ≤ i → (∀ j, j ≠ 141 → s j = s0 j) → (∀ x, s 141 x = if 12 + 6 * k ≤ x ∧ x < i then s0 141 (x + 6) else s0 141 x) →
    ∃ s', L_X8_go_47 N m 140 (nI i) s = some (nI (n - 1), s') ∧ (∀ j, j ≠ 141 → s' j = s0 j) ∧ ∀ x, s' 141 x = if 12 + 6 * k ≤ x ∧ x < 12 + 6 * (n - 1) then s0 141 (x + 6) else s0 141 x := by
  intro d
  induction d with
  | zero =>
    intro i m s hi hm hki ho hv
    obtain ⟨m, rfl⟩ : ∃ z, m = z + 1 := ⟨m - 1, by omega⟩
    have hs0 : s 141 0 = nI (n - 1) := by rw [hv, if_neg (by omega)]; exact h0
    rw [L_X8_go_47, show s (140 + 1) (ix 0) = nI (n - 1) from hs0, l12, l6, pk_mul, nI_add, if_pos (by rw [le_n (by omega) (by omega)]; omega)]
    exact ⟨s, rfl, ho, fun x => by rw [hv x, show i = 12 + 6 * (n - 1) by omega]⟩
  | succ d ih =>
    intro i m s hi hm hki ho hv
    obtain ⟨m, rfl⟩ : ∃ z, m = z + 1 := ⟨m - 1, by omega⟩
    have hs0 : s 141 0 = nI (n - 1) := by rw [hv, if_neg (by omega)]; exact h0
    rw [L_X8_go_47, show s (140 + 1) (ix 0) = nI (n - 1) from hs0, l12, l6, pk_mul, nI_add, if_neg (by rw [le_n (by omega) (by omega)]; omega)]
    simp (disch := omega) only [nI_add, in_n, gd_True, ix_n, bd_t, nI_1]
    refine ih (i + 1) m _ (by omega) (by omega) (by omega) (fun j hj => by rw [wr_n hj, ho j hj]) (fun x => ?_)
    rw [show (140 + 1 : Nat) = 141 from rfl, wr_s]
    by_cases c : x = i
    · rw [c, upd_s, if_pos (by omega), hv, if_neg (by omega)]
    · rw [upd_n c, hv]
      by_cases c2 : 12 + 6 * k ≤ x ∧ x < i
      · rw [if_pos c2, if_pos (by omega)]
      · rw [if_neg c2, if_neg (by omega)]
theorem op_go (hN : 700 ≤ N) (h : Inv2 σ s) (a : Int32) : Res (F_X7_go N 133 a σ) (F_X8_go N 140 a s) σ s := by
  obtain ⟨-, -, -, ⟨n, e, t, g, l, mi, hmi, hx⟩, -⟩ := id h
  have hn := hx.1.1
  unfold F_X7_go F_X8_go
  rcases place_c (N := N) (σ := σ) 1 hn hx.1.2.2.2.2.2.1 a with ⟨p1, p2⟩ | ⟨p1, k, hk, rfl⟩
  · rcases place_m (N := N) hn hx.1.2.2.2.1 a with ⟨q1, q2⟩ | ⟨q1, q2⟩
    · rw [show F_X3_hasPlace N (0 + 1) a σ = _ from p1, q1, bind_t, bind_t, if_pos rfl, if_pos rfl]; exact Res.same h _
    · exact absurd q2 p2
  · rcases place_m (N := N) hn hx.1.2.2.2.1 (nI k) with ⟨q1, q2⟩ | ⟨q1, q2⟩
    · exact absurd ⟨k, hk, rfl⟩ q2
    · rw [show F_X3_hasPlace N (0 + 1) (nI k) σ = _ from p1, q1, bind_t, bind_t, if_neg n10, if_neg n10, cTangled_n hx.1 hk, bind_t, show F_X8_isTangled N (140 + 1) (nI k) s = _ from isTangled_n (by omega), bind_t]
      by_cases f : tgM (s 141) k
      · rw [bI_t f, if_neg n10, if_neg n10]; exact Res.same h _
      · rw [bI_f f, if_pos rfl, if_pos rfl]
        obtain ⟨σ1, s1, r1, r2, r3, r4⟩ := record_n hN h
        have hx1 := now_rec hx r4
        have hs1 : s1 141 = s 141 := r4.2.2.1 141 (by decide) (by decide)
        obtain ⟨hR, hPl, hLg, hW, hSc⟩ := hx1
        rw [← hs1] at f
        obtain ⟨σ', a1, a2, a3, a4, a5⟩ := crem_l (N := N) (q := 1) (σ0 := σ1) hn hk hR.2.2.2.2.2.1 (n - 1 - k) k N σ1 (by omega) (by omega) (Nat.le_refl _) (fun _ _ => rfl) (fun v v1 v2 x => ⟨fun hx => by rw [upi_l hx], fun hx => by rw [hx], fun _ => rfl⟩)
        have h0 : s1 141 0 = nI n := hR.2.2.2.1
        have hw : ∀ x, x ≠ 0 → (wr s1 141 0 (nI (n - 1))) 141 x = s1 141 x := fun x hx => by rw [wr_s, upd_n hx]
        obtain ⟨s', b1, b2, b3⟩ := mgo_l (N := N) (n := n) (k := k) (s0 := wr s1 141 0 (nI (n - 1))) hn hk (by rw [wr_s, upd_s]) (6 * (n - 1 - k)) (12 + 6 * k) N (wr s1 141 0 (nI (n - 1))) (by omega) (by omega) (Nat.le_refl _) (fun _ _ => rfl) (fun x => by rw [if_neg (by omega)])
        have hb3 : ∀ x, x ≠ 0 → s' 141 x = if 12 + 6 * k ≤ x ∧ x < 12 + 6 * (n - 1) then s1 141 (x + 6) else s1 141 x := fun x hx => by rw [b3 x, hw x hx, hw (x + 6) (by omega)]
        have hb0 : s' 141 0 = nI (n - 1) := by rw [b3, if_neg (by omega), wr_s, upd_s]
        have hbo : ∀ x, x ≠ 0 → (x < 12 ∨ 84 ≤ x) → s' 141 x = s1 141 x := fun x h1 h2 => by rw [hb3 x h1, if_neg (by omega)]
        unfold F_X3_remove
        rw [r1, bind_t, r2, bind_t, show L_X3_remove_2 N N (0 + 1) (nI k) σ1 = _ from a1, bind_t, show s1 (140 + 1) (ix 0) = nI n from h0, l1, sub_n (by omega), bd_t, l12, l6, pk_mul, nI_add, bd_t,
          show L_X8_go_47 N N 140 (nI (12 + 6 * k)) (wr s1 (140 + 1) (ix 0) (nI (n - 1))) = _ from b1, show σ' (0 + 1) 6 = nI (n - 1) from a3]
        refine Res.fin _ rfl rfl r3 r4 (fun j j1 j2 => a2 j (by omega)) (fun j j1 => by rw [b2 j (by omega), wr_n (by omega)]) ⟨n - 1, e, t, g, l, mi, hmi, hR.rem hk f a3 a4 a5 hb0 (hbo 10 (by decide) (by decide)) (fun i v hi hv => ?_), hPl.congr (fun j j1 j2 => a2 j (by omega)) (hbo 6 (by decide) (by decide)) (fun x x1 x2 => hbo x (by omega) (by omega)), hLg.congr (fun j j1 j2 => a2 j (by omega)) (hbo 9 (by decide) (by decide)) (hbo 11 (by decide) (by decide)) (fun x x1 x2 => hbo x (by omega) (by omega)), hW.congr (fun j j1 j2 => a2 j (by omega)) (hbo 7 (by decide) (by decide)) (fun x x1 x2 => hbo x (by omega) (by omega)), hSc.congr (a2 0 (by omega)) (fun x x1 x2 _ _ => hbo x (by omega) (by omega))⟩
        rw [hb3 _ (by omega)]
        by_cases c : i < k
        · rw [if_neg (by omega), upi_l c]
        · rw [if_pos (by omega), upi_g (by omega)]
          exact congrArg (s1 141) (by omega)
/-- one flier's line is another length -/
theorem RowR.pay {q n e k : Nat} {b : Int32} {σ σ' : HP} {μ μ' : Nat → Int32} (h : RowR σ q μ n e) (hk : k < n) (hb : bn b 1 9) (ho : ∀ j, j ≠ q + 3 → q ≤ j → j ≤ q + 6 → σ' j = σ j) (h3 : ∀ i, σ' (q + 3) i = if i = k then b else σ (q + 3) i)
    (hm : ∀ x, x < 84 → μ' x = if x = 12 + 6 * k + 2 then b else μ x) : RowR σ' q μ' n e := by
  obtain ⟨b1, b2, b3, b4, b5, b6, b7, b8, b9, b10⟩ := h
  have hm0 : ∀ i, i < n → μ' (12 + 6 * i) = μ (12 + 6 * i) := fun i hi => by rw [hm _ (by omega), if_neg (by omega)]
  have hmv : ∀ i v, i < n → v < 6 → v ≠ 2 → μ' (12 + 6 * i + v) = μ (12 + 6 * i + v) := fun i v hi hv h2 => by rw [hm _ (by omega), if_neg (by omega)]
  refine ⟨b1, b2, b3, by rw [hm 0 (by omega), if_neg (by omega)]; exact b4, by rw [hm 10 (by omega), if_neg (by omega)]; exact b5, by rw [ho q (by omega) (by omega) (by omega)]; exact b6, by rw [ho q (by omega) (by omega) (by omega)]; exact b7, fun i hi => ?_, fun i hi => ?_, fun i j hi hj z => ?_⟩
  · have := b8 i hi
    unfold FlR at this ⊢
    rw [ho (q + 1) (by omega) (by omega) (by omega), ho (q + 2) (by omega) (by omega) (by omega), ho (q + 5) (by omega) (by omega) (by omega), ho (q + 6) (by omega) (by omega) (by omega), h3 i, hm0 i hi, hmv i 1 hi (by decide) (by decide), hmv i 4 hi (by decide) (by decide), hmv i 5 hi (by decide) (by decide), hm (12 + 6 * i + 2) (by omega)]
    by_cases c : i = k
    · rw [if_pos c, if_pos (by omega)]
      exact ⟨this.1, this.2.1, rfl, this.2.2.2.1, this.2.2.2.2.1, this.2.2.2.2.2.1, hb, this.2.2.2.2.2.2.2⟩
    · rw [if_neg c, if_neg (by omega)]
      exact this
  · have := b9 i hi
    unfold MateR at this ⊢
    rw [ho (q + 4) (by omega) (by omega) (by omega), hmv i 3 hi (by decide) (by decide), hmv i 4 hi (by decide) (by decide)]
    rcases this with h | ⟨d1, d2, d3, d4⟩ | ⟨d1, d2, j, d3, d4⟩
    · exact Or.inl h
    · refine Or.inr (Or.inl ⟨d1, d2, d3, ?_⟩)
      rw [hm0 (i + 1) d3, hmv (i + 1) 4 d3 (by decide) (by decide)]
      exact d4
    · refine Or.inr (Or.inr ⟨d1, d2, j, d3, ?_⟩)
      rw [hm0 j (by omega), hmv j 4 (by omega) (by decide) (by decide)]
      exact d4
  · rw [hm0 i hi, hm0 j hj] at z
    exact b10 i j hi hj z
theorem op_pay (hN : 700 ≤ N) (h : Inv2 σ s) (a b : Int32) : Res (F_X7_pay N 133 a b σ) (F_X8_pay N 140 a b s) σ s := by
  obtain ⟨-, -, -, ⟨n, e, t, g, l, mi, hmi, hx⟩, -⟩ := id h
  have hn := hx.1.1
  unfold F_X7_pay F_X8_pay
  rcases place_c (N := N) (σ := σ) 1 hn hx.1.2.2.2.2.2.1 a with ⟨p1, p2⟩ | ⟨p1, k, hk, rfl⟩
  · rcases place_m (N := N) hn hx.1.2.2.2.1 a with ⟨q1, q2⟩ | ⟨q1, q2⟩
    · rw [show F_X3_hasPlace N (0 + 1) a σ = _ from p1, q1, bind_t, bind_t, if_pos rfl, if_pos rfl]; exact Res.same h _
    · exact absurd q2 p2
  · rcases place_m (N := N) hn hx.1.2.2.2.1 (nI k) with ⟨q1, q2⟩ | ⟨q1, q2⟩
    · exact absurd ⟨k, hk, rfl⟩ q2
    · rw [show F_X3_hasPlace N (0 + 1) (nI k) σ = _ from p1, q1, bind_t, bind_t, if_neg n10, if_neg n10, cwi, mwi, bind_t, bind_t]
      rcases wi_or b 1 9 with d | ⟨d, d1, d2⟩
      · rw [d, if_pos rfl, if_pos rfl]; exact Res.same h _
      · rw [d, if_neg n10, if_neg n10, l2, show F_X8_of N (140 + 1) (nI k) (nI 2) s = some (s 141 (12 + 6 * k + 2)) from of_n (by omega) (by decide), bind_t]
        have hc3 : σ 4 k = s 141 (12 + 6 * k + 2) := (hx.1.2.2.2.2.2.2.2.1 k hk).2.2.1
        simp (disch := omega) only [in_n, gd_True, ix_n, bd_t]
        rw [show σ (0 + 1 + 3) k = _ from hc3]
        by_cases f : s 141 (12 + 6 * k + 2) = b
        · rw [if_pos f, if_pos f]; exact Res.same h _
        · rw [if_neg f, if_neg f]
          obtain ⟨σ1, s1, r1, r2, r3, r4⟩ := record_n hN h
          have hx1 := now_rec hx r4
          obtain ⟨hR, hPl, hLg, hW, hSc⟩ := hx1
          rw [r1, bind_t, r2, bind_t, show F_X8_puts N (140 + 1) (nI k) (nI 2) b s1 = some (wr s1 141 (12 + 6 * k + 2) b) from puts_n (by omega) (by decide), bind_t]
          have hc : ∀ j, j ≠ 4 → (wr σ1 (0 + 1 + 3) k b) j = σ1 j := fun j hj => wr_n hj
          have hm : ∀ x, (wr s1 141 (12 + 6 * k + 2) b) 141 x = if x = 12 + 6 * k + 2 then b else s1 141 x := fun x => by
            rw [wr_s]
            by_cases c : x = 12 + 6 * k + 2
            · rw [c, upd_s, if_pos rfl]
            · rw [upd_n c, if_neg c]
          have ho : ∀ x, x < 12 ∨ 84 ≤ x → (wr s1 141 (12 + 6 * k + 2) b) 141 x = s1 141 x := fun x hx => by rw [hm x, if_neg (by omega)]
          refine Res.fin _ rfl rfl r3 r4 (fun j j1 j2 => hc j (by omega)) (fun j j1 => wr_n (by omega)) ⟨n, e, t, g, l, mi, hmi, hR.pay hk (wi_bn (lo := 1) (hi := 9) (by decide) d1 d2 (by decide)) (fun j j1 j2 j3 => hc j (by omega)) (fun i => ?_) (fun x _ => hm x), hPl.congr (fun j j1 j2 => hc j (by omega)) (ho 6 (by decide)) (fun x x1 x2 => ho x (by omega)), hLg.congr (fun j j1 j2 => hc j (by omega)) (ho 9 (by decide)) (ho 11 (by decide)) (fun x x1 x2 => ho x (by omega)), hW.congr (fun j j1 j2 => hc j (by omega)) (ho 7 (by decide)) (fun x x1 x2 => ho x (by omega)), hSc.congr (hc 0 (by decide)) (fun x x1 x2 _ _ => ho x (by omega))⟩
          rw [wr_s]
          by_cases c : i = k
          · rw [c, upd_s, if_pos rfl]
          · rw [upd_n c, if_neg c]
end OPS3
