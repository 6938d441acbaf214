/-! planTurn, dropTurn -/
section OPS4
variable {N : Nat} {σ s : HP}
theorem turn_miss {t : Nat} {a : Int32} (ht : t ≤ 8) (h6 : s 141 6 = nI t) : ∀ (d i m : Nat) (a2 : Int32), i + d = t → d < m → (∀ k, i ≤ k → k < t → s 141 (84 + 3 * k) ≠ a) → L_X8_turnAt_5 N s m 140 a a2 (nI i) = some a2 := by
  intro d
  induction d with
  | zero =>
    intro i m a2 hi hm _
    obtain ⟨m, rfl⟩ : ∃ z, m = z + 1 := ⟨m - 1, by omega⟩
    rw [L_X8_turnAt_5, show s (140 + 1) (ix 6) = nI t from h6, if_pos (by rw [le_n (by omega) (by omega)]; omega)]
  | succ d ih =>
    intro i m a2 hi hm ha
    obtain ⟨m, rfl⟩ : ∃ z, m = z + 1 := ⟨m - 1, by omega⟩
    rw [L_X8_turnAt_5, show s (140 + 1) (ix 6) = nI t from h6, if_neg (by rw [le_n (by omega) (by omega)]; omega)]
    simp (disch := omega) only [l84, l3, pk_mul, nI_add, in_n, gd_True, ix_n, nI_1]
    rw [show s (140 + 1) (84 + 3 * i) = s 141 (84 + 3 * i) from rfl, if_neg (ha i (Nat.le_refl _) (by omega))]
    exact ih (i + 1) m a2 (by omega) (by omega) (fun k k1 k2 => ha k (by omega) k2)
theorem turn_hit {t rk : Nat} {a : Int32} (ht : t ≤ 8) (h6 : s 141 6 = nI t) (hrk : rk < t) (ha : s 141 (84 + 3 * rk) = a) (hu : ∀ k, k < t → k ≠ rk → s 141 (84 + 3 * k) ≠ a) : ∀ (d i m : Nat) (a2 : Int32), i + d = rk → t + 1 < m + i → L_X8_turnAt_5 N s m 140 a a2 (nI i) = some (nI rk) := by
  intro d
  induction d with
  | zero =>
    intro i m a2 hi hm
    obtain ⟨m, rfl⟩ : ∃ z, m = z + 1 := ⟨m - 1, by omega⟩
    obtain rfl : i = rk := by omega
    rw [L_X8_turnAt_5, show s (140 + 1) (ix 6) = nI t from h6, if_neg (by rw [le_n (by omega) (by omega)]; omega)]
    simp (disch := omega) only [l84, l3, pk_mul, nI_add, in_n, gd_True, ix_n, nI_1]
    rw [show s (140 + 1) (84 + 3 * i) = s 141 (84 + 3 * i) from rfl, if_pos ha]
    exact turn_miss ht h6 (t - (i + 1)) (i + 1) m _ (by omega) (by omega) (fun k k1 k2 => hu k k2 (by omega))
  | succ d ih =>
    intro i m a2 hi hm
    obtain ⟨m, rfl⟩ : ∃ z, m = z + 1 := ⟨m - 1, by omega⟩
    rw [L_X8_turnAt_5, show s (140 + 1) (ix 6) = nI t from h6, if_neg (by rw [le_n (by omega) (by omega)]; omega)]
    simp (disch := omega) only [l84, l3, pk_mul, nI_add, in_n, gd_True, ix_n, nI_1]
    rw [show s (140 + 1) (84 + 3 * i) = s 141 (84 + 3 * i) from rfl, if_neg (hu i (by omega) (by omega))]
    exact ih (i + 1) m a2 (by omega) (by omega)
theorem PlanR.one {q t mi : Nat} {μ : Nat → Int32} (h : PlanR σ q μ t mi) {i k : Nat} (hi : i < t) (hk : k < t) (e : μ (84 + 3 * i) = μ (84 + 3 * k)) : i = k := by
  have h5 := h.2.2.2.2
  rcases Nat.lt_trichotomy i k with c | c | c
  · have := h5 i k c hk; rw [e] at this; exact absurd this Int32.lt_irrefl
  · exact c
  · have := h5 k i c hi; rw [e] at this; exact absurd this Int32.lt_irrefl
theorem op_dropTurn (hN : 700 ≤ N) (h : Inv2 σ s) (a : Int32) : Res (F_X7_dropTurn N 133 a σ) (F_X8_dropTurn N 140 a s) σ s := by
  obtain ⟨-, -, -, ⟨n, e, t, g, l, mi, hmi, hx⟩, -⟩ := id h
  have hP := hx.2.1
  have ht := hP.1
  unfold F_X7_dropTurn F_X8_dropTurn F_X1_rankOf F_X8_turnAt
  by_cases c : ∃ k, k < t ∧ s 141 (84 + 3 * k) = a
  · obtain ⟨rk, hrk, rfl⟩ := c
    rw [show L_X1_rankOf_2 N σ N (0 + 8) (s 141 (84 + 3 * rk)) 0 = some (nI rk) from rank_hit hP hrk rk 0 N (by omega) (by omega),
      show L_X8_turnAt_5 N s N 140 (s 141 (84 + 3 * rk)) (-1000005) 0 = some (nI rk) from turn_hit ht hP.2.1 hrk rfl (fun k k1 k2 z => k2 (hP.one k1 hrk z)) rk 0 N _ (by omega) (by omega), bind_t, bind_t, if_neg (nne_one (by omega)), if_neg (nne_none (by omega))]
    obtain ⟨σ1, s1, r1, r2, r3, r4⟩ := record_n hN h
    have hx1 := now_rec hx r4
    obtain ⟨hR, hPl, hLg, hW, hSc⟩ := hx1
    obtain ⟨σ', a1, a2, a3, a4⟩ := cRemove_n (N := N) (q := 8) (σ := σ1) (by omega) ht hrk hPl.2.2.1
    obtain ⟨s', b1, b2, b3, b4, b5⟩ := mDrop_n (N := N) (r := 141) (s := s1) (by omega) ht hrk hPl.2.1
    rw [r1, bind_t, r2, bind_t, show F_X1_remove N (0 + 8) (nI rk) σ1 = _ from a1, bind_t, show F_X8_dropsTurn N (140 + 1) (nI rk) s1 = _ from b1, bind_t, show σ' (0 + 8) 3 = _ from a3, show s' (140 + 1) (ix 6) = _ from b3]
    exact Res.fin _ rfl rfl r3 r4 (fun j j1 j2 => a2 j (by omega)) (fun j j1 => b2 j (by omega)) ⟨n, e, t - 1, g, l, mi, hmi, hR.congr (fun j j1 j2 => a2 j (by omega)) (b4 0 (by decide) (by decide)) (b4 10 (by decide) (by decide)) (fun x x1 x2 => b4 x (by omega) (by omega)), hPl.drop hrk a3 a4 b3 b5 (fun k k1 k2 => (hPl.2.2.2.1 k k1).2.2.2.1), hLg.congr (fun j j1 j2 => a2 j (by omega)) (b4 9 (by decide) (by decide)) (b4 11 (by decide) (by decide)) (fun x x1 x2 => b4 x (by omega) (by omega)), hW.congr (fun j j1 j2 => a2 j (by omega)) (b4 7 (by decide) (by decide)) (fun x x1 x2 => b4 x (by omega) (by omega)), hSc.congr (a2 0 (by omega)) (fun x x1 x2 x3 _ => b4 x (by omega) (by omega))⟩
  · have hmiss : ∀ k, k < t → s 141 (84 + 3 * k) ≠ a := fun k hk z => c ⟨k, hk, z⟩
    rw [show L_X1_rankOf_2 N σ N (0 + 8) a 0 = some (-1) from rank_miss hP hmiss t 0 N (by omega) (by omega),
      show L_X8_turnAt_5 N s N 140 a (-1000005) 0 = some (-1000005) from turn_miss ht hP.2.1 t 0 N _ (by omega) (by omega) (fun k _ k2 => hmiss k k2), bind_t, bind_t, if_pos rfl, if_pos rfl]
    exact Res.same h _
/-- a turn is put among them -/
theorem PlanR.ins {q t mi rk : Nat} {a b c : Int32} {σ σ' : HP} {μ μ' : Nat → Int32} (h : PlanR σ q μ t mi) (ht : t < 8) (hrk : rk ≤ t) (ha : bn a (mi + 1) 9999) (hb : bn b 0 3) (hc : bn c 0 5)
    (hlo : ∀ k, k < rk → μ (84 + 3 * k) < a) (hhi : ∀ k, rk ≤ k → k < t → a < μ (84 + 3 * k)) (h3 : σ' q 3 = nI (t + 1)) (h6 : μ' 6 = nI (t + 1))
    (hv1 : ∀ k, k ≤ t → (k < rk → ∀ v, 1 ≤ v → v ≤ 3 → σ' (q + v) k = σ (q + v) k) ∧ (rk < k → ∀ v, 1 ≤ v → v ≤ 3 → σ' (q + v) k = σ (q + v) (k - 1)))
    (hm1 : ∀ k, k ≤ t → (k < rk → ∀ v, v < 3 → μ' (84 + 3 * k + v) = μ (84 + 3 * k + v)) ∧ (rk < k → ∀ v, v < 3 → μ' (84 + 3 * k + v) = μ (84 + 3 * (k - 1) + v)))
    (e1 : σ' (q + 1) rk = a) (e2 : σ' (q + 2) rk = b) (e3 : σ' (q + 3) rk = c) (f1 : μ' (84 + 3 * rk) = a) (f2 : μ' (84 + 3 * rk + 1) = b) (f3 : μ' (84 + 3 * rk + 2) = c) : PlanR σ' q μ' (t + 1) mi := by
  obtain ⟨a1, a2, a3, a4, a5⟩ := h
  have m0 : ∀ k, k ≤ t → k < rk → μ' (84 + 3 * k) = μ (84 + 3 * k) := fun k hk hl => (hm1 k hk).1 hl 0 (by decide)
  have m0' : ∀ k, k ≤ t → rk < k → μ' (84 + 3 * k) = μ (84 + 3 * (k - 1)) := fun k hk hl => (hm1 k hk).2 hl 0 (by decide)
  refine ⟨by omega, h6, h3, fun k hk => ?_, fun i k hik hk => ?_⟩
  · rcases Nat.lt_trichotomy k rk with z | z | z
    · have := a4 k (by omega)
      unfold TuR at this ⊢
      rw [(hv1 k (by omega)).1 z 1 (by omega) (by omega), (hv1 k (by omega)).1 z 2 (by omega) (by omega), (hv1 k (by omega)).1 z 3 (by omega) (by omega), m0 k (by omega) z, (hm1 k (by omega)).1 z 1 (by decide), (hm1 k (by omega)).1 z 2 (by decide)]
      exact this
    · subst z
      unfold TuR
      rw [e1, e2, e3, f1, f2, f3]
      exact ⟨rfl, rfl, rfl, ha, hb, hc⟩
    · have := a4 (k - 1) (by omega)
      unfold TuR at this ⊢
      rw [(hv1 k (by omega)).2 z 1 (by omega) (by omega), (hv1 k (by omega)).2 z 2 (by omega) (by omega), (hv1 k (by omega)).2 z 3 (by omega) (by omega), m0' k (by omega) z, (hm1 k (by omega)).2 z 1 (by decide), (hm1 k (by omega)).2 z 2 (by decide)]
      exact this
  · rcases Nat.lt_trichotomy i rk with z | z | z <;> rcases Nat.lt_trichotomy k rk with y | y | y
    · rw [m0 i (by omega) z, m0 k (by omega) y]; exact a5 i k hik (by omega)
    · subst y; rw [m0 i (by omega) z, f1]; exact hlo i z
    · rw [m0 i (by omega) z, m0' k (by omega) y]
      rcases Nat.lt_or_ge i (k - 1) with w | w
      · exact a5 i (k - 1) w (by omega)
      · omega
    · omega
    · omega
    · subst z; rw [f1, m0' k (by omega) y]; exact hhi (k - 1) (by omega) (by omega)
    · omega
    · omega
    · rw [m0' i (by omega) z, m0' k (by omega) y]; exact a5 (i - 1) (k - 1) (by omega) (by omega)
/-- where it goes: both go down alike -/
def InsC (σ0 σ : HP) (q d t : Nat) : Prop := (∀ j, j < q + 1 ∨ q + 3 < j → σ j = σ0 j) ∧ ∀ v, 1 ≤ v → v ≤ 3 → ∀ k, k ≤ t → (k < d → σ (q + v) k = σ0 (q + v) k) ∧ (d < k → σ (q + v) k = σ0 (q + v) (k - 1))
def InsM (s0 s : HP) (d t : Nat) : Prop := (∀ j, j ≠ 141 → s j = s0 j) ∧ (∀ x, x < 84 ∨ 108 ≤ x → s 141 x = s0 141 x) ∧ ∀ v, v < 3 → ∀ k, k ≤ t → (k < d → s 141 (84 + 3 * k + v) = s0 141 (84 + 3 * k + v)) ∧ (d < k → s 141 (84 + 3 * k + v) = s0 141 (84 + 3 * (k - 1) + v))
theorem ins_l {q t mi : Nat} {a b c : Int32} {σ0 s0 : HP} (hN : 700 ≤ N) (hP : PlanR σ0 q (s0 141) t mi) (ht : t < 8) (hne : ∀ k, k < t → s0 141 (84 + 3 * k) ≠ a) : ∀ (d m m' : Nat) (σ s : HP), d ≤ t → d < m → d < m' → InsC σ0 σ q d t → InsM s0 s d t → (∀ k, d ≤ k → k < t → a < s0 141 (84 + 3 * k)) →
    ∃ rk σ1 s1, rk ≤ t ∧ InsC σ0 σ1 q rk t ∧ InsM s0 s1 rk t ∧ (∀ k, k < rk → s0 141 (84 + 3 * k) < a) ∧ (∀ k, rk ≤ k → k < t → a < s0 141 (84 + 3 * k)) ∧
      L_X1_insert_16 N m q a b c (nI d) σ = J_X1_insert_50 N q a b c (nI rk) σ1 ∧ L_X8_planTurn_73 N m' 140 a b c (nI d) s = J_X8_planTurn_149 N 140 a b c (nI rk) s1 := by
  intro d
  induction d with
  | zero =>
    intro m m' σ s hd hm hm' hC hM hhi
    obtain ⟨m, rfl⟩ : ∃ z, m = z + 1 := ⟨m - 1, by omega⟩
    obtain ⟨m', rfl⟩ : ∃ z, m' = z + 1 := ⟨m' - 1, by omega⟩
    rw [L_X1_insert_16, L_X8_planTurn_73, if_pos (by decide), if_pos (by decide)]
    exact ⟨0, σ, s, by omega, hC, hM, fun k hk => by omega, hhi, rfl, rfl⟩
  | succ d ih =>
    intro m m' σ s hd hm hm' hC hM hhi
    obtain ⟨m, rfl⟩ : ∃ z, m = z + 1 := ⟨m - 1, by omega⟩
    obtain ⟨m', rfl⟩ : ∃ z, m' = z + 1 := ⟨m' - 1, by omega⟩
    have hc : σ (q + 1) d = s0 141 (84 + 3 * d) := by rw [(hC.2 1 (by omega) (by omega) d (by omega)).1 (by omega)]; exact (hP.2.2.2.1 d (by omega)).1
    have hm0 : s 141 (84 + 3 * d) = s0 141 (84 + 3 * d) := (hM.2.2 0 (by decide) d (by omega)).1 (by omega)
    have hd0 : ¬ nI (d + 1) ≤ 0 := by rw [l0, le_n (by omega) (by omega)]; omega
    rw [L_X1_insert_16, L_X8_planTurn_73, if_neg hd0, if_neg hd0, l1, sub_n (by omega), show d + 1 - 1 = d from rfl, l84, l3, pk_mul, nI_add]
    simp (disch := omega) only [in_n, gd_True, ix_n]
    rw [hc, show s (140 + 1) (84 + 3 * d) = _ from hm0]
    by_cases z : s0 141 (84 + 3 * d) ≤ a
    · rw [if_pos z, if_pos z]
      have hlt : s0 141 (84 + 3 * d) < a := by
        rcases Int32.lt_or_eq_of_le z with y | y
        · exact y
        · exact absurd y (hne d (by omega))
      refine ⟨d + 1, σ, s, hd, hC, hM, fun k hk => ?_, hhi, rfl, rfl⟩
      rcases Nat.lt_or_ge k d with y | y
      · exact Int32.lt_trans (hP.2.2.2.2 k d y (by omega)) hlt
      · rw [show k = d by omega]; exact hlt
    · rw [if_neg z, if_neg z, cMove_n (by omega) (by omega), bind_t]
      obtain ⟨M, hM4⟩ : ∃ M, N = M + 4 := ⟨N - 4, by omega⟩
      have h99 : ∀ k73, L_X8_planTurn_99 k73 N N 140 a b c (nI (d + 1)) 0 s = k73 140 a b c (nI (d + 1) + -1) (wr (wr (wr s 141 (84 + 3 * (d + 1) + 0) (s 141 (84 + 3 * d + 0))) 141 (84 + 3 * (d + 1) + 1) (s 141 (84 + 3 * d + 1))) 141 (84 + 3 * (d + 1) + 2) (s 141 (84 + 3 * d + 2))) := by
        intro k73
        have st : ∀ (w : HP) (M i : Nat), i < 3 → L_X8_planTurn_99 k73 N (M + 1) 140 a b c (nI (d + 1)) (nI i) w = L_X8_planTurn_99 k73 N M 140 a b c (nI (d + 1)) (nI (i + 1)) (wr w 141 (84 + 3 * (d + 1) + i) (w 141 (84 + 3 * d + i))) := by
          intro w M i hi
          rw [L_X8_planTurn_99, if_neg (by rw [l3, le_n (by omega) (by omega)]; omega), l1, sub_n (by omega), show d + 1 - 1 = d from rfl, l84, l3, pk_mul, pk_mul, nI_add, nI_add, nI_add, nI_add]
          simp (disch := omega) only [in_n, gd_True, ix_n, bd_t, nI_add]
        rw [show L_X8_planTurn_99 k73 N N 140 a b c (nI (d + 1)) 0 s = L_X8_planTurn_99 k73 N (M + 4) 140 a b c (nI (d + 1)) (nI 0) s from by rw [← hM4]; rfl]
        rw [st s (M + 3) 0 (by decide), st _ (M + 2) 1 (by decide), st _ (M + 1) 2 (by decide), L_X8_planTurn_99, if_pos (by decide)]
        rw [wr_s, wr_s, upd_n (by omega), wr_s, upd_n (by omega), upd_n (by omega)]
      rw [h99, show nI (d + 1) + -1 = nI d from addm_n (a := d + 1) (b := 1) (by omega), addm_n (show 1 ≤ d + 1 by omega), show d + 1 - 1 = d from rfl]
      refine ih m m' _ _ (by omega) (by omega) (by omega) ⟨fun j hj => ?_, fun v v1 v2 k hk => ?_⟩ ⟨fun j hj => ?_, fun x hx => ?_, fun v hv k hk => ?_⟩ (fun k k1 k2 => ?_)
      · rw [cMove_o hj, hC.1 j hj]
      · rw [cMove_v v v1 v2]
        have h1 := hC.2 v v1 v2
        by_cases y : k = d + 1
        · rw [if_pos y, y]
          exact ⟨fun w => by omega, fun _ => (h1 d (by omega)).1 (by omega)⟩
        · rw [if_neg y]
          refine ⟨fun w => (h1 k hk).1 (by omega), fun w => (h1 k hk).2 (by omega)⟩
      · rw [wr_n hj, wr_n hj, wr_n hj, hM.1 j hj]
      · rw [wr_s, upd_n (by omega), wr_s, upd_n (by omega), wr_s, upd_n (by omega), hM.2.1 x hx]
      · have h1 := hM.2.2 v hv
        by_cases y : k = d + 1
        · subst y
          refine ⟨fun w => by omega, fun _ => ?_⟩
          rw [show d + 1 - 1 = d from rfl, ← (h1 d (by omega)).1 (by omega)]
          rcases (show v = 0 ∨ v = 1 ∨ v = 2 by omega) with rfl | rfl | rfl
          · rw [wr_s, upd_n (by omega), wr_s, upd_n (by omega), wr_s, upd_s]
          · rw [wr_s, upd_n (by omega), wr_s, upd_s]
          · rw [wr_s, upd_s]
        · rw [wr_s, upd_n (by omega), wr_s, upd_n (by omega), wr_s, upd_n (by omega)]
          exact ⟨fun w => (h1 k hk).1 (by omega), fun w => (h1 k hk).2 (by omega)⟩
      · rcases Nat.lt_or_ge d k with y | y
        · exact hhi k y k2
        · rw [show k = d by omega]; exact Int32.not_le.mp z
theorem op_planTurn (hN : 700 ≤ N) (h : Inv2 σ s) (a b c : Int32) : Res (F_X7_planTurn N 133 a b c σ) (F_X8_planTurn N 140 a b c s) σ s := by
  obtain ⟨-, -, -, ⟨n, e, t, g, l, mi, hmi, hx⟩, -⟩ := id h
  have hP := hx.2.1
  have ht := hP.1
  unfold F_X7_planTurn F_X8_planTurn
  rw [cwi, mwi, bind_t, bind_t]
  rcases wi_or a 1 9999 with d | ⟨d, d1, d2⟩
  · rw [d, if_pos rfl, if_pos rfl]; exact Res.same h _
  · rw [d, if_neg n10, if_neg n10, cwind_n, mwind_n, bind_t, bind_t]
    rcases wind_or b c with f | ⟨f, f1, f2⟩
    · rw [f, if_pos rfl, if_pos rfl]; exact Res.same h _
    · rw [f, if_neg n10, if_neg n10, show s (140 + 1) (ix 1) = nI mi from hx.2.2.2.2.1, show σ 0 4 = nI mi from hx.2.2.2.2.2.1]
      obtain ⟨x, x1, x2, rfl⟩ := wi_bn (lo := 1) (hi := 9999) (by decide) d1 d2 (by decide)
      by_cases z : x ≤ mi
      · have hz : nI x ≤ nI mi := by rw [le_n (by omega) (by omega)]; exact z
        rw [if_pos hz, if_pos hz]; exact Res.same h _
      · have hz : ¬ nI x ≤ nI mi := by rw [le_n (by omega) (by omega)]; exact z
        rw [if_neg hz, if_neg hz]
        unfold F_X1_rankOf F_X8_turnAt
        by_cases w : ∃ k, k < t ∧ s 141 (84 + 3 * k) = nI x
        · obtain ⟨rk, hrk, hw⟩ := w
          rw [← hw, show L_X1_rankOf_2 N σ N (0 + 8) (s 141 (84 + 3 * rk)) 0 = some (nI rk) from rank_hit hP hrk rk 0 N (by omega) (by omega),
            show L_X8_turnAt_5 N s N 140 (s 141 (84 + 3 * rk)) (-1000005) 0 = some (nI rk) from turn_hit ht hP.2.1 hrk rfl (fun k k1 k2 z => k2 (hP.one k1 hrk z)) rk 0 N _ (by omega) (by omega), bind_t, bind_t, if_neg (nne_one (by omega)), if_neg (nne_none (by omega))]
          exact Res.same h _
        · have hmiss : ∀ k, k < t → s 141 (84 + 3 * k) ≠ nI x := fun k hk z => w ⟨k, hk, z⟩
          rw [show L_X1_rankOf_2 N σ N (0 + 8) (nI x) 0 = some (-1) from rank_miss hP hmiss t 0 N (by omega) (by omega),
            show L_X8_turnAt_5 N s N 140 (nI x) (-1000005) 0 = some (-1000005) from turn_miss ht hP.2.1 t 0 N _ (by omega) (by omega) (fun k _ k2 => hmiss k k2), bind_t, bind_t, if_pos rfl, if_pos rfl,
            show σ (0 + 8) 3 = nI t from hP.2.2.1, show s (140 + 1) (ix 6) = nI t from hP.2.1]
          by_cases y : t < 8
          · rw [if_pos (show nI t < 8 by rw [l8, lt_n (by omega) (by omega)]; exact y), if_neg (show ¬ nI t = 8 by rw [l8, eq_n (by omega) (by omega)]; omega)]
            obtain ⟨σ1, s1, r1, r2, r3, r4⟩ := record_n hN h
            have hx1 := now_rec hx r4
            have hs1 : s1 141 = s 141 := r4.2.2.1 141 (by decide) (by decide)
            obtain ⟨hR, hPl, hLg, hW, hSc⟩ := hx1
            obtain ⟨rk, σ2, s2, a1, a2, a3, a4, a5, a6, a7⟩ := ins_l (N := N) (q := 8) (a := nI x) (b := b) (c := c) (σ0 := σ1) (s0 := s1) hN hPl y (by rw [hs1]; exact hmiss) t N N σ1 s1 (Nat.le_refl _) (by omega) (by omega) ⟨fun _ _ => rfl, fun v v1 v2 k hk => ⟨fun _ => rfl, fun _ => by omega⟩⟩ ⟨fun _ _ => rfl, fun _ _ => rfl, fun v hv k hk => ⟨fun _ => rfl, fun _ => by omega⟩⟩ (fun k k1 k2 => by omega)
            have c3 : σ2 8 3 = nI t := by rw [a2.1 8 (by omega)]; exact hPl.2.2.1
            have m6 : s2 141 6 = nI t := by rw [a3.2.1 6 (by omega)]; exact hPl.2.1
            have hC : J_X1_insert_50 N 8 (nI x) b c (nI rk) σ2 = some (wr (wr (wr (wr σ2 (8 + 1) rk (nI x)) (8 + 2) rk b) (8 + 3) rk c) 8 3 (nI (t + 1))) := by
              unfold J_X1_insert_50
              simp (disch := omega) only [in_n, gd_True, ix_n, bd_t]
              rw [wr_n (by omega), wr_n (by omega), wr_n (by omega), c3, nI_1]
            have hM : J_X8_planTurn_149 N 140 (nI x) b c (nI rk) s2 = some (nI (t + 1), wr (wr (wr (wr s2 141 (84 + 3 * rk) (nI x)) 141 (84 + 3 * rk + 1) b) 141 (84 + 3 * rk + 2) c) 141 6 (nI (t + 1))) := by
              unfold J_X8_planTurn_149
              rw [l84, l3, pk_mul, nI_add, l1, nI_add, l2, nI_add]
              simp (disch := omega) only [in_n, gd_True, ix_n, bd_t]
              rw [show ix 6 = 6 from rfl, show (140 + 1 : Nat) = 141 from rfl, wr_s, wr_s, wr_s, wr_s, upd_s, upd_n (by omega), upd_n (by omega), upd_n (by omega), m6, nI_add]
            unfold F_X1_insert
            rw [r1, bind_t, r2, bind_t, show σ1 (0 + 8) 3 = nI t from hPl.2.2.1, if_pos (show nI t < 8 by rw [l8, lt_n (by omega) (by omega)]; exact y), bd_t, show L_X1_insert_16 N N (0 + 8) (nI x) b c (nI t) σ1 = _ from a6, hC, bind_t, show s1 (140 + 1) (ix 6) = nI t from hPl.2.1, bd_t, a7, hM]
            generalize hσ' : wr (wr (wr (wr σ2 (8 + 1) rk (nI x)) (8 + 2) rk b) (8 + 3) rk c) 8 3 (nI (t + 1)) = σ'
            generalize hs' : wr (wr (wr (wr s2 141 (84 + 3 * rk) (nI x)) 141 (84 + 3 * rk + 1) b) 141 (84 + 3 * rk + 2) c) 141 6 (nI (t + 1)) = s'
            have q3 : σ' 8 3 = nI (t + 1) := by rw [← hσ', wr_s, upd_s]
            have qo : ∀ j, j < 8 ∨ 11 < j → σ' j = σ1 j := fun j hj => by rw [← hσ', wr_n (by omega), wr_n (by omega), wr_n (by omega), wr_n (by omega), a2.1 j (by omega)]
            have so : ∀ j, j ≠ 141 → s' j = s1 j := fun j hj => by rw [← hs', wr_n hj, wr_n hj, wr_n hj, wr_n hj, a3.1 j hj]
            have s6 : s' 141 6 = nI (t + 1) := by rw [← hs', wr_s, upd_s]
            have sv : ∀ i, i < 84 ∨ 108 ≤ i → i ≠ 6 → s' 141 i = s1 141 i := fun i hi h6 => by rw [← hs', wr_s, upd_n h6, wr_s, upd_n (by omega), wr_s, upd_n (by omega), wr_s, upd_n (by omega), a3.2.1 i hi]
            rw [show σ' (0 + 8) 3 = _ from q3]
            have qn : ∀ v, 1 ≤ v → v ≤ 3 → ∀ k, k ≠ rk → σ' (8 + v) k = σ2 (8 + v) k := fun v v1 v2 k hk => by
              rw [← hσ', wr_n (by omega)]
              rcases (show v = 1 ∨ v = 2 ∨ v = 3 by omega) with rfl | rfl | rfl
              · rw [wr_n (by omega), wr_n (by omega), wr_s, upd_n hk]
              · rw [wr_n (by omega), wr_s, upd_n hk, wr_n (by omega)]
              · rw [wr_s, upd_n hk, wr_n (by omega), wr_n (by omega)]
            have sn : ∀ v, v < 3 → ∀ k, k ≠ rk → s' 141 (84 + 3 * k + v) = s2 141 (84 + 3 * k + v) := fun v hv k hk => by
              rw [← hs', wr_s, upd_n (by omega), wr_s, upd_n (by omega), wr_s, upd_n (by omega), wr_s, upd_n (by omega)]
            refine Res.fin _ rfl rfl r3 r4 (fun j j1 j2 => qo j (by omega)) (fun j j1 => so j (by omega)) ⟨n, e, t + 1, g, l, mi, hmi, hR.congr (fun j j1 j2 => qo j (by omega)) (sv 0 (by decide) (by decide)) (sv 10 (by decide) (by decide)) (fun i i1 i2 => sv i (by omega) (by omega)), ?_, hLg.congr (fun j j1 j2 => qo j (by omega)) (sv 9 (by decide) (by decide)) (sv 11 (by decide) (by decide)) (fun i i1 i2 => sv i (by omega) (by omega)), hW.congr (fun j j1 j2 => qo j (by omega)) (sv 7 (by decide) (by decide)) (fun i i1 i2 => sv i (by omega) (by omega)), hSc.congr (qo 0 (by omega)) (fun i i1 i2 i3 _ => sv i (by omega) i3)⟩
            refine hPl.ins (a := nI x) (b := b) (c := c) (rk := rk) y a1 ⟨x, by omega, x2, rfl⟩ f1 f2 a4 a5 q3 s6 (fun k hk => ⟨fun w v v1 v2 => ?_, fun w v v1 v2 => ?_⟩) (fun k hk => ⟨fun w v hv => ?_, fun w v hv => ?_⟩) ?_ ?_ ?_ ?_ ?_ ?_
            · rw [show (0 + 8 + v : Nat) = 8 + v by omega, qn v v1 v2 k (by omega), (a2.2 v v1 v2 k hk).1 w]
            · rw [show (0 + 8 + v : Nat) = 8 + v by omega, qn v v1 v2 k (by omega), (a2.2 v v1 v2 k hk).2 w]
            · rw [sn v hv k (by omega), (a3.2.2 v hv k hk).1 w]
            · rw [sn v hv k (by omega), (a3.2.2 v hv k hk).2 w]
            · rw [← hσ', wr_n (by decide), wr_n (by decide), wr_n (by decide)]
              show (wr σ2 9 rk (nI x)) 9 rk = _
              rw [wr_s, upd_s]
            · rw [← hσ', wr_n (by decide), wr_n (by decide)]
              show (wr _ 10 rk b) 10 rk = _
              rw [wr_s, upd_s]
            · rw [← hσ', wr_n (by decide)]
              show (wr _ 11 rk c) 11 rk = _
              rw [wr_s, upd_s]
            · rw [← hs', wr_s, upd_n (by omega), wr_s, upd_n (by omega), wr_s, upd_n (by omega), wr_s, upd_s]
            · rw [← hs', wr_s, upd_n (by omega), wr_s, upd_n (by omega), wr_s, upd_s]
            · rw [← hs', wr_s, upd_n (by omega), wr_s, upd_s]
          · obtain rfl : t = 8 := by omega
            rw [if_neg (show ¬ nI 8 < 8 by decide), if_pos (show nI 8 = 8 from rfl)]
            exact Res.same h _
end OPS4
