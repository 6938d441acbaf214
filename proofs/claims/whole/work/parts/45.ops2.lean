/-! ===== fliers come, go, pay ===== -/
section OPS2
variable {N : Nat} {σ s : HP}
theorem croom_n {n e x : Nat} (hn : n ≤ 12) (he : e ≤ 99) (hx : x < 100) (h6 : σ 1 6 = nI n) (h7 : σ 1 7 = nI e) : F_X3_hasRoomFor N (0 + 1) (nI x) σ = some (bI (n + x ≤ 12 ∧ e + x ≤ 99)) := by
  unfold F_X3_hasRoomFor
  rw [show (0 + 1 : Nat) = 1 from rfl, h6, h7, l12, l99]
  simp (disch := omega) only [nI_add, lt_n]
  by_cases c : 12 < n + x
  · rw [if_pos c, bI_f (by omega)]
  · rw [if_neg c]
    by_cases d : 99 < e + x
    · rw [if_pos d, bI_f (by omega)]
    · rw [if_neg d, bI_t (by omega)]
theorem mroom_n {n e x : Nat} (hn : n ≤ 12) (he : e ≤ 99) (hx : x < 100) (h0 : s 141 0 = nI n) (h10 : s 141 10 = nI e) : F_X8_isRoom N 140 (nI x) s = some (bI (n + x ≤ 12 ∧ e + x ≤ 99)) := by
  unfold F_X8_isRoom
  rw [show s (140 + 1) (ix 0) = nI n from h0, show s (140 + 1) (ix 10) = nI e from h10, l12, l99]
  simp (disch := omega) only [nI_add, lt_n]
  by_cases c : 12 < n + x
  · rw [if_pos c, bI_f (by omega)]
  · rw [if_neg c]
    by_cases d : 99 < e + x
    · rw [if_pos d, bI_f (by omega)]
    · rw [if_neg d, bI_t (by omega)]
theorem RowR.app {q n e : Nat} {σ σ' : HP} {μ μ' : Nat → Int32} {a b : Int32} (h : RowR σ q μ n e) (hn : n < 12) (he : e < 99) (hb : bn b 1 9)
    (h6 : σ' q 6 = nI (n + 1)) (h7 : σ' q 7 = nI (e + 1)) (ho : ∀ v, 1 ≤ v → v ≤ 6 → ∀ i, i < n → σ' (q + v) i = σ (q + v) i)
    (v1 : σ' (q + 1) n = nI e) (v2 : σ' (q + 2) n = a) (v3 : σ' (q + 3) n = b) (v4 : σ' (q + 4) n = 0) (v5 : σ' (q + 5) n = 0) (v6 : σ' (q + 6) n = 0)
    (m0 : μ' 0 = nI (n + 1)) (m10 : μ' 10 = nI (e + 1)) (mo : ∀ i, 12 ≤ i → i < 12 + 6 * n → μ' i = μ i)
    (w0 : μ' (12 + 6 * n) = nI e) (w1 : μ' (12 + 6 * n + 1) = a) (w2 : μ' (12 + 6 * n + 2) = b) (w4 : μ' (12 + 6 * n + 4) = 0) (w5 : μ' (12 + 6 * n + 5) = 0) : RowR σ' q μ' (n + 1) (e + 1) := by
  obtain ⟨b1, b2, b3, b4, b5, b6, b7, b8, b9, b10⟩ := h
  have hM : ∀ k w, k < n → w < 6 → μ' (12 + 6 * k + w) = μ (12 + 6 * k + w) := fun k w h1 h2 => mo _ (by omega) (by omega)
  have hM0 : ∀ k, k < n → μ' (12 + 6 * k) = μ (12 + 6 * k) := fun k h1 => mo _ (by omega) (by omega)
  refine ⟨by omega, by omega, by omega, m0, m10, h6, h7, fun k hk => ?_, fun k hk => ?_, fun i k hi hk z => ?_⟩
  · rcases Nat.lt_or_ge k n with c | c
    · have := b8 k c
      unfold FlR at this ⊢
      rw [ho 1 (by omega) (by omega) k c, ho 2 (by omega) (by omega) k c, ho 3 (by omega) (by omega) k c, ho 5 (by omega) (by omega) k c, ho 6 (by omega) (by omega) k c, hM0 k c, hM k 1 c (by decide), hM k 2 c (by decide), hM k 4 c (by decide), hM k 5 c (by decide)]
      obtain ⟨c1, c2, c3, c4, c5, ⟨i, c6, c7⟩, c8⟩ := this
      exact ⟨c1, c2, c3, c4, c5, ⟨i, by omega, c7⟩, c8⟩
    · obtain rfl : k = n := by omega
      unfold FlR
      rw [v1, v2, v3, v5, v6, w0, w1, w2, w4, w5]
      exact ⟨rfl, rfl, rfl, rfl, rfl, ⟨e, by omega, rfl⟩, hb, ⟨0, by omega, by omega, rfl⟩⟩
  · rcases Nat.lt_or_ge k n with c | c
    · have := b9 k c
      unfold MateR at this ⊢
      rw [ho 4 (by omega) (by omega) k c, hM k 3 c (by decide), hM k 4 c (by decide)]
      rcases this with h | ⟨d1, d2, d3, d4⟩ | ⟨d1, d2, i, d3, d4⟩
      · exact Or.inl h
      · refine Or.inr (Or.inl ?_)
        rw [ho 4 (by omega) (by omega) (k + 1) d3, hM0 (k + 1) d3, hM (k + 1) 4 d3 (by decide)]
        exact ⟨d1, d2, by omega, d4⟩
      · refine Or.inr (Or.inr ⟨d1, d2, i, d3, ?_⟩)
        rw [ho 4 (by omega) (by omega) i (by omega), hM0 i (by omega), hM i 4 (by omega) (by decide)]
        exact d4
    · obtain rfl : k = n := by omega
      exact Or.inl ⟨v4, w4⟩
  · rcases Nat.lt_or_ge i n with c | c <;> rcases Nat.lt_or_ge k n with d | d
    · rw [hM0 i c, hM0 k d] at z
      exact b10 i k c d z
    · obtain rfl : k = n := by omega
      obtain ⟨j, j1, j2⟩ := (b8 i c).2.2.2.2.2.1
      rw [hM0 i c, w0, j2, eq_n (by omega) (by omega)] at z
      omega
    · obtain rfl : i = n := by omega
      obtain ⟨j, j1, j2⟩ := (b8 k d).2.2.2.2.2.1
      rw [hM0 k d, w0, j2, eq_n (by omega) (by omega)] at z
      omega
    · omega
theorem app_n {n e t g l mi : Nat} {a b : Int32} (h : SRx σ 0 (s 141) n e t g l mi) (hn : n < 12) (he : e < 99) (hb : bn b 1 9) :
    ∃ σ' s', F_X3_append N (0 + 1) a b σ = some σ' ∧ F_X8_comes N 140 a b s = some s' ∧ SRx σ' 0 (s' 141) (n + 1) (e + 1) t g l mi ∧ FrC 0 σ σ' ∧ FrM 141 s s' := by
  obtain ⟨hR, hPl, hLg, hW, hSc⟩ := h
  have h6 : σ 1 6 = nI n := hR.2.2.2.2.2.1
  have h7 : σ 1 7 = nI e := hR.2.2.2.2.2.2.1
  have h0 : s 141 0 = nI n := hR.2.2.2.1
  have h10 : s 141 10 = nI e := hR.2.2.2.2.1
  have c2 : ∀ (τ : HP) k x, wr τ (1 + 1) k x 1 = τ 1 := fun _ _ _ => wr_n (by decide)
  have c3 : ∀ (τ : HP) k x, wr τ (1 + 2) k x 1 = τ 1 := fun _ _ _ => wr_n (by decide)
  have c4 : ∀ (τ : HP) k x, wr τ (1 + 3) k x 1 = τ 1 := fun _ _ _ => wr_n (by decide)
  have c5 : ∀ (τ : HP) k x, wr τ (1 + 4) k x 1 = τ 1 := fun _ _ _ => wr_n (by decide)
  have c6 : ∀ (τ : HP) k x, wr τ (1 + 5) k x 1 = τ 1 := fun _ _ _ => wr_n (by decide)
  have c7 : ∀ (τ : HP) k x, wr τ (1 + 6) k x 1 = τ 1 := fun _ _ _ => wr_n (by decide)
  have hpn : ∀ (τ : HP) (w : Nat) (x : Int32), w < 6 → F_X8_puts N (140 + 1) (nI n) (nI w) x τ = some (wr τ 141 (12 + 6 * n + w) x) := fun τ w x hw => puts_n hn hw
  unfold F_X3_append F_X8_comes
  rw [show (0 + 1 : Nat) = 1 from rfl, h6, if_pos (by rw [l12, lt_n (by omega) (by omega)]; exact hn)]
  simp only [c2, c3, c4, c5, c6, c7, h6, h7, in_n hn (show 12 < 2147483648 by decide), gd_True, ix_n (show n < 2147483648 by omega), bd_t]
  rw [show s (140 + 1) (ix 0) = nI n from h0, show s (140 + 1) (ix 10) = nI e from h10]
  rw [l0, hpn _ 0 _ (by decide), bind_t, l1, hpn _ 1 _ (by decide), bind_t, l2, hpn _ 2 _ (by decide), bind_t, l3, hpn _ 3 _ (by decide), bind_t, l4, hpn _ 4 _ (by decide), bind_t, l5, hpn _ 5 _ (by decide), bind_t]
  refine ⟨_, _, rfl, rfl, ?_, fun j hj => ?_, fun j j1 j2 => ?_⟩
  · have x0 : ix (nI 0) = 0 := rfl
    have y0 : nI 0 = 0 := rfl
    have x10 : ix 10 = 10 := rfl
    simp only [Nat.reduceAdd, x0, x10]
    refine ⟨hR.app (a := a) hn he hb ?_ ?_ ?_ ?_ ?_ ?_ ?_ ?_ ?_ ?_ ?_ ?_ ?_ ?_ ?_ ?_ ?_, hPl.congr ?_ ?_ ?_, hLg.congr ?_ ?_ ?_ ?_, hW.congr ?_ ?_ ?_, hSc.congr ?_ ?_⟩
    case refine_3 =>
      intro v v1 v2 i hi
      rcases (show v = 1 ∨ v = 2 ∨ v = 3 ∨ v = 4 ∨ v = 5 ∨ v = 6 by omega) with rfl | rfl | rfl | rfl | rfl | rfl <;> simp (disch := omega) only [Nat.reduceAdd, wr_s, wr_n, upd_n]
    all_goals try intros
    all_goals simp (disch := omega) only [Nat.reduceAdd, Nat.add_zero, wr_s, wr_n, upd_s, upd_n, x0, x10, h0, h10, h6, h7, nI_add, nI_1, y0]
  · rw [wr_n (by omega), wr_n (by omega), wr_n (by omega), wr_n (by omega), wr_n (by omega), wr_n (by omega), wr_n (by omega), wr_n (by omega)]
  · rw [wr_n j1, wr_n j1, wr_n j1, wr_n j1, wr_n j1, wr_n j1, wr_n j1, wr_n j1]
/-! come -/
theorem op_come (hN : 700 ≤ N) (h : Inv2 σ s) (a b : Int32) : Res (F_X7_come N 133 a b σ) (F_X8_come N 140 a b s) σ s := by
  obtain ⟨-, -, -, ⟨n, e, t, g, l, mi, hmi, hx⟩, -⟩ := id h
  have hn := hx.1.1
  have he := hx.1.2.2.1
  unfold F_X7_come F_X8_come
  rw [clet, mwi, bind_t, bind_t]
  rcases wi_or a 97 122 with c | ⟨c, c1, c2⟩
  · rw [c, if_pos rfl, if_pos rfl]; exact Res.same h _
  · rw [c, if_neg n10, if_neg n10, cwi, mwi, bind_t, bind_t]
    rcases wi_or b 1 9 with d | ⟨d, d1, d2⟩
    · rw [d, if_pos rfl, if_pos rfl]; exact Res.same h _
    · rw [d, if_neg n10, if_neg n10, l1, croom_n hn he (by decide) hx.1.2.2.2.2.2.1 hx.1.2.2.2.2.2.2.1, mroom_n hn he (by decide) hx.1.2.2.2.1 hx.1.2.2.2.2.1, bind_t, bind_t]
      by_cases f : n + 1 ≤ 12 ∧ e + 1 ≤ 99
      · rw [bI_t f, if_neg n10, if_neg n10]
        obtain ⟨σ1, s1, r1, r2, r3, r4⟩ := record_n hN h
        have hx1 := now_rec hx r4
        obtain ⟨σ', s', b1, b2, b3, b4, b5⟩ := app_n (N := N) (a := a) hx1 (by omega) (by omega) (wi_bn (lo := 1) (hi := 9) (by decide) d1 d2 (by decide))
        rw [r1, bind_t, r2, bind_t, b1, bind_t, b2, bind_t, show σ' (0 + 1) 6 = nI (n + 1) from b3.1.2.2.2.2.2.1, show s' (140 + 1) (ix 0) = nI (n + 1) from b3.1.2.2.2.1]
        exact Res.fin _ rfl rfl r3 r4 (fun j j1 j2 => b4 j (by omega)) (fun j j1 => b5 j (by omega) (by omega)) ⟨n + 1, e + 1, t, g, l, mi, hmi, b3⟩
      · rw [bI_f f, if_pos rfl, if_pos rfl]; exact Res.same h _
/-! readRow -/
theorem i00 : nI 0 = 0 := rfl
theorem i10 : ¬ nI 1 = 0 := by decide
theorem i11 : nI 1 = 1 := rfl
theorem i20 : ¬ nI 2 = 0 := by decide
theorem i21 : ¬ nI 2 = 1 := by decide
def al (x : Int32) (i : Nat) : Int32 := if i % 3 = 0 then wi x 97 122 else if i % 3 = 1 then wi x 49 57 else if x = 44 then 1 else 0
theorem al_or (x : Int32) (i : Nat) : al x i = 0 ∨ al x i = 1 := by
  unfold al
  have hw : ∀ lo hi, wi x lo hi = 0 ∨ wi x lo hi = 1 := fun lo hi => (wi_or x lo hi).imp id (fun h => h.1)
  split
  · exact hw _ _
  · split
    · exact hw _ _
    · split
      · exact Or.inr rfl
      · exact Or.inl rfl
theorem w01 (x lo hi : Int32) : gd (wi x lo hi = 0 ∨ wi x lo hi = 1) (some (wi x lo hi)) = some (wi x lo hi) := gd_t ((wi_or x lo hi).imp id (fun h => h.1))
theorem call_n (x : Int32) (i : Nat) : F_X7_isAllowedInRow N x (nI (i % 3)) σ = some (al x i) := by
  have hi : i % 3 < 3 := Nat.mod_lt _ (by decide)
  unfold F_X7_isAllowedInRow al
  rcases (show i % 3 = 0 ∨ i % 3 = 1 ∨ i % 3 = 2 by omega) with e | e | e <;> rw [e]
  · rw [if_pos i00, if_pos (rfl : (0 : Nat) = 0), clet, bind_t, w01]
  · rw [if_neg i10, if_pos i11, if_neg (show ¬ (1 : Nat) = 0 by decide), if_pos (rfl : (1 : Nat) = 1)]
    unfold wi
    split
    · rfl
    · split <;> rfl
  · rw [if_neg i20, if_neg i21, if_neg (show ¬ (2 : Nat) = 0 by decide), if_neg (show ¬ (2 : Nat) = 1 by decide)]
    split <;> rfl
theorem nne_none {a : Nat} (ha : a < 2147483648) : ¬ nI a = -1000005 := by
  intro h
  have h1 := congrArg Int32.toInt h
  rw [nI_toInt ha] at h1
  have h2 : (-1000005 : Int32).toInt = -1000005 := by decide
  omega
theorem nne_one {a : Nat} (ha : a < 2147483647) : ¬ nI a = -1 := of_eq_false (nne_m1 ha)
theorem fault_l {ty : Nat} (hty : ty ≤ 60) (c9 : σ 133 9 = nI ty) (m7 : s 140 7 = nI ty) (tx : ∀ k, k < ty → σ 135 k = s 145 k) : ∀ (d i m m' : Nat), i + d = ty → d < m → d + 1 < m' →
    (L_X7_rowFault_2 N σ m 133 (nI i) = some (-1) ∧ L_X8_rowFault_4 N s m' 140 (nI i) 1 = some (-1000005) ∧ ty % 3 = 2 ∧ ∀ k, i ≤ k → k < ty → al (σ 135 k) k = 1) ∨ ∃ j, j ≤ 60 ∧ L_X7_rowFault_2 N σ m 133 (nI i) = some (nI j) ∧ L_X8_rowFault_4 N s m' 140 (nI i) 1 = some (nI j) := by
  intro d
  induction d with
  | zero =>
    intro i m m' hi hm hm'
    obtain ⟨m, rfl⟩ : ∃ z, m = z + 1 := ⟨m - 1, by omega⟩
    obtain ⟨m', rfl⟩ : ∃ z, m' = z + 1 := ⟨m' - 1, by omega⟩
    obtain rfl : i = ty := by omega
    have hle : nI i ≤ nI i := by rw [le_n (by omega) (by omega)]; exact Nat.le_refl _
    rw [L_X7_rowFault_2, L_X8_rowFault_4, c9, m7, if_pos hle, if_pos hle]
    unfold J_X8_rowFault_93
    rw [if_neg n10, m7, l3, rem_n (by omega) (by decide) (by decide)]
    by_cases c : nI (i % 3) = 2
    · rw [if_pos c, if_pos c]
      rw [l2, eq_n (by omega) (by decide)] at c
      exact Or.inl ⟨rfl, rfl, c, fun k k1 k2 => by omega⟩
    · rw [if_neg c, if_neg c]
      exact Or.inr ⟨i, hty, rfl, rfl⟩
  | succ d ih =>
    intro i m m' hi hm hm'
    obtain ⟨m, rfl⟩ : ∃ z, m = z + 1 := ⟨m - 1, by omega⟩
    obtain ⟨m', rfl⟩ : ∃ z, m' = z + 1 := ⟨m' - 1, by omega⟩
    have hq : ∀ r : Int32, r = 0 ∨ r = 1 → J_X8_rowFault_77 (L_X8_rowFault_4 N s m') N 140 (nI i) r s = if r = 0 then some (nI i) else L_X8_rowFault_4 N s m' 140 (nI (i + 1)) 1 := by
      intro r hr
      unfold J_X8_rowFault_77
      rcases hr with rfl | rfl
      · rw [if_pos rfl, if_pos rfl, bd_t, Int32.add_zero]
        obtain ⟨m', rfl⟩ : ∃ z, m' = z + 1 := ⟨m' - 1, by omega⟩
        rw [L_X8_rowFault_4]
        unfold J_X8_rowFault_93
        rw [if_pos rfl, if_pos rfl]
        split <;> rfl
      · rw [if_neg n10, if_neg n10, bd_t, nI_1]
    have hM : L_X8_rowFault_4 N s (m' + 1) 140 (nI i) 1 = if al (σ 135 i) i = 0 then some (nI i) else L_X8_rowFault_4 N s m' 140 (nI (i + 1)) 1 := by
      rw [L_X8_rowFault_4, m7, if_neg (by rw [le_n (by omega) (by omega)]; omega), if_neg n10, l3, rem_n (by omega) (by decide) (by decide)]
      simp (disch := omega) only [l60, in_n, gd_True, ix_n]
      rw [show s (140 + 5) i = σ 135 i from (tx i (by omega)).symm, mwi, mwi, bind_t, bind_t]
      unfold al
      rcases (show i % 3 = 0 ∨ i % 3 = 1 ∨ i % 3 = 2 by omega) with e | e | e <;> rw [e]
      · rw [if_pos i00, if_pos (rfl : (0 : Nat) = 0), hq _ ((wi_or _ _ _).imp id (fun h => h.1))]
      · rw [if_neg i10, if_pos i11, if_neg (show ¬ (1 : Nat) = 0 by decide), if_pos (rfl : (1 : Nat) = 1), hq _ ((wi_or _ _ _).imp id (fun h => h.1))]
      · rw [if_neg i20, if_neg i21, if_neg (show ¬ (2 : Nat) = 0 by decide), if_neg (show ¬ (2 : Nat) = 1 by decide)]
        split
        · rw [hq _ (Or.inr rfl)]
        · rw [hq _ (Or.inl rfl)]
    rw [L_X7_rowFault_2, c9, if_neg (by rw [le_n (by omega) (by omega)]; omega), l3, rem_n (by omega) (by decide) (by decide)]
    simp (disch := omega) only [in_n, gd_True, ix_n]
    rw [call_n, bind_t, hM, nI_1]
    rcases al_or (σ 135 i) i with c | c
    · rw [if_pos c, if_pos c]
      exact Or.inr ⟨i, by omega, rfl, rfl⟩
    · rw [c, if_neg n10, if_neg n10]
      rcases ih (i + 1) m m' (by omega) (by omega) (by omega) with ⟨a1, a2, a3, a4⟩ | q
      · refine Or.inl ⟨a1, a2, a3, fun k k1 k2 => ?_⟩
        rcases Nat.lt_or_ge i k with z | z
        · exact a4 k z k2
        · rw [show k = i by omega]; exact c
      · exact Or.inr q
theorem rr_l {t g l mi c ty : Nat} (hN : 700 ≤ N) (hty : ty ≤ 60) (hc : ty + 1 = 3 * c) : ∀ (d i m m' n e : Nat) (σ s : HP), i + d = c → d < m → d < m' → n + d ≤ 12 → e + d ≤ 99 → SRx σ 0 (s 141) n e t g l mi → σ 133 9 = nI ty → (∀ k, k < ty → σ 135 k = s 145 k) → (∀ k, k < ty → al (σ 135 k) k = 1) →
    ∃ σ' s', L_X7_readRow_45 N m 133 (nI (3 * i)) σ = some (nI (n + d), σ') ∧ L_X8_readRow_42 N m' 140 (nI c) (nI i) s = some (nI (n + d), s') ∧ SRx σ' 0 (s' 141) (n + d) (e + d) t g l mi ∧ FrC 0 σ σ' ∧ FrM 141 s s' := by
  intro d
  induction d with
  | zero =>
    intro i m m' n e σ s hi hm hm' hn he h c9 tx ha
    obtain ⟨m, rfl⟩ : ∃ z, m = z + 1 := ⟨m - 1, by omega⟩
    obtain ⟨m', rfl⟩ : ∃ z, m' = z + 1 := ⟨m' - 1, by omega⟩
    rw [L_X7_readRow_45, L_X8_readRow_42, c9, nI_1, if_pos (by rw [le_n (by omega) (by omega)]; omega), if_pos (by rw [le_n (by omega) (by omega)]; omega), show σ (0 + 1) 6 = nI n from h.1.2.2.2.2.2.1, show s (140 + 1) (ix 0) = nI n from h.1.2.2.2.1]
    exact ⟨σ, s, rfl, rfl, h, FrC.rf, fun _ _ _ => rfl⟩
  | succ d ih =>
    intro i m m' n e σ s hi hm hm' hn he h c9 tx ha
    obtain ⟨m, rfl⟩ : ∃ z, m = z + 1 := ⟨m - 1, by omega⟩
    obtain ⟨m', rfl⟩ : ∃ z, m' = z + 1 := ⟨m' - 1, by omega⟩
    have hb : bn (σ 135 (3 * i + 1) - 48) 1 9 := by
      have q := ha (3 * i + 1) (by omega)
      unfold al at q
      rw [if_neg (by omega), if_pos (by omega)] at q
      rcases wi_or (σ 135 (3 * i + 1)) 49 57 with z | ⟨-, z1, z2⟩
      · rw [z] at q; exact absurd q (by decide)
      · obtain ⟨j, j1, j2, j3⟩ := wi_bn (lo := 49) (hi := 57) (by decide) z1 z2 (by decide)
        exact ⟨j - 48, by omega, by omega, by rw [j3, l48, sub_n (by omega)]⟩
    obtain ⟨σ1, s1, b1, b2, b3, b4, b5⟩ := app_n (N := N) (a := σ 135 (3 * i)) h (by omega) (by omega) hb
    rw [L_X7_readRow_45, L_X8_readRow_42, c9]
    rw [nI_1, if_neg (by rw [le_n (by omega) (by omega)]; omega), if_neg (by rw [le_n (by omega) (by omega)]; omega), l3, pk_mul]
    simp (disch := omega) only [l1, nI_add, in_n, gd_True, ix_n]
    rw [show s (140 + 5) (3 * i) = σ 135 (3 * i) from (tx _ (by omega)).symm, show s (140 + 5) (3 * i + 1) = σ 135 (3 * i + 1) from (tx _ (by omega)).symm, b1, b2, bind_t, bind_t]
    obtain ⟨σ', s', d1, d2, d3, d4, d5⟩ := ih (i + 1) m m' (n + 1) (e + 1) σ1 s1 (by omega) (by omega) (by omega) (by omega) (by omega) b3 (by rw [b4 133 (by omega)]; exact c9) (fun k hk => by rw [b4 135 (by omega), b5 145 (by decide) (by decide)]; exact tx k hk) (fun k hk => by rw [b4 135 (by omega)]; exact ha k hk)
    rw [show n + 1 + d = n + (d + 1) by omega] at d1 d2 d3
    rw [show e + 1 + d = e + (d + 1) by omega] at d3
    exact ⟨σ', s', d1, d2, d3, b4.trans d4, fun j j1 j2 => by rw [d5 j j1 j2, b5 j j1 j2]⟩
theorem op_readRow (hN : 700 ≤ N) (h : Inv2 σ s) : Res (F_X7_readRow N 133 σ) (F_X8_readRow N 140 s) σ s := by
  obtain ⟨h', ty, π, ⟨n, e, t, g, l, mi, hmi, hx⟩, -, -, -, -, -, -, hty, c9, m7, tx, -⟩ := id h
  have hn := hx.1.1
  have he := hx.1.2.2.1
  unfold F_X7_readRow F_X8_readRow F_X7_rowFault F_X8_rowFault
  rcases fault_l (N := N) hty c9 m7 tx ty 0 N N (by omega) (by omega) (by omega) with ⟨a1, a2, a3, a4⟩ | ⟨j, j1, a1, a2⟩
  · rw [show L_X7_rowFault_2 N σ N 133 0 = _ from a1, show L_X8_rowFault_4 N s N 140 0 1 = _ from a2, bind_t, bind_t, if_pos rfl, if_pos rfl, c9, m7, nI_1, l3, div_n (by omega) (by decide) (by decide), bd_t]
    obtain ⟨c, hc⟩ : ∃ c, ty + 1 = 3 * c := ⟨(ty + 1) / 3, by omega⟩
    rw [hc, show 3 * c / 3 = c by omega, croom_n hn he (by omega) hx.1.2.2.2.2.2.1 hx.1.2.2.2.2.2.2.1, mroom_n hn he (by omega) hx.1.2.2.2.1 hx.1.2.2.2.2.1, bind_t, bind_t]
    by_cases f : n + c ≤ 12 ∧ e + c ≤ 99
    · rw [bI_t f, if_neg n10, if_neg n10]
      obtain ⟨σ1, s1, r1, r2, r3, r4⟩ := record_n hN h
      have hx1 := now_rec hx r4
      obtain ⟨σ', s', b1, b2, b3, b4, b5⟩ := rr_l (N := N) hN hty hc c 0 N N n e σ1 s1 (by omega) (by omega) (by omega) f.1 f.2 hx1 (by rw [r4.2.1 9 (by decide)]; exact c9) (fun k hk => by rw [r4.1 135 (by omega), r4.2.2.1 145 (by decide) (by decide)]; exact tx k hk) (fun k hk => by rw [r4.1 135 (by omega)]; exact a4 k (Nat.zero_le _) hk)
      rw [r1, bind_t, r2, bind_t]
      exact Res.fin _ b1 b2 r3 r4 (fun j j1 j2 => b4 j (by omega)) (fun j j1 => b5 j (by omega) (by omega)) ⟨n + c, e + c, t, g, l, mi, hmi, b3⟩
    · rw [bI_f f, if_pos rfl, if_pos rfl]; exact Res.same h _
  · rw [show L_X7_rowFault_2 N σ N 133 0 = _ from a1, show L_X8_rowFault_4 N s N 140 0 1 = _ from a2, bind_t, bind_t, if_neg (nne_one (by omega)), if_neg (nne_none (by omega))]
    exact Res.same h _
end OPS2
