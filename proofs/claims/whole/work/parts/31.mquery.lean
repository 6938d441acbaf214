/-! ===== what is read off the reference's row of numbers μ ===== -/
theorem toI_add {a b : Int32} (h1 : -2147483648 ≤ a.toInt + b.toInt) (h2 : a.toInt + b.toInt < 2147483648) : (a + b).toInt = a.toInt + b.toInt := by
  rw [Int32.toInt_add]
  exact Int.bmod_eq_of_le (by omega) (by omega)
theorem toI_sub {a b : Int32} (h1 : -2147483648 ≤ a.toInt - b.toInt) (h2 : a.toInt - b.toInt < 2147483648) : (a - b).toInt = a.toInt - b.toInt := by
  rw [Int32.toInt_sub]
  exact Int.bmod_eq_of_le (by omega) (by omega)
theorem toI_neg {a : Int32} (h1 : -2147483648 < a.toInt) (h2 : a.toInt < 2147483648) : (-a).toInt = -a.toInt := by
  rw [Int32.toInt_neg]
  exact Int.bmod_eq_of_le (by omega) (by omega)
noncomputable def cnt (p : Nat → Prop) : Nat → Nat
  | 0 => 0
  | n + 1 => cnt p n + @ite _ (p n) (Classical.propDecidable _) 1 0
theorem cnt_t {p : Nat → Prop} {n : Nat} (h : p n) : cnt p (n + 1) = cnt p n + 1 := by simp only [cnt, if_pos h]
theorem cnt_f {p : Nat → Prop} {n : Nat} (h : ¬ p n) : cnt p (n + 1) = cnt p n := by simp only [cnt, if_neg h]; rfl
theorem cnt_le (p : Nat → Prop) : ∀ n, cnt p n ≤ n
  | 0 => Nat.le_refl _
  | n + 1 => by
    have := cnt_le p n
    by_cases h : p n
    · rw [cnt_t h]; omega
    · rw [cnt_f h]; omega
theorem cnt_congr {p q : Nat → Prop} : ∀ {n : Nat}, (∀ k, k < n → (p k ↔ q k)) → cnt p n = cnt q n
  | 0, _ => rfl
  | n + 1, h => by
    have ih := cnt_congr (n := n) (fun k hk => h k (by omega))
    by_cases hp : p n
    · rw [cnt_t hp, cnt_t ((h n (by omega)).mp hp), ih]
    · rw [cnt_f hp, cnt_f (fun hq => hp ((h n (by omega)).mpr hq)), ih]
def drM (μ : Nat → Int32) : Int32 := if μ 2 = 1 then μ 3 else if μ 2 = 3 then -μ 3 else 0
def swD (d : Int32) (μ : Nat → Int32) (k : Nat) : Int32 := 10 * nI k + d * μ (12 + 6 * k + 2)
def asM (μ : Nat → Int32) (k : Nat) : Int32 := drM μ * μ (12 + 6 * k + 2)
def swM (μ : Nat → Int32) (k : Nat) : Int32 := 10 * nI k + asM μ k
theorem swM_D {μ : Nat → Int32} {k : Nat} : swM μ k = swD (drM μ) μ k := rfl
def tgM (μ : Nat → Int32) (k : Nat) : Prop := ¬ μ (12 + 6 * k + 4) ≤ 0
def rdM (μ : Nat → Int32) (n k : Nat) : Prop := ¬ tgM μ k ∧ ∀ o, o < n → o ≠ k → swM μ o ≠ swM μ k
def sdD (d : Int32) (μ : Nat → Int32) (k : Nat) : Int32 := if swD d μ k = swD d μ (k + 1) then 0 else if swD d μ (k + 1) ≤ swD d μ k then 1 else -1
def sdM (μ : Nat → Int32) (k : Nat) : Int32 := sdD (drM μ) μ k
def wtM (μ : Nat → Int32) (k : Nat) : Prop := (asM μ k ≤ 10 + asM μ (k + 1) ∧ 10 + asM μ k ≤ asM μ (k + 1)) ∨ (10 + asM μ (k + 1) ≤ asM μ k ∧ asM μ (k + 1) ≤ 10 + asM μ k)
def bn (x : Int32) (lo hi : Nat) : Prop := ∃ i, lo ≤ i ∧ i ≤ hi ∧ x = nI i
/-- the wind is one, and lines have lengths -/
def WdR (μ : Nat → Int32) (n : Nat) : Prop := bn (μ 2) 0 3 ∧ bn (μ 3) 0 5 ∧ ∀ k, k < n → bn (μ (12 + 6 * k + 2)) 1 9
theorem dr_b {μ : Nat → Int32} (h : bn (μ 3) 0 5) : -5 ≤ (drM μ).toInt ∧ (drM μ).toInt ≤ 5 := by
  obtain ⟨s, -, hs, e⟩ := h
  unfold drM
  rw [e]
  have h1 : (nI s).toInt = s := nI_toInt (by omega)
  split
  · omega
  · split
    · rw [toI_neg (by omega) (by omega)]; omega
    · decide
theorem mul_b {a b : Int32} (ha : -5 ≤ a.toInt ∧ a.toInt ≤ 5) (hb : 0 ≤ b.toInt ∧ b.toInt ≤ 9) : (a * b).toInt = a.toInt * b.toInt ∧ -45 ≤ a.toInt * b.toInt ∧ a.toInt * b.toInt ≤ 45 := by
  have h1 : -45 ≤ a.toInt * b.toInt ∧ a.toInt * b.toInt ≤ 45 := by
    generalize a.toInt = x at ha
    generalize b.toInt = y at hb
    have hx : x = -5 ∨ x = -4 ∨ x = -3 ∨ x = -2 ∨ x = -1 ∨ x = 0 ∨ x = 1 ∨ x = 2 ∨ x = 3 ∨ x = 4 ∨ x = 5 := by omega
    rcases hx with rfl | rfl | rfl | rfl | rfl | rfl | rfl | rfl | rfl | rfl | rfl <;> omega
  refine ⟨?_, h1⟩
  rw [Int32.toInt_mul]
  exact Int.bmod_eq_of_le (by omega) (by omega)
theorem as_b {μ : Nat → Int32} {k : Nat} (h : bn (μ 3) 0 5) (hl : bn (μ (12 + 6 * k + 2)) 1 9) : -45 ≤ (asM μ k).toInt ∧ (asM μ k).toInt ≤ 45 := by
  obtain ⟨l, h1, h2, e⟩ := hl
  have hb : (μ (12 + 6 * k + 2)).toInt = l := by rw [e]; exact nI_toInt (by omega)
  have := mul_b (dr_b h) (b := μ (12 + 6 * k + 2)) (by omega)
  unfold asM
  omega
theorem ten_b {k : Nat} (h : k < 100) : (10 * nI k : Int32).toInt = 10 * k := by
  rw [l10, pk_mul, nI_toInt (by omega)]
  omega
theorem swD_b {d : Int32} {μ : Nat → Int32} {k : Nat} (hk : k < 100) (hd : -5 ≤ d.toInt ∧ d.toInt ≤ 5) (hl : bn (μ (12 + 6 * k + 2)) 1 9) : (swD d μ k).toInt = 10 * k + (d * μ (12 + 6 * k + 2)).toInt ∧ -45 ≤ (d * μ (12 + 6 * k + 2)).toInt ∧ (d * μ (12 + 6 * k + 2)).toInt ≤ 45 := by
  obtain ⟨l, h1, h2, e⟩ := hl
  have hb : (μ (12 + 6 * k + 2)).toInt = l := by rw [e]; exact nI_toInt (by omega)
  have := mul_b hd (b := μ (12 + 6 * k + 2)) (by omega)
  have ht := ten_b hk
  unfold swD
  rw [toI_add (by omega) (by omega)]
  omega
section MQ2
variable {N r k n : Nat} {σ : HP}
theorem aside_n (hk : k < 12) : F_X8_aside N r (nI k) σ = some (asM (σ r) k) := by
  unfold F_X8_aside asM drM
  rw [l2, of_n hk (by decide), bind_t, bd_t, show ix (nI 2) = 2 from rfl, show ix 3 = 3 from rfl]
  by_cases h1 : σ r 2 = 1
  · rw [if_pos h1, if_pos h1]
  · rw [if_neg h1, if_neg h1]
    by_cases h3 : σ r 2 = 3
    · rw [if_pos h3, if_pos h3, Int32.neg_mul]
    · rw [if_neg h3, if_neg h3, Int32.zero_mul]
theorem shown_n (hk : k < 12) : F_X8_shown N r (nI k) σ = some (swM (σ r) k) := by
  unfold F_X8_shown
  rw [aside_n hk]
  rfl
theorem isTangled_n (hk : k < 12) : F_X8_isTangled N r (nI k) σ = some (bI (tgM (σ r) k)) := by
  unfold F_X8_isTangled
  rw [l4, of_n hk (by decide), bind_t]
  by_cases h : tgM (σ r) k
  · rw [if_neg h, bI_t h]
  · rw [if_pos (Classical.not_not.mp h), bI_f h]
theorem isRead_l (hn : n ≤ 12) (h0 : σ r 0 = nI n) (hk : k < 12) : ∀ (d i m : Nat) (b : Prop), i + d = n → d < m → L_X8_isRead_16 N σ m r (nI k) (bI b) (nI i) = some (bI (b ∧ ∀ o, i ≤ o → o < n → o ≠ k → swM (σ r) o ≠ swM (σ r) k)) := by
  intro d
  induction d with
  | zero =>
    intro i m b hi hm
    obtain ⟨m, rfl⟩ : ∃ m', m = m' + 1 := ⟨m - 1, by omega⟩
    rw [L_X8_isRead_16, show ix 0 = 0 from rfl, h0]
    simp (disch := omega) only [le_n]
    rw [if_pos (by omega), l0, l1, bI_01, gd_True]
    exact congrArg some (bI_c ⟨fun h => ⟨h, fun o h1 h2 => by omega⟩, fun h => h.1⟩)
  | succ d ih =>
    intro i m b hi hm
    obtain ⟨m, rfl⟩ : ∃ m', m = m' + 1 := ⟨m - 1, by omega⟩
    rw [L_X8_isRead_16, show ix 0 = 0 from rfl, h0]
    simp (disch := omega) only [le_n]
    rw [if_neg (by omega)]
    by_cases hb : b
    · rw [bI_t hb, if_neg (by decide)]
      simp (disch := omega) only [eq_n]
      by_cases hik : i = k
      · rw [if_pos hik]
        unfold J_X8_isRead_45
        rw [nI_1, ← bI_t hb, ih (i + 1) m b (by omega) (by omega)]
        refine congrArg some (bI_c ⟨fun h => ⟨hb, fun o h1 h2 h3 => h.2 o (by omega) h2 h3⟩, fun h => ⟨hb, fun o h1 h2 h3 => h.2 o (by omega) h2 h3⟩⟩)
      · rw [if_neg hik, shown_n (by omega), bind_t, shown_n hk, bind_t]
        by_cases he : swM (σ r) i = swM (σ r) k
        · rw [if_pos he, nI_1, ← bI_f (c := False) id, ih (i + 1) m False (by omega) (by omega)]
          exact congrArg some (bI_c ⟨fun h => absurd h.1 id, fun h => absurd he (h.2 i (by omega) (by omega) hik)⟩)
        · rw [if_neg he]
          unfold J_X8_isRead_45
          rw [nI_1, ← bI_t hb, ih (i + 1) m b (by omega) (by omega)]
          refine congrArg some (bI_c ⟨fun h => ⟨hb, fun o h1 h2 h3 => ?_⟩, fun h => ⟨hb, fun o h1 h2 h3 => h.2 o (by omega) h2 h3⟩⟩)
          rcases Nat.lt_or_ge i o with q | q
          · exact h.2 o (by omega) h2 h3
          · rw [show o = i by omega]; exact he
    · rw [bI_f hb, if_pos rfl, nI_1, ← bI_f (c := False) id, ih (i + 1) m False (by omega) (by omega)]
      exact congrArg some (bI_c ⟨fun h => absurd h.1 id, fun h => absurd h.1 hb⟩)
theorem isRead_n (hN : 200 ≤ N) (hn : n ≤ 12) (h0 : σ r 0 = nI n) (hk : k < 12) : F_X8_isRead N r (nI k) σ = some (bI (rdM (σ r) n k)) := by
  unfold F_X8_isRead
  rw [isTangled_n hk, bind_t]
  have key : ∀ b : Prop, J_X8_isRead_13 N r (nI k) (bI b) σ = some (bI (b ∧ ∀ o, 0 ≤ o → o < n → o ≠ k → swM (σ r) o ≠ swM (σ r) k)) := fun b => by
    unfold J_X8_isRead_13
    exact isRead_l hn h0 hk n 0 N b (by omega) (by omega)
  by_cases h : tgM (σ r) k
  · rw [bI_t h, if_neg (by decide), ← bI_f (c := False) id, key]
    exact congrArg some (bI_c ⟨fun q => absurd q.1 id, fun q => absurd h q.1⟩)
  · rw [bI_f h, if_pos rfl, ← bI_t (c := True) trivial, key]
    exact congrArg some (bI_c ⟨fun q => ⟨h, fun o h1 h2 => q.2 o (Nat.zero_le _) h1 h2⟩, fun q => ⟨trivial, fun o _ h1 h2 => q.2 o h1 h2⟩⟩)
theorem readable_l (hN : 200 ≤ N) (hn : n ≤ 12) (h0 : σ r 0 = nI n) : ∀ (d i m : Nat), i + d = n → d < m → L_X8_readable_4 N σ m r (nI (cnt (rdM (σ r) n) i)) (nI i) = some (nI (cnt (rdM (σ r) n) n)) := by
  intro d
  induction d with
  | zero =>
    intro i m hi hm
    obtain ⟨m, rfl⟩ : ∃ m', m = m' + 1 := ⟨m - 1, by omega⟩
    rw [L_X8_readable_4, show ix 0 = 0 from rfl, h0]
    simp (disch := omega) only [le_n]
    rw [if_pos (by omega), show i = n by omega]
  | succ d ih =>
    intro i m hi hm
    obtain ⟨m, rfl⟩ : ∃ m', m = m' + 1 := ⟨m - 1, by omega⟩
    rw [L_X8_readable_4, show ix 0 = 0 from rfl, h0]
    simp (disch := omega) only [le_n]
    rw [if_neg (by omega), isRead_n hN hn h0 (by omega), bind_t]
    by_cases h : rdM (σ r) n i
    · rw [bI_t h, if_neg (by decide), bd_t, nI_1, nI_1, ← cnt_t h]
      exact ih (i + 1) m (by omega) (by omega)
    · rw [bI_f h, if_pos rfl, bd_t, nI_1, Int32.add_zero, ← cnt_f h]
      exact ih (i + 1) m (by omega) (by omega)
theorem readable_n (hN : 200 ≤ N) (hn : n ≤ 12) (h0 : σ r 0 = nI n) : F_X8_readable N r σ = some (nI (cnt (rdM (σ r) n) n)) := by
  unfold F_X8_readable
  exact readable_l hN hn h0 n 0 N (by omega) (by omega)
theorem relation_n (hk : k + 1 < 12) (h3 : bn (σ r 3) 0 5) (hl : bn (σ r (12 + 6 * k + 2)) 1 9) (hl2 : bn (σ r (12 + 6 * (k + 1) + 2)) 1 9) : F_X8_relation N r (nI k) σ = some (sdM (σ r) k) := by
  unfold F_X8_relation
  rw [shown_n (by omega), bind_t, nI_1, shown_n hk, bind_t, bd_t, swM_D, swM_D]
  have a := swD_b (μ := σ r) (k := k) (by omega) (dr_b h3) hl
  have b := swD_b (μ := σ r) (k := k + 1) (by omega) (dr_b h3) hl2
  have hs := toI_sub (a := swD (drM (σ r)) (σ r) k) (b := swD (drM (σ r)) (σ r) (k + 1)) (by omega) (by omega)
  have hz : (0 : Int32).toInt = 0 := rfl
  unfold sdM sdD
  simp only [Int32.le_iff_toInt_le, ← Int32.toInt_inj, hs, hz]
  split
  · split
    · rw [if_pos (by omega)]
    · rw [if_neg (by omega), if_pos (by omega)]
  · rw [if_neg (by omega), if_neg (by omega)]
theorem wouldTangle_n (hk : k + 1 < 12) : F_X8_wouldTangle N r (nI k) σ = some (bI (wtM (σ r) k)) := by
  unfold F_X8_wouldTangle
  rw [aside_n (by omega), bind_t, nI_1, aside_n hk, bind_t, bd_t, bind_t, bd_t, bind_t]
  unfold J_X8_wouldTangle_48 J_X8_wouldTangle_60
  have hw : wtM (σ r) k ↔ (((asM (σ r) k).toInt ≤ (10 + asM (σ r) (k + 1)).toInt ∧ (10 + asM (σ r) k).toInt ≤ (asM (σ r) (k + 1)).toInt) ∨ ((10 + asM (σ r) (k + 1)).toInt ≤ (asM (σ r) k).toInt ∧ (asM (σ r) (k + 1)).toInt ≤ (10 + asM (σ r) k).toInt)) := by
    unfold wtM
    simp only [Int32.le_iff_toInt_le]
  simp only [Int32.le_iff_toInt_le, Int32.lt_iff_toInt_lt]
  by_cases h : wtM (σ r) k
  · rw [bI_t h]
    have h := hw.mp h
    split
    · rw [if_neg (by omega), if_neg (by omega)]
    · split
      · rfl
      · rw [if_neg (by omega), if_neg (by omega)]
  · rw [bI_f h]
    have h := mt hw.mpr h
    split
    · rw [if_neg (by omega), if_pos (by omega)]
    · rw [if_neg (by omega)]
      split
      · rfl
      · rw [if_pos (by omega)]
theorem isSafe_n (hk : k + 1 < 12) : F_X8_isSafe N r (nI k) σ = some (bI (¬ tgM (σ r) k ∧ ¬ tgM (σ r) (k + 1) ∧ ¬ wtM (σ r) k)) := by
  unfold F_X8_isSafe
  rw [isTangled_n (by omega), bind_t, nI_1, isTangled_n hk, wouldTangle_n hk, bind_t, bind_t]
  by_cases h1 : tgM (σ r) k <;> by_cases h2 : tgM (σ r) (k + 1) <;> by_cases h3 : wtM (σ r) k <;> simp [bI, h1, h2, h3]
end MQ2
