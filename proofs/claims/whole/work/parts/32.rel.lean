/-! ===== a state of the class at p, and a row of numbers μ of the reference: one state ===== -/
def MateR (σ : HP) (q : Nat) (μ : Nat → Int32) (n k : Nat) : Prop :=
  (σ (q + 4) k = 0 ∧ μ (12 + 6 * k + 4) = 0) ∨
  (σ (q + 4) k = 1 ∧ μ (12 + 6 * k + 4) ≠ 0 ∧ k + 1 < n ∧ σ (q + 4) (k + 1) = -1 ∧ μ (12 + 6 * k + 3) = μ (12 + 6 * (k + 1)) ∧ μ (12 + 6 * (k + 1) + 4) = μ (12 + 6 * k + 4)) ∨
  (σ (q + 4) k = -1 ∧ μ (12 + 6 * k + 4) ≠ 0 ∧ ∃ i, k = i + 1 ∧ σ (q + 4) i = 1 ∧ μ (12 + 6 * k + 3) = μ (12 + 6 * i) ∧ μ (12 + 6 * i + 4) = μ (12 + 6 * k + 4))
def FlR (σ : HP) (q : Nat) (μ : Nat → Int32) (e k : Nat) : Prop :=
  σ (q + 1) k = μ (12 + 6 * k) ∧ σ (q + 2) k = μ (12 + 6 * k + 1) ∧ σ (q + 3) k = μ (12 + 6 * k + 2) ∧ σ (q + 5) k = μ (12 + 6 * k + 4) ∧ σ (q + 6) k = μ (12 + 6 * k + 5) ∧
  (∃ i, i < e ∧ μ (12 + 6 * k) = nI i) ∧ bn (μ (12 + 6 * k + 2)) 1 9 ∧ bn (μ (12 + 6 * k + 4)) 0 9
def RowR (σ : HP) (q : Nat) (μ : Nat → Int32) (n e : Nat) : Prop :=
  n ≤ 12 ∧ n ≤ e ∧ e ≤ 99 ∧ μ 0 = nI n ∧ μ 10 = nI e ∧ σ q 6 = nI n ∧ σ q 7 = nI e ∧ (∀ k, k < n → FlR σ q μ e k) ∧ (∀ k, k < n → MateR σ q μ n k) ∧ (∀ i k, i < n → k < n → μ (12 + 6 * i) = μ (12 + 6 * k) → i = k)
def TuR (σ : HP) (q : Nat) (μ : Nat → Int32) (mi k : Nat) : Prop :=
  σ (q + 1) k = μ (84 + 3 * k) ∧ σ (q + 2) k = μ (84 + 3 * k + 1) ∧ σ (q + 3) k = μ (84 + 3 * k + 2) ∧ bn (μ (84 + 3 * k)) (mi + 1) 9999 ∧ bn (μ (84 + 3 * k + 1)) 0 3 ∧ bn (μ (84 + 3 * k + 2)) 0 5
def PlanR (σ : HP) (q : Nat) (μ : Nat → Int32) (t mi : Nat) : Prop :=
  t ≤ 8 ∧ μ 6 = nI t ∧ σ q 3 = nI t ∧ (∀ k, k < t → TuR σ q μ mi k) ∧ (∀ i k, i < k → k < t → μ (84 + 3 * i) < μ (84 + 3 * k))
def LogR (σ : HP) (q : Nat) (μ : Nat → Int32) (g : Nat) : Prop :=
  g ≤ 8 ∧ μ 11 = nI g ∧ σ q 4 = nI g ∧ σ q 5 = μ 9 ∧ ∀ k, k < g → σ (q + 1) k = μ (120 + 4 * k) ∧ σ (q + 2) k = μ (120 + 4 * k + 1) ∧ σ (q + 3) k = μ (120 + 4 * k + 2) ∧ σ (q + 4) k = μ (120 + 4 * k + 3)
def WordR (σ : HP) (q : Nat) (μ : Nat → Int32) (l : Nat) : Prop :=
  l ≤ 12 ∧ μ 7 = nI l ∧ σ q 1 = nI l ∧ (∀ k, k < l → σ (q + 1) k = μ (108 + k)) ∧ ∀ k, k < 12 → fits .char (.int (σ (q + 1) k)) = true
def ScR (σ : HP) (p : Nat) (μ : Nat → Int32) (mi : Nat) : Prop :=
  μ 1 = nI mi ∧ σ p 4 = nI mi ∧ σ p 5 = μ 2 ∧ σ p 6 = μ 3 ∧ σ p 7 = μ 4 ∧ σ p 8 = μ 5 ∧ σ p 9 = μ 8 ∧ bn (μ 2) 0 3 ∧ bn (μ 3) 0 5 ∧ (μ 4 = 0 ∨ μ 4 = 1) ∧ bn (μ 5) 1 9
def SRx (σ : HP) (p : Nat) (μ : Nat → Int32) (n e t g l mi : Nat) : Prop :=
  RowR σ (p + 1) μ n e ∧ PlanR σ (p + 8) μ t mi ∧ LogR σ (p + 12) μ g ∧ WordR σ (p + 17) μ l ∧ ScR σ p μ mi
def SR (σ : HP) (p : Nat) (μ : Nat → Int32) (B : Nat) : Prop := ∃ n e t g l mi, mi ≤ B ∧ SRx σ p μ n e t g l mi
/-! what a part rests on -/
theorem RowR.congr {σ σ' : HP} {q : Nat} {μ μ' : Nat → Int32} {n e : Nat} (h : RowR σ q μ n e) (hs : ∀ j, q ≤ j → j ≤ q + 6 → σ' j = σ j) (h0 : μ' 0 = μ 0) (h10 : μ' 10 = μ 10) (hm : ∀ i, 12 ≤ i → i < 84 → μ' i = μ i) : RowR σ' q μ' n e := by
  obtain ⟨a1, a2, a3, a4, a5, a6, a7, a8, a9, a10⟩ := h
  have hM : ∀ k w, k < 12 → w < 6 → μ' (12 + 6 * k + w) = μ (12 + 6 * k + w) := fun k w h1 h2 => hm _ (by omega) (by omega)
  have hM0 : ∀ k, k < 12 → μ' (12 + 6 * k) = μ (12 + 6 * k) := fun k h1 => hm _ (by omega) (by omega)
  have hq0 := hs q (by omega) (by omega)
  have hq1 := hs (q + 1) (by omega) (by omega)
  have hq2 := hs (q + 2) (by omega) (by omega)
  have hq3 := hs (q + 3) (by omega) (by omega)
  have hq4 := hs (q + 4) (by omega) (by omega)
  have hq5 := hs (q + 5) (by omega) (by omega)
  have hq6 := hs (q + 6) (by omega) (by omega)
  refine ⟨a1, a2, a3, by rw [h0]; exact a4, by rw [h10]; exact a5, by rw [hq0]; exact a6, by rw [hq0]; exact a7, fun k hk => ?_, fun k hk => ?_, fun i k hi hk => ?_⟩
  · have := a8 k hk
    unfold FlR at this ⊢
    rw [hq1, hq2, hq3, hq5, hq6, hM0 k (by omega), hM k 1 (by omega) (by decide), hM k 2 (by omega) (by decide), hM k 4 (by omega) (by decide), hM k 5 (by omega) (by decide)]
    exact this
  · have := a9 k hk
    unfold MateR at this ⊢
    rw [hq4, hM k 3 (by omega) (by decide), hM k 4 (by omega) (by decide)]
    rcases this with h | h | ⟨h1, h2, i, h3, h4, h5, h6⟩
    · exact Or.inl h
    · refine Or.inr (Or.inl ?_)
      rw [hM0 (k + 1) (by omega), hM (k + 1) 4 (by omega) (by decide)]
      exact h
    · refine Or.inr (Or.inr ⟨h1, h2, i, h3, h4, ?_⟩)
      rw [hM0 i (by omega), hM i 4 (by omega) (by decide)]
      exact ⟨h5, h6⟩
  · rw [hM0 i (by omega), hM0 k (by omega)]
    exact a10 i k hi hk
theorem PlanR.congr {σ σ' : HP} {q : Nat} {μ μ' : Nat → Int32} {t mi : Nat} (h : PlanR σ q μ t mi) (hs : ∀ j, q ≤ j → j ≤ q + 3 → σ' j = σ j) (h6 : μ' 6 = μ 6) (hm : ∀ i, 84 ≤ i → i < 108 → μ' i = μ i) : PlanR σ' q μ' t mi := by
  obtain ⟨a1, a2, a3, a4, a5⟩ := h
  refine ⟨a1, by rw [h6]; exact a2, by rw [hs q (by omega) (by omega)]; exact a3, fun k hk => ?_, fun i k hi hk => ?_⟩
  · have := a4 k hk
    unfold TuR at this ⊢
    rw [hs (q + 1) (by omega) (by omega), hs (q + 2) (by omega) (by omega), hs (q + 3) (by omega) (by omega), hm (84 + 3 * k) (by omega) (by omega), hm (84 + 3 * k + 1) (by omega) (by omega), hm (84 + 3 * k + 2) (by omega) (by omega)]
    exact this
  · rw [hm (84 + 3 * k) (by omega) (by omega), hm (84 + 3 * i) (by omega) (by omega)]
    exact a5 i k hi hk
theorem LogR.congr {σ σ' : HP} {q : Nat} {μ μ' : Nat → Int32} {g : Nat} (h : LogR σ q μ g) (hs : ∀ j, q ≤ j → j ≤ q + 4 → σ' j = σ j) (h9 : μ' 9 = μ 9) (h11 : μ' 11 = μ 11) (hm : ∀ i, 120 ≤ i → i < 152 → μ' i = μ i) : LogR σ' q μ' g := by
  obtain ⟨a1, a2, a3, a4, a5⟩ := h
  refine ⟨a1, by rw [h11]; exact a2, by rw [hs q (by omega) (by omega)]; exact a3, by rw [hs q (by omega) (by omega), h9]; exact a4, fun k hk => ?_⟩
  have := a5 k hk
  rw [hs (q + 1) (by omega) (by omega), hs (q + 2) (by omega) (by omega), hs (q + 3) (by omega) (by omega), hs (q + 4) (by omega) (by omega), hm (120 + 4 * k) (by omega) (by omega), hm (120 + 4 * k + 1) (by omega) (by omega), hm (120 + 4 * k + 2) (by omega) (by omega), hm (120 + 4 * k + 3) (by omega) (by omega)]
  exact this
theorem WordR.congr {σ σ' : HP} {q : Nat} {μ μ' : Nat → Int32} {l : Nat} (h : WordR σ q μ l) (hs : ∀ j, q ≤ j → j ≤ q + 1 → σ' j = σ j) (h7 : μ' 7 = μ 7) (hm : ∀ i, 108 ≤ i → i < 120 → μ' i = μ i) : WordR σ' q μ' l := by
  obtain ⟨a1, a2, a3, a4, a5⟩ := h
  refine ⟨a1, by rw [h7]; exact a2, by rw [hs q (by omega) (by omega)]; exact a3, fun k hk => ?_, fun k hk => ?_⟩
  · rw [hs (q + 1) (by omega) (by omega), hm (108 + k) (by omega) (by omega)]
    exact a4 k hk
  · rw [hs (q + 1) (by omega) (by omega)]
    exact a5 k hk
theorem ScR.congr {σ σ' : HP} {p : Nat} {μ μ' : Nat → Int32} {mi : Nat} (h : ScR σ p μ mi) (hs : σ' p = σ p) (hm : ∀ i, 1 ≤ i → i < 9 → i ≠ 6 → i ≠ 7 → μ' i = μ i) : ScR σ' p μ' mi := by
  unfold ScR at h ⊢
  rw [hs, hm 1 (by omega) (by omega) (by omega) (by omega), hm 2 (by omega) (by omega) (by omega) (by omega), hm 3 (by omega) (by omega) (by omega) (by omega), hm 4 (by omega) (by omega) (by omega) (by omega), hm 5 (by omega) (by omega) (by omega) (by omega), hm 8 (by omega) (by omega) (by omega) (by omega)]
  exact h
theorem SRx.frame {σ σ' : HP} {p : Nat} {μ μ' : Nat → Int32} {n e t g l mi : Nat} (h : SRx σ p μ n e t g l mi) (hs : ∀ j, p ≤ j → j < p + 19 → σ' j = σ j) (hm : ∀ i, i < 152 → μ' i = μ i) : SRx σ' p μ' n e t g l mi :=
  ⟨h.1.congr (fun j h1 h2 => hs j (by omega) (by omega)) (hm _ (by omega)) (hm _ (by omega)) (fun i h1 h2 => hm i (by omega)),
   h.2.1.congr (fun j h1 h2 => hs j (by omega) (by omega)) (hm _ (by omega)) (fun i h1 h2 => hm i (by omega)),
   h.2.2.1.congr (fun j h1 h2 => hs j (by omega) (by omega)) (hm _ (by omega)) (hm _ (by omega)) (fun i h1 h2 => hm i (by omega)),
   h.2.2.2.1.congr (fun j h1 h2 => hs j (by omega) (by omega)) (hm _ (by omega)) (fun i h1 h2 => hm i (by omega)),
   h.2.2.2.2.congr (hs p (by omega) (by omega)) (fun i h1 h2 _ _ => hm i (by omega))⟩
theorem SR.frame {σ σ' : HP} {p B : Nat} {μ μ' : Nat → Int32} (h : SR σ p μ B) (hs : ∀ j, p ≤ j → j < p + 19 → σ' j = σ j) (hm : ∀ i, i < 152 → μ' i = μ i) : SR σ' p μ' B := by
  obtain ⟨n, e, t, g, l, mi, h1, h2⟩ := h
  exact ⟨n, e, t, g, l, mi, h1, h2.frame hs hm⟩
theorem RowR.wd {σ : HP} {q : Nat} {μ : Nat → Int32} {n e : Nat} (h : RowR σ q μ n e) {k : Nat} (hk : k < n) : bn (μ (12 + 6 * k + 2)) 1 9 := (h.2.2.2.2.2.2.2.1 k hk).2.2.2.2.2.2.1
/-- tangled, by either -/
theorem RowR.tg {σ : HP} {q : Nat} {μ : Nat → Int32} {n e : Nat} (h : RowR σ q μ n e) {k : Nat} (hk : k < n) : σ (q + 4) k = 0 ↔ ¬ tgM μ k := by
  have h4 := (h.2.2.2.2.2.2.2.1 k hk).2.2.2.2.2.2.2
  obtain ⟨i, -, hi, e4⟩ := h4
  have hM := h.2.2.2.2.2.2.2.2.1 k hk
  have hpos : μ (12 + 6 * k + 4) ≠ 0 → ¬ μ (12 + 6 * k + 4) ≤ 0 := by
    rw [e4, l0, le_n (by omega) (by omega)]
    intro h1 h2
    exact h1 (by rw [show i = 0 by omega])
  unfold tgM
  rcases hM with ⟨h1, h2⟩ | ⟨h1, h2, -⟩ | ⟨h1, h2, -⟩
  · refine ⟨fun _ => ?_, fun _ => h1⟩
    rw [h2]
    decide
  · refine ⟨fun q => ?_, fun q => absurd (hpos h2) q⟩
    rw [h1] at q
    exact absurd q (by decide)
  · refine ⟨fun q => ?_, fun q => absurd (hpos h2) q⟩
    rw [h1] at q
    exact absurd q (by decide)
/-! the class's readings -/
def sg (x y : Int) : Int32 := if x = y then 0 else if y ≤ x then 1 else -1
theorem sg_lt {x y : Int} (h : x < y) : sg x y = -1 := by unfold sg; rw [if_neg (by omega), if_neg (by omega)]
theorem sg_eq {x y : Int} (h : x = y) : sg x y = 0 := by unfold sg; rw [if_pos h]
theorem sg_gt {x y : Int} (h : y < x) : sg x y = 1 := by unfold sg; rw [if_neg (by omega), if_pos (by omega)]
section CQ
variable {N p q n e k : Nat} {σ : HP} {μ : Nat → Int32}
theorem drift_n (h5 : σ p 5 = μ 2) (h6 : σ p 6 = μ 3) : F_X4_drift N p σ = some (drM μ) := by
  unfold F_X4_drift drM
  rw [h5, h6]
  split
  · rfl
  · split <;> rfl
theorem cTangled_n (h : RowR σ q μ n e) (hk : k < n) : F_X3_isTangled N q (nI k) σ = some (bI (tgM μ k)) := by
  have hn := h.1
  unfold F_X3_isTangled
  simp (disch := omega) only [in_n, gd_True, ix_n]
  by_cases ht : tgM μ k
  · rw [if_neg (fun z => (h.tg hk).mp z ht), bI_t ht]
  · rw [if_pos ((h.tg hk).mpr ht), bI_f ht]
theorem cPair_n (h : RowR σ q μ n e) (hk : k + 1 < n) : F_X3_isPairFree N q (nI k) σ = some (bI (¬ tgM μ k ∧ ¬ tgM μ (k + 1))) := by
  unfold F_X3_isPairFree
  rw [cTangled_n h (by omega), bind_t, nI_1, cTangled_n h hk]
  by_cases h1 : tgM μ k <;> by_cases h2 : tgM μ (k + 1) <;> simp [bI, h1, h2]
theorem cShown_n (h : RowR σ q μ n e) (hk : k < n) (d : Int32) : F_X3_shownAt N q (nI k) d σ = some (swD d μ k) := by
  have hn := h.1
  unfold F_X3_shownAt
  simp (disch := omega) only [in_n, gd_True, ix_n]
  rw [(h.2.2.2.2.2.2.2.1 k hk).2.2.1]
  rfl
theorem sideOf_n (a b : Int32) : F_X7_sideOf N a b σ = some (if a = b then 0 else if b ≤ a then 1 else -1) := by
  unfold F_X7_sideOf
  split
  · rfl
  · split <;> rfl
theorem cSide_n (h : RowR σ q μ n e) (hk : k + 1 < n) (d : Int32) : F_X3_sideAt N q (nI k) d σ = some (sdD d μ k) := by
  unfold F_X3_sideAt
  rw [cShown_n h (by omega), bind_t, nI_1, cShown_n h hk, bind_t, sideOf_n, bind_t]
  rfl
theorem sg_of (a b : Int32) : (if a = b then 0 else if b ≤ a then 1 else -1 : Int32) = sg a.toInt b.toInt := by
  unfold sg
  simp only [Int32.le_iff_toInt_le, Int32.toInt_inj]
theorem cWould_n (h : RowR σ q μ n e) (hk : k + 1 < n) (h3 : bn (μ 3) 0 5) : F_X3_wouldTangle N q (nI k) (drM μ) σ = some (bI (wtM μ k)) := by
  have hn := h.1
  unfold F_X3_wouldTangle
  rw [cSide_n h hk, bind_t, nI_1]
  simp (disch := omega) only [in_n, gd_True, ix_n]
  rw [(h.2.2.2.2.2.2.2.1 k (by omega)).2.2.1, (h.2.2.2.2.2.2.2.1 (k + 1) (by omega)).2.2.1, sideOf_n, bind_t]
  have a1 := as_b (μ := μ) h3 (h.wd (k := k) (by omega))
  have a2 := as_b (μ := μ) h3 (h.wd (k := k + 1) (by omega))
  have t1 := ten_b (k := k) (by omega)
  have t2 := ten_b (k := k + 1) (by omega)
  have b1 : (swD (drM μ) μ k).toInt = 10 * k + (asM μ k).toInt := by
    unfold swD
    rw [show drM μ * μ (12 + 6 * k + 2) = asM μ k from rfl, toI_add (by omega) (by omega)]; omega
  have b2 : (swD (drM μ) μ (k + 1)).toInt = 10 * (k + 1) + (asM μ (k + 1)).toInt := by
    unfold swD
    rw [show drM μ * μ (12 + 6 * (k + 1) + 2) = asM μ (k + 1) from rfl, toI_add (by omega) (by omega)]; omega
  have b3 : (10 * nI (k + 1) + drM μ * μ (12 + 6 * k + 2) : Int32).toInt = 10 * (k + 1) + (asM μ k).toInt := by
    rw [show drM μ * μ (12 + 6 * k + 2) = asM μ k from rfl, toI_add (by omega) (by omega)]; omega
  have b4 : (10 * nI k + drM μ * μ (12 + 6 * (k + 1) + 2) : Int32).toInt = 10 * k + (asM μ (k + 1)).toInt := by
    rw [show drM μ * μ (12 + 6 * (k + 1) + 2) = asM μ (k + 1) from rfl, toI_add (by omega) (by omega)]; omega
  have c1 : (10 + asM μ (k + 1)).toInt = 10 + (asM μ (k + 1)).toInt := by
    rw [toI_add (by rw [show (10 : Int32).toInt = 10 from rfl]; omega) (by rw [show (10 : Int32).toInt = 10 from rfl]; omega)]; rfl
  have c2 : (10 + asM μ k).toInt = 10 + (asM μ k).toInt := by
    rw [toI_add (by rw [show (10 : Int32).toInt = 10 from rfl]; omega) (by rw [show (10 : Int32).toInt = 10 from rfl]; omega)]; rfl
  unfold J_X3_wouldTangle_57 sdD
  have hw : wtM μ k ↔ (((asM μ k).toInt ≤ 10 + (asM μ (k + 1)).toInt ∧ 10 + (asM μ k).toInt ≤ (asM μ (k + 1)).toInt) ∨ (10 + (asM μ (k + 1)).toInt ≤ (asM μ k).toInt ∧ (asM μ (k + 1)).toInt ≤ 10 + (asM μ k).toInt)) := by
    unfold wtM
    simp only [Int32.le_iff_toInt_le, c1, c2]
  rw [sg_of, sg_of, b1, b2, b3, b4]
  generalize (asM μ k).toInt = u at *
  generalize (asM μ (k + 1)).toInt = v at *
  have hwt : ∀ (c : Prop), (c ↔ wtM μ k) → bI (wtM μ k) = bI c := fun c hc => bI_c hc.symm
  rcases Int.lt_trichotomy (10 * k + u) (10 * (k + 1) + v) with x1 | x1 | x1 <;> rcases Int.lt_trichotomy (10 * (k + 1) + u) (10 * k + v) with x2 | x2 | x2
  · rw [sg_lt x1, sg_lt x2, if_neg (by decide), if_neg (by decide), if_pos rfl, bI_t (hw.mpr (by omega))]
  · rw [sg_lt x1, sg_eq x2, if_neg (by decide), if_pos rfl, bI_t (hw.mpr (by omega))]
  · rw [sg_lt x1, sg_gt x2, if_neg (by decide), if_neg (by decide), if_neg (by decide), bI_f (mt hw.mp (by omega))]
  · rw [sg_eq x1, if_pos rfl, bI_t (hw.mpr (by omega))]
  · rw [sg_eq x1, if_pos rfl, bI_t (hw.mpr (by omega))]
  · rw [sg_eq x1, if_pos rfl, bI_t (hw.mpr (by omega))]
  · rw [sg_gt x1, sg_lt x2, if_neg (by decide), if_neg (by decide), if_neg (by decide), bI_f (mt hw.mp (by omega))]
  · rw [sg_gt x1, sg_eq x2, if_neg (by decide), if_pos rfl, bI_t (hw.mpr (by omega))]
  · rw [sg_gt x1, sg_gt x2, if_neg (by decide), if_neg (by decide), if_pos rfl, bI_t (hw.mpr (by omega))]
theorem cSafe_n (h : RowR σ (p + 1) μ n e) (hk : k + 1 < n) (h5 : σ p 5 = μ 2) (h6 : σ p 6 = μ 3) (h3 : bn (μ 3) 0 5) : F_X4_isSafe N p (nI k) σ = some (bI (¬ tgM μ k ∧ ¬ tgM μ (k + 1) ∧ ¬ wtM μ k)) := by
  unfold F_X4_isSafe
  rw [cPair_n h hk, bind_t, drift_n h5 h6, bind_t, cWould_n h hk h3, bind_t]
  by_cases h1 : tgM μ k <;> by_cases h2 : tgM μ (k + 1) <;> by_cases h3 : wtM μ k <;> simp [bI, h1, h2, h3]
theorem cRead_l (h : RowR σ q μ n e) (hk : k < n) (dr : Int32) : ∀ (d i m : Nat), i + d = n → d < m → L_X3_canBeRead_20 N σ m q (nI k) dr (swD dr μ k) (nI i) = some (bI (∀ o, i ≤ o → o < n → o ≠ k → swD dr μ o ≠ swD dr μ k)) := by
  have hn := h.1
  intro d
  induction d with
  | zero =>
    intro i m hi hm
    obtain ⟨m, rfl⟩ : ∃ m', m = m' + 1 := ⟨m - 1, by omega⟩
    rw [L_X3_canBeRead_20, h.2.2.2.2.2.1]
    simp (disch := omega) only [le_n]
    rw [if_pos (by omega), bI_t (fun o h1 h2 => by omega)]
  | succ d ih =>
    intro i m hi hm
    obtain ⟨m, rfl⟩ : ∃ m', m = m' + 1 := ⟨m - 1, by omega⟩
    rw [L_X3_canBeRead_20, h.2.2.2.2.2.1]
    simp (disch := omega) only [le_n, eq_n]
    rw [if_neg (by omega)]
    by_cases hik : i = k
    · rw [if_pos hik, nI_1, ih (i + 1) m (by omega) (by omega)]
      exact congrArg some (bI_c ⟨fun h o h1 h2 h3 => h o (by omega) h2 h3, fun h o h1 h2 h3 => h o (by omega) h2 h3⟩)
    · rw [if_neg hik, cShown_n h (by omega), bind_t]
      by_cases he : swD dr μ i = swD dr μ k
      · rw [if_pos he, bI_f (fun q => q i (by omega) (by omega) hik he)]
      · rw [if_neg he, nI_1, ih (i + 1) m (by omega) (by omega)]
        refine congrArg some (bI_c ⟨fun h o h1 h2 h3 => ?_, fun h o h1 h2 h3 => h o (by omega) h2 h3⟩)
        rcases Nat.lt_or_ge i o with q | q
        · exact h o (by omega) h2 h3
        · rw [show o = i by omega]; exact he
theorem cRead_n (hN : 200 ≤ N) (h : RowR σ q μ n e) (hk : k < n) : F_X3_canBeRead N q (nI k) (drM μ) σ = some (bI (rdM μ n k)) := by
  have hn := h.1
  unfold F_X3_canBeRead
  rw [cTangled_n h hk, bind_t]
  by_cases ht : tgM μ k
  · rw [bI_t ht, if_neg (by decide), bI_f (fun q => q.1 ht)]
  · rw [bI_f ht, if_pos rfl, cShown_n h hk, bind_t, l0, cRead_l h hk _ n 0 N (by omega) (by omega)]
    exact congrArg some (bI_c ⟨fun q => ⟨ht, fun o h1 h2 => q o (Nat.zero_le _) h1 h2⟩, fun q o _ h1 h2 => q.2 o h1 h2⟩)
end CQ
