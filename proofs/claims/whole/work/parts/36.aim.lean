/-! ===== the row as the crowd would read it, the word, and the fewest trades ===== -/
def plM (μ : Nat → Int32) (n i : Nat) : Nat := if μ 4 = 1 then n - 1 - i else i
def aM (μ : Nat → Int32) (n i : Nat) : Int32 := μ (12 + 6 * plM μ n i + 1)
def wdM (μ : Nat → Int32) (k : Nat) : Int32 := μ (108 + k)
def PsM (μ : Nat → Int32) (n l : Nat) : Prop := l ≠ 0 ∧ n = l ∧ Ps (aM μ n) (wdM μ) n
/-- which letter of the word the flier at a place stands for -/
noncomputable def tgtM (μ : Nat → Int32) (n x : Nat) : Nat := pick (fun k => k < n ∧ Mt (aM μ n) (wdM μ) (plM μ n x) k)
def WrM (μ : Nat → Int32) (u v : Nat) : Prop := if μ 4 = 0 then v < u else u < v
noncomputable def fwM (μ : Nat → Int32) (n : Nat) : Nat := dc (fun x y => x < y ∧ WrM μ (tgtM μ n x) (tgtM μ n y)) n
theorem plM_lt {μ : Nat → Int32} {n i : Nat} (h : i < n) : plM μ n i < n := by unfold plM; split <;> omega
theorem plM_plM {μ : Nat → Int32} {n i : Nat} (h : i < n) : plM μ n (plM μ n i) = i := by unfold plM; split <;> omega
theorem tgt_spec {μ : Nat → Int32} {n x : Nat} (h : Ps (aM μ n) (wdM μ) n) (hx : x < n) : tgtM μ n x < n ∧ Mt (aM μ n) (wdM μ) (plM μ n x) (tgtM μ n x) := pick_spec (h _ (plM_lt hx))
theorem tgt_of {μ : Nat → Int32} {n x k : Nat} (h : Ps (aM μ n) (wdM μ) n) (hx : x < n) (hk : Mt (aM μ n) (wdM μ) (plM μ n x) k) : tgtM μ n x = k := (tgt_spec h hx).2.one hk
theorem tgt_inj {μ : Nat → Int32} {n x y : Nat} (h : Ps (aM μ n) (wdM μ) n) (hx : x < n) (hy : y < n) (e : tgtM μ n x = tgtM μ n y) : x = y := by
  have h1 := (tgt_spec h hx).2
  have h2 := (tgt_spec h hy).2
  rw [e] at h1
  have := h1.inj h2
  rw [← plM_plM (μ := μ) hx, ← plM_plM (μ := μ) hy, this]
/-! bits of the fliers taken -/
theorem sh_k : ∀ k, k < 12 → ((nI k &&& 31).toBitVec.smod 32).toNat = k := by decide +kernel
theorem one_k : ∀ k, k < 12 → (1 : Int32) <<< (nI k &&& 31) = nI (2 ^ k) := by decide +kernel
theorem pow_k : ∀ k, k < 12 → 2 ^ k < 4096 := by decide +kernel
theorem bit_n {t k : Nat} (ht : t < 4096) (hk : k < 12) : ((nI t >>> (nI k &&& 31)) &&& 1 = 0) = (t.testBit k = false) := by
  rw [pk_shrN (by omega) _ k (sh_k k hk), pk_andN (k := 1) (by have := Nat.div_le_self t (2 ^ k); omega) (by rfl), l0, eq_n (by omega) (by omega)]
  rw [Nat.testBit_eq_decide_div_mod_eq]
  simp
theorem or_n {t k : Nat} (hk : k < 12) : nI t ||| (1 <<< (nI k &&& 31)) = nI (t ||| 2 ^ k) := by rw [one_k k hk, fa_or]
theorem or_b {t k j : Nat} : (t ||| 2 ^ k).testBit j = (t.testBit j || decide (k = j)) := by rw [Nat.testBit_or, Nat.testBit_two_pow]
theorem or_lt {t k : Nat} (ht : t < 4096) (hk : k < 12) : t ||| 2 ^ k < 4096 := Nat.or_lt_two_pow (n := 12) ht (pow_k k hk)
section AIM
variable {N p q n e l : Nat} {σ σ0 : HP} {μ : Nat → Int32}
theorem first_hit {c : Int32} {t k : Nat} (hW : WordR σ q μ l) (ht : t < 4096) (hk : k < l) (he : μ (108 + k) = c) (hb : t.testBit k = false) (hf : ∀ j, j < k → μ (108 + j) = c → t.testBit j = true) : ∀ (d i m : Nat), i + d = k → d < m → L_X0_firstFree_2 N σ m q c (nI t) (nI i) = some (nI k) := by
  have hl := hW.1
  intro d
  induction d with
  | zero =>
    intro i m hi hm
    obtain ⟨m, rfl⟩ : ∃ m', m = m' + 1 := ⟨m - 1, by omega⟩
    obtain rfl : i = k := by omega
    rw [L_X0_firstFree_2, hW.2.2.1]
    simp (disch := omega) only [le_n, in_n, gd_True, ix_n]
    rw [if_neg (by omega), hW.2.2.2.1 i hk, if_pos he, if_pos (by rw [bit_n ht (by omega)]; exact hb)]
  | succ d ih =>
    intro i m hi hm
    obtain ⟨m, rfl⟩ : ∃ m', m = m' + 1 := ⟨m - 1, by omega⟩
    rw [L_X0_firstFree_2, hW.2.2.1]
    simp (disch := omega) only [le_n, in_n, gd_True, ix_n]
    rw [if_neg (by omega), hW.2.2.2.1 i (by omega), nI_1]
    by_cases h1 : μ (108 + i) = c
    · rw [if_pos h1, if_neg (by rw [bit_n ht (by omega), hf i (by omega) h1]; decide)]
      exact ih (i + 1) m (by omega) (by omega)
    · rw [if_neg h1]
      exact ih (i + 1) m (by omega) (by omega)
theorem first_miss {c : Int32} {t : Nat} (hW : WordR σ q μ l) (ht : t < 4096) (hf : ∀ j, j < l → μ (108 + j) = c → t.testBit j = true) : ∀ (d i m : Nat), i + d = l → d < m → L_X0_firstFree_2 N σ m q c (nI t) (nI i) = some (-1) := by
  have hl := hW.1
  intro d
  induction d with
  | zero =>
    intro i m hi hm
    obtain ⟨m, rfl⟩ : ∃ m', m = m' + 1 := ⟨m - 1, by omega⟩
    rw [L_X0_firstFree_2, hW.2.2.1]
    simp (disch := omega) only [le_n]
    rw [if_pos (by omega)]
  | succ d ih =>
    intro i m hi hm
    obtain ⟨m, rfl⟩ : ∃ m', m = m' + 1 := ⟨m - 1, by omega⟩
    rw [L_X0_firstFree_2, hW.2.2.1]
    simp (disch := omega) only [le_n, in_n, gd_True, ix_n]
    rw [if_neg (by omega), hW.2.2.2.1 i (by omega), nI_1]
    by_cases h1 : μ (108 + i) = c
    · rw [if_pos h1, if_neg (by rw [bit_n ht (by omega), hf i (by omega) h1]; decide)]
      exact ih (i + 1) m (by omega) (by omega)
    · rw [if_neg h1]
      exact ih (i + 1) m (by omega) (by omega)
/-- the aim object (138, its row at 139): the first i ranks have their letters -/
def TgR (σ : HP) (μ : Nat → Int32) (n i : Nat) : Prop := ∀ j, j < i → ∃ k, k < n ∧ Mt (aM μ n) (wdM μ) j k ∧ σ 139 (plM μ n j) = nI k
theorem find_l (hN : 200 ≤ N) (hR : RowR σ0 (p + 1) μ n e) (hW : WordR σ0 (p + 17) μ n) (hp : p + 19 ≤ 136) (h1 : σ0 138 1 = μ 4) (h4 : μ 4 = 0 ∨ μ 4 = 1) : ∀ (d i m t : Nat) (σ : HP), i + d = n → d < m → t < 4096 →
    (∀ k, k < 12 → (t.testBit k = true ↔ (k < n ∧ ∃ j, j < i ∧ Mt (aM μ n) (wdM μ) j k))) → TgR σ μ n i → (∀ j, j ≠ 139 → σ j = σ0 j) →
    (Ps (aM μ n) (wdM μ) n → ∃ σ', L_X0_findTargets_5 N m 138 (p + 1) (p + 17) (nI t) (nI i) σ = some (1, σ') ∧ (∀ j, j ≠ 139 → σ' j = σ0 j) ∧ TgR σ' μ n n) ∧
    (¬ Ps (aM μ n) (wdM μ) n → ∃ σ', L_X0_findTargets_5 N m 138 (p + 1) (p + 17) (nI t) (nI i) σ = some (0, σ') ∧ ∀ j, j ≠ 139 → σ' j = σ0 j) := by
  have hn := hR.1
  intro d
  induction d with
  | zero =>
    intro i m t σ hi hm ht hb hT hσ
    obtain ⟨m, rfl⟩ : ∃ m', m = m' + 1 := ⟨m - 1, by omega⟩
    obtain rfl : i = n := by omega
    rw [L_X0_findTargets_5, hσ (p + 1) (by omega), hR.2.2.2.2.2.1, if_pos (by rw [le_n (by omega) (by omega)]; exact Nat.le_refl _)]
    refine ⟨fun _ => ⟨σ, rfl, hσ, hT⟩, fun hno => absurd (fun j hj => ?_) hno⟩
    obtain ⟨k, hk, hM, -⟩ := hT j hj
    exact ⟨k, hk, hM⟩
  | succ d ih =>
    intro i m t σ hi hm ht hb hT hσ
    obtain ⟨m, rfl⟩ : ∃ m', m = m' + 1 := ⟨m - 1, by omega⟩
    have hRσ : RowR σ (p + 1) μ n e := hR.congr (fun j q1 q2 => hσ j (by omega)) rfl rfl (fun _ _ _ => rfl)
    have hWσ : WordR σ (p + 17) μ n := hW.congr (fun j q1 q2 => hσ j (by omega)) rfl (fun _ _ _ => rfl)
    have hpl := plM_lt (μ := μ) (show i < n by omega)
    have e5 : L_X0_findTargets_5 N (m + 1) 138 (p + 1) (p + 17) (nI t) (nI i) σ = J_X0_findTargets_35 (L_X0_findTargets_5 N m) N 138 (p + 1) (p + 17) (nI t) (nI i) (nI (plM μ n i)) σ := by
      rw [L_X0_findTargets_5, hRσ.2.2.2.2.2.1, if_neg (by rw [le_n (by omega) (by omega)]; omega), hσ 138 (by decide), h1]
      unfold plM
      rcases h4 with h4 | h4
      · rw [h4, if_pos rfl, if_neg (by decide)]
      · rw [h4, if_neg (by decide), if_pos rfl, l1, sub_n (by omega), sub_n (by omega)]
    rw [e5]
    unfold J_X0_findTargets_35
    simp (disch := omega) only [in_n, gd_True, ix_n]
    rw [(hRσ.2.2.2.2.2.2.2.1 _ hpl).2.1, show μ (12 + 6 * plM μ n i + 1) = aM μ n i from rfl]
    by_cases hex : ∃ k, k < n ∧ Mt (aM μ n) (wdM μ) i k
    · obtain ⟨k, hk, hM⟩ := hex
      have hF : F_X0_firstFree N (p + 17) (aM μ n i) (nI t) σ = some (nI k) := by
        unfold F_X0_firstFree
        refine first_hit hWσ ht hk hM.1.symm ?_ ?_ k 0 N (by omega) (by omega)
        · rw [Bool.eq_false_iff]
          intro z
          obtain ⟨-, j, hj, hMj⟩ := (hb k (by omega)).mp z
          exact hM.free hj hMj
        · intro j hj ej
          obtain ⟨i', h5, h6⟩ := hM.first hk hj ej
          exact (hb j (by omega)).mpr ⟨by omega, i', h5, h6⟩
      rw [hF, bind_t, if_neg (by rw [show (-1 : Int32) = -nI 1 from rfl, nne_m1 (by omega)]; exact id), or_n (by omega), bd_t, bd_t, nI_1]
      refine ih (i + 1) m (t ||| 2 ^ k) _ (by omega) (by omega) (or_lt ht (by omega)) ?_ ?_ (fun j hj => by rw [wr_n hj]; exact hσ j hj)
      · intro k' hk'
        rw [or_b, Bool.or_eq_true, hb k' hk', decide_eq_true_eq]
        refine ⟨fun h => ?_, fun ⟨h, j, hj, hMj⟩ => ?_⟩
        · rcases h with ⟨h, j, hj, hMj⟩ | rfl
          · exact ⟨h, j, by omega, hMj⟩
          · exact ⟨hk, i, by omega, hM⟩
        · rcases Nat.lt_or_ge j i with z | z
          · exact Or.inl ⟨h, j, z, hMj⟩
          · obtain rfl : j = i := by omega
            exact Or.inr (hM.one hMj)
      · intro j hj
        rcases Nat.lt_or_ge j i with z | z
        · obtain ⟨k', a1, a2, a3⟩ := hT j z
          refine ⟨k', a1, a2, ?_⟩
          rw [wr_s, upd_n (fun q => ?_)]
          · exact a3
          · have b1 := plM_plM (μ := μ) (show j < n by omega)
            have b2 := plM_plM (μ := μ) (show i < n by omega)
            rw [q, b2] at b1
            omega
        · obtain rfl : j = i := by omega
          exact ⟨k, hk, hM, by rw [wr_s, upd_s]⟩
    · have hF : F_X0_firstFree N (p + 17) (aM μ n i) (nI t) σ = some (-1) := by
        unfold F_X0_firstFree
        refine first_miss hWσ ht (fun j hj ej => ?_) n 0 N (by omega) (by omega)
        refine Classical.byContradiction fun z => hex (Mt.found hj ej (fun i' hi' hM => z ?_))
        exact (hb j (by omega)).mpr ⟨hj, i', hi', hM⟩
      rw [hF, bind_t, if_pos rfl]
      exact ⟨fun h => absurd (h i (by omega)) hex, fun _ => ⟨σ, rfl, hσ⟩⟩
theorem find_n (hN : 200 ≤ N) (hR : RowR σ (p + 1) μ n e) (hW : WordR σ (p + 17) μ n) (hp : p + 19 ≤ 136) (h1 : σ 138 1 = μ 4) (h4 : μ 4 = 0 ∨ μ 4 = 1) :
    (Ps (aM μ n) (wdM μ) n → ∃ σ', F_X0_findTargets N 138 (p + 1) (p + 17) σ = some (1, σ') ∧ (∀ j, j ≠ 139 → σ' j = σ j) ∧ ∀ x, x < n → σ' 139 x = nI (tgtM μ n x)) ∧
    (¬ Ps (aM μ n) (wdM μ) n → ∃ σ', F_X0_findTargets N 138 (p + 1) (p + 17) σ = some (0, σ') ∧ ∀ j, j ≠ 139 → σ' j = σ j) := by
  have hn := hR.1
  have h := find_l hN hR hW hp h1 h4 n 0 N 0 σ (by omega) (by omega) (by decide) (fun k _ => ⟨fun z => by rw [Nat.zero_testBit] at z; exact absurd z (by decide), fun ⟨_, j, hj, _⟩ => absurd hj (Nat.not_lt_zero _)⟩) (fun j hj => absurd hj (Nat.not_lt_zero _)) (fun _ _ => rfl)
  refine ⟨fun hPs => ?_, fun hno => h.2 hno⟩
  obtain ⟨σ', a1, a2, a3⟩ := h.1 hPs
  refine ⟨σ', a1, a2, fun x hx => ?_⟩
  obtain ⟨k, b1, b2, b3⟩ := a3 (plM μ n x) (plM_lt hx)
  rw [plM_plM hx] at b3
  rw [b3, tgt_of hPs hx b2]
/-- what the aim holds behind a match that was found -/
def AimR (σ : HP) (μ : Nat → Int32) (n : Nat) : Prop := σ 138 1 = μ 4 ∧ Ps (aM μ n) (wdM μ) n ∧ ∀ x, x < n → σ 139 x = nI (tgtM μ n x)
theorem wrong_n (hA : AimR σ μ n) (hn : n ≤ 12) {x y : Nat} (hx : x < n) (hy : y < n) : F_X0_isWrongPair N 138 (nI x) (nI y) σ = some (bI (WrM μ (tgtM μ n x) (tgtM μ n y))) := by
  obtain ⟨h1, h2, h3⟩ := hA
  have a1 := (tgt_spec h2 hx).1
  have a2 := (tgt_spec h2 hy).1
  unfold F_X0_isWrongPair WrM
  simp (disch := omega) only [in_n, gd_True, ix_n]
  rw [h1, h3 x hx, h3 y hy]
  simp (disch := omega) only [le_n]
  by_cases c : μ 4 = 0
  · rw [if_pos c, if_pos c]
    by_cases z : tgtM μ n x ≤ tgtM μ n y
    · rw [if_pos z, bI_f (by omega)]
    · rw [if_neg z, bI_t (by omega)]
  · rw [if_neg c, if_neg c]
    by_cases z : tgtM μ n y ≤ tgtM μ n x
    · rw [if_pos z, bI_f (by omega)]
    · rw [if_neg z, bI_t (by omega)]
theorem cw_in {k4 : Nat → Int32 → Int32 → Int32 → Option Int32} (hN : 200 ≤ N) (hA : AimR σ μ n) (hn : n ≤ 12) {x s : Nat} (hx : x < n) : ∀ (d y m : Nat), y + d = n → d < m → x < y →
    L_X0_countWrongPairs_14 k4 N σ m 138 (nI n) (nI (s + cnt (fun y => x < y ∧ WrM μ (tgtM μ n x) (tgtM μ n y)) y)) (nI x) (nI y) = k4 138 (nI n) (nI (s + cnt (fun y => x < y ∧ WrM μ (tgtM μ n x) (tgtM μ n y)) n)) (nI (x + 1)) := by
  intro d
  induction d with
  | zero =>
    intro y m hy hm hxy
    obtain ⟨m, rfl⟩ : ∃ m', m = m' + 1 := ⟨m - 1, by omega⟩
    obtain rfl : y = n := by omega
    rw [L_X0_countWrongPairs_14, if_pos (by rw [le_n (by omega) (by omega)]; exact Nat.le_refl _), nI_1]
  | succ d ih =>
    intro y m hy hm hxy
    obtain ⟨m, rfl⟩ : ∃ m', m = m' + 1 := ⟨m - 1, by omega⟩
    rw [L_X0_countWrongPairs_14, if_neg (by rw [le_n (by omega) (by omega)]; omega), wrong_n hA hn hx (by omega), bind_t, nI_1, nI_1]
    by_cases z : WrM μ (tgtM μ n x) (tgtM μ n y)
    · rw [bI_t z, if_neg (by decide), ← ih (y + 1) m (by omega) (by omega) (by omega), cnt_t (p := fun y => x < y ∧ WrM μ (tgtM μ n x) (tgtM μ n y)) ⟨hxy, z⟩]
      rfl
    · rw [bI_f z, if_pos rfl, ← ih (y + 1) m (by omega) (by omega) (by omega), cnt_f (p := fun y => x < y ∧ WrM μ (tgtM μ n x) (tgtM μ n y)) (fun q => z q.2)]
theorem cw_out (hN : 200 ≤ N) (hA : AimR σ μ n) (hn : n ≤ 12) : ∀ (d x m : Nat), x + d = n → d < m →
    L_X0_countWrongPairs_4 N σ m 138 (nI n) (nI (sm (fun x => cnt (fun y => x < y ∧ WrM μ (tgtM μ n x) (tgtM μ n y)) n) x)) (nI x) = some (nI (fwM μ n)) := by
  intro d
  induction d with
  | zero =>
    intro x m hy hm
    obtain ⟨m, rfl⟩ : ∃ m', m = m' + 1 := ⟨m - 1, by omega⟩
    obtain rfl : x = n := by omega
    rw [L_X0_countWrongPairs_4, if_pos (by rw [le_n (by omega) (by omega)]; exact Nat.le_refl _)]
    rfl
  | succ d ih =>
    intro x m hy hm
    obtain ⟨m, rfl⟩ : ∃ m', m = m' + 1 := ⟨m - 1, by omega⟩
    rw [L_X0_countWrongPairs_4, if_neg (by rw [le_n (by omega) (by omega)]; omega), bd_t, nI_1]
    have h0 : cnt (fun y => x < y ∧ WrM μ (tgtM μ n x) (tgtM μ n y)) (x + 1) = 0 := by
      have : ∀ z, z ≤ x + 1 → cnt (fun y => x < y ∧ WrM μ (tgtM μ n x) (tgtM μ n y)) z = 0 := by
        intro z
        induction z with
        | zero => intro _; rfl
        | succ z ihz => intro hz; rw [cnt_f (p := fun y => x < y ∧ WrM μ (tgtM μ n x) (tgtM μ n y)) (fun q => by have := q.1; omega), ihz (by omega)]
      exact this _ (Nat.le_refl _)
    have h1 := cw_in (k4 := L_X0_countWrongPairs_4 N σ m) (s := sm (fun x => cnt (fun y => x < y ∧ WrM μ (tgtM μ n x) (tgtM μ n y)) n) x) hN hA hn (show x < n by omega) (n - (x + 1)) (x + 1) N (by omega) (by omega) (by omega)
    rw [h0, Nat.add_zero] at h1
    exact h1.trans (ih (x + 1) m (by omega) (by omega))
/-- behind Aim.match -/
def AimP (σ : HP) (μ : Nat → Int32) (n l : Nat) : Prop := (PsM μ n l → σ 138 2 = 1 ∧ σ 138 3 = nI (fwM μ n) ∧ AimR σ μ n) ∧ (¬ PsM μ n l → σ 138 2 = 0)
def Rest4 (σ σ' : HP) : Prop := ∀ j, j ≠ 138 → j ≠ 139 → σ' j = σ j
theorem match_n (hN : 200 ≤ N) (hR : RowR σ (p + 1) μ n e) (hW : WordR σ (p + 17) μ l) (hp : p + 19 ≤ 136) (h7 : σ p 7 = μ 4) (h4 : μ 4 = 0 ∨ μ 4 = 1) : ∃ σ', F_X0_match N 138 p σ = some σ' ∧ Rest4 σ σ' ∧ AimP σ' μ n l := by
  have hn := hR.1
  have hl := hW.1
  unfold F_X0_match
  rw [h7, gd_t h4, bd_t, bd_t]
  generalize hs : wr (wr σ 138 1 (μ 4)) 138 3 0 = s
  have hsr : ∀ j, j ≠ 138 → s j = σ j := fun j hj => by rw [← hs, wr_n hj, wr_n hj]
  have hs1 : s 138 1 = μ 4 := by rw [← hs, wr_s, upd_n (by decide), wr_s, upd_s]
  have hRs : RowR s (p + 1) μ n e := hR.congr (fun j q1 q2 => hsr j (by omega)) rfl rfl (fun _ _ _ => rfl)
  have hWs : WordR s (p + 17) μ l := hW.congr (fun j q1 q2 => hsr j (by omega)) rfl (fun _ _ _ => rfl)
  rw [hWs.2.2.1, hRs.2.2.2.2.2.1]
  have hfail : ∀ s' : HP, (∀ j, j ≠ 139 → s' j = s j) → ¬ PsM μ n l → ∃ σ', J_X0_match_60 N 138 p 138 s' = some σ' ∧ Rest4 σ σ' ∧ AimP σ' μ n l := by
    intro s' hs' hno
    unfold J_X0_match_60 J_X0_match_61
    rw [gd_t (Or.inl rfl), bd_t, wr_s, upd_s, if_pos rfl]
    exact ⟨_, rfl, fun j q1 q2 => by rw [wr_n q1, hs' j q2, hsr j q1], fun q => absurd q hno, fun _ => by rw [wr_s, upd_s]⟩
  by_cases c1 : l ≤ 0
  · rw [if_pos (show nI l ≤ 0 from by rw [l0, le_n (by omega) (by omega)]; exact c1)]
    exact hfail s (fun _ _ => rfl) (fun q => q.1 (by omega))
  · rw [if_neg (show ¬ nI l ≤ 0 from by rw [l0, le_n (by omega) (by omega)]; exact c1)]
    by_cases c2 : l = n
    · rw [if_pos (show nI l = nI n from by rw [c2])]
      subst c2
      have hf := find_n hN hRs hWs hp hs1 h4
      by_cases hPs : Ps (aM μ l) (wdM μ) l
      · obtain ⟨s', a1, a2, a3⟩ := hf.1 hPs
        rw [a1, bind2_t, if_neg (by decide)]
        unfold J_X0_match_61
        rw [gd_t (Or.inr rfl), bd_t]
        have hA : AimR (wr s' 138 2 1) μ l := ⟨by rw [wr_s, upd_n (by decide), a2 138 (by decide)]; exact hs1, hPs, fun x hx => by rw [wr_n (by decide)]; exact a3 x hx⟩
        have hc := cw_out hN hA hn l 0 N (by omega) (by omega)
        rw [wr_s, upd_s, if_neg (by decide), wr_n (by omega), a2 (p + 1) (by omega), hRs.2.2.2.2.2.1]
        unfold F_X0_countWrongPairs
        rw [show L_X0_countWrongPairs_4 N (wr s' 138 2 1) N 138 (nI l) 0 0 = some (nI (fwM μ l)) from hc, bind_t, bd_t]
        refine ⟨_, rfl, fun j q1 q2 => by rw [wr_n q1, wr_n q1, a2 j q2, hsr j q1], fun _ => ⟨by rw [wr_s, upd_n (by decide), wr_s, upd_s], by rw [wr_s, upd_s], ?_⟩, fun q => absurd ⟨by omega, rfl, hPs⟩ q⟩
        exact ⟨by rw [wr_s, upd_n (by decide)]; exact hA.1, hPs, fun x hx => by rw [wr_n (by decide)]; exact hA.2.2 x hx⟩
      · obtain ⟨s', a1, a2⟩ := hf.2 hPs
        rw [a1, bind2_t, if_pos rfl]
        exact hfail s' a2 (fun q => hPs q.2.2)
    · rw [if_neg (show ¬ nI l = nI n from by rw [eq_n (by omega) (by omega)]; exact c2)]
      exact hfail s (fun _ _ => rfl) (fun q => c2 q.2.1.symm)
end AIM
