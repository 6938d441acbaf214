/-! ===== ranks by a key ===== -/
theorem cnt_mono {p q : Nat → Prop} : ∀ {n : Nat}, (∀ k, k < n → p k → q k) → cnt p n ≤ cnt q n
  | 0, _ => Nat.le_refl _
  | n + 1, h => by
    have ih := cnt_mono (p := p) (q := q) (n := n) (fun k hk => h k (by omega))
    by_cases hp : p n
    · rw [cnt_t hp, cnt_t (h n (by omega) hp)]; omega
    · rw [cnt_f hp]
      by_cases hq : q n
      · rw [cnt_t hq]; omega
      · rw [cnt_f hq]; exact ih
theorem cnt_lt {p q : Nat → Prop} {i : Nat} : ∀ {n : Nat}, (∀ k, k < n → p k → q k) → i < n → q i → ¬ p i → cnt p n < cnt q n
  | 0, _, hi, _, _ => absurd hi (Nat.not_lt_zero _)
  | n + 1, h, hi, hq, hp => by
    by_cases e : i = n
    · subst e
      have := cnt_mono (p := p) (q := q) (n := i) (fun k hk => h k (by omega))
      rw [cnt_t hq, cnt_f hp]; omega
    · have ih := cnt_lt (p := p) (q := q) (n := n) (fun k hk => h k (by omega)) (show i < n by omega) hq hp
      by_cases hp' : p n
      · rw [cnt_t hp', cnt_t (h n (by omega) hp')]; omega
      · rw [cnt_f hp']
        by_cases hq' : q n
        · rw [cnt_t hq']; omega
        · rw [cnt_f hq']; exact ih
/-- how many of P below i have a smaller key than k -/
noncomputable def rkf (P : Nat → Prop) (f : Nat → Int) (i k : Nat) : Nat := cnt (fun q => f q < f k ∧ P q) i
section RK
variable {P : Nat → Prop} {f : Nat → Int}
theorem rkf_lt {i a b : Nat} (ha : a < i) (hP : P a) (h : f a < f b) : rkf P f i a < rkf P f i b :=
  cnt_lt (i := a) (fun k _ q => ⟨by omega, q.2⟩) ha ⟨h, hP⟩ (fun q => by omega)
theorem rkf_le {i a b : Nat} (h : f a ≤ f b) : rkf P f i a ≤ rkf P f i b := cnt_mono (fun k _ q => ⟨by omega, q.2⟩)
theorem rkf_cnt {i k : Nat} (hk : k < i) (hP : P k) : rkf P f i k < cnt P i := cnt_lt (i := k) (fun k _ q => q.2) hk hP (fun q => by omega)
theorem rkf_top {i k : Nat} : rkf P f i k ≤ cnt P i := cnt_mono (fun k _ q => q.2)
theorem rkf_succ_lt {i k : Nat} (h : f k < f i) : rkf P f (i + 1) k = rkf P f i k := by
  unfold rkf
  rw [cnt_f (fun q => by omega)]
theorem rkf_succ_gt {i k : Nat} (h : f i < f k) (hP : P i) : rkf P f (i + 1) k = rkf P f i k + 1 := by
  unfold rkf
  rw [cnt_t ⟨h, hP⟩]
theorem rkf_succ_self {i : Nat} : rkf P f (i + 1) i = rkf P f i i := by
  unfold rkf
  rw [cnt_f (fun q => by omega)]
theorem rkf_succ_not {i k : Nat} (hP : ¬ P i) : rkf P f (i + 1) k = rkf P f i k := by
  unfold rkf
  rw [cnt_f (fun q => hP q.2)]
theorem rkf_onto {M : Nat} (hf : ∀ a b, a < M → b < M → P a → P b → f a = f b → a = b) : ∀ (i j : Nat), i ≤ M → j < cnt P i → ∃ k, k < i ∧ P k ∧ rkf P f i k = j := by
  intro i
  induction i with
  | zero => intro j _ h; exact absurd h (Nat.not_lt_zero _)
  | succ i ih =>
    intro j hM h
    have ih := fun j => ih j (by omega)
    by_cases hP : P i
    · rw [cnt_t hP] at h
      rcases Nat.lt_trichotomy j (rkf P f i i) with q | q | q
      · obtain ⟨k, hk, pk, e⟩ := ih j (by have := rkf_top (P := P) (f := f) (i := i) (k := i); omega)
        refine ⟨k, by omega, pk, ?_⟩
        rcases Int.lt_trichotomy (f k) (f i) with z | z | z
        · rw [rkf_succ_lt z, e]
        · have := rkf_le (P := P) (i := i) (f := f) (a := i) (b := k) (by omega); omega
        · have := rkf_le (P := P) (i := i) (f := f) (a := i) (b := k) (by omega); omega
      · exact ⟨i, by omega, hP, by rw [rkf_succ_self]; omega⟩
      · obtain ⟨k, hk, pk, e⟩ := ih (j - 1) (by omega)
        refine ⟨k, by omega, pk, ?_⟩
        rcases Int.lt_trichotomy (f k) (f i) with z | z | z
        · have := rkf_lt (i := i) hk pk z; omega
        · exact absurd (hf k i (by omega) (by omega) pk hP z) (by omega)
        · rw [rkf_succ_gt z hP, e]; omega
    · rw [cnt_f hP] at h
      obtain ⟨k, hk, pk, e⟩ := ih j h
      exact ⟨k, by omega, pk, by rw [rkf_succ_not hP, e]⟩
end RK
/-! ===== the order in which the crowd reads ===== -/
def keyM (μ : Nat → Int32) (k : Nat) : Int := if μ 4 = 1 then -(swM μ k).toInt else (swM μ k).toInt
noncomputable def rkM (μ : Nat → Int32) (n k : Nat) : Nat := rkf (rdM μ n) (keyM μ) n k
theorem key_inj {μ : Nat → Int32} {n a b : Nat} (ha : a < n) (pb : rdM μ n b) (h : keyM μ a = keyM μ b) : a = b := by
  refine Classical.byContradiction fun q => pb.2 a ha q ?_
  unfold keyM at h
  refine Int32.toInt_inj.mp ?_
  split at h <;> omega
section RKM
variable {N r n : Nat} {σ : HP}
theorem ranked_in {k2 : Nat → Int32 → Int32 → Option Int32} {a : Int32} {p : Nat} (hN : 200 ≤ N) (hn : n ≤ 12) (h0 : σ r 0 = nI n) (hp : p < n) : ∀ (d i m : Nat), i + d = n → d < m → L_X8_ranked_14 k2 N σ m r a (nI p) (nI (rkf (rdM (σ r) n) (keyM (σ r)) i p)) (nI i) = @ite _ (rdM (σ r) n p ∧ nI (rkM (σ r) n p) = a) (Classical.propDecidable _) (some (nI p)) (k2 r a (nI (p + 1))) := by
  intro d
  induction d with
  | zero =>
    intro i m hi hm
    obtain ⟨m, rfl⟩ : ∃ m', m = m' + 1 := ⟨m - 1, by omega⟩
    rw [L_X8_ranked_14, show ix 0 = 0 from rfl, show ix 4 = 4 from rfl, h0]
    simp (disch := omega) only [le_n]
    rw [if_pos (by omega), isRead_n hN hn h0 (by omega), bind_t, show i = n by omega]
    by_cases h : rdM (σ r) n p
    · rw [bI_t h, if_neg (by decide)]
      by_cases e : nI (rkf (rdM (σ r) n) (keyM (σ r)) n p) = a
      · rw [if_pos e, if_pos ⟨h, e⟩]
      · rw [if_neg e, if_neg (fun q => e q.2), nI_1]
    · rw [bI_f h, if_pos rfl, if_neg (fun q => h q.1), nI_1]
  | succ d ih =>
    intro i m hi hm
    obtain ⟨m, rfl⟩ : ∃ m', m = m' + 1 := ⟨m - 1, by omega⟩
    rw [L_X8_ranked_14, show ix 0 = 0 from rfl, show ix 4 = 4 from rfl, h0]
    simp (disch := omega) only [le_n]
    rw [if_neg (by omega), shown_n (by omega), shown_n (by omega)]
    simp only [bind_t]
    have hno : ∀ c : Prop, ¬ (keyM (σ r) i < keyM (σ r) p) → J_X8_ranked_70 k2 (L_X8_ranked_14 k2 N σ m) N r a (nI p) (nI (rkf (rdM (σ r) n) (keyM (σ r)) i p)) (nI i) 0 σ = @ite _ (rdM (σ r) n p ∧ nI (rkM (σ r) n p) = a) (Classical.propDecidable _) (some (nI p)) (k2 r a (nI (p + 1))) := by
      intro _ h
      unfold J_X8_ranked_70
      rw [if_pos rfl, bd_t, Int32.add_zero, nI_1, ← ih (i + 1) m (by omega) (by omega)]
      unfold rkf
      rw [cnt_f (fun q => h q.1)]
    have hyes : keyM (σ r) i < keyM (σ r) p → J_X8_ranked_70 k2 (L_X8_ranked_14 k2 N σ m) N r a (nI p) (nI (rkf (rdM (σ r) n) (keyM (σ r)) i p)) (nI i) 1 σ = @ite _ (rdM (σ r) n p ∧ nI (rkM (σ r) n p) = a) (Classical.propDecidable _) (some (nI p)) (k2 r a (nI (p + 1))) := by
      intro h
      unfold J_X8_ranked_70
      rw [if_neg (by decide), isRead_n hN hn h0 (by omega), bind_t]
      by_cases hr : rdM (σ r) n i
      · rw [bI_t hr, if_neg (by decide), bd_t, nI_1, nI_1, ← ih (i + 1) m (by omega) (by omega)]
        unfold rkf
        rw [cnt_t (n := i) ⟨h, hr⟩]
      · rw [bI_f hr, if_pos rfl, bd_t, Int32.add_zero, nI_1, ← ih (i + 1) m (by omega) (by omega)]
        unfold rkf
        rw [cnt_f (n := i) (fun q => hr q.2)]
    by_cases h4 : σ r 4 = 1
    · rw [if_pos h4]
      by_cases hle : swM (σ r) i ≤ swM (σ r) p
      · rw [if_pos hle]
        refine hno True ?_
        unfold keyM
        rw [if_pos h4, if_pos h4]
        rw [Int32.le_iff_toInt_le] at hle
        omega
      · rw [if_neg hle]
        refine hyes ?_
        unfold keyM
        rw [if_pos h4, if_pos h4]
        rw [Int32.le_iff_toInt_le] at hle
        omega
    · rw [if_neg h4]
      by_cases hle : swM (σ r) p ≤ swM (σ r) i
      · rw [if_pos hle]
        refine hno True ?_
        unfold keyM
        rw [if_neg h4, if_neg h4]
        rw [Int32.le_iff_toInt_le] at hle
        omega
      · rw [if_neg hle]
        refine hyes ?_
        unfold keyM
        rw [if_neg h4, if_neg h4]
        rw [Int32.le_iff_toInt_le] at hle
        omega
theorem ranked_hit_l {a : Int32} {k : Nat} (hN : 200 ≤ N) (hn : n ≤ 12) (h0 : σ r 0 = nI n) (hk : k < n) (hr : rdM (σ r) n k) (ha : nI (rkM (σ r) n k) = a) : ∀ (d i m : Nat), i + d = k → d < m → L_X8_ranked_2 N σ m r a (nI i) = some (nI k) := by
  intro d
  induction d with
  | zero =>
    intro i m hi hm
    obtain ⟨m, rfl⟩ : ∃ m', m = m' + 1 := ⟨m - 1, by omega⟩
    rw [L_X8_ranked_2, show ix 0 = 0 from rfl, h0]
    simp (disch := omega) only [le_n]
    rw [if_neg (by omega), show i = k by omega]
    have := ranked_in (k2 := L_X8_ranked_2 N σ m) (a := a) hN hn h0 hk n 0 N (by omega) (by omega)
    rw [if_pos ⟨hr, ha⟩] at this
    exact this
  | succ d ih =>
    intro i m hi hm
    obtain ⟨m, rfl⟩ : ∃ m', m = m' + 1 := ⟨m - 1, by omega⟩
    rw [L_X8_ranked_2, show ix 0 = 0 from rfl, h0]
    simp (disch := omega) only [le_n]
    rw [if_neg (by omega)]
    have := ranked_in (k2 := L_X8_ranked_2 N σ m) (a := a) (p := i) hN hn h0 (by omega) n 0 N (by omega) (by omega)
    rw [if_neg] at this
    · exact this.trans (ih (i + 1) m (by omega) (by omega))
    · rintro ⟨q1, q2⟩
      have h1 := rkf_cnt (P := rdM (σ r) n) (f := keyM (σ r)) (i := n) (k := i) (by omega) q1
      have h2 := rkf_cnt (P := rdM (σ r) n) (f := keyM (σ r)) (i := n) hk hr
      have h3 := cnt_le (rdM (σ r) n) n
      have e : rkM (σ r) n i = rkM (σ r) n k := (nI_eq (by unfold rkM; omega) (by unfold rkM; omega)).mp (q2.trans ha.symm)
      rcases Int.lt_trichotomy (keyM (σ r) i) (keyM (σ r) k) with z | z | z
      · have := rkf_lt (i := n) (show i < n by omega) q1 z; unfold rkM at e; omega
      · have := key_inj (show i < n by omega) hr z; omega
      · have := rkf_lt (i := n) hk hr z; unfold rkM at e; omega
theorem ranked_hit {k : Nat} (hN : 200 ≤ N) (hn : n ≤ 12) (h0 : σ r 0 = nI n) (hk : k < n) (hr : rdM (σ r) n k) : F_X8_ranked N r (nI (rkM (σ r) n k)) σ = some (nI k) := by
  unfold F_X8_ranked
  exact ranked_hit_l hN hn h0 hk hr rfl k 0 N (by omega) (by omega)
theorem ranked_miss_l {a : Int32} (hN : 200 ≤ N) (hn : n ≤ 12) (h0 : σ r 0 = nI n) (ha : ∀ k, k < n → rdM (σ r) n k → ¬ nI (rkM (σ r) n k) = a) : ∀ (d i m : Nat), i + d = n → d < m → L_X8_ranked_2 N σ m r a (nI i) = some (-1000005) := by
  intro d
  induction d with
  | zero =>
    intro i m hi hm
    obtain ⟨m, rfl⟩ : ∃ m', m = m' + 1 := ⟨m - 1, by omega⟩
    rw [L_X8_ranked_2, show ix 0 = 0 from rfl, h0]
    simp (disch := omega) only [le_n]
    rw [if_pos (by omega)]
  | succ d ih =>
    intro i m hi hm
    obtain ⟨m, rfl⟩ : ∃ m', m = m' + 1 := ⟨m - 1, by omega⟩
    rw [L_X8_ranked_2, show ix 0 = 0 from rfl, h0]
    simp (disch := omega) only [le_n]
    rw [if_neg (by omega)]
    have := ranked_in (k2 := L_X8_ranked_2 N σ m) (a := a) (p := i) hN hn h0 (by omega) n 0 N (by omega) (by omega)
    rw [if_neg (fun q => ha i (by omega) q.1 q.2)] at this
    exact this.trans (ih (i + 1) m (by omega) (by omega))
theorem ranked_miss {a : Int32} (hN : 200 ≤ N) (hn : n ≤ 12) (h0 : σ r 0 = nI n) (ha : ∀ k, k < n → rdM (σ r) n k → ¬ nI (rkM (σ r) n k) = a) : F_X8_ranked N r a σ = some (-1000005) := by
  unfold F_X8_ranked
  exact ranked_miss_l hN hn h0 ha n 0 N (by omega) (by omega)
end RKM
/-! ===== the class's look: the places, sorted ===== -/
/-- the reading object (136, its row at 137) holds the places of P below i, by rank -/
def LkR (σ : HP) (P : Nat → Prop) (f : Nat → Int) (i : Nat) : Prop := σ 136 1 = nI (cnt P i) ∧ ∀ k, k < i → P k → σ 137 (rkf P f i k) = nI k
def Rest2 (σ σ' : HP) : Prop := ∀ j, j ≠ 136 → j ≠ 137 → σ' j = σ j
section LK
variable {N p n e i : Nat} {σ0 : HP} {μ : Nat → Int32}
theorem insert_l (hR : RowR σ0 (p + 1) μ n e) (hp : p + 19 ≤ 136) (h7 : σ0 p 7 = μ 4) (h4 : μ 4 = 0 ∨ μ 4 = 1) (hi : i < n) (hPi : rdM μ n i) (pl : Nat → Int32)
    (hpl : ∀ k, k < i → rdM μ n k → pl (rkf (rdM μ n) (keyM μ) i k) = nI k) : ∀ (d t m : Nat) (σ : HP), rkf (rdM μ n) (keyM μ) i i + d = t → t ≤ cnt (rdM μ n) i → d < m →
    (∀ j, j < p + 19 → σ j = σ0 j) → σ 136 1 = nI (cnt (rdM μ n) i) → (∀ j, j < 12 → σ 137 j = if t < j ∧ j ≤ cnt (rdM μ n) i then pl (j - 1) else pl j) →
    ∃ σ', L_X2_insert_17 N m 136 p (nI i) (drM μ) (swM μ i) (nI t) σ = some σ' ∧ Rest2 σ σ' ∧ σ' 136 1 = nI (cnt (rdM μ n) i + 1) ∧ σ' 137 (rkf (rdM μ n) (keyM μ) i i) = nI i ∧ ∀ j, j < 12 → j ≠ rkf (rdM μ n) (keyM μ) i i → σ' 137 j = if rkf (rdM μ n) (keyM μ) i i < j ∧ j ≤ cnt (rdM μ n) i then pl (j - 1) else pl j := by
  have hn := hR.1
  have hcn := cnt_le (rdM μ n) i
  intro d
  generalize hc : rkf (rdM μ n) (keyM μ) i i = c
  have J : ∀ (m : Nat) (σ : HP), c ≤ cnt (rdM μ n) i → σ 136 1 = nI (cnt (rdM μ n) i) → (∀ j, j < 12 → σ 137 j = if c < j ∧ j ≤ cnt (rdM μ n) i then pl (j - 1) else pl j) →
      ∃ σ', J_X2_insert_85 N 136 (nI i) (nI c) σ = some σ' ∧ Rest2 σ σ' ∧ σ' 136 1 = nI (cnt (rdM μ n) i + 1) ∧ σ' 137 c = nI i ∧ ∀ j, j < 12 → j ≠ c → σ' 137 j = if c < j ∧ j ≤ cnt (rdM μ n) i then pl (j - 1) else pl j := by
    intro m σ hct h1 h2
    unfold J_X2_insert_85
    simp (disch := omega) only [in_n, gd_True, ix_n, bd_t]
    refine ⟨_, rfl, fun j q1 q2 => ?_, ?_, ?_, fun j hj hne => ?_⟩
    · rw [wr_n q1, wr_n q2]
    · rw [wr_s, upd_s, wr_n (by decide), h1, nI_1]
    · rw [wr_n (by decide), wr_s, upd_s]
    · rw [wr_n (by decide), wr_s, upd_n hne]
      exact h2 j hj
  have key : ∀ (t m : Nat) (σ : HP), 0 < t → t ≤ cnt (rdM μ n) i → (∀ j, j < p + 19 → σ j = σ0 j) → σ 137 (t - 1) = pl (t - 1) →
      L_X2_insert_17 N (m + 1) 136 p (nI i) (drM μ) (swM μ i) (nI t) σ = if t ≤ c then J_X2_insert_85 N 136 (nI i) (nI t) σ else L_X2_insert_17 N m 136 p (nI i) (drM μ) (swM μ i) (nI (t - 1)) (wr σ 137 t (pl (t - 1))) := by
    intro t m σ h0t htc hσ hpt
    have hRσ : RowR σ (p + 1) μ n e := hR.congr (fun j q1 q2 => hσ j (by omega)) rfl rfl (fun _ _ _ => rfl)
    obtain ⟨k, hk, pk, ek⟩ := rkf_onto (P := rdM μ n) (f := keyM μ) (M := n) (fun a b ha hb pa pb h => key_inj ha pb h) i (t - 1) (by omega) (by omega)
    rw [L_X2_insert_17]
    simp (disch := omega) only [l0, l1, le_n, sub_n, in_n, gd_True, ix_n]
    have hval : pl (t - 1) = nI k := by rw [← ek]; exact hpl k hk pk
    rw [if_neg (by omega), hpt, show F_X3_shownAt N (p + 1) (pl (t - 1)) (drM μ) σ = some (swD (drM μ) μ k) from by rw [hval]; exact cShown_n hRσ (by omega) _, bind_t, ← swM_D]
    have h7σ : σ p 7 = μ 4 := by rw [hσ p (by omega)]; exact h7
    have hne : keyM μ k ≠ keyM μ i := fun z => by have := key_inj (show k < n by omega) hPi z; omega
    have hlt : keyM μ k < keyM μ i ↔ t ≤ c := by
      refine ⟨fun z => ?_, fun z => ?_⟩
      · have := rkf_lt (i := i) hk pk z; omega
      · refine Classical.byContradiction fun q => ?_
        have := rkf_le (P := rdM μ n) (f := keyM μ) (i := i) (a := i) (b := k) (by omega)
        omega
    have hb : ∀ s0 : Int32, J_X2_insert_49 (L_X2_insert_17 N m) N 136 p (nI i) (drM μ) (swM μ i) (nI t) s0 σ = if s0 = μ 4 then J_X2_insert_85 N 136 (nI i) (nI t) σ else L_X2_insert_17 N m 136 p (nI i) (drM μ) (swM μ i) (nI (t - 1)) (wr σ 137 t (pl (t - 1))) := by
      intro s0
      unfold J_X2_insert_49
      rw [h7σ]
      simp (disch := omega) only [l1, sub_n, addm_n, in_n, gd_True, ix_n, bd_t]
      rw [hpt]
    have e4 : (μ 4 = 1 ∧ (swM μ k ≤ swM μ i ↔ ¬ keyM μ k < keyM μ i)) ∨ (μ 4 = 0 ∧ (swM μ k ≤ swM μ i ↔ keyM μ k < keyM μ i)) := by
      unfold keyM at hne ⊢
      rcases h4 with h4 | h4
      · right
        rw [h4] at hne ⊢
        rw [if_neg (by decide), if_neg (by decide)] at *
        refine ⟨rfl, ?_⟩
        rw [Int32.le_iff_toInt_le]
        omega
      · left
        rw [h4] at hne ⊢
        rw [if_pos rfl, if_pos rfl] at *
        refine ⟨rfl, ?_⟩
        rw [Int32.le_iff_toInt_le]
        omega
    rw [← l0, ← l1, hb, hb]
    rcases e4 with ⟨e4, e5⟩ | ⟨e4, e5⟩
    · by_cases z : t ≤ c
      · rw [if_pos z, if_neg (fun q => e5.mp q (hlt.mpr z)), e4, if_pos rfl]
      · rw [if_neg z, if_pos (e5.mpr (fun q => z (hlt.mp q))), e4, if_neg (by decide)]
    · by_cases z : t ≤ c
      · rw [if_pos z, if_pos (e5.mpr (hlt.mpr z)), e4, if_pos rfl]
      · rw [if_neg z, if_neg (fun q => z (hlt.mp (e5.mp q))), e4, if_neg (by decide)]
  induction d with
  | zero =>
    intro t m σ ht htc hm hσ h1 h2
    obtain ⟨m, rfl⟩ : ∃ m', m = m' + 1 := ⟨m - 1, by omega⟩
    obtain rfl : c = t := by omega
    rcases Nat.eq_zero_or_pos c with hz | hz
    · rw [L_X2_insert_17]
      simp (disch := omega) only [l0, le_n]
      rw [if_pos (by omega)]
      exact J m σ htc h1 h2
    · rw [key c m σ hz htc hσ (by rw [h2 (c - 1) (by omega), if_neg (by omega)]), if_pos (Nat.le_refl _)]
      exact J m σ htc h1 h2
  | succ d ih =>
    intro t m σ ht htc hm hσ h1 h2
    obtain ⟨m, rfl⟩ : ∃ m', m = m' + 1 := ⟨m - 1, by omega⟩
    rw [key t m σ (by omega) htc hσ (by rw [h2 (t - 1) (by omega), if_neg (by omega)]), if_neg (by omega)]
    obtain ⟨σ', g1, g2, g3⟩ := ih (t - 1) m (wr σ 137 t (pl (t - 1))) (by omega) (by omega) (by omega) (fun j hj => by rw [wr_n (by omega)]; exact hσ j hj) (by rw [wr_n (by decide)]; exact h1) (fun j hj => by
      rw [wr_s]
      by_cases hjt : j = t
      · rw [hjt, upd_s, if_pos (by omega)]
      · rw [upd_n hjt, h2 j hj]
        by_cases hjl : t < j
        · by_cases hjc : j ≤ cnt (rdM μ n) i
          · rw [if_pos (by omega), if_pos (by omega)]
          · rw [if_neg (by omega), if_neg (by omega)]
        · rw [if_neg (by omega), if_neg (by omega)])
    exact ⟨σ', g1, fun j q1 q2 => by rw [g2 j q1 q2, wr_n q2], g3⟩
/-- one readable kite more -/
theorem insert_n (hN : 200 ≤ N) (hR : RowR σ0 (p + 1) μ n e) (hp : p + 19 ≤ 136) (h7 : σ0 p 7 = μ 4) (h4 : μ 4 = 0 ∨ μ 4 = 1) (hi : i < n) (hPi : rdM μ n i) (hL : LkR σ0 (rdM μ n) (keyM μ) i) :
    ∃ σ', F_X2_insert N 136 p (nI i) (drM μ) σ0 = some σ' ∧ Rest2 σ0 σ' ∧ LkR σ' (rdM μ n) (keyM μ) (i + 1) := by
  have hn := hR.1
  have hcn := cnt_le (rdM μ n) i
  obtain ⟨hL1, hL2⟩ := hL
  unfold F_X2_insert
  rw [cShown_n hR hi, bind_t, bd_t, hL1, ← swM_D]
  have htop := rkf_top (P := rdM μ n) (f := keyM μ) (i := i) (k := i)
  obtain ⟨σ', g1, g2, g3, g4, g5⟩ := insert_l (N := N) hR hp h7 h4 hi hPi (σ0 137) hL2 (cnt (rdM μ n) i - rkf (rdM μ n) (keyM μ) i i) (cnt (rdM μ n) i) N σ0 (by omega) (Nat.le_refl _) (by omega) (fun _ _ => rfl) hL1 (fun j hj => by rw [if_neg (by omega)])
  refine ⟨σ', g1, g2, by rw [g3, cnt_t hPi], fun k hk pk => ?_⟩
  rcases Nat.lt_or_ge k i with q | q
  · have hck := rkf_cnt (P := rdM μ n) (f := keyM μ) q pk
    rcases Int.lt_trichotomy (keyM μ k) (keyM μ i) with z | z | z
    · have h1 := rkf_lt (i := i) q pk z
      rw [rkf_succ_lt z, g5 _ (by omega) (by omega), if_neg (by omega)]
      exact hL2 k q pk
    · have := key_inj (show k < n by omega) hPi z; omega
    · have h1 := rkf_le (P := rdM μ n) (f := keyM μ) (i := i) (a := i) (b := k) (by omega)
      rw [rkf_succ_gt z hPi, g5 _ (by omega) (by omega), if_pos (by omega), Nat.add_sub_cancel]
      exact hL2 k q pk
  · obtain rfl : k = i := by omega
    rw [rkf_succ_self]
    exact g4
theorem look_l (hN : 200 ≤ N) (hR : RowR σ0 (p + 1) μ n e) (hp : p + 19 ≤ 136) (h7 : σ0 p 7 = μ 4) (h4 : μ 4 = 0 ∨ μ 4 = 1) : ∀ (d i m : Nat) (σ : HP), i + d = n → d < m → Rest2 σ0 σ → LkR σ (rdM μ n) (keyM μ) i →
    ∃ σ', L_X2_look_12 N m 136 p (drM μ) (nI i) σ = some σ' ∧ Rest2 σ0 σ' ∧ LkR σ' (rdM μ n) (keyM μ) n := by
  have hn := hR.1
  intro d
  induction d with
  | zero =>
    intro i m σ hi hm hr hL
    obtain ⟨m, rfl⟩ : ∃ m', m = m' + 1 := ⟨m - 1, by omega⟩
    rw [L_X2_look_12, hr (p + 1) (by omega) (by omega), hR.2.2.2.2.2.1]
    simp (disch := omega) only [le_n]
    rw [if_pos (by omega)]
    obtain rfl : i = n := by omega
    exact ⟨σ, rfl, hr, hL⟩
  | succ d ih =>
    intro i m σ hi hm hr hL
    obtain ⟨m, rfl⟩ : ∃ m', m = m' + 1 := ⟨m - 1, by omega⟩
    have hRσ : RowR σ (p + 1) μ n e := hR.congr (fun j q1 q2 => hr j (by omega) (by omega)) rfl rfl (fun _ _ _ => rfl)
    rw [L_X2_look_12, hRσ.2.2.2.2.2.1]
    simp (disch := omega) only [le_n]
    rw [if_neg (by omega), cRead_n hN hRσ (by omega), bind_t]
    by_cases hP : rdM μ n i
    · rw [bI_t hP, if_neg (by decide)]
      obtain ⟨σ1, g1, g2, g3⟩ := insert_n hN hRσ hp (by rw [hr p (by omega) (by omega)]; exact h7) h4 (by omega) hP hL
      rw [g1, bind_t, nI_1]
      exact ih (i + 1) m σ1 (by omega) (by omega) (fun j q1 q2 => by rw [g2 j q1 q2]; exact hr j q1 q2) g3
    · rw [bI_f hP, if_pos rfl, nI_1]
      exact ih (i + 1) m σ (by omega) (by omega) hr ⟨by rw [cnt_f hP]; exact hL.1, fun k hk pk => by
        rw [rkf_succ_not hP]
        rcases Nat.lt_or_ge k i with q | q
        · exact hL.2 k q pk
        · obtain rfl : k = i := by omega
          exact absurd pk hP⟩
theorem look_n (hN : 200 ≤ N) (hR : RowR σ0 (p + 1) μ n e) (hp : p + 19 ≤ 136) (h5 : σ0 p 5 = μ 2) (h6 : σ0 p 6 = μ 3) (h7 : σ0 p 7 = μ 4) (h4 : μ 4 = 0 ∨ μ 4 = 1) :
    ∃ σ', F_X2_look N 136 p σ0 = some σ' ∧ Rest2 σ0 σ' ∧ LkR σ' (rdM μ n) (keyM μ) n := by
  have hn := hR.1
  unfold F_X2_look
  rw [drift_n h5 h6, bind_t, bd_t, l0]
  have hr : Rest2 σ0 (wr σ0 136 1 (nI 0)) := fun j q1 q2 => wr_n q1
  exact look_l hN hR hp h7 h4 n 0 N _ (by omega) (by omega) hr ⟨by rw [wr_s, upd_s]; rfl, fun k hk => absurd hk (Nat.not_lt_zero _)⟩
end LK
