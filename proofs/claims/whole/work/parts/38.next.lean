/-! ===== a trade of two neighbours, and the fewest behind it ===== -/
def tr (p x : Nat) : Nat := if x = p then p + 1 else if x = p + 1 then p else x
theorem tr_lt {p x n : Nat} (hp : p + 1 < n) (hx : x < n) : tr p x < n := by unfold tr; split; omega; split <;> omega
theorem tr_tr {p x : Nat} : tr p (tr p x) = x := by
  unfold tr
  by_cases a : x = p
  · rw [if_pos a, if_neg (by omega), if_pos rfl]; omega
  · rw [if_neg a]
    by_cases b : x = p + 1
    · rw [if_pos b, if_pos rfl]; omega
    · rw [if_neg b, if_neg a, if_neg b]
theorem tr_p {p : Nat} : tr p p = p + 1 := by unfold tr; rw [if_pos rfl]
theorem tr_q {p : Nat} : tr p (p + 1) = p := by unfold tr; rw [if_neg (by omega), if_pos rfl]
theorem tr_n {p x : Nat} (h1 : x ≠ p) (h2 : x ≠ p + 1) : tr p x = x := by unfold tr; rw [if_neg h1, if_neg h2]
/-- μ' is μ with the letters at p and p + 1 changed -/
def SwR (μ μ' : Nat → Int32) (n p : Nat) : Prop := μ' 4 = μ 4 ∧ (∀ k, k < 12 → μ' (108 + k) = μ (108 + k)) ∧ ∀ x, x < n → μ' (12 + 6 * x + 1) = μ (12 + 6 * tr p x + 1)
theorem Mt_congr {a a' w w' : Nat → Int32} {n i k : Nat} (ha : ∀ j, j < n → a' j = a j) (hw : ∀ j, j < n → w' j = w j) (hi : i < n) (hk : k < n) : Mt a' w' i k ↔ Mt a w i k := by
  unfold Mt occ
  rw [ha i hi, hw k hk, cnt_congr (p := fun j => a' j = a i) (q := fun j => a j = a i) (fun j hj => by rw [ha j (by omega)]), cnt_congr (p := fun j => w' j = a i) (q := fun j => w j = a i) (fun j hj => by rw [hw j (by omega)])]
theorem Ps_congr {a a' w w' : Nat → Int32} {n : Nat} (ha : ∀ j, j < n → a' j = a j) (hw : ∀ j, j < n → w' j = w j) : Ps a' w' n ↔ Ps a w n :=
  ⟨fun h i hi => by obtain ⟨k, hk, hM⟩ := h i hi; exact ⟨k, hk, (Mt_congr ha hw hi hk).mp hM⟩, fun h i hi => by obtain ⟨k, hk, hM⟩ := h i hi; exact ⟨k, hk, (Mt_congr ha hw hi hk).mpr hM⟩⟩
theorem pick_congr {p q : Nat → Prop} (h : ∀ k, p k ↔ q k) : pick p = pick q := by rw [show p = q from funext fun k => propext (h k)]
/-- the fewest trades rest on letters, word and crowd -/
theorem fw_congr {μ μ' : Nat → Int32} {n : Nat} (hn : n ≤ 12) (h4 : μ' 4 = μ 4) (hw : ∀ k, k < 12 → μ' (108 + k) = μ (108 + k)) (ha : ∀ x, x < n → μ' (12 + 6 * x + 1) = μ (12 + 6 * x + 1)) :
    (∀ l, PsM μ' n l ↔ PsM μ n l) ∧ (∀ x, x < n → tgtM μ' n x = tgtM μ n x) ∧ fwM μ' n = fwM μ n := by
  have hpl : ∀ x, plM μ' n x = plM μ n x := fun x => by unfold plM; rw [h4]
  have e1 : ∀ j, j < n → aM μ' n j = aM μ n j := fun j hj => by unfold aM; rw [hpl, ha _ (plM_lt hj)]
  have e2 : ∀ j, j < n → wdM μ' j = wdM μ j := fun j hj => hw j (by omega)
  have e3 : ∀ x, x < n → tgtM μ' n x = tgtM μ n x := fun x hx => by
    unfold tgtM
    refine pick_congr (fun k => ?_)
    rw [hpl]
    exact ⟨fun z => ⟨z.1, (Mt_congr e1 e2 (plM_lt hx) z.1).mp z.2⟩, fun z => ⟨z.1, (Mt_congr e1 e2 (plM_lt hx) z.1).mpr z.2⟩⟩
  refine ⟨fun l => ?_, e3, ?_⟩
  · unfold PsM
    rw [Ps_congr e1 e2]
  · unfold fwM
    refine dc_congr (fun x y hx hy => ?_)
    rw [e3 x hx, e3 y hy]
    unfold WrM
    rw [h4]
theorem Mt_mono {a w : Nat → Int32} {i j k k' : Nat} (e : a i = a j) (hij : i < j) (h : Mt a w i k) (h' : Mt a w j k') : k < k' := by
  have h1 := occ_lt (a := a) (c := a i) hij rfl
  have h2 := h.2
  have h3 := h'.2
  rw [← e] at h3
  rcases Nat.lt_or_ge k k' with q | q
  · exact q
  · have h4 : occ w (a i) k' ≤ occ w (a i) k := cnt_up q
    omega
section SWP
variable {μ μ' : Nat → Int32} {n p : Nat}
/-- equal letters: nothing changes, and the trade isn't good -/
theorem sw_same (hn : n ≤ 12) (hp : p + 1 < n) (hS : SwR μ μ' n p) (he : μ (12 + 6 * p + 1) = μ (12 + 6 * (p + 1) + 1)) : (∀ l, PsM μ' n l ↔ PsM μ n l) ∧ fwM μ' n = fwM μ n := by
  obtain ⟨h1, h2, h3⟩ := hS
  have := fw_congr (μ := μ) (μ' := μ') hn h1 h2 (fun x hx => by
    rw [h3 x hx]
    by_cases a : x = p
    · rw [a, tr_p, he]
    · by_cases b : x = p + 1
      · rw [b, tr_q, he]
      · rw [tr_n a b])
  exact ⟨this.1, this.2.2⟩
theorem not_wrong (hp : p + 1 < n) (h4 : μ 4 = 0 ∨ μ 4 = 1) (hPs : Ps (aM μ n) (wdM μ) n) (he : μ (12 + 6 * p + 1) = μ (12 + 6 * (p + 1) + 1)) : ¬ WrM μ (tgtM μ n p) (tgtM μ n (p + 1)) := by
  have t1 := tgt_spec hPs (show p < n by omega)
  have t2 := tgt_spec hPs hp
  have ha : aM μ n (plM μ n p) = aM μ n (plM μ n (p + 1)) := by unfold aM; rw [plM_plM (by omega), plM_plM hp, he]
  unfold WrM
  rcases h4 with h4 | h4
  · rw [if_pos h4]
    have := Mt_mono ha (by unfold plM; rw [if_neg (by rw [h4]; decide), if_neg (by rw [h4]; decide)]; omega) t1.2 t2.2
    omega
  · rw [if_neg (by rw [h4]; decide)]
    have := Mt_mono ha.symm (by unfold plM; rw [if_pos h4, if_pos h4]; omega) t2.2 t1.2
    omega
/-- other letters: the two of them change what they stand for -/
theorem sw_occ {a a' : Nat → Int32} {q : Nat} (h : ∀ j, a' j = a (tr q j)) (hne : a q ≠ a (q + 1)) : ∀ i, occ a' (a' i) i = occ a (a' i) (tr q i) := by
  have e1 : ∀ c i, i ≤ q → occ a' c i = occ a c i := fun c i hi => cnt_congr (fun j hj => by rw [h j, tr_n (by omega) (by omega)])
  have e2 : ∀ c i, occ a' c (q + 2 + i) = occ a c (q + 2 + i) := by
    intro c i
    induction i with
    | zero =>
      have a1 : a' q = a (q + 1) := by rw [h, tr_p]
      have a2 : a' (q + 1) = a q := by rw [h, tr_q]
      have e := e1 c q (Nat.le_refl _)
      unfold occ at e ⊢
      show cnt (fun j => a' j = c) (q + 1 + 1) = cnt (fun j => a j = c) (q + 1 + 1)
      by_cases c1 : a q = c <;> by_cases c2 : a (q + 1) = c
      · rw [cnt_t (p := fun j => a' j = c) (by rw [a2]; exact c1), cnt_t (p := fun j => a' j = c) (by rw [a1]; exact c2), cnt_t (p := fun j => a j = c) c2, cnt_t (p := fun j => a j = c) c1, e]
      · rw [cnt_t (p := fun j => a' j = c) (by rw [a2]; exact c1), cnt_f (p := fun j => a' j = c) (by rw [a1]; exact c2), cnt_f (p := fun j => a j = c) c2, cnt_t (p := fun j => a j = c) c1, e]
      · rw [cnt_f (p := fun j => a' j = c) (by rw [a2]; exact c1), cnt_t (p := fun j => a' j = c) (by rw [a1]; exact c2), cnt_t (p := fun j => a j = c) c2, cnt_f (p := fun j => a j = c) c1, e]
      · rw [cnt_f (p := fun j => a' j = c) (by rw [a2]; exact c1), cnt_f (p := fun j => a' j = c) (by rw [a1]; exact c2), cnt_f (p := fun j => a j = c) c2, cnt_f (p := fun j => a j = c) c1, e]
    | succ i ih =>
      have a1 : a' (q + 2 + i) = a (q + 2 + i) := by rw [h, tr_n (by omega) (by omega)]
      unfold occ at ih ⊢
      show cnt (fun j => a' j = c) (q + 2 + i + 1) = cnt (fun j => a j = c) (q + 2 + i + 1)
      by_cases c1 : a (q + 2 + i) = c
      · rw [cnt_t (p := fun j => a' j = c) (by rw [a1]; exact c1), cnt_t (p := fun j => a j = c) c1, ih]
      · rw [cnt_f (p := fun j => a' j = c) (by rw [a1]; exact c1), cnt_f (p := fun j => a j = c) c1, ih]
  intro i
  rcases Nat.lt_trichotomy i q with c | c | c
  · rw [tr_n (by omega) (by omega), e1 _ i (by omega)]
  · subst c
    rw [tr_p, e1 _ i (Nat.le_refl _), show a' i = a (i + 1) from by rw [h, tr_p]]
    exact (cnt_f (p := fun j => a j = a (i + 1)) hne).symm
  · by_cases d : i = q + 1
    · subst d
      rw [tr_q, show a' (q + 1) = a q from by rw [h, tr_q]]
      have : occ a' (a q) (q + 1) = occ a' (a q) q := cnt_f (p := fun j => a' j = a q) (by rw [h, tr_p]; exact fun z => hne z.symm)
      rw [this, e1 _ q (Nat.le_refl _)]
    · rw [tr_n (by omega) (by omega), show i = q + 2 + (i - (q + 2)) by omega, e2]
theorem sw_diff (hn : n ≤ 12) (hp : p + 1 < n) (h4 : μ 4 = 0 ∨ μ 4 = 1) (hS : SwR μ μ' n p) (he : μ (12 + 6 * p + 1) ≠ μ (12 + 6 * (p + 1) + 1)) (hPs : Ps (aM μ n) (wdM μ) n) :
    Ps (aM μ' n) (wdM μ') n ∧ fwM μ' n + ind (WrM μ (tgtM μ n p) (tgtM μ n (p + 1))) = fwM μ n + ind (WrM μ (tgtM μ n (p + 1)) (tgtM μ n p)) := by
  obtain ⟨h1, h2, h3⟩ := hS
  have hpl : ∀ x, plM μ' n x = plM μ n x := fun x => by unfold plM; rw [h1]
  -- the ranks that change
  have hq : ∃ q, q + 1 < n ∧ (∀ i, i < n → plM μ n (tr q i) = tr p (plM μ n i)) ∧ aM μ n q ≠ aM μ n (q + 1) := by
    rcases h4 with h4 | h4
    · have e0 : ∀ x, plM μ n x = x := fun x => by unfold plM; rw [if_neg (by rw [h4]; decide)]
      exact ⟨p, hp, fun i hi => by rw [e0, e0], by unfold aM; rw [e0, e0]; exact he⟩
    · have e0 : ∀ x, plM μ n x = n - 1 - x := fun x => by unfold plM; rw [if_pos h4]
      refine ⟨n - 2 - p, by omega, fun i hi => ?_, ?_⟩
      · rw [e0, e0]
        unfold tr
        by_cases a : i = n - 2 - p
        · rw [if_pos a, if_neg (by omega), if_pos (by omega)]; omega
        · by_cases b : i = n - 2 - p + 1
          · rw [if_neg a, if_pos b, if_pos (by omega)]; omega
          · rw [if_neg a, if_neg b, if_neg (by omega), if_neg (by omega)]
      · unfold aM
        rw [e0, e0, show n - 1 - (n - 2 - p) = p + 1 by omega, show n - 1 - (n - 2 - p + 1) = p by omega]
        exact fun z => he z.symm
  obtain ⟨q, hq1, hq2, hq3⟩ := hq
  have ea : ∀ i, i < n → aM μ' n i = aM μ n (tr q i) := fun i hi => by
    unfold aM
    rw [hpl, h3 _ (plM_lt hi), hq2 i hi]
  have ew : ∀ j, j < n → wdM μ' j = wdM μ j := fun j hj => h2 j (by omega)
  have hM : ∀ i k, i < n → k < n → (Mt (aM μ' n) (wdM μ') i k ↔ Mt (aM μ n) (wdM μ) (tr q i) k) := by
    intro i k hi hk
    rw [Mt_congr (a := fun j => aM μ n (tr q j)) (w := wdM μ) ea ew hi hk]
    have ho := sw_occ (a := aM μ n) (a' := fun j => aM μ n (tr q j)) (q := q) (fun _ => rfl) hq3 i
    unfold Mt
    dsimp only at ho ⊢
    rw [ho]
  have hPs' : Ps (aM μ' n) (wdM μ') n := fun i hi => by
    obtain ⟨k, hk, hm⟩ := hPs _ (tr_lt hq1 hi)
    exact ⟨k, hk, (hM i k hi hk).mpr hm⟩
  refine ⟨hPs', ?_⟩
  have ht : ∀ x, x < n → tgtM μ' n x = tgtM μ n (tr p x) := fun x hx => by
    have hx' := tr_lt hp hx
    have t1 := tgt_spec hPs hx'
    refine tgt_of hPs' hx ?_
    have e9 : tr q (plM μ n x) = plM μ n (tr p x) := by
      rw [← plM_plM (μ := μ) (tr_lt hq1 (plM_lt (μ := μ) hx)), hq2 _ (plM_lt hx), plM_plM hx]
    rw [hpl, hM _ _ (plM_lt hx) t1.1, e9]
    exact t1.2
  have hturn := dc_turn (W := fun x y => WrM μ (tgtM μ n x) (tgtM μ n y)) hp (fun z => by
    obtain ⟨z1, z2⟩ := z
    unfold WrM at z1 z2
    rcases h4 with h4 | h4
    · rw [if_pos h4] at z1 z2; omega
    · rw [if_neg (by rw [h4]; decide)] at z1 z2; omega)
  have e1 : fwM μ' n = dc (fun x y => x < y ∧ WrM μ (tgtM μ n (if x = p then p + 1 else if x = p + 1 then p else x)) (tgtM μ n (if y = p then p + 1 else if y = p + 1 then p else y))) n := by
    unfold fwM
    refine dc_congr (fun x y hx hy => ?_)
    rw [ht x hx, ht y hy]
    unfold WrM tr
    rw [h1]
  rw [e1]
  exact hturn
end SWP
/-! ===== swaps, copies, and the trade that is next ===== -/
section LAYS
variable {N : Nat} {σ0 : HP}
theorem lays_l {a b oa ob : Nat} (hab : a ≠ b) (ha : oa + 152 ≤ ln a) (hb : ob + 152 ≤ ln b) (hl : ln a ≤ 608 ∧ ln b ≤ 608) : ∀ (d k m : Nat) (σ : HP), k + d = 152 → d < m →
    (∀ j, j ≠ b → σ j = σ0 j) → (∀ i, σ b i = if ob ≤ i ∧ i < ob + k then σ0 a (oa + (i - ob)) else σ0 b i) →
    ∃ σ', L_X8_lays_3 N m a (nI oa) b (nI ob) (nI k) σ = some σ' ∧ (∀ j, j ≠ b → σ' j = σ0 j) ∧ ∀ i, σ' b i = if ob ≤ i ∧ i < ob + 152 then σ0 a (oa + (i - ob)) else σ0 b i := by
  intro d
  induction d with
  | zero =>
    intro k m σ hk hm h1 h2
    obtain ⟨m, rfl⟩ : ∃ m', m = m' + 1 := ⟨m - 1, by omega⟩
    obtain rfl : k = 152 := by omega
    rw [L_X8_lays_3, if_pos (by rw [l152, le_n (by omega) (by omega)]; exact Nat.le_refl _)]
    exact ⟨σ, rfl, h1, h2⟩
  | succ d ih =>
    intro k m σ hk hm h1 h2
    obtain ⟨m, rfl⟩ : ∃ m', m = m' + 1 := ⟨m - 1, by omega⟩
    rw [L_X8_lays_3, if_neg (by rw [l152, le_n (by omega) (by omega)]; omega)]
    simp (disch := omega) only [nI_add, in_n, gd_True, ix_n, bd_t, nI_1]
    refine ih (k + 1) m _ (by omega) (by omega) (fun j hj => by rw [wr_n hj]; exact h1 j hj) (fun i => ?_)
    rw [wr_s]
    by_cases e : i = ob + k
    · rw [e, upd_s, if_pos (by omega), h1 a hab, show ob + k - ob = k by omega]
    · rw [upd_n e, h2 i]
      by_cases c : ob ≤ i ∧ i < ob + k
      · rw [if_pos c, if_pos (by omega)]
      · rw [if_neg c, if_neg (by omega)]
theorem lays_n (hN : 200 ≤ N) {a b oa ob : Nat} (hab : a ≠ b) (ha : oa + 152 ≤ ln a) (hb : ob + 152 ≤ ln b) (hl : ln a ≤ 608 ∧ ln b ≤ 608) :
    ∃ σ', F_X8_lays N a (nI oa) b (nI ob) σ0 = some σ' ∧ (∀ j, j ≠ b → σ' j = σ0 j) ∧ ∀ i, σ' b i = if ob ≤ i ∧ i < ob + 152 then σ0 a (oa + (i - ob)) else σ0 b i := by
  unfold F_X8_lays
  exact lays_l hab ha hb hl 152 0 N σ0 (by omega) (by omega) (fun _ _ => rfl) (fun i => by rw [if_neg (by omega)])
/-- the six numbers of two neighbours -/
theorem swaps_l {r p : Nat} (hp : p + 1 < 12) : ∀ (d w m : Nat) (σ : HP), w + d = 6 → d < m → (∀ j, j ≠ r → σ j = σ0 j) →
    (∀ i, i < 12 ∨ 84 ≤ i → σ r i = σ0 r i) → (∀ k v, k < 12 → v < 6 → σ r (12 + 6 * k + v) = σ0 r (12 + 6 * (if v < w then tr p k else k) + v)) →
    ∃ σ', L_X8_swaps_2 N m r (nI p) (nI w) σ = some σ' ∧ (∀ j, j ≠ r → σ' j = σ0 j) ∧ (∀ i, i < 12 ∨ 84 ≤ i → σ' r i = σ0 r i) ∧ ∀ k v, k < 12 → v < 6 → σ' r (12 + 6 * k + v) = σ0 r (12 + 6 * tr p k + v) := by
  intro d
  induction d with
  | zero =>
    intro w m σ hw hm h1 h2 h3
    obtain ⟨m, rfl⟩ : ∃ m', m = m' + 1 := ⟨m - 1, by omega⟩
    obtain rfl : w = 6 := by omega
    rw [L_X8_swaps_2, if_pos (by rw [l6, le_n (by omega) (by omega)]; exact Nat.le_refl _)]
    exact ⟨σ, rfl, h1, h2, fun k v hk hv => by rw [h3 k v hk hv, if_pos hv]⟩
  | succ d ih =>
    intro w m σ hw hm h1 h2 h3
    obtain ⟨m, rfl⟩ : ∃ m', m = m' + 1 := ⟨m - 1, by omega⟩
    rw [L_X8_swaps_2, if_neg (by rw [l6, le_n (by omega) (by omega)]; omega), of_n (by omega) (by omega), bind_t, nI_1, of_n hp (by omega), bind_t, puts_n (by omega) (by omega), bind_t, puts_n hp (by omega), bind_t, nI_1]
    refine ih (w + 1) m _ (by omega) (by omega) (fun j hj => by rw [wr_n hj, wr_n hj]; exact h1 j hj) (fun i hi => ?_) (fun k v hk hv => ?_)
    · rw [wr_s, upd_n (by omega), wr_s, upd_n (by omega)]
      exact h2 i hi
    · rw [wr_s]
      by_cases e1 : 12 + 6 * k + v = 12 + 6 * (p + 1) + w
      · obtain ⟨rfl, rfl⟩ : k = p + 1 ∧ v = w := by omega
        rw [e1, upd_s, h3 p v (by omega) hv, if_neg (by omega), if_pos (by omega), tr_q]
      · rw [upd_n e1, wr_s]
        by_cases e2 : 12 + 6 * k + v = 12 + 6 * p + w
        · obtain ⟨rfl, rfl⟩ : k = p ∧ v = w := by omega
          rw [e2, upd_s, h3 (k + 1) v (by omega) hv, if_neg (by omega), if_pos (by omega), tr_p]
        · rw [upd_n e2, h3 k v hk hv]
          by_cases c : v < w
          · rw [if_pos c, if_pos (by omega)]
          · rw [if_neg c]
            by_cases c2 : v < w + 1
            · rw [if_pos c2, tr_n (by omega) (by omega)]
            · rw [if_neg c2]
theorem swaps_n (hN : 200 ≤ N) {r p : Nat} (hp : p + 1 < 12) : ∃ σ', F_X8_swaps N r (nI p) σ0 = some σ' ∧ (∀ j, j ≠ r → σ' j = σ0 j) ∧ (∀ i, i < 12 ∨ 84 ≤ i → σ' r i = σ0 r i) ∧ ∀ k v, k < 12 → v < 6 → σ' r (12 + 6 * k + v) = σ0 r (12 + 6 * tr p k + v) := by
  unfold F_X8_swaps
  exact swaps_l hp 6 0 N σ0 (by omega) (by omega) (fun _ _ => rfl) (fun _ _ => rfl) (fun k v _ _ => by rw [if_neg (by omega)])
end LAYS
/-- the fewest trades behind a trade -/
noncomputable def bhM (μ : Nat → Int32) (n p : Nat) : Int32 := if μ (12 + 6 * p + 1) = μ (12 + 6 * (p + 1) + 1) then nI (fwM μ n) else @ite _ (WrM μ (tgtM μ n p) (tgtM μ n (p + 1))) (Classical.propDecidable _) (nI (fwM μ n) - 1) (nI (fwM μ n) + 1)
theorem dc_le {p : Nat → Nat → Prop} {n : Nat} : dc p n ≤ n * n := by
  have : ∀ m, sm (fun x => cnt (p x) n) m ≤ m * n := by
    intro m
    induction m with
    | zero => rw [sm]; omega
    | succ m ih => rw [sm]; have := cnt_le (p m) n; rw [Nat.succ_mul]; omega
  exact this n
theorem fw_le {μ : Nat → Int32} {n : Nat} (hn : n ≤ 12) : fwM μ n ≤ 144 := by
  have h := dc_le (p := fun x y => x < y ∧ WrM μ (tgtM μ n x) (tgtM μ n y)) (n := n)
  have h2 : n * n ≤ 12 * 12 := Nat.mul_le_mul hn hn
  unfold fwM
  omega
def Rest9 (σ σ' : HP) : Prop := ∀ j, j ≠ 146 → j ≠ 147 → j ≠ 149 → σ' j = σ j
section NX
variable {N r n l p : Nat} {σ : HP}
theorem wr_xor {μ : Nat → Int32} {n p : Nat} (hp : p + 1 < n) (h4 : μ 4 = 0 ∨ μ 4 = 1) (hPs : Ps (aM μ n) (wdM μ) n) : WrM μ (tgtM μ n (p + 1)) (tgtM μ n p) ↔ ¬ WrM μ (tgtM μ n p) (tgtM μ n (p + 1)) := by
  have hne : tgtM μ n p ≠ tgtM μ n (p + 1) := fun e => by have := tgt_inj hPs (show p < n by omega) hp e; omega
  unfold WrM
  rcases h4 with h4 | h4
  · rw [if_pos h4, if_pos h4]; omega
  · rw [if_neg (by rw [h4]; decide), if_neg (by rw [h4]; decide)]; omega
theorem behind_n (hN : 200 ≤ N) (hn : n ≤ 12) (hr : r = 141 ∨ r = 142) (h0 : σ r 0 = nI n) (h7 : σ r 7 = nI l) (h4 : σ r 4 = 0 ∨ σ r 4 = 1) (hP : PsM (σ r) n l) (hp : p + 1 < n) :
    ∃ σ', F_X8_behind N 140 r (nI p) σ = some (bhM (σ r) n p, σ') ∧ Rest9 σ σ' := by
  have hr9 : r ≠ 146 ∧ r ≠ 147 ∧ r ≠ 149 := by omega
  obtain ⟨s1, a1, a2, a3⟩ := lays_n (N := N) (σ0 := σ) (a := r) (b := 149) (oa := 0) (ob := 0) hN hr9.2.2 (by rcases hr with rfl | rfl <;> decide) (by decide) (by rcases hr with rfl | rfl <;> decide)
  obtain ⟨s2, b1, b2, b3, b4⟩ := swaps_n (N := N) (σ0 := s1) (r := 149) (p := p) hN (by omega)
  have m1 : ∀ i, i < 152 → s1 149 i = σ r i := fun i hi => by rw [a3 i, if_pos (by omega)]; congr 1; omega
  have hlo : ∀ i, i < 12 → s2 149 i = σ r i := fun i hi => by rw [b3 i (by omega), m1 i (by omega)]
  have hS : SwR (σ r) (s2 149) n p := ⟨hlo 4 (by decide), fun k hk => by rw [b3 _ (by omega), m1 _ (by omega)], fun x hx => by
    have := tr_lt hp hx
    rw [b4 x 1 (by omega) (by decide), m1 _ (by omega)]⟩
  obtain ⟨hl0, hnl, hPs⟩ := hP
  have hf := fewest_n (N := N) (σ := s2) (r := 149) (n := n) (l := l) hN hn (by omega) (by decide) (by rw [hlo 0 (by decide)]; exact h0) (by rw [hlo 7 (by decide)]; exact h7) (by rw [hlo 4 (by decide)]; exact h4)
  unfold F_X8_behind
  rw [show F_X8_lays N r 0 (140 + 9) 0 σ = some s1 from a1, bind_t, show F_X8_swaps N (140 + 9) (nI p) s1 = some s2 from b1, bind_t]
  have fin : ∀ v : Int32, (PsM (s2 149) n l ∧ nI (fwM (s2 149) n) = v) → ∃ σ', bind2 (F_X8_fewest N 140 (140 + 9) s2) (fun r26 σ27 => some (r26, σ27)) = some (v, σ') ∧ Rest9 σ σ' := by
    intro v ⟨g1, g2⟩
    obtain ⟨s3, c1, c2⟩ := hf.1 g1
    rw [show F_X8_fewest N 140 (140 + 9) s2 = _ from c1, bind2_t, g2]
    exact ⟨s3, rfl, fun j q1 q2 q3 => by rw [c2 j q1 q2, b2 j q3, a2 j q3]⟩
  unfold bhM
  by_cases he : σ r (12 + 6 * p + 1) = σ r (12 + 6 * (p + 1) + 1)
  · rw [if_pos he]
    have := sw_same hn hp hS he
    exact fin _ ⟨(this.1 l).mpr ⟨hl0, hnl, hPs⟩, by rw [this.2]⟩
  · rw [if_neg he]
    have hd := sw_diff hn hp h4 hS he hPs
    have hx := wr_xor hp h4 hPs
    have hb := fw_le (μ := s2 149) hn
    have hb2 := fw_le (μ := σ r) hn
    by_cases hw : WrM (σ r) (tgtM (σ r) n p) (tgtM (σ r) n (p + 1))
    · rw [if_pos hw]
      have e := hd.2
      rw [ind_t hw, ind_f (fun z => hx.mp z hw)] at e
      exact fin _ ⟨⟨hl0, hnl, hd.1⟩, by rw [l1, sub_n (by omega)]; congr 1; omega⟩
    · rw [if_neg hw]
      have e := hd.2
      rw [ind_f hw, ind_t (hx.mpr hw)] at e
      exact fin _ ⟨⟨hl0, hnl, hd.1⟩, by rw [nI_1, show fwM (s2 149) n = fwM (σ r) n + 1 by omega]⟩
theorem bh_lt (hn : n ≤ 12) {μ : Nat → Int32} (hp : p + 1 < n) (h4 : μ 4 = 0 ∨ μ 4 = 1) (hPs : Ps (aM μ n) (wdM μ) n) : nI (fwM μ n) ≤ bhM μ n p ↔ ¬ WrM μ (tgtM μ n p) (tgtM μ n (p + 1)) := by
  have hb := fw_le (μ := μ) hn
  unfold bhM
  by_cases he : μ (12 + 6 * p + 1) = μ (12 + 6 * (p + 1) + 1)
  · rw [if_pos he, le_n (by omega) (by omega)]
    exact ⟨fun _ => not_wrong hp h4 hPs he, fun _ => Nat.le_refl _⟩
  · rw [if_neg he]
    by_cases hw : WrM μ (tgtM μ n p) (tgtM μ n (p + 1))
    · rw [if_pos hw]
      have hpos : 0 < fwM μ n := by
        have h := dc_cell (p := fun x y => x < y ∧ WrM μ (tgtM μ n x) (tgtM μ n y)) (show p < n by omega) hp
        rw [ind_t (p := p < p + 1 ∧ _) ⟨by omega, hw⟩] at h
        unfold fwM
        omega
      rw [l1, sub_n (by omega), le_n (by omega) (by omega)]
      exact ⟨fun z => by omega, fun z => absurd hw z⟩
    · rw [if_neg hw, nI_1, le_n (by omega) (by omega)]
      exact ⟨fun _ => hw, fun _ => by omega⟩
/-- the trade that is to be done next -/
def nxP (μ : Nat → Int32) (n p : Nat) : Prop := WrM μ (tgtM μ n p) (tgtM μ n (p + 1)) ∧ ¬ tgM μ p ∧ ¬ tgM μ (p + 1) ∧ ¬ wtM μ p
/-- what both answer: a place, or none -/
def NxR (μ : Nat → Int32) (n l : Nat) (o : Option Nat) : Prop := match o with
  | none => PsM μ n l → ∀ p, p + 1 < n → ¬ nxP μ n p
  | some p => PsM μ n l ∧ p + 1 < n ∧ nxP μ n p ∧ ∀ p', p' < p → ¬ nxP μ n p'
theorem NxR.one {μ : Nat → Int32} {n l : Nat} {o o' : Option Nat} (h : NxR μ n l o) (h' : NxR μ n l o') : o = o' := by
  cases o with
  | none =>
    cases o' with
    | none => rfl
    | some q => exact absurd h'.2.2.1 (h h'.1 q h'.2.1)
  | some p =>
    cases o' with
    | none => exact absurd h.2.2.1 (h' h.1 p h.2.1)
    | some q =>
      rcases Nat.lt_trichotomy p q with z | z | z
      · exact absurd h.2.2.1 (h'.2.2.2 p z)
      · rw [z]
      · exact absurd h'.2.2.1 (h.2.2.2 q z)
theorem mNext_l (hN : 200 ≤ N) (hn : n ≤ 12) (hr : r = 141 ∨ r = 142) (h0 : σ r 0 = nI n) (h7 : σ r 7 = nI l) (h4 : σ r 4 = 0 ∨ σ r 4 = 1) (hP : PsM (σ r) n l) : ∀ (d p m : Nat) (s : HP), p + d = n - 1 → d < m → Rest9 σ s → (∀ p', p' < p → ¬ nxP (σ r) n p') →
    ∃ o σ', L_X8_next_8 N m 140 r (nI (fwM (σ r) n)) (nI p) s = some ((match o with | none => -1000005 | some q => nI q), σ') ∧ Rest9 σ σ' ∧ NxR (σ r) n l o := by
  have hn1 : 1 ≤ n := by obtain ⟨a, b, c⟩ := hP; omega
  have hb := fw_le (μ := σ r) hn
  intro d
  induction d with
  | zero =>
    intro p m s hp hm hs hno
    obtain ⟨m, rfl⟩ : ∃ m', m = m' + 1 := ⟨m - 1, by omega⟩
    rw [L_X8_next_8, show ix 0 = 0 from rfl, hs r (by omega) (by omega) (by omega), h0, l1, sub_n (by omega), if_pos (by rw [le_n (by omega) (by omega)]; omega)]
    exact ⟨none, s, rfl, hs, fun _ q hq => hno q (by omega)⟩
  | succ d ih =>
    intro p m s hp hm hs hno
    obtain ⟨m, rfl⟩ : ∃ m', m = m' + 1 := ⟨m - 1, by omega⟩
    have hsr := hs r (by omega) (by omega) (by omega)
    rw [L_X8_next_8, show ix 0 = 0 from rfl, hsr, h0, l1, sub_n (by omega), if_neg (by rw [le_n (by omega) (by omega)]; omega), if_neg (fun z => by
      have h1 := congrArg Int32.toInt z
      rw [nI_toInt (by omega)] at h1
      have h2 : (-1000005 : Int32).toInt = -1000005 := by decide
      omega), isSafe_n (by omega), bind_t, hsr]
    by_cases c : ¬ tgM (σ r) p ∧ ¬ tgM (σ r) (p + 1) ∧ ¬ wtM (σ r) p
    · obtain ⟨s', g1, g2⟩ := behind_n (N := N) (σ := s) (r := r) (n := n) (l := l) (p := p) hN hn hr (by rw [hsr]; exact h0) (by rw [hsr]; exact h7) (by rw [hsr]; exact h4) (by rw [hsr]; exact hP) (by omega)
      rw [bI_t c, if_neg (by decide), g1, bind2_t, hsr]
      by_cases hw : WrM (σ r) (tgtM (σ r) n p) (tgtM (σ r) n (p + 1))
      · rw [if_neg (fun z => (bh_lt hn (by omega) h4 hP.2.2).mp z hw)]
        exact ⟨some p, s', rfl, fun j q1 q2 q3 => by rw [g2 j q1 q2 q3, hs j q1 q2 q3], hP, by omega, ⟨hw, c⟩, hno⟩
      · rw [if_pos ((bh_lt hn (by omega) h4 hP.2.2).mpr hw), ← l1, nI_1]
        exact ih (p + 1) m s' (by omega) (by omega) (fun j q1 q2 q3 => by rw [g2 j q1 q2 q3, hs j q1 q2 q3]) (fun p' hp' => by
          rcases Nat.lt_or_ge p' p with z | z
          · exact hno p' z
          · obtain rfl : p' = p := by omega
            exact fun q => hw q.1)
    · rw [bI_f c, if_pos rfl, ← l1, nI_1]
      exact ih (p + 1) m s (by omega) (by omega) hs (fun p' hp' => by
        rcases Nat.lt_or_ge p' p with z | z
        · exact hno p' z
        · obtain rfl : p' = p := by omega
          exact fun q => c q.2)
theorem mNext_n (hN : 200 ≤ N) (hn : n ≤ 12) (hl : l ≤ 12) (hr : r = 141 ∨ r = 142) (h0 : σ r 0 = nI n) (h7 : σ r 7 = nI l) (h4 : σ r 4 = 0 ∨ σ r 4 = 1) : ∃ o σ', F_X8_next N 140 r σ = some ((match o with | none => -1000005 | some q => nI q), σ') ∧ Rest9 σ σ' ∧ NxR (σ r) n l o := by
  have hf := fewest_n (N := N) (σ := σ) (r := r) (n := n) (l := l) hN hn hl (by omega) h0 h7 h4
  unfold F_X8_next
  by_cases hP : PsM (σ r) n l
  · obtain ⟨s, a1, a2⟩ := hf.1 hP
    rw [a1, bind2_t]
    exact mNext_l hN hn hr h0 h7 h4 hP (n - 1) 0 N s (by omega) (by omega) (fun j q1 q2 _ => a2 j q1 q2) (fun p' hp' => absurd hp' (Nat.not_lt_zero _))
  · obtain ⟨s, a1, a2⟩ := hf.2 hP
    rw [a1, bind2_t]
    obtain ⟨m, rfl⟩ : ∃ m', N = m' + 1 := ⟨N - 1, by omega⟩
    refine ⟨none, s, ?_, fun j q1 q2 _ => a2 j q1 q2, fun z => absurd z hP⟩
    rw [L_X8_next_8]
    split
    · rfl
    · rw [if_pos rfl]
end NX
section CNX
variable {N p n e l q : Nat} {σ : HP} {μ : Nat → Int32}
theorem good_n (hA : AimR σ μ n) (hn : n ≤ 12) (hq : q + 1 < n) : F_X0_isGood N 138 (nI q) σ = some (bI (WrM μ (tgtM μ n q) (tgtM μ n (q + 1)))) := by
  unfold F_X0_isGood
  rw [nI_1, wrong_n hA hn (by omega) hq, bind_t, l0, l1, bI_01, gd_True]
theorem cNext_l (hN : 200 ≤ N) (hR : RowR σ (p + 1) μ n e) (hA : AimR σ μ n) (hP : PsM μ n l) (h5 : σ p 5 = μ 2) (h6 : σ p 6 = μ 3) (h3 : bn (μ 3) 0 5) : ∀ (d q m : Nat), q + d = n - 1 → d < m → (∀ p', p' < q → ¬ nxP μ n p') →
    ∃ o, L_X7_nextPlace_22 N m 133 p (nI q) σ = some ((match o with | none => -1 | some z => nI z), σ) ∧ NxR μ n l o := by
  have hn := hR.1
  have hn1 : 1 ≤ n := by obtain ⟨a, b, c⟩ := hP; omega
  intro d
  induction d with
  | zero =>
    intro q m hq hm hno
    obtain ⟨m, rfl⟩ : ∃ m', m = m' + 1 := ⟨m - 1, by omega⟩
    rw [L_X7_nextPlace_22, hR.2.2.2.2.2.1, l1, sub_n (by omega), if_pos (by rw [le_n (by omega) (by omega)]; omega)]
    exact ⟨none, rfl, fun _ z hz => hno z (by omega)⟩
  | succ d ih =>
    intro q m hq hm hno
    obtain ⟨m, rfl⟩ : ∃ m', m = m' + 1 := ⟨m - 1, by omega⟩
    rw [L_X7_nextPlace_22, hR.2.2.2.2.2.1, l1, sub_n (by omega), if_neg (by rw [le_n (by omega) (by omega)]; omega), good_n hA hn (by omega), bind_t, ← l1, nI_1]
    have hstep : ¬ nxP μ n q → ∃ o, L_X7_nextPlace_22 N m 133 p (nI (q + 1)) σ = some ((match o with | none => -1 | some z => nI z), σ) ∧ NxR μ n l o := fun hx =>
      ih (q + 1) m (by omega) (by omega) (fun p' hp' => by
        rcases Nat.lt_or_ge p' q with z | z
        · exact hno p' z
        · obtain rfl : p' = q := by omega
          exact hx)
    by_cases hw : WrM μ (tgtM μ n q) (tgtM μ n (q + 1))
    · rw [bI_t hw, if_neg (by decide), cSafe_n hR (by omega) h5 h6 h3, bind_t]
      by_cases c : ¬ tgM μ q ∧ ¬ tgM μ (q + 1) ∧ ¬ wtM μ q
      · rw [bI_t c, if_neg (by decide)]
        exact ⟨some q, rfl, hP, by omega, ⟨hw, c⟩, hno⟩
      · rw [bI_f c, if_pos rfl]
        exact hstep (fun z => c z.2)
    · rw [bI_f hw, if_pos rfl]
      exact hstep (fun z => hw z.1)
theorem cNext_n (hN : 200 ≤ N) (hR : RowR σ (p + 1) μ n e) (hW : WordR σ (p + 17) μ l) (hp : p + 19 ≤ 136) (h5 : σ p 5 = μ 2) (h6 : σ p 6 = μ 3) (h7 : σ p 7 = μ 4) (h3 : bn (μ 3) 0 5) (h4 : μ 4 = 0 ∨ μ 4 = 1) :
    ∃ o σ', F_X7_nextPlace N 133 p σ = some ((match o with | none => -1 | some z => nI z), σ') ∧ Rest4 σ σ' ∧ NxR μ n l o := by
  obtain ⟨s, a1, a2, a3⟩ := match_n hN hR hW hp h7 h4
  unfold F_X7_nextPlace
  rw [a1, bind_t]
  have hRs : RowR s (p + 1) μ n e := hR.congr (fun j q1 q2 => a2 j (by omega) (by omega)) rfl rfl (fun _ _ _ => rfl)
  by_cases hP : PsM μ n l
  · obtain ⟨b1, b2, b3⟩ := a3.1 hP
    rw [b1, if_neg (by decide)]
    obtain ⟨o, c1, c2⟩ := cNext_l (N := N) hN hRs b3 hP (by rw [a2 p (by omega) (by omega)]; exact h5) (by rw [a2 p (by omega) (by omega)]; exact h6) h3 (n - 1) 0 N (by omega) (by have := hR.1; omega) (fun p' hp' => absurd hp' (Nat.not_lt_zero _))
    exact ⟨o, s, c1, a2, c2⟩
  · rw [a3.2 hP, if_pos rfl]
    exact ⟨none, s, rfl, a2, fun z => absurd z hP⟩
theorem cBehind_n (hR : RowR σ (p + 1) μ n e) (hA : AimR σ μ n) (h3 : σ 138 3 = nI (fwM μ n)) (hq : q + 1 < n) : F_X0_fewestBehind N 138 (p + 1) (nI q) σ = some (bhM μ n q) := by
  have hn := hR.1
  unfold F_X0_fewestBehind bhM
  simp (disch := omega) only [nI_1, in_n, gd_True, ix_n]
  rw [(hR.2.2.2.2.2.2.2.1 q (by omega)).2.1, (hR.2.2.2.2.2.2.2.1 (q + 1) hq).2.1, h3, good_n hA hn hq, bind_t]
  by_cases he : μ (12 + 6 * q + 1) = μ (12 + 6 * (q + 1) + 1)
  · rw [if_pos he, if_pos he]
  · rw [if_neg he, if_neg he]
    by_cases hw : WrM μ (tgtM μ n q) (tgtM μ n (q + 1))
    · rw [bI_t hw, if_neg (by decide), if_pos hw]
    · rw [bI_f hw, if_pos rfl, if_neg hw, nI_1]
end CNX
