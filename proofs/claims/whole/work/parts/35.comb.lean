theorem fb_holes : ∀ (m n : Nat) (f : Nat → Nat), (∀ i, i < n → f i < m) → (∀ i j, i < j → j < n → f i ≠ f j) → n ≤ m := by
  intro m
  induction m with
  | zero =>
    intro n f h1 _
    rcases Nat.eq_zero_or_pos n with h | h
    · omega
    · exact absurd (h1 0 h) (Nat.not_lt_zero _)
  | succ m ih =>
    intro n f h1 h2
    by_cases hx : ∃ i, i < n ∧ f i = m
    · obtain ⟨a, ha, hfa⟩ := hx
      have hg := ih (n - 1) (fun i => if i < a then f i else f (i + 1)) (by
        intro i hi
        by_cases q : i < a
        · simp only [if_pos q]
          have b1 := h1 i (by omega)
          have b2 := h2 i a q ha
          omega
        · simp only [if_neg q]
          have b1 := h1 (i + 1) (by omega)
          have b2 := h2 a (i + 1) (by omega) (by omega)
          omega) (by
        intro i j hij hj
        by_cases q : i < a
        · by_cases r : j < a
          · simp only [if_pos q, if_pos r]
            exact h2 i j hij (by omega)
          · simp only [if_pos q, if_neg r]
            exact h2 i (j + 1) (by omega) (by omega)
        · have r : ¬ j < a := by omega
          simp only [if_neg q, if_neg r]
          exact h2 (i + 1) (j + 1) (by omega) (by omega))
      omega
    · have hg := ih n f (fun i hi => by
        have b1 := h1 i hi
        have b2 : f i ≠ m := fun e => hx ⟨i, hi, e⟩
        omega) h2
      omega
/-- two of them in one place -/
theorem fb_twice {m n : Nat} {f : Nat → Nat} (h : ∀ i, i < n → f i < m) (hm : m < n) : ∃ i j, i < j ∧ j < n ∧ f i = f j := by
  refine Classical.byContradiction fun hx => ?_
  have := fb_holes m n f h (fun i j hij hj e => hx ⟨i, j, hij, hj, e⟩)
  omega
/-- as many as places, none twice: each place is taken -/
theorem fb_onto {n : Nat} {f : Nat → Nat} (h : ∀ i, i < n → f i < n) (h2 : ∀ i j, i < j → j < n → f i ≠ f j) {y : Nat} (hy : y < n) : ∃ i, i < n ∧ f i = y := by
  refine Classical.byContradiction fun hx => ?_
  have hne : ∀ i, i < n → f i ≠ y := fun i hi e => hx ⟨i, hi, e⟩
  have := fb_holes (n - 1) n (fun i => if f i < y then f i else f i - 1) (by
    intro i hi
    have b1 := h i hi
    have b2 := hne i hi
    by_cases q : f i < y
    · simp only [if_pos q]; omega
    · simp only [if_neg q]; omega) (by
    intro i j hij hj
    have b1 := hne i (by omega)
    have b2 := hne j hj
    have b3 := h2 i j hij hj
    by_cases q : f i < y
    · by_cases r : f j < y
      · simp only [if_pos q, if_pos r]; exact b3
      · simp only [if_pos q, if_neg r]; omega
    · by_cases r : f j < y
      · simp only [if_neg q, if_pos r]; omega
      · simp only [if_neg q, if_neg r]; omega)
  omega
theorem fa_or (a b : Nat) : nI a ||| nI b = nI (a ||| b) := by
  apply Int32.toBitVec_inj.1
  show BitVec.ofNat 32 a ||| BitVec.ofNat 32 b = BitVec.ofNat 32 (a ||| b)
  apply BitVec.eq_of_getLsbD_eq
  intro i hi
  simp [hi]
/-! ===== equal letters: which stands for which ===== -/
noncomputable def occ (a : Nat → Int32) (c : Int32) (i : Nat) : Nat := cnt (fun j => a j = c) i
def Mt (a w : Nat → Int32) (i k : Nat) : Prop := a i = w k ∧ occ a (a i) i = occ w (a i) k
def Ps (a w : Nat → Int32) (n : Nat) : Prop := ∀ i, i < n → ∃ k, k < n ∧ Mt a w i k
theorem cnt_up {p : Nat → Prop} {j : Nat} : ∀ {i : Nat}, j ≤ i → cnt p j ≤ cnt p i
  | 0, h => by rw [show j = 0 by omega]; exact Nat.le_refl _
  | i + 1, h => by
    rcases Nat.lt_or_ge i j with q | q
    · rw [show j = i + 1 by omega]; exact Nat.le_refl _
    · have ih := cnt_up (p := p) q
      by_cases hp : p i
      · rw [cnt_t hp]; omega
      · rw [cnt_f hp]; exact ih
theorem occ_lt {a : Nat → Int32} {c : Int32} {j i : Nat} (h : j < i) (e : a j = c) : occ a c j < occ a c i := by
  have h1 : cnt (fun j => a j = c) (j + 1) = cnt (fun j => a j = c) j + 1 := cnt_t (p := fun j => a j = c) e
  have h2 := cnt_up (p := fun j => a j = c) (show j + 1 ≤ i by omega)
  unfold occ; omega
theorem occ_onto {a : Nat → Int32} {c : Int32} : ∀ (i v : Nat), v < occ a c i → ∃ j, j < i ∧ a j = c ∧ occ a c j = v
  | 0, v, h => absurd h (Nat.not_lt_zero _)
  | i + 1, v, h => by
    by_cases e : a i = c
    · have h1 : occ a c (i + 1) = occ a c i + 1 := cnt_t (p := fun j => a j = c) e
      rcases Nat.lt_or_ge v (occ a c i) with q | q
      · obtain ⟨j, h2, h3⟩ := occ_onto i v q
        exact ⟨j, by omega, h3⟩
      · exact ⟨i, by omega, e, by omega⟩
    · have h1 : occ a c (i + 1) = occ a c i := cnt_f (p := fun j => a j = c) e
      obtain ⟨j, h2, h3⟩ := occ_onto (a := a) (c := c) i v (by omega)
      exact ⟨j, by omega, h3⟩
theorem occ_one {a : Nat → Int32} {c : Int32} {j i : Nat} (h1 : a j = c) (h2 : a i = c) (h : occ a c j = occ a c i) : j = i := by
  rcases Nat.lt_trichotomy j i with q | q | q
  · have := occ_lt q h1; omega
  · exact q
  · have := occ_lt q h2; omega
theorem Mt.symm {a w : Nat → Int32} {i k : Nat} (h : Mt a w i k) : Mt w a k i := by
  obtain ⟨h1, h2⟩ := h
  exact ⟨h1.symm, by rw [← h1]; exact h2.symm⟩
theorem Mt.one {a w : Nat → Int32} {i k k' : Nat} (h : Mt a w i k) (h' : Mt a w i k') : k = k' := occ_one (c := a i) h.1.symm h'.1.symm (h.2.symm.trans h'.2)
theorem Mt.inj {a w : Nat → Int32} {i i' k : Nat} (h : Mt a w i k) (h' : Mt a w i' k) : i = i' := h.symm.one h'.symm
noncomputable def pick (p : Nat → Prop) : Nat := @dite _ (∃ k, p k) (Classical.propDecidable _) (fun q => Classical.choose q) (fun _ => 0)
theorem pick_spec {p : Nat → Prop} (h : ∃ k, p k) : p (pick p) := by
  unfold pick
  rw [dif_pos h]
  exact Classical.choose_spec h
theorem Ps.symm {a w : Nat → Int32} {n : Nat} (h : Ps a w n) : Ps w a n := by
  intro k hk
  obtain ⟨i, hi, e⟩ := fb_onto (n := n) (f := fun i => pick (fun k => k < n ∧ Mt a w i k)) (fun i hi => (pick_spec (h i hi)).1) (fun i j hij hj e => by
    have h1 := (pick_spec (h i (by omega))).2
    have h2 := (pick_spec (h j hj)).2
    rw [e] at h1
    have := h1.inj h2
    omega) hk
  have h1 := (pick_spec (h i hi)).2
  rw [e] at h1
  exact ⟨i, hi, h1.symm⟩
/-- the first free place with the letter is the one that is matched -/
theorem Mt.first {a w : Nat → Int32} {n i k : Nat} (hk : k < n) (h : Mt a w i k) {j : Nat} (hj : j < k) (e : w j = a i) : ∃ i', i' < i ∧ Mt a w i' j := by
  obtain ⟨h1, h2⟩ := h
  have h3 : occ w (a i) j < occ a (a i) i := by rw [h2]; exact occ_lt hj e
  obtain ⟨i', h4, h5, h6⟩ := occ_onto i _ h3
  exact ⟨i', h4, by rw [h5, e], by rw [h5]; exact h6⟩
theorem Mt.free {a w : Nat → Int32} {i k i' : Nat} (h : Mt a w i k) (hi : i' < i) : ¬ Mt a w i' k := fun q => by
  have := q.inj h
  omega
/-- a free place with the letter: then the matched one is there -/
theorem Mt.found {a w : Nat → Int32} {n i j : Nat} (hj : j < n) (e : w j = a i) (hf : ∀ i', i' < i → ¬ Mt a w i' j) : ∃ k, k < n ∧ Mt a w i k := by
  have h1 : ¬ occ w (a i) j < occ a (a i) i := fun q => by
    obtain ⟨i', h4, h5, h6⟩ := occ_onto i _ q
    exact hf i' h4 ⟨by rw [h5, e], by rw [h5]; exact h6⟩
  rcases Nat.lt_or_ge (occ a (a i) i) (occ w (a i) j) with q | q
  · obtain ⟨k, h4, h5, h6⟩ := occ_onto j _ q
    exact ⟨k, by omega, h5.symm, h6.symm⟩
  · exact ⟨j, hj, e.symm, by omega⟩
/-! ===== sums and counts over a square ===== -/
def sm (f : Nat → Nat) : Nat → Nat
  | 0 => 0
  | n + 1 => sm f n + f n
theorem sm_congr {f g : Nat → Nat} : ∀ {n : Nat}, (∀ k, k < n → f k = g k) → sm f n = sm g n
  | 0, _ => rfl
  | n + 1, h => by rw [sm, sm, sm_congr (fun k hk => h k (by omega)), h n (by omega)]
theorem sm_zero : ∀ {n : Nat}, sm (fun _ => 0) n = 0
  | 0 => rfl
  | n + 1 => by rw [sm, sm_zero]
theorem sm_add {f g : Nat → Nat} : ∀ {n : Nat}, sm (fun k => f k + g k) n = sm f n + sm g n
  | 0 => rfl
  | n + 1 => by rw [sm, sm, sm, sm_add]; omega
theorem sm_swap {f : Nat → Nat → Nat} {m : Nat} : ∀ {n : Nat}, sm (fun x => sm (f x) m) n = sm (fun y => sm (fun x => f x y) n) m
  | 0 => by rw [sm]; exact sm_zero.symm
  | n + 1 => by
    rw [sm, sm_swap (n := n), ← sm_add]
    exact sm_congr (fun k _ => rfl)
theorem sm_one {f : Nat → Nat} {i : Nat} : ∀ {n : Nat}, i < n → (∀ k, k < n → k ≠ i → f k = 0) → sm f n = f i
  | 0, h, _ => absurd h (Nat.not_lt_zero _)
  | n + 1, h, hz => by
    rw [sm]
    by_cases e : i = n
    · subst e
      rw [sm_congr (g := fun _ => 0) (fun k hk => hz k (by omega) (by omega)), sm_zero]; omega
    · rw [sm_one (show i < n by omega) (fun k hk => hz k (by omega)), hz n (by omega) (fun q => e q.symm)]; omega
noncomputable def ind (p : Prop) : Nat := @ite _ p (Classical.propDecidable _) 1 0
theorem ind_t {p : Prop} (h : p) : ind p = 1 := by unfold ind; rw [if_pos h]
theorem ind_f {p : Prop} (h : ¬ p) : ind p = 0 := by unfold ind; rw [if_neg h]
theorem ind_c {p q : Prop} (h : p ↔ q) : ind p = ind q := by rw [propext h]
theorem cnt_sm {p : Nat → Prop} : ∀ {n : Nat}, cnt p n = sm (fun k => ind (p k)) n
  | 0 => rfl
  | n + 1 => by rw [sm, ← cnt_sm]; rfl
noncomputable def dc (p : Nat → Nat → Prop) (n : Nat) : Nat := sm (fun x => cnt (p x) n) n
theorem dc_ind {p : Nat → Nat → Prop} {n : Nat} : dc p n = sm (fun x => sm (fun y => ind (p x y)) n) n := sm_congr (fun _ _ => cnt_sm)
theorem dc_congr {p q : Nat → Nat → Prop} {n : Nat} (h : ∀ x y, x < n → y < n → (p x y ↔ q x y)) : dc p n = dc q n := sm_congr (fun x hx => cnt_congr (fun y hy => h x y hx hy))
theorem dc_T {p : Nat → Nat → Prop} {n : Nat} : dc p n = dc (fun x y => p y x) n := by
  rw [dc_ind, dc_ind, sm_swap]
theorem sm_perm {f : Nat → Nat} {n : Nat} {τ : Nat → Nat} (h1 : ∀ x, x < n → τ x < n) (h2 : ∀ x y, x < n → y < n → τ x = τ y → x = y) : sm (fun x => f (τ x)) n = sm f n := by
  have e1 : sm (fun x => f (τ x)) n = sm (fun x => sm (fun k => if τ x = k then f k else 0) n) n := sm_congr (fun x hx => by
    rw [sm_one (i := τ x) (h1 x hx) (fun k _ hk => if_neg (fun q => hk q.symm)), if_pos rfl])
  rw [e1, sm_swap]
  refine sm_congr (fun k hk => ?_)
  obtain ⟨x, hx, e⟩ := fb_onto (n := n) (f := τ) h1 (fun i j hij hj e => by have := h2 i j (by omega) hj e; omega) hk
  rw [sm_one (i := x) hx (fun y hy hyx => if_neg (fun q => hyx (h2 y x hy hx (by omega)))), if_pos e]
theorem dc_perm {p : Nat → Nat → Prop} {n : Nat} {τ : Nat → Nat} (h1 : ∀ x, x < n → τ x < n) (h2 : ∀ x y, x < n → y < n → τ x = τ y → x = y) : dc (fun x y => p (τ x) (τ y)) n = dc p n := by
  rw [dc_ind, dc_ind, ← sm_perm (f := fun x => sm (fun y => ind (p x y)) n) h1 h2]
  exact sm_congr (fun x _ => sm_perm (f := fun y => ind (p (τ x) y)) h1 h2)
theorem dc_cell {p : Nat → Nat → Prop} {n i k : Nat} (hi : i < n) (hk : k < n) : dc p n = dc (fun x y => p x y ∧ ¬ (x = i ∧ y = k)) n + ind (p i k) := by
  rw [dc_ind, dc_ind]
  have e1 : ∀ x, x < n → sm (fun y => ind (p x y)) n = sm (fun y => ind (p x y ∧ ¬ (x = i ∧ y = k))) n + (if x = i then ind (p i k) else 0) := by
    intro x hx
    by_cases e : x = i
    · subst e
      rw [if_pos rfl]
      have e2 : sm (fun y => ind (p x y)) n = sm (fun y => ind (p x y ∧ ¬ (x = x ∧ y = k)) + (if y = k then ind (p x k) else 0)) n := sm_congr (fun y _ => by
        by_cases ey : y = k
        · subst ey
          rw [if_pos rfl, ind_f (p := p x y ∧ ¬ (x = x ∧ y = y)) (fun q => q.2 ⟨rfl, rfl⟩)]; omega
        · rw [if_neg ey, ind_c (p := p x y ∧ ¬ (x = x ∧ y = k)) (q := p x y) ⟨fun q => q.1, fun q => ⟨q, fun z => ey z.2⟩⟩]; rfl)
      rw [e2, sm_add, sm_one (f := fun y => if y = k then ind (p x k) else 0) hk (fun y _ hy => if_neg hy), if_pos rfl]
    · rw [if_neg e]
      exact sm_congr (fun y _ => ind_c ⟨fun q => ⟨q, fun z => e z.1⟩, fun q => q.1⟩)
  rw [sm_congr e1, sm_add, sm_one (f := fun x => if x = i then ind (p i k) else 0) hi (fun x _ hx => if_neg hx), if_pos rfl]
/-- two neighbours change places: their own pair turns round, and no other -/
theorem dc_turn {W : Nat → Nat → Prop} {n p : Nat} (hp : p + 1 < n) (h1 : ¬ (W p (p + 1) ∧ W (p + 1) p)) :
    dc (fun x y => x < y ∧ W (if x = p then p + 1 else if x = p + 1 then p else x) (if y = p then p + 1 else if y = p + 1 then p else y)) n + ind (W p (p + 1)) = dc (fun x y => x < y ∧ W x y) n + ind (W (p + 1) p) := by
  have hs : ∀ x, (if x = p then p + 1 else if x = p + 1 then p else x) = (fun x => if x = p then p + 1 else if x = p + 1 then p else x) x := fun _ => rfl
  have e0 : dc (fun x y => x < y ∧ W (if x = p then p + 1 else if x = p + 1 then p else x) (if y = p then p + 1 else if y = p + 1 then p else y)) n = dc (fun u v => (if u = p then p + 1 else if u = p + 1 then p else u) < (if v = p then p + 1 else if v = p + 1 then p else v) ∧ W u v) n := by
    rw [← dc_perm (p := fun u v => (if u = p then p + 1 else if u = p + 1 then p else u) < (if v = p then p + 1 else if v = p + 1 then p else v) ∧ W u v) (τ := fun x => if x = p then p + 1 else if x = p + 1 then p else x) (fun x hx => by split; omega; split <;> omega) (fun x y hx hy e => by
      split at e <;> split at e <;> (try split at e) <;> (try split at e) <;> omega)]
    refine dc_congr (fun x y _ _ => ?_)
    have inv : ∀ x, (if (if x = p then p + 1 else if x = p + 1 then p else x) = p then p + 1 else if (if x = p then p + 1 else if x = p + 1 then p else x) = p + 1 then p else (if x = p then p + 1 else if x = p + 1 then p else x)) = x := by
      intro x
      by_cases a : x = p
      · rw [if_pos a, if_neg (by omega), if_pos rfl]; omega
      · rw [if_neg a]
        by_cases b : x = p + 1
        · rw [if_pos b, if_pos rfl]; omega
        · rw [if_neg b, if_neg a, if_neg b]
    rw [inv x, inv y]
  rw [e0, dc_cell (i := p + 1) (k := p) (by omega) (by omega), dc_cell (p := fun x y => x < y ∧ W x y) (i := p) (k := p + 1) (by omega) (by omega)]
  have e1 : dc (fun x y => ((if x = p then p + 1 else if x = p + 1 then p else x) < (if y = p then p + 1 else if y = p + 1 then p else y) ∧ W x y) ∧ ¬ (x = p + 1 ∧ y = p)) n = dc (fun x y => (x < y ∧ W x y) ∧ ¬ (x = p ∧ y = p + 1)) n := by
    refine dc_congr (fun x y _ _ => ?_)
    refine ⟨fun ⟨⟨q1, q2⟩, q3⟩ => ⟨⟨?_, q2⟩, ?_⟩, fun ⟨⟨q1, q2⟩, q3⟩ => ⟨⟨?_, q2⟩, ?_⟩⟩ <;> (try (split at q1 <;> split at q1 <;> (try split at q1) <;> (try split at q1))) <;> (try omega) <;> (try (split <;> split <;> (try split) <;> (try split) <;> omega))
  rw [e1]
  have e2 : ind ((if p + 1 = p then p + 1 else if p + 1 = p + 1 then p else p + 1) < (if p = p then p + 1 else if p = p + 1 then p else p) ∧ W (p + 1) p) = ind (W (p + 1) p) := ind_c ⟨fun q => q.2, fun q => ⟨by rw [if_neg (by omega), if_pos rfl, if_pos rfl]; omega, q⟩⟩
  have e3 : ind (p < p + 1 ∧ W p (p + 1)) = ind (W p (p + 1)) := ind_c ⟨fun q => q.2, fun q => ⟨by omega, q⟩⟩
  rw [e2, e3]
  omega
