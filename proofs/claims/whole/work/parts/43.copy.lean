/-! ===== states are copied ===== -/
theorem cpy_in {f g : Nat → Int32} {n k : Nat} (h : k < n) : va_cpy f g 0 0 n k = f k := by
  rw [pk_cpy_in (Nat.zero_le _) (by omega)]
  congr 1
  omega
theorem RowR.copy {σ σ' : HP} {q q' : Nat} {μ : Nat → Int32} {n e : Nat} (h : RowR σ q μ n e) (hv : ∀ v, 1 ≤ v → v ≤ 6 → ∀ k, k < 12 → σ' (q' + v) k = σ (q + v) k) (h6 : σ' q' 6 = σ q 6) (h7 : σ' q' 7 = σ q 7) : RowR σ' q' μ n e := by
  obtain ⟨a1, a2, a3, a4, a5, a6, a7, a8, a9, a10⟩ := h
  refine ⟨a1, a2, a3, a4, a5, by rw [h6]; exact a6, by rw [h7]; exact a7, fun k hk => ?_, fun k hk => ?_, a10⟩
  · have := a8 k hk
    unfold FlR at this ⊢
    rw [hv 1 (by omega) (by omega) k (by omega), hv 2 (by omega) (by omega) k (by omega), hv 3 (by omega) (by omega) k (by omega), hv 5 (by omega) (by omega) k (by omega), hv 6 (by omega) (by omega) k (by omega)]
    exact this
  · have := a9 k hk
    unfold MateR at this ⊢
    rw [hv 4 (by omega) (by omega) k (by omega)]
    rcases this with h | ⟨b1, b2, b3, b4, b5⟩ | ⟨b1, b2, i, b3, b4, b5⟩
    · exact Or.inl h
    · exact Or.inr (Or.inl ⟨b1, b2, b3, by rw [hv 4 (by omega) (by omega) (k + 1) (by omega)]; exact b4, b5⟩)
    · exact Or.inr (Or.inr ⟨b1, b2, i, b3, by rw [hv 4 (by omega) (by omega) i (by omega)]; exact b4, b5⟩)
theorem PlanR.copy {σ σ' : HP} {q q' : Nat} {μ : Nat → Int32} {t mi : Nat} (h : PlanR σ q μ t mi) (hv : ∀ v, 1 ≤ v → v ≤ 3 → ∀ k, k < 8 → σ' (q' + v) k = σ (q + v) k) (h3 : σ' q' 3 = σ q 3) : PlanR σ' q' μ t mi := by
  obtain ⟨a1, a2, a3, a4, a5⟩ := h
  refine ⟨a1, a2, by rw [h3]; exact a3, fun k hk => ?_, a5⟩
  have := a4 k hk
  unfold TuR at this ⊢
  rw [hv 1 (by omega) (by omega) k (by omega), hv 2 (by omega) (by omega) k (by omega), hv 3 (by omega) (by omega) k (by omega)]
  exact this
theorem LogR.copy {σ σ' : HP} {q q' : Nat} {μ : Nat → Int32} {g : Nat} (h : LogR σ q μ g) (hv : ∀ v, 1 ≤ v → v ≤ 4 → ∀ k, k < 8 → σ' (q' + v) k = σ (q + v) k) (h4 : σ' q' 4 = σ q 4) (h5 : σ' q' 5 = σ q 5) : LogR σ' q' μ g := by
  obtain ⟨a1, a2, a3, a4, a5⟩ := h
  refine ⟨a1, a2, by rw [h4]; exact a3, by rw [h5]; exact a4, fun k hk => ?_⟩
  rw [hv 1 (by omega) (by omega) k (by omega), hv 2 (by omega) (by omega) k (by omega), hv 3 (by omega) (by omega) k (by omega), hv 4 (by omega) (by omega) k (by omega)]
  exact a5 k hk
theorem WordR.copy {σ σ' : HP} {q q' : Nat} {μ : Nat → Int32} {l : Nat} (h : WordR σ q μ l) (hv : ∀ k, k < 12 → σ' (q' + 1) k = σ (q + 1) k) (h1 : σ' q' 1 = σ q 1) : WordR σ' q' μ l := by
  obtain ⟨a1, a2, a3, a4, a5⟩ := h
  exact ⟨a1, a2, by rw [h1]; exact a3, fun k hk => by rw [hv k (by omega)]; exact a4 k hk, fun k hk => by rw [hv k hk]; exact a5 k hk⟩
theorem ScR.copy {σ σ' : HP} {p p' : Nat} {μ : Nat → Int32} {mi : Nat} (h : ScR σ p μ mi) (hv : ∀ i, 4 ≤ i → i ≤ 9 → σ' p' i = σ p i) : ScR σ' p' μ mi := by
  unfold ScR at h ⊢
  rw [hv 4 (by omega) (by omega), hv 5 (by omega) (by omega), hv 6 (by omega) (by omega), hv 7 (by omega) (by omega), hv 8 (by omega) (by omega), hv 9 (by omega) (by omega)]
  exact h
theorem SRx.mu {σ : HP} {p : Nat} {μ μ' : Nat → Int32} {n e t g l mi : Nat} (h : SRx σ p μ n e t g l mi) (hm : ∀ i, i < 152 → μ' i = μ i) : SRx σ p μ' n e t g l mi := h.frame (fun _ _ _ => rfl) hm
theorem SR.mu {σ : HP} {p B : Nat} {μ μ' : Nat → Int32} (h : SR σ p μ B) (hm : ∀ i, i < 152 → μ' i = μ i) : SR σ p μ' B := h.frame (fun _ _ _ => rfl) hm
section CP
variable {N a b : Nat} {σ : HP}
theorem rowcp_n (hd : a + 6 < b ∨ b + 6 < a) : ∃ σ', F_X3_copyFrom N a b σ = some σ' ∧ (∀ j, j < a ∨ a + 6 < j → σ' j = σ j) ∧ (∀ v, 1 ≤ v → v ≤ 6 → ∀ k, k < 12 → σ' (a + v) k = σ (b + v) k) ∧ σ' a 6 = σ b 6 ∧ σ' a 7 = σ b 7 := by
  unfold F_X3_copyFrom
  simp only [bd_t, show ix 0 = 0 from rfl, show ix 12 = 12 from rfl]
  refine ⟨_, rfl, fun j hj => ?_, fun v v1 v2 k hk => ?_, ?_, ?_⟩
  · rw [wr_n (by omega), wr_n (by omega), wrA_n (by omega), wrA_n (by omega), wrA_n (by omega), wrA_n (by omega), wrA_n (by omega), wrA_n (by omega)]
  · rw [wr_n (by omega), wr_n (by omega)]
    rcases (show v = 1 ∨ v = 2 ∨ v = 3 ∨ v = 4 ∨ v = 5 ∨ v = 6 by omega) with rfl | rfl | rfl | rfl | rfl | rfl
    · rw [wrA_n (by omega), wrA_n (by omega), wrA_n (by omega), wrA_n (by omega), wrA_n (by omega), wrA_s, cpy_in hk]
    · rw [wrA_n (by omega), wrA_n (by omega), wrA_n (by omega), wrA_n (by omega), wrA_s, cpy_in hk, wrA_n (by omega)]
    · rw [wrA_n (by omega), wrA_n (by omega), wrA_n (by omega), wrA_s, cpy_in hk, wrA_n (by omega), wrA_n (by omega)]
    · rw [wrA_n (by omega), wrA_n (by omega), wrA_s, cpy_in hk, wrA_n (by omega), wrA_n (by omega), wrA_n (by omega)]
    · rw [wrA_n (by omega), wrA_s, cpy_in hk, wrA_n (by omega), wrA_n (by omega), wrA_n (by omega), wrA_n (by omega)]
    · rw [wrA_s, cpy_in hk, wrA_n (by omega), wrA_n (by omega), wrA_n (by omega), wrA_n (by omega), wrA_n (by omega)]
  · rw [wr_s, upd_n (by decide), wr_s, upd_s, wrA_n (by omega), wrA_n (by omega), wrA_n (by omega), wrA_n (by omega), wrA_n (by omega), wrA_n (by omega)]
  · rw [wr_s, upd_s, wr_n (by omega), wrA_n (by omega), wrA_n (by omega), wrA_n (by omega), wrA_n (by omega), wrA_n (by omega), wrA_n (by omega)]
theorem plancp_n (hd : a + 3 < b ∨ b + 3 < a) : ∃ σ', F_X1_copyFrom N a b σ = some σ' ∧ (∀ j, j < a ∨ a + 3 < j → σ' j = σ j) ∧ (∀ v, 1 ≤ v → v ≤ 3 → ∀ k, k < 8 → σ' (a + v) k = σ (b + v) k) ∧ σ' a 3 = σ b 3 := by
  unfold F_X1_copyFrom
  simp only [bd_t, show ix 0 = 0 from rfl, show ix 8 = 8 from rfl]
  refine ⟨_, rfl, fun j hj => ?_, fun v v1 v2 k hk => ?_, ?_⟩
  · rw [wr_n (by omega), wrA_n (by omega), wrA_n (by omega), wrA_n (by omega)]
  · rw [wr_n (by omega)]
    rcases (show v = 1 ∨ v = 2 ∨ v = 3 by omega) with rfl | rfl | rfl
    · rw [wrA_n (by omega), wrA_n (by omega), wrA_s, cpy_in hk]
    · rw [wrA_n (by omega), wrA_s, cpy_in hk, wrA_n (by omega)]
    · rw [wrA_s, cpy_in hk, wrA_n (by omega), wrA_n (by omega)]
  · rw [wr_s, upd_s, wrA_n (by omega), wrA_n (by omega), wrA_n (by omega)]
theorem logcp_n (hd : a + 4 < b ∨ b + 4 < a) : ∃ σ', F_X5_copyFrom N a b σ = some σ' ∧ (∀ j, j < a ∨ a + 4 < j → σ' j = σ j) ∧ (∀ v, 1 ≤ v → v ≤ 4 → ∀ k, k < 8 → σ' (a + v) k = σ (b + v) k) ∧ σ' a 4 = σ b 4 ∧ σ' a 5 = σ b 5 := by
  unfold F_X5_copyFrom
  simp only [bd_t, show ix 0 = 0 from rfl, show ix 8 = 8 from rfl]
  refine ⟨_, rfl, fun j hj => ?_, fun v v1 v2 k hk => ?_, ?_, ?_⟩
  · rw [wr_n (by omega), wr_n (by omega), wrA_n (by omega), wrA_n (by omega), wrA_n (by omega), wrA_n (by omega)]
  · rw [wr_n (by omega), wr_n (by omega)]
    rcases (show v = 1 ∨ v = 2 ∨ v = 3 ∨ v = 4 by omega) with rfl | rfl | rfl | rfl
    · rw [wrA_n (by omega), wrA_n (by omega), wrA_n (by omega), wrA_s, cpy_in hk]
    · rw [wrA_n (by omega), wrA_n (by omega), wrA_s, cpy_in hk, wrA_n (by omega)]
    · rw [wrA_n (by omega), wrA_s, cpy_in hk, wrA_n (by omega), wrA_n (by omega)]
    · rw [wrA_s, cpy_in hk, wrA_n (by omega), wrA_n (by omega), wrA_n (by omega)]
  · rw [wr_s, upd_n (by decide), wr_s, upd_s, wrA_n (by omega), wrA_n (by omega), wrA_n (by omega), wrA_n (by omega)]
  · rw [wr_s, upd_s, wr_n (by omega), wrA_n (by omega), wrA_n (by omega), wrA_n (by omega), wrA_n (by omega)]
theorem wordcp_n (hd : a + 1 < b ∨ b + 1 < a) (hf : ∀ k, k < 12 → fits .char (.int (σ (b + 1) k)) = true) : ∃ σ', F_X6_copyFrom N a b σ = some σ' ∧ (∀ j, j < a ∨ a + 1 < j → σ' j = σ j) ∧ (∀ k, k < 12 → σ' (a + 1) k = σ (b + 1) k) ∧ σ' a 1 = σ b 1 := by
  unfold F_X6_copyFrom
  simp only [bd_t, show ix 0 = 0 from rfl, show ix 12 = 12 from rfl]
  rw [gd_t (fun i hi => by rw [Nat.zero_add]; exact hf i hi)]
  refine ⟨_, rfl, fun j hj => ?_, fun k hk => ?_, ?_⟩
  · rw [wr_n (by omega), wrA_n (by omega)]
  · rw [wr_n (by omega), wrA_s, cpy_in hk]
  · rw [wr_s, upd_s, wrA_n (by omega)]
/-- a state over another one -/
theorem copy_n {μ : Nat → Int32} {B : Nat} (hd : a + 19 ≤ b ∨ b + 19 ≤ a) (h : SR σ b μ B) : ∃ σ', F_X4_copyFrom N a b σ = some σ' ∧ FrC a σ σ' ∧ SR σ' a μ B := by
  obtain ⟨n, e, t, g, l, mi, hB, hR, hPl, hLg, hW, hSc⟩ := h
  unfold F_X4_copyFrom
  obtain ⟨s1, a1, a2, a3, a4, a5⟩ := rowcp_n (N := N) (a := a + 1) (b := b + 1) (σ := σ) (by omega)
  rw [a1, bind_t]
  obtain ⟨s2, b1, b2, b3, b4⟩ := plancp_n (N := N) (a := a + 8) (b := b + 8) (σ := s1) (by omega)
  rw [b1, bind_t]
  obtain ⟨s3, c1, c2, c3, c4, c5⟩ := logcp_n (N := N) (a := a + 12) (b := b + 12) (σ := s2) (by omega)
  rw [c1, bind_t]
  have hb3 : ∀ j, b ≤ j → j < b + 19 → s3 j = σ j := fun j j1 j2 => by rw [c2 j (by omega), b2 j (by omega), a2 j (by omega)]
  obtain ⟨s4, d1, d2, d3, d4⟩ := wordcp_n (N := N) (a := a + 17) (b := b + 17) (σ := s3) (by omega) (fun k hk => by rw [hb3 _ (by omega) (by omega)]; exact hW.2.2.2.2 k hk)
  rw [d1, bind_t]
  have hb4 : s4 b = σ b := by rw [d2 b (by omega), hb3 b (by omega) (by omega)]
  simp only [bd_t]
  have hne : b ≠ a := by omega
  simp only [wr_n hne, hb4]
  rw [hSc.2.2.2.2.1, gd_t hSc.2.2.2.2.2.2.2.2.2.1]
  refine ⟨_, rfl, fun j hj => ?_, n, e, t, g, l, mi, hB, ?_, ?_, ?_, ?_, ?_⟩
  · rw [wr_n (by omega), wr_n (by omega), wr_n (by omega), wr_n (by omega), wr_n (by omega), wr_n (by omega), d2 j (by omega), c2 j (by omega), b2 j (by omega), a2 j (by omega)]
  all_goals have hw : ∀ j, j ≠ a → (wr (wr (wr (wr (wr (wr s4 a 4 (σ b 4)) a 5 (σ b 5)) a 6 (σ b 6)) a 7 (μ 4)) a 8 (σ b 8)) a 9 (σ b 9)) j = s4 j := fun j hj => by rw [wr_n hj, wr_n hj, wr_n hj, wr_n hj, wr_n hj, wr_n hj]
  · refine hR.copy (fun v v1 v2 k hk => ?_) ?_ ?_
    · rw [hw _ (by omega), d2 _ (by omega), c2 _ (by omega), b2 _ (by omega), a3 v v1 v2 k hk]
    · rw [hw _ (by omega), d2 _ (by omega), c2 _ (by omega), b2 _ (by omega), a4]
    · rw [hw _ (by omega), d2 _ (by omega), c2 _ (by omega), b2 _ (by omega), a5]
  · refine hPl.copy (fun v v1 v2 k hk => ?_) ?_
    · rw [hw _ (by omega), d2 _ (by omega), c2 _ (by omega), b3 v v1 v2 k hk, a2 _ (by omega)]
    · rw [hw _ (by omega), d2 _ (by omega), c2 _ (by omega), b4, a2 _ (by omega)]
  · refine hLg.copy (fun v v1 v2 k hk => ?_) ?_ ?_
    · rw [hw _ (by omega), d2 _ (by omega), c3 v v1 v2 k hk, b2 _ (by omega), a2 _ (by omega)]
    · rw [hw _ (by omega), d2 _ (by omega), c4, b2 _ (by omega), a2 _ (by omega)]
    · rw [hw _ (by omega), d2 _ (by omega), c5, b2 _ (by omega), a2 _ (by omega)]
  · refine hW.copy (fun k hk => ?_) ?_
    · rw [hw _ (by omega), d3 k hk, hb3 _ (by omega) (by omega)]
    · rw [hw _ (by omega), d4, hb3 _ (by omega) (by omega)]
  · refine hSc.copy (fun i i1 i2 => ?_)
    rcases (show i = 4 ∨ i = 5 ∨ i = 6 ∨ i = 7 ∨ i = 8 ∨ i = 9 by omega) with rfl | rfl | rfl | rfl | rfl | rfl
    · rw [wr_s, upd_n (by decide), wr_s, upd_n (by decide), wr_s, upd_n (by decide), wr_s, upd_n (by decide), wr_s, upd_n (by decide), wr_s, upd_s]
    · rw [wr_s, upd_n (by decide), wr_s, upd_n (by decide), wr_s, upd_n (by decide), wr_s, upd_n (by decide), wr_s, upd_s]
    · rw [wr_s, upd_n (by decide), wr_s, upd_n (by decide), wr_s, upd_n (by decide), wr_s, upd_s]
    · rw [wr_s, upd_n (by decide), wr_s, upd_n (by decide), wr_s, upd_s]; exact hSc.2.2.2.2.1.symm
    · rw [wr_s, upd_n (by decide), wr_s, upd_s]
    · rw [wr_s, upd_s]
end CP
/-! ===== what holds between calls: the class's cells of σ, the reference's of s ===== -/
def HsR (σ : HP) (π : Nat → Nat) : Prop := (∀ i, i < 4 → π i < 4 ∧ σ 134 i = nI (57 + 19 * π i)) ∧ ∀ i j, i < 4 → j < 4 → π i = π j → i = j
def Inv2 (σ s : HP) : Prop := ∃ (h ty : Nat) (π : Nat → Nat), SR σ 0 (s 141) 9999 ∧ h ≤ 4 ∧ σ 133 8 = nI h ∧ s 140 3 = nI h ∧ HsR σ π ∧ (∀ i, i < h → SR σ (57 + 19 * π i) (fun k => s 143 (152 * i + k)) 9999) ∧
  ((σ 133 7 = 0 ∧ s 140 5 = 0) ∨ (σ 133 7 = 1 ∧ s 140 5 = 1 ∧ SR σ 38 (s 144) 9999)) ∧ ty ≤ 60 ∧ σ 133 9 = nI ty ∧ s 140 7 = nI ty ∧ (∀ k, k < ty → σ 135 k = s 145 k) ∧ ∀ k, k < 60 → fits .char (.int (σ 135 k)) = true
theorem Inv2.upd {σ σ' s s' : HP} (h : Inv2 σ s) (hc : ∀ j, 38 ≤ j → j < 136 → σ' j = σ j) (h0 : s' 140 = s 140) (h3 : s' 143 = s 143) (h4 : s' 144 = s 144) (h5 : s' 145 = s 145) (hn : SR σ' 0 (s' 141) 9999) : Inv2 σ' s' := by
  obtain ⟨h, ty, π, a1, a2, a3, a4, a5, a6, a7, a8, a9, a10, a11, a12⟩ := h
  refine ⟨h, ty, π, hn, a2, by rw [hc 133 (by omega) (by omega)]; exact a3, by rw [h0]; exact a4, ⟨fun i hi => by rw [hc 134 (by omega) (by omega)]; exact a5.1 i hi, a5.2⟩, fun i hi => ?_, ?_, a8, by rw [hc 133 (by omega) (by omega)]; exact a9, by rw [h0]; exact a10, fun k hk => by rw [hc 135 (by omega) (by omega), h5]; exact a11 k hk, fun k hk => by rw [hc 135 (by omega) (by omega)]; exact a12 k hk⟩
  · have hπ := (a5.1 i (by omega)).1
    exact (a6 i hi).frame (fun j j1 j2 => hc j (by omega) (by omega)) (fun k _ => by rw [h3])
  · rcases a7 with ⟨b1, b2⟩ | ⟨b1, b2, b3⟩
    · exact Or.inl ⟨by rw [hc 133 (by omega) (by omega)]; exact b1, by rw [h0]; exact b2⟩
    · exact Or.inr ⟨by rw [hc 133 (by omega) (by omega)]; exact b1, by rw [h0]; exact b2, b3.frame (fun j j1 j2 => hc j (by omega) (by omega)) (fun k _ => by rw [h4])⟩
/-- both answer the same, and it holds again -/
def Res (o1 o2 : Option (Int32 × HP)) (σ s : HP) : Prop := ∃ r σ' s', o1 = some (r, σ') ∧ o2 = some (r, s') ∧ Inv2 σ' s' ∧ (∀ j, 140 ≤ j → σ' j = σ j) ∧ ∀ j, j < 140 → s' j = s j
theorem Res.same {σ s : HP} (h : Inv2 σ s) (r : Int32) : Res (some (r, σ)) (some (r, s)) σ s := ⟨r, σ, s, rfl, rfl, h, fun _ _ => rfl, fun _ _ => rfl⟩
theorem kd_h : ∀ i, i < 4 → kd (57 + 19 * i) = 4 := by decide +kernel
section RC
variable {N : Nat} {σ s : HP}
theorem shift_l {s0 : HP} : ∀ (d k m : Nat) (s : HP), k + d = 456 → d < m → (∀ j, j ≠ 143 → s j = s0 j) → (∀ i, s 143 i = if i < k then s0 143 (i + 152) else s0 143 i) →
    ∃ s', L_X8_records_10 N m 140 (nI k) s = J_X8_records_49 N 140 (wr s' 140 3 (s' 140 3 - 1)) ∧ (∀ j, j ≠ 143 → s' j = s0 j) ∧ ∀ i, i < 456 → s' 143 i = s0 143 (i + 152) := by
  intro d
  induction d with
  | zero =>
    intro k m s hk hm h1 h2
    obtain ⟨m, rfl⟩ : ∃ z, m = z + 1 := ⟨m - 1, by omega⟩
    obtain rfl : k = 456 := by omega
    rw [L_X8_records_10, if_pos (by decide), bd_t]
    exact ⟨s, rfl, h1, fun i hi => by rw [h2 i, if_pos hi]⟩
  | succ d ih =>
    intro k m s hk hm h1 h2
    obtain ⟨m, rfl⟩ : ∃ z, m = z + 1 := ⟨m - 1, by omega⟩
    rw [L_X8_records_10, if_neg (by rw [l456, le_n (by omega) (by omega)]; omega)]
    simp (disch := omega) only [l152, nI_add, in_n, gd_True, ix_n, bd_t, nI_1]
    refine ih (k + 1) m _ (by omega) (by omega) (fun j hj => by rw [wr_n hj]; exact h1 j hj) (fun i => ?_)
    rw [wr_s]
    by_cases c : i = k
    · rw [c, upd_s, h2 (k + 152), if_neg (by omega), if_pos (by omega)]
    · rw [upd_n c, h2 i]
      by_cases c2 : i < k
      · rw [if_pos c2, if_pos (by omega)]
      · rw [if_neg c2, if_neg (by omega)]
/-- the state that was before it is recorded -/
theorem put_n (hN : 700 ≤ N) {h ty : Nat} {π : Nat → Nat} (a1 : SR σ 0 (s 141) 9999) (a2 : h < 4) (a3 : σ 133 8 = nI h) (a4 : s 140 3 = nI h) (a5 : HsR σ π) (a6 : ∀ i, i < h → SR σ (57 + 19 * π i) (fun k => s 143 (152 * i + k)) 9999) :
    ∃ σ' s', J_X7_record_12 N 133 σ = some σ' ∧ J_X8_records_49 N 140 s = some s' ∧ (∀ j, j < 57 ∨ 134 ≤ j → σ' j = σ j) ∧ (∀ i, i ≠ 8 → σ' 133 i = σ 133 i) ∧ σ' 133 8 = nI (h + 1) ∧ (∀ j, j ≠ 140 → j ≠ 143 → s' j = s j) ∧ (∀ i, i ≠ 3 → s' 140 i = s 140 i) ∧ s' 140 3 = nI (h + 1) ∧ ∀ i, i < h + 1 → SR σ' (57 + 19 * π i) (fun k => s' 143 (152 * i + k)) 9999 := by
  have hπ := a5.1 h a2
  obtain ⟨s1, b1, b2, b3⟩ := lays_n (N := N) (σ0 := s) (a := 141) (b := 143) (oa := 0) (ob := 152 * h) (by omega) (by decide) (by decide) (by rw [show ln 143 = 608 from by decide]; omega) (by decide)
  obtain ⟨σ1, c1, c2, c3⟩ := copy_n (N := N) (a := 57 + 19 * π h) (b := 0) (by omega) a1
  unfold J_X7_record_12 J_X8_records_49
  rw [a3, a4]
  simp (disch := omega) only [in_n, gd_True, ix_n]
  rw [hπ.2, ix_n (by omega), gd_t (kd_h _ hπ.1), bd_t, c1, bind_t, bd_t, l152, pk_mul, show F_X8_lays N (140 + 1) 0 (140 + 3) (nI (152 * h)) s = some s1 from b1, bind_t, bd_t]
  have d1 : σ1 133 = σ 133 := c2 133 (by omega)
  have d2 : s1 140 = s 140 := b2 140 (by decide)
  refine ⟨_, _, rfl, rfl, fun j hj => ?_, fun i hi => ?_, ?_, fun j j1 j2 => ?_, fun i hi => ?_, ?_, fun i hi => ?_⟩
  · rw [wr_n (by omega), c2 j (by omega)]
  · rw [wr_s, upd_n hi, d1]
  · rw [wr_s, upd_s, d1, a3, nI_1]
  · rw [wr_n j1, b2 j j2]
  · rw [wr_s, upd_n hi, d2]
  · rw [wr_s, upd_s, d2, a4, nI_1]
  · have hμ : ∀ i k, i < h + 1 → k < 152 → (wr s1 140 3 (s1 140 3 + 1)) 143 (152 * i + k) = if i = h then s 141 k else s 143 (152 * i + k) := fun i k hi hk => by
      rw [wr_n (by decide), b3]
      by_cases c : i = h
      · rw [if_pos (by omega), if_pos c]; exact congrArg (s 141) (by omega)
      · rw [if_neg (by omega), if_neg c]
    have hπi := a5.1 i (by omega)
    by_cases c : i = h
    · subst c
      exact c3.frame (fun j j1 j2 => by rw [wr_n (by omega)]) (fun k hk => by rw [hμ i k hi hk, if_pos rfl])
    · have hne : π i ≠ π h := fun z => c (a5.2 i h (by omega) a2 z)
      exact (a6 i (by omega)).frame (fun j j1 j2 => by rw [wr_n (by omega), c2 j (by omega)]) (fun k hk => by rw [hμ i k hi hk, if_neg c])
/-- behind it: all as it was but the history -/
def RecE (σ σ' s s' : HP) : Prop := (∀ j, j < 57 ∨ 135 ≤ j → σ' j = σ j) ∧ (∀ i, i ≠ 8 → σ' 133 i = σ 133 i) ∧ (∀ j, j ≠ 140 → j ≠ 143 → s' j = s j) ∧ ∀ i, i ≠ 3 → s' 140 i = s 140 i
theorem record_n (hN : 700 ≤ N) (h : Inv2 σ s) : ∃ σ' s', F_X7_record N 133 σ = some σ' ∧ F_X8_records N 140 s = some s' ∧ Inv2 σ' s' ∧ RecE σ σ' s s' := by
  obtain ⟨h, ty, π, a1, a2, a3, a4, a5, a6, a7, a8, a9, a10, a11, a12⟩ := h
  have fin : ∀ (π' : Nat → Nat) (h' : Nat) (σ1 s1 : HP), (∀ j, j ≠ 133 → j ≠ 134 → σ1 j = σ j) → (∀ i, i ≠ 8 → σ1 133 i = σ 133 i) → (∀ j, j ≠ 140 → j ≠ 143 → s1 j = s j) → (∀ i, i ≠ 3 → s1 140 i = s 140 i) → h' < 4 → σ1 133 8 = nI h' → s1 140 3 = nI h' → HsR σ1 π' →
      (∀ i, i < h' → SR σ1 (57 + 19 * π' i) (fun k => s1 143 (152 * i + k)) 9999) → ∃ σ' s', J_X7_record_12 N 133 σ1 = some σ' ∧ J_X8_records_49 N 140 s1 = some s' ∧ Inv2 σ' s' ∧ RecE σ σ' s s' := by
    intro π' h' σ1 s1 e1 e2 e3 e4 e5 e6 e7 e8 e9
    obtain ⟨σ', s', f1, f2, f3, f4, f5, f6, f7, f8, f9⟩ := put_n (N := N) (ty := ty) hN (σ := σ1) (s := s1) (a1.frame (fun j j1 j2 => e1 j (by omega) (by omega)) (fun i _ => by rw [e3 141 (by decide) (by decide)])) e5 e6 e7 e8 e9
    have g1 : ∀ j, j < 57 ∨ 135 ≤ j → σ' j = σ j := fun j hj => by rw [f3 j (by omega), e1 j (by omega) (by omega)]
    have g2 : ∀ i, i ≠ 8 → σ' 133 i = σ 133 i := fun i hi => by rw [f4 i hi, e2 i hi]
    have g3 : ∀ j, j ≠ 140 → j ≠ 143 → s' j = s j := fun j j1 j2 => by rw [f6 j j1 j2, e3 j j1 j2]
    have g4 : ∀ i, i ≠ 3 → s' 140 i = s 140 i := fun i hi => by rw [f7 i hi, e4 i hi]
    refine ⟨σ', s', f1, f2, ⟨h' + 1, ty, π', a1.frame (fun j j1 j2 => g1 j (by omega)) (fun i _ => by rw [g3 141 (by decide) (by decide)]), by omega, f5, f8, ⟨fun i hi => by rw [f3 134 (by omega)]; exact e8.1 i hi, e8.2⟩, f9, ?_, a8, by rw [g2 9 (by decide)]; exact a9, by rw [g4 7 (by decide)]; exact a10, fun k hk => by rw [g1 135 (by omega), g3 145 (by decide) (by decide)]; exact a11 k hk, fun k hk => by rw [g1 135 (by omega)]; exact a12 k hk⟩, g1, g2, g3, g4⟩
    rcases a7 with ⟨b1, b2⟩ | ⟨b1, b2, b3⟩
    · exact Or.inl ⟨by rw [g2 7 (by decide)]; exact b1, by rw [g4 5 (by decide)]; exact b2⟩
    · exact Or.inr ⟨by rw [g2 7 (by decide)]; exact b1, by rw [g4 5 (by decide)]; exact b2, b3.frame (fun j j1 j2 => g1 j (by omega)) (fun i _ => by rw [g3 144 (by decide) (by decide)])⟩
  unfold F_X7_record F_X8_records
  rw [show (140 : Nat) = 140 from rfl, a3, a4]
  by_cases c : h < 4
  · rw [if_pos (by rw [l4, lt_n (by omega) (by omega)]; exact c), if_neg (by rw [l4, eq_n (by omega) (by omega)]; omega)]
    exact fin π h σ s (fun _ _ _ => rfl) (fun _ _ => rfl) (fun _ _ _ => rfl) (fun _ _ => rfl) c a3 a4 a5 a6
  · obtain rfl : h = 4 := by omega
    rw [if_neg (by decide), if_pos (show nI 4 = 4 from rfl)]
    obtain ⟨s1, d1, d2, d3⟩ := shift_l (N := N) (s0 := s) 456 0 N s (by omega) (by omega) (fun _ _ => rfl) (fun i => by rw [if_neg (by omega)])
    rw [show L_X8_records_10 N N 140 0 s = _ from d1, d2 140 (by decide), a4, l1, sub_n (by omega)]
    have p0 := a5.1 0 (by omega)
    have p1 := a5.1 1 (by omega)
    have p2 := a5.1 2 (by omega)
    have p3 := a5.1 3 (by omega)
    -- the oldest one's object takes the next state
    have st : ∀ (w : HP) (M m i π' : Nat), 1 ≤ i → i < 4 → π' < 4 → w 134 i = nI (57 + 19 * π') → L_X7_dropOldest_9 M (m + 1) 133 (57 + 19 * π 0) (nI i) w = L_X7_dropOldest_9 M m 133 (57 + 19 * π 0) (nI (i + 1)) (wr w 134 (i - 1) (nI (57 + 19 * π'))) := by
      intro w M m i π' i1 i2 hπ' hw
      rw [L_X7_dropOldest_9, if_neg (by rw [l4, le_n (by omega) (by omega)]; omega)]
      simp (disch := omega) only [l1, nI_add, sub_n, in_n, gd_True, ix_n]
      rw [hw, ix_n (by omega), gd_t (kd_h _ hπ'), bd_t, bd_t]
    have hdrop : ∃ σ1, F_X7_dropOldest N 133 σ = some σ1 ∧ (∀ j, j ≠ 133 → j ≠ 134 → σ1 j = σ j) ∧ (∀ i, i ≠ 8 → σ1 133 i = σ 133 i) ∧ σ1 133 8 = nI 3 ∧ σ1 134 0 = nI (57 + 19 * π 1) ∧ σ1 134 1 = nI (57 + 19 * π 2) ∧ σ1 134 2 = nI (57 + 19 * π 3) ∧ σ1 134 3 = nI (57 + 19 * π 0) := by
      unfold F_X7_dropOldest
      rw [show ix 0 = 0 from rfl, p0.2, ix_n (by omega), gd_t (kd_h _ p0.1), bd_t]
      obtain ⟨m, rfl⟩ : ∃ m, N = m + 4 := ⟨N - 4, by omega⟩
      rw [l1, st σ (m + 4) (m + 3) 1 (π 1) (by omega) (by omega) p1.1 p1.2]
      rw [st _ (m + 4) (m + 2) 2 (π 2) (by omega) (by omega) p2.1 (by rw [wr_s, upd_n (by decide)]; exact p2.2)]
      rw [st _ (m + 4) (m + 1) 3 (π 3) (by omega) (by omega) p3.1 (by rw [wr_s, upd_n (by decide), wr_s, upd_n (by decide)]; exact p3.2)]
      rw [L_X7_dropOldest_9, if_pos (by decide), bd_t, bd_t, show ix 3 = 3 from rfl]
      refine ⟨_, rfl, fun j j1 j2 => ?_, fun i hi => ?_, ?_, ?_, ?_, ?_, ?_⟩
      · rw [wr_n j1, wr_n j2, wr_n j2, wr_n j2, wr_n j2]
      · rw [wr_s, upd_n hi, wr_n (by decide), wr_n (by decide), wr_n (by decide), wr_n (by decide)]
      · rw [wr_s, upd_s]; rfl
      · rw [wr_n (by decide), wr_s, upd_n (by decide), wr_s, upd_n (by decide), wr_s, upd_n (by decide), wr_s, upd_s]
      · rw [wr_n (by decide), wr_s, upd_n (by decide), wr_s, upd_n (by decide), wr_s, upd_s]
      · rw [wr_n (by decide), wr_s, upd_n (by decide), wr_s, upd_s]
      · rw [wr_n (by decide), wr_s, upd_s]
    obtain ⟨σ1, q1, q2, q3, q4, q5, q6, q7, q8⟩ := hdrop
    rw [q1, bind_t]
    have hs1 : ∀ j, j ≠ 140 → (wr s1 140 3 (nI (4 - 1))) j = s1 j := fun j hj => wr_n hj
    refine fin (fun i => if i = 3 then π 0 else π (i + 1)) 3 σ1 _ q2 q3 (fun j j1 j2 => by rw [hs1 j j1, d2 j j2]) (fun i hi => by rw [wr_s, upd_n hi, d2 140 (by decide)]) (by omega) q4 (by rw [wr_s, upd_s]) ⟨fun i hi => ?_, fun i j hi hj z => ?_⟩ (fun i hi => ?_)
    · rcases (show i = 0 ∨ i = 1 ∨ i = 2 ∨ i = 3 by omega) with rfl | rfl | rfl | rfl
      · exact ⟨p1.1, q5⟩
      · exact ⟨p2.1, q6⟩
      · exact ⟨p3.1, q7⟩
      · exact ⟨p0.1, q8⟩
    · dsimp only at z
      by_cases ci : i = 3
      · by_cases cj : j = 3
        · omega
        · rw [if_pos ci, if_neg cj] at z
          have := a5.2 0 (j + 1) (by omega) (by omega) z
          omega
      · by_cases cj : j = 3
        · rw [if_neg ci, if_pos cj] at z
          have := a5.2 (i + 1) 0 (by omega) (by omega) z
          omega
        · rw [if_neg ci, if_neg cj] at z
          have := a5.2 (i + 1) (j + 1) (by omega) (by omega) z
          omega
    · have hb := a5.1 (i + 1) (by omega)
      rw [show (if i = 3 then π 0 else π (i + 1)) = π (i + 1) from if_neg (by omega)]
      exact (a6 (i + 1) (by omega)).frame (fun j j1 j2 => q2 j (by omega) (by omega)) (fun k hk => by
        rw [hs1 143 (by decide), d3 _ (by omega)]
        exact congrArg (s 143) (by omega))
end RC
