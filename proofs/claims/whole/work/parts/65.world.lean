/-! ===== the world that the two constructors leave is the first heap's ===== -/
section W0
variable {cy : Nat → ClassId} {ad : Nat → Nat} {j : Nat}
theorem s0_fn (h : kd j ≠ 12) (h2 : kd j ≠ 4) (hn : j ≠ 141) : sig0 j = fun _ => 0 := funext fun k => sig0_z j k (fun e => by rw [e] at h; exact absurd h (by decide +kernel)) hn h2
theorem s0_k (h : kd j ≠ 12) (h2 : kd j ≠ 4) (h9 : kd j ≠ 9) (k : Nat) : sig0 j k = 0 := by rw [s0_fn h h2 (fun e => by rw [e] at h9; exact absurd h9 (by decide +kernel))]
theorem w0_9 (h : kd j = 9) (hn : j ≠ 141) : cellE cy ad sig0 j = .inl (cy 0, ln j, .inl (fun _ => 0)) := by rw [cellE_arr9 h, s0_fn (by rw [h]; decide) (by rw [h]; decide) hn]
theorem w0_10 (h : kd j = 10) : cellE cy ad sig0 j = .inl (cy 1, ln j, .inl (fun _ => 0)) := by rw [cellE_arr10 h, s0_fn (by rw [h]; decide) (by rw [h]; decide) (fun e => by rw [e] at h; exact absurd h (by decide +kernel))]
theorem w0_11 (h : kd j = 11) : cellE cy ad sig0 j = .inl (cy 2, ln j, .inl (fun _ => 0)) := by rw [cellE_arr11 h, s0_fn (by rw [h]; decide) (by rw [h]; decide) (fun e => by rw [e] at h; exact absurd h (by decide +kernel))]
theorem w0_0 (h : kd j = 0) : cellE cy ad sig0 j = .inr (0, [.ref (ad (j + 1)), .int 0, .int 0, .int 0]) := by
  have hz := s0_k (j := j) (by rw [h]; decide) (by rw [h]; decide) (by rw [h]; decide)
  simp only [cellE, h, hz]
theorem w0_1 (h : kd j = 1) : cellE cy ad sig0 j = .inr (1, [.ref (ad (j + 1)), .ref (ad (j + 2)), .ref (ad (j + 3)), .int 0]) := by
  have hz := s0_k (j := j) (by rw [h]; decide) (by rw [h]; decide) (by rw [h]; decide)
  simp only [cellE, h, hz]
theorem w0_2 (h : kd j = 2) : cellE cy ad sig0 j = .inr (2, [.ref (ad (j + 1)), .int 0]) := by
  have hz := s0_k (j := j) (by rw [h]; decide) (by rw [h]; decide) (by rw [h]; decide)
  simp only [cellE, h, hz]
theorem w0_3 (h : kd j = 3) : cellE cy ad sig0 j = .inr (3, [.ref (ad (j + 1)), .ref (ad (j + 2)), .ref (ad (j + 3)), .ref (ad (j + 4)), .ref (ad (j + 5)), .ref (ad (j + 6)), .int 0, .int 0]) := by
  have hz := s0_k (j := j) (by rw [h]; decide) (by rw [h]; decide) (by rw [h]; decide)
  simp only [cellE, h, hz]
theorem w0_4 (h : kd j = 4) : cellE cy ad sig0 j = .inr (4, [.ref (ad (j + 1)), .ref (ad (j + 8)), .ref (ad (j + 12)), .ref (ad (j + 17)), .int 0, .int 0, .int 1, .int 0, .int 3, .int 0]) := by
  have e4 : sig0 j 4 = 0 := sig0_st j 4 h
  have e5 : sig0 j 5 = 0 := sig0_st j 5 h
  have e6 : sig0 j 6 = 1 := sig0_st j 6 h
  have e7 : sig0 j 7 = 0 := sig0_st j 7 h
  have e8 : sig0 j 8 = 3 := sig0_st j 8 h
  have e9 : sig0 j 9 = 0 := sig0_st j 9 h
  simp only [cellE, h, e4, e5, e6, e7, e8, e9]
theorem w0_5 (h : kd j = 5) : cellE cy ad sig0 j = .inr (5, [.ref (ad (j + 1)), .ref (ad (j + 2)), .ref (ad (j + 3)), .ref (ad (j + 4)), .int 0, .int 0]) := by
  have hz := s0_k (j := j) (by rw [h]; decide) (by rw [h]; decide) (by rw [h]; decide)
  simp only [cellE, h, hz]
theorem w0_6 (h : kd j = 6) : cellE cy ad sig0 j = .inr (6, [.ref (ad (j + 1)), .int 0]) := by
  have hz := s0_k (j := j) (by rw [h]; decide) (by rw [h]; decide) (by rw [h]; decide)
  simp only [cellE, h, hz]
theorem w0_7 (h : kd j = 7) : cellE cy ad sig0 j = .inr (7, [.ref (ad 0), .ref (ad 19), .ref (ad 38), .ref (ad 134), .ref (ad 135), .ref (ad 136), .ref (ad 138), .int 0, .int 0, .int 0]) := by
  have hz := s0_k (j := j) (by rw [h]; decide) (by rw [h]; decide) (by rw [h]; decide)
  simp only [cellE, h, hz]
theorem w0_8 (h : kd j = 8) : cellE cy ad sig0 j = .inr (8, [.ref (ad (j + 1)), .ref (ad (j + 2)), .ref (ad (j + 3)), .int 0, .ref (ad (j + 4)), .int 0, .ref (ad (j + 5)), .int 0, .ref (ad (j + 6)), .ref (ad (j + 7)), .ref (ad (j + 8)), .ref (ad (j + 9))]) := by
  have hz := s0_k (j := j) (by rw [h]; decide) (by rw [h]; decide) (by rw [h]; decide)
  simp only [cellE, h, hz]
theorem kp0 : ∀ p, p < 150 → kd p = 4 → (p ≤ 114 ∧ kd (p + 1) = 3 ∧ (kd (p + 2) = 9 ∧ ln (p + 2) = 12) ∧ (kd (p + 3) = 9 ∧ ln (p + 3) = 12) ∧ (kd (p + 4) = 9 ∧ ln (p + 4) = 12)) := by decide +kernel
theorem kp5 : ∀ p, p < 150 → kd p = 4 → ((kd (p + 5) = 9 ∧ ln (p + 5) = 12) ∧ (kd (p + 6) = 9 ∧ ln (p + 6) = 12) ∧ (kd (p + 7) = 9 ∧ ln (p + 7) = 12) ∧ kd (p + 8) = 1 ∧ (kd (p + 9) = 9 ∧ ln (p + 9) = 8)) := by decide +kernel
theorem kp10 : ∀ p, p < 150 → kd p = 4 → ((kd (p + 10) = 9 ∧ ln (p + 10) = 8) ∧ (kd (p + 11) = 9 ∧ ln (p + 11) = 8) ∧ kd (p + 12) = 5 ∧ (kd (p + 13) = 9 ∧ ln (p + 13) = 8) ∧ (kd (p + 14) = 9 ∧ ln (p + 14) = 8)) := by decide +kernel
theorem kp15 : ∀ p, p < 150 → kd p = 4 → ((kd (p + 15) = 9 ∧ ln (p + 15) = 8) ∧ (kd (p + 16) = 9 ∧ ln (p + 16) = 8) ∧ kd (p + 17) = 6 ∧ (kd (p + 18) = 10 ∧ ln (p + 18) = 12)) := by decide +kernel
theorem kp : ∀ p, p < 150 → kd p = 4 → (p ≤ 114 ∧ kd (p + 1) = 3 ∧ (kd (p + 2) = 9 ∧ ln (p + 2) = 12) ∧ (kd (p + 3) = 9 ∧ ln (p + 3) = 12) ∧ (kd (p + 4) = 9 ∧ ln (p + 4) = 12) ∧ (kd (p + 5) = 9 ∧ ln (p + 5) = 12) ∧ (kd (p + 6) = 9 ∧ ln (p + 6) = 12) ∧ (kd (p + 7) = 9 ∧ ln (p + 7) = 12) ∧ kd (p + 8) = 1 ∧ (kd (p + 9) = 9 ∧ ln (p + 9) = 8) ∧ (kd (p + 10) = 9 ∧ ln (p + 10) = 8) ∧ (kd (p + 11) = 9 ∧ ln (p + 11) = 8) ∧ kd (p + 12) = 5 ∧ (kd (p + 13) = 9 ∧ ln (p + 13) = 8) ∧ (kd (p + 14) = 9 ∧ ln (p + 14) = 8) ∧ (kd (p + 15) = 9 ∧ ln (p + 15) = 8) ∧ (kd (p + 16) = 9 ∧ ln (p + 16) = 8) ∧ kd (p + 17) = 6 ∧ (kd (p + 18) = 10 ∧ ln (p + 18) = 12)) := fun p hp h => by
  obtain ⟨f0, f1, f2, f3, f4⟩ := kp0 p hp h
  obtain ⟨f5, f6, f7, f8, f9⟩ := kp5 p hp h
  obtain ⟨f10, f11, f12, f13, f14⟩ := kp10 p hp h
  obtain ⟨f15, f16, f17, f18⟩ := kp15 p hp h
  exact ⟨f0, f1, f2, f3, f4, f5, f6, f7, f8, f9, f10, f11, f12, f13, f14, f15, f16, f17, f18⟩
theorem st_cells {p : Nat} (h : kd p = 4) : (List.range 19).map (fun i => (ad (p + i), cellE cy ad sig0 (p + i))) = stW cy (fun i => ad (p + i)) := by
  obtain ⟨hp, k1, ⟨k2, l2⟩, ⟨k3, l3⟩, ⟨k4, l4⟩, ⟨k5, l5⟩, ⟨k6, l6⟩, ⟨k7, l7⟩, k8, ⟨k9, l9⟩, ⟨k10, l10⟩, ⟨k11, l11⟩, k12, ⟨k13, l13⟩, ⟨k14, l14⟩, ⟨k15, l15⟩, ⟨k16, l16⟩, k17, ⟨k18, l18⟩⟩ := kp p (kd_lt h (by decide)) h
  show [(ad (p + 0), cellE cy ad sig0 (p + 0)), (ad (p + 1), cellE cy ad sig0 (p + 1)), (ad (p + 2), cellE cy ad sig0 (p + 2)), (ad (p + 3), cellE cy ad sig0 (p + 3)), (ad (p + 4), cellE cy ad sig0 (p + 4)), (ad (p + 5), cellE cy ad sig0 (p + 5)), (ad (p + 6), cellE cy ad sig0 (p + 6)), (ad (p + 7), cellE cy ad sig0 (p + 7)), (ad (p + 8), cellE cy ad sig0 (p + 8)), (ad (p + 9), cellE cy ad sig0 (p + 9)), (ad (p + 10), cellE cy ad sig0 (p + 10)), (ad (p + 11), cellE cy ad sig0 (p + 11)), (ad (p + 12), cellE cy ad sig0 (p + 12)), (ad (p + 13), cellE cy ad sig0 (p + 13)), (ad (p + 14), cellE cy ad sig0 (p + 14)), (ad (p + 15), cellE cy ad sig0 (p + 15)), (ad (p + 16), cellE cy ad sig0 (p + 16)), (ad (p + 17), cellE cy ad sig0 (p + 17)), (ad (p + 18), cellE cy ad sig0 (p + 18))] = _
  rw [show cellE cy ad sig0 (p + 0) = _ from w0_4 h, w0_3 k1, w0_9 k2 (by omega), w0_9 k3 (by omega), w0_9 k4 (by omega), w0_9 k5 (by omega), w0_9 k6 (by omega), w0_9 k7 (by omega), w0_1 k8, w0_9 k9 (by omega), w0_9 k10 (by omega), w0_9 k11 (by omega), w0_5 k12, w0_9 k13 (by omega), w0_9 k14 (by omega), w0_9 k15 (by omega), w0_9 k16 (by omega), w0_6 k17, w0_10 k18, l2, l3, l4, l5, l6, l7, l9, l10, l11, l13, l14, l15, l16, l18]
  rfl
theorem stW_cong {a b : Nat → Nat} (h : ∀ i, i < 19 → a i = b i) : stW cy a = stW cy b := by
  unfold stW
  rw [h 0 (by decide), h 1 (by decide), h 2 (by decide), h 3 (by decide), h 4 (by decide), h 5 (by decide), h 6 (by decide), h 7 (by decide), h 8 (by decide), h 9 (by decide), h 10 (by decide), h 11 (by decide), h 12 (by decide), h 13 (by decide), h 14 (by decide), h 15 (by decide), h 16 (by decide), h 17 (by decide), h 18 (by decide)]
/-- the addresses: seven states' blocks, then the rest -/
def adS (ss : Nat → Nat → Nat) (t : List Nat) (j : Nat) : Nat := if j < 133 then ss (j / 19) (j % 19) else t.getD (j - 133) 0
theorem adS_st {ss : Nat → Nat → Nat} {t : List Nat} {k i : Nat} (hk : k < 7) (hi : i < 19) : ss k i = adS ss t (19 * k + i) := by
  unfold adS
  rw [if_pos (by omega), show (19 * k + i) / 19 = k by omega, show (19 * k + i) % 19 = i by omega]
theorem st_at {D : va_G} {H : Heap} {ss : Nat → Nat → Nat} {t : List Nat} {k : Nat} (hk : k < 7) (h : ∀ q ∈ stW cy (ss k), va_at D zcl q H) : ∀ i, i < 19 → va_at D zcl (adS ss t (19 * k + i), cellE cy (adS ss t) sig0 (19 * k + i)) H := by
  have hp : kd (19 * k) = 4 := (by decide +kernel : ∀ k, k < 7 → kd (19 * k) = 4) k hk
  have e : stW cy (ss k) = (List.range 19).map (fun i => (adS ss t (19 * k + i), cellE cy (adS ss t) sig0 (19 * k + i))) := (stW_cong (fun i hi => adS_st hk hi)).trans (st_cells hp).symm
  intro i hi
  exact h _ (by rw [e]; exact List.mem_map.mpr ⟨i, List.mem_range.mpr hi, rfl⟩)
theorem arrV_congr {c : ClassId} {n : Nat} {f g : Nat → Value} (h : ∀ j, j < n → f j = g j) : arrV c n f = arrV c n g := by
  unfold arrV
  rw [show (fun j : Fin n => f j.val) = (fun j : Fin n => g j.val) from funext fun j => h j.val j.isLt]
theorem sig0_141 : (upd (upd (fun _ => 0) (nI 3).toNatClampNeg 1) (nI 5).toNatClampNeg 3) = sig0 141 := by
  funext k
  rw [sig0_m, show (nI 3).toNatClampNeg = 3 by decide +kernel, show (nI 5).toNatClampNeg = 5 by decide +kernel]
  by_cases h5 : k = 5
  · subst h5
    rw [upd_s]
    rfl
  · rw [upd_n h5, if_neg h5]
    by_cases h3 : k = 3
    · subst h3
      rw [upd_s]
      rfl
    · rw [upd_n h3, if_neg h3]
end W0
