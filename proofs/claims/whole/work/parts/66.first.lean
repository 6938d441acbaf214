/-! ===== the world that the two constructors leave, as one list; it is the first heap ===== -/
section W1
variable {cy : Nat → ClassId} {ss : Nat → Nat → Nat} {h hq tq o4 o4_1 o5 o5_1 q8 a1 a2 a3 a4 a5 a6 a7 a8 a9 : Nat}
def w7 (cy : Nat → ClassId) (ss : Nat → Nat → Nat) (h hq tq o4 o4_1 o5 o5_1 : Nat) : va_W := [] ++ (h, .inr (7, [.ref (ss 0 0), .ref (ss 1 0), .ref (ss 2 0), .ref hq, .ref tq, .ref o4, .ref o5, .int 0, .int 0, .int 0])) :: (stW cy (ss 0) ++ stW cy (ss 1) ++ stW cy (ss 2) ++ [(hq, .inl (cy 3, 4, .inr (.inr (.inr (.inr (va_up (va_up (va_up (va_up (fun _ => none) (nI 0).toNatClampNeg (some (ss 3 0))) (nI 1).toNatClampNeg (some (ss 4 0))) (nI 2).toNatClampNeg (some (ss 5 0))) (nI 3).toNatClampNeg (some (ss 6 0))))))))] ++ [(tq, .inl (cy 1, 60, .inl (fun _ => 0)))] ++ [(o4, .inr (2, [.ref o4_1, .int 0])), (o4_1, .inl (cy 0, 12, .inl (fun _ => 0)))] ++ [(o5, .inr (0, [.ref o5_1, .int 0, .int 0, .int 0])), (o5_1, .inl (cy 0, 12, .inl (fun _ => 0)))] ++ stW cy (ss 3) ++ stW cy (ss 4) ++ stW cy (ss 5) ++ stW cy (ss 6))
def w8 (cy : Nat → ClassId) (ss : Nat → Nat → Nat) (h hq tq o4 o4_1 o5 o5_1 q8 a1 a2 a3 a4 a5 a6 a7 a8 a9 : Nat) : va_W := w7 cy ss h hq tq o4 o4_1 o5 o5_1 ++ [(q8, .inr (8, [.ref a1, .ref a2, .ref a3, .int 0, .ref a4, .int 0, .ref a5, .int 0, .ref a6, .ref a7, .ref a8, .ref a9])), (a1, .inl (cy 0, 152, .inl (upd (upd (fun _ => 0) (nI 3).toNatClampNeg 1) (nI 5).toNatClampNeg 3))), (a2, .inl (cy 0, 152, .inl (fun _ => 0))), (a3, .inl (cy 0, 608, .inl (fun _ => 0))), (a4, .inl (cy 0, 152, .inl (fun _ => 0))), (a5, .inl (cy 1, 60, .inl (fun _ => 0))), (a6, .inl (cy 2, 12, .inl (fun _ => 0))), (a7, .inl (cy 0, 12, .inl (fun _ => 0))), (a8, .inl (cy 0, 12, .inl (fun _ => 0))), (a9, .inl (cy 0, 152, .inl (fun _ => 0)))]
def t8 (h hq tq o4 o4_1 o5 o5_1 q8 a1 a2 a3 a4 a5 a6 a7 a8 a9 : Nat) : List Nat := [h, hq, tq, o4, o4_1, o5, o5_1, q8, a1, a2, a3, a4, a5, a6, a7, a8, a9]
def pl8 : List Nat := [133, 0, 1, 2, 3, 4, 5, 6, 7, 8, 9, 10, 11, 12, 13, 14, 15, 16, 17, 18, 19, 20, 21, 22, 23, 24, 25, 26, 27, 28, 29, 30, 31, 32, 33, 34, 35, 36, 37, 38, 39, 40, 41, 42, 43, 44, 45, 46, 47, 48, 49, 50, 51, 52, 53, 54, 55, 56, 134, 135, 136, 137, 138, 139, 57, 58, 59, 60, 61, 62, 63, 64, 65, 66, 67, 68, 69, 70, 71, 72, 73, 74, 75, 76, 77, 78, 79, 80, 81, 82, 83, 84, 85, 86, 87, 88, 89, 90, 91, 92, 93, 94, 95, 96, 97, 98, 99, 100, 101, 102, 103, 104, 105, 106, 107, 108, 109, 110, 111, 112, 113, 114, 115, 116, 117, 118, 119, 120, 121, 122, 123, 124, 125, 126, 127, 128, 129, 130, 131, 132, 140, 141, 142, 143, 144, 145, 146, 147, 148, 149]
def pm8 (j : Nat) : Nat := ([1, 2, 3, 4, 5, 6, 7, 8, 9, 10, 11, 12, 13, 14, 15, 16, 17, 18, 19, 20, 21, 22, 23, 24, 25, 26, 27, 28, 29, 30, 31, 32, 33, 34, 35, 36, 37, 38, 39, 40, 41, 42, 43, 44, 45, 46, 47, 48, 49, 50, 51, 52, 53, 54, 55, 56, 57, 64, 65, 66, 67, 68, 69, 70, 71, 72, 73, 74, 75, 76, 77, 78, 79, 80, 81, 82, 83, 84, 85, 86, 87, 88, 89, 90, 91, 92, 93, 94, 95, 96, 97, 98, 99, 100, 101, 102, 103, 104, 105, 106, 107, 108, 109, 110, 111, 112, 113, 114, 115, 116, 117, 118, 119, 120, 121, 122, 123, 124, 125, 126, 127, 128, 129, 130, 131, 132, 133, 134, 135, 136, 137, 138, 139, 0, 58, 59, 60, 61, 62, 63, 140, 141, 142, 143, 144, 145, 146, 147, 148, 149] : List Nat).getD j 0
theorem pl8_pm : ∀ j, j < 150 → pl8[pm8 j]? = some j := by decide +kernel
set_option maxRecDepth 20000 in
theorem w8_fst : (w8 cy ss h hq tq o4 o4_1 o5 o5_1 q8 a1 a2 a3 a4 a5 a6 a7 a8 a9).map Prod.fst = pl8.map (adS ss (t8 h hq tq o4 o4_1 o5 o5_1 q8 a1 a2 a3 a4 a5 a6 a7 a8 a9)) := rfl
theorem w8_get {j : Nat} (hj : j < 150) : ∃ e, (w8 cy ss h hq tq o4 o4_1 o5 o5_1 q8 a1 a2 a3 a4 a5 a6 a7 a8 a9)[pm8 j]? = some ((adS ss (t8 h hq tq o4 o4_1 o5 o5_1 q8 a1 a2 a3 a4 a5 a6 a7 a8 a9)) j, e) := by
  have q : ((w8 cy ss h hq tq o4 o4_1 o5 o5_1 q8 a1 a2 a3 a4 a5 a6 a7 a8 a9).map Prod.fst)[pm8 j]? = some ((adS ss (t8 h hq tq o4 o4_1 o5 o5_1 q8 a1 a2 a3 a4 a5 a6 a7 a8 a9)) j) := by rw [w8_fst, List.getElem?_map, pl8_pm j hj]; rfl
  rw [List.getElem?_map] at q
  obtain ⟨x, h1, h2⟩ := Option.map_eq_some_iff.mp q
  exact ⟨x.2, by rw [h1, ← h2]⟩
theorem w8_D {A : Nat → Prop} (hD : va_D A (w8 cy ss h hq tq o4 o4_1 o5 o5_1 q8 a1 a2 a3 a4 a5 a6 a7 a8 a9)) (σ : HP) : va_D A (zw cy (adS ss (t8 h hq tq o4 o4_1 o5 o5_1 q8 a1 a2 a3 a4 a5 a6 a7 a8 a9)) σ) := by
  have lt : ∀ (i : Nat) (q : Nat × va_E), (zw cy (adS ss (t8 h hq tq o4 o4_1 o5 o5_1 q8 a1 a2 a3 a4 a5 a6 a7 a8 a9)) σ)[i]? = some q → i < 150 ∧ q.1 = (adS ss (t8 h hq tq o4 o4_1 o5 o5_1 q8 a1 a2 a3 a4 a5 a6 a7 a8 a9)) i := fun i q hq => by
    have hi : i < 150 := by
      rcases Nat.lt_or_ge i 150 with c | c
      · exact c
      · rw [List.getElem?_eq_none (by simp [zw]; omega)] at hq
        cases hq
    rw [zw_get hi] at hq
    cases hq
    exact ⟨hi, rfl⟩
  refine ⟨fun i j x y hx hy hxy => ?_, fun i x hx => ?_⟩
  · obtain ⟨hi, ex⟩ := lt i x hx
    obtain ⟨hj, ey⟩ := lt j y hy
    obtain ⟨e1, g1⟩ := w8_get (cy := cy) (ss := ss) (h := h) (hq := hq) (tq := tq) (o4 := o4) (o4_1 := o4_1) (o5 := o5) (o5_1 := o5_1) (q8 := q8) (a1 := a1) (a2 := a2) (a3 := a3) (a4 := a4) (a5 := a5) (a6 := a6) (a7 := a7) (a8 := a8) (a9 := a9) hi
    obtain ⟨e2, g2⟩ := w8_get (cy := cy) (ss := ss) (h := h) (hq := hq) (tq := tq) (o4 := o4) (o4_1 := o4_1) (o5 := o5) (o5_1 := o5_1) (q8 := q8) (a1 := a1) (a2 := a2) (a3 := a3) (a4 := a4) (a5 := a5) (a6 := a6) (a7 := a7) (a8 := a8) (a9 := a9) hj
    have e := hD.1 _ _ _ _ g1 g2 (by show (adS ss (t8 h hq tq o4 o4_1 o5 o5_1 q8 a1 a2 a3 a4 a5 a6 a7 a8 a9)) i = (adS ss (t8 h hq tq o4 o4_1 o5 o5_1 q8 a1 a2 a3 a4 a5 a6 a7 a8 a9)) j; rw [← ex, ← ey, hxy])
    have h1 := pl8_pm i hi
    rw [e, pl8_pm j hj] at h1
    exact (Option.some.inj h1).symm
  · obtain ⟨hi, ex⟩ := lt i x hx
    obtain ⟨e1, g1⟩ := w8_get (cy := cy) (ss := ss) (h := h) (hq := hq) (tq := tq) (o4 := o4) (o4_1 := o4_1) (o5 := o5) (o5_1 := o5_1) (q8 := q8) (a1 := a1) (a2 := a2) (a3 := a3) (a4 := a4) (a5 := a5) (a6 := a6) (a7 := a7) (a8 := a8) (a9 := a9) hi
    rw [ex]
    exact hD.2 _ _ g1
set_option maxRecDepth 20000 in
theorem w7_len : (w7 cy ss h hq tq o4 o4_1 o5 o5_1).length = 140 := rfl
set_option maxHeartbeats 4000000 in
theorem w8_P {D : va_G} {H : Heap} (hP : va_P D zcl (w8 cy ss h hq tq o4 o4_1 o5 o5_1 q8 a1 a2 a3 a4 a5 a6 a7 a8 a9) H) : va_P D zcl (zw cy (adS ss (t8 h hq tq o4 o4_1 o5 o5_1 q8 a1 a2 a3 a4 a5 a6 a7 a8 a9)) sig0) H := by
  have hM : ∀ q ∈ w8 cy ss h hq tq o4 o4_1 o5 o5_1 q8 a1 a2 a3 a4 a5 a6 a7 a8 a9, va_at D zcl q H := fun q hq => by
    obtain ⟨i, hi⟩ := List.getElem?_of_mem hq
    exact hP i q hi
  have hk : ∀ k, k < 7 → ∀ q ∈ stW cy (ss k), va_at D zcl q H := fun k hk q hq => hM q (by
    unfold w8 w7
    rcases (show k = 0 ∨ k = 1 ∨ k = 2 ∨ k = 3 ∨ k = 4 ∨ k = 5 ∨ k = 6 by omega) with rfl | rfl | rfl | rfl | rfl | rfl | rfl <;> simp only [List.mem_append, List.mem_cons, hq, true_or, or_true])
  have hP8 : va_P D zcl [(q8, .inr (8, [.ref a1, .ref a2, .ref a3, .int 0, .ref a4, .int 0, .ref a5, .int 0, .ref a6, .ref a7, .ref a8, .ref a9])), (a1, .inl (cy 0, 152, .inl (upd (upd (fun _ => 0) (nI 3).toNatClampNeg 1) (nI 5).toNatClampNeg 3))), (a2, .inl (cy 0, 152, .inl (fun _ => 0))), (a3, .inl (cy 0, 608, .inl (fun _ => 0))), (a4, .inl (cy 0, 152, .inl (fun _ => 0))), (a5, .inl (cy 1, 60, .inl (fun _ => 0))), (a6, .inl (cy 2, 12, .inl (fun _ => 0))), (a7, .inl (cy 0, 12, .inl (fun _ => 0))), (a8, .inl (cy 0, 12, .inl (fun _ => 0))), (a9, .inl (cy 0, 152, .inl (fun _ => 0)))] H := fun i q hi => hP (140 + i) q (by
    show (w7 cy ss h hq tq o4 o4_1 o5 o5_1 ++ _)[140 + i]? = some q
    rw [List.getElem?_append_right (by rw [w7_len]; omega), w7_len, show 140 + i - 140 = i by omega]
    exact hi)
  have m133 : va_at D zcl ((adS ss (t8 h hq tq o4 o4_1 o5 o5_1 q8 a1 a2 a3 a4 a5 a6 a7 a8 a9)) 133, cellE cy (adS ss (t8 h hq tq o4 o4_1 o5 o5_1 q8 a1 a2 a3 a4 a5 a6 a7 a8 a9)) sig0 133) H := by
    have q := hP 0 _ rfl
    rw [w0_7 (j := 133) (by decide +kernel)]
    exact q
  have m134 : va_at D zcl ((adS ss (t8 h hq tq o4 o4_1 o5 o5_1 q8 a1 a2 a3 a4 a5 a6 a7 a8 a9)) 134, cellE cy (adS ss (t8 h hq tq o4 o4_1 o5 o5_1 q8 a1 a2 a3 a4 a5 a6 a7 a8 a9)) sig0 134) H := by
    have q := hP 58 _ (show (w8 cy ss h hq tq o4 o4_1 o5 o5_1 q8 a1 a2 a3 a4 a5 a6 a7 a8 a9)[58]? = some (hq, .inl (cy 3, 4, .inr (.inr (.inr (.inr (va_up (va_up (va_up (va_up (fun _ => none) (nI 0).toNatClampNeg (some (ss 3 0))) (nI 1).toNatClampNeg (some (ss 4 0))) (nI 2).toNatClampNeg (some (ss 5 0))) (nI 3).toNatClampNeg (some (ss 6 0)))))))) from rfl)
    rw [cellE_arr12 (by decide +kernel), show ln 134 = 4 by decide +kernel]
    show H[hq]? = some (vp_cell _ _)
    have q : H[hq]? = some (vp_cell _ _) := q
    rw [vp_cell_q] at q ⊢
    rw [q]
    refine congrArg some (arrV_congr (fun j hj => ?_))
    rw [show (nI 0).toNatClampNeg = 0 by decide +kernel, show (nI 1).toNatClampNeg = 1 by decide +kernel, show (nI 2).toNatClampNeg = 2 by decide +kernel, show (nI 3).toNatClampNeg = 3 by decide +kernel]
    rcases (show j = 0 ∨ j = 1 ∨ j = 2 ∨ j = 3 by omega) with rfl | rfl | rfl | rfl
    · rw [show ix (sig0 134 0) = 57 by decide +kernel]; rfl
    · rw [show ix (sig0 134 1) = 76 by decide +kernel]; rfl
    · rw [show ix (sig0 134 2) = 95 by decide +kernel]; rfl
    · rw [show ix (sig0 134 3) = 114 by decide +kernel]; rfl
  have m135 : va_at D zcl ((adS ss (t8 h hq tq o4 o4_1 o5 o5_1 q8 a1 a2 a3 a4 a5 a6 a7 a8 a9)) 135, cellE cy (adS ss (t8 h hq tq o4 o4_1 o5 o5_1 q8 a1 a2 a3 a4 a5 a6 a7 a8 a9)) sig0 135) H := by
    have q := hP 59 _ rfl
    rw [w0_10 (j := 135) (by decide +kernel), show ln 135 = 60 by decide +kernel]
    exact q
  have m136 : va_at D zcl ((adS ss (t8 h hq tq o4 o4_1 o5 o5_1 q8 a1 a2 a3 a4 a5 a6 a7 a8 a9)) 136, cellE cy (adS ss (t8 h hq tq o4 o4_1 o5 o5_1 q8 a1 a2 a3 a4 a5 a6 a7 a8 a9)) sig0 136) H := by
    have q := hP 60 _ rfl
    rw [w0_2 (j := 136) (by decide +kernel)]
    exact q
  have m137 : va_at D zcl ((adS ss (t8 h hq tq o4 o4_1 o5 o5_1 q8 a1 a2 a3 a4 a5 a6 a7 a8 a9)) 137, cellE cy (adS ss (t8 h hq tq o4 o4_1 o5 o5_1 q8 a1 a2 a3 a4 a5 a6 a7 a8 a9)) sig0 137) H := by
    have q := hP 61 _ rfl
    rw [w0_9 (j := 137) (by decide +kernel) (by decide), show ln 137 = 12 by decide +kernel]
    exact q
  have m138 : va_at D zcl ((adS ss (t8 h hq tq o4 o4_1 o5 o5_1 q8 a1 a2 a3 a4 a5 a6 a7 a8 a9)) 138, cellE cy (adS ss (t8 h hq tq o4 o4_1 o5 o5_1 q8 a1 a2 a3 a4 a5 a6 a7 a8 a9)) sig0 138) H := by
    have q := hP 62 _ rfl
    rw [w0_0 (j := 138) (by decide +kernel)]
    exact q
  have m139 : va_at D zcl ((adS ss (t8 h hq tq o4 o4_1 o5 o5_1 q8 a1 a2 a3 a4 a5 a6 a7 a8 a9)) 139, cellE cy (adS ss (t8 h hq tq o4 o4_1 o5 o5_1 q8 a1 a2 a3 a4 a5 a6 a7 a8 a9)) sig0 139) H := by
    have q := hP 63 _ rfl
    rw [w0_9 (j := 139) (by decide +kernel) (by decide), show ln 139 = 12 by decide +kernel]
    exact q
  have m140 : va_at D zcl ((adS ss (t8 h hq tq o4 o4_1 o5 o5_1 q8 a1 a2 a3 a4 a5 a6 a7 a8 a9)) 140, cellE cy (adS ss (t8 h hq tq o4 o4_1 o5 o5_1 q8 a1 a2 a3 a4 a5 a6 a7 a8 a9)) sig0 140) H := by
    have q := hP8 0 _ rfl
    rw [w0_8 (j := 140) (by decide +kernel)]
    exact q
  have m141 : va_at D zcl ((adS ss (t8 h hq tq o4 o4_1 o5 o5_1 q8 a1 a2 a3 a4 a5 a6 a7 a8 a9)) 141, cellE cy (adS ss (t8 h hq tq o4 o4_1 o5 o5_1 q8 a1 a2 a3 a4 a5 a6 a7 a8 a9)) sig0 141) H := by
    have q := hP8 1 _ rfl
    rw [cellE_arr9 (by decide +kernel), show ln 141 = 152 by decide +kernel, ← sig0_141]
    exact q
  have m142 : va_at D zcl ((adS ss (t8 h hq tq o4 o4_1 o5 o5_1 q8 a1 a2 a3 a4 a5 a6 a7 a8 a9)) 142, cellE cy (adS ss (t8 h hq tq o4 o4_1 o5 o5_1 q8 a1 a2 a3 a4 a5 a6 a7 a8 a9)) sig0 142) H := by
    have q := hP8 2 _ rfl
    rw [w0_9 (j := 142) (by decide +kernel) (by decide), show ln 142 = 152 by decide +kernel]
    exact q
  have m143 : va_at D zcl ((adS ss (t8 h hq tq o4 o4_1 o5 o5_1 q8 a1 a2 a3 a4 a5 a6 a7 a8 a9)) 143, cellE cy (adS ss (t8 h hq tq o4 o4_1 o5 o5_1 q8 a1 a2 a3 a4 a5 a6 a7 a8 a9)) sig0 143) H := by
    have q := hP8 3 _ rfl
    rw [w0_9 (j := 143) (by decide +kernel) (by decide), show ln 143 = 608 by decide +kernel]
    exact q
  have m144 : va_at D zcl ((adS ss (t8 h hq tq o4 o4_1 o5 o5_1 q8 a1 a2 a3 a4 a5 a6 a7 a8 a9)) 144, cellE cy (adS ss (t8 h hq tq o4 o4_1 o5 o5_1 q8 a1 a2 a3 a4 a5 a6 a7 a8 a9)) sig0 144) H := by
    have q := hP8 4 _ rfl
    rw [w0_9 (j := 144) (by decide +kernel) (by decide), show ln 144 = 152 by decide +kernel]
    exact q
  have m145 : va_at D zcl ((adS ss (t8 h hq tq o4 o4_1 o5 o5_1 q8 a1 a2 a3 a4 a5 a6 a7 a8 a9)) 145, cellE cy (adS ss (t8 h hq tq o4 o4_1 o5 o5_1 q8 a1 a2 a3 a4 a5 a6 a7 a8 a9)) sig0 145) H := by
    have q := hP8 5 _ rfl
    rw [w0_10 (j := 145) (by decide +kernel), show ln 145 = 60 by decide +kernel]
    exact q
  have m146 : va_at D zcl ((adS ss (t8 h hq tq o4 o4_1 o5 o5_1 q8 a1 a2 a3 a4 a5 a6 a7 a8 a9)) 146, cellE cy (adS ss (t8 h hq tq o4 o4_1 o5 o5_1 q8 a1 a2 a3 a4 a5 a6 a7 a8 a9)) sig0 146) H := by
    have q := hP8 6 _ rfl
    rw [w0_11 (j := 146) (by decide +kernel), show ln 146 = 12 by decide +kernel]
    exact q
  have m147 : va_at D zcl ((adS ss (t8 h hq tq o4 o4_1 o5 o5_1 q8 a1 a2 a3 a4 a5 a6 a7 a8 a9)) 147, cellE cy (adS ss (t8 h hq tq o4 o4_1 o5 o5_1 q8 a1 a2 a3 a4 a5 a6 a7 a8 a9)) sig0 147) H := by
    have q := hP8 7 _ rfl
    rw [w0_9 (j := 147) (by decide +kernel) (by decide), show ln 147 = 12 by decide +kernel]
    exact q
  have m148 : va_at D zcl ((adS ss (t8 h hq tq o4 o4_1 o5 o5_1 q8 a1 a2 a3 a4 a5 a6 a7 a8 a9)) 148, cellE cy (adS ss (t8 h hq tq o4 o4_1 o5 o5_1 q8 a1 a2 a3 a4 a5 a6 a7 a8 a9)) sig0 148) H := by
    have q := hP8 8 _ rfl
    rw [w0_9 (j := 148) (by decide +kernel) (by decide), show ln 148 = 12 by decide +kernel]
    exact q
  have m149 : va_at D zcl ((adS ss (t8 h hq tq o4 o4_1 o5 o5_1 q8 a1 a2 a3 a4 a5 a6 a7 a8 a9)) 149, cellE cy (adS ss (t8 h hq tq o4 o4_1 o5 o5_1 q8 a1 a2 a3 a4 a5 a6 a7 a8 a9)) sig0 149) H := by
    have q := hP8 9 _ rfl
    rw [w0_9 (j := 149) (by decide +kernel) (by decide), show ln 149 = 152 by decide +kernel]
    exact q
  intro i q hq
  have hi : i < 150 := by
    rcases Nat.lt_or_ge i 150 with c | c
    · exact c
    · rw [List.getElem?_eq_none (by simp [zw]; omega)] at hq
      cases hq
  rw [zw_get hi] at hq
  cases hq
  rcases Nat.lt_or_ge i 133 with c | c
  · have e := st_at (t := t8 h hq tq o4 o4_1 o5 o5_1 q8 a1 a2 a3 a4 a5 a6 a7 a8 a9) (show i / 19 < 7 by omega) (hk (i / 19) (by omega)) (i % 19) (by omega)
    rw [show 19 * (i / 19) + i % 19 = i by omega] at e
    exact e
  · rcases (show i = 133 ∨ i = 134 ∨ i = 135 ∨ i = 136 ∨ i = 137 ∨ i = 138 ∨ i = 139 ∨ i = 140 ∨ i = 141 ∨ i = 142 ∨ i = 143 ∨ i = 144 ∨ i = 145 ∨ i = 146 ∨ i = 147 ∨ i = 148 ∨ i = 149 by omega) with rfl | rfl | rfl | rfl | rfl | rfl | rfl | rfl | rfl | rfl | rfl | rfl | rfl | rfl | rfl | rfl | rfl
    · exact m133
    · exact m134
    · exact m135
    · exact m136
    · exact m137
    · exact m138
    · exact m139
    · exact m140
    · exact m141
    · exact m142
    · exact m143
    · exact m144
    · exact m145
    · exact m146
    · exact m147
    · exact m148
    · exact m149
end W1
