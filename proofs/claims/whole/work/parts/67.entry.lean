/-! ===== the law, from its entry ===== -/
set_option maxHeartbeats 8000000 in
set_option maxRecDepth 100000 in
theorem whole_start {p : Program} {e : Env} {s : State} {m : MethodId} {below : List Frame} {meth : Method} {c : Code} (l : Launch) (hflags : l.flags = flags0) {b L : Nat} {xs : Nat → Int32} (hL : L ≤ 2048) (C0 : lw_At p s m meth c b L xs) : W p l e room_1 s m #[Value.ref b] below meth c s.heap [] 0 0 (lw_Z below #[Value.ref b] s) (entryFrame m ([Value.ref b] : List Value).toArray 4) := by
  obtain ⟨hx, hb, hr, hml, hown, htt, hXs, hbl, hlocks, hgv⟩ := id C0
  have hts : ∀ x ∈ wsA, x.before #[Value.ref b] s = true := fun x hx => htt x (List.mem_filter.mp hx).1
  have hown : s.vm.findClass RL = some m.cls := hown
  have hA : ∀ q : Nat, s.heap.size ≤ q → s.heap.size ≤ q := fun _ h => h
  have hbA : ¬ s.heap.size ≤ b := Nat.not_le.mpr hbl
  obtain ⟨D, cy, hK⟩ := st_K htt
  have hZN := st_ZN htt
  have hZ7 := st_Z7 htt
  have hS : va_S (fun q => s.heap.size ≤ q) s.heap s.heap [] := va_S.rf
  have hP : va_P D zcl [] s.heap := fun k q h => by simp at h
  have hD : va_D (fun q => s.heap.size ≤ q) [] := ⟨fun i j p q h => by simp at h, fun k q h => by simp at h⟩
  have hl := lv_entry ([.ref b]) (n := 4) (Nat.le_of_ble_eq_true rfl)
  rw [lg_entry_eq]
  generalize (lg_sl ([.ref b]) ++ List.replicate (4 - (lg_sl ([.ref b])).length) Slot.unset).toArray = ls at hl ⊢
  have hl : lv_has ls 4 [(0, .ref b)] := hl
  refine va_new (D := D) (A := fun q => s.heap.size ≤ q) (ci := 7) (fs := [.null, .null, .null, .null, .null, .null, .null, .int 0, .int 0, .int 0]) (C := RX7) (T := TX7) (N := 10) hx hb hts uin_7 tyX7 tyX7_ok hown (hts _ mk_L_7) (hts _ mi_X7) (hts _ mz_X7) hK hP hD hS hA rfl (fun j hj => by rcases (show j = 0 ∨ j = 1 ∨ j = 2 ∨ j = 3 ∨ j = 4 ∨ j = 5 ∨ j = 6 ∨ j = 7 ∨ j = 8 ∨ j = 9 by omega) with rfl | rfl | rfl | rfl | rfl | rfl | rfl | rfl | rfl | rfl <;> rfl) (Nat.le_of_ble_eq_true rfl) (Nat.le_of_ble_eq_true rfl) dL_law_0 (fun h H hP hD hS => ?_)
  refine lv_dup hx hb dL_law_3 rfl ?_
  refine ci_callI (sz := s.heap.size) (D := D) (b := h) (st := [.ref h]) hx hb hml hown hts cm_X7 ml_L_9 (ci_X7 l D cy s.heap.size h []) (Nat.le_of_ble_eq_true rfl) (Nat.le_of_ble_eq_true rfl) (Nat.le_of_ble_eq_true rfl) (Nat.le_of_ble_eq_true rfl) ci_blind7 (fun U hU hW => ⟨⟨by rw [hU]; exact hS.1, by rw [hU]; exact hP, va_K.moved hW.alike hK, hD⟩, Z7_warm hW hZ7⟩) hl.1 (Nat.le_of_ble_eq_true rfl) hS dL_law_4 (fun W1 H locs hw hP hD hS => ?_)
  obtain ⟨s1, s2, s3, hq, tq, o4, o4_1, o5, o5_1, s6, s7, s8, s9, rfl⟩ := hw
  obtain ⟨ss, es⟩ : ∃ ss : Nat → Nat → Nat, ss = fun k => match k with | 0 => s1 | 1 => s2 | 2 => s3 | 3 => s6 | 4 => s7 | 5 => s8 | _ => s9 := ⟨_, rfl⟩
  obtain ⟨e0, e1, e2, e3, e4, e5, e6⟩ : s1 = ss 0 ∧ s2 = ss 1 ∧ s3 = ss 2 ∧ s6 = ss 3 ∧ s7 = ss 4 ∧ s8 = ss 5 ∧ s9 = ss 6 := by rw [es]; exact ⟨rfl, rfl, rfl, rfl, rfl, rfl, rfl⟩
  have hP : va_P D zcl (w7 cy ss h hq tq o4 o4_1 o5 o5_1) H := by rw [e0, e1, e2, e3, e4, e5, e6] at hP; exact hP
  have hD : va_D (fun q => s.heap.size ≤ q) (w7 cy ss h hq tq o4 o4_1 o5 o5_1) := by rw [e0, e1, e2, e3, e4, e5, e6] at hD; exact hD
  refine lv_astore_n (lv' := [(1, .ref h), (0, .ref b)]) hx hb dL_law_7 rfl hl (by decide) rfl (fun ls hl => ?_)
  refine va_new (D := D) (A := fun q => s.heap.size ≤ q) (ci := 8) (fs := [.null, .null, .null, .int 0, .null, .int 0, .null, .int 0, .null, .null, .null, .null]) (C := RX8) (T := TX8) (N := 12) hx hb hts uin_8 tyX8 tyX8_ok hown (hts _ mk_L_10) (hts _ mi_X8) (hts _ mz_X8) hK hP hD hS hA rfl (fun j hj => by rcases (show j = 0 ∨ j = 1 ∨ j = 2 ∨ j = 3 ∨ j = 4 ∨ j = 5 ∨ j = 6 ∨ j = 7 ∨ j = 8 ∨ j = 9 ∨ j = 10 ∨ j = 11 by omega) with rfl | rfl | rfl | rfl | rfl | rfl | rfl | rfl | rfl | rfl | rfl | rfl <;> rfl) (Nat.le_of_ble_eq_true rfl) (Nat.le_of_ble_eq_true rfl) dL_law_8 (fun q8 H hP hD hS => ?_)
  refine lv_dup hx hb dL_law_11 rfl ?_
  refine ci_callI (sz := s.heap.size) (D := D) (b := q8) (st := [.ref q8]) hx hb hml hown hts cm_X8 ml_L_12 (ci_X8 l D cy s.heap.size q8 (w7 cy ss h hq tq o4 o4_1 o5 o5_1)) (Nat.le_of_ble_eq_true rfl) (Nat.le_of_ble_eq_true rfl) (Nat.le_of_ble_eq_true rfl) (Nat.le_of_ble_eq_true rfl) ci_blind (fun U hU hW => ⟨by rw [hU]; exact hS.1, by rw [hU]; exact hP, va_K.moved hW.alike hK, hD⟩) hl.1 (Nat.le_of_ble_eq_true rfl) hS dL_law_12 (fun W1 H locs hw hP hD hS => ?_)
  obtain ⟨a1, a2, a3, a4, a5, a6, a7, a8, a9, rfl⟩ := hw
  refine lv_astore_n (lv' := [(2, .ref q8), (1, .ref h), (0, .ref b)]) hx hb dL_law_15 rfl hl (by decide) rfl (fun ls hl => ?_)
  refine lv_iconst (v := nI 0) hx hb dL_law_16 (by decide) ?_
  refine lv_istore_n (lv' := [(3, .int (nI 0)), (2, .ref q8), (1, .ref h), (0, .ref b)]) hx hb dL_law_17 rfl hl (by decide) rfl (fun ls hl => ?_)
  have hP1 := w8_P (cy := cy) (ss := ss) hP
  have hD1 := w8_D (cy := cy) (ss := ss) hD
  obtain ⟨ad, hP2, hD2, x1, x2⟩ : ∃ ad : Nat → Nat, va_P D zcl (zw cy ad sig0) H ∧ (∀ σ : HP, va_D (fun q => s.heap.size ≤ q) (zw cy ad σ)) ∧ ad 133 = h ∧ ad 140 = q8 := ⟨_, hP1, hD1, rfl, rfl⟩
  have hl : lv_has ls 4 [(0, .ref b), (1, .ref (ad 133)), (2, .ref (ad 140)), (3, .int (nI 0))] := by rw [x1, x2]; exact lv_sub hl [3, 2, 1, 0] rfl
  refine law_loop (X := ((l, D, cy, ad, fun q => s.heap.size ≤ q), p, e, room_1, s, m, #[Value.ref b], below, meth, c, 4, 150, 2618, lw_Z below #[Value.ref b] s)) (b := b) (L := L) (xs := xs) ?_ ⟨hXs, hbl, hbA⟩ hL (fun σ lv => law_end hx hb hr hlocks (Nat.le_of_ble_eq_true rfl) (Nat.le_of_ble_eq_true rfl)) 600 0 sig0 (by omega) (by omega) inv0 ls H locs hl hP2 hS
  exact ⟨hx, hb, hml, rfl, hown, hts, hK, hZN, hD2, rfl, rfl, Nat.le_of_ble_eq_true rfl, Nat.le_of_ble_eq_true rfl⟩
