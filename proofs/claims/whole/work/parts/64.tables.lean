/-! ===== the tables at the law's entry: the classes, the array classes, the nest links ===== -/
theorem mN {c : Cond} (i : Nat) (h : tables_1[i]? = some c) : c ∈ lw_tbl := List.mem_append_right _ (List.mem_of_getElem? h)
theorem mi_X7 : Cond.instantiable RX7 10 ∈ wsA := memT 13 (by decide +kernel) (by decide +kernel)
theorem mi_X8 : Cond.instantiable RX8 12 ∈ wsA := memT 615 (by decide +kernel) (by decide +kernel)
theorem mz_X7 : Cond.initialized RX7 ∈ wsA := memT 1 (by decide +kernel) (by decide +kernel)
theorem mz_X8 : Cond.initialized RX8 ∈ wsA := memT 9 (by decide +kernel) (by decide +kernel)
theorem mk_L_7 : Cond.classLink RL 7 RX7 ∈ wsA := memT 12 (by decide +kernel) (by decide +kernel)
theorem mk_L_10 : Cond.classLink RL 10 RX8 ∈ wsA := memT 614 (by decide +kernel) (by decide +kernel)
theorem ml_L_9 : Cond.methodLink RL 9 yX7_init ∈ wsA := memT 14 (by decide +kernel) (by decide +kernel)
theorem ml_L_12 : Cond.methodLink RL 12 yX8_init ∈ wsA := memT 616 (by decide +kernel) (by decide +kernel)
theorem cm_X7 : CtM yX7_init cX7_init 2 := ⟨⟨memT 16 (by decide +kernel) (by decide +kernel), memT 1 (by decide +kernel) (by decide +kernel), ⟨by decide +kernel, by decide +kernel⟩, by decide +kernel⟩, rfl, memT 15 (by decide +kernel) (by decide +kernel)⟩
theorem cm_X8 : CtM yX8_init cX8_init 1 := ⟨⟨memT 618 (by decide +kernel) (by decide +kernel), memT 9 (by decide +kernel) (by decide +kernel), ⟨by decide +kernel, by decide +kernel⟩, by decide +kernel⟩, rfl, memT 617 (by decide +kernel) (by decide +kernel)⟩
theorem st_arr {s : State} {args : Array Value} {ty : FieldType} (h : (Cond.arrayClass ty).before args s = true) : ∃ cA : ClassId, ArrOfT s cA ty ∧ s.vm.findClass ("[" ++ ty.toString) = some cA := by
  obtain ⟨c, k, comp, h1, h2, h3⟩ := Cond.arrayClass_spec h
  exact ⟨c, fun n z => ⟨fun k h => (by cases h), k, h2, comp, h3⟩, h1⟩
theorem st_arrO {s : State} {args : Array Value} {C : String} (h : (Cond.arrayOver (.object C)).before args s = true) : ∃ cA : ClassId, ArrOfT s cA (.object C) ∧ va_RA s cA (.object C) := by
  obtain ⟨comp, c, k, h1, -, h2, h3, h4⟩ := Cond.arrayOver_spec h
  exact ⟨c, fun n z => ⟨fun k h => (by cases h), k, h2, comp, h3⟩, k, comp, h2, h3, h1, h4⟩
theorem st_K {s : State} {args : Array Value} (hts : ∀ w ∈ lw_tbl, w.before args s = true) : ∃ (D : va_G) (cy : Nat → ClassId), va_K D zcl (ztys cy) s := by
  have hA : ∀ x ∈ wsA, x.before args s = true := fun x hx => hts x (List.mem_filter.mp hx).1
  obtain ⟨c0, i0, k0⟩ := u_known (C := RX0) (T := TX0) (N := 4) (n := 4) hA uin_0 (hA _ mi_X0)
  obtain ⟨c1, i1, k1⟩ := u_known (C := RX1) (T := TX1) (N := 4) (n := 4) hA uin_1 (hA _ mi_X1)
  obtain ⟨c2, i2, k2⟩ := u_known (C := RX2) (T := TX2) (N := 2) (n := 2) hA uin_2 (hA _ mi_X2)
  obtain ⟨c3, i3, k3⟩ := u_known (C := RX3) (T := TX3) (N := 8) (n := 8) hA uin_3 (hA _ mi_X3)
  obtain ⟨c4, i4, k4⟩ := u_known (C := RX4) (T := TX4) (N := 10) (n := 10) hA uin_4 (hA _ mi_X4)
  obtain ⟨c5, i5, k5⟩ := u_known (C := RX5) (T := TX5) (N := 6) (n := 6) hA uin_5 (hA _ mi_X5)
  obtain ⟨c6, i6, k6⟩ := u_known (C := RX6) (T := TX6) (N := 2) (n := 2) hA uin_6 (hA _ mi_X6)
  obtain ⟨c7, i7, k7⟩ := u_known (C := RX7) (T := TX7) (N := 10) (n := 10) hA uin_7 (hA _ mi_X7)
  obtain ⟨c8, i8, k8⟩ := u_known (C := RX8) (T := TX8) (N := 12) (n := 12) hA uin_8 (hA _ mi_X8)
  obtain ⟨a0, A0, N0⟩ := st_arr (hA _ mac_int)
  obtain ⟨a1, A1, N1⟩ := st_arr (hA _ mac_char)
  obtain ⟨a2, A2, N2⟩ := st_arr (hA _ mac_boolean)
  obtain ⟨a3, A3, N3⟩ := st_arrO (C := RX4) (hts _ (mN 191 (by decide +kernel)))
  refine ⟨(fun k => match k with | 0 => c0 | 1 => c1 | 2 => c2 | 3 => c3 | 4 => c4 | 5 => c5 | 6 => c6 | 7 => c7 | _ => c8, fun k => match k with | 0 => i0 | 1 => i1 | 2 => i2 | 3 => i3 | 4 => i4 | 5 => i5 | 6 => i6 | 7 => i7 | _ => i8), fun k => match k with | 0 => a0 | 1 => a1 | 2 => a2 | _ => a3, ?_, ?_⟩
  · intro k q hq
    match k, hq with
    | 0, hq => cases hq; exact k0
    | 1, hq => cases hq; exact k1
    | 2, hq => cases hq; exact k2
    | 3, hq => cases hq; exact k3
    | 4, hq => cases hq; exact k4
    | 5, hq => cases hq; exact k5
    | 6, hq => cases hq; exact k6
    | 7, hq => cases hq; exact k7
    | 8, hq => cases hq; exact k8
    | k + 9, hq => simp at hq
  · intro k q hq
    match k, hq with
    | 0, hq => cases hq; exact ⟨A0, N0⟩
    | 1, hq => cases hq; exact ⟨A1, N1⟩
    | 2, hq => cases hq; exact ⟨A2, N2⟩
    | 3, hq => cases hq; exact ⟨A3, N3⟩
    | k + 4, hq => simp at hq
theorem st_ZN {s : State} {args : Array Value} (hts : ∀ w ∈ lw_tbl, w.before args s = true) : ZN s := ⟨va_Nw.of rfl (hts _ (mN 388 (by decide +kernel))), va_Nw.of rfl (hts _ (mN 403 (by decide +kernel)))⟩
theorem st_Z4 {s : State} {args : Array Value} (hts : ∀ w ∈ lw_tbl, w.before args s = true) : Z4 s := ⟨va_Nw.of rfl (hts _ (mN 28 (by decide +kernel))), va_Nw.of rfl (hts _ (mN 72 (by decide +kernel))), va_Nw.of rfl (hts _ (mN 98 (by decide +kernel))), va_Nw.of rfl (hts _ (mN 129 (by decide +kernel)))⟩
theorem st_Z7 {s : State} {args : Array Value} (hts : ∀ w ∈ lw_tbl, w.before args s = true) : Z7 s := ⟨va_Nw.of rfl (hts _ (mN 22 (by decide +kernel))), va_Nw.of rfl (hts _ (mN 194 (by decide +kernel))), va_Nw.of rfl (hts _ (mN 209 (by decide +kernel))), va_AO.of (hts _ (mN 191 (by decide +kernel))), st_Z4 hts⟩
theorem Z7_warm {s U : State} (hW : s.WarmedH U.vm) (q : Z7 s) : Z7 U := ⟨va_Nw.warmM hW q.1, va_Nw.warmM hW q.2.1, va_Nw.warmM hW q.2.2.1, va_AO.moved hW.alike q.2.2.2.1, Z4_warm hW q.2.2.2.2⟩
