/-! ===== the constructors: the whole world goes through ===== -/
def CiPre (D : va_G) (cy : Nat → ClassId) (sz : Nat) (ws : va_W) : State → Prop := fun U => sz ≤ U.heap.size ∧ va_P D zcl ws U.heap ∧ va_K D zcl (ztys cy) U ∧ va_D (fun q => sz ≤ q) ws
def CiPost (D : va_G) (sz : Nat) (P : va_W → Prop) : Array Value → State → Outcome → State → Prop := fun _ st oc t => oc = .returned none ∧ (∃ ws, P ws ∧ va_P D zcl ws t.heap ∧ va_D (fun q => sz ≤ q) ws) ∧ va_F (fun q => sz ≤ q) st t
theorem ra_one {D : va_G} {cl : List vw_C} {U : State} {tys : List (ClassId × FieldType)} {cA cB : ClassId} {ty : FieldType} (h : va_K D cl (tys ++ [(cA, ty)]) U) (k : Nat) (hk : tys[k]? = some (cB, ty)) (hp : ty = .int ∨ ty = .char ∨ ty = .boolean) : cA = cB := by
  have hl : k < tys.length := (List.getElem?_eq_some_iff.mp hk).1
  have h1 := (h.2 tys.length (cA, ty) (by rw [List.getElem?_append_right (Nat.le_refl _), Nat.sub_self]; rfl)).2
  have h2 := (h.2 k (cB, ty) (by rw [List.getElem?_append_left hl]; exact hk)).2
  rcases hp with rfl | rfl | rfl <;> exact Option.some.inj (h1.symm.trans h2)
theorem w_get {α : Type} {ws : List α} {x : α} {r : List α} : (ws ++ x :: r)[ws.length]? = some x := by rw [List.getElem?_append_right (Nat.le_refl _), Nat.sub_self]; rfl
theorem w_set {α : Type} {ws : List α} {x y : α} {r : List α} : (ws ++ x :: r).set ws.length y = ws ++ y :: r := by rw [List.set_append_right _ _ (Nat.le_refl _), Nat.sub_self]; rfl
theorem mac_int : Cond.arrayClass .int ∈ wsA := memT 69 (by decide +kernel) (by decide +kernel)
theorem mac_char : Cond.arrayClass .char ∈ wsA := memT 144 (by decide +kernel) (by decide +kernel)
theorem mac_boolean : Cond.arrayClass .boolean ∈ wsA := memT 657 (by decide +kernel) (by decide +kernel)
theorem mo_inst : Cond.instanceMethod objectInit ∈ wsA := memT 18 (by decide +kernel) (by decide +kernel)
theorem mo_code : Cond.code objectInit ⟨#[0xb1]⟩ 1 none ∈ wsA := memT 19 (by decide +kernel) (by decide +kernel)
theorem mo_X2 : Cond.methodLink RX2 3 objectInit ∈ wsA := memT 197 (by decide +kernel) (by decide +kernel)
set_option maxHeartbeats 4000000 in
theorem ci_X2 (l : Launch) (D : va_G) (cy : Nat → ClassId) (sz h : Nat) (ws : va_W) : Met l yX2_init (ZMw yX2_init cX2_init 1 none) { frames := 1, cells := 1, slots := 12, locals := 12 } (va_Pc [.ref h] (CiPre D cy sz (ws ++ [(h, .inr (2, [.null, .int 0]))]))) (CiPost D sz (fun W => ∃ a1 : Nat, W = ws ++ [(h, .inr (2, [.ref a1, .int 0])), (a1, .inl (cy 0, 12, .inl (fun _ => 0)))])) 1 12 (fun q => sz ≤ q) := by
  refine Met.ofW (cc := cX2_init) (maxL := 1) (ret := none) (by decide +kernel) rfl ?_
  intro p e s m args below meth c s₁ B hml hv
  obtain ⟨rfl, hsz, hP, hK, hD⟩ := hv
  have hx := B.exec
  have hb := B.bytes
  have hr := B.returns
  have hts0 := atoms_spec (ws := ZMw yX2_init cX2_init 1 none) B.pre
  have hts : ∀ x ∈ wsA, x.before _ s = true := fun x hx => hts0 x (List.mem_cons_of_mem _ hx)
  have hown : s.vm.findClass RX2 = some m.cls := findClass_of_methodNamed B.named
  have hlocks := B.notSynchronized
  have hin : meth.name = "<init>" := (name_of_methodNamed B.named B.method).1
  have hA : ∀ q : Nat, s.heap.size ≤ q → sz ≤ q := fun q h => Nat.le_trans hsz h
  have hS : va_S (fun q => sz ≤ q) s.heap s.heap [] := va_S.rf
  have hl := lv_entry ([Value.ref h]) (n := 1) (Nat.le_of_ble_eq_true rfl)
  rw [lg_entry_eq]
  generalize (lg_sl ([Value.ref h]) ++ List.replicate (1 - (lg_sl ([Value.ref h])).length) Slot.unset).toArray = ls at hl ⊢
  have hl : lv_has ls 1 [(0, .ref h)] := hl
  refine lv_aload_n hx hb dX2_init_0 rfl (lv_at hl 0 rfl) ?_
  refine W.objInit hx hb hown (hts _ mo_X2) (hts _ mo_inst) (hts _ mo_code) rfl (by rw [hml]; exact hl.1) rfl dX2_init_1 (Nat.le_of_ble_eq_true rfl) (Nat.le_of_ble_eq_true rfl) ?_
  refine W.eq (g2 := F0 m 4 ls []) rfl ?_
  refine lv_aload_n hx hb dX2_init_4 rfl (lv_at hl 0 rfl) ?_
  refine lv_bipush (v := nI 12) hx hb dX2_init_5 (by decide) ?_
  refine va_newa (atype := .int) (ty := .int) (N' := 12) (a0 := (12, .inl (fun _ => 0))) hx hb (hts _ mac_int) rfl hK hP hD hS hA (fun _ => rfl) (by decide) (by decide) (Nat.le_of_ble_eq_true rfl) (Nat.le_of_ble_eq_true rfl) (Nat.le_of_ble_eq_true rfl) dX2_init_7 (fun a1 cA H hK2 hP hD hS => ?_)
  obtain rfl := ra_one hK2 0 rfl (Or.inl rfl)
  have hP : va_P D zcl (ws ++ [(h, .inr (2, [.null, .int 0])), (a1, .inl (cy 0, 12, .inl (fun _ => 0)))]) H := by rw [List.append_assoc] at hP; exact hP
  have hD : va_D (fun q => sz ≤ q) (ws ++ [(h, .inr (2, [.null, .int 0])), (a1, .inl (cy 0, 12, .inl (fun _ => 0)))]) := by rw [List.append_assoc] at hD; exact hD
  refine va_putF (D := D) (ci := 2) (v := .ref a1) (ty := tyX2 0) (C := RX2) (T := TX2) (N := 2) hx hb hts uin_2 tyX2 tyX2_ok nmX2 hown hK hP hD hS ws.length w_get rfl 0 (by decide) (hts _ mf_X2_9) (fun _ h9 => h9) rfl hin rfl (tyX2_ok 0 (by decide)) rfl rfl (Nat.le_of_ble_eq_true rfl) dX2_init_9 (fun H locs hP hD hS => ?_)
  have hP : va_P D zcl (ws ++ [(h, .inr (2, [.ref a1, .int 0])), (a1, .inl (cy 0, 12, .inl (fun _ => 0)))]) H := by rw [w_set] at hP; exact hP
  have hD : va_D (fun q => sz ≤ q) (ws ++ [(h, .inr (2, [.ref a1, .int 0])), (a1, .inl (cy 0, 12, .inl (fun _ => 0)))]) := by rw [w_set] at hD; exact hD
  refine lv_aload_n hx hb dX2_init_12 rfl (lv_at hl 0 rfl) ?_
  refine lv_iconst (v := 0) hx hb dX2_init_13 (by decide) ?_
  refine va_put (D := D) (ci := 2) (v := .int 0) (ty := tyX2 1) (C := RX2) (T := TX2) (N := 2) hx hb hts uin_2 tyX2 tyX2_ok nmX2 hown hK hP hD hS ws.length w_get rfl 1 (by decide) (hts _ mf_X2_15) (fun _ h9 => h9) rfl (tyX2_ok 1 (by decide)) rfl rfl (Nat.le_of_ble_eq_true rfl) dX2_init_14 (fun H locs hP hD hS => ?_)
  have hP : va_P D zcl (ws ++ [(h, .inr (2, [.ref a1, .int 0])), (a1, .inl (cy 0, 12, .inl (fun _ => 0)))]) H := by rw [w_set] at hP; exact hP
  have hD : va_D (fun q => sz ≤ q) (ws ++ [(h, .inr (2, [.ref a1, .int 0])), (a1, .inl (cy 0, 12, .inl (fun _ => 0)))]) := by rw [w_set] at hD; exact hD
  exact W.vret hx hb hr (fun t ht hW => ⟨rfl, ⟨_, ⟨a1, rfl⟩, by rw [ht]; exact hP, hD⟩, hS.F ht⟩) hS.2.2 dX2_init_17 hlocks
theorem mo_X6 : Cond.methodLink RX6 3 objectInit ∈ wsA := memT 132 (by decide +kernel) (by decide +kernel)
set_option maxHeartbeats 4000000 in
theorem ci_X6 (l : Launch) (D : va_G) (cy : Nat → ClassId) (sz h : Nat) (ws : va_W) : Met l yX6_init (ZMw yX6_init cX6_init 1 none) { frames := 1, cells := 1, slots := 12, locals := 12 } (va_Pc [.ref h] (CiPre D cy sz (ws ++ [(h, .inr (6, [.null, .int 0]))]))) (CiPost D sz (fun W => ∃ a1 : Nat, W = ws ++ [(h, .inr (6, [.ref a1, .int 0])), (a1, .inl (cy 1, 12, .inl (fun _ => 0)))])) 1 12 (fun q => sz ≤ q) := by
  refine Met.ofW (cc := cX6_init) (maxL := 1) (ret := none) (by decide +kernel) rfl ?_
  intro p e s m args below meth c s₁ B hml hv
  obtain ⟨rfl, hsz, hP, hK, hD⟩ := hv
  have hx := B.exec
  have hb := B.bytes
  have hr := B.returns
  have hts0 := atoms_spec (ws := ZMw yX6_init cX6_init 1 none) B.pre
  have hts : ∀ x ∈ wsA, x.before _ s = true := fun x hx => hts0 x (List.mem_cons_of_mem _ hx)
  have hown : s.vm.findClass RX6 = some m.cls := findClass_of_methodNamed B.named
  have hlocks := B.notSynchronized
  have hin : meth.name = "<init>" := (name_of_methodNamed B.named B.method).1
  have hA : ∀ q : Nat, s.heap.size ≤ q → sz ≤ q := fun q h => Nat.le_trans hsz h
  have hS : va_S (fun q => sz ≤ q) s.heap s.heap [] := va_S.rf
  have hl := lv_entry ([Value.ref h]) (n := 1) (Nat.le_of_ble_eq_true rfl)
  rw [lg_entry_eq]
  generalize (lg_sl ([Value.ref h]) ++ List.replicate (1 - (lg_sl ([Value.ref h])).length) Slot.unset).toArray = ls at hl ⊢
  have hl : lv_has ls 1 [(0, .ref h)] := hl
  refine lv_aload_n hx hb dX6_init_0 rfl (lv_at hl 0 rfl) ?_
  refine W.objInit hx hb hown (hts _ mo_X6) (hts _ mo_inst) (hts _ mo_code) rfl (by rw [hml]; exact hl.1) rfl dX6_init_1 (Nat.le_of_ble_eq_true rfl) (Nat.le_of_ble_eq_true rfl) ?_
  refine W.eq (g2 := F0 m 4 ls []) rfl ?_
  refine lv_aload_n hx hb dX6_init_4 rfl (lv_at hl 0 rfl) ?_
  refine lv_bipush (v := nI 12) hx hb dX6_init_5 (by decide) ?_
  refine va_newa (atype := .char) (ty := .char) (N' := 12) (a0 := (12, .inl (fun _ => 0))) hx hb (hts _ mac_char) rfl hK hP hD hS hA (fun _ => rfl) (by decide) (by decide) (Nat.le_of_ble_eq_true rfl) (Nat.le_of_ble_eq_true rfl) (Nat.le_of_ble_eq_true rfl) dX6_init_7 (fun a1 cA H hK2 hP hD hS => ?_)
  obtain rfl := ra_one hK2 1 rfl (Or.inr (Or.inl rfl))
  have hP : va_P D zcl (ws ++ [(h, .inr (6, [.null, .int 0])), (a1, .inl (cy 1, 12, .inl (fun _ => 0)))]) H := by rw [List.append_assoc] at hP; exact hP
  have hD : va_D (fun q => sz ≤ q) (ws ++ [(h, .inr (6, [.null, .int 0])), (a1, .inl (cy 1, 12, .inl (fun _ => 0)))]) := by rw [List.append_assoc] at hD; exact hD
  refine va_putF (D := D) (ci := 6) (v := .ref a1) (ty := tyX6 0) (C := RX6) (T := TX6) (N := 2) hx hb hts uin_6 tyX6 tyX6_ok nmX6 hown hK hP hD hS ws.length w_get rfl 0 (by decide) (hts _ mf_X6_9) (fun _ h9 => h9) rfl hin rfl (tyX6_ok 0 (by decide)) rfl rfl (Nat.le_of_ble_eq_true rfl) dX6_init_9 (fun H locs hP hD hS => ?_)
  have hP : va_P D zcl (ws ++ [(h, .inr (6, [.ref a1, .int 0])), (a1, .inl (cy 1, 12, .inl (fun _ => 0)))]) H := by rw [w_set] at hP; exact hP
  have hD : va_D (fun q => sz ≤ q) (ws ++ [(h, .inr (6, [.ref a1, .int 0])), (a1, .inl (cy 1, 12, .inl (fun _ => 0)))]) := by rw [w_set] at hD; exact hD
  refine lv_aload_n hx hb dX6_init_12 rfl (lv_at hl 0 rfl) ?_
  refine lv_iconst (v := 0) hx hb dX6_init_13 (by decide) ?_
  refine va_put (D := D) (ci := 6) (v := .int 0) (ty := tyX6 1) (C := RX6) (T := TX6) (N := 2) hx hb hts uin_6 tyX6 tyX6_ok nmX6 hown hK hP hD hS ws.length w_get rfl 1 (by decide) (hts _ mf_X6_15) (fun _ h9 => h9) rfl (tyX6_ok 1 (by decide)) rfl rfl (Nat.le_of_ble_eq_true rfl) dX6_init_14 (fun H locs hP hD hS => ?_)
  have hP : va_P D zcl (ws ++ [(h, .inr (6, [.ref a1, .int 0])), (a1, .inl (cy 1, 12, .inl (fun _ => 0)))]) H := by rw [w_set] at hP; exact hP
  have hD : va_D (fun q => sz ≤ q) (ws ++ [(h, .inr (6, [.ref a1, .int 0])), (a1, .inl (cy 1, 12, .inl (fun _ => 0)))]) := by rw [w_set] at hD; exact hD
  exact W.vret hx hb hr (fun t ht hW => ⟨rfl, ⟨_, ⟨a1, rfl⟩, by rw [ht]; exact hP, hD⟩, hS.F ht⟩) hS.2.2 dX6_init_17 hlocks
theorem mo_X0 : Cond.methodLink RX0 3 objectInit ∈ wsA := memT 212 (by decide +kernel) (by decide +kernel)
set_option maxHeartbeats 4000000 in
theorem ci_X0 (l : Launch) (D : va_G) (cy : Nat → ClassId) (sz h : Nat) (ws : va_W) : Met l yX0_init (ZMw yX0_init cX0_init 1 none) { frames := 1, cells := 1, slots := 12, locals := 12 } (va_Pc [.ref h] (CiPre D cy sz (ws ++ [(h, .inr (0, [.null, .int 0, .int 0, .int 0]))]))) (CiPost D sz (fun W => ∃ a1 : Nat, W = ws ++ [(h, .inr (0, [.ref a1, .int 0, .int 0, .int 0])), (a1, .inl (cy 0, 12, .inl (fun _ => 0)))])) 1 12 (fun q => sz ≤ q) := by
  refine Met.ofW (cc := cX0_init) (maxL := 1) (ret := none) (by decide +kernel) rfl ?_
  intro p e s m args below meth c s₁ B hml hv
  obtain ⟨rfl, hsz, hP, hK, hD⟩ := hv
  have hx := B.exec
  have hb := B.bytes
  have hr := B.returns
  have hts0 := atoms_spec (ws := ZMw yX0_init cX0_init 1 none) B.pre
  have hts : ∀ x ∈ wsA, x.before _ s = true := fun x hx => hts0 x (List.mem_cons_of_mem _ hx)
  have hown : s.vm.findClass RX0 = some m.cls := findClass_of_methodNamed B.named
  have hlocks := B.notSynchronized
  have hin : meth.name = "<init>" := (name_of_methodNamed B.named B.method).1
  have hA : ∀ q : Nat, s.heap.size ≤ q → sz ≤ q := fun q h => Nat.le_trans hsz h
  have hS : va_S (fun q => sz ≤ q) s.heap s.heap [] := va_S.rf
  have hl := lv_entry ([Value.ref h]) (n := 1) (Nat.le_of_ble_eq_true rfl)
  rw [lg_entry_eq]
  generalize (lg_sl ([Value.ref h]) ++ List.replicate (1 - (lg_sl ([Value.ref h])).length) Slot.unset).toArray = ls at hl ⊢
  have hl : lv_has ls 1 [(0, .ref h)] := hl
  refine lv_aload_n hx hb dX0_init_0 rfl (lv_at hl 0 rfl) ?_
  refine W.objInit hx hb hown (hts _ mo_X0) (hts _ mo_inst) (hts _ mo_code) rfl (by rw [hml]; exact hl.1) rfl dX0_init_1 (Nat.le_of_ble_eq_true rfl) (Nat.le_of_ble_eq_true rfl) ?_
  refine W.eq (g2 := F0 m 4 ls []) rfl ?_
  refine lv_aload_n hx hb dX0_init_4 rfl (lv_at hl 0 rfl) ?_
  refine lv_bipush (v := nI 12) hx hb dX0_init_5 (by decide) ?_
  refine va_newa (atype := .int) (ty := .int) (N' := 12) (a0 := (12, .inl (fun _ => 0))) hx hb (hts _ mac_int) rfl hK hP hD hS hA (fun _ => rfl) (by decide) (by decide) (Nat.le_of_ble_eq_true rfl) (Nat.le_of_ble_eq_true rfl) (Nat.le_of_ble_eq_true rfl) dX0_init_7 (fun a1 cA H hK2 hP hD hS => ?_)
  obtain rfl := ra_one hK2 0 rfl (Or.inl rfl)
  have hP : va_P D zcl (ws ++ [(h, .inr (0, [.null, .int 0, .int 0, .int 0])), (a1, .inl (cy 0, 12, .inl (fun _ => 0)))]) H := by rw [List.append_assoc] at hP; exact hP
  have hD : va_D (fun q => sz ≤ q) (ws ++ [(h, .inr (0, [.null, .int 0, .int 0, .int 0])), (a1, .inl (cy 0, 12, .inl (fun _ => 0)))]) := by rw [List.append_assoc] at hD; exact hD
  refine va_putF (D := D) (ci := 0) (v := .ref a1) (ty := tyX0 0) (C := RX0) (T := TX0) (N := 4) hx hb hts uin_0 tyX0 tyX0_ok nmX0 hown hK hP hD hS ws.length w_get rfl 0 (by decide) (hts _ mf_X0_9) (fun _ h9 => h9) rfl hin rfl (tyX0_ok 0 (by decide)) rfl rfl (Nat.le_of_ble_eq_true rfl) dX0_init_9 (fun H locs hP hD hS => ?_)
  have hP : va_P D zcl (ws ++ [(h, .inr (0, [.ref a1, .int 0, .int 0, .int 0])), (a1, .inl (cy 0, 12, .inl (fun _ => 0)))]) H := by rw [w_set] at hP; exact hP
  have hD : va_D (fun q => sz ≤ q) (ws ++ [(h, .inr (0, [.ref a1, .int 0, .int 0, .int 0])), (a1, .inl (cy 0, 12, .inl (fun _ => 0)))]) := by rw [w_set] at hD; exact hD
  refine lv_aload_n hx hb dX0_init_12 rfl (lv_at hl 0 rfl) ?_
  refine lv_iconst (v := 0) hx hb dX0_init_13 (by decide) ?_
  refine va_put (D := D) (ci := 0) (v := .int 0) (ty := tyX0 1) (C := RX0) (T := TX0) (N := 4) hx hb hts uin_0 tyX0 tyX0_ok nmX0 hown hK hP hD hS ws.length w_get rfl 1 (by decide) (hts _ mf_X0_15) (fun _ h9 => h9) rfl (tyX0_ok 1 (by decide)) rfl rfl (Nat.le_of_ble_eq_true rfl) dX0_init_14 (fun H locs hP hD hS => ?_)
  have hP : va_P D zcl (ws ++ [(h, .inr (0, [.ref a1, .int 0, .int 0, .int 0])), (a1, .inl (cy 0, 12, .inl (fun _ => 0)))]) H := by rw [w_set] at hP; exact hP
  have hD : va_D (fun q => sz ≤ q) (ws ++ [(h, .inr (0, [.ref a1, .int 0, .int 0, .int 0])), (a1, .inl (cy 0, 12, .inl (fun _ => 0)))]) := by rw [w_set] at hD; exact hD
  refine lv_aload_n hx hb dX0_init_17 rfl (lv_at hl 0 rfl) ?_
  refine lv_iconst (v := 0) hx hb dX0_init_18 (by decide) ?_
  refine va_put (D := D) (ci := 0) (v := .int 0) (ty := tyX0 2) (C := RX0) (T := TX0) (N := 4) hx hb hts uin_0 tyX0 tyX0_ok nmX0 hown hK hP hD hS ws.length w_get rfl 2 (by decide) (hts _ mf_X0_19) (fun _ h9 => h9) rfl (tyX0_ok 2 (by decide)) rfl rfl (Nat.le_of_ble_eq_true rfl) dX0_init_19 (fun H locs hP hD hS => ?_)
  have hP : va_P D zcl (ws ++ [(h, .inr (0, [.ref a1, .int 0, .int 0, .int 0])), (a1, .inl (cy 0, 12, .inl (fun _ => 0)))]) H := by rw [w_set] at hP; exact hP
  have hD : va_D (fun q => sz ≤ q) (ws ++ [(h, .inr (0, [.ref a1, .int 0, .int 0, .int 0])), (a1, .inl (cy 0, 12, .inl (fun _ => 0)))]) := by rw [w_set] at hD; exact hD
  refine lv_aload_n hx hb dX0_init_22 rfl (lv_at hl 0 rfl) ?_
  refine lv_iconst (v := 0) hx hb dX0_init_23 (by decide) ?_
  refine va_put (D := D) (ci := 0) (v := .int 0) (ty := tyX0 3) (C := RX0) (T := TX0) (N := 4) hx hb hts uin_0 tyX0 tyX0_ok nmX0 hown hK hP hD hS ws.length w_get rfl 3 (by decide) (hts _ mf_X0_22) (fun _ h9 => h9) rfl (tyX0_ok 3 (by decide)) rfl rfl (Nat.le_of_ble_eq_true rfl) dX0_init_24 (fun H locs hP hD hS => ?_)
  have hP : va_P D zcl (ws ++ [(h, .inr (0, [.ref a1, .int 0, .int 0, .int 0])), (a1, .inl (cy 0, 12, .inl (fun _ => 0)))]) H := by rw [w_set] at hP; exact hP
  have hD : va_D (fun q => sz ≤ q) (ws ++ [(h, .inr (0, [.ref a1, .int 0, .int 0, .int 0])), (a1, .inl (cy 0, 12, .inl (fun _ => 0)))]) := by rw [w_set] at hD; exact hD
  exact W.vret hx hb hr (fun t ht hW => ⟨rfl, ⟨_, ⟨a1, rfl⟩, by rw [ht]; exact hP, hD⟩, hS.F ht⟩) hS.2.2 dX0_init_27 hlocks
theorem mo_X1 : Cond.methodLink RX1 3 objectInit ∈ wsA := memT 75 (by decide +kernel) (by decide +kernel)
set_option maxHeartbeats 4000000 in
theorem ci_X1 (l : Launch) (D : va_G) (cy : Nat → ClassId) (sz h : Nat) (ws : va_W) : Met l yX1_init (ZMw yX1_init cX1_init 1 none) { frames := 1, cells := 3, slots := 24, locals := 12 } (va_Pc [.ref h] (CiPre D cy sz (ws ++ [(h, .inr (1, [.null, .null, .null, .int 0]))]))) (CiPost D sz (fun W => ∃ a1 a2 a3 : Nat, W = ws ++ [(h, .inr (1, [.ref a1, .ref a2, .ref a3, .int 0])), (a1, .inl (cy 0, 8, .inl (fun _ => 0))), (a2, .inl (cy 0, 8, .inl (fun _ => 0))), (a3, .inl (cy 0, 8, .inl (fun _ => 0)))])) 3 24 (fun q => sz ≤ q) := by
  refine Met.ofW (cc := cX1_init) (maxL := 1) (ret := none) (by decide +kernel) rfl ?_
  intro p e s m args below meth c s₁ B hml hv
  obtain ⟨rfl, hsz, hP, hK, hD⟩ := hv
  have hx := B.exec
  have hb := B.bytes
  have hr := B.returns
  have hts0 := atoms_spec (ws := ZMw yX1_init cX1_init 1 none) B.pre
  have hts : ∀ x ∈ wsA, x.before _ s = true := fun x hx => hts0 x (List.mem_cons_of_mem _ hx)
  have hown : s.vm.findClass RX1 = some m.cls := findClass_of_methodNamed B.named
  have hlocks := B.notSynchronized
  have hin : meth.name = "<init>" := (name_of_methodNamed B.named B.method).1
  have hA : ∀ q : Nat, s.heap.size ≤ q → sz ≤ q := fun q h => Nat.le_trans hsz h
  have hS : va_S (fun q => sz ≤ q) s.heap s.heap [] := va_S.rf
  have hl := lv_entry ([Value.ref h]) (n := 1) (Nat.le_of_ble_eq_true rfl)
  rw [lg_entry_eq]
  generalize (lg_sl ([Value.ref h]) ++ List.replicate (1 - (lg_sl ([Value.ref h])).length) Slot.unset).toArray = ls at hl ⊢
  have hl : lv_has ls 1 [(0, .ref h)] := hl
  refine lv_aload_n hx hb dX1_init_0 rfl (lv_at hl 0 rfl) ?_
  refine W.objInit hx hb hown (hts _ mo_X1) (hts _ mo_inst) (hts _ mo_code) rfl (by rw [hml]; exact hl.1) rfl dX1_init_1 (Nat.le_of_ble_eq_true rfl) (Nat.le_of_ble_eq_true rfl) ?_
  refine W.eq (g2 := F0 m 4 ls []) rfl ?_
  refine lv_aload_n hx hb dX1_init_4 rfl (lv_at hl 0 rfl) ?_
  refine lv_bipush (v := nI 8) hx hb dX1_init_5 (by decide) ?_
  refine va_newa (atype := .int) (ty := .int) (N' := 8) (a0 := (8, .inl (fun _ => 0))) hx hb (hts _ mac_int) rfl hK hP hD hS hA (fun _ => rfl) (by decide) (by decide) (Nat.le_of_ble_eq_true rfl) (Nat.le_of_ble_eq_true rfl) (Nat.le_of_ble_eq_true rfl) dX1_init_7 (fun a1 cA H hK2 hP hD hS => ?_)
  obtain rfl := ra_one hK2 0 rfl (Or.inl rfl)
  have hP : va_P D zcl (ws ++ [(h, .inr (1, [.null, .null, .null, .int 0])), (a1, .inl (cy 0, 8, .inl (fun _ => 0)))]) H := by rw [List.append_assoc] at hP; exact hP
  have hD : va_D (fun q => sz ≤ q) (ws ++ [(h, .inr (1, [.null, .null, .null, .int 0])), (a1, .inl (cy 0, 8, .inl (fun _ => 0)))]) := by rw [List.append_assoc] at hD; exact hD
  refine va_putF (D := D) (ci := 1) (v := .ref a1) (ty := tyX1 0) (C := RX1) (T := TX1) (N := 4) hx hb hts uin_1 tyX1 tyX1_ok nmX1 hown hK hP hD hS ws.length w_get rfl 0 (by decide) (hts _ mf_X1_9) (fun _ h9 => h9) rfl hin rfl (tyX1_ok 0 (by decide)) rfl rfl (Nat.le_of_ble_eq_true rfl) dX1_init_9 (fun H locs hP hD hS => ?_)
  have hP : va_P D zcl (ws ++ [(h, .inr (1, [.ref a1, .null, .null, .int 0])), (a1, .inl (cy 0, 8, .inl (fun _ => 0)))]) H := by rw [w_set] at hP; exact hP
  have hD : va_D (fun q => sz ≤ q) (ws ++ [(h, .inr (1, [.ref a1, .null, .null, .int 0])), (a1, .inl (cy 0, 8, .inl (fun _ => 0)))]) := by rw [w_set] at hD; exact hD
  refine lv_aload_n hx hb dX1_init_12 rfl (lv_at hl 0 rfl) ?_
  refine lv_bipush (v := nI 8) hx hb dX1_init_13 (by decide) ?_
  refine va_newa (atype := .int) (ty := .int) (N' := 8) (a0 := (8, .inl (fun _ => 0))) hx hb (hts _ mac_int) rfl hK hP hD hS hA (fun _ => rfl) (by decide) (by decide) (Nat.le_of_ble_eq_true rfl) (Nat.le_of_ble_eq_true rfl) (Nat.le_of_ble_eq_true rfl) dX1_init_15 (fun a2 cA H hK2 hP hD hS => ?_)
  obtain rfl := ra_one hK2 0 rfl (Or.inl rfl)
  have hP : va_P D zcl (ws ++ [(h, .inr (1, [.ref a1, .null, .null, .int 0])), (a1, .inl (cy 0, 8, .inl (fun _ => 0))), (a2, .inl (cy 0, 8, .inl (fun _ => 0)))]) H := by rw [List.append_assoc] at hP; exact hP
  have hD : va_D (fun q => sz ≤ q) (ws ++ [(h, .inr (1, [.ref a1, .null, .null, .int 0])), (a1, .inl (cy 0, 8, .inl (fun _ => 0))), (a2, .inl (cy 0, 8, .inl (fun _ => 0)))]) := by rw [List.append_assoc] at hD; exact hD
  refine va_putF (D := D) (ci := 1) (v := .ref a2) (ty := tyX1 1) (C := RX1) (T := TX1) (N := 4) hx hb hts uin_1 tyX1 tyX1_ok nmX1 hown hK hP hD hS ws.length w_get rfl 1 (by decide) (hts _ mf_X1_15) (fun _ h9 => h9) rfl hin rfl (tyX1_ok 1 (by decide)) rfl rfl (Nat.le_of_ble_eq_true rfl) dX1_init_17 (fun H locs hP hD hS => ?_)
  have hP : va_P D zcl (ws ++ [(h, .inr (1, [.ref a1, .ref a2, .null, .int 0])), (a1, .inl (cy 0, 8, .inl (fun _ => 0))), (a2, .inl (cy 0, 8, .inl (fun _ => 0)))]) H := by rw [w_set] at hP; exact hP
  have hD : va_D (fun q => sz ≤ q) (ws ++ [(h, .inr (1, [.ref a1, .ref a2, .null, .int 0])), (a1, .inl (cy 0, 8, .inl (fun _ => 0))), (a2, .inl (cy 0, 8, .inl (fun _ => 0)))]) := by rw [w_set] at hD; exact hD
  refine lv_aload_n hx hb dX1_init_20 rfl (lv_at hl 0 rfl) ?_
  refine lv_bipush (v := nI 8) hx hb dX1_init_21 (by decide) ?_
  refine va_newa (atype := .int) (ty := .int) (N' := 8) (a0 := (8, .inl (fun _ => 0))) hx hb (hts _ mac_int) rfl hK hP hD hS hA (fun _ => rfl) (by decide) (by decide) (Nat.le_of_ble_eq_true rfl) (Nat.le_of_ble_eq_true rfl) (Nat.le_of_ble_eq_true rfl) dX1_init_23 (fun a3 cA H hK2 hP hD hS => ?_)
  obtain rfl := ra_one hK2 0 rfl (Or.inl rfl)
  have hP : va_P D zcl (ws ++ [(h, .inr (1, [.ref a1, .ref a2, .null, .int 0])), (a1, .inl (cy 0, 8, .inl (fun _ => 0))), (a2, .inl (cy 0, 8, .inl (fun _ => 0))), (a3, .inl (cy 0, 8, .inl (fun _ => 0)))]) H := by rw [List.append_assoc] at hP; exact hP
  have hD : va_D (fun q => sz ≤ q) (ws ++ [(h, .inr (1, [.ref a1, .ref a2, .null, .int 0])), (a1, .inl (cy 0, 8, .inl (fun _ => 0))), (a2, .inl (cy 0, 8, .inl (fun _ => 0))), (a3, .inl (cy 0, 8, .inl (fun _ => 0)))]) := by rw [List.append_assoc] at hD; exact hD
  refine va_putF (D := D) (ci := 1) (v := .ref a3) (ty := tyX1 2) (C := RX1) (T := TX1) (N := 4) hx hb hts uin_1 tyX1 tyX1_ok nmX1 hown hK hP hD hS ws.length w_get rfl 2 (by decide) (hts _ mf_X1_18) (fun _ h9 => h9) rfl hin rfl (tyX1_ok 2 (by decide)) rfl rfl (Nat.le_of_ble_eq_true rfl) dX1_init_25 (fun H locs hP hD hS => ?_)
  have hP : va_P D zcl (ws ++ [(h, .inr (1, [.ref a1, .ref a2, .ref a3, .int 0])), (a1, .inl (cy 0, 8, .inl (fun _ => 0))), (a2, .inl (cy 0, 8, .inl (fun _ => 0))), (a3, .inl (cy 0, 8, .inl (fun _ => 0)))]) H := by rw [w_set] at hP; exact hP
  have hD : va_D (fun q => sz ≤ q) (ws ++ [(h, .inr (1, [.ref a1, .ref a2, .ref a3, .int 0])), (a1, .inl (cy 0, 8, .inl (fun _ => 0))), (a2, .inl (cy 0, 8, .inl (fun _ => 0))), (a3, .inl (cy 0, 8, .inl (fun _ => 0)))]) := by rw [w_set] at hD; exact hD
  refine lv_aload_n hx hb dX1_init_28 rfl (lv_at hl 0 rfl) ?_
  refine lv_iconst (v := 0) hx hb dX1_init_29 (by decide) ?_
  refine va_put (D := D) (ci := 1) (v := .int 0) (ty := tyX1 3) (C := RX1) (T := TX1) (N := 4) hx hb hts uin_1 tyX1 tyX1_ok nmX1 hown hK hP hD hS ws.length w_get rfl 3 (by decide) (hts _ mf_X1_21) (fun _ h9 => h9) rfl (tyX1_ok 3 (by decide)) rfl rfl (Nat.le_of_ble_eq_true rfl) dX1_init_30 (fun H locs hP hD hS => ?_)
  have hP : va_P D zcl (ws ++ [(h, .inr (1, [.ref a1, .ref a2, .ref a3, .int 0])), (a1, .inl (cy 0, 8, .inl (fun _ => 0))), (a2, .inl (cy 0, 8, .inl (fun _ => 0))), (a3, .inl (cy 0, 8, .inl (fun _ => 0)))]) H := by rw [w_set] at hP; exact hP
  have hD : va_D (fun q => sz ≤ q) (ws ++ [(h, .inr (1, [.ref a1, .ref a2, .ref a3, .int 0])), (a1, .inl (cy 0, 8, .inl (fun _ => 0))), (a2, .inl (cy 0, 8, .inl (fun _ => 0))), (a3, .inl (cy 0, 8, .inl (fun _ => 0)))]) := by rw [w_set] at hD; exact hD
  exact W.vret hx hb hr (fun t ht hW => ⟨rfl, ⟨_, ⟨a1, a2, a3, rfl⟩, by rw [ht]; exact hP, hD⟩, hS.F ht⟩) hS.2.2 dX1_init_33 hlocks
theorem mo_X5 : Cond.methodLink RX5 3 objectInit ∈ wsA := memT 101 (by decide +kernel) (by decide +kernel)
set_option maxHeartbeats 4000000 in
theorem ci_X5 (l : Launch) (D : va_G) (cy : Nat → ClassId) (sz h : Nat) (ws : va_W) : Met l yX5_init (ZMw yX5_init cX5_init 1 none) { frames := 1, cells := 4, slots := 32, locals := 12 } (va_Pc [.ref h] (CiPre D cy sz (ws ++ [(h, .inr (5, [.null, .null, .null, .null, .int 0, .int 0]))]))) (CiPost D sz (fun W => ∃ a1 a2 a3 a4 : Nat, W = ws ++ [(h, .inr (5, [.ref a1, .ref a2, .ref a3, .ref a4, .int 0, .int 0])), (a1, .inl (cy 0, 8, .inl (fun _ => 0))), (a2, .inl (cy 0, 8, .inl (fun _ => 0))), (a3, .inl (cy 0, 8, .inl (fun _ => 0))), (a4, .inl (cy 0, 8, .inl (fun _ => 0)))])) 4 32 (fun q => sz ≤ q) := by
  refine Met.ofW (cc := cX5_init) (maxL := 1) (ret := none) (by decide +kernel) rfl ?_
  intro p e s m args below meth c s₁ B hml hv
  obtain ⟨rfl, hsz, hP, hK, hD⟩ := hv
  have hx := B.exec
  have hb := B.bytes
  have hr := B.returns
  have hts0 := atoms_spec (ws := ZMw yX5_init cX5_init 1 none) B.pre
  have hts : ∀ x ∈ wsA, x.before _ s = true := fun x hx => hts0 x (List.mem_cons_of_mem _ hx)
  have hown : s.vm.findClass RX5 = some m.cls := findClass_of_methodNamed B.named
  have hlocks := B.notSynchronized
  have hin : meth.name = "<init>" := (name_of_methodNamed B.named B.method).1
  have hA : ∀ q : Nat, s.heap.size ≤ q → sz ≤ q := fun q h => Nat.le_trans hsz h
  have hS : va_S (fun q => sz ≤ q) s.heap s.heap [] := va_S.rf
  have hl := lv_entry ([Value.ref h]) (n := 1) (Nat.le_of_ble_eq_true rfl)
  rw [lg_entry_eq]
  generalize (lg_sl ([Value.ref h]) ++ List.replicate (1 - (lg_sl ([Value.ref h])).length) Slot.unset).toArray = ls at hl ⊢
  have hl : lv_has ls 1 [(0, .ref h)] := hl
  refine lv_aload_n hx hb dX5_init_0 rfl (lv_at hl 0 rfl) ?_
  refine W.objInit hx hb hown (hts _ mo_X5) (hts _ mo_inst) (hts _ mo_code) rfl (by rw [hml]; exact hl.1) rfl dX5_init_1 (Nat.le_of_ble_eq_true rfl) (Nat.le_of_ble_eq_true rfl) ?_
  refine W.eq (g2 := F0 m 4 ls []) rfl ?_
  refine lv_aload_n hx hb dX5_init_4 rfl (lv_at hl 0 rfl) ?_
  refine lv_bipush (v := nI 8) hx hb dX5_init_5 (by decide) ?_
  refine va_newa (atype := .int) (ty := .int) (N' := 8) (a0 := (8, .inl (fun _ => 0))) hx hb (hts _ mac_int) rfl hK hP hD hS hA (fun _ => rfl) (by decide) (by decide) (Nat.le_of_ble_eq_true rfl) (Nat.le_of_ble_eq_true rfl) (Nat.le_of_ble_eq_true rfl) dX5_init_7 (fun a1 cA H hK2 hP hD hS => ?_)
  obtain rfl := ra_one hK2 0 rfl (Or.inl rfl)
  have hP : va_P D zcl (ws ++ [(h, .inr (5, [.null, .null, .null, .null, .int 0, .int 0])), (a1, .inl (cy 0, 8, .inl (fun _ => 0)))]) H := by rw [List.append_assoc] at hP; exact hP
  have hD : va_D (fun q => sz ≤ q) (ws ++ [(h, .inr (5, [.null, .null, .null, .null, .int 0, .int 0])), (a1, .inl (cy 0, 8, .inl (fun _ => 0)))]) := by rw [List.append_assoc] at hD; exact hD
  refine va_putF (D := D) (ci := 5) (v := .ref a1) (ty := tyX5 0) (C := RX5) (T := TX5) (N := 6) hx hb hts uin_5 tyX5 tyX5_ok nmX5 hown hK hP hD hS ws.length w_get rfl 0 (by decide) (hts _ mf_X5_9) (fun _ h9 => h9) rfl hin rfl (tyX5_ok 0 (by decide)) rfl rfl (Nat.le_of_ble_eq_true rfl) dX5_init_9 (fun H locs hP hD hS => ?_)
  have hP : va_P D zcl (ws ++ [(h, .inr (5, [.ref a1, .null, .null, .null, .int 0, .int 0])), (a1, .inl (cy 0, 8, .inl (fun _ => 0)))]) H := by rw [w_set] at hP; exact hP
  have hD : va_D (fun q => sz ≤ q) (ws ++ [(h, .inr (5, [.ref a1, .null, .null, .null, .int 0, .int 0])), (a1, .inl (cy 0, 8, .inl (fun _ => 0)))]) := by rw [w_set] at hD; exact hD
  refine lv_aload_n hx hb dX5_init_12 rfl (lv_at hl 0 rfl) ?_
  refine lv_bipush (v := nI 8) hx hb dX5_init_13 (by decide) ?_
  refine va_newa (atype := .int) (ty := .int) (N' := 8) (a0 := (8, .inl (fun _ => 0))) hx hb (hts _ mac_int) rfl hK hP hD hS hA (fun _ => rfl) (by decide) (by decide) (Nat.le_of_ble_eq_true rfl) (Nat.le_of_ble_eq_true rfl) (Nat.le_of_ble_eq_true rfl) dX5_init_15 (fun a2 cA H hK2 hP hD hS => ?_)
  obtain rfl := ra_one hK2 0 rfl (Or.inl rfl)
  have hP : va_P D zcl (ws ++ [(h, .inr (5, [.ref a1, .null, .null, .null, .int 0, .int 0])), (a1, .inl (cy 0, 8, .inl (fun _ => 0))), (a2, .inl (cy 0, 8, .inl (fun _ => 0)))]) H := by rw [List.append_assoc] at hP; exact hP
  have hD : va_D (fun q => sz ≤ q) (ws ++ [(h, .inr (5, [.ref a1, .null, .null, .null, .int 0, .int 0])), (a1, .inl (cy 0, 8, .inl (fun _ => 0))), (a2, .inl (cy 0, 8, .inl (fun _ => 0)))]) := by rw [List.append_assoc] at hD; exact hD
  refine va_putF (D := D) (ci := 5) (v := .ref a2) (ty := tyX5 1) (C := RX5) (T := TX5) (N := 6) hx hb hts uin_5 tyX5 tyX5_ok nmX5 hown hK hP hD hS ws.length w_get rfl 1 (by decide) (hts _ mf_X5_15) (fun _ h9 => h9) rfl hin rfl (tyX5_ok 1 (by decide)) rfl rfl (Nat.le_of_ble_eq_true rfl) dX5_init_17 (fun H locs hP hD hS => ?_)
  have hP : va_P D zcl (ws ++ [(h, .inr (5, [.ref a1, .ref a2, .null, .null, .int 0, .int 0])), (a1, .inl (cy 0, 8, .inl (fun _ => 0))), (a2, .inl (cy 0, 8, .inl (fun _ => 0)))]) H := by rw [w_set] at hP; exact hP
  have hD : va_D (fun q => sz ≤ q) (ws ++ [(h, .inr (5, [.ref a1, .ref a2, .null, .null, .int 0, .int 0])), (a1, .inl (cy 0, 8, .inl (fun _ => 0))), (a2, .inl (cy 0, 8, .inl (fun _ => 0)))]) := by rw [w_set] at hD; exact hD
  refine lv_aload_n hx hb dX5_init_20 rfl (lv_at hl 0 rfl) ?_
  refine lv_bipush (v := nI 8) hx hb dX5_init_21 (by decide) ?_
  refine va_newa (atype := .int) (ty := .int) (N' := 8) (a0 := (8, .inl (fun _ => 0))) hx hb (hts _ mac_int) rfl hK hP hD hS hA (fun _ => rfl) (by decide) (by decide) (Nat.le_of_ble_eq_true rfl) (Nat.le_of_ble_eq_true rfl) (Nat.le_of_ble_eq_true rfl) dX5_init_23 (fun a3 cA H hK2 hP hD hS => ?_)
  obtain rfl := ra_one hK2 0 rfl (Or.inl rfl)
  have hP : va_P D zcl (ws ++ [(h, .inr (5, [.ref a1, .ref a2, .null, .null, .int 0, .int 0])), (a1, .inl (cy 0, 8, .inl (fun _ => 0))), (a2, .inl (cy 0, 8, .inl (fun _ => 0))), (a3, .inl (cy 0, 8, .inl (fun _ => 0)))]) H := by rw [List.append_assoc] at hP; exact hP
  have hD : va_D (fun q => sz ≤ q) (ws ++ [(h, .inr (5, [.ref a1, .ref a2, .null, .null, .int 0, .int 0])), (a1, .inl (cy 0, 8, .inl (fun _ => 0))), (a2, .inl (cy 0, 8, .inl (fun _ => 0))), (a3, .inl (cy 0, 8, .inl (fun _ => 0)))]) := by rw [List.append_assoc] at hD; exact hD
  refine va_putF (D := D) (ci := 5) (v := .ref a3) (ty := tyX5 2) (C := RX5) (T := TX5) (N := 6) hx hb hts uin_5 tyX5 tyX5_ok nmX5 hown hK hP hD hS ws.length w_get rfl 2 (by decide) (hts _ mf_X5_18) (fun _ h9 => h9) rfl hin rfl (tyX5_ok 2 (by decide)) rfl rfl (Nat.le_of_ble_eq_true rfl) dX5_init_25 (fun H locs hP hD hS => ?_)
  have hP : va_P D zcl (ws ++ [(h, .inr (5, [.ref a1, .ref a2, .ref a3, .null, .int 0, .int 0])), (a1, .inl (cy 0, 8, .inl (fun _ => 0))), (a2, .inl (cy 0, 8, .inl (fun _ => 0))), (a3, .inl (cy 0, 8, .inl (fun _ => 0)))]) H := by rw [w_set] at hP; exact hP
  have hD : va_D (fun q => sz ≤ q) (ws ++ [(h, .inr (5, [.ref a1, .ref a2, .ref a3, .null, .int 0, .int 0])), (a1, .inl (cy 0, 8, .inl (fun _ => 0))), (a2, .inl (cy 0, 8, .inl (fun _ => 0))), (a3, .inl (cy 0, 8, .inl (fun _ => 0)))]) := by rw [w_set] at hD; exact hD
  refine lv_aload_n hx hb dX5_init_28 rfl (lv_at hl 0 rfl) ?_
  refine lv_bipush (v := nI 8) hx hb dX5_init_29 (by decide) ?_
  refine va_newa (atype := .int) (ty := .int) (N' := 8) (a0 := (8, .inl (fun _ => 0))) hx hb (hts _ mac_int) rfl hK hP hD hS hA (fun _ => rfl) (by decide) (by decide) (Nat.le_of_ble_eq_true rfl) (Nat.le_of_ble_eq_true rfl) (Nat.le_of_ble_eq_true rfl) dX5_init_31 (fun a4 cA H hK2 hP hD hS => ?_)
  obtain rfl := ra_one hK2 0 rfl (Or.inl rfl)
  have hP : va_P D zcl (ws ++ [(h, .inr (5, [.ref a1, .ref a2, .ref a3, .null, .int 0, .int 0])), (a1, .inl (cy 0, 8, .inl (fun _ => 0))), (a2, .inl (cy 0, 8, .inl (fun _ => 0))), (a3, .inl (cy 0, 8, .inl (fun _ => 0))), (a4, .inl (cy 0, 8, .inl (fun _ => 0)))]) H := by rw [List.append_assoc] at hP; exact hP
  have hD : va_D (fun q => sz ≤ q) (ws ++ [(h, .inr (5, [.ref a1, .ref a2, .ref a3, .null, .int 0, .int 0])), (a1, .inl (cy 0, 8, .inl (fun _ => 0))), (a2, .inl (cy 0, 8, .inl (fun _ => 0))), (a3, .inl (cy 0, 8, .inl (fun _ => 0))), (a4, .inl (cy 0, 8, .inl (fun _ => 0)))]) := by rw [List.append_assoc] at hD; exact hD
  refine va_putF (D := D) (ci := 5) (v := .ref a4) (ty := tyX5 3) (C := RX5) (T := TX5) (N := 6) hx hb hts uin_5 tyX5 tyX5_ok nmX5 hown hK hP hD hS ws.length w_get rfl 3 (by decide) (hts _ mf_X5_21) (fun _ h9 => h9) rfl hin rfl (tyX5_ok 3 (by decide)) rfl rfl (Nat.le_of_ble_eq_true rfl) dX5_init_33 (fun H locs hP hD hS => ?_)
  have hP : va_P D zcl (ws ++ [(h, .inr (5, [.ref a1, .ref a2, .ref a3, .ref a4, .int 0, .int 0])), (a1, .inl (cy 0, 8, .inl (fun _ => 0))), (a2, .inl (cy 0, 8, .inl (fun _ => 0))), (a3, .inl (cy 0, 8, .inl (fun _ => 0))), (a4, .inl (cy 0, 8, .inl (fun _ => 0)))]) H := by rw [w_set] at hP; exact hP
  have hD : va_D (fun q => sz ≤ q) (ws ++ [(h, .inr (5, [.ref a1, .ref a2, .ref a3, .ref a4, .int 0, .int 0])), (a1, .inl (cy 0, 8, .inl (fun _ => 0))), (a2, .inl (cy 0, 8, .inl (fun _ => 0))), (a3, .inl (cy 0, 8, .inl (fun _ => 0))), (a4, .inl (cy 0, 8, .inl (fun _ => 0)))]) := by rw [w_set] at hD; exact hD
  refine lv_aload_n hx hb dX5_init_36 rfl (lv_at hl 0 rfl) ?_
  refine lv_iconst (v := 0) hx hb dX5_init_37 (by decide) ?_
  refine va_put (D := D) (ci := 5) (v := .int 0) (ty := tyX5 4) (C := RX5) (T := TX5) (N := 6) hx hb hts uin_5 tyX5 tyX5_ok nmX5 hown hK hP hD hS ws.length w_get rfl 4 (by decide) (hts _ mf_X5_24) (fun _ h9 => h9) rfl (tyX5_ok 4 (by decide)) rfl rfl (Nat.le_of_ble_eq_true rfl) dX5_init_38 (fun H locs hP hD hS => ?_)
  have hP : va_P D zcl (ws ++ [(h, .inr (5, [.ref a1, .ref a2, .ref a3, .ref a4, .int 0, .int 0])), (a1, .inl (cy 0, 8, .inl (fun _ => 0))), (a2, .inl (cy 0, 8, .inl (fun _ => 0))), (a3, .inl (cy 0, 8, .inl (fun _ => 0))), (a4, .inl (cy 0, 8, .inl (fun _ => 0)))]) H := by rw [w_set] at hP; exact hP
  have hD : va_D (fun q => sz ≤ q) (ws ++ [(h, .inr (5, [.ref a1, .ref a2, .ref a3, .ref a4, .int 0, .int 0])), (a1, .inl (cy 0, 8, .inl (fun _ => 0))), (a2, .inl (cy 0, 8, .inl (fun _ => 0))), (a3, .inl (cy 0, 8, .inl (fun _ => 0))), (a4, .inl (cy 0, 8, .inl (fun _ => 0)))]) := by rw [w_set] at hD; exact hD
  refine lv_aload_n hx hb dX5_init_41 rfl (lv_at hl 0 rfl) ?_
  refine lv_iconst (v := 0) hx hb dX5_init_42 (by decide) ?_
  refine va_put (D := D) (ci := 5) (v := .int 0) (ty := tyX5 5) (C := RX5) (T := TX5) (N := 6) hx hb hts uin_5 tyX5 tyX5_ok nmX5 hown hK hP hD hS ws.length w_get rfl 5 (by decide) (hts _ mf_X5_28) (fun _ h9 => h9) rfl (tyX5_ok 5 (by decide)) rfl rfl (Nat.le_of_ble_eq_true rfl) dX5_init_43 (fun H locs hP hD hS => ?_)
  have hP : va_P D zcl (ws ++ [(h, .inr (5, [.ref a1, .ref a2, .ref a3, .ref a4, .int 0, .int 0])), (a1, .inl (cy 0, 8, .inl (fun _ => 0))), (a2, .inl (cy 0, 8, .inl (fun _ => 0))), (a3, .inl (cy 0, 8, .inl (fun _ => 0))), (a4, .inl (cy 0, 8, .inl (fun _ => 0)))]) H := by rw [w_set] at hP; exact hP
  have hD : va_D (fun q => sz ≤ q) (ws ++ [(h, .inr (5, [.ref a1, .ref a2, .ref a3, .ref a4, .int 0, .int 0])), (a1, .inl (cy 0, 8, .inl (fun _ => 0))), (a2, .inl (cy 0, 8, .inl (fun _ => 0))), (a3, .inl (cy 0, 8, .inl (fun _ => 0))), (a4, .inl (cy 0, 8, .inl (fun _ => 0)))]) := by rw [w_set] at hD; exact hD
  exact W.vret hx hb hr (fun t ht hW => ⟨rfl, ⟨_, ⟨a1, a2, a3, a4, rfl⟩, by rw [ht]; exact hP, hD⟩, hS.F ht⟩) hS.2.2 dX5_init_46 hlocks
theorem mo_X3 : Cond.methodLink RX3 3 objectInit ∈ wsA := memT 31 (by decide +kernel) (by decide +kernel)
set_option maxHeartbeats 4000000 in
theorem ci_X3 (l : Launch) (D : va_G) (cy : Nat → ClassId) (sz h : Nat) (ws : va_W) : Met l yX3_init (ZMw yX3_init cX3_init 1 none) { frames := 1, cells := 6, slots := 72, locals := 12 } (va_Pc [.ref h] (CiPre D cy sz (ws ++ [(h, .inr (3, [.null, .null, .null, .null, .null, .null, .int 0, .int 0]))]))) (CiPost D sz (fun W => ∃ a1 a2 a3 a4 a5 a6 : Nat, W = ws ++ [(h, .inr (3, [.ref a1, .ref a2, .ref a3, .ref a4, .ref a5, .ref a6, .int 0, .int 0])), (a1, .inl (cy 0, 12, .inl (fun _ => 0))), (a2, .inl (cy 0, 12, .inl (fun _ => 0))), (a3, .inl (cy 0, 12, .inl (fun _ => 0))), (a4, .inl (cy 0, 12, .inl (fun _ => 0))), (a5, .inl (cy 0, 12, .inl (fun _ => 0))), (a6, .inl (cy 0, 12, .inl (fun _ => 0)))])) 6 72 (fun q => sz ≤ q) := by
  refine Met.ofW (cc := cX3_init) (maxL := 1) (ret := none) (by decide +kernel) rfl ?_
  intro p e s m args below meth c s₁ B hml hv
  obtain ⟨rfl, hsz, hP, hK, hD⟩ := hv
  have hx := B.exec
  have hb := B.bytes
  have hr := B.returns
  have hts0 := atoms_spec (ws := ZMw yX3_init cX3_init 1 none) B.pre
  have hts : ∀ x ∈ wsA, x.before _ s = true := fun x hx => hts0 x (List.mem_cons_of_mem _ hx)
  have hown : s.vm.findClass RX3 = some m.cls := findClass_of_methodNamed B.named
  have hlocks := B.notSynchronized
  have hin : meth.name = "<init>" := (name_of_methodNamed B.named B.method).1
  have hA : ∀ q : Nat, s.heap.size ≤ q → sz ≤ q := fun q h => Nat.le_trans hsz h
  have hS : va_S (fun q => sz ≤ q) s.heap s.heap [] := va_S.rf
  have hl := lv_entry ([Value.ref h]) (n := 1) (Nat.le_of_ble_eq_true rfl)
  rw [lg_entry_eq]
  generalize (lg_sl ([Value.ref h]) ++ List.replicate (1 - (lg_sl ([Value.ref h])).length) Slot.unset).toArray = ls at hl ⊢
  have hl : lv_has ls 1 [(0, .ref h)] := hl
  refine lv_aload_n hx hb dX3_init_0 rfl (lv_at hl 0 rfl) ?_
  refine W.objInit hx hb hown (hts _ mo_X3) (hts _ mo_inst) (hts _ mo_code) rfl (by rw [hml]; exact hl.1) rfl dX3_init_1 (Nat.le_of_ble_eq_true rfl) (Nat.le_of_ble_eq_true rfl) ?_
  refine W.eq (g2 := F0 m 4 ls []) rfl ?_
  refine lv_aload_n hx hb dX3_init_4 rfl (lv_at hl 0 rfl) ?_
  refine lv_bipush (v := nI 12) hx hb dX3_init_5 (by decide) ?_
  refine va_newa (atype := .int) (ty := .int) (N' := 12) (a0 := (12, .inl (fun _ => 0))) hx hb (hts _ mac_int) rfl hK hP hD hS hA (fun _ => rfl) (by decide) (by decide) (Nat.le_of_ble_eq_true rfl) (Nat.le_of_ble_eq_true rfl) (Nat.le_of_ble_eq_true rfl) dX3_init_7 (fun a1 cA H hK2 hP hD hS => ?_)
  obtain rfl := ra_one hK2 0 rfl (Or.inl rfl)
  have hP : va_P D zcl (ws ++ [(h, .inr (3, [.null, .null, .null, .null, .null, .null, .int 0, .int 0])), (a1, .inl (cy 0, 12, .inl (fun _ => 0)))]) H := by rw [List.append_assoc] at hP; exact hP
  have hD : va_D (fun q => sz ≤ q) (ws ++ [(h, .inr (3, [.null, .null, .null, .null, .null, .null, .int 0, .int 0])), (a1, .inl (cy 0, 12, .inl (fun _ => 0)))]) := by rw [List.append_assoc] at hD; exact hD
  refine va_putF (D := D) (ci := 3) (v := .ref a1) (ty := tyX3 0) (C := RX3) (T := TX3) (N := 8) hx hb hts uin_3 tyX3 tyX3_ok nmX3 hown hK hP hD hS ws.length w_get rfl 0 (by decide) (hts _ mf_X3_9) (fun _ h9 => h9) rfl hin rfl (tyX3_ok 0 (by decide)) rfl rfl (Nat.le_of_ble_eq_true rfl) dX3_init_9 (fun H locs hP hD hS => ?_)
  have hP : va_P D zcl (ws ++ [(h, .inr (3, [.ref a1, .null, .null, .null, .null, .null, .int 0, .int 0])), (a1, .inl (cy 0, 12, .inl (fun _ => 0)))]) H := by rw [w_set] at hP; exact hP
  have hD : va_D (fun q => sz ≤ q) (ws ++ [(h, .inr (3, [.ref a1, .null, .null, .null, .null, .null, .int 0, .int 0])), (a1, .inl (cy 0, 12, .inl (fun _ => 0)))]) := by rw [w_set] at hD; exact hD
  refine lv_aload_n hx hb dX3_init_12 rfl (lv_at hl 0 rfl) ?_
  refine lv_bipush (v := nI 12) hx hb dX3_init_13 (by decide) ?_
  refine va_newa (atype := .int) (ty := .int) (N' := 12) (a0 := (12, .inl (fun _ => 0))) hx hb (hts _ mac_int) rfl hK hP hD hS hA (fun _ => rfl) (by decide) (by decide) (Nat.le_of_ble_eq_true rfl) (Nat.le_of_ble_eq_true rfl) (Nat.le_of_ble_eq_true rfl) dX3_init_15 (fun a2 cA H hK2 hP hD hS => ?_)
  obtain rfl := ra_one hK2 0 rfl (Or.inl rfl)
  have hP : va_P D zcl (ws ++ [(h, .inr (3, [.ref a1, .null, .null, .null, .null, .null, .int 0, .int 0])), (a1, .inl (cy 0, 12, .inl (fun _ => 0))), (a2, .inl (cy 0, 12, .inl (fun _ => 0)))]) H := by rw [List.append_assoc] at hP; exact hP
  have hD : va_D (fun q => sz ≤ q) (ws ++ [(h, .inr (3, [.ref a1, .null, .null, .null, .null, .null, .int 0, .int 0])), (a1, .inl (cy 0, 12, .inl (fun _ => 0))), (a2, .inl (cy 0, 12, .inl (fun _ => 0)))]) := by rw [List.append_assoc] at hD; exact hD
  refine va_putF (D := D) (ci := 3) (v := .ref a2) (ty := tyX3 1) (C := RX3) (T := TX3) (N := 8) hx hb hts uin_3 tyX3 tyX3_ok nmX3 hown hK hP hD hS ws.length w_get rfl 1 (by decide) (hts _ mf_X3_15) (fun _ h9 => h9) rfl hin rfl (tyX3_ok 1 (by decide)) rfl rfl (Nat.le_of_ble_eq_true rfl) dX3_init_17 (fun H locs hP hD hS => ?_)
  have hP : va_P D zcl (ws ++ [(h, .inr (3, [.ref a1, .ref a2, .null, .null, .null, .null, .int 0, .int 0])), (a1, .inl (cy 0, 12, .inl (fun _ => 0))), (a2, .inl (cy 0, 12, .inl (fun _ => 0)))]) H := by rw [w_set] at hP; exact hP
  have hD : va_D (fun q => sz ≤ q) (ws ++ [(h, .inr (3, [.ref a1, .ref a2, .null, .null, .null, .null, .int 0, .int 0])), (a1, .inl (cy 0, 12, .inl (fun _ => 0))), (a2, .inl (cy 0, 12, .inl (fun _ => 0)))]) := by rw [w_set] at hD; exact hD
  refine lv_aload_n hx hb dX3_init_20 rfl (lv_at hl 0 rfl) ?_
  refine lv_bipush (v := nI 12) hx hb dX3_init_21 (by decide) ?_
  refine va_newa (atype := .int) (ty := .int) (N' := 12) (a0 := (12, .inl (fun _ => 0))) hx hb (hts _ mac_int) rfl hK hP hD hS hA (fun _ => rfl) (by decide) (by decide) (Nat.le_of_ble_eq_true rfl) (Nat.le_of_ble_eq_true rfl) (Nat.le_of_ble_eq_true rfl) dX3_init_23 (fun a3 cA H hK2 hP hD hS => ?_)
  obtain rfl := ra_one hK2 0 rfl (Or.inl rfl)
  have hP : va_P D zcl (ws ++ [(h, .inr (3, [.ref a1, .ref a2, .null, .null, .null, .null, .int 0, .int 0])), (a1, .inl (cy 0, 12, .inl (fun _ => 0))), (a2, .inl (cy 0, 12, .inl (fun _ => 0))), (a3, .inl (cy 0, 12, .inl (fun _ => 0)))]) H := by rw [List.append_assoc] at hP; exact hP
  have hD : va_D (fun q => sz ≤ q) (ws ++ [(h, .inr (3, [.ref a1, .ref a2, .null, .null, .null, .null, .int 0, .int 0])), (a1, .inl (cy 0, 12, .inl (fun _ => 0))), (a2, .inl (cy 0, 12, .inl (fun _ => 0))), (a3, .inl (cy 0, 12, .inl (fun _ => 0)))]) := by rw [List.append_assoc] at hD; exact hD
  refine va_putF (D := D) (ci := 3) (v := .ref a3) (ty := tyX3 2) (C := RX3) (T := TX3) (N := 8) hx hb hts uin_3 tyX3 tyX3_ok nmX3 hown hK hP hD hS ws.length w_get rfl 2 (by decide) (hts _ mf_X3_18) (fun _ h9 => h9) rfl hin rfl (tyX3_ok 2 (by decide)) rfl rfl (Nat.le_of_ble_eq_true rfl) dX3_init_25 (fun H locs hP hD hS => ?_)
  have hP : va_P D zcl (ws ++ [(h, .inr (3, [.ref a1, .ref a2, .ref a3, .null, .null, .null, .int 0, .int 0])), (a1, .inl (cy 0, 12, .inl (fun _ => 0))), (a2, .inl (cy 0, 12, .inl (fun _ => 0))), (a3, .inl (cy 0, 12, .inl (fun _ => 0)))]) H := by rw [w_set] at hP; exact hP
  have hD : va_D (fun q => sz ≤ q) (ws ++ [(h, .inr (3, [.ref a1, .ref a2, .ref a3, .null, .null, .null, .int 0, .int 0])), (a1, .inl (cy 0, 12, .inl (fun _ => 0))), (a2, .inl (cy 0, 12, .inl (fun _ => 0))), (a3, .inl (cy 0, 12, .inl (fun _ => 0)))]) := by rw [w_set] at hD; exact hD
  refine lv_aload_n hx hb dX3_init_28 rfl (lv_at hl 0 rfl) ?_
  refine lv_bipush (v := nI 12) hx hb dX3_init_29 (by decide) ?_
  refine va_newa (atype := .int) (ty := .int) (N' := 12) (a0 := (12, .inl (fun _ => 0))) hx hb (hts _ mac_int) rfl hK hP hD hS hA (fun _ => rfl) (by decide) (by decide) (Nat.le_of_ble_eq_true rfl) (Nat.le_of_ble_eq_true rfl) (Nat.le_of_ble_eq_true rfl) dX3_init_31 (fun a4 cA H hK2 hP hD hS => ?_)
  obtain rfl := ra_one hK2 0 rfl (Or.inl rfl)
  have hP : va_P D zcl (ws ++ [(h, .inr (3, [.ref a1, .ref a2, .ref a3, .null, .null, .null, .int 0, .int 0])), (a1, .inl (cy 0, 12, .inl (fun _ => 0))), (a2, .inl (cy 0, 12, .inl (fun _ => 0))), (a3, .inl (cy 0, 12, .inl (fun _ => 0))), (a4, .inl (cy 0, 12, .inl (fun _ => 0)))]) H := by rw [List.append_assoc] at hP; exact hP
  have hD : va_D (fun q => sz ≤ q) (ws ++ [(h, .inr (3, [.ref a1, .ref a2, .ref a3, .null, .null, .null, .int 0, .int 0])), (a1, .inl (cy 0, 12, .inl (fun _ => 0))), (a2, .inl (cy 0, 12, .inl (fun _ => 0))), (a3, .inl (cy 0, 12, .inl (fun _ => 0))), (a4, .inl (cy 0, 12, .inl (fun _ => 0)))]) := by rw [List.append_assoc] at hD; exact hD
  refine va_putF (D := D) (ci := 3) (v := .ref a4) (ty := tyX3 3) (C := RX3) (T := TX3) (N := 8) hx hb hts uin_3 tyX3 tyX3_ok nmX3 hown hK hP hD hS ws.length w_get rfl 3 (by decide) (hts _ mf_X3_21) (fun _ h9 => h9) rfl hin rfl (tyX3_ok 3 (by decide)) rfl rfl (Nat.le_of_ble_eq_true rfl) dX3_init_33 (fun H locs hP hD hS => ?_)
  have hP : va_P D zcl (ws ++ [(h, .inr (3, [.ref a1, .ref a2, .ref a3, .ref a4, .null, .null, .int 0, .int 0])), (a1, .inl (cy 0, 12, .inl (fun _ => 0))), (a2, .inl (cy 0, 12, .inl (fun _ => 0))), (a3, .inl (cy 0, 12, .inl (fun _ => 0))), (a4, .inl (cy 0, 12, .inl (fun _ => 0)))]) H := by rw [w_set] at hP; exact hP
  have hD : va_D (fun q => sz ≤ q) (ws ++ [(h, .inr (3, [.ref a1, .ref a2, .ref a3, .ref a4, .null, .null, .int 0, .int 0])), (a1, .inl (cy 0, 12, .inl (fun _ => 0))), (a2, .inl (cy 0, 12, .inl (fun _ => 0))), (a3, .inl (cy 0, 12, .inl (fun _ => 0))), (a4, .inl (cy 0, 12, .inl (fun _ => 0)))]) := by rw [w_set] at hD; exact hD
  refine lv_aload_n hx hb dX3_init_36 rfl (lv_at hl 0 rfl) ?_
  refine lv_bipush (v := nI 12) hx hb dX3_init_37 (by decide) ?_
  refine va_newa (atype := .int) (ty := .int) (N' := 12) (a0 := (12, .inl (fun _ => 0))) hx hb (hts _ mac_int) rfl hK hP hD hS hA (fun _ => rfl) (by decide) (by decide) (Nat.le_of_ble_eq_true rfl) (Nat.le_of_ble_eq_true rfl) (Nat.le_of_ble_eq_true rfl) dX3_init_39 (fun a5 cA H hK2 hP hD hS => ?_)
  obtain rfl := ra_one hK2 0 rfl (Or.inl rfl)
  have hP : va_P D zcl (ws ++ [(h, .inr (3, [.ref a1, .ref a2, .ref a3, .ref a4, .null, .null, .int 0, .int 0])), (a1, .inl (cy 0, 12, .inl (fun _ => 0))), (a2, .inl (cy 0, 12, .inl (fun _ => 0))), (a3, .inl (cy 0, 12, .inl (fun _ => 0))), (a4, .inl (cy 0, 12, .inl (fun _ => 0))), (a5, .inl (cy 0, 12, .inl (fun _ => 0)))]) H := by rw [List.append_assoc] at hP; exact hP
  have hD : va_D (fun q => sz ≤ q) (ws ++ [(h, .inr (3, [.ref a1, .ref a2, .ref a3, .ref a4, .null, .null, .int 0, .int 0])), (a1, .inl (cy 0, 12, .inl (fun _ => 0))), (a2, .inl (cy 0, 12, .inl (fun _ => 0))), (a3, .inl (cy 0, 12, .inl (fun _ => 0))), (a4, .inl (cy 0, 12, .inl (fun _ => 0))), (a5, .inl (cy 0, 12, .inl (fun _ => 0)))]) := by rw [List.append_assoc] at hD; exact hD
  refine va_putF (D := D) (ci := 3) (v := .ref a5) (ty := tyX3 4) (C := RX3) (T := TX3) (N := 8) hx hb hts uin_3 tyX3 tyX3_ok nmX3 hown hK hP hD hS ws.length w_get rfl 4 (by decide) (hts _ mf_X3_24) (fun _ h9 => h9) rfl hin rfl (tyX3_ok 4 (by decide)) rfl rfl (Nat.le_of_ble_eq_true rfl) dX3_init_41 (fun H locs hP hD hS => ?_)
  have hP : va_P D zcl (ws ++ [(h, .inr (3, [.ref a1, .ref a2, .ref a3, .ref a4, .ref a5, .null, .int 0, .int 0])), (a1, .inl (cy 0, 12, .inl (fun _ => 0))), (a2, .inl (cy 0, 12, .inl (fun _ => 0))), (a3, .inl (cy 0, 12, .inl (fun _ => 0))), (a4, .inl (cy 0, 12, .inl (fun _ => 0))), (a5, .inl (cy 0, 12, .inl (fun _ => 0)))]) H := by rw [w_set] at hP; exact hP
  have hD : va_D (fun q => sz ≤ q) (ws ++ [(h, .inr (3, [.ref a1, .ref a2, .ref a3, .ref a4, .ref a5, .null, .int 0, .int 0])), (a1, .inl (cy 0, 12, .inl (fun _ => 0))), (a2, .inl (cy 0, 12, .inl (fun _ => 0))), (a3, .inl (cy 0, 12, .inl (fun _ => 0))), (a4, .inl (cy 0, 12, .inl (fun _ => 0))), (a5, .inl (cy 0, 12, .inl (fun _ => 0)))]) := by rw [w_set] at hD; exact hD
  refine lv_aload_n hx hb dX3_init_44 rfl (lv_at hl 0 rfl) ?_
  refine lv_bipush (v := nI 12) hx hb dX3_init_45 (by decide) ?_
  refine va_newa (atype := .int) (ty := .int) (N' := 12) (a0 := (12, .inl (fun _ => 0))) hx hb (hts _ mac_int) rfl hK hP hD hS hA (fun _ => rfl) (by decide) (by decide) (Nat.le_of_ble_eq_true rfl) (Nat.le_of_ble_eq_true rfl) (Nat.le_of_ble_eq_true rfl) dX3_init_47 (fun a6 cA H hK2 hP hD hS => ?_)
  obtain rfl := ra_one hK2 0 rfl (Or.inl rfl)
  have hP : va_P D zcl (ws ++ [(h, .inr (3, [.ref a1, .ref a2, .ref a3, .ref a4, .ref a5, .null, .int 0, .int 0])), (a1, .inl (cy 0, 12, .inl (fun _ => 0))), (a2, .inl (cy 0, 12, .inl (fun _ => 0))), (a3, .inl (cy 0, 12, .inl (fun _ => 0))), (a4, .inl (cy 0, 12, .inl (fun _ => 0))), (a5, .inl (cy 0, 12, .inl (fun _ => 0))), (a6, .inl (cy 0, 12, .inl (fun _ => 0)))]) H := by rw [List.append_assoc] at hP; exact hP
  have hD : va_D (fun q => sz ≤ q) (ws ++ [(h, .inr (3, [.ref a1, .ref a2, .ref a3, .ref a4, .ref a5, .null, .int 0, .int 0])), (a1, .inl (cy 0, 12, .inl (fun _ => 0))), (a2, .inl (cy 0, 12, .inl (fun _ => 0))), (a3, .inl (cy 0, 12, .inl (fun _ => 0))), (a4, .inl (cy 0, 12, .inl (fun _ => 0))), (a5, .inl (cy 0, 12, .inl (fun _ => 0))), (a6, .inl (cy 0, 12, .inl (fun _ => 0)))]) := by rw [List.append_assoc] at hD; exact hD
  refine va_putF (D := D) (ci := 3) (v := .ref a6) (ty := tyX3 5) (C := RX3) (T := TX3) (N := 8) hx hb hts uin_3 tyX3 tyX3_ok nmX3 hown hK hP hD hS ws.length w_get rfl 5 (by decide) (hts _ mf_X3_27) (fun _ h9 => h9) rfl hin rfl (tyX3_ok 5 (by decide)) rfl rfl (Nat.le_of_ble_eq_true rfl) dX3_init_49 (fun H locs hP hD hS => ?_)
  have hP : va_P D zcl (ws ++ [(h, .inr (3, [.ref a1, .ref a2, .ref a3, .ref a4, .ref a5, .ref a6, .int 0, .int 0])), (a1, .inl (cy 0, 12, .inl (fun _ => 0))), (a2, .inl (cy 0, 12, .inl (fun _ => 0))), (a3, .inl (cy 0, 12, .inl (fun _ => 0))), (a4, .inl (cy 0, 12, .inl (fun _ => 0))), (a5, .inl (cy 0, 12, .inl (fun _ => 0))), (a6, .inl (cy 0, 12, .inl (fun _ => 0)))]) H := by rw [w_set] at hP; exact hP
  have hD : va_D (fun q => sz ≤ q) (ws ++ [(h, .inr (3, [.ref a1, .ref a2, .ref a3, .ref a4, .ref a5, .ref a6, .int 0, .int 0])), (a1, .inl (cy 0, 12, .inl (fun _ => 0))), (a2, .inl (cy 0, 12, .inl (fun _ => 0))), (a3, .inl (cy 0, 12, .inl (fun _ => 0))), (a4, .inl (cy 0, 12, .inl (fun _ => 0))), (a5, .inl (cy 0, 12, .inl (fun _ => 0))), (a6, .inl (cy 0, 12, .inl (fun _ => 0)))]) := by rw [w_set] at hD; exact hD
  refine lv_aload_n hx hb dX3_init_52 rfl (lv_at hl 0 rfl) ?_
  refine lv_iconst (v := 0) hx hb dX3_init_53 (by decide) ?_
  refine va_put (D := D) (ci := 3) (v := .int 0) (ty := tyX3 6) (C := RX3) (T := TX3) (N := 8) hx hb hts uin_3 tyX3 tyX3_ok nmX3 hown hK hP hD hS ws.length w_get rfl 6 (by decide) (hts _ mf_X3_30) (fun _ h9 => h9) rfl (tyX3_ok 6 (by decide)) rfl rfl (Nat.le_of_ble_eq_true rfl) dX3_init_54 (fun H locs hP hD hS => ?_)
  have hP : va_P D zcl (ws ++ [(h, .inr (3, [.ref a1, .ref a2, .ref a3, .ref a4, .ref a5, .ref a6, .int 0, .int 0])), (a1, .inl (cy 0, 12, .inl (fun _ => 0))), (a2, .inl (cy 0, 12, .inl (fun _ => 0))), (a3, .inl (cy 0, 12, .inl (fun _ => 0))), (a4, .inl (cy 0, 12, .inl (fun _ => 0))), (a5, .inl (cy 0, 12, .inl (fun _ => 0))), (a6, .inl (cy 0, 12, .inl (fun _ => 0)))]) H := by rw [w_set] at hP; exact hP
  have hD : va_D (fun q => sz ≤ q) (ws ++ [(h, .inr (3, [.ref a1, .ref a2, .ref a3, .ref a4, .ref a5, .ref a6, .int 0, .int 0])), (a1, .inl (cy 0, 12, .inl (fun _ => 0))), (a2, .inl (cy 0, 12, .inl (fun _ => 0))), (a3, .inl (cy 0, 12, .inl (fun _ => 0))), (a4, .inl (cy 0, 12, .inl (fun _ => 0))), (a5, .inl (cy 0, 12, .inl (fun _ => 0))), (a6, .inl (cy 0, 12, .inl (fun _ => 0)))]) := by rw [w_set] at hD; exact hD
  refine lv_aload_n hx hb dX3_init_57 rfl (lv_at hl 0 rfl) ?_
  refine lv_iconst (v := 0) hx hb dX3_init_58 (by decide) ?_
  refine va_put (D := D) (ci := 3) (v := .int 0) (ty := tyX3 7) (C := RX3) (T := TX3) (N := 8) hx hb hts uin_3 tyX3 tyX3_ok nmX3 hown hK hP hD hS ws.length w_get rfl 7 (by decide) (hts _ mf_X3_34) (fun _ h9 => h9) rfl (tyX3_ok 7 (by decide)) rfl rfl (Nat.le_of_ble_eq_true rfl) dX3_init_59 (fun H locs hP hD hS => ?_)
  have hP : va_P D zcl (ws ++ [(h, .inr (3, [.ref a1, .ref a2, .ref a3, .ref a4, .ref a5, .ref a6, .int 0, .int 0])), (a1, .inl (cy 0, 12, .inl (fun _ => 0))), (a2, .inl (cy 0, 12, .inl (fun _ => 0))), (a3, .inl (cy 0, 12, .inl (fun _ => 0))), (a4, .inl (cy 0, 12, .inl (fun _ => 0))), (a5, .inl (cy 0, 12, .inl (fun _ => 0))), (a6, .inl (cy 0, 12, .inl (fun _ => 0)))]) H := by rw [w_set] at hP; exact hP
  have hD : va_D (fun q => sz ≤ q) (ws ++ [(h, .inr (3, [.ref a1, .ref a2, .ref a3, .ref a4, .ref a5, .ref a6, .int 0, .int 0])), (a1, .inl (cy 0, 12, .inl (fun _ => 0))), (a2, .inl (cy 0, 12, .inl (fun _ => 0))), (a3, .inl (cy 0, 12, .inl (fun _ => 0))), (a4, .inl (cy 0, 12, .inl (fun _ => 0))), (a5, .inl (cy 0, 12, .inl (fun _ => 0))), (a6, .inl (cy 0, 12, .inl (fun _ => 0)))]) := by rw [w_set] at hD; exact hD
  exact W.vret hx hb hr (fun t ht hW => ⟨rfl, ⟨_, ⟨a1, a2, a3, a4, a5, a6, rfl⟩, by rw [ht]; exact hP, hD⟩, hS.F ht⟩) hS.2.2 dX3_init_62 hlocks
