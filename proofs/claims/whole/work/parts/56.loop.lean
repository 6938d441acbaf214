/-! ===== the law: crowd, the switch, the loop, the end ===== -/
section LAW2
variable {X : CX} {σ : HP} {pc : Nat} {lv : List (Nat × Value)} {b L : Nat} {xs : Nat → Int32}
theorem law_crowd (hX : OkC X RL cL_law 4 10 366) (hS : Scr X b L xs) (hL : L ≤ 2048) {i : Nat} (hi : i + 4 ≤ L) (hI : Inv2 σ σ) (k : ∀ σ2, Inv2 σ2 σ2 → Z X σ2 753 (lvL X b i) []) : Z X σ 397 (lvL X b i) [] := by
  by_cases c : xs (ix (nI i + nI 1)) = 0
  · obtain ⟨r, σ1, σ2, k1, k2, hI2⟩ := both (F := fun σ => F_X7_crowd 1000 133 0 σ) (G := fun s => F_X8_crowd 1000 140 0 s) hI (fun s h => op_crowd0 (N := 1000) (by decide) h)
    refine z_aload_n hX dL_law_397 1 rfl ?_
    refine z_aload_n hX dL_law_398 0 rfl ?_
    refine z_iload_n hX dL_law_399 3 rfl ?_
    refine z_iconst (x := nI 1) hX dL_law_400 (by decide) ?_
    refine z_iadd hX dL_law_401 ?_
    refine z_sld hX hS (in_L hL hi (by decide)) dL_law_402 ?_
    refine z_if_eq_t hX 410 (by decide) dL_law_403 c ?_
    refine z_iconst (x := 0) hX dL_law_410 (by decide) ?_
    refine z_callV (j := 133) (st0 := _) (st := _) hX M_X7_crowd ml_L_54 (by decide) (cell_7 X.1 kd133) rfl (c_X7_crowd X.1 kd133 k1) rfl (Nat.le_of_ble_eq_true rfl) (Nat.le_of_ble_eq_true rfl) rfl (Nat.le_of_ble_eq_true rfl) dL_law_411 ?_
    refine z_aload_n hX dL_law_414 2 rfl ?_
    refine z_aload_n hX dL_law_415 0 rfl ?_
    refine z_iload_n hX dL_law_416 3 rfl ?_
    refine z_iconst (x := nI 1) hX dL_law_417 (by decide) ?_
    refine z_iadd hX dL_law_418 ?_
    refine z_sld hX hS (in_L hL hi (by decide)) dL_law_419 ?_
    refine z_if_eq_t hX 427 (by decide) dL_law_420 c ?_
    refine z_iconst (x := 0) hX dL_law_427 (by decide) ?_
    refine z_callV (j := 140) (st0 := _) (st := _) hX M_X8_crowd ml_L_58 (by decide) (cell_8 X.1 kd140) rfl (c_X8_crowd X.1 kd140 k2) rfl (Nat.le_of_ble_eq_true rfl) (Nat.le_of_ble_eq_true rfl) rfl (Nat.le_of_ble_eq_true rfl) dL_law_428 ?_
    exact z_icmp_eq_t hX 753 (by decide) dL_law_431 rfl (k _ hI2)
  · obtain ⟨r, σ1, σ2, k1, k2, hI2⟩ := both (F := fun σ => F_X7_crowd 1000 133 1 σ) (G := fun s => F_X8_crowd 1000 140 1 s) hI (fun s h => op_crowd1 (N := 1000) (by decide) h)
    refine z_aload_n hX dL_law_397 1 rfl ?_
    refine z_aload_n hX dL_law_398 0 rfl ?_
    refine z_iload_n hX dL_law_399 3 rfl ?_
    refine z_iconst (x := nI 1) hX dL_law_400 (by decide) ?_
    refine z_iadd hX dL_law_401 ?_
    refine z_sld hX hS (in_L hL hi (by decide)) dL_law_402 ?_
    refine z_if_eq_f hX 410 (by decide) dL_law_403 c ?_
    refine z_iconst (x := 1) hX dL_law_406 (by decide) ?_
    refine z_goto hX 411 (by decide) dL_law_407 ?_
    refine z_callV (j := 133) (st0 := _) (st := _) hX M_X7_crowd ml_L_54 (by decide) (cell_7 X.1 kd133) rfl (c_X7_crowd X.1 kd133 k1) rfl (Nat.le_of_ble_eq_true rfl) (Nat.le_of_ble_eq_true rfl) rfl (Nat.le_of_ble_eq_true rfl) dL_law_411 ?_
    refine z_aload_n hX dL_law_414 2 rfl ?_
    refine z_aload_n hX dL_law_415 0 rfl ?_
    refine z_iload_n hX dL_law_416 3 rfl ?_
    refine z_iconst (x := nI 1) hX dL_law_417 (by decide) ?_
    refine z_iadd hX dL_law_418 ?_
    refine z_sld hX hS (in_L hL hi (by decide)) dL_law_419 ?_
    refine z_if_eq_f hX 427 (by decide) dL_law_420 c ?_
    refine z_iconst (x := 1) hX dL_law_423 (by decide) ?_
    refine z_goto hX 428 (by decide) dL_law_424 ?_
    refine z_callV (j := 140) (st0 := _) (st := _) hX M_X8_crowd ml_L_58 (by decide) (cell_8 X.1 kd140) rfl (c_X8_crowd X.1 kd140 k2) rfl (Nat.le_of_ble_eq_true rfl) (Nat.le_of_ble_eq_true rfl) rfl (Nat.le_of_ble_eq_true rfl) dL_law_428 ?_
    exact z_icmp_eq_t hX 753 (by decide) dL_law_431 rfl (k _ hI2)
theorem law_switch (hX : OkC X RL cL_law 4 10 366) (hS : Scr X b L xs) (hL : L ≤ 2048) {i : Nat} (hi : i + 4 ≤ L) (hI : Inv2 σ σ) (k : ∀ σ2, Inv2 σ2 σ2 → Z X σ2 753 (lvL X b i) []) : Z X σ 26 (lvL X b i) [] := by
  refine z_aload_n hX dL_law_26 0 rfl ?_
  refine z_iload_n hX dL_law_27 3 rfl ?_
  refine z_sld hX hS (vp_in_nI (by omega) (by omega)) dL_law_28 ?_
  refine z_bipush (x := 31) hX dL_law_29 (by decide) ?_
  refine z_iand hX dL_law_31 ?_
  obtain ⟨j, hj, e⟩ := pk_andE (xs (ix (nI i))) (m := 31) 5 (by decide)
  rw [e]
  by_cases hj2 : j < 25
  · rcases (show j = 0 ∨ j = 1 ∨ j = 2 ∨ j = 3 ∨ j = 4 ∨ j = 5 ∨ j = 6 ∨ j = 7 ∨ j = 8 ∨ j = 9 ∨ j = 10 ∨ j = 11 ∨ j = 12 ∨ j = 13 ∨ j = 14 ∨ j = 15 ∨ j = 16 ∨ j = 17 ∨ j = 18 ∨ j = 19 ∨ j = 20 ∨ j = 21 ∨ j = 22 ∨ j = 23 ∨ j = 24 by omega) with rfl | rfl | rfl | rfl | rfl | rfl | rfl | rfl | rfl | rfl | rfl | rfl | rfl | rfl | rfl | rfl | rfl | rfl | rfl | rfl | rfl | rfl | rfl | rfl | rfl
    · exact z_tabIn (off := 116) hX 148 (by decide) (by decide) (by decide) (by decide) dL_law_32 (law_come hX hS hL hi hI k)
    · exact z_tabIn (off := 151) hX 183 (by decide) (by decide) (by decide) (by decide) dL_law_32 (law_readRow hX hS hL hi hI k)
    · exact z_tabIn (off := 164) hX 196 (by decide) (by decide) (by decide) (by decide) dL_law_32 (law_go hX hS hL hi hI k)
    · exact z_tabIn (off := 187) hX 219 (by decide) (by decide) (by decide) (by decide) dL_law_32 (law_pay hX hS hL hi hI k)
    · exact z_tabIn (off := 220) hX 252 (by decide) (by decide) (by decide) (by decide) dL_law_32 (law_trade hX hS hL hi hI k)
    · exact z_tabIn (off := 243) hX 275 (by decide) (by decide) (by decide) (by decide) dL_law_32 (law_pass hX hS hL hi hI k)
    · exact z_tabIn (off := 266) hX 298 (by decide) (by decide) (by decide) (by decide) dL_law_32 (law_wind hX hS hL hi hI k)
    · exact z_tabIn (off := 299) hX 331 (by decide) (by decide) (by decide) (by decide) dL_law_32 (law_planTurn hX hS hL hi hI k)
    · exact z_tabIn (off := 342) hX 374 (by decide) (by decide) (by decide) (by decide) dL_law_32 (law_dropTurn hX hS hL hi hI k)
    · exact z_tabIn (off := 365) hX 397 (by decide) (by decide) (by decide) (by decide) dL_law_32 (law_crowd hX hS hL hi hI k)
    · exact z_tabIn (off := 404) hX 436 (by decide) (by decide) (by decide) (by decide) dL_law_32 (law_setTangle hX hS hL hi hI k)
    · exact z_tabIn (off := 427) hX 459 (by decide) (by decide) (by decide) (by decide) dL_law_32 (law_want hX hS hL hi hI k)
    · exact z_tabIn (off := 440) hX 472 (by decide) (by decide) (by decide) (by decide) dL_law_32 (law_type hX hS hL hi hI k)
    · exact z_tabIn (off := 465) hX 497 (by decide) (by decide) (by decide) (by decide) dL_law_32 (law_clearText hX hS hL hi hI k)
    · exact z_tabIn (off := 478) hX 510 (by decide) (by decide) (by decide) (by decide) dL_law_32 (law_undo hX hS hL hi hI k)
    · exact z_tabIn (off := 491) hX 523 (by decide) (by decide) (by decide) (by decide) dL_law_32 (law_keep hX hS hL hi hI k)
    · exact z_tabIn (off := 504) hX 536 (by decide) (by decide) (by decide) (by decide) dL_law_32 (law_restore hX hS hL hi hI k)
    · exact z_tabIn (off := 517) hX 549 (by decide) (by decide) (by decide) (by decide) dL_law_32 (law_flier hX hS hL hi hI k)
    · exact z_tabIn (off := 550) hX 582 (by decide) (by decide) (by decide) (by decide) dL_law_32 (law_reads hX hS hL hi hI k)
    · exact z_tabIn (off := 573) hX 605 (by decide) (by decide) (by decide) (by decide) dL_law_32 (law_ifTraded hX hS hL hi hI k)
    · exact z_tabIn (off := 606) hX 638 (by decide) (by decide) (by decide) (by decide) dL_law_32 (law_nextTrade hX hS hL hi hI k)
    · exact z_tabIn (off := 619) hX 651 (by decide) (by decide) (by decide) (by decide) dL_law_32 (law_spelledIn hX hS hL hi hI k)
    · exact z_tabIn (off := 632) hX 664 (by decide) (by decide) (by decide) (by decide) dL_law_32 (law_turnOf hX hS hL hi hI k)
    · exact z_tabIn (off := 665) hX 697 (by decide) (by decide) (by decide) (by decide) dL_law_32 (law_tangle hX hS hL hi hI k)
    · exact z_tabIn (off := 698) hX 730 (by decide) (by decide) (by decide) (by decide) dL_law_32 (law_count hX hS hL hi hI k)
  · refine z_tabOut hX 753 (Or.inr ?_) (by decide) dL_law_32 (k σ hI)
    rw [nI_toInt (by omega)]
    omega
/-- the loop, from its head -/
theorem law_loop (hX : OkC X RL cL_law 4 10 366) (hS : Scr X b L xs) (hL : L ≤ 2048) (hE : ∀ (σ : HP) (lv : List (Nat × Value)), Z X σ 760 lv [.int 1]) : ∀ (n i : Nat) (σ : HP), L < i + 4 * n + 4 → i ≤ 4000 → Inv2 σ σ → Z X σ 18 (lvL X b i) [] := by
  intro n
  induction n with
  | zero =>
    intro i σ hn hi hI
    refine z_iload_n hX dL_law_18 3 rfl ?_
    refine z_aload_n hX dL_law_19 0 rfl ?_
    refine z_slen hX hS dL_law_20 ?_
    refine z_iconst (x := nI 4) hX dL_law_21 (by decide) ?_
    refine z_isub hX dL_law_22 ?_
    refine z_icmp_gt_t hX 759 (by decide) dL_law_23 ?_ ?_
    · show nI L - nI 4 < nI i
      have h1 : (nI L).toInt = L := nI_toInt (by omega)
      have h2 : (nI 4).toInt = 4 := rfl
      have h0 : (nI i).toInt = i := nI_toInt (by omega)
      rw [Int32.lt_iff_toInt_lt, toI_sub (by omega) (by omega)]
      omega
    · exact z_iconst (x := 1) hX dL_law_759 (by decide) (hE _ _)
  | succ n ih =>
    intro i σ hn hi hI
    have h1 : (nI L).toInt = L := nI_toInt (by omega)
    have h2 : (nI 4).toInt = 4 := rfl
    have h3 : (nI L - nI 4 < nI i) = (L < i + 4) := by
      have h0 : (nI i).toInt = i := nI_toInt (by omega)
      rw [Int32.lt_iff_toInt_lt, toI_sub (by omega) (by omega)]
      exact propext ⟨fun h => by omega, fun h => by omega⟩
    refine z_iload_n hX dL_law_18 3 rfl ?_
    refine z_aload_n hX dL_law_19 0 rfl ?_
    refine z_slen hX hS dL_law_20 ?_
    refine z_iconst (x := nI 4) hX dL_law_21 (by decide) ?_
    refine z_isub hX dL_law_22 ?_
    by_cases c : L < i + 4
    · refine z_icmp_gt_t hX 759 (by decide) dL_law_23 (h3.mpr c) ?_
      exact z_iconst (x := 1) hX dL_law_759 (by decide) (hE _ _)
    · refine z_icmp_gt_f hX 759 (by decide) dL_law_23 (fun h => c (h3.mp h)) ?_
      refine law_switch hX hS hL (by omega) hI (fun σ2 hI2 => ?_)
      refine z_iinc (lv' := [(3, .int (nI (i + 4))), (0, .ref b), (1, rf X.1 133), (2, rf X.1 140)]) (y := nI (i + 4)) hX dL_law_753 3 rfl ?_ (by decide) rfl ?_
      · exact (nI_add i 4 : nI i + nI 4 = nI (i + 4))
      · refine z_sub (lv' := lvL X b (i + 4)) [1, 2, 3, 0] rfl ?_
        exact z_goto hX 18 (by decide) dL_law_756 (ih (i + 4) σ2 (by omega) (by omega) hI2)
theorem law_end {l : Launch} {D : va_G} {cy : Nat → ClassId} {ad : Nat → Nat} {p : Program} {e : Env} {s : State} {m : MethodId} {below : List Frame} {meth : Method} {c : Code} {cs sl : Nat} (hx : p.tables.exec = Jvm.exec) (hb : c.code = code) (hr : meth.sig.returnType = ret) (hlocks : meth.locks = false) (hcs : cs ≤ 600000) (hsl : sl ≤ 7302250) :
    Z ((l, D, cy, ad, fun q => s.heap.size ≤ q), p, e, room_1, s, m, #[Value.ref b], below, meth, c, 4, cs, sl, lw_Z below #[Value.ref b] s) σ 760 lv [.int 1] := by
  intro ls H locs h hP hS
  refine va_forget (fun q hq => hS.2.2 q hq) ?_
  refine W.widen hcs hsl ?_
  exact lw_ret hx hb hr hlocks dL_law_760
end LAW2
