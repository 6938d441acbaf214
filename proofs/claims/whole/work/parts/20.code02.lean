set_option maxRecDepth 20000 in
set_option maxHeartbeats 4000000 in
theorem c_X3_swapWithNext (w : WP) {N : Nat} {j0 : Nat} {a1 : Int32} {σ σ' : HP} (hk_j0 : kd j0 = 9) (hl_j0 : ln j0 = 12) (h : F_X3_swapWithNext N j0 a1 σ = some σ') : Ct w yX3_swapWithNext cX3_swapWithNext 3 none 0 0 [rf w j0, .int a1] σ none σ' := by
  refine z_met w (by decide +kernel) (Nat.le_of_ble_eq_true rfl) (fun X hw hX => ?_)
  subst hw
  have hR : OkX X RX3 cX3_swapWithNext 3 0 0 none none σ' := hX
  have hX := hR.1
  show Z X σ 0 [(0, rf X.1 j0), (1, .int a1)] []
  unfold F_X3_swapWithNext at h
  refine z_aload_n hX dX3_swapWithNext_0 0 rfl ?_
  refine z_iload_n hX dX3_swapWithNext_1 1 rfl ?_
  obtain ⟨g21, h⟩ := gd_some h
  refine z_iald hX hk_j0 hl_j0 g21 dX3_swapWithNext_2 ?_
  obtain ⟨x22, ex22, h⟩ := bd_some h
  refine z_top ex22 ?_
  refine z_istore_n (lv' := [(2, .int x22), (0, rf X.1 j0), (1, .int a1)]) hX dX3_swapWithNext_3 (by decide) rfl ?_
  refine z_aload_n hX dX3_swapWithNext_4 1 rfl ?_
  refine z_iload_n hX dX3_swapWithNext_5 2 rfl ?_
  refine z_aload_n hX dX3_swapWithNext_6 1 rfl ?_
  refine z_iload_n hX dX3_swapWithNext_7 2 rfl ?_
  refine z_iconst (x := 1) hX dX3_swapWithNext_8 (by decide) ?_
  refine z_iadd hX dX3_swapWithNext_9 ?_
  obtain ⟨g23, h⟩ := gd_some h
  refine z_iald hX hk_j0 hl_j0 g23 dX3_swapWithNext_10 ?_
  obtain ⟨g24, h⟩ := gd_some h
  obtain ⟨σ25, eσ25, h⟩ := bd_some h
  refine z_iast hX hk_j0 hl_j0 g24 dX3_swapWithNext_11 ?_
  refine z_ms eσ25 ?_
  refine z_aload_n hX dX3_swapWithNext_12 1 rfl ?_
  refine z_iload_n hX dX3_swapWithNext_13 2 rfl ?_
  refine z_iconst (x := 1) hX dX3_swapWithNext_14 (by decide) ?_
  refine z_iadd hX dX3_swapWithNext_15 ?_
  refine z_iload_n hX dX3_swapWithNext_16 0 rfl ?_
  obtain ⟨g26, h⟩ := gd_some h
  obtain ⟨σ27, eσ27, h⟩ := bd_some h
  refine z_iast hX hk_j0 hl_j0 g26 dX3_swapWithNext_17 ?_
  refine z_ms eσ27 ?_
  obtain rfl := ret1 h
  exact z_vret hR dX3_swapWithNext_18
set_option maxRecDepth 20000 in
set_option maxHeartbeats 4000000 in
theorem c_X3_swapEntries (w : WP) {N : Nat} {j0 : Nat} {a1 : Int32} {σ σ' : HP} (hk_j0 : kd j0 = 3) (h : F_X3_swapEntries N j0 a1 σ = some σ') : Ct w yX3_swapEntries cX3_swapEntries 2 none 1 22 [rf w j0, .int a1] σ none σ' := by
  refine z_met w (by decide +kernel) (Nat.le_of_ble_eq_true rfl) (fun X hw hX => ?_)
  subst hw
  have hR : OkX X RX3 cX3_swapEntries 2 1 22 none none σ' := hX
  have hX := hR.1
  show Z X σ 0 [(0, rf X.1 j0), (1, .int a1)] []
  unfold F_X3_swapEntries at h
  refine z_aload_n hX dX3_swapEntries_0 0 rfl ?_
  refine g_X3_9 hX hk_j0 dX3_swapEntries_1 ?_
  refine z_iload_n hX dX3_swapEntries_4 1 rfl ?_
  obtain ⟨σ22, k21, h⟩ := bind_some h
  refine v_X3_47 hX (c_X3_swapWithNext X.1 (kl_3_0 hk_j0).1 (kl_3_0 hk_j0).2 k21) (Nat.le_of_ble_eq_true rfl) (Nat.le_of_ble_eq_true rfl) (Nat.le_of_ble_eq_true rfl) dX3_swapEntries_5 ?_
  refine z_aload_n hX dX3_swapEntries_8 0 rfl ?_
  refine g_X3_15 hX hk_j0 dX3_swapEntries_9 ?_
  refine z_iload_n hX dX3_swapEntries_12 1 rfl ?_
  obtain ⟨σ24, k23, h⟩ := bind_some h
  refine v_X3_47 hX (c_X3_swapWithNext X.1 (kl_3_1 hk_j0).1 (kl_3_1 hk_j0).2 k23) (Nat.le_of_ble_eq_true rfl) (Nat.le_of_ble_eq_true rfl) (Nat.le_of_ble_eq_true rfl) dX3_swapEntries_13 ?_
  refine z_aload_n hX dX3_swapEntries_16 0 rfl ?_
  refine g_X3_18 hX hk_j0 dX3_swapEntries_17 ?_
  refine z_iload_n hX dX3_swapEntries_20 1 rfl ?_
  obtain ⟨σ26, k25, h⟩ := bind_some h
  refine v_X3_47 hX (c_X3_swapWithNext X.1 (kl_3_2 hk_j0).1 (kl_3_2 hk_j0).2 k25) (Nat.le_of_ble_eq_true rfl) (Nat.le_of_ble_eq_true rfl) (Nat.le_of_ble_eq_true rfl) dX3_swapEntries_21 ?_
  refine z_aload_n hX dX3_swapEntries_24 0 rfl ?_
  refine g_X3_21 hX hk_j0 dX3_swapEntries_25 ?_
  refine z_iload_n hX dX3_swapEntries_28 1 rfl ?_
  obtain ⟨σ28, k27, h⟩ := bind_some h
  refine v_X3_47 hX (c_X3_swapWithNext X.1 (kl_3_3 hk_j0).1 (kl_3_3 hk_j0).2 k27) (Nat.le_of_ble_eq_true rfl) (Nat.le_of_ble_eq_true rfl) (Nat.le_of_ble_eq_true rfl) dX3_swapEntries_29 ?_
  refine z_aload_n hX dX3_swapEntries_32 0 rfl ?_
  refine g_X3_24 hX hk_j0 dX3_swapEntries_33 ?_
  refine z_iload_n hX dX3_swapEntries_36 1 rfl ?_
  obtain ⟨σ30, k29, h⟩ := bind_some h
  refine v_X3_47 hX (c_X3_swapWithNext X.1 (kl_3_4 hk_j0).1 (kl_3_4 hk_j0).2 k29) (Nat.le_of_ble_eq_true rfl) (Nat.le_of_ble_eq_true rfl) (Nat.le_of_ble_eq_true rfl) dX3_swapEntries_37 ?_
  refine z_aload_n hX dX3_swapEntries_40 0 rfl ?_
  refine g_X3_27 hX hk_j0 dX3_swapEntries_41 ?_
  refine z_iload_n hX dX3_swapEntries_44 1 rfl ?_
  obtain ⟨σ32, k31, h⟩ := bind_some h
  refine v_X3_47 hX (c_X3_swapWithNext X.1 (kl_3_5 hk_j0).1 (kl_3_5 hk_j0).2 k31) (Nat.le_of_ble_eq_true rfl) (Nat.le_of_ble_eq_true rfl) (Nat.le_of_ble_eq_true rfl) dX3_swapEntries_45 ?_
  obtain rfl := ret1 h
  exact z_vret hR dX3_swapEntries_48
set_option maxRecDepth 20000 in
set_option maxHeartbeats 4000000 in
theorem t_X3_remove_2 {X : CX} {N : Nat} {σ' : HP} (hR : OkX X RX3 cX3_remove 3 2 43 none none σ')  : ∀ (n : Nat) (j0 : Nat) (a2 : Int32) (σ : HP), kd j0 = 3 → L_X3_remove_2  N n j0 a2 σ = some σ' → Z X σ 2 [(0, rf X.1 j0), (2, .int a2)] [] := by
  have hX := hR.1
  intro n
  induction n with
  | zero =>
    intro j0 a2 σ hk_j0 h
    rw [L_X3_remove_2] at h
    cases h
  | succ n ih =>
    intro j0 a2 σ hk_j0 h
    rw [L_X3_remove_2] at h
    refine z_iload_n hX dX3_remove_2 1 rfl ?_
    refine z_aload_n hX dX3_remove_3 0 rfl ?_
    refine g_X3_30 hX hk_j0 dX3_remove_4 ?_
    refine z_iconst (x := 1) hX dX3_remove_7 (by decide) ?_
    refine z_isub hX dX3_remove_8 ?_
    rcases ite_or h with ⟨c21, h⟩ | ⟨c21, h⟩
    · refine z_icmp_ge_t hX 23 (by decide) dX3_remove_9 c21 ?_
      refine z_aload_n hX dX3_remove_23 0 rfl ?_
      refine z_dup hX rfl dX3_remove_24 ?_
      refine g_X3_30 hX hk_j0 dX3_remove_25 ?_
      refine z_iconst (x := 1) hX dX3_remove_28 (by decide) ?_
      refine z_isub hX dX3_remove_29 ?_
      obtain ⟨σ22, eσ22, h⟩ := bd_some h
      refine p_X3_30 hX hk_j0 dX3_remove_30 ?_
      refine z_ms eσ22 ?_
      obtain rfl := ret1 h
      exact z_vret hR dX3_remove_33
    · refine z_icmp_ge_f hX 23 (by decide) dX3_remove_9 c21 ?_
      refine z_aload_n hX dX3_remove_12 0 rfl ?_
      refine z_iload_n hX dX3_remove_13 1 rfl ?_
      obtain ⟨σ24, k23, h⟩ := bind_some h
      refine v_X3_43 hX hk_j0 (c_X3_swapEntries X.1 hk_j0 k23) (Nat.le_of_ble_eq_true rfl) (Nat.le_of_ble_eq_true rfl) (Nat.le_of_ble_eq_true rfl) dX3_remove_14 ?_
      refine z_iinc (y := (a2 + 1)) (lv' := [(2, .int (a2 + 1)), (0, rf X.1 j0)]) hX dX3_remove_17 1 rfl rfl (by decide) rfl ?_
      refine z_goto hX 2 (by decide) dX3_remove_20 ?_
      refine z_sub (lv' := [(0, rf X.1 j0), (2, .int (a2 + 1))]) [1, 0] rfl ?_
      exact ih j0 (a2 + 1) σ24 hk_j0 h
set_option maxRecDepth 20000 in
set_option maxHeartbeats 4000000 in
theorem c_X3_remove (w : WP) {N : Nat} {j0 : Nat} {a1 : Int32} {σ σ' : HP} (hk_j0 : kd j0 = 3) (h : F_X3_remove N j0 a1 σ = some σ') : Ct w yX3_remove cX3_remove 3 none 2 43 [rf w j0, .int a1] σ none σ' := by
  refine z_met w (by decide +kernel) (Nat.le_of_ble_eq_true rfl) (fun X hw hX => ?_)
  subst hw
  have hR : OkX X RX3 cX3_remove 3 2 43 none none σ' := hX
  have hX := hR.1
  show Z X σ 0 [(0, rf X.1 j0), (1, .int a1)] []
  unfold F_X3_remove at h
  refine z_iload_n hX dX3_remove_0 1 rfl ?_
  refine z_istore_n (lv' := [(2, .int a1), (0, rf X.1 j0), (1, .int a1)]) hX dX3_remove_1 (by decide) rfl ?_
  refine z_sub (lv' := [(0, rf X.1 j0), (2, .int a1)]) [1, 0] rfl ?_
  exact t_X3_remove_2 hR  N j0 a1 σ hk_j0 h
set_option maxRecDepth 20000 in
set_option maxHeartbeats 4000000 in
theorem c_X3_swap (w : WP) {N : Nat} {j0 : Nat} {a1 : Int32} {σ σ' : HP} (hk_j0 : kd j0 = 3) (h : F_X3_swap N j0 a1 σ = some σ') : Ct w yX3_swap cX3_swap 2 none 2 43 [rf w j0, .int a1] σ none σ' := by
  refine z_met w (by decide +kernel) (Nat.le_of_ble_eq_true rfl) (fun X hw hX => ?_)
  subst hw
  have hR : OkX X RX3 cX3_swap 2 2 43 none none σ' := hX
  have hX := hR.1
  show Z X σ 0 [(0, rf X.1 j0), (1, .int a1)] []
  unfold F_X3_swap at h
  refine z_aload_n hX dX3_swap_0 0 rfl ?_
  refine z_iload_n hX dX3_swap_1 1 rfl ?_
  obtain ⟨σ22, k21, h⟩ := bind_some h
  refine v_X3_43 hX hk_j0 (c_X3_swapEntries X.1 hk_j0 k21) (Nat.le_of_ble_eq_true rfl) (Nat.le_of_ble_eq_true rfl) (Nat.le_of_ble_eq_true rfl) dX3_swap_2 ?_
  refine z_aload_n hX dX3_swap_5 0 rfl ?_
  refine g_X3_27 hX hk_j0 dX3_swap_6 ?_
  refine z_iload_n hX dX3_swap_9 1 rfl ?_
  refine z_dup2 hX rfl rfl dX3_swap_10 ?_
  obtain ⟨g23, h⟩ := gd_some h
  refine z_iald hX (kl_3_5 hk_j0).1 (kl_3_5 hk_j0).2 g23 dX3_swap_11 ?_
  refine z_iconst (x := 1) hX dX3_swap_12 (by decide) ?_
  refine z_iadd hX dX3_swap_13 ?_
  obtain ⟨g24, h⟩ := gd_some h
  obtain ⟨σ25, eσ25, h⟩ := bd_some h
  refine z_iast hX (kl_3_5 hk_j0).1 (kl_3_5 hk_j0).2 g24 dX3_swap_14 ?_
  refine z_ms eσ25 ?_
  refine z_aload_n hX dX3_swap_15 0 rfl ?_
  refine g_X3_27 hX hk_j0 dX3_swap_16 ?_
  refine z_iload_n hX dX3_swap_19 1 rfl ?_
  refine z_iconst (x := 1) hX dX3_swap_20 (by decide) ?_
  refine z_iadd hX dX3_swap_21 ?_
  refine z_dup2 hX rfl rfl dX3_swap_22 ?_
  obtain ⟨g26, h⟩ := gd_some h
  refine z_iald hX (kl_3_5 hk_j0).1 (kl_3_5 hk_j0).2 g26 dX3_swap_23 ?_
  refine z_iconst (x := 1) hX dX3_swap_24 (by decide) ?_
  refine z_iadd hX dX3_swap_25 ?_
  obtain ⟨g27, h⟩ := gd_some h
  obtain ⟨σ28, eσ28, h⟩ := bd_some h
  refine z_iast hX (kl_3_5 hk_j0).1 (kl_3_5 hk_j0).2 g27 dX3_swap_26 ?_
  refine z_ms eσ28 ?_
  obtain rfl := ret1 h
  exact z_vret hR dX3_swap_27
set_option maxRecDepth 20000 in
set_option maxHeartbeats 4000000 in
theorem c_X3_isPairFree (w : WP) {N : Nat} {j0 : Nat} {a1 : Int32} {r : Int32} {σ : HP} (hk_j0 : kd j0 = 3) (h : F_X3_isPairFree N j0 a1 σ = some r) : Ct w yX3_isPairFree cX3_isPairFree 2 (some .boolean) 1 21 [rf w j0, .int a1] σ (some (.int r)) σ := by
  refine z_met w (by decide +kernel) (Nat.le_of_ble_eq_true rfl) (fun X hw hX => ?_)
  subst hw
  have hR : OkX X RX3 cX3_isPairFree 2 1 21 (some .boolean) (some (.int r)) σ := hX
  have hX := hR.1
  show Z X σ 0 [(0, rf X.1 j0), (1, .int a1)] []
  unfold F_X3_isPairFree at h
  refine z_aload_n hX dX3_isPairFree_0 0 rfl ?_
  refine z_iload_n hX dX3_isPairFree_1 1 rfl ?_
  obtain ⟨r22, k21, h⟩ := bind_some h
  refine v_X3_51 hX hk_j0 (c_X3_isTangled X.1 hk_j0 k21) (Nat.le_of_ble_eq_true rfl) (Nat.le_of_ble_eq_true rfl) (Nat.le_of_ble_eq_true rfl) dX3_isPairFree_2 ?_
  rcases ite_or h with ⟨c23, h⟩ | ⟨c23, h⟩
  · refine z_if_ne_f hX 22 (by decide) dX3_isPairFree_5 c23 ?_
    refine z_aload_n hX dX3_isPairFree_8 0 rfl ?_
    refine z_iload_n hX dX3_isPairFree_9 1 rfl ?_
    refine z_iconst (x := 1) hX dX3_isPairFree_10 (by decide) ?_
    refine z_iadd hX dX3_isPairFree_11 ?_
    obtain ⟨r25, k24, h⟩ := bind_some h
    refine v_X3_51 hX hk_j0 (c_X3_isTangled X.1 hk_j0 k24) (Nat.le_of_ble_eq_true rfl) (Nat.le_of_ble_eq_true rfl) (Nat.le_of_ble_eq_true rfl) dX3_isPairFree_12 ?_
    rcases ite_or h with ⟨c26, h⟩ | ⟨c26, h⟩
    · refine z_if_ne_f hX 22 (by decide) dX3_isPairFree_15 c26 ?_
      refine z_iconst (x := 1) hX dX3_isPairFree_18 (by decide) ?_
      refine z_goto hX 23 (by decide) dX3_isPairFree_19 ?_
      obtain rfl := ret1 h
      exact z_zret hR rfl dX3_isPairFree_23
    · refine z_if_ne_t hX 22 (by decide) dX3_isPairFree_15 c26 ?_
      refine z_iconst (x := 0) hX dX3_isPairFree_22 (by decide) ?_
      obtain rfl := ret1 h
      exact z_zret hR rfl dX3_isPairFree_23
  · refine z_if_ne_t hX 22 (by decide) dX3_isPairFree_5 c23 ?_
    refine z_iconst (x := 0) hX dX3_isPairFree_22 (by decide) ?_
    obtain rfl := ret1 h
    exact z_zret hR rfl dX3_isPairFree_23
set_option maxRecDepth 20000 in
set_option maxHeartbeats 4000000 in
theorem c_X3_tie (w : WP) {N : Nat} {j0 : Nat} {a1 : Int32} {a2 : Int32} {σ σ' : HP} (hk_j0 : kd j0 = 3) (h : F_X3_tie N j0 a1 a2 σ = some σ') : Ct w yX3_tie cX3_tie 3 none 0 0 [rf w j0, .int a1, .int a2] σ none σ' := by
  refine z_met w (by decide +kernel) (Nat.le_of_ble_eq_true rfl) (fun X hw hX => ?_)
  subst hw
  have hR : OkX X RX3 cX3_tie 3 0 0 none none σ' := hX
  have hX := hR.1
  show Z X σ 0 [(0, rf X.1 j0), (1, .int a1), (2, .int a2)] []
  unfold F_X3_tie at h
  refine z_aload_n hX dX3_tie_0 0 rfl ?_
  refine g_X3_21 hX hk_j0 dX3_tie_1 ?_
  refine z_iload_n hX dX3_tie_4 1 rfl ?_
  refine z_iconst (x := 1) hX dX3_tie_5 (by decide) ?_
  obtain ⟨g21, h⟩ := gd_some h
  obtain ⟨σ22, eσ22, h⟩ := bd_some h
  refine z_iast hX (kl_3_3 hk_j0).1 (kl_3_3 hk_j0).2 g21 dX3_tie_6 ?_
  refine z_ms eσ22 ?_
  refine z_aload_n hX dX3_tie_7 0 rfl ?_
  refine g_X3_21 hX hk_j0 dX3_tie_8 ?_
  refine z_iload_n hX dX3_tie_11 1 rfl ?_
  refine z_iconst (x := 1) hX dX3_tie_12 (by decide) ?_
  refine z_iadd hX dX3_tie_13 ?_
  refine z_iconst (x := (-1)) hX dX3_tie_14 (by decide) ?_
  obtain ⟨g23, h⟩ := gd_some h
  obtain ⟨σ24, eσ24, h⟩ := bd_some h
  refine z_iast hX (kl_3_3 hk_j0).1 (kl_3_3 hk_j0).2 g23 dX3_tie_15 ?_
  refine z_ms eσ24 ?_
  refine z_aload_n hX dX3_tie_16 0 rfl ?_
  refine g_X3_24 hX hk_j0 dX3_tie_17 ?_
  refine z_iload_n hX dX3_tie_20 1 rfl ?_
  refine z_iload_n hX dX3_tie_21 2 rfl ?_
  obtain ⟨g25, h⟩ := gd_some h
  obtain ⟨σ26, eσ26, h⟩ := bd_some h
  refine z_iast hX (kl_3_4 hk_j0).1 (kl_3_4 hk_j0).2 g25 dX3_tie_22 ?_
  refine z_ms eσ26 ?_
  refine z_aload_n hX dX3_tie_23 0 rfl ?_
  refine g_X3_24 hX hk_j0 dX3_tie_24 ?_
  refine z_iload_n hX dX3_tie_27 1 rfl ?_
  refine z_iconst (x := 1) hX dX3_tie_28 (by decide) ?_
  refine z_iadd hX dX3_tie_29 ?_
  refine z_iload_n hX dX3_tie_30 2 rfl ?_
  obtain ⟨g27, h⟩ := gd_some h
  obtain ⟨σ28, eσ28, h⟩ := bd_some h
  refine z_iast hX (kl_3_4 hk_j0).1 (kl_3_4 hk_j0).2 g27 dX3_tie_31 ?_
  refine z_ms eσ28 ?_
  obtain rfl := ret1 h
  exact z_vret hR dX3_tie_32
set_option maxRecDepth 20000 in
set_option maxHeartbeats 4000000 in
theorem t_X3_loosen_29 {X : CX} {N : Nat} {k2 : (Nat → Int32 → HP → Option (HP))} {j0 : Nat} {a1 : Int32} {σ σ' : HP} (hR : OkX X RX3 cX3_loosen 2 0 0 none none σ') (hk2 : ∀ (j0 : Nat) (a1 : Int32) (σ9 : HP), kd j0 = 3 → k2 j0 a1 σ9 = some σ' → Z X σ9 2 [(0, rf X.1 j0), (1, .int a1)] []) (hk_j0 : kd j0 = 3) (h : J_X3_loosen_29 k2 N j0 a1 σ = some σ') : Z X σ 29 [(0, rf X.1 j0), (1, .int a1)] [] := by
  have hX := hR.1
  unfold J_X3_loosen_29 at h
  refine z_aload_n hX dX3_loosen_29 0 rfl ?_
  refine g_X3_24 hX hk_j0 dX3_loosen_30 ?_
  refine z_iload_n hX dX3_loosen_33 1 rfl ?_
  obtain ⟨g21, h⟩ := gd_some h
  refine z_iald hX (kl_3_4 hk_j0).1 (kl_3_4 hk_j0).2 g21 dX3_loosen_34 ?_
  rcases ite_or h with ⟨c22, h⟩ | ⟨c22, h⟩
  · refine z_if_ne_f hX 45 (by decide) dX3_loosen_35 c22 ?_
    refine z_aload_n hX dX3_loosen_38 0 rfl ?_
    refine g_X3_21 hX hk_j0 dX3_loosen_39 ?_
    refine z_iload_n hX dX3_loosen_42 1 rfl ?_
    refine z_iconst (x := 0) hX dX3_loosen_43 (by decide) ?_
    obtain ⟨g23, h⟩ := gd_some h
    obtain ⟨σ24, eσ24, h⟩ := bd_some h
    refine z_iast hX (kl_3_3 hk_j0).1 (kl_3_3 hk_j0).2 g23 dX3_loosen_44 ?_
    refine z_ms eσ24 ?_
    refine z_iinc (y := (a1 + 1)) (lv' := [(1, .int (a1 + 1)), (0, rf X.1 j0)]) hX dX3_loosen_45 1 rfl rfl (by decide) rfl ?_
    refine z_goto hX 2 (by decide) dX3_loosen_48 ?_
    refine z_sub (lv' := [(0, rf X.1 j0), (1, .int (a1 + 1))]) [1, 0] rfl ?_
    exact hk2 j0 (a1 + 1) σ24 hk_j0 h
  · refine z_if_ne_t hX 45 (by decide) dX3_loosen_35 c22 ?_
    refine z_iinc (y := (a1 + 1)) (lv' := [(1, .int (a1 + 1)), (0, rf X.1 j0)]) hX dX3_loosen_45 1 rfl rfl (by decide) rfl ?_
    refine z_goto hX 2 (by decide) dX3_loosen_48 ?_
    refine z_sub (lv' := [(0, rf X.1 j0), (1, .int (a1 + 1))]) [1, 0] rfl ?_
    exact hk2 j0 (a1 + 1) σ hk_j0 h
set_option maxRecDepth 20000 in
set_option maxHeartbeats 4000000 in
theorem t_X3_loosen_2 {X : CX} {N : Nat} {σ' : HP} (hR : OkX X RX3 cX3_loosen 2 0 0 none none σ')  : ∀ (n : Nat) (j0 : Nat) (a1 : Int32) (σ : HP), kd j0 = 3 → L_X3_loosen_2  N n j0 a1 σ = some σ' → Z X σ 2 [(0, rf X.1 j0), (1, .int a1)] [] := by
  have hX := hR.1
  intro n
  induction n with
  | zero =>
    intro j0 a1 σ hk_j0 h
    rw [L_X3_loosen_2] at h
    cases h
  | succ n ih =>
    intro j0 a1 σ hk_j0 h
    rw [L_X3_loosen_2] at h
    refine z_iload_n hX dX3_loosen_2 1 rfl ?_
    refine z_aload_n hX dX3_loosen_3 0 rfl ?_
    refine g_X3_30 hX hk_j0 dX3_loosen_4 ?_
    rcases ite_or h with ⟨c21, h⟩ | ⟨c21, h⟩
    · refine z_icmp_ge_t hX 51 (by decide) dX3_loosen_7 c21 ?_
      obtain rfl := ret1 h
      exact z_vret hR dX3_loosen_51
    · refine z_icmp_ge_f hX 51 (by decide) dX3_loosen_7 c21 ?_
      refine z_aload_n hX dX3_loosen_10 0 rfl ?_
      refine g_X3_24 hX hk_j0 dX3_loosen_11 ?_
      refine z_iload_n hX dX3_loosen_14 1 rfl ?_
      obtain ⟨g22, h⟩ := gd_some h
      refine z_iald hX (kl_3_4 hk_j0).1 (kl_3_4 hk_j0).2 g22 dX3_loosen_15 ?_
      rcases ite_or h with ⟨c23, h⟩ | ⟨c23, h⟩
      · refine z_if_le_t hX 29 (by decide) dX3_loosen_16 c23 ?_
        exact t_X3_loosen_29 hR (fun j0 a1 σ9 hk_j0 h9 => ih j0 a1 σ9 hk_j0 h9) hk_j0 h
      · refine z_if_le_f hX 29 (by decide) dX3_loosen_16 c23 ?_
        refine z_aload_n hX dX3_loosen_19 0 rfl ?_
        refine g_X3_24 hX hk_j0 dX3_loosen_20 ?_
        refine z_iload_n hX dX3_loosen_23 1 rfl ?_
        refine z_dup2 hX rfl rfl dX3_loosen_24 ?_
        obtain ⟨g24, h⟩ := gd_some h
        refine z_iald hX (kl_3_4 hk_j0).1 (kl_3_4 hk_j0).2 g24 dX3_loosen_25 ?_
        refine z_iconst (x := 1) hX dX3_loosen_26 (by decide) ?_
        refine z_isub hX dX3_loosen_27 ?_
        obtain ⟨g25, h⟩ := gd_some h
        obtain ⟨σ26, eσ26, h⟩ := bd_some h
        refine z_iast hX (kl_3_4 hk_j0).1 (kl_3_4 hk_j0).2 g25 dX3_loosen_28 ?_
        refine z_ms eσ26 ?_
        exact t_X3_loosen_29 hR (fun j0 a1 σ9 hk_j0 h9 => ih j0 a1 σ9 hk_j0 h9) hk_j0 h
set_option maxRecDepth 20000 in
set_option maxHeartbeats 4000000 in
theorem c_X3_loosen (w : WP) {N : Nat} {j0 : Nat} {σ σ' : HP} (hk_j0 : kd j0 = 3) (h : F_X3_loosen N j0 σ = some σ') : Ct w yX3_loosen cX3_loosen 2 none 0 0 [rf w j0] σ none σ' := by
  refine z_met w (by decide +kernel) (Nat.le_of_ble_eq_true rfl) (fun X hw hX => ?_)
  subst hw
  have hR : OkX X RX3 cX3_loosen 2 0 0 none none σ' := hX
  have hX := hR.1
  show Z X σ 0 [(0, rf X.1 j0)] []
  unfold F_X3_loosen at h
  refine z_iconst (x := 0) hX dX3_loosen_0 (by decide) ?_
  refine z_istore_n (lv' := [(1, .int 0), (0, rf X.1 j0)]) hX dX3_loosen_1 (by decide) rfl ?_
  refine z_sub (lv' := [(0, rf X.1 j0), (1, .int 0)]) [1, 0] rfl ?_
  exact t_X3_loosen_2 hR  N j0 0 σ hk_j0 h
set_option maxRecDepth 20000 in
set_option maxHeartbeats 4000000 in
theorem c_X7_sideOf (w : WP) {N : Nat} {a0 : Int32} {a1 : Int32} {r : Int32} {σ : HP} (h : F_X7_sideOf N a0 a1 σ = some r) : Ct w yX7_sideOf cX7_sideOf 2 (some .int) 0 0 [.int a0, .int a1] σ (some (.int r)) σ := by
  refine z_met w (by decide +kernel) (Nat.le_of_ble_eq_true rfl) (fun X hw hX => ?_)
  subst hw
  have hR : OkX X RX7 cX7_sideOf 2 0 0 (some .int) (some (.int r)) σ := hX
  have hX := hR.1
  show Z X σ 0 [(0, .int a0), (1, .int a1)] []
  unfold F_X7_sideOf at h
  refine z_iload_n hX dX7_sideOf_0 0 rfl ?_
  refine z_iload_n hX dX7_sideOf_1 1 rfl ?_
  rcases ite_or h with ⟨c21, h⟩ | ⟨c21, h⟩
  · refine z_icmp_ne_f hX 7 (by decide) dX7_sideOf_2 c21 ?_
    refine z_iconst (x := 0) hX dX7_sideOf_5 (by decide) ?_
    obtain rfl := ret1 h
    exact z_iret hR dX7_sideOf_6
  · refine z_icmp_ne_t hX 7 (by decide) dX7_sideOf_2 c21 ?_
    refine z_iload_n hX dX7_sideOf_7 0 rfl ?_
    refine z_iload_n hX dX7_sideOf_8 1 rfl ?_
    rcases ite_or h with ⟨c22, h⟩ | ⟨c22, h⟩
    · refine z_icmp_ge_t hX 16 (by decide) dX7_sideOf_9 c22 ?_
      refine z_iconst (x := 1) hX dX7_sideOf_16 (by decide) ?_
      obtain rfl := ret1 h
      exact z_iret hR dX7_sideOf_17
    · refine z_icmp_ge_f hX 16 (by decide) dX7_sideOf_9 c22 ?_
      refine z_iconst (x := (-1)) hX dX7_sideOf_12 (by decide) ?_
      refine z_goto hX 17 (by decide) dX7_sideOf_13 ?_
      obtain rfl := ret1 h
      exact z_iret hR dX7_sideOf_17
set_option maxRecDepth 20000 in
set_option maxHeartbeats 4000000 in
theorem c_X3_sideAt (w : WP) {N : Nat} {j0 : Nat} {a1 : Int32} {a2 : Int32} {r : Int32} {σ : HP} (hk_j0 : kd j0 = 3) (h : F_X3_sideAt N j0 a1 a2 σ = some r) : Ct w yX3_sideAt cX3_sideAt 3 (some .int) 1 22 [rf w j0, .int a1, .int a2] σ (some (.int r)) σ := by
  refine z_met w (by decide +kernel) (Nat.le_of_ble_eq_true rfl) (fun X hw hX => ?_)
  subst hw
  have hR : OkX X RX3 cX3_sideAt 3 1 22 (some .int) (some (.int r)) σ := hX
  have hX := hR.1
  show Z X σ 0 [(0, rf X.1 j0), (1, .int a1), (2, .int a2)] []
  unfold F_X3_sideAt at h
  refine z_aload_n hX dX3_sideAt_0 0 rfl ?_
  refine z_iload_n hX dX3_sideAt_1 1 rfl ?_
  refine z_iload_n hX dX3_sideAt_2 2 rfl ?_
  obtain ⟨r22, k21, h⟩ := bind_some h
  refine v_X3_55 hX hk_j0 (c_X3_shownAt X.1 hk_j0 k21) (Nat.le_of_ble_eq_true rfl) (Nat.le_of_ble_eq_true rfl) (Nat.le_of_ble_eq_true rfl) dX3_sideAt_3 ?_
  refine z_aload_n hX dX3_sideAt_6 0 rfl ?_
  refine z_iload_n hX dX3_sideAt_7 1 rfl ?_
  refine z_iconst (x := 1) hX dX3_sideAt_8 (by decide) ?_
  refine z_iadd hX dX3_sideAt_9 ?_
  refine z_iload_n hX dX3_sideAt_10 2 rfl ?_
  obtain ⟨r24, k23, h⟩ := bind_some h
  refine v_X3_55 hX hk_j0 (c_X3_shownAt X.1 hk_j0 k23) (Nat.le_of_ble_eq_true rfl) (Nat.le_of_ble_eq_true rfl) (Nat.le_of_ble_eq_true rfl) dX3_sideAt_11 ?_
  obtain ⟨r26, k25, h⟩ := bind_some h
  refine v_X3_59 hX (c_X7_sideOf X.1 k25) (Nat.le_of_ble_eq_true rfl) (Nat.le_of_ble_eq_true rfl) (Nat.le_of_ble_eq_true rfl) dX3_sideAt_14 ?_
  obtain rfl := ret1 h
  exact z_iret hR dX3_sideAt_17
set_option maxRecDepth 20000 in
set_option maxHeartbeats 4000000 in
theorem t_X3_wouldTangle_57 {X : CX} {N : Nat} {r : Int32} {σ : HP} (hR : OkX X RX3 cX3_wouldTangle 5 2 44 (some .boolean) (some (.int r)) σ)  (h : J_X3_wouldTangle_57  N  σ = some r) : Z X σ 57 [] [] := by
  have hX := hR.1
  unfold J_X3_wouldTangle_57 at h
  refine z_iconst (x := 1) hX dX3_wouldTangle_57 (by decide) ?_
  refine z_goto hX 62 (by decide) dX3_wouldTangle_58 ?_
  obtain rfl := ret1 h
  exact z_zret hR rfl dX3_wouldTangle_62
set_option maxRecDepth 20000 in
set_option maxHeartbeats 4000000 in
theorem c_X3_wouldTangle (w : WP) {N : Nat} {j0 : Nat} {a1 : Int32} {a2 : Int32} {r : Int32} {σ : HP} (hk_j0 : kd j0 = 3) (h : F_X3_wouldTangle N j0 a1 a2 σ = some r) : Ct w yX3_wouldTangle cX3_wouldTangle 5 (some .boolean) 2 44 [rf w j0, .int a1, .int a2] σ (some (.int r)) σ := by
  refine z_met w (by decide +kernel) (Nat.le_of_ble_eq_true rfl) (fun X hw hX => ?_)
  subst hw
  have hR : OkX X RX3 cX3_wouldTangle 5 2 44 (some .boolean) (some (.int r)) σ := hX
  have hX := hR.1
  show Z X σ 0 [(0, rf X.1 j0), (1, .int a1), (2, .int a2)] []
  unfold F_X3_wouldTangle at h
  refine z_aload_n hX dX3_wouldTangle_0 0 rfl ?_
  refine z_iload_n hX dX3_wouldTangle_1 1 rfl ?_
  refine z_iload_n hX dX3_wouldTangle_2 2 rfl ?_
  obtain ⟨r22, k21, h⟩ := bind_some h
  refine v_X3_62 hX hk_j0 (c_X3_sideAt X.1 hk_j0 k21) (Nat.le_of_ble_eq_true rfl) (Nat.le_of_ble_eq_true rfl) (Nat.le_of_ble_eq_true rfl) dX3_wouldTangle_3 ?_
  refine z_istore_n (lv' := [(3, .int r22), (0, rf X.1 j0), (1, .int a1), (2, .int a2)]) hX dX3_wouldTangle_6 (by decide) rfl ?_
  refine z_bipush (x := 10) hX dX3_wouldTangle_7 (by decide) ?_
  refine z_iload_n hX dX3_wouldTangle_9 2 rfl ?_
  refine z_iconst (x := 1) hX dX3_wouldTangle_10 (by decide) ?_
  refine z_iadd hX dX3_wouldTangle_11 ?_
  refine z_imul hX dX3_wouldTangle_12 ?_
  refine z_iload_n hX dX3_wouldTangle_13 3 rfl ?_
  refine z_aload_n hX dX3_wouldTangle_14 1 rfl ?_
  refine g_X3_18 hX hk_j0 dX3_wouldTangle_15 ?_
  refine z_iload_n hX dX3_wouldTangle_18 2 rfl ?_
  obtain ⟨g23, h⟩ := gd_some h
  refine z_iald hX (kl_3_2 hk_j0).1 (kl_3_2 hk_j0).2 g23 dX3_wouldTangle_19 ?_
  refine z_imul hX dX3_wouldTangle_20 ?_
  refine z_iadd hX dX3_wouldTangle_21 ?_
  refine z_bipush (x := 10) hX dX3_wouldTangle_22 (by decide) ?_
  refine z_iload_n hX dX3_wouldTangle_24 2 rfl ?_
  refine z_imul hX dX3_wouldTangle_25 ?_
  refine z_iload_n hX dX3_wouldTangle_26 3 rfl ?_
  refine z_aload_n hX dX3_wouldTangle_27 1 rfl ?_
  refine g_X3_18 hX hk_j0 dX3_wouldTangle_28 ?_
  refine z_iload_n hX dX3_wouldTangle_31 2 rfl ?_
  refine z_iconst (x := 1) hX dX3_wouldTangle_32 (by decide) ?_
  refine z_iadd hX dX3_wouldTangle_33 ?_
  obtain ⟨g24, h⟩ := gd_some h
  refine z_iald hX (kl_3_2 hk_j0).1 (kl_3_2 hk_j0).2 g24 dX3_wouldTangle_34 ?_
  refine z_imul hX dX3_wouldTangle_35 ?_
  refine z_iadd hX dX3_wouldTangle_36 ?_
  obtain ⟨r26, k25, h⟩ := bind_some h
  refine v_X3_59 hX (c_X7_sideOf X.1 k25) (Nat.le_of_ble_eq_true rfl) (Nat.le_of_ble_eq_true rfl) (Nat.le_of_ble_eq_true rfl) dX3_wouldTangle_37 ?_
  refine z_istore (lv' := [(4, .int r26), (3, .int r22), (0, rf X.1 j0), (1, .int a1), (2, .int a2)]) hX dX3_wouldTangle_40 (by decide) rfl ?_
  refine z_iload_n hX dX3_wouldTangle_42 1 rfl ?_
  rcases ite_or h with ⟨c27, h⟩ | ⟨c27, h⟩
  · refine z_if_eq_t hX 57 (by decide) dX3_wouldTangle_43 c27 ?_
    refine z_sub (lv' := []) [] rfl ?_
    exact t_X3_wouldTangle_57 hR   h
  · refine z_if_eq_f hX 57 (by decide) dX3_wouldTangle_43 c27 ?_
    refine z_iload hX dX3_wouldTangle_46 0 rfl ?_
    rcases ite_or h with ⟨c28, h⟩ | ⟨c28, h⟩
    · refine z_if_eq_t hX 57 (by decide) dX3_wouldTangle_48 c28 ?_
      refine z_sub (lv' := []) [] rfl ?_
      exact t_X3_wouldTangle_57 hR   h
    · refine z_if_eq_f hX 57 (by decide) dX3_wouldTangle_48 c28 ?_
      refine z_iload_n hX dX3_wouldTangle_51 1 rfl ?_
      refine z_iload hX dX3_wouldTangle_52 0 rfl ?_
      rcases ite_or h with ⟨c29, h⟩ | ⟨c29, h⟩
      · refine z_icmp_ne_f hX 61 (by decide) dX3_wouldTangle_54 c29 ?_
        refine z_sub (lv' := []) [] rfl ?_
        exact t_X3_wouldTangle_57 hR   h
      · refine z_icmp_ne_t hX 61 (by decide) dX3_wouldTangle_54 c29 ?_
        refine z_iconst (x := 0) hX dX3_wouldTangle_61 (by decide) ?_
        obtain rfl := ret1 h
        exact z_zret hR rfl dX3_wouldTangle_62
set_option maxRecDepth 20000 in
set_option maxHeartbeats 4000000 in
theorem c_X5_copyFrom (w : WP) {N : Nat} {j0 : Nat} {j1 : Nat} {σ σ' : HP} (hk_j0 : kd j0 = 5) (hk_j1 : kd j1 = 5) (h : F_X5_copyFrom N j0 j1 σ = some σ') : Ct w yX5_copyFrom cX5_copyFrom 2 none 1 18 [rf w j0, rf w j1] σ none σ' := by
  refine z_met w (by decide +kernel) (Nat.le_of_ble_eq_true rfl) (fun X hw hX => ?_)
  subst hw
  have hR : OkX X RX5 cX5_copyFrom 2 1 18 none none σ' := hX
  have hX := hR.1
  show Z X σ 0 [(0, rf X.1 j0), (1, rf X.1 j1)] []
  unfold F_X5_copyFrom at h
  refine z_aload_n hX dX5_copyFrom_0 1 rfl ?_
  refine g_X5_9 hX hk_j1 dX5_copyFrom_1 ?_
  refine z_iconst (x := 0) hX dX5_copyFrom_4 (by decide) ?_
  refine z_aload_n hX dX5_copyFrom_5 0 rfl ?_
  refine g_X5_9 hX hk_j0 dX5_copyFrom_6 ?_
  refine z_iconst (x := 0) hX dX5_copyFrom_9 (by decide) ?_
  refine z_bipush (x := 8) hX dX5_copyFrom_10 (by decide) ?_
  obtain ⟨σ21, eσ21, h⟩ := bd_some h
  refine z_copyI hX ml_X5_31 (kl_5_0 hk_j1).1 (kl_5_0 hk_j0).1 (kl_5_0 hk_j1).2 (kl_5_0 hk_j0).2 (by decide) (by decide) (by decide) (by decide) (by decide) (fun _ _ => rfl) (by decide) (Nat.le_of_ble_eq_true rfl) dX5_copyFrom_12 ?_
  refine z_ms eσ21 ?_
  refine z_aload_n hX dX5_copyFrom_15 1 rfl ?_
  refine g_X5_15 hX hk_j1 dX5_copyFrom_16 ?_
  refine z_iconst (x := 0) hX dX5_copyFrom_19 (by decide) ?_
  refine z_aload_n hX dX5_copyFrom_20 0 rfl ?_
  refine g_X5_15 hX hk_j0 dX5_copyFrom_21 ?_
  refine z_iconst (x := 0) hX dX5_copyFrom_24 (by decide) ?_
  refine z_bipush (x := 8) hX dX5_copyFrom_25 (by decide) ?_
  obtain ⟨σ22, eσ22, h⟩ := bd_some h
  refine z_copyI hX ml_X5_31 (kl_5_1 hk_j1).1 (kl_5_1 hk_j0).1 (kl_5_1 hk_j1).2 (kl_5_1 hk_j0).2 (by decide) (by decide) (by decide) (by decide) (by decide) (fun _ _ => rfl) (by decide) (Nat.le_of_ble_eq_true rfl) dX5_copyFrom_27 ?_
  refine z_ms eσ22 ?_
  refine z_aload_n hX dX5_copyFrom_30 1 rfl ?_
  refine g_X5_18 hX hk_j1 dX5_copyFrom_31 ?_
  refine z_iconst (x := 0) hX dX5_copyFrom_34 (by decide) ?_
  refine z_aload_n hX dX5_copyFrom_35 0 rfl ?_
  refine g_X5_18 hX hk_j0 dX5_copyFrom_36 ?_
  refine z_iconst (x := 0) hX dX5_copyFrom_39 (by decide) ?_
  refine z_bipush (x := 8) hX dX5_copyFrom_40 (by decide) ?_
  obtain ⟨σ23, eσ23, h⟩ := bd_some h
  refine z_copyI hX ml_X5_31 (kl_5_2 hk_j1).1 (kl_5_2 hk_j0).1 (kl_5_2 hk_j1).2 (kl_5_2 hk_j0).2 (by decide) (by decide) (by decide) (by decide) (by decide) (fun _ _ => rfl) (by decide) (Nat.le_of_ble_eq_true rfl) dX5_copyFrom_42 ?_
  refine z_ms eσ23 ?_
  refine z_aload_n hX dX5_copyFrom_45 1 rfl ?_
  refine g_X5_21 hX hk_j1 dX5_copyFrom_46 ?_
  refine z_iconst (x := 0) hX dX5_copyFrom_49 (by decide) ?_
  refine z_aload_n hX dX5_copyFrom_50 0 rfl ?_
  refine g_X5_21 hX hk_j0 dX5_copyFrom_51 ?_
  refine z_iconst (x := 0) hX dX5_copyFrom_54 (by decide) ?_
  refine z_bipush (x := 8) hX dX5_copyFrom_55 (by decide) ?_
  obtain ⟨σ24, eσ24, h⟩ := bd_some h
  refine z_copyI hX ml_X5_31 (kl_5_3 hk_j1).1 (kl_5_3 hk_j0).1 (kl_5_3 hk_j1).2 (kl_5_3 hk_j0).2 (by decide) (by decide) (by decide) (by decide) (by decide) (fun _ _ => rfl) (by decide) (Nat.le_of_ble_eq_true rfl) dX5_copyFrom_57 ?_
  refine z_ms eσ24 ?_
  refine z_aload_n hX dX5_copyFrom_60 0 rfl ?_
  refine z_aload_n hX dX5_copyFrom_61 1 rfl ?_
  refine g_X5_24 hX hk_j1 dX5_copyFrom_62 ?_
  obtain ⟨σ25, eσ25, h⟩ := bd_some h
  refine p_X5_24 hX hk_j0 dX5_copyFrom_65 ?_
  refine z_ms eσ25 ?_
  refine z_aload_n hX dX5_copyFrom_68 0 rfl ?_
  refine z_aload_n hX dX5_copyFrom_69 1 rfl ?_
  refine g_X5_28 hX hk_j1 dX5_copyFrom_70 ?_
  obtain ⟨σ26, eσ26, h⟩ := bd_some h
  refine p_X5_28 hX hk_j0 dX5_copyFrom_73 ?_
  refine z_ms eσ26 ?_
  obtain rfl := ret1 h
  exact z_vret hR dX5_copyFrom_76
set_option maxRecDepth 20000 in
set_option maxHeartbeats 4000000 in
theorem c_X6_copyFrom (w : WP) {N : Nat} {j0 : Nat} {j1 : Nat} {σ σ' : HP} (hk_j0 : kd j0 = 6) (hk_j1 : kd j1 = 6) (h : F_X6_copyFrom N j0 j1 σ = some σ') : Ct w yX6_copyFrom cX6_copyFrom 2 none 1 18 [rf w j0, rf w j1] σ none σ' := by
  refine z_met w (by decide +kernel) (Nat.le_of_ble_eq_true rfl) (fun X hw hX => ?_)
  subst hw
  have hR : OkX X RX6 cX6_copyFrom 2 1 18 none none σ' := hX
  have hX := hR.1
  show Z X σ 0 [(0, rf X.1 j0), (1, rf X.1 j1)] []
  unfold F_X6_copyFrom at h
  refine z_aload_n hX dX6_copyFrom_0 1 rfl ?_
  refine g_X6_9 hX hk_j1 dX6_copyFrom_1 ?_
  refine z_iconst (x := 0) hX dX6_copyFrom_4 (by decide) ?_
  refine z_aload_n hX dX6_copyFrom_5 0 rfl ?_
  refine g_X6_9 hX hk_j0 dX6_copyFrom_6 ?_
  refine z_iconst (x := 0) hX dX6_copyFrom_9 (by decide) ?_
  refine z_bipush (x := 12) hX dX6_copyFrom_10 (by decide) ?_
  obtain ⟨g21, h⟩ := gd_some h
  obtain ⟨σ22, eσ22, h⟩ := bd_some h
  refine z_copyC hX ml_X6_19 (kl_6_0 hk_j1).1 (kl_6_0 hk_j0).1 (kl_6_0 hk_j1).2 (kl_6_0 hk_j0).2 (by decide) (by decide) (by decide) (by decide) (by decide) g21 (by decide) (Nat.le_of_ble_eq_true rfl) dX6_copyFrom_12 ?_
  refine z_ms eσ22 ?_
  refine z_aload_n hX dX6_copyFrom_15 0 rfl ?_
  refine z_aload_n hX dX6_copyFrom_16 1 rfl ?_
  refine g_X6_15 hX hk_j1 dX6_copyFrom_17 ?_
  obtain ⟨σ23, eσ23, h⟩ := bd_some h
  refine p_X6_15 hX hk_j0 dX6_copyFrom_20 ?_
  refine z_ms eσ23 ?_
  obtain rfl := ret1 h
  exact z_vret hR dX6_copyFrom_23
set_option maxRecDepth 20000 in
set_option maxHeartbeats 4000000 in
theorem c_X4_copyFrom (w : WP) {N : Nat} {j0 : Nat} {j1 : Nat} {σ σ' : HP} (hk_j0 : kd j0 = 4) (hk_j1 : kd j1 = 4) (h : F_X4_copyFrom N j0 j1 σ = some σ') : Ct w yX4_copyFrom cX4_copyFrom 2 none 2 39 [rf w j0, rf w j1] σ none σ' := by
  refine z_met w (by decide +kernel) (Nat.le_of_ble_eq_true rfl) (fun X hw hX => ?_)
  subst hw
  have hR : OkX X RX4 cX4_copyFrom 2 2 39 none none σ' := hX
  have hX := hR.1
  show Z X σ 0 [(0, rf X.1 j0), (1, rf X.1 j1)] []
  unfold F_X4_copyFrom at h
  refine z_aload_n hX dX4_copyFrom_0 0 rfl ?_
  refine g_X4_12 hX hk_j0 dX4_copyFrom_1 ?_
  refine z_aload_n hX dX4_copyFrom_4 1 rfl ?_
  refine g_X4_12 hX hk_j1 dX4_copyFrom_5 ?_
  obtain ⟨σ22, k21, h⟩ := bind_some h
  refine v_X4_59 hX (kl_4_0 hk_j0).1 (c_X3_copyFrom X.1 (kl_4_0 hk_j0).1 (kl_4_0 hk_j1).1 k21) (Nat.le_of_ble_eq_true rfl) (Nat.le_of_ble_eq_true rfl) (Nat.le_of_ble_eq_true rfl) dX4_copyFrom_8 ?_
  refine z_aload_n hX dX4_copyFrom_11 0 rfl ?_
  refine g_X4_21 hX hk_j0 dX4_copyFrom_12 ?_
  refine z_aload_n hX dX4_copyFrom_15 1 rfl ?_
  refine g_X4_21 hX hk_j1 dX4_copyFrom_16 ?_
  obtain ⟨σ24, k23, h⟩ := bind_some h
  refine v_X4_63 hX (kl_4_1 hk_j0).1 (c_X1_copyFrom X.1 (kl_4_1 hk_j0).1 (kl_4_1 hk_j1).1 k23) (Nat.le_of_ble_eq_true rfl) (Nat.le_of_ble_eq_true rfl) (Nat.le_of_ble_eq_true rfl) dX4_copyFrom_19 ?_
  refine z_aload_n hX dX4_copyFrom_22 0 rfl ?_
  refine g_X4_28 hX hk_j0 dX4_copyFrom_23 ?_
  refine z_aload_n hX dX4_copyFrom_26 1 rfl ?_
  refine g_X4_28 hX hk_j1 dX4_copyFrom_27 ?_
  obtain ⟨σ26, k25, h⟩ := bind_some h
  refine v_X4_66 hX (kl_4_2 hk_j0).1 (c_X5_copyFrom X.1 (kl_4_2 hk_j0).1 (kl_4_2 hk_j1).1 k25) (Nat.le_of_ble_eq_true rfl) (Nat.le_of_ble_eq_true rfl) (Nat.le_of_ble_eq_true rfl) dX4_copyFrom_30 ?_
  refine z_aload_n hX dX4_copyFrom_33 0 rfl ?_
  refine g_X4_35 hX hk_j0 dX4_copyFrom_34 ?_
  refine z_aload_n hX dX4_copyFrom_37 1 rfl ?_
  refine g_X4_35 hX hk_j1 dX4_copyFrom_38 ?_
  obtain ⟨σ28, k27, h⟩ := bind_some h
  refine v_X4_69 hX (kl_4_3 hk_j0).1 (c_X6_copyFrom X.1 (kl_4_3 hk_j0).1 (kl_4_3 hk_j1).1 k27) (Nat.le_of_ble_eq_true rfl) (Nat.le_of_ble_eq_true rfl) (Nat.le_of_ble_eq_true rfl) dX4_copyFrom_41 ?_
  refine z_aload_n hX dX4_copyFrom_44 0 rfl ?_
  refine z_aload_n hX dX4_copyFrom_45 1 rfl ?_
  refine g_X4_39 hX hk_j1 dX4_copyFrom_46 ?_
  obtain ⟨σ29, eσ29, h⟩ := bd_some h
  refine p_X4_39 hX hk_j0 dX4_copyFrom_49 ?_
  refine z_ms eσ29 ?_
  refine z_aload_n hX dX4_copyFrom_52 0 rfl ?_
  refine z_aload_n hX dX4_copyFrom_53 1 rfl ?_
  refine g_X4_43 hX hk_j1 dX4_copyFrom_54 ?_
  obtain ⟨σ30, eσ30, h⟩ := bd_some h
  refine p_X4_43 hX hk_j0 dX4_copyFrom_57 ?_
  refine z_ms eσ30 ?_
  refine z_aload_n hX dX4_copyFrom_60 0 rfl ?_
  refine z_aload_n hX dX4_copyFrom_61 1 rfl ?_
  refine g_X4_46 hX hk_j1 dX4_copyFrom_62 ?_
  obtain ⟨σ31, eσ31, h⟩ := bd_some h
  refine p_X4_46 hX hk_j0 dX4_copyFrom_65 ?_
  refine z_ms eσ31 ?_
  refine z_aload_n hX dX4_copyFrom_68 0 rfl ?_
  refine z_aload_n hX dX4_copyFrom_69 1 rfl ?_
  refine g_X4_49 hX hk_j1 dX4_copyFrom_70 ?_
  obtain ⟨g32, h⟩ := gd_some h
  obtain ⟨σ33, eσ33, h⟩ := bd_some h
  refine p_X4_49 hX hk_j0 g32 dX4_copyFrom_73 ?_
  refine z_ms eσ33 ?_
  refine z_aload_n hX dX4_copyFrom_76 0 rfl ?_
  refine z_aload_n hX dX4_copyFrom_77 1 rfl ?_
  refine g_X4_53 hX hk_j1 dX4_copyFrom_78 ?_
  obtain ⟨σ34, eσ34, h⟩ := bd_some h
  refine p_X4_53 hX hk_j0 dX4_copyFrom_81 ?_
  refine z_ms eσ34 ?_
  refine z_aload_n hX dX4_copyFrom_84 0 rfl ?_
  refine z_aload_n hX dX4_copyFrom_85 1 rfl ?_
  refine g_X4_56 hX hk_j1 dX4_copyFrom_86 ?_
  obtain ⟨σ35, eσ35, h⟩ := bd_some h
  refine p_X4_56 hX hk_j0 dX4_copyFrom_89 ?_
  refine z_ms eσ35 ?_
  obtain rfl := ret1 h
  exact z_vret hR dX4_copyFrom_92
set_option maxRecDepth 20000 in
set_option maxHeartbeats 4000000 in
theorem c_X7_asNumber (w : WP) {N : Nat} {a0 : Int32} {r : Int32} {σ : HP} (h : F_X7_asNumber N a0 σ = some r) : Ct w yX7_asNumber cX7_asNumber 1 (some .int) 0 0 [.int a0] σ (some (.int r)) σ := by
  refine z_met w (by decide +kernel) (Nat.le_of_ble_eq_true rfl) (fun X hw hX => ?_)
  subst hw
  have hR : OkX X RX7 cX7_asNumber 1 0 0 (some .int) (some (.int r)) σ := hX
  have hX := hR.1
  show Z X σ 0 [(0, .int a0)] []
  unfold F_X7_asNumber at h
  refine z_iload_n hX dX7_asNumber_0 0 rfl ?_
  rcases ite_or h with ⟨c21, h⟩ | ⟨c21, h⟩
  · refine z_if_eq_t hX 8 (by decide) dX7_asNumber_1 c21 ?_
    refine z_iconst (x := 0) hX dX7_asNumber_8 (by decide) ?_
    obtain rfl := ret1 h
    exact z_iret hR dX7_asNumber_9
  · refine z_if_eq_f hX 8 (by decide) dX7_asNumber_1 c21 ?_
    refine z_iconst (x := 1) hX dX7_asNumber_4 (by decide) ?_
    refine z_goto hX 9 (by decide) dX7_asNumber_5 ?_
    obtain rfl := ret1 h
    exact z_iret hR dX7_asNumber_9
set_option maxRecDepth 20000 in
set_option maxHeartbeats 4000000 in
theorem t_X5_add_4 {X : CX} {N : Nat} {σ' : HP} (hR : OkX X RX5 cX5_add 6 1 14 none none σ')  : ∀ (n : Nat) (j0 : Nat) (a1 : Int32) (a2 : Int32) (a3 : Int32) (a4 : Int32) (a5 : Int32) (σ : HP), kd j0 = 5 → L_X5_add_4  N n j0 a1 a2 a3 a4 a5 σ = some σ' → Z X σ 4 [(0, rf X.1 j0), (1, .int a1), (2, .int a2), (3, .int a3), (4, .int a4), (5, .int a5)] [] := by
  have hX := hR.1
  intro n
  induction n with
  | zero =>
    intro j0 a1 a2 a3 a4 a5 σ hk_j0 h
    rw [L_X5_add_4] at h
    cases h
  | succ n ih =>
    intro j0 a1 a2 a3 a4 a5 σ hk_j0 h
    rw [L_X5_add_4] at h
    refine z_iload hX dX5_add_4 5 rfl ?_
    rcases ite_or h with ⟨c21, h⟩ | ⟨c21, h⟩
    · refine z_if_le_t hX 79 (by decide) dX5_add_6 c21 ?_
      refine z_aload_n hX dX5_add_79 0 rfl ?_
      refine g_X5_9 hX hk_j0 dX5_add_80 ?_
      refine z_iconst (x := 0) hX dX5_add_83 (by decide) ?_
      refine z_iload_n hX dX5_add_84 1 rfl ?_
      obtain ⟨σ22, eσ22, h⟩ := bd_some h
      refine z_iast hX (kl_5_0 hk_j0).1 (kl_5_0 hk_j0).2 (by unfold vp_in; decide) dX5_add_85 ?_
      refine z_ms eσ22 ?_
      refine z_aload_n hX dX5_add_86 0 rfl ?_
      refine g_X5_15 hX hk_j0 dX5_add_87 ?_
      refine z_iconst (x := 0) hX dX5_add_90 (by decide) ?_
      refine z_iload_n hX dX5_add_91 2 rfl ?_
      obtain ⟨σ23, eσ23, h⟩ := bd_some h
      refine z_iast hX (kl_5_1 hk_j0).1 (kl_5_1 hk_j0).2 (by unfold vp_in; decide) dX5_add_92 ?_
      refine z_ms eσ23 ?_
      refine z_aload_n hX dX5_add_93 0 rfl ?_
      refine g_X5_18 hX hk_j0 dX5_add_94 ?_
      refine z_iconst (x := 0) hX dX5_add_97 (by decide) ?_
      refine z_iload_n hX dX5_add_98 3 rfl ?_
      obtain ⟨σ24, eσ24, h⟩ := bd_some h
      refine z_iast hX (kl_5_2 hk_j0).1 (kl_5_2 hk_j0).2 (by unfold vp_in; decide) dX5_add_99 ?_
      refine z_ms eσ24 ?_
      refine z_aload_n hX dX5_add_100 0 rfl ?_
      refine g_X5_21 hX hk_j0 dX5_add_101 ?_
      refine z_iconst (x := 0) hX dX5_add_104 (by decide) ?_
      refine z_iload hX dX5_add_105 4 rfl ?_
      obtain ⟨σ25, eσ25, h⟩ := bd_some h
      refine z_iast hX (kl_5_3 hk_j0).1 (kl_5_3 hk_j0).2 (by unfold vp_in; decide) dX5_add_107 ?_
      refine z_ms eσ25 ?_
      refine z_aload_n hX dX5_add_108 0 rfl ?_
      refine z_aload_n hX dX5_add_109 0 rfl ?_
      refine g_X5_24 hX hk_j0 dX5_add_110 ?_
      refine z_iconst (x := 1) hX dX5_add_113 (by decide) ?_
      refine z_iadd hX dX5_add_114 ?_
      refine z_bipush (x := 8) hX dX5_add_115 (by decide) ?_
      refine z_min hX ml_X5_37 (by decide) (Nat.le_of_ble_eq_true rfl) dX5_add_117 ?_
      obtain ⟨σ26, eσ26, h⟩ := bd_some h
      refine p_X5_24 hX hk_j0 dX5_add_120 ?_
      refine z_ms eσ26 ?_
      refine z_aload_n hX dX5_add_123 0 rfl ?_
      refine z_dup hX rfl dX5_add_124 ?_
      refine g_X5_28 hX hk_j0 dX5_add_125 ?_
      refine z_iconst (x := 1) hX dX5_add_128 (by decide) ?_
      refine z_iadd hX dX5_add_129 ?_
      obtain ⟨σ27, eσ27, h⟩ := bd_some h
      refine p_X5_28 hX hk_j0 dX5_add_130 ?_
      refine z_ms eσ27 ?_
      obtain rfl := ret1 h
      exact z_vret hR dX5_add_133
    · refine z_if_le_f hX 79 (by decide) dX5_add_6 c21 ?_
      refine z_aload_n hX dX5_add_9 0 rfl ?_
      refine g_X5_9 hX hk_j0 dX5_add_10 ?_
      refine z_iload hX dX5_add_13 5 rfl ?_
      refine z_aload_n hX dX5_add_15 0 rfl ?_
      refine g_X5_9 hX hk_j0 dX5_add_16 ?_
      refine z_iload hX dX5_add_19 5 rfl ?_
      refine z_iconst (x := 1) hX dX5_add_21 (by decide) ?_
      refine z_isub hX dX5_add_22 ?_
      obtain ⟨g28, h⟩ := gd_some h
      refine z_iald hX (kl_5_0 hk_j0).1 (kl_5_0 hk_j0).2 g28 dX5_add_23 ?_
      obtain ⟨g29, h⟩ := gd_some h
      obtain ⟨σ30, eσ30, h⟩ := bd_some h
      refine z_iast hX (kl_5_0 hk_j0).1 (kl_5_0 hk_j0).2 g29 dX5_add_24 ?_
      refine z_ms eσ30 ?_
      refine z_aload_n hX dX5_add_25 0 rfl ?_
      refine g_X5_15 hX hk_j0 dX5_add_26 ?_
      refine z_iload hX dX5_add_29 5 rfl ?_
      refine z_aload_n hX dX5_add_31 0 rfl ?_
      refine g_X5_15 hX hk_j0 dX5_add_32 ?_
      refine z_iload hX dX5_add_35 5 rfl ?_
      refine z_iconst (x := 1) hX dX5_add_37 (by decide) ?_
      refine z_isub hX dX5_add_38 ?_
      obtain ⟨g31, h⟩ := gd_some h
      refine z_iald hX (kl_5_1 hk_j0).1 (kl_5_1 hk_j0).2 g31 dX5_add_39 ?_
      obtain ⟨g32, h⟩ := gd_some h
      obtain ⟨σ33, eσ33, h⟩ := bd_some h
      refine z_iast hX (kl_5_1 hk_j0).1 (kl_5_1 hk_j0).2 g32 dX5_add_40 ?_
      refine z_ms eσ33 ?_
      refine z_aload_n hX dX5_add_41 0 rfl ?_
      refine g_X5_18 hX hk_j0 dX5_add_42 ?_
      refine z_iload hX dX5_add_45 5 rfl ?_
      refine z_aload_n hX dX5_add_47 0 rfl ?_
      refine g_X5_18 hX hk_j0 dX5_add_48 ?_
      refine z_iload hX dX5_add_51 5 rfl ?_
      refine z_iconst (x := 1) hX dX5_add_53 (by decide) ?_
      refine z_isub hX dX5_add_54 ?_
      obtain ⟨g34, h⟩ := gd_some h
      refine z_iald hX (kl_5_2 hk_j0).1 (kl_5_2 hk_j0).2 g34 dX5_add_55 ?_
      obtain ⟨g35, h⟩ := gd_some h
      obtain ⟨σ36, eσ36, h⟩ := bd_some h
      refine z_iast hX (kl_5_2 hk_j0).1 (kl_5_2 hk_j0).2 g35 dX5_add_56 ?_
      refine z_ms eσ36 ?_
      refine z_aload_n hX dX5_add_57 0 rfl ?_
      refine g_X5_21 hX hk_j0 dX5_add_58 ?_
      refine z_iload hX dX5_add_61 5 rfl ?_
      refine z_aload_n hX dX5_add_63 0 rfl ?_
      refine g_X5_21 hX hk_j0 dX5_add_64 ?_
      refine z_iload hX dX5_add_67 5 rfl ?_
      refine z_iconst (x := 1) hX dX5_add_69 (by decide) ?_
      refine z_isub hX dX5_add_70 ?_
      obtain ⟨g37, h⟩ := gd_some h
      refine z_iald hX (kl_5_3 hk_j0).1 (kl_5_3 hk_j0).2 g37 dX5_add_71 ?_
      obtain ⟨g38, h⟩ := gd_some h
      obtain ⟨σ39, eσ39, h⟩ := bd_some h
      refine z_iast hX (kl_5_3 hk_j0).1 (kl_5_3 hk_j0).2 g38 dX5_add_72 ?_
      refine z_ms eσ39 ?_
      refine z_iinc (y := (a5 + (-1))) (lv' := [(5, .int (a5 + (-1))), (0, rf X.1 j0), (1, .int a1), (2, .int a2), (3, .int a3), (4, .int a4)]) hX dX5_add_73 5 rfl rfl (by decide) rfl ?_
      refine z_goto hX 4 (by decide) dX5_add_76 ?_
      refine z_sub (lv' := [(0, rf X.1 j0), (1, .int a1), (2, .int a2), (3, .int a3), (4, .int a4), (5, .int (a5 + (-1)))]) [1, 2, 3, 4, 5, 0] rfl ?_
      exact ih j0 a1 a2 a3 a4 (a5 + (-1)) σ39 hk_j0 h
set_option maxRecDepth 20000 in
set_option maxHeartbeats 4000000 in
theorem c_X5_add (w : WP) {N : Nat} {j0 : Nat} {a1 : Int32} {a2 : Int32} {a3 : Int32} {a4 : Int32} {σ σ' : HP} (hk_j0 : kd j0 = 5) (h : F_X5_add N j0 a1 a2 a3 a4 σ = some σ') : Ct w yX5_add cX5_add 6 none 1 14 [rf w j0, .int a1, .int a2, .int a3, .int a4] σ none σ' := by
  refine z_met w (by decide +kernel) (Nat.le_of_ble_eq_true rfl) (fun X hw hX => ?_)
  subst hw
  have hR : OkX X RX5 cX5_add 6 1 14 none none σ' := hX
  have hX := hR.1
  show Z X σ 0 [(0, rf X.1 j0), (1, .int a1), (2, .int a2), (3, .int a3), (4, .int a4)] []
  unfold F_X5_add at h
  refine z_bipush (x := 7) hX dX5_add_0 (by decide) ?_
  refine z_istore (lv' := [(5, .int 7), (0, rf X.1 j0), (1, .int a1), (2, .int a2), (3, .int a3), (4, .int a4)]) hX dX5_add_2 (by decide) rfl ?_
  refine z_sub (lv' := [(0, rf X.1 j0), (1, .int a1), (2, .int a2), (3, .int a3), (4, .int a4), (5, .int 7)]) [1, 2, 3, 4, 5, 0] rfl ?_
  exact t_X5_add_4 hR  N j0 a1 a2 a3 a4 7 σ hk_j0 h
set_option maxRecDepth 20000 in
set_option maxHeartbeats 4000000 in
theorem c_X4_tangleAt (w : WP) {N : Nat} {j0 : Nat} {a1 : Int32} {a2 : Int32} {σ σ' : HP} (hk_j0 : kd j0 = 4) (h : F_X4_tangleAt N j0 a1 a2 σ = some σ') : Ct w yX4_tangleAt cX4_tangleAt 3 none 2 39 [rf w j0, .int a1, .int a2] σ none σ' := by
  refine z_met w (by decide +kernel) (Nat.le_of_ble_eq_true rfl) (fun X hw hX => ?_)
  subst hw
  have hR : OkX X RX4 cX4_tangleAt 3 2 39 none none σ' := hX
  have hX := hR.1
  show Z X σ 0 [(0, rf X.1 j0), (1, .int a1), (2, .int a2)] []
  unfold F_X4_tangleAt at h
  refine z_aload_n hX dX4_tangleAt_0 0 rfl ?_
  refine g_X4_12 hX hk_j0 dX4_tangleAt_1 ?_
  refine z_iload_n hX dX4_tangleAt_4 1 rfl ?_
  refine z_aload_n hX dX4_tangleAt_5 0 rfl ?_
  refine g_X4_53 hX hk_j0 dX4_tangleAt_6 ?_
  obtain ⟨σ22, k21, h⟩ := bind_some h
  refine v_X4_124 hX (kl_4_0 hk_j0).1 (c_X3_tie X.1 (kl_4_0 hk_j0).1 k21) (Nat.le_of_ble_eq_true rfl) (Nat.le_of_ble_eq_true rfl) (Nat.le_of_ble_eq_true rfl) dX4_tangleAt_9 ?_
  refine z_aload_n hX dX4_tangleAt_12 0 rfl ?_
  refine g_X4_28 hX hk_j0 dX4_tangleAt_13 ?_
  refine z_aload_n hX dX4_tangleAt_16 0 rfl ?_
  refine g_X4_39 hX hk_j0 dX4_tangleAt_17 ?_
  refine z_aload_n hX dX4_tangleAt_20 0 rfl ?_
  refine g_X4_12 hX hk_j0 dX4_tangleAt_21 ?_
  refine g_X4_128 hX (kl_4_0 hk_j0).1 dX4_tangleAt_24 ?_
  refine z_iload_n hX dX4_tangleAt_27 1 rfl ?_
  obtain ⟨g23, h⟩ := gd_some h
  refine z_iald hX (kl_3_0 (kl_4_0 hk_j0).1).1 (kl_3_0 (kl_4_0 hk_j0).1).2 g23 dX4_tangleAt_28 ?_
  refine z_aload_n hX dX4_tangleAt_29 0 rfl ?_
  refine g_X4_12 hX hk_j0 dX4_tangleAt_30 ?_
  refine g_X4_128 hX (kl_4_0 hk_j0).1 dX4_tangleAt_33 ?_
  refine z_iload_n hX dX4_tangleAt_36 1 rfl ?_
  refine z_iconst (x := 1) hX dX4_tangleAt_37 (by decide) ?_
  refine z_iadd hX dX4_tangleAt_38 ?_
  obtain ⟨g24, h⟩ := gd_some h
  refine z_iald hX (kl_3_0 (kl_4_0 hk_j0).1).1 (kl_3_0 (kl_4_0 hk_j0).1).2 g24 dX4_tangleAt_39 ?_
  refine z_iload_n hX dX4_tangleAt_40 2 rfl ?_
  obtain ⟨r26, k25, h⟩ := bind_some h
  refine v_X4_131 hX (c_X7_asNumber X.1 k25) (Nat.le_of_ble_eq_true rfl) (Nat.le_of_ble_eq_true rfl) (Nat.le_of_ble_eq_true rfl) dX4_tangleAt_41 ?_
  obtain ⟨σ28, k27, h⟩ := bind_some h
  refine v_X4_135 hX (kl_4_2 hk_j0).1 (c_X5_add X.1 (kl_4_2 hk_j0).1 k27) (Nat.le_of_ble_eq_true rfl) (Nat.le_of_ble_eq_true rfl) (Nat.le_of_ble_eq_true rfl) dX4_tangleAt_44 ?_
  obtain rfl := ret1 h
  exact z_vret hR dX4_tangleAt_47
set_option maxRecDepth 20000 in
set_option maxHeartbeats 4000000 in
theorem t_X4_turnWind_21 {X : CX} {N : Nat} {r : Int32} {σ' : HP} (hR : OkX X RX4 cX4_turnWind 6 3 61 (some .int) (some (.int r)) σ')  : ∀ (n : Nat) (j0 : Nat) (a3 : Int32) (a4 : Int32) (a5 : Int32) (σ : HP), kd j0 = 4 → L_X4_turnWind_21  N n j0 a3 a4 a5 σ = some (r, σ') → Z X σ 21 [(0, rf X.1 j0), (3, .int a3), (4, .int a4), (5, .int a5)] [] := by
  have hX := hR.1
  intro n
  induction n with
  | zero =>
    intro j0 a3 a4 a5 σ hk_j0 h
    rw [L_X4_turnWind_21] at h
    cases h
  | succ n ih =>
    intro j0 a3 a4 a5 σ hk_j0 h
    rw [L_X4_turnWind_21] at h
    refine z_iload hX dX4_turnWind_21 3 rfl ?_
    refine z_aload_n hX dX4_turnWind_23 0 rfl ?_
    refine g_X4_12 hX hk_j0 dX4_turnWind_24 ?_
    refine g_X4_110 hX (kl_4_0 hk_j0).1 dX4_turnWind_27 ?_
    refine z_iconst (x := 1) hX dX4_turnWind_30 (by decide) ?_
    refine z_isub hX dX4_turnWind_31 ?_
    rcases ite_or h with ⟨c21, h⟩ | ⟨c21, h⟩
    · refine z_icmp_ge_t hX 89 (by decide) dX4_turnWind_32 c21 ?_
      refine z_iload hX dX4_turnWind_89 2 rfl ?_
      obtain ⟨rfl, rfl⟩ := ret2 h
      exact z_iret hR dX4_turnWind_91
    · refine z_icmp_ge_f hX 89 (by decide) dX4_turnWind_32 c21 ?_
      refine z_aload_n hX dX4_turnWind_35 0 rfl ?_
      refine g_X4_12 hX hk_j0 dX4_turnWind_36 ?_
      refine z_iload hX dX4_turnWind_39 3 rfl ?_
      obtain ⟨r23, k22, h⟩ := bind_some h
      refine v_X4_113 hX (kl_4_0 hk_j0).1 (c_X3_isPairFree X.1 (kl_4_0 hk_j0).1 k22) (Nat.le_of_ble_eq_true rfl) (Nat.le_of_ble_eq_true rfl) (Nat.le_of_ble_eq_true rfl) dX4_turnWind_41 ?_
      rcases ite_or h with ⟨c24, h⟩ | ⟨c24, h⟩
      · refine z_if_eq_t hX 83 (by decide) dX4_turnWind_44 c24 ?_
        refine z_iinc (y := (a5 + 1)) (lv' := [(5, .int (a5 + 1)), (0, rf X.1 j0), (3, .int a3), (4, .int a4)]) hX dX4_turnWind_83 3 rfl rfl (by decide) rfl ?_
        refine z_goto hX 21 (by decide) dX4_turnWind_86 ?_
        refine z_sub (lv' := [(0, rf X.1 j0), (3, .int a3), (4, .int a4), (5, .int (a5 + 1))]) [1, 2, 3, 0] rfl ?_
        exact ih j0 a3 a4 (a5 + 1) σ hk_j0 h
      · refine z_if_eq_f hX 83 (by decide) dX4_turnWind_44 c24 ?_
        refine z_aload_n hX dX4_turnWind_47 0 rfl ?_
        refine g_X4_12 hX hk_j0 dX4_turnWind_48 ?_
        refine z_iload hX dX4_turnWind_51 3 rfl ?_
        refine z_iload_n hX dX4_turnWind_53 1 rfl ?_
        obtain ⟨r26, k25, h⟩ := bind_some h
        refine v_X4_117 hX (kl_4_0 hk_j0).1 (c_X3_sideAt X.1 (kl_4_0 hk_j0).1 k25) (Nat.le_of_ble_eq_true rfl) (Nat.le_of_ble_eq_true rfl) (Nat.le_of_ble_eq_true rfl) dX4_turnWind_54 ?_
        refine z_aload_n hX dX4_turnWind_57 0 rfl ?_
        refine g_X4_12 hX hk_j0 dX4_turnWind_58 ?_
        refine z_iload hX dX4_turnWind_61 3 rfl ?_
        refine z_aload_n hX dX4_turnWind_63 0 rfl ?_
        obtain ⟨r28, k27, h⟩ := bind_some h
        refine v_X4_72 hX hk_j0 (c_X4_drift X.1 hk_j0 k27) (Nat.le_of_ble_eq_true rfl) (Nat.le_of_ble_eq_true rfl) (Nat.le_of_ble_eq_true rfl) dX4_turnWind_64 ?_
        obtain ⟨r30, k29, h⟩ := bind_some h
        refine v_X4_117 hX (kl_4_0 hk_j0).1 (c_X3_sideAt X.1 (kl_4_0 hk_j0).1 k29) (Nat.le_of_ble_eq_true rfl) (Nat.le_of_ble_eq_true rfl) (Nat.le_of_ble_eq_true rfl) dX4_turnWind_67 ?_
        rcases ite_or h with ⟨c31, h⟩ | ⟨c31, h⟩
        · refine z_icmp_eq_t hX 83 (by decide) dX4_turnWind_70 c31 ?_
          refine z_iinc (y := (a5 + 1)) (lv' := [(5, .int (a5 + 1)), (0, rf X.1 j0), (3, .int a3), (4, .int a4)]) hX dX4_turnWind_83 3 rfl rfl (by decide) rfl ?_
          refine z_goto hX 21 (by decide) dX4_turnWind_86 ?_
          refine z_sub (lv' := [(0, rf X.1 j0), (3, .int a3), (4, .int a4), (5, .int (a5 + 1))]) [1, 2, 3, 0] rfl ?_
          exact ih j0 a3 a4 (a5 + 1) σ hk_j0 h
        · refine z_icmp_eq_f hX 83 (by decide) dX4_turnWind_70 c31 ?_
          refine z_aload_n hX dX4_turnWind_73 0 rfl ?_
          refine z_iload hX dX4_turnWind_74 3 rfl ?_
          refine z_iconst (x := 0) hX dX4_turnWind_76 (by decide) ?_
          obtain ⟨σ33, k32, h⟩ := bind_some h
          refine v_X4_84 hX hk_j0 (c_X4_tangleAt X.1 hk_j0 k32) (Nat.le_of_ble_eq_true rfl) (Nat.le_of_ble_eq_true rfl) (Nat.le_of_ble_eq_true rfl) dX4_turnWind_77 ?_
          refine z_iinc (y := (a4 + 1)) (lv' := [(4, .int (a4 + 1)), (0, rf X.1 j0), (3, .int a3), (5, .int a5)]) hX dX4_turnWind_80 2 rfl rfl (by decide) rfl ?_
          refine z_iinc (y := (a5 + 1)) (lv' := [(5, .int (a5 + 1)), (4, .int (a4 + 1)), (0, rf X.1 j0), (3, .int a3)]) hX dX4_turnWind_83 3 rfl rfl (by decide) rfl ?_
          refine z_goto hX 21 (by decide) dX4_turnWind_86 ?_
          refine z_sub (lv' := [(0, rf X.1 j0), (3, .int a3), (4, .int (a4 + 1)), (5, .int (a5 + 1))]) [2, 3, 1, 0] rfl ?_
          exact ih j0 a3 (a4 + 1) (a5 + 1) σ33 hk_j0 h
set_option maxRecDepth 20000 in
set_option maxHeartbeats 4000000 in
theorem c_X4_turnWind (w : WP) {N : Nat} {j0 : Nat} {a1 : Int32} {a2 : Int32} {r : Int32} {σ σ' : HP} (hk_j0 : kd j0 = 4) (h : F_X4_turnWind N j0 a1 a2 σ = some (r, σ')) : Ct w yX4_turnWind cX4_turnWind 6 (some .int) 3 61 [rf w j0, .int a1, .int a2] σ (some (.int r)) σ' := by
  refine z_met w (by decide +kernel) (Nat.le_of_ble_eq_true rfl) (fun X hw hX => ?_)
  subst hw
  have hR : OkX X RX4 cX4_turnWind 6 3 61 (some .int) (some (.int r)) σ' := hX
  have hX := hR.1
  show Z X σ 0 [(0, rf X.1 j0), (1, .int a1), (2, .int a2)] []
  unfold F_X4_turnWind at h
  refine z_aload_n hX dX4_turnWind_0 0 rfl ?_
  obtain ⟨r22, k21, h⟩ := bind_some h
  refine v_X4_72 hX hk_j0 (c_X4_drift X.1 hk_j0 k21) (Nat.le_of_ble_eq_true rfl) (Nat.le_of_ble_eq_true rfl) (Nat.le_of_ble_eq_true rfl) dX4_turnWind_1 ?_
  refine z_istore_n (lv' := [(3, .int r22), (0, rf X.1 j0), (1, .int a1), (2, .int a2)]) hX dX4_turnWind_4 (by decide) rfl ?_
  refine z_aload_n hX dX4_turnWind_5 1 rfl ?_
  refine z_iload_n hX dX4_turnWind_6 2 rfl ?_
  obtain ⟨σ23, eσ23, h⟩ := bd_some h
  refine p_X4_43 hX hk_j0 dX4_turnWind_7 ?_
  refine z_ms eσ23 ?_
  refine z_aload_n hX dX4_turnWind_10 1 rfl ?_
  refine z_iload_n hX dX4_turnWind_11 3 rfl ?_
  obtain ⟨σ24, eσ24, h⟩ := bd_some h
  refine p_X4_46 hX hk_j0 dX4_turnWind_12 ?_
  refine z_ms eσ24 ?_
  refine z_iconst (x := 0) hX dX4_turnWind_15 (by decide) ?_
  refine z_istore (lv' := [(4, .int 0), (3, .int r22), (0, rf X.1 j0), (1, .int a1), (2, .int a2)]) hX dX4_turnWind_16 (by decide) rfl ?_
  refine z_iconst (x := 0) hX dX4_turnWind_18 (by decide) ?_
  refine z_istore (lv' := [(5, .int 0), (4, .int 0), (3, .int r22), (0, rf X.1 j0), (1, .int a1), (2, .int a2)]) hX dX4_turnWind_19 (by decide) rfl ?_
  refine z_sub (lv' := [(0, rf X.1 j0), (3, .int r22), (4, .int 0), (5, .int 0)]) [3, 2, 1, 0] rfl ?_
  exact t_X4_turnWind_21 hR  N j0 r22 0 0 σ24 hk_j0 h
set_option maxRecDepth 20000 in
set_option maxHeartbeats 4000000 in
theorem c_X4_passMinute (w : WP) {N : Nat} {j0 : Nat} {r : Int32} {σ σ' : HP} (hk_j0 : kd j0 = 4) (h : F_X4_passMinute N j0 σ = some (r, σ')) : Ct w yX4_passMinute cX4_passMinute 4 (some .int) 4 86 [rf w j0] σ (some (.int r)) σ' := by
  refine z_met w (by decide +kernel) (Nat.le_of_ble_eq_true rfl) (fun X hw hX => ?_)
  subst hw
  have hR : OkX X RX4 cX4_passMinute 4 4 86 (some .int) (some (.int r)) σ' := hX
  have hX := hR.1
  show Z X σ 0 [(0, rf X.1 j0)] []
  unfold F_X4_passMinute at h
  refine z_aload_n hX dX4_passMinute_0 0 rfl ?_
  refine z_dup hX rfl dX4_passMinute_1 ?_
  refine g_X4_39 hX hk_j0 dX4_passMinute_2 ?_
  refine z_iconst (x := 1) hX dX4_passMinute_5 (by decide) ?_
  refine z_iadd hX dX4_passMinute_6 ?_
  obtain ⟨σ21, eσ21, h⟩ := bd_some h
  refine p_X4_39 hX hk_j0 dX4_passMinute_7 ?_
  refine z_ms eσ21 ?_
  refine z_aload_n hX dX4_passMinute_10 0 rfl ?_
  refine g_X4_12 hX hk_j0 dX4_passMinute_11 ?_
  obtain ⟨σ23, k22, h⟩ := bind_some h
  refine v_X4_91 hX (kl_4_0 hk_j0).1 (c_X3_loosen X.1 (kl_4_0 hk_j0).1 k22) (Nat.le_of_ble_eq_true rfl) (Nat.le_of_ble_eq_true rfl) (Nat.le_of_ble_eq_true rfl) dX4_passMinute_14 ?_
  refine z_aload_n hX dX4_passMinute_17 0 rfl ?_
  refine g_X4_21 hX hk_j0 dX4_passMinute_18 ?_
  refine z_aload_n hX dX4_passMinute_21 0 rfl ?_
  refine g_X4_39 hX hk_j0 dX4_passMinute_22 ?_
  obtain ⟨r25, k24, h⟩ := bind_some h
  refine v_X4_94 hX (kl_4_1 hk_j0).1 (c_X1_rankOf X.1 (kl_4_1 hk_j0).1 k24) (Nat.le_of_ble_eq_true rfl) (Nat.le_of_ble_eq_true rfl) (Nat.le_of_ble_eq_true rfl) dX4_passMinute_25 ?_
  refine z_istore_n (lv' := [(1, .int r25), (0, rf X.1 j0)]) hX dX4_passMinute_28 (by decide) rfl ?_
  refine z_iload_n hX dX4_passMinute_29 0 rfl ?_
  refine z_iconst (x := (-1)) hX dX4_passMinute_30 (by decide) ?_
  rcases ite_or h with ⟨c26, h⟩ | ⟨c26, h⟩
  · refine z_icmp_ne_f hX 36 (by decide) dX4_passMinute_31 c26 ?_
    refine z_iconst (x := 0) hX dX4_passMinute_34 (by decide) ?_
    obtain ⟨rfl, rfl⟩ := ret2 h
    exact z_iret hR dX4_passMinute_35
  · refine z_icmp_ne_t hX 36 (by decide) dX4_passMinute_31 c26 ?_
    refine z_aload_n hX dX4_passMinute_36 1 rfl ?_
    refine g_X4_21 hX hk_j0 dX4_passMinute_37 ?_
    refine g_X4_98 hX (kl_4_1 hk_j0).1 dX4_passMinute_40 ?_
    refine z_iload_n hX dX4_passMinute_43 0 rfl ?_
    obtain ⟨g27, h⟩ := gd_some h
    refine z_iald hX (kl_1_1 (kl_4_1 hk_j0).1).1 (kl_1_1 (kl_4_1 hk_j0).1).2 g27 dX4_passMinute_44 ?_
    obtain ⟨x28, ex28, h⟩ := bd_some h
    refine z_top ex28 ?_
    refine z_istore_n (lv' := [(2, .int x28), (1, .int r25), (0, rf X.1 j0)]) hX dX4_passMinute_45 (by decide) rfl ?_
    refine z_aload_n hX dX4_passMinute_46 2 rfl ?_
    refine g_X4_21 hX hk_j0 dX4_passMinute_47 ?_
    refine g_X4_101 hX (kl_4_1 hk_j0).1 dX4_passMinute_50 ?_
    refine z_iload_n hX dX4_passMinute_53 1 rfl ?_
    obtain ⟨g29, h⟩ := gd_some h
    refine z_iald hX (kl_1_2 (kl_4_1 hk_j0).1).1 (kl_1_2 (kl_4_1 hk_j0).1).2 g29 dX4_passMinute_54 ?_
    obtain ⟨x30, ex30, h⟩ := bd_some h
    refine z_top ex30 ?_
    refine z_istore_n (lv' := [(3, .int x30), (2, .int x28), (1, .int r25), (0, rf X.1 j0)]) hX dX4_passMinute_55 (by decide) rfl ?_
    refine z_aload_n hX dX4_passMinute_56 3 rfl ?_
    refine g_X4_21 hX hk_j0 dX4_passMinute_57 ?_
    refine z_iload_n hX dX4_passMinute_60 2 rfl ?_
    obtain ⟨σ32, k31, h⟩ := bind_some h
    refine v_X4_103 hX (kl_4_1 hk_j0).1 (c_X1_remove X.1 (kl_4_1 hk_j0).1 k31) (Nat.le_of_ble_eq_true rfl) (Nat.le_of_ble_eq_true rfl) (Nat.le_of_ble_eq_true rfl) dX4_passMinute_61 ?_
    refine z_aload_n hX dX4_passMinute_64 3 rfl ?_
    refine z_iload_n hX dX4_passMinute_65 1 rfl ?_
    refine z_iload_n hX dX4_passMinute_66 0 rfl ?_
    obtain ⟨r34, σ35, k33, h⟩ := bind2_some h
    refine v_X4_106 hX hk_j0 (c_X4_turnWind X.1 hk_j0 k33) (Nat.le_of_ble_eq_true rfl) (Nat.le_of_ble_eq_true rfl) (Nat.le_of_ble_eq_true rfl) dX4_passMinute_67 ?_
    obtain ⟨rfl, rfl⟩ := ret2 h
    exact z_iret hR dX4_passMinute_70
set_option maxRecDepth 20000 in
set_option maxHeartbeats 4000000 in
theorem t_X4_tradePlaces_41 {X : CX} {N : Nat} {j0 : Nat} {a2 : Int32} {r : Int32} {σ σ' : HP} (hR : OkX X RX4 cX4_tradePlaces 3 5 109 (some .boolean) (some (.int r)) σ')  (hk_j0 : kd j0 = 4) (h : J_X4_tradePlaces_41  N j0 a2 σ = some (r, σ')) : Z X σ 41 [(0, rf X.1 j0), (2, .int a2)] [] := by
  have hX := hR.1
  unfold J_X4_tradePlaces_41 at h
  refine z_aload_n hX dX4_tradePlaces_41 0 rfl ?_
  obtain ⟨r22, σ23, k21, h⟩ := bind2_some h
  refine v_X4_88 hX hk_j0 (c_X4_passMinute X.1 hk_j0 k21) (Nat.le_of_ble_eq_true rfl) (Nat.le_of_ble_eq_true rfl) (Nat.le_of_ble_eq_true rfl) dX4_tradePlaces_42 ?_
  refine z_pop hX rfl dX4_tradePlaces_45 ?_
  refine z_iload_n hX dX4_tradePlaces_46 1 rfl ?_
  obtain ⟨g24, h⟩ := gd_some h
  obtain ⟨rfl, rfl⟩ := ret2 h
  exact z_zret hR (nb01 g24) dX4_tradePlaces_47
set_option maxRecDepth 20000 in
set_option maxHeartbeats 4000000 in
theorem c_X4_tradePlaces (w : WP) {N : Nat} {j0 : Nat} {a1 : Int32} {r : Int32} {σ σ' : HP} (hk_j0 : kd j0 = 4) (h : F_X4_tradePlaces N j0 a1 σ = some (r, σ')) : Ct w yX4_tradePlaces cX4_tradePlaces 3 (some .boolean) 5 109 [rf w j0, .int a1] σ (some (.int r)) σ' := by
  refine z_met w (by decide +kernel) (Nat.le_of_ble_eq_true rfl) (fun X hw hX => ?_)
  subst hw
  have hR : OkX X RX4 cX4_tradePlaces 3 5 109 (some .boolean) (some (.int r)) σ' := hX
  have hX := hR.1
  show Z X σ 0 [(0, rf X.1 j0), (1, .int a1)] []
  unfold F_X4_tradePlaces at h
  refine z_aload_n hX dX4_tradePlaces_0 0 rfl ?_
  refine g_X4_12 hX hk_j0 dX4_tradePlaces_1 ?_
  refine z_iload_n hX dX4_tradePlaces_4 1 rfl ?_
  refine z_aload_n hX dX4_tradePlaces_5 0 rfl ?_
  obtain ⟨r22, k21, h⟩ := bind_some h
  refine v_X4_72 hX hk_j0 (c_X4_drift X.1 hk_j0 k21) (Nat.le_of_ble_eq_true rfl) (Nat.le_of_ble_eq_true rfl) (Nat.le_of_ble_eq_true rfl) dX4_tradePlaces_6 ?_
  obtain ⟨r24, k23, h⟩ := bind_some h
  refine v_X4_76 hX (kl_4_0 hk_j0).1 (c_X3_wouldTangle X.1 (kl_4_0 hk_j0).1 k23) (Nat.le_of_ble_eq_true rfl) (Nat.le_of_ble_eq_true rfl) (Nat.le_of_ble_eq_true rfl) dX4_tradePlaces_9 ?_
  refine z_istore_n (lv' := [(2, .int r24), (0, rf X.1 j0), (1, .int a1)]) hX dX4_tradePlaces_12 (by decide) rfl ?_
  refine z_aload_n hX dX4_tradePlaces_13 1 rfl ?_
  refine g_X4_12 hX hk_j0 dX4_tradePlaces_14 ?_
  refine z_iload_n hX dX4_tradePlaces_17 2 rfl ?_
  obtain ⟨σ26, k25, h⟩ := bind_some h
  refine v_X4_80 hX (kl_4_0 hk_j0).1 (c_X3_swap X.1 (kl_4_0 hk_j0).1 k25) (Nat.le_of_ble_eq_true rfl) (Nat.le_of_ble_eq_true rfl) (Nat.le_of_ble_eq_true rfl) dX4_tradePlaces_18 ?_
  refine z_aload_n hX dX4_tradePlaces_21 1 rfl ?_
  refine z_dup hX rfl dX4_tradePlaces_22 ?_
  refine g_X4_56 hX hk_j0 dX4_tradePlaces_23 ?_
  refine z_iconst (x := 1) hX dX4_tradePlaces_26 (by decide) ?_
  refine z_iadd hX dX4_tradePlaces_27 ?_
  obtain ⟨σ27, eσ27, h⟩ := bd_some h
  refine p_X4_56 hX hk_j0 dX4_tradePlaces_28 ?_
  refine z_ms eσ27 ?_
  refine z_iload_n hX dX4_tradePlaces_31 0 rfl ?_
  rcases ite_or h with ⟨c28, h⟩ | ⟨c28, h⟩
  · refine z_if_eq_t hX 41 (by decide) dX4_tradePlaces_32 c28 ?_
    refine z_sub (lv' := [(0, rf X.1 j0), (2, .int r24)]) [1, 0] rfl ?_
    exact t_X4_tradePlaces_41 hR  hk_j0 h
  · refine z_if_eq_f hX 41 (by decide) dX4_tradePlaces_32 c28 ?_
    refine z_aload_n hX dX4_tradePlaces_35 1 rfl ?_
    refine z_iload_n hX dX4_tradePlaces_36 2 rfl ?_
    refine z_iconst (x := 1) hX dX4_tradePlaces_37 (by decide) ?_
    obtain ⟨σ30, k29, h⟩ := bind_some h
    refine v_X4_84 hX hk_j0 (c_X4_tangleAt X.1 hk_j0 k29) (Nat.le_of_ble_eq_true rfl) (Nat.le_of_ble_eq_true rfl) (Nat.le_of_ble_eq_true rfl) dX4_tradePlaces_38 ?_
    refine z_sub (lv' := [(0, rf X.1 j0), (2, .int r24)]) [1, 0] rfl ?_
    exact t_X4_tradePlaces_41 hR  hk_j0 h
set_option maxRecDepth 20000 in
set_option maxHeartbeats 4000000 in
theorem c_X4_isSafe (w : WP) {N : Nat} {j0 : Nat} {a1 : Int32} {r : Int32} {σ : HP} (hk_j0 : kd j0 = 4) (h : F_X4_isSafe N j0 a1 σ = some r) : Ct w yX4_isSafe cX4_isSafe 2 (some .boolean) 3 68 [rf w j0, .int a1] σ (some (.int r)) σ := by
  refine z_met w (by decide +kernel) (Nat.le_of_ble_eq_true rfl) (fun X hw hX => ?_)
  subst hw
  have hR : OkX X RX4 cX4_isSafe 2 3 68 (some .boolean) (some (.int r)) σ := hX
  have hX := hR.1
  show Z X σ 0 [(0, rf X.1 j0), (1, .int a1)] []
  unfold F_X4_isSafe at h
  refine z_aload_n hX dX4_isSafe_0 0 rfl ?_
  refine g_X4_12 hX hk_j0 dX4_isSafe_1 ?_
  refine z_iload_n hX dX4_isSafe_4 1 rfl ?_
  obtain ⟨r22, k21, h⟩ := bind_some h
  refine v_X4_113 hX (kl_4_0 hk_j0).1 (c_X3_isPairFree X.1 (kl_4_0 hk_j0).1 k21) (Nat.le_of_ble_eq_true rfl) (Nat.le_of_ble_eq_true rfl) (Nat.le_of_ble_eq_true rfl) dX4_isSafe_5 ?_
  rcases ite_or h with ⟨c23, h⟩ | ⟨c23, h⟩
  · refine z_if_eq_t hX 30 (by decide) dX4_isSafe_8 c23 ?_
    refine z_iconst (x := 0) hX dX4_isSafe_30 (by decide) ?_
    obtain rfl := ret1 h
    exact z_zret hR rfl dX4_isSafe_31
  · refine z_if_eq_f hX 30 (by decide) dX4_isSafe_8 c23 ?_
    refine z_aload_n hX dX4_isSafe_11 0 rfl ?_
    refine g_X4_12 hX hk_j0 dX4_isSafe_12 ?_
    refine z_iload_n hX dX4_isSafe_15 1 rfl ?_
    refine z_aload_n hX dX4_isSafe_16 0 rfl ?_
    obtain ⟨r25, k24, h⟩ := bind_some h
    refine v_X4_72 hX hk_j0 (c_X4_drift X.1 hk_j0 k24) (Nat.le_of_ble_eq_true rfl) (Nat.le_of_ble_eq_true rfl) (Nat.le_of_ble_eq_true rfl) dX4_isSafe_17 ?_
    obtain ⟨r27, k26, h⟩ := bind_some h
    refine v_X4_76 hX (kl_4_0 hk_j0).1 (c_X3_wouldTangle X.1 (kl_4_0 hk_j0).1 k26) (Nat.le_of_ble_eq_true rfl) (Nat.le_of_ble_eq_true rfl) (Nat.le_of_ble_eq_true rfl) dX4_isSafe_20 ?_
    rcases ite_or h with ⟨c28, h⟩ | ⟨c28, h⟩
    · refine z_if_ne_f hX 30 (by decide) dX4_isSafe_23 c28 ?_
      refine z_iconst (x := 1) hX dX4_isSafe_26 (by decide) ?_
      refine z_goto hX 31 (by decide) dX4_isSafe_27 ?_
      obtain rfl := ret1 h
      exact z_zret hR rfl dX4_isSafe_31
    · refine z_if_ne_t hX 30 (by decide) dX4_isSafe_23 c28 ?_
      refine z_iconst (x := 0) hX dX4_isSafe_30 (by decide) ?_
      obtain rfl := ret1 h
      exact z_zret hR rfl dX4_isSafe_31
set_option maxRecDepth 20000 in
set_option maxHeartbeats 4000000 in
theorem t_X4_isAtRest_14 {X : CX} {N : Nat} {r : Int32} {σ : HP} (hR : OkX X RX4 cX4_isAtRest 2 1 21 (some .boolean) (some (.int r)) σ)  : ∀ (n : Nat) (j0 : Nat) (a1 : Int32), kd j0 = 4 → L_X4_isAtRest_14  N σ n j0 a1 = some r → Z X σ 14 [(0, rf X.1 j0), (1, .int a1)] [] := by
  have hX := hR.1
  intro n
  induction n with
  | zero =>
    intro j0 a1 hk_j0 h
    rw [L_X4_isAtRest_14] at h
    cases h
  | succ n ih =>
    intro j0 a1 hk_j0 h
    rw [L_X4_isAtRest_14] at h
    refine z_iload_n hX dX4_isAtRest_14 1 rfl ?_
    refine z_aload_n hX dX4_isAtRest_15 0 rfl ?_
    refine g_X4_12 hX hk_j0 dX4_isAtRest_16 ?_
    refine g_X4_110 hX (kl_4_0 hk_j0).1 dX4_isAtRest_19 ?_
    rcases ite_or h with ⟨c21, h⟩ | ⟨c21, h⟩
    · refine z_icmp_ge_t hX 44 (by decide) dX4_isAtRest_22 c21 ?_
      refine z_iconst (x := 1) hX dX4_isAtRest_44 (by decide) ?_
      obtain rfl := ret1 h
      exact z_zret hR rfl dX4_isAtRest_45
    · refine z_icmp_ge_f hX 44 (by decide) dX4_isAtRest_22 c21 ?_
      refine z_aload_n hX dX4_isAtRest_25 0 rfl ?_
      refine g_X4_12 hX hk_j0 dX4_isAtRest_26 ?_
      refine z_iload_n hX dX4_isAtRest_29 1 rfl ?_
      obtain ⟨r23, k22, h⟩ := bind_some h
      refine v_X4_121 hX (kl_4_0 hk_j0).1 (c_X3_isTangled X.1 (kl_4_0 hk_j0).1 k22) (Nat.le_of_ble_eq_true rfl) (Nat.le_of_ble_eq_true rfl) (Nat.le_of_ble_eq_true rfl) dX4_isAtRest_30 ?_
      rcases ite_or h with ⟨c24, h⟩ | ⟨c24, h⟩
      · refine z_if_eq_t hX 38 (by decide) dX4_isAtRest_33 c24 ?_
        refine z_iinc (y := (a1 + 1)) (lv' := [(1, .int (a1 + 1)), (0, rf X.1 j0)]) hX dX4_isAtRest_38 1 rfl rfl (by decide) rfl ?_
        refine z_goto hX 14 (by decide) dX4_isAtRest_41 ?_
        refine z_sub (lv' := [(0, rf X.1 j0), (1, .int (a1 + 1))]) [1, 0] rfl ?_
        exact ih j0 (a1 + 1) hk_j0 h
      · refine z_if_eq_f hX 38 (by decide) dX4_isAtRest_33 c24 ?_
        refine z_iconst (x := 0) hX dX4_isAtRest_36 (by decide) ?_
        obtain rfl := ret1 h
        exact z_zret hR rfl dX4_isAtRest_37
set_option maxRecDepth 20000 in
set_option maxHeartbeats 4000000 in
theorem c_X4_isAtRest (w : WP) {N : Nat} {j0 : Nat} {r : Int32} {σ : HP} (hk_j0 : kd j0 = 4) (h : F_X4_isAtRest N j0 σ = some r) : Ct w yX4_isAtRest cX4_isAtRest 2 (some .boolean) 1 21 [rf w j0] σ (some (.int r)) σ := by
  refine z_met w (by decide +kernel) (Nat.le_of_ble_eq_true rfl) (fun X hw hX => ?_)
  subst hw
  have hR : OkX X RX4 cX4_isAtRest 2 1 21 (some .boolean) (some (.int r)) σ := hX
  have hX := hR.1
  show Z X σ 0 [(0, rf X.1 j0)] []
  unfold F_X4_isAtRest at h
  refine z_aload_n hX dX4_isAtRest_0 0 rfl ?_
  refine g_X4_21 hX hk_j0 dX4_isAtRest_1 ?_
  refine g_X4_120 hX (kl_4_1 hk_j0).1 dX4_isAtRest_4 ?_
  rcases ite_or h with ⟨c21, h⟩ | ⟨c21, h⟩
  · refine z_if_le_t hX 12 (by decide) dX4_isAtRest_7 c21 ?_
    refine z_iconst (x := 0) hX dX4_isAtRest_12 (by decide) ?_
    refine z_istore_n (lv' := [(1, .int 0), (0, rf X.1 j0)]) hX dX4_isAtRest_13 (by decide) rfl ?_
    refine z_sub (lv' := [(0, rf X.1 j0), (1, .int 0)]) [1, 0] rfl ?_
    exact t_X4_isAtRest_14 hR  N j0 0 hk_j0 h
  · refine z_if_le_f hX 12 (by decide) dX4_isAtRest_7 c21 ?_
    refine z_iconst (x := 0) hX dX4_isAtRest_10 (by decide) ?_
    obtain rfl := ret1 h
    exact z_zret hR rfl dX4_isAtRest_11
set_option maxRecDepth 20000 in
set_option maxHeartbeats 4000000 in
theorem t_X6_isSame_12 {X : CX} {N : Nat} {r : Int32} {σ : HP} (hR : OkX X RX6 cX6_isSame 4 0 0 (some .boolean) (some (.int r)) σ)  : ∀ (n : Nat) (j0 : Nat) (j1 : Nat) (a3 : Int32), kd j0 = 6 → kd j1 = 10 → ln j1 = 60 → L_X6_isSame_12  N σ n j0 j1 a3 = some r → Z X σ 12 [(0, rf X.1 j0), (1, rf X.1 j1), (3, .int a3)] [] := by
  have hX := hR.1
  intro n
  induction n with
  | zero =>
    intro j0 j1 a3 hk_j0 hk_j1 hl_j1 h
    rw [L_X6_isSame_12] at h
    cases h
  | succ n ih =>
    intro j0 j1 a3 hk_j0 hk_j1 hl_j1 h
    rw [L_X6_isSame_12] at h
    refine z_iload_n hX dX6_isSame_12 2 rfl ?_
    refine z_aload_n hX dX6_isSame_13 0 rfl ?_
    refine g_X6_15 hX hk_j0 dX6_isSame_14 ?_
    rcases ite_or h with ⟨c21, h⟩ | ⟨c21, h⟩
    · refine z_icmp_ge_t hX 40 (by decide) dX6_isSame_17 c21 ?_
      refine z_iconst (x := 1) hX dX6_isSame_40 (by decide) ?_
      obtain rfl := ret1 h
      exact z_zret hR rfl dX6_isSame_41
    · refine z_icmp_ge_f hX 40 (by decide) dX6_isSame_17 c21 ?_
      refine z_aload_n hX dX6_isSame_20 0 rfl ?_
      refine g_X6_9 hX hk_j0 dX6_isSame_21 ?_
      refine z_iload_n hX dX6_isSame_24 2 rfl ?_
      obtain ⟨g22, h⟩ := gd_some h
      refine z_cald hX (kl_6_0 hk_j0).1 (kl_6_0 hk_j0).2 g22 dX6_isSame_25 ?_
      refine z_aload_n hX dX6_isSame_26 1 rfl ?_
      refine z_iload_n hX dX6_isSame_27 2 rfl ?_
      obtain ⟨g23, h⟩ := gd_some h
      refine z_cald hX hk_j1 hl_j1 g23 dX6_isSame_28 ?_
      rcases ite_or h with ⟨c24, h⟩ | ⟨c24, h⟩
      · refine z_icmp_eq_t hX 34 (by decide) dX6_isSame_29 c24 ?_
        refine z_iinc (y := (a3 + 1)) (lv' := [(3, .int (a3 + 1)), (0, rf X.1 j0), (1, rf X.1 j1)]) hX dX6_isSame_34 2 rfl rfl (by decide) rfl ?_
        refine z_goto hX 12 (by decide) dX6_isSame_37 ?_
        refine z_sub (lv' := [(0, rf X.1 j0), (1, rf X.1 j1), (3, .int (a3 + 1))]) [1, 2, 0] rfl ?_
        exact ih j0 j1 (a3 + 1) hk_j0 hk_j1 hl_j1 h
      · refine z_icmp_eq_f hX 34 (by decide) dX6_isSame_29 c24 ?_
        refine z_iconst (x := 0) hX dX6_isSame_32 (by decide) ?_
        obtain rfl := ret1 h
        exact z_zret hR rfl dX6_isSame_33
set_option maxRecDepth 20000 in
set_option maxHeartbeats 4000000 in
theorem c_X6_isSame (w : WP) {N : Nat} {j0 : Nat} {j1 : Nat} {a2 : Int32} {r : Int32} {σ : HP} (hk_j0 : kd j0 = 6) (hk_j1 : kd j1 = 10) (hl_j1 : ln j1 = 60) (h : F_X6_isSame N j0 j1 a2 σ = some r) : Ct w yX6_isSame cX6_isSame 4 (some .boolean) 0 0 [rf w j0, rf w j1, .int a2] σ (some (.int r)) σ := by
  refine z_met w (by decide +kernel) (Nat.le_of_ble_eq_true rfl) (fun X hw hX => ?_)
  subst hw
  have hR : OkX X RX6 cX6_isSame 4 0 0 (some .boolean) (some (.int r)) σ := hX
  have hX := hR.1
  show Z X σ 0 [(0, rf X.1 j0), (1, rf X.1 j1), (2, .int a2)] []
  unfold F_X6_isSame at h
  refine z_aload_n hX dX6_isSame_0 0 rfl ?_
  refine g_X6_15 hX hk_j0 dX6_isSame_1 ?_
  refine z_iload_n hX dX6_isSame_4 2 rfl ?_
  rcases ite_or h with ⟨c21, h⟩ | ⟨c21, h⟩
  · refine z_icmp_eq_t hX 10 (by decide) dX6_isSame_5 c21 ?_
    refine z_iconst (x := 0) hX dX6_isSame_10 (by decide) ?_
    refine z_istore_n (lv' := [(3, .int 0), (0, rf X.1 j0), (1, rf X.1 j1), (2, .int a2)]) hX dX6_isSame_11 (by decide) rfl ?_
    refine z_sub (lv' := [(0, rf X.1 j0), (1, rf X.1 j1), (3, .int 0)]) [1, 2, 0] rfl ?_
    exact t_X6_isSame_12 hR  N j0 j1 0 hk_j0 hk_j1 hl_j1 h
  · refine z_icmp_eq_f hX 10 (by decide) dX6_isSame_5 c21 ?_
    refine z_iconst (x := 0) hX dX6_isSame_8 (by decide) ?_
    obtain rfl := ret1 h
    exact z_zret hR rfl dX6_isSame_9
set_option maxRecDepth 20000 in
set_option maxHeartbeats 4000000 in
theorem c_X6_become (w : WP) {N : Nat} {j0 : Nat} {j1 : Nat} {a2 : Int32} {σ σ' : HP} (hk_j0 : kd j0 = 6) (hk_j1 : kd j1 = 10) (hl_j1 : ln j1 = 60) (h : F_X6_become N j0 j1 a2 σ = some σ') : Ct w yX6_become cX6_become 3 none 1 18 [rf w j0, rf w j1, .int a2] σ none σ' := by
  refine z_met w (by decide +kernel) (Nat.le_of_ble_eq_true rfl) (fun X hw hX => ?_)
  subst hw
  have hR : OkX X RX6 cX6_become 3 1 18 none none σ' := hX
  have hX := hR.1
  show Z X σ 0 [(0, rf X.1 j0), (1, rf X.1 j1), (2, .int a2)] []
  unfold F_X6_become at h
  refine z_aload_n hX dX6_become_0 0 rfl ?_
  refine z_iload_n hX dX6_become_1 2 rfl ?_
  refine z_bipush (x := 12) hX dX6_become_2 (by decide) ?_
  refine z_min hX ml_X6_25 (by decide) (Nat.le_of_ble_eq_true rfl) dX6_become_4 ?_
  obtain ⟨σ21, eσ21, h⟩ := bd_some h
  refine p_X6_15 hX hk_j0 dX6_become_7 ?_
  refine z_ms eσ21 ?_
  refine z_aload_n hX dX6_become_10 1 rfl ?_
  refine z_iconst (x := 0) hX dX6_become_11 (by decide) ?_
  refine z_aload_n hX dX6_become_12 0 rfl ?_
  refine g_X6_9 hX hk_j0 dX6_become_13 ?_
  refine z_iconst (x := 0) hX dX6_become_16 (by decide) ?_
  refine z_aload_n hX dX6_become_17 0 rfl ?_
  refine g_X6_15 hX hk_j0 dX6_become_18 ?_
  obtain ⟨g22, h⟩ := gd_some h
  obtain ⟨g23, h⟩ := gd_some h
  obtain ⟨σ24, eσ24, h⟩ := bd_some h
  refine z_copyC hX ml_X6_19 hk_j1 (kl_6_0 hk_j0).1 hl_j1 (kl_6_0 hk_j0).2 (by decide) (by decide) g22.1 g22.2.1 g22.2.2 g23 (by decide) (Nat.le_of_ble_eq_true rfl) dX6_become_21 ?_
  refine z_ms eσ24 ?_
  obtain rfl := ret1 h
  exact z_vret hR dX6_become_24
set_option maxRecDepth 20000 in
set_option maxHeartbeats 4000000 in
theorem c_X7_isLetter (w : WP) {N : Nat} {a0 : Int32} {r : Int32} {σ : HP} (h : F_X7_isLetter N a0 σ = some r) : Ct w yX7_isLetter cX7_isLetter 1 (some .boolean) 0 0 [.int a0] σ (some (.int r)) σ := by
  refine z_met w (by decide +kernel) (Nat.le_of_ble_eq_true rfl) (fun X hw hX => ?_)
  subst hw
  have hR : OkX X RX7 cX7_isLetter 1 0 0 (some .boolean) (some (.int r)) σ := hX
  have hX := hR.1
  show Z X σ 0 [(0, .int a0)] []
  unfold F_X7_isLetter at h
  refine z_iload_n hX dX7_isLetter_0 0 rfl ?_
  refine z_bipush (x := 97) hX dX7_isLetter_1 (by decide) ?_
  rcases ite_or h with ⟨c21, h⟩ | ⟨c21, h⟩
  · refine z_icmp_lt_t hX 16 (by decide) dX7_isLetter_3 c21 ?_
    refine z_iconst (x := 0) hX dX7_isLetter_16 (by decide) ?_
    obtain rfl := ret1 h
    exact z_zret hR rfl dX7_isLetter_17
  · refine z_icmp_lt_f hX 16 (by decide) dX7_isLetter_3 c21 ?_
    refine z_iload_n hX dX7_isLetter_6 0 rfl ?_
    refine z_bipush (x := 122) hX dX7_isLetter_7 (by decide) ?_
    rcases ite_or h with ⟨c22, h⟩ | ⟨c22, h⟩
    · refine z_icmp_gt_t hX 16 (by decide) dX7_isLetter_9 c22 ?_
      refine z_iconst (x := 0) hX dX7_isLetter_16 (by decide) ?_
      obtain rfl := ret1 h
      exact z_zret hR rfl dX7_isLetter_17
    · refine z_icmp_gt_f hX 16 (by decide) dX7_isLetter_9 c22 ?_
      refine z_iconst (x := 1) hX dX7_isLetter_12 (by decide) ?_
      refine z_goto hX 17 (by decide) dX7_isLetter_13 ?_
      obtain rfl := ret1 h
      exact z_zret hR rfl dX7_isLetter_17
set_option maxRecDepth 20000 in
set_option maxHeartbeats 4000000 in
theorem c_X7_isWithin (w : WP) {N : Nat} {a0 : Int32} {a1 : Int32} {a2 : Int32} {r : Int32} {σ : HP} (h : F_X7_isWithin N a0 a1 a2 σ = some r) : Ct w yX7_isWithin cX7_isWithin 3 (some .boolean) 0 0 [.int a0, .int a1, .int a2] σ (some (.int r)) σ := by
  refine z_met w (by decide +kernel) (Nat.le_of_ble_eq_true rfl) (fun X hw hX => ?_)
  subst hw
  have hR : OkX X RX7 cX7_isWithin 3 0 0 (some .boolean) (some (.int r)) σ := hX
  have hX := hR.1
  show Z X σ 0 [(0, .int a0), (1, .int a1), (2, .int a2)] []
  unfold F_X7_isWithin at h
  refine z_iload_n hX dX7_isWithin_0 0 rfl ?_
  refine z_iload_n hX dX7_isWithin_1 1 rfl ?_
  rcases ite_or h with ⟨c21, h⟩ | ⟨c21, h⟩
  · refine z_icmp_lt_t hX 14 (by decide) dX7_isWithin_2 c21 ?_
    refine z_iconst (x := 0) hX dX7_isWithin_14 (by decide) ?_
    obtain rfl := ret1 h
    exact z_zret hR rfl dX7_isWithin_15
  · refine z_icmp_lt_f hX 14 (by decide) dX7_isWithin_2 c21 ?_
    refine z_iload_n hX dX7_isWithin_5 0 rfl ?_
    refine z_iload_n hX dX7_isWithin_6 2 rfl ?_
    rcases ite_or h with ⟨c22, h⟩ | ⟨c22, h⟩
    · refine z_icmp_gt_t hX 14 (by decide) dX7_isWithin_7 c22 ?_
      refine z_iconst (x := 0) hX dX7_isWithin_14 (by decide) ?_
      obtain rfl := ret1 h
      exact z_zret hR rfl dX7_isWithin_15
    · refine z_icmp_gt_f hX 14 (by decide) dX7_isWithin_7 c22 ?_
      refine z_iconst (x := 1) hX dX7_isWithin_10 (by decide) ?_
      refine z_goto hX 15 (by decide) dX7_isWithin_11 ?_
      obtain rfl := ret1 h
      exact z_zret hR rfl dX7_isWithin_15
set_option maxRecDepth 20000 in
set_option maxHeartbeats 4000000 in
theorem t_X7_dropOldest_9 {X : CX} {N : Nat} {σ' : HP} (hR : OkX X RX7 cX7_dropOldest 3 0 0 none none σ')  : ∀ (n : Nat) (j0 : Nat) (j1 : Nat) (a2 : Int32) (σ : HP), kd j0 = 7 → kd j1 = 4 → L_X7_dropOldest_9  N n j0 j1 a2 σ = some σ' → Z X σ 9 [(0, rf X.1 j0), (1, rf X.1 j1), (2, .int a2)] [] := by
  have hX := hR.1
  intro n
  induction n with
  | zero =>
    intro j0 j1 a2 σ hk_j0 hk_j1 h
    rw [L_X7_dropOldest_9] at h
    cases h
  | succ n ih =>
    intro j0 j1 a2 σ hk_j0 hk_j1 h
    rw [L_X7_dropOldest_9] at h
    refine z_iload_n hX dX7_dropOldest_9 2 rfl ?_
    refine z_iconst (x := 4) hX dX7_dropOldest_10 (by decide) ?_
    rcases ite_or h with ⟨c21, h⟩ | ⟨c21, h⟩
    · refine z_icmp_ge_t hX 34 (by decide) dX7_dropOldest_11 c21 ?_
      refine z_aload_n hX dX7_dropOldest_34 0 rfl ?_
      refine g_X7_22 hX hk_j0 dX7_dropOldest_35 ?_
      refine z_iconst (x := 3) hX dX7_dropOldest_38 (by decide) ?_
      refine z_aload_n hX dX7_dropOldest_39 1 rfl ?_
      obtain ⟨σ22, eσ22, h⟩ := bd_some h
      refine z_aast hX (kl_7_3 hk_j0).1 (kl_7_3 hk_j0).2 hk_j1 (by unfold vp_in; decide) dX7_dropOldest_40 ?_
      refine z_ms eσ22 ?_
      refine z_aload_n hX dX7_dropOldest_41 0 rfl ?_
      refine z_iconst (x := 3) hX dX7_dropOldest_42 (by decide) ?_
      obtain ⟨σ23, eσ23, h⟩ := bd_some h
      refine p_X7_48 hX hk_j0 dX7_dropOldest_43 ?_
      refine z_ms eσ23 ?_
      obtain rfl := ret1 h
      exact z_vret hR dX7_dropOldest_46
    · refine z_icmp_ge_f hX 34 (by decide) dX7_dropOldest_11 c21 ?_
      refine z_aload_n hX dX7_dropOldest_14 0 rfl ?_
      refine g_X7_22 hX hk_j0 dX7_dropOldest_15 ?_
      refine z_iload_n hX dX7_dropOldest_18 2 rfl ?_
      refine z_iconst (x := 1) hX dX7_dropOldest_19 (by decide) ?_
      refine z_isub hX dX7_dropOldest_20 ?_
      refine z_aload_n hX dX7_dropOldest_21 0 rfl ?_
      refine g_X7_22 hX hk_j0 dX7_dropOldest_22 ?_
      refine z_iload_n hX dX7_dropOldest_25 2 rfl ?_
      obtain ⟨g24, h⟩ := gd_some h
      refine z_aald hX (kl_7_3 hk_j0).1 (kl_7_3 hk_j0).2 g24 dX7_dropOldest_26 ?_
      obtain ⟨g25, h⟩ := gd_some h
      obtain ⟨q26, eq26, h⟩ := bd_some h
      refine z_topr eq26 ?_
      have kq26 : kd q26 = 4 := eq26 ▸ g25
      obtain ⟨g27, h⟩ := gd_some h
      obtain ⟨σ28, eσ28, h⟩ := bd_some h
      refine z_aast hX (kl_7_3 hk_j0).1 (kl_7_3 hk_j0).2 kq26 g27 dX7_dropOldest_27 ?_
      refine z_ms eσ28 ?_
      refine z_iinc (y := (a2 + 1)) (lv' := [(2, .int (a2 + 1)), (0, rf X.1 j0), (1, rf X.1 j1)]) hX dX7_dropOldest_28 2 rfl rfl (by decide) rfl ?_
      refine z_goto hX 9 (by decide) dX7_dropOldest_31 ?_
      refine z_sub (lv' := [(0, rf X.1 j0), (1, rf X.1 j1), (2, .int (a2 + 1))]) [1, 2, 0] rfl ?_
      exact ih j0 j1 (a2 + 1) σ28 hk_j0 hk_j1 h
set_option maxRecDepth 20000 in
set_option maxHeartbeats 4000000 in
theorem c_X7_dropOldest (w : WP) {N : Nat} {j0 : Nat} {σ σ' : HP} (hk_j0 : kd j0 = 7) (h : F_X7_dropOldest N j0 σ = some σ') : Ct w yX7_dropOldest cX7_dropOldest 3 none 0 0 [rf w j0] σ none σ' := by
  refine z_met w (by decide +kernel) (Nat.le_of_ble_eq_true rfl) (fun X hw hX => ?_)
  subst hw
  have hR : OkX X RX7 cX7_dropOldest 3 0 0 none none σ' := hX
  have hX := hR.1
  show Z X σ 0 [(0, rf X.1 j0)] []
  unfold F_X7_dropOldest at h
  refine z_aload_n hX dX7_dropOldest_0 0 rfl ?_
  refine g_X7_22 hX hk_j0 dX7_dropOldest_1 ?_
  refine z_iconst (x := 0) hX dX7_dropOldest_4 (by decide) ?_
  refine z_aald hX (kl_7_3 hk_j0).1 (kl_7_3 hk_j0).2 (by unfold vp_in; decide) dX7_dropOldest_5 ?_
  obtain ⟨g21, h⟩ := gd_some h
  obtain ⟨q22, eq22, h⟩ := bd_some h
  refine z_topr eq22 ?_
  have kq22 : kd q22 = 4 := eq22 ▸ g21
  refine z_astore_n (lv' := [(1, rf X.1 q22), (0, rf X.1 j0)]) hX dX7_dropOldest_6 (by decide) rfl ?_
  refine z_iconst (x := 1) hX dX7_dropOldest_7 (by decide) ?_
  refine z_istore_n (lv' := [(2, .int 1), (1, rf X.1 q22), (0, rf X.1 j0)]) hX dX7_dropOldest_8 (by decide) rfl ?_
  refine z_sub (lv' := [(0, rf X.1 j0), (1, rf X.1 q22), (2, .int 1)]) [2, 1, 0] rfl ?_
  exact t_X7_dropOldest_9 hR  N j0 q22 1 σ hk_j0 kq22 h
