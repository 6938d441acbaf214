set_option maxRecDepth 20000 in
set_option maxHeartbeats 4000000 in
theorem c_X8_isSafe (w : WP) {N : Nat} {j0 : Nat} {a1 : Int32} {r : Int32} {σ : HP} (hk_j0 : kd j0 = 9) (hl_j0 : ln j0 = 152) (h : F_X8_isSafe N j0 a1 σ = some r) : Ct w yX8_isSafe cX8_isSafe 2 (some .boolean) 3 69 [rf w j0, .int a1] σ (some (.int r)) σ := by
  refine z_met w (by decide +kernel) (Nat.le_of_ble_eq_true rfl) (fun X hw hX => ?_)
  subst hw
  have hR : OkX X RX8 cX8_isSafe 2 3 69 (some .boolean) (some (.int r)) σ := hX
  have hX := hR.1
  show Z X σ 0 [(0, rf X.1 j0), (1, .int a1)] []
  unfold F_X8_isSafe at h
  refine z_aload_n hX dX8_isSafe_0 0 rfl ?_
  refine z_iload_n hX dX8_isSafe_1 1 rfl ?_
  obtain ⟨r22, k21, h⟩ := bind_some h
  refine v_X8_59 hX (c_X8_isTangled X.1 hk_j0 hl_j0 k21) (Nat.le_of_ble_eq_true rfl) (Nat.le_of_ble_eq_true rfl) (Nat.le_of_ble_eq_true rfl) dX8_isSafe_2 ?_
  rcases ite_or h with ⟨c23, h⟩ | ⟨c23, h⟩
  · refine z_if_ne_f hX 30 (by decide) dX8_isSafe_5 c23 ?_
    refine z_aload_n hX dX8_isSafe_8 0 rfl ?_
    refine z_iload_n hX dX8_isSafe_9 1 rfl ?_
    refine z_iconst (x := 1) hX dX8_isSafe_10 (by decide) ?_
    refine z_iadd hX dX8_isSafe_11 ?_
    obtain ⟨r25, k24, h⟩ := bind_some h
    refine v_X8_59 hX (c_X8_isTangled X.1 hk_j0 hl_j0 k24) (Nat.le_of_ble_eq_true rfl) (Nat.le_of_ble_eq_true rfl) (Nat.le_of_ble_eq_true rfl) dX8_isSafe_12 ?_
    rcases ite_or h with ⟨c26, h⟩ | ⟨c26, h⟩
    · refine z_if_ne_f hX 30 (by decide) dX8_isSafe_15 c26 ?_
      refine z_aload_n hX dX8_isSafe_18 0 rfl ?_
      refine z_iload_n hX dX8_isSafe_19 1 rfl ?_
      obtain ⟨r28, k27, h⟩ := bind_some h
      refine v_X8_105 hX (c_X8_wouldTangle X.1 hk_j0 hl_j0 k27) (Nat.le_of_ble_eq_true rfl) (Nat.le_of_ble_eq_true rfl) (Nat.le_of_ble_eq_true rfl) dX8_isSafe_20 ?_
      rcases ite_or h with ⟨c29, h⟩ | ⟨c29, h⟩
      · refine z_if_ne_f hX 30 (by decide) dX8_isSafe_23 c29 ?_
        refine z_iconst (x := 1) hX dX8_isSafe_26 (by decide) ?_
        refine z_goto hX 31 (by decide) dX8_isSafe_27 ?_
        obtain rfl := ret1 h
        exact z_zret hR rfl dX8_isSafe_31
      · refine z_if_ne_t hX 30 (by decide) dX8_isSafe_23 c29 ?_
        refine z_iconst (x := 0) hX dX8_isSafe_30 (by decide) ?_
        obtain rfl := ret1 h
        exact z_zret hR rfl dX8_isSafe_31
    · refine z_if_ne_t hX 30 (by decide) dX8_isSafe_15 c26 ?_
      refine z_iconst (x := 0) hX dX8_isSafe_30 (by decide) ?_
      obtain rfl := ret1 h
      exact z_zret hR rfl dX8_isSafe_31
  · refine z_if_ne_t hX 30 (by decide) dX8_isSafe_5 c23 ?_
    refine z_iconst (x := 0) hX dX8_isSafe_30 (by decide) ?_
    obtain rfl := ret1 h
    exact z_zret hR rfl dX8_isSafe_31
set_option maxRecDepth 20000 in
set_option maxHeartbeats 4000000 in
theorem c_X8_behind (w : WP) {N : Nat} {j0 : Nat} {j1 : Nat} {a2 : Int32} {r : Int32} {σ σ' : HP} (hk_j0 : kd j0 = 8) (hk_j1 : kd j1 = 9) (hl_j1 : ln j1 = 152) (h : F_X8_behind N j0 j1 a2 σ = some (r, σ')) : Ct w yX8_behind cX8_behind 3 (some .int) 4 91 [rf w j0, rf w j1, .int a2] σ (some (.int r)) σ' := by
  refine z_met w (by decide +kernel) (Nat.le_of_ble_eq_true rfl) (fun X hw hX => ?_)
  subst hw
  have hR : OkX X RX8 cX8_behind 3 4 91 (some .int) (some (.int r)) σ' := hX
  have hX := hR.1
  show Z X σ 0 [(0, rf X.1 j0), (1, rf X.1 j1), (2, .int a2)] []
  unfold F_X8_behind at h
  refine z_aload_n hX dX8_behind_0 1 rfl ?_
  refine z_iconst (x := 0) hX dX8_behind_1 (by decide) ?_
  refine z_aload_n hX dX8_behind_2 0 rfl ?_
  refine g_X8_36 hX hk_j0 dX8_behind_3 ?_
  refine z_iconst (x := 0) hX dX8_behind_6 (by decide) ?_
  obtain ⟨σ22, k21, h⟩ := bind_some h
  refine v_X8_43 hX (c_X8_lays X.1 hk_j1 (kl_8_11 hk_j0).1 k21) (Nat.le_of_ble_eq_true rfl) (Nat.le_of_ble_eq_true rfl) (Nat.le_of_ble_eq_true rfl) dX8_behind_7 ?_
  refine z_aload_n hX dX8_behind_10 0 rfl ?_
  refine g_X8_36 hX hk_j0 dX8_behind_11 ?_
  refine z_iload_n hX dX8_behind_14 2 rfl ?_
  obtain ⟨σ24, k23, h⟩ := bind_some h
  refine v_X8_108 hX (c_X8_swaps X.1 (kl_8_11 hk_j0).1 (kl_8_11 hk_j0).2 k23) (Nat.le_of_ble_eq_true rfl) (Nat.le_of_ble_eq_true rfl) (Nat.le_of_ble_eq_true rfl) dX8_behind_15 ?_
  refine z_aload_n hX dX8_behind_18 0 rfl ?_
  refine z_aload_n hX dX8_behind_19 0 rfl ?_
  refine g_X8_36 hX hk_j0 dX8_behind_20 ?_
  obtain ⟨r26, σ27, k25, h⟩ := bind2_some h
  refine v_X8_114 hX hk_j0 (c_X8_fewest X.1 hk_j0 (kl_8_11 hk_j0).1 (kl_8_11 hk_j0).2 k25) (Nat.le_of_ble_eq_true rfl) (Nat.le_of_ble_eq_true rfl) (Nat.le_of_ble_eq_true rfl) dX8_behind_23 ?_
  obtain ⟨rfl, rfl⟩ := ret2 h
  exact z_iret hR dX8_behind_26
set_option maxRecDepth 20000 in
set_option maxHeartbeats 4000000 in
theorem t_X8_next_8 {X : CX} {N : Nat} {r : Int32} {σ' : HP} (hR : OkX X RX8 cX8_next 4 5 113 (some .int) (some (.int r)) σ')  : ∀ (n : Nat) (j0 : Nat) (j1 : Nat) (a2 : Int32) (a3 : Int32) (σ : HP), kd j0 = 8 → kd j1 = 9 → ln j1 = 152 → L_X8_next_8  N n j0 j1 a2 a3 σ = some (r, σ') → Z X σ 8 [(0, rf X.1 j0), (1, rf X.1 j1), (2, .int a2), (3, .int a3)] [] := by
  have hX := hR.1
  intro n
  induction n with
  | zero =>
    intro j0 j1 a2 a3 σ hk_j0 hk_j1 hl_j1 h
    rw [L_X8_next_8] at h
    cases h
  | succ n ih =>
    intro j0 j1 a2 a3 σ hk_j0 hk_j1 hl_j1 h
    rw [L_X8_next_8] at h
    refine z_iload_n hX dX8_next_8 3 rfl ?_
    refine z_aload_n hX dX8_next_9 1 rfl ?_
    refine z_iconst (x := 0) hX dX8_next_10 (by decide) ?_
    refine z_iald hX hk_j1 hl_j1 (by unfold vp_in; decide) dX8_next_11 ?_
    refine z_iconst (x := 1) hX dX8_next_12 (by decide) ?_
    refine z_isub hX dX8_next_13 ?_
    rcases ite_or h with ⟨c21, h⟩ | ⟨c21, h⟩
    · refine z_icmp_ge_t hX 49 (by decide) dX8_next_14 c21 ?_
      refine z_ldc (x := (-1000005)) hX mc_X8_69 dX8_next_49 ?_
      obtain ⟨rfl, rfl⟩ := ret2 h
      exact z_iret hR dX8_next_51
    · refine z_icmp_ge_f hX 49 (by decide) dX8_next_14 c21 ?_
      refine z_iload_n hX dX8_next_17 2 rfl ?_
      refine z_ldc (x := (-1000005)) hX mc_X8_69 dX8_next_18 ?_
      rcases ite_or h with ⟨c22, h⟩ | ⟨c22, h⟩
      · refine z_icmp_eq_t hX 49 (by decide) dX8_next_20 c22 ?_
        refine z_ldc (x := (-1000005)) hX mc_X8_69 dX8_next_49 ?_
        obtain ⟨rfl, rfl⟩ := ret2 h
        exact z_iret hR dX8_next_51
      · refine z_icmp_eq_f hX 49 (by decide) dX8_next_20 c22 ?_
        refine z_aload_n hX dX8_next_23 1 rfl ?_
        refine z_iload_n hX dX8_next_24 3 rfl ?_
        obtain ⟨r24, k23, h⟩ := bind_some h
        refine v_X8_117 hX (c_X8_isSafe X.1 hk_j1 hl_j1 k23) (Nat.le_of_ble_eq_true rfl) (Nat.le_of_ble_eq_true rfl) (Nat.le_of_ble_eq_true rfl) dX8_next_25 ?_
        rcases ite_or h with ⟨c25, h⟩ | ⟨c25, h⟩
        · refine z_if_eq_t hX 43 (by decide) dX8_next_28 c25 ?_
          refine z_iinc (y := (a3 + 1)) (lv' := [(3, .int (a3 + 1)), (0, rf X.1 j0), (1, rf X.1 j1), (2, .int a2)]) hX dX8_next_43 3 rfl rfl (by decide) rfl ?_
          refine z_goto hX 8 (by decide) dX8_next_46 ?_
          refine z_sub (lv' := [(0, rf X.1 j0), (1, rf X.1 j1), (2, .int a2), (3, .int (a3 + 1))]) [1, 2, 3, 0] rfl ?_
          exact ih j0 j1 a2 (a3 + 1) σ hk_j0 hk_j1 hl_j1 h
        · refine z_if_eq_f hX 43 (by decide) dX8_next_28 c25 ?_
          refine z_aload_n hX dX8_next_31 0 rfl ?_
          refine z_aload_n hX dX8_next_32 1 rfl ?_
          refine z_iload_n hX dX8_next_33 3 rfl ?_
          obtain ⟨r27, σ28, k26, h⟩ := bind2_some h
          refine v_X8_120 hX hk_j0 (c_X8_behind X.1 hk_j0 hk_j1 hl_j1 k26) (Nat.le_of_ble_eq_true rfl) (Nat.le_of_ble_eq_true rfl) (Nat.le_of_ble_eq_true rfl) dX8_next_34 ?_
          refine z_iload_n hX dX8_next_37 2 rfl ?_
          rcases ite_or h with ⟨c29, h⟩ | ⟨c29, h⟩
          · refine z_icmp_ge_t hX 43 (by decide) dX8_next_38 c29 ?_
            refine z_iinc (y := (a3 + 1)) (lv' := [(3, .int (a3 + 1)), (0, rf X.1 j0), (1, rf X.1 j1), (2, .int a2)]) hX dX8_next_43 3 rfl rfl (by decide) rfl ?_
            refine z_goto hX 8 (by decide) dX8_next_46 ?_
            refine z_sub (lv' := [(0, rf X.1 j0), (1, rf X.1 j1), (2, .int a2), (3, .int (a3 + 1))]) [1, 2, 3, 0] rfl ?_
            exact ih j0 j1 a2 (a3 + 1) σ28 hk_j0 hk_j1 hl_j1 h
          · refine z_icmp_ge_f hX 43 (by decide) dX8_next_38 c29 ?_
            refine z_iload_n hX dX8_next_41 3 rfl ?_
            obtain ⟨rfl, rfl⟩ := ret2 h
            exact z_iret hR dX8_next_42
set_option maxRecDepth 20000 in
set_option maxHeartbeats 4000000 in
theorem c_X8_next (w : WP) {N : Nat} {j0 : Nat} {j1 : Nat} {r : Int32} {σ σ' : HP} (hk_j0 : kd j0 = 8) (hk_j1 : kd j1 = 9) (hl_j1 : ln j1 = 152) (h : F_X8_next N j0 j1 σ = some (r, σ')) : Ct w yX8_next cX8_next 4 (some .int) 5 113 [rf w j0, rf w j1] σ (some (.int r)) σ' := by
  refine z_met w (by decide +kernel) (Nat.le_of_ble_eq_true rfl) (fun X hw hX => ?_)
  subst hw
  have hR : OkX X RX8 cX8_next 4 5 113 (some .int) (some (.int r)) σ' := hX
  have hX := hR.1
  show Z X σ 0 [(0, rf X.1 j0), (1, rf X.1 j1)] []
  unfold F_X8_next at h
  refine z_aload_n hX dX8_next_0 0 rfl ?_
  refine z_aload_n hX dX8_next_1 1 rfl ?_
  obtain ⟨r22, σ23, k21, h⟩ := bind2_some h
  refine v_X8_114 hX hk_j0 (c_X8_fewest X.1 hk_j0 hk_j1 hl_j1 k21) (Nat.le_of_ble_eq_true rfl) (Nat.le_of_ble_eq_true rfl) (Nat.le_of_ble_eq_true rfl) dX8_next_2 ?_
  refine z_istore_n (lv' := [(2, .int r22), (0, rf X.1 j0), (1, rf X.1 j1)]) hX dX8_next_5 (by decide) rfl ?_
  refine z_iconst (x := 0) hX dX8_next_6 (by decide) ?_
  refine z_istore_n (lv' := [(3, .int 0), (2, .int r22), (0, rf X.1 j0), (1, rf X.1 j1)]) hX dX8_next_7 (by decide) rfl ?_
  refine z_sub (lv' := [(0, rf X.1 j0), (1, rf X.1 j1), (2, .int r22), (3, .int 0)]) [2, 3, 1, 0] rfl ?_
  exact t_X8_next_8 hR  N j0 j1 r22 0 σ23 hk_j0 hk_j1 hl_j1 h
set_option maxRecDepth 20000 in
set_option maxHeartbeats 4000000 in
theorem c_X8_isRoom (w : WP) {N : Nat} {j0 : Nat} {a1 : Int32} {r : Int32} {σ : HP} (hk_j0 : kd j0 = 8) (h : F_X8_isRoom N j0 a1 σ = some r) : Ct w yX8_isRoom cX8_isRoom 2 (some .boolean) 0 0 [rf w j0, .int a1] σ (some (.int r)) σ := by
  refine z_met w (by decide +kernel) (Nat.le_of_ble_eq_true rfl) (fun X hw hX => ?_)
  subst hw
  have hR : OkX X RX8 cX8_isRoom 2 0 0 (some .boolean) (some (.int r)) σ := hX
  have hX := hR.1
  show Z X σ 0 [(0, rf X.1 j0), (1, .int a1)] []
  unfold F_X8_isRoom at h
  refine z_aload_n hX dX8_isRoom_0 0 rfl ?_
  refine g_X8_7 hX hk_j0 dX8_isRoom_1 ?_
  refine z_iconst (x := 0) hX dX8_isRoom_4 (by decide) ?_
  refine z_iald hX (kl_8_0 hk_j0).1 (kl_8_0 hk_j0).2 (by unfold vp_in; decide) dX8_isRoom_5 ?_
  refine z_iload_n hX dX8_isRoom_6 1 rfl ?_
  refine z_iadd hX dX8_isRoom_7 ?_
  refine z_bipush (x := 12) hX dX8_isRoom_8 (by decide) ?_
  rcases ite_or h with ⟨c21, h⟩ | ⟨c21, h⟩
  · refine z_icmp_gt_t hX 31 (by decide) dX8_isRoom_10 c21 ?_
    refine z_iconst (x := 0) hX dX8_isRoom_31 (by decide) ?_
    obtain rfl := ret1 h
    exact z_zret hR rfl dX8_isRoom_32
  · refine z_icmp_gt_f hX 31 (by decide) dX8_isRoom_10 c21 ?_
    refine z_aload_n hX dX8_isRoom_13 0 rfl ?_
    refine g_X8_7 hX hk_j0 dX8_isRoom_14 ?_
    refine z_bipush (x := 10) hX dX8_isRoom_17 (by decide) ?_
    refine z_iald hX (kl_8_0 hk_j0).1 (kl_8_0 hk_j0).2 (by unfold vp_in; decide) dX8_isRoom_19 ?_
    refine z_iload_n hX dX8_isRoom_20 1 rfl ?_
    refine z_iadd hX dX8_isRoom_21 ?_
    refine z_bipush (x := 99) hX dX8_isRoom_22 (by decide) ?_
    rcases ite_or h with ⟨c22, h⟩ | ⟨c22, h⟩
    · refine z_icmp_gt_t hX 31 (by decide) dX8_isRoom_24 c22 ?_
      refine z_iconst (x := 0) hX dX8_isRoom_31 (by decide) ?_
      obtain rfl := ret1 h
      exact z_zret hR rfl dX8_isRoom_32
    · refine z_icmp_gt_f hX 31 (by decide) dX8_isRoom_24 c22 ?_
      refine z_iconst (x := 1) hX dX8_isRoom_27 (by decide) ?_
      refine z_goto hX 32 (by decide) dX8_isRoom_28 ?_
      obtain rfl := ret1 h
      exact z_zret hR rfl dX8_isRoom_32
set_option maxRecDepth 20000 in
set_option maxHeartbeats 4000000 in
theorem c_X8_comes (w : WP) {N : Nat} {j0 : Nat} {a1 : Int32} {a2 : Int32} {σ σ' : HP} (hk_j0 : kd j0 = 8) (h : F_X8_comes N j0 a1 a2 σ = some σ') : Ct w yX8_comes cX8_comes 4 none 1 23 [rf w j0, .int a1, .int a2] σ none σ' := by
  refine z_met w (by decide +kernel) (Nat.le_of_ble_eq_true rfl) (fun X hw hX => ?_)
  subst hw
  have hR : OkX X RX8 cX8_comes 4 1 23 none none σ' := hX
  have hX := hR.1
  show Z X σ 0 [(0, rf X.1 j0), (1, .int a1), (2, .int a2)] []
  unfold F_X8_comes at h
  refine z_aload_n hX dX8_comes_0 0 rfl ?_
  refine g_X8_7 hX hk_j0 dX8_comes_1 ?_
  refine z_iconst (x := 0) hX dX8_comes_4 (by decide) ?_
  refine z_iald hX (kl_8_0 hk_j0).1 (kl_8_0 hk_j0).2 (by unfold vp_in; decide) dX8_comes_5 ?_
  obtain ⟨x21, ex21, h⟩ := bd_some h
  refine z_top ex21 ?_
  refine z_istore_n (lv' := [(3, .int x21), (0, rf X.1 j0), (1, .int a1), (2, .int a2)]) hX dX8_comes_6 (by decide) rfl ?_
  refine z_aload_n hX dX8_comes_7 1 rfl ?_
  refine g_X8_7 hX hk_j0 dX8_comes_8 ?_
  refine z_iload_n hX dX8_comes_11 0 rfl ?_
  refine z_iconst (x := 0) hX dX8_comes_12 (by decide) ?_
  refine z_aload_n hX dX8_comes_13 1 rfl ?_
  refine g_X8_7 hX hk_j0 dX8_comes_14 ?_
  refine z_bipush (x := 10) hX dX8_comes_17 (by decide) ?_
  refine z_iald hX (kl_8_0 hk_j0).1 (kl_8_0 hk_j0).2 (by unfold vp_in; decide) dX8_comes_19 ?_
  obtain ⟨σ23, k22, h⟩ := bind_some h
  refine v_X8_84 hX (c_X8_puts X.1 (kl_8_0 hk_j0).1 (kl_8_0 hk_j0).2 k22) (Nat.le_of_ble_eq_true rfl) (Nat.le_of_ble_eq_true rfl) (Nat.le_of_ble_eq_true rfl) dX8_comes_20 ?_
  refine z_aload_n hX dX8_comes_23 1 rfl ?_
  refine g_X8_7 hX hk_j0 dX8_comes_24 ?_
  refine z_iload_n hX dX8_comes_27 0 rfl ?_
  refine z_iconst (x := 1) hX dX8_comes_28 (by decide) ?_
  refine z_iload_n hX dX8_comes_29 2 rfl ?_
  obtain ⟨σ25, k24, h⟩ := bind_some h
  refine v_X8_84 hX (c_X8_puts X.1 (kl_8_0 hk_j0).1 (kl_8_0 hk_j0).2 k24) (Nat.le_of_ble_eq_true rfl) (Nat.le_of_ble_eq_true rfl) (Nat.le_of_ble_eq_true rfl) dX8_comes_30 ?_
  refine z_aload_n hX dX8_comes_33 1 rfl ?_
  refine g_X8_7 hX hk_j0 dX8_comes_34 ?_
  refine z_iload_n hX dX8_comes_37 0 rfl ?_
  refine z_iconst (x := 2) hX dX8_comes_38 (by decide) ?_
  refine z_iload_n hX dX8_comes_39 3 rfl ?_
  obtain ⟨σ27, k26, h⟩ := bind_some h
  refine v_X8_84 hX (c_X8_puts X.1 (kl_8_0 hk_j0).1 (kl_8_0 hk_j0).2 k26) (Nat.le_of_ble_eq_true rfl) (Nat.le_of_ble_eq_true rfl) (Nat.le_of_ble_eq_true rfl) dX8_comes_40 ?_
  refine z_aload_n hX dX8_comes_43 1 rfl ?_
  refine g_X8_7 hX hk_j0 dX8_comes_44 ?_
  refine z_iload_n hX dX8_comes_47 0 rfl ?_
  refine z_iconst (x := 3) hX dX8_comes_48 (by decide) ?_
  refine z_iconst (x := 0) hX dX8_comes_49 (by decide) ?_
  obtain ⟨σ29, k28, h⟩ := bind_some h
  refine v_X8_84 hX (c_X8_puts X.1 (kl_8_0 hk_j0).1 (kl_8_0 hk_j0).2 k28) (Nat.le_of_ble_eq_true rfl) (Nat.le_of_ble_eq_true rfl) (Nat.le_of_ble_eq_true rfl) dX8_comes_50 ?_
  refine z_aload_n hX dX8_comes_53 1 rfl ?_
  refine g_X8_7 hX hk_j0 dX8_comes_54 ?_
  refine z_iload_n hX dX8_comes_57 0 rfl ?_
  refine z_iconst (x := 4) hX dX8_comes_58 (by decide) ?_
  refine z_iconst (x := 0) hX dX8_comes_59 (by decide) ?_
  obtain ⟨σ31, k30, h⟩ := bind_some h
  refine v_X8_84 hX (c_X8_puts X.1 (kl_8_0 hk_j0).1 (kl_8_0 hk_j0).2 k30) (Nat.le_of_ble_eq_true rfl) (Nat.le_of_ble_eq_true rfl) (Nat.le_of_ble_eq_true rfl) dX8_comes_60 ?_
  refine z_aload_n hX dX8_comes_63 1 rfl ?_
  refine g_X8_7 hX hk_j0 dX8_comes_64 ?_
  refine z_iload_n hX dX8_comes_67 0 rfl ?_
  refine z_iconst (x := 5) hX dX8_comes_68 (by decide) ?_
  refine z_iconst (x := 0) hX dX8_comes_69 (by decide) ?_
  obtain ⟨σ33, k32, h⟩ := bind_some h
  refine v_X8_84 hX (c_X8_puts X.1 (kl_8_0 hk_j0).1 (kl_8_0 hk_j0).2 k32) (Nat.le_of_ble_eq_true rfl) (Nat.le_of_ble_eq_true rfl) (Nat.le_of_ble_eq_true rfl) dX8_comes_70 ?_
  refine z_aload_n hX dX8_comes_73 1 rfl ?_
  refine g_X8_7 hX hk_j0 dX8_comes_74 ?_
  refine z_iconst (x := 0) hX dX8_comes_77 (by decide) ?_
  refine z_dup2 hX rfl rfl dX8_comes_78 ?_
  refine z_iald hX (kl_8_0 hk_j0).1 (kl_8_0 hk_j0).2 (by unfold vp_in; decide) dX8_comes_79 ?_
  refine z_iconst (x := 1) hX dX8_comes_80 (by decide) ?_
  refine z_iadd hX dX8_comes_81 ?_
  obtain ⟨σ34, eσ34, h⟩ := bd_some h
  refine z_iast hX (kl_8_0 hk_j0).1 (kl_8_0 hk_j0).2 (by unfold vp_in; decide) dX8_comes_82 ?_
  refine z_ms eσ34 ?_
  refine z_aload_n hX dX8_comes_83 1 rfl ?_
  refine g_X8_7 hX hk_j0 dX8_comes_84 ?_
  refine z_bipush (x := 10) hX dX8_comes_87 (by decide) ?_
  refine z_dup2 hX rfl rfl dX8_comes_89 ?_
  refine z_iald hX (kl_8_0 hk_j0).1 (kl_8_0 hk_j0).2 (by unfold vp_in; decide) dX8_comes_90 ?_
  refine z_iconst (x := 1) hX dX8_comes_91 (by decide) ?_
  refine z_iadd hX dX8_comes_92 ?_
  obtain ⟨σ35, eσ35, h⟩ := bd_some h
  refine z_iast hX (kl_8_0 hk_j0).1 (kl_8_0 hk_j0).2 (by unfold vp_in; decide) dX8_comes_93 ?_
  refine z_ms eσ35 ?_
  obtain rfl := ret1 h
  exact z_vret hR dX8_comes_94
set_option maxRecDepth 20000 in
set_option maxHeartbeats 4000000 in
theorem c_X8_come (w : WP) {N : Nat} {j0 : Nat} {a1 : Int32} {a2 : Int32} {r : Int32} {σ σ' : HP} (hk_j0 : kd j0 = 8) (h : F_X8_come N j0 a1 a2 σ = some (r, σ')) : Ct w yX8_come cX8_come 3 (some .int) 2 46 [rf w j0, .int a1, .int a2] σ (some (.int r)) σ' := by
  refine z_met w (by decide +kernel) (Nat.le_of_ble_eq_true rfl) (fun X hw hX => ?_)
  subst hw
  have hR : OkX X RX8 cX8_come 3 2 46 (some .int) (some (.int r)) σ' := hX
  have hX := hR.1
  show Z X σ 0 [(0, rf X.1 j0), (1, .int a1), (2, .int a2)] []
  unfold F_X8_come at h
  refine z_iload_n hX dX8_come_0 1 rfl ?_
  refine z_bipush (x := 97) hX dX8_come_1 (by decide) ?_
  refine z_bipush (x := 122) hX dX8_come_3 (by decide) ?_
  obtain ⟨r22, k21, h⟩ := bind_some h
  refine v_X8_47 hX (c_X8_in X.1 k21) (Nat.le_of_ble_eq_true rfl) (Nat.le_of_ble_eq_true rfl) (Nat.le_of_ble_eq_true rfl) dX8_come_5 ?_
  rcases ite_or h with ⟨c23, h⟩ | ⟨c23, h⟩
  · refine z_if_eq_t hX 21 (by decide) dX8_come_8 c23 ?_
    refine z_ldc (x := (-1000002)) hX mc_X8_123 dX8_come_21 ?_
    obtain ⟨rfl, rfl⟩ := ret2 h
    exact z_iret hR dX8_come_23
  · refine z_if_eq_f hX 21 (by decide) dX8_come_8 c23 ?_
    refine z_iload_n hX dX8_come_11 2 rfl ?_
    refine z_iconst (x := 1) hX dX8_come_12 (by decide) ?_
    refine z_bipush (x := 9) hX dX8_come_13 (by decide) ?_
    obtain ⟨r25, k24, h⟩ := bind_some h
    refine v_X8_47 hX (c_X8_in X.1 k24) (Nat.le_of_ble_eq_true rfl) (Nat.le_of_ble_eq_true rfl) (Nat.le_of_ble_eq_true rfl) dX8_come_15 ?_
    rcases ite_or h with ⟨c26, h⟩ | ⟨c26, h⟩
    · refine z_if_ne_f hX 24 (by decide) dX8_come_18 c26 ?_
      refine z_ldc (x := (-1000002)) hX mc_X8_123 dX8_come_21 ?_
      obtain ⟨rfl, rfl⟩ := ret2 h
      exact z_iret hR dX8_come_23
    · refine z_if_ne_t hX 24 (by decide) dX8_come_18 c26 ?_
      refine z_aload_n hX dX8_come_24 0 rfl ?_
      refine z_iconst (x := 1) hX dX8_come_25 (by decide) ?_
      obtain ⟨r28, k27, h⟩ := bind_some h
      refine v_X8_124 hX hk_j0 (c_X8_isRoom X.1 hk_j0 k27) (Nat.le_of_ble_eq_true rfl) (Nat.le_of_ble_eq_true rfl) (Nat.le_of_ble_eq_true rfl) dX8_come_26 ?_
      rcases ite_or h with ⟨c29, h⟩ | ⟨c29, h⟩
      · refine z_if_ne_f hX 35 (by decide) dX8_come_29 c29 ?_
        refine z_ldc (x := (-1000003)) hX mc_X8_128 dX8_come_32 ?_
        obtain ⟨rfl, rfl⟩ := ret2 h
        exact z_iret hR dX8_come_34
      · refine z_if_ne_t hX 35 (by decide) dX8_come_29 c29 ?_
        refine z_aload_n hX dX8_come_35 0 rfl ?_
        obtain ⟨σ31, k30, h⟩ := bind_some h
        refine v_X8_129 hX hk_j0 (c_X8_records X.1 hk_j0 k30) (Nat.le_of_ble_eq_true rfl) (Nat.le_of_ble_eq_true rfl) (Nat.le_of_ble_eq_true rfl) dX8_come_36 ?_
        refine z_aload_n hX dX8_come_39 0 rfl ?_
        refine z_iload_n hX dX8_come_40 1 rfl ?_
        refine z_iload_n hX dX8_come_41 2 rfl ?_
        obtain ⟨σ33, k32, h⟩ := bind_some h
        refine v_X8_132 hX hk_j0 (c_X8_comes X.1 hk_j0 k32) (Nat.le_of_ble_eq_true rfl) (Nat.le_of_ble_eq_true rfl) (Nat.le_of_ble_eq_true rfl) dX8_come_42 ?_
        refine z_aload_n hX dX8_come_45 0 rfl ?_
        refine g_X8_7 hX hk_j0 dX8_come_46 ?_
        refine z_iconst (x := 0) hX dX8_come_49 (by decide) ?_
        refine z_iald hX (kl_8_0 hk_j0).1 (kl_8_0 hk_j0).2 (by unfold vp_in; decide) dX8_come_50 ?_
        refine z_iconst (x := 1) hX dX8_come_51 (by decide) ?_
        refine z_isub hX dX8_come_52 ?_
        obtain ⟨rfl, rfl⟩ := ret2 h
        exact z_iret hR dX8_come_53
set_option maxRecDepth 20000 in
set_option maxHeartbeats 4000000 in
theorem t_X8_rowFault_93 {X : CX} {N : Nat} {j0 : Nat} {a1 : Int32} {a2 : Int32} {r : Int32} {σ : HP} (hR : OkX X RX8 cX8_rowFault 3 1 22 (some .int) (some (.int r)) σ)  (hk_j0 : kd j0 = 8) (h : J_X8_rowFault_93  N j0 a1 a2 σ = some r) : Z X σ 93 [(0, rf X.1 j0), (1, .int a1), (2, .int a2)] [] := by
  have hX := hR.1
  unfold J_X8_rowFault_93 at h
  refine z_iload_n hX dX8_rowFault_93 2 rfl ?_
  rcases ite_or h with ⟨c21, h⟩ | ⟨c21, h⟩
  · refine z_if_eq_t hX 112 (by decide) dX8_rowFault_94 c21 ?_
    refine z_iload_n hX dX8_rowFault_112 1 rfl ?_
    obtain rfl := ret1 h
    exact z_iret hR dX8_rowFault_113
  · refine z_if_eq_f hX 112 (by decide) dX8_rowFault_94 c21 ?_
    refine z_aload_n hX dX8_rowFault_97 0 rfl ?_
    refine g_X8_141 hX hk_j0 dX8_rowFault_98 ?_
    refine z_iconst (x := 3) hX dX8_rowFault_101 (by decide) ?_
    refine z_irem hX dX8_rowFault_102 (by decide) ?_
    refine z_iconst (x := 2) hX dX8_rowFault_103 (by decide) ?_
    rcases ite_or h with ⟨c22, h⟩ | ⟨c22, h⟩
    · refine z_icmp_ne_f hX 112 (by decide) dX8_rowFault_104 c22 ?_
      refine z_ldc (x := (-1000005)) hX mc_X8_69 dX8_rowFault_107 ?_
      refine z_goto hX 113 (by decide) dX8_rowFault_109 ?_
      obtain rfl := ret1 h
      exact z_iret hR dX8_rowFault_113
    · refine z_icmp_ne_t hX 112 (by decide) dX8_rowFault_104 c22 ?_
      refine z_iload_n hX dX8_rowFault_112 1 rfl ?_
      obtain rfl := ret1 h
      exact z_iret hR dX8_rowFault_113
set_option maxRecDepth 20000 in
set_option maxHeartbeats 4000000 in
theorem t_X8_rowFault_77 {X : CX} {N : Nat} {k4 : (Nat → Int32 → Int32 → Option (Int32))} {j0 : Nat} {a1 : Int32} {s0 : Int32} {r : Int32} {σ : HP} (hR : OkX X RX8 cX8_rowFault 3 1 22 (some .int) (some (.int r)) σ) (hk4 : ∀ (j0 : Nat) (a1 : Int32) (a2 : Int32), kd j0 = 8 → k4 j0 a1 a2 = some r → Z X σ 4 [(0, rf X.1 j0), (1, .int a1), (2, .int a2)] []) (hk_j0 : kd j0 = 8) (h : J_X8_rowFault_77 k4 N j0 a1 s0 σ = some r) : Z X σ 77 [(0, rf X.1 j0), (1, .int a1)] [.int s0] := by
  have hX := hR.1
  unfold J_X8_rowFault_77 at h
  refine z_istore_n (lv' := [(2, .int s0), (0, rf X.1 j0), (1, .int a1)]) hX dX8_rowFault_77 (by decide) rfl ?_
  refine z_iload_n hX dX8_rowFault_78 2 rfl ?_
  refine z_iload_n hX dX8_rowFault_79 0 rfl ?_
  rcases ite_or h with ⟨c21, h⟩ | ⟨c21, h⟩
  · refine z_if_eq_t hX 87 (by decide) dX8_rowFault_80 c21 ?_
    refine z_iconst (x := 0) hX dX8_rowFault_87 (by decide) ?_
    refine z_iadd hX dX8_rowFault_88 ?_
    obtain ⟨x22, ex22, h⟩ := bd_some h
    refine z_top ex22 ?_
    refine z_istore_n (lv' := [(1, .int x22), (2, .int s0), (0, rf X.1 j0)]) hX dX8_rowFault_89 (by decide) rfl ?_
    refine z_goto hX 4 (by decide) dX8_rowFault_90 ?_
    refine z_sub (lv' := [(0, rf X.1 j0), (1, .int x22), (2, .int s0)]) [2, 0, 1] rfl ?_
    exact hk4 j0 x22 s0 hk_j0 h
  · refine z_if_eq_f hX 87 (by decide) dX8_rowFault_80 c21 ?_
    refine z_iconst (x := 1) hX dX8_rowFault_83 (by decide) ?_
    refine z_goto hX 88 (by decide) dX8_rowFault_84 ?_
    refine z_iadd hX dX8_rowFault_88 ?_
    obtain ⟨x23, ex23, h⟩ := bd_some h
    refine z_top ex23 ?_
    refine z_istore_n (lv' := [(1, .int x23), (2, .int s0), (0, rf X.1 j0)]) hX dX8_rowFault_89 (by decide) rfl ?_
    refine z_goto hX 4 (by decide) dX8_rowFault_90 ?_
    refine z_sub (lv' := [(0, rf X.1 j0), (1, .int x23), (2, .int s0)]) [2, 0, 1] rfl ?_
    exact hk4 j0 x23 s0 hk_j0 h
set_option maxRecDepth 20000 in
set_option maxHeartbeats 4000000 in
theorem t_X8_rowFault_4 {X : CX} {N : Nat} {r : Int32} {σ : HP} (hR : OkX X RX8 cX8_rowFault 3 1 22 (some .int) (some (.int r)) σ)  : ∀ (n : Nat) (j0 : Nat) (a1 : Int32) (a2 : Int32), kd j0 = 8 → L_X8_rowFault_4  N σ n j0 a1 a2 = some r → Z X σ 4 [(0, rf X.1 j0), (1, .int a1), (2, .int a2)] [] := by
  have hX := hR.1
  intro n
  induction n with
  | zero =>
    intro j0 a1 a2 hk_j0 h
    rw [L_X8_rowFault_4] at h
    cases h
  | succ n ih =>
    intro j0 a1 a2 hk_j0 h
    rw [L_X8_rowFault_4] at h
    refine z_iload_n hX dX8_rowFault_4 1 rfl ?_
    refine z_aload_n hX dX8_rowFault_5 0 rfl ?_
    refine g_X8_141 hX hk_j0 dX8_rowFault_6 ?_
    rcases ite_or h with ⟨c21, h⟩ | ⟨c21, h⟩
    · refine z_icmp_ge_t hX 93 (by decide) dX8_rowFault_9 c21 ?_
      exact t_X8_rowFault_93 hR  hk_j0 h
    · refine z_icmp_ge_f hX 93 (by decide) dX8_rowFault_9 c21 ?_
      refine z_iload_n hX dX8_rowFault_12 2 rfl ?_
      rcases ite_or h with ⟨c22, h⟩ | ⟨c22, h⟩
      · refine z_if_eq_t hX 93 (by decide) dX8_rowFault_13 c22 ?_
        exact t_X8_rowFault_93 hR  hk_j0 h
      · refine z_if_eq_f hX 93 (by decide) dX8_rowFault_13 c22 ?_
        refine z_iload_n hX dX8_rowFault_16 1 rfl ?_
        refine z_iconst (x := 3) hX dX8_rowFault_17 (by decide) ?_
        refine z_irem hX dX8_rowFault_18 (by decide) ?_
        rcases ite_or h with ⟨c23, h⟩ | ⟨c23, h⟩
        · refine z_if_ne_f hX 38 (by decide) dX8_rowFault_19 c23 ?_
          refine z_aload_n hX dX8_rowFault_22 0 rfl ?_
          refine g_X8_22 hX hk_j0 dX8_rowFault_23 ?_
          refine z_iload_n hX dX8_rowFault_26 1 rfl ?_
          obtain ⟨g30, h⟩ := gd_some h
          refine z_cald hX (kl_8_6 hk_j0).1 (kl_8_6 hk_j0).2 g30 dX8_rowFault_27 ?_
          refine z_bipush (x := 97) hX dX8_rowFault_28 (by decide) ?_
          refine z_bipush (x := 122) hX dX8_rowFault_30 (by decide) ?_
          obtain ⟨r32, k31, h⟩ := bind_some h
          refine v_X8_47 hX (c_X8_in X.1 k31) (Nat.le_of_ble_eq_true rfl) (Nat.le_of_ble_eq_true rfl) (Nat.le_of_ble_eq_true rfl) dX8_rowFault_32 ?_
          refine z_goto hX 77 (by decide) dX8_rowFault_35 ?_
          refine z_sub (lv' := [(0, rf X.1 j0), (1, .int a1)]) [0, 1] rfl ?_
          exact t_X8_rowFault_77 hR (fun j0 a1 a2 hk_j0 h9 => ih j0 a1 a2 hk_j0 h9) hk_j0 h
        · refine z_if_ne_t hX 38 (by decide) dX8_rowFault_19 c23 ?_
          refine z_iload_n hX dX8_rowFault_38 1 rfl ?_
          refine z_iconst (x := 3) hX dX8_rowFault_39 (by decide) ?_
          refine z_irem hX dX8_rowFault_40 (by decide) ?_
          refine z_iconst (x := 1) hX dX8_rowFault_41 (by decide) ?_
          rcases ite_or h with ⟨c24, h⟩ | ⟨c24, h⟩
          · refine z_icmp_ne_f hX 61 (by decide) dX8_rowFault_42 c24 ?_
            refine z_aload_n hX dX8_rowFault_45 0 rfl ?_
            refine g_X8_22 hX hk_j0 dX8_rowFault_46 ?_
            refine z_iload_n hX dX8_rowFault_49 1 rfl ?_
            obtain ⟨g27, h⟩ := gd_some h
            refine z_cald hX (kl_8_6 hk_j0).1 (kl_8_6 hk_j0).2 g27 dX8_rowFault_50 ?_
            refine z_bipush (x := 49) hX dX8_rowFault_51 (by decide) ?_
            refine z_bipush (x := 57) hX dX8_rowFault_53 (by decide) ?_
            obtain ⟨r29, k28, h⟩ := bind_some h
            refine v_X8_47 hX (c_X8_in X.1 k28) (Nat.le_of_ble_eq_true rfl) (Nat.le_of_ble_eq_true rfl) (Nat.le_of_ble_eq_true rfl) dX8_rowFault_55 ?_
            refine z_goto hX 77 (by decide) dX8_rowFault_58 ?_
            refine z_sub (lv' := [(0, rf X.1 j0), (1, .int a1)]) [0, 1] rfl ?_
            exact t_X8_rowFault_77 hR (fun j0 a1 a2 hk_j0 h9 => ih j0 a1 a2 hk_j0 h9) hk_j0 h
          · refine z_icmp_ne_t hX 61 (by decide) dX8_rowFault_42 c24 ?_
            refine z_aload_n hX dX8_rowFault_61 0 rfl ?_
            refine g_X8_22 hX hk_j0 dX8_rowFault_62 ?_
            refine z_iload_n hX dX8_rowFault_65 1 rfl ?_
            obtain ⟨g25, h⟩ := gd_some h
            refine z_cald hX (kl_8_6 hk_j0).1 (kl_8_6 hk_j0).2 g25 dX8_rowFault_66 ?_
            refine z_bipush (x := 44) hX dX8_rowFault_67 (by decide) ?_
            rcases ite_or h with ⟨c26, h⟩ | ⟨c26, h⟩
            · refine z_icmp_ne_f hX 76 (by decide) dX8_rowFault_69 c26 ?_
              refine z_iconst (x := 1) hX dX8_rowFault_72 (by decide) ?_
              refine z_goto hX 77 (by decide) dX8_rowFault_73 ?_
              refine z_sub (lv' := [(0, rf X.1 j0), (1, .int a1)]) [0, 1] rfl ?_
              exact t_X8_rowFault_77 hR (fun j0 a1 a2 hk_j0 h9 => ih j0 a1 a2 hk_j0 h9) hk_j0 h
            · refine z_icmp_ne_t hX 76 (by decide) dX8_rowFault_69 c26 ?_
              refine z_iconst (x := 0) hX dX8_rowFault_76 (by decide) ?_
              refine z_sub (lv' := [(0, rf X.1 j0), (1, .int a1)]) [0, 1] rfl ?_
              exact t_X8_rowFault_77 hR (fun j0 a1 a2 hk_j0 h9 => ih j0 a1 a2 hk_j0 h9) hk_j0 h
set_option maxRecDepth 20000 in
set_option maxHeartbeats 4000000 in
theorem c_X8_rowFault (w : WP) {N : Nat} {j0 : Nat} {r : Int32} {σ : HP} (hk_j0 : kd j0 = 8) (h : F_X8_rowFault N j0 σ = some r) : Ct w yX8_rowFault cX8_rowFault 3 (some .int) 1 22 [rf w j0] σ (some (.int r)) σ := by
  refine z_met w (by decide +kernel) (Nat.le_of_ble_eq_true rfl) (fun X hw hX => ?_)
  subst hw
  have hR : OkX X RX8 cX8_rowFault 3 1 22 (some .int) (some (.int r)) σ := hX
  have hX := hR.1
  show Z X σ 0 [(0, rf X.1 j0)] []
  unfold F_X8_rowFault at h
  refine z_iconst (x := 0) hX dX8_rowFault_0 (by decide) ?_
  refine z_istore_n (lv' := [(1, .int 0), (0, rf X.1 j0)]) hX dX8_rowFault_1 (by decide) rfl ?_
  refine z_iconst (x := 1) hX dX8_rowFault_2 (by decide) ?_
  refine z_istore_n (lv' := [(2, .int 1), (1, .int 0), (0, rf X.1 j0)]) hX dX8_rowFault_3 (by decide) rfl ?_
  refine z_sub (lv' := [(0, rf X.1 j0), (1, .int 0), (2, .int 1)]) [2, 1, 0] rfl ?_
  exact t_X8_rowFault_4 hR  N j0 0 1 hk_j0 h
set_option maxRecDepth 20000 in
set_option maxHeartbeats 4000000 in
theorem t_X8_readRow_42 {X : CX} {N : Nat} {r : Int32} {σ' : HP} (hR : OkX X RX8 cX8_readRow 4 2 46 (some .int) (some (.int r)) σ')  : ∀ (n : Nat) (j0 : Nat) (a2 : Int32) (a3 : Int32) (σ : HP), kd j0 = 8 → L_X8_readRow_42  N n j0 a2 a3 σ = some (r, σ') → Z X σ 42 [(0, rf X.1 j0), (2, .int a2), (3, .int a3)] [] := by
  have hX := hR.1
  intro n
  induction n with
  | zero =>
    intro j0 a2 a3 σ hk_j0 h
    rw [L_X8_readRow_42] at h
    cases h
  | succ n ih =>
    intro j0 a2 a3 σ hk_j0 h
    rw [L_X8_readRow_42] at h
    refine z_iload_n hX dX8_readRow_42 2 rfl ?_
    refine z_iload_n hX dX8_readRow_43 1 rfl ?_
    rcases ite_or h with ⟨c21, h⟩ | ⟨c21, h⟩
    · refine z_icmp_ge_t hX 78 (by decide) dX8_readRow_44 c21 ?_
      refine z_aload_n hX dX8_readRow_78 0 rfl ?_
      refine g_X8_7 hX hk_j0 dX8_readRow_79 ?_
      refine z_iconst (x := 0) hX dX8_readRow_82 (by decide) ?_
      refine z_iald hX (kl_8_0 hk_j0).1 (kl_8_0 hk_j0).2 (by unfold vp_in; decide) dX8_readRow_83 ?_
      obtain ⟨rfl, rfl⟩ := ret2 h
      exact z_iret hR dX8_readRow_84
    · refine z_icmp_ge_f hX 78 (by decide) dX8_readRow_44 c21 ?_
      refine z_aload_n hX dX8_readRow_47 0 rfl ?_
      refine z_aload_n hX dX8_readRow_48 0 rfl ?_
      refine g_X8_22 hX hk_j0 dX8_readRow_49 ?_
      refine z_iconst (x := 3) hX dX8_readRow_52 (by decide) ?_
      refine z_iload_n hX dX8_readRow_53 2 rfl ?_
      refine z_imul hX dX8_readRow_54 ?_
      obtain ⟨g22, h⟩ := gd_some h
      refine z_cald hX (kl_8_6 hk_j0).1 (kl_8_6 hk_j0).2 g22 dX8_readRow_55 ?_
      refine z_aload_n hX dX8_readRow_56 0 rfl ?_
      refine g_X8_22 hX hk_j0 dX8_readRow_57 ?_
      refine z_iconst (x := 3) hX dX8_readRow_60 (by decide) ?_
      refine z_iload_n hX dX8_readRow_61 2 rfl ?_
      refine z_imul hX dX8_readRow_62 ?_
      refine z_iconst (x := 1) hX dX8_readRow_63 (by decide) ?_
      refine z_iadd hX dX8_readRow_64 ?_
      obtain ⟨g23, h⟩ := gd_some h
      refine z_cald hX (kl_8_6 hk_j0).1 (kl_8_6 hk_j0).2 g23 dX8_readRow_65 ?_
      refine z_bipush (x := 48) hX dX8_readRow_66 (by decide) ?_
      refine z_isub hX dX8_readRow_68 ?_
      obtain ⟨σ25, k24, h⟩ := bind_some h
      refine v_X8_132 hX hk_j0 (c_X8_comes X.1 hk_j0 k24) (Nat.le_of_ble_eq_true rfl) (Nat.le_of_ble_eq_true rfl) (Nat.le_of_ble_eq_true rfl) dX8_readRow_69 ?_
      refine z_iinc (y := (a3 + 1)) (lv' := [(3, .int (a3 + 1)), (0, rf X.1 j0), (2, .int a2)]) hX dX8_readRow_72 2 rfl rfl (by decide) rfl ?_
      refine z_goto hX 42 (by decide) dX8_readRow_75 ?_
      refine z_sub (lv' := [(0, rf X.1 j0), (2, .int a2), (3, .int (a3 + 1))]) [1, 2, 0] rfl ?_
      exact ih j0 a2 (a3 + 1) σ25 hk_j0 h
set_option maxRecDepth 20000 in
set_option maxHeartbeats 4000000 in
theorem c_X8_readRow (w : WP) {N : Nat} {j0 : Nat} {r : Int32} {σ σ' : HP} (hk_j0 : kd j0 = 8) (h : F_X8_readRow N j0 σ = some (r, σ')) : Ct w yX8_readRow cX8_readRow 4 (some .int) 2 46 [rf w j0] σ (some (.int r)) σ' := by
  refine z_met w (by decide +kernel) (Nat.le_of_ble_eq_true rfl) (fun X hw hX => ?_)
  subst hw
  have hR : OkX X RX8 cX8_readRow 4 2 46 (some .int) (some (.int r)) σ' := hX
  have hX := hR.1
  show Z X σ 0 [(0, rf X.1 j0)] []
  unfold F_X8_readRow at h
  refine z_aload_n hX dX8_readRow_0 0 rfl ?_
  obtain ⟨r22, k21, h⟩ := bind_some h
  refine v_X8_136 hX hk_j0 (c_X8_rowFault X.1 hk_j0 k21) (Nat.le_of_ble_eq_true rfl) (Nat.le_of_ble_eq_true rfl) (Nat.le_of_ble_eq_true rfl) dX8_readRow_1 ?_
  refine z_istore_n (lv' := [(1, .int r22), (0, rf X.1 j0)]) hX dX8_readRow_4 (by decide) rfl ?_
  refine z_iload_n hX dX8_readRow_5 0 rfl ?_
  refine z_ldc (x := (-1000005)) hX mc_X8_69 dX8_readRow_6 ?_
  rcases ite_or h with ⟨c23, h⟩ | ⟨c23, h⟩
  · refine z_icmp_eq_t hX 16 (by decide) dX8_readRow_8 c23 ?_
    refine z_aload_n hX dX8_readRow_16 1 rfl ?_
    refine g_X8_141 hX hk_j0 dX8_readRow_17 ?_
    refine z_iconst (x := 1) hX dX8_readRow_20 (by decide) ?_
    refine z_iadd hX dX8_readRow_21 ?_
    refine z_iconst (x := 3) hX dX8_readRow_22 (by decide) ?_
    refine z_idiv hX dX8_readRow_23 (by decide) ?_
    obtain ⟨x24, ex24, h⟩ := bd_some h
    refine z_top ex24 ?_
    refine z_istore_n (lv' := [(2, .int x24), (1, .int r22), (0, rf X.1 j0)]) hX dX8_readRow_24 (by decide) rfl ?_
    refine z_aload_n hX dX8_readRow_25 2 rfl ?_
    refine z_iload_n hX dX8_readRow_26 0 rfl ?_
    obtain ⟨r26, k25, h⟩ := bind_some h
    refine v_X8_124 hX hk_j0 (c_X8_isRoom X.1 hk_j0 k25) (Nat.le_of_ble_eq_true rfl) (Nat.le_of_ble_eq_true rfl) (Nat.le_of_ble_eq_true rfl) dX8_readRow_27 ?_
    rcases ite_or h with ⟨c27, h⟩ | ⟨c27, h⟩
    · refine z_if_ne_f hX 36 (by decide) dX8_readRow_30 c27 ?_
      refine z_ldc (x := (-1000003)) hX mc_X8_128 dX8_readRow_33 ?_
      obtain ⟨rfl, rfl⟩ := ret2 h
      exact z_iret hR dX8_readRow_35
    · refine z_if_ne_t hX 36 (by decide) dX8_readRow_30 c27 ?_
      refine z_aload_n hX dX8_readRow_36 2 rfl ?_
      obtain ⟨σ29, k28, h⟩ := bind_some h
      refine v_X8_129 hX hk_j0 (c_X8_records X.1 hk_j0 k28) (Nat.le_of_ble_eq_true rfl) (Nat.le_of_ble_eq_true rfl) (Nat.le_of_ble_eq_true rfl) dX8_readRow_37 ?_
      refine z_iconst (x := 0) hX dX8_readRow_40 (by decide) ?_
      refine z_istore_n (lv' := [(3, .int 0), (2, .int x24), (1, .int r22), (0, rf X.1 j0)]) hX dX8_readRow_41 (by decide) rfl ?_
      refine z_sub (lv' := [(0, rf X.1 j0), (2, .int x24), (3, .int 0)]) [3, 1, 0] rfl ?_
      exact t_X8_readRow_42 hR  N j0 x24 0 σ29 hk_j0 h
  · refine z_icmp_eq_f hX 16 (by decide) dX8_readRow_8 c23 ?_
    refine z_ldc (x := (-1000100)) hX mc_X8_140 dX8_readRow_11 ?_
    refine z_iload_n hX dX8_readRow_13 0 rfl ?_
    refine z_isub hX dX8_readRow_14 ?_
    obtain ⟨rfl, rfl⟩ := ret2 h
    exact z_iret hR dX8_readRow_15
set_option maxRecDepth 20000 in
set_option maxHeartbeats 4000000 in
theorem t_X8_go_47 {X : CX} {N : Nat} {r : Int32} {σ' : HP} (hR : OkX X RX8 cX8_go 3 2 45 (some .int) (some (.int r)) σ')  : ∀ (n : Nat) (j0 : Nat) (a2 : Int32) (σ : HP), kd j0 = 8 → L_X8_go_47  N n j0 a2 σ = some (r, σ') → Z X σ 47 [(0, rf X.1 j0), (2, .int a2)] [] := by
  have hX := hR.1
  intro n
  induction n with
  | zero =>
    intro j0 a2 σ hk_j0 h
    rw [L_X8_go_47] at h
    cases h
  | succ n ih =>
    intro j0 a2 σ hk_j0 h
    rw [L_X8_go_47] at h
    refine z_iload_n hX dX8_go_47 1 rfl ?_
    refine z_bipush (x := 12) hX dX8_go_48 (by decide) ?_
    refine z_bipush (x := 6) hX dX8_go_50 (by decide) ?_
    refine z_aload_n hX dX8_go_52 0 rfl ?_
    refine g_X8_7 hX hk_j0 dX8_go_53 ?_
    refine z_iconst (x := 0) hX dX8_go_56 (by decide) ?_
    refine z_iald hX (kl_8_0 hk_j0).1 (kl_8_0 hk_j0).2 (by unfold vp_in; decide) dX8_go_57 ?_
    refine z_imul hX dX8_go_58 ?_
    refine z_iadd hX dX8_go_59 ?_
    rcases ite_or h with ⟨c21, h⟩ | ⟨c21, h⟩
    · refine z_icmp_ge_t hX 84 (by decide) dX8_go_60 c21 ?_
      refine z_aload_n hX dX8_go_84 0 rfl ?_
      refine g_X8_7 hX hk_j0 dX8_go_85 ?_
      refine z_iconst (x := 0) hX dX8_go_88 (by decide) ?_
      refine z_iald hX (kl_8_0 hk_j0).1 (kl_8_0 hk_j0).2 (by unfold vp_in; decide) dX8_go_89 ?_
      obtain ⟨rfl, rfl⟩ := ret2 h
      exact z_iret hR dX8_go_90
    · refine z_icmp_ge_f hX 84 (by decide) dX8_go_60 c21 ?_
      refine z_aload_n hX dX8_go_63 0 rfl ?_
      refine g_X8_7 hX hk_j0 dX8_go_64 ?_
      refine z_iload_n hX dX8_go_67 1 rfl ?_
      refine z_aload_n hX dX8_go_68 0 rfl ?_
      refine g_X8_7 hX hk_j0 dX8_go_69 ?_
      refine z_iload_n hX dX8_go_72 1 rfl ?_
      refine z_bipush (x := 6) hX dX8_go_73 (by decide) ?_
      refine z_iadd hX dX8_go_75 ?_
      obtain ⟨g22, h⟩ := gd_some h
      refine z_iald hX (kl_8_0 hk_j0).1 (kl_8_0 hk_j0).2 g22 dX8_go_76 ?_
      obtain ⟨g23, h⟩ := gd_some h
      obtain ⟨σ24, eσ24, h⟩ := bd_some h
      refine z_iast hX (kl_8_0 hk_j0).1 (kl_8_0 hk_j0).2 g23 dX8_go_77 ?_
      refine z_ms eσ24 ?_
      refine z_iinc (y := (a2 + 1)) (lv' := [(2, .int (a2 + 1)), (0, rf X.1 j0)]) hX dX8_go_78 1 rfl rfl (by decide) rfl ?_
      refine z_goto hX 47 (by decide) dX8_go_81 ?_
      refine z_sub (lv' := [(0, rf X.1 j0), (2, .int (a2 + 1))]) [1, 0] rfl ?_
      exact ih j0 (a2 + 1) σ24 hk_j0 h
set_option maxRecDepth 20000 in
set_option maxHeartbeats 4000000 in
theorem c_X8_go (w : WP) {N : Nat} {j0 : Nat} {a1 : Int32} {r : Int32} {σ σ' : HP} (hk_j0 : kd j0 = 8) (h : F_X8_go N j0 a1 σ = some (r, σ')) : Ct w yX8_go cX8_go 3 (some .int) 2 45 [rf w j0, .int a1] σ (some (.int r)) σ' := by
  refine z_met w (by decide +kernel) (Nat.le_of_ble_eq_true rfl) (fun X hw hX => ?_)
  subst hw
  have hR : OkX X RX8 cX8_go 3 2 45 (some .int) (some (.int r)) σ' := hX
  have hX := hR.1
  show Z X σ 0 [(0, rf X.1 j0), (1, .int a1)] []
  unfold F_X8_go at h
  refine z_aload_n hX dX8_go_0 0 rfl ?_
  refine z_iload_n hX dX8_go_1 1 rfl ?_
  obtain ⟨r22, k21, h⟩ := bind_some h
  refine v_X8_144 hX hk_j0 (c_X8_isPlace X.1 hk_j0 k21) (Nat.le_of_ble_eq_true rfl) (Nat.le_of_ble_eq_true rfl) (Nat.le_of_ble_eq_true rfl) dX8_go_2 ?_
  rcases ite_or h with ⟨c23, h⟩ | ⟨c23, h⟩
  · refine z_if_ne_f hX 11 (by decide) dX8_go_5 c23 ?_
    refine z_ldc (x := (-1000001)) hX mc_X8_147 dX8_go_8 ?_
    obtain ⟨rfl, rfl⟩ := ret2 h
    exact z_iret hR dX8_go_10
  · refine z_if_ne_t hX 11 (by decide) dX8_go_5 c23 ?_
    refine z_aload_n hX dX8_go_11 0 rfl ?_
    refine g_X8_7 hX hk_j0 dX8_go_12 ?_
    refine z_iload_n hX dX8_go_15 1 rfl ?_
    obtain ⟨r25, k24, h⟩ := bind_some h
    refine v_X8_59 hX (c_X8_isTangled X.1 (kl_8_0 hk_j0).1 (kl_8_0 hk_j0).2 k24) (Nat.le_of_ble_eq_true rfl) (Nat.le_of_ble_eq_true rfl) (Nat.le_of_ble_eq_true rfl) dX8_go_16 ?_
    rcases ite_or h with ⟨c26, h⟩ | ⟨c26, h⟩
    · refine z_if_eq_t hX 25 (by decide) dX8_go_19 c26 ?_
      refine z_aload_n hX dX8_go_25 0 rfl ?_
      obtain ⟨σ28, k27, h⟩ := bind_some h
      refine v_X8_129 hX hk_j0 (c_X8_records X.1 hk_j0 k27) (Nat.le_of_ble_eq_true rfl) (Nat.le_of_ble_eq_true rfl) (Nat.le_of_ble_eq_true rfl) dX8_go_26 ?_
      refine z_aload_n hX dX8_go_29 0 rfl ?_
      refine g_X8_7 hX hk_j0 dX8_go_30 ?_
      refine z_iconst (x := 0) hX dX8_go_33 (by decide) ?_
      refine z_dup2 hX rfl rfl dX8_go_34 ?_
      refine z_iald hX (kl_8_0 hk_j0).1 (kl_8_0 hk_j0).2 (by unfold vp_in; decide) dX8_go_35 ?_
      refine z_iconst (x := 1) hX dX8_go_36 (by decide) ?_
      refine z_isub hX dX8_go_37 ?_
      obtain ⟨σ29, eσ29, h⟩ := bd_some h
      refine z_iast hX (kl_8_0 hk_j0).1 (kl_8_0 hk_j0).2 (by unfold vp_in; decide) dX8_go_38 ?_
      refine z_ms eσ29 ?_
      refine z_bipush (x := 12) hX dX8_go_39 (by decide) ?_
      refine z_bipush (x := 6) hX dX8_go_41 (by decide) ?_
      refine z_iload_n hX dX8_go_43 1 rfl ?_
      refine z_imul hX dX8_go_44 ?_
      refine z_iadd hX dX8_go_45 ?_
      obtain ⟨x30, ex30, h⟩ := bd_some h
      refine z_top ex30 ?_
      refine z_istore_n (lv' := [(2, .int x30), (0, rf X.1 j0), (1, .int a1)]) hX dX8_go_46 (by decide) rfl ?_
      refine z_sub (lv' := [(0, rf X.1 j0), (2, .int x30)]) [1, 0] rfl ?_
      exact t_X8_go_47 hR  N j0 x30 σ29 hk_j0 h
    · refine z_if_eq_f hX 25 (by decide) dX8_go_19 c26 ?_
      refine z_ldc (x := (-1000004)) hX mc_X8_148 dX8_go_22 ?_
      obtain ⟨rfl, rfl⟩ := ret2 h
      exact z_iret hR dX8_go_24
set_option maxRecDepth 20000 in
set_option maxHeartbeats 4000000 in
theorem c_X8_pay (w : WP) {N : Nat} {j0 : Nat} {a1 : Int32} {a2 : Int32} {r : Int32} {σ σ' : HP} (hk_j0 : kd j0 = 8) (h : F_X8_pay N j0 a1 a2 σ = some (r, σ')) : Ct w yX8_pay cX8_pay 4 (some .int) 2 45 [rf w j0, .int a1, .int a2] σ (some (.int r)) σ' := by
  refine z_met w (by decide +kernel) (Nat.le_of_ble_eq_true rfl) (fun X hw hX => ?_)
  subst hw
  have hR : OkX X RX8 cX8_pay 4 2 45 (some .int) (some (.int r)) σ' := hX
  have hX := hR.1
  show Z X σ 0 [(0, rf X.1 j0), (1, .int a1), (2, .int a2)] []
  unfold F_X8_pay at h
  refine z_aload_n hX dX8_pay_0 0 rfl ?_
  refine z_iload_n hX dX8_pay_1 1 rfl ?_
  obtain ⟨r22, k21, h⟩ := bind_some h
  refine v_X8_144 hX hk_j0 (c_X8_isPlace X.1 hk_j0 k21) (Nat.le_of_ble_eq_true rfl) (Nat.le_of_ble_eq_true rfl) (Nat.le_of_ble_eq_true rfl) dX8_pay_2 ?_
  rcases ite_or h with ⟨c23, h⟩ | ⟨c23, h⟩
  · refine z_if_ne_f hX 11 (by decide) dX8_pay_5 c23 ?_
    refine z_ldc (x := (-1000001)) hX mc_X8_147 dX8_pay_8 ?_
    obtain ⟨rfl, rfl⟩ := ret2 h
    exact z_iret hR dX8_pay_10
  · refine z_if_ne_t hX 11 (by decide) dX8_pay_5 c23 ?_
    refine z_iload_n hX dX8_pay_11 2 rfl ?_
    refine z_iconst (x := 1) hX dX8_pay_12 (by decide) ?_
    refine z_bipush (x := 9) hX dX8_pay_13 (by decide) ?_
    obtain ⟨r25, k24, h⟩ := bind_some h
    refine v_X8_47 hX (c_X8_in X.1 k24) (Nat.le_of_ble_eq_true rfl) (Nat.le_of_ble_eq_true rfl) (Nat.le_of_ble_eq_true rfl) dX8_pay_15 ?_
    rcases ite_or h with ⟨c26, h⟩ | ⟨c26, h⟩
    · refine z_if_ne_f hX 24 (by decide) dX8_pay_18 c26 ?_
      refine z_ldc (x := (-1000002)) hX mc_X8_123 dX8_pay_21 ?_
      obtain ⟨rfl, rfl⟩ := ret2 h
      exact z_iret hR dX8_pay_23
    · refine z_if_ne_t hX 24 (by decide) dX8_pay_18 c26 ?_
      refine z_aload_n hX dX8_pay_24 0 rfl ?_
      refine g_X8_7 hX hk_j0 dX8_pay_25 ?_
      refine z_iload_n hX dX8_pay_28 1 rfl ?_
      refine z_iconst (x := 2) hX dX8_pay_29 (by decide) ?_
      obtain ⟨r28, k27, h⟩ := bind_some h
      refine v_X8_51 hX (c_X8_of X.1 (kl_8_0 hk_j0).1 (kl_8_0 hk_j0).2 k27) (Nat.le_of_ble_eq_true rfl) (Nat.le_of_ble_eq_true rfl) (Nat.le_of_ble_eq_true rfl) dX8_pay_30 ?_
      refine z_istore_n (lv' := [(3, .int r28), (0, rf X.1 j0), (1, .int a1), (2, .int a2)]) hX dX8_pay_33 (by decide) rfl ?_
      refine z_iload_n hX dX8_pay_34 0 rfl ?_
      refine z_iload_n hX dX8_pay_35 3 rfl ?_
      rcases ite_or h with ⟨c29, h⟩ | ⟨c29, h⟩
      · refine z_icmp_ne_f hX 42 (by decide) dX8_pay_36 c29 ?_
        refine z_ldc (x := (-1000005)) hX mc_X8_69 dX8_pay_39 ?_
        obtain ⟨rfl, rfl⟩ := ret2 h
        exact z_iret hR dX8_pay_41
      · refine z_icmp_ne_t hX 42 (by decide) dX8_pay_36 c29 ?_
        refine z_aload_n hX dX8_pay_42 1 rfl ?_
        obtain ⟨σ31, k30, h⟩ := bind_some h
        refine v_X8_129 hX hk_j0 (c_X8_records X.1 hk_j0 k30) (Nat.le_of_ble_eq_true rfl) (Nat.le_of_ble_eq_true rfl) (Nat.le_of_ble_eq_true rfl) dX8_pay_43 ?_
        refine z_aload_n hX dX8_pay_46 1 rfl ?_
        refine g_X8_7 hX hk_j0 dX8_pay_47 ?_
        refine z_iload_n hX dX8_pay_50 2 rfl ?_
        refine z_iconst (x := 2) hX dX8_pay_51 (by decide) ?_
        refine z_iload_n hX dX8_pay_52 3 rfl ?_
        obtain ⟨σ33, k32, h⟩ := bind_some h
        refine v_X8_84 hX (c_X8_puts X.1 (kl_8_0 hk_j0).1 (kl_8_0 hk_j0).2 k32) (Nat.le_of_ble_eq_true rfl) (Nat.le_of_ble_eq_true rfl) (Nat.le_of_ble_eq_true rfl) dX8_pay_53 ?_
        refine z_iload_n hX dX8_pay_56 0 rfl ?_
        obtain ⟨rfl, rfl⟩ := ret2 h
        exact z_iret hR dX8_pay_57
set_option maxRecDepth 20000 in
set_option maxHeartbeats 4000000 in
theorem c_X8_trade (w : WP) {N : Nat} {j0 : Nat} {a1 : Int32} {r : Int32} {σ σ' : HP} (hk_j0 : kd j0 = 8) (h : F_X8_trade N j0 a1 σ = some (r, σ')) : Ct w yX8_trade cX8_trade 2 (some .int) 7 159 [rf w j0, .int a1] σ (some (.int r)) σ' := by
  refine z_met w (by decide +kernel) (Nat.le_of_ble_eq_true rfl) (fun X hw hX => ?_)
  subst hw
  have hR : OkX X RX8 cX8_trade 2 7 159 (some .int) (some (.int r)) σ' := hX
  have hX := hR.1
  show Z X σ 0 [(0, rf X.1 j0), (1, .int a1)] []
  unfold F_X8_trade at h
  refine z_iload_n hX dX8_trade_0 1 rfl ?_
  refine z_iconst (x := 0) hX dX8_trade_1 (by decide) ?_
  refine z_aload_n hX dX8_trade_2 0 rfl ?_
  refine g_X8_7 hX hk_j0 dX8_trade_3 ?_
  refine z_iconst (x := 0) hX dX8_trade_6 (by decide) ?_
  refine z_iald hX (kl_8_0 hk_j0).1 (kl_8_0 hk_j0).2 (by unfold vp_in; decide) dX8_trade_7 ?_
  refine z_iconst (x := 2) hX dX8_trade_8 (by decide) ?_
  refine z_isub hX dX8_trade_9 ?_
  obtain ⟨r22, k21, h⟩ := bind_some h
  refine v_X8_47 hX (c_X8_in X.1 k21) (Nat.le_of_ble_eq_true rfl) (Nat.le_of_ble_eq_true rfl) (Nat.le_of_ble_eq_true rfl) dX8_trade_10 ?_
  rcases ite_or h with ⟨c23, h⟩ | ⟨c23, h⟩
  · refine z_if_ne_f hX 19 (by decide) dX8_trade_13 c23 ?_
    refine z_ldc (x := (-1000001)) hX mc_X8_147 dX8_trade_16 ?_
    obtain ⟨rfl, rfl⟩ := ret2 h
    exact z_iret hR dX8_trade_18
  · refine z_if_ne_t hX 19 (by decide) dX8_trade_13 c23 ?_
    refine z_aload_n hX dX8_trade_19 0 rfl ?_
    refine g_X8_7 hX hk_j0 dX8_trade_20 ?_
    refine z_iload_n hX dX8_trade_23 1 rfl ?_
    obtain ⟨r25, k24, h⟩ := bind_some h
    refine v_X8_59 hX (c_X8_isTangled X.1 (kl_8_0 hk_j0).1 (kl_8_0 hk_j0).2 k24) (Nat.le_of_ble_eq_true rfl) (Nat.le_of_ble_eq_true rfl) (Nat.le_of_ble_eq_true rfl) dX8_trade_24 ?_
    rcases ite_or h with ⟨c26, h⟩ | ⟨c26, h⟩
    · refine z_if_ne_f hX 55 (by decide) dX8_trade_27 c26 ?_
      refine z_aload_n hX dX8_trade_30 0 rfl ?_
      refine g_X8_7 hX hk_j0 dX8_trade_31 ?_
      refine z_iload_n hX dX8_trade_34 1 rfl ?_
      refine z_iconst (x := 1) hX dX8_trade_35 (by decide) ?_
      refine z_iadd hX dX8_trade_36 ?_
      obtain ⟨r28, k27, h⟩ := bind_some h
      refine v_X8_59 hX (c_X8_isTangled X.1 (kl_8_0 hk_j0).1 (kl_8_0 hk_j0).2 k27) (Nat.le_of_ble_eq_true rfl) (Nat.le_of_ble_eq_true rfl) (Nat.le_of_ble_eq_true rfl) dX8_trade_37 ?_
      rcases ite_or h with ⟨c29, h⟩ | ⟨c29, h⟩
      · refine z_if_ne_f hX 55 (by decide) dX8_trade_40 c29 ?_
        refine z_aload_n hX dX8_trade_43 0 rfl ?_
        refine g_X8_7 hX hk_j0 dX8_trade_44 ?_
        refine z_iconst (x := 1) hX dX8_trade_47 (by decide) ?_
        refine z_iald hX (kl_8_0 hk_j0).1 (kl_8_0 hk_j0).2 (by unfold vp_in; decide) dX8_trade_48 ?_
        refine z_sipush (x := 9999) hX dX8_trade_49 (by decide) ?_
        rcases ite_or h with ⟨c30, h⟩ | ⟨c30, h⟩
        · refine z_icmp_ne_f hX 58 (by decide) dX8_trade_52 c30 ?_
          refine z_ldc (x := (-1000004)) hX mc_X8_148 dX8_trade_55 ?_
          obtain ⟨rfl, rfl⟩ := ret2 h
          exact z_iret hR dX8_trade_57
        · refine z_icmp_ne_t hX 58 (by decide) dX8_trade_52 c30 ?_
          refine z_aload_n hX dX8_trade_58 0 rfl ?_
          obtain ⟨σ32, k31, h⟩ := bind_some h
          refine v_X8_129 hX hk_j0 (c_X8_records X.1 hk_j0 k31) (Nat.le_of_ble_eq_true rfl) (Nat.le_of_ble_eq_true rfl) (Nat.le_of_ble_eq_true rfl) dX8_trade_59 ?_
          refine z_aload_n hX dX8_trade_62 0 rfl ?_
          refine z_aload_n hX dX8_trade_63 0 rfl ?_
          refine g_X8_7 hX hk_j0 dX8_trade_64 ?_
          refine z_iload_n hX dX8_trade_67 1 rfl ?_
          obtain ⟨r34, σ35, k33, h⟩ := bind2_some h
          refine v_X8_149 hX hk_j0 (c_X8_trades X.1 hk_j0 (kl_8_0 hk_j0).1 (kl_8_0 hk_j0).2 k33) (Nat.le_of_ble_eq_true rfl) (Nat.le_of_ble_eq_true rfl) (Nat.le_of_ble_eq_true rfl) dX8_trade_68 ?_
          rcases ite_or h with ⟨c36, h⟩ | ⟨c36, h⟩
          · refine z_if_eq_t hX 78 (by decide) dX8_trade_71 c36 ?_
            refine z_iconst (x := 0) hX dX8_trade_78 (by decide) ?_
            obtain ⟨rfl, rfl⟩ := ret2 h
            exact z_iret hR dX8_trade_79
          · refine z_if_eq_f hX 78 (by decide) dX8_trade_71 c36 ?_
            refine z_iconst (x := 1) hX dX8_trade_74 (by decide) ?_
            refine z_goto hX 79 (by decide) dX8_trade_75 ?_
            obtain ⟨rfl, rfl⟩ := ret2 h
            exact z_iret hR dX8_trade_79
      · refine z_if_ne_t hX 55 (by decide) dX8_trade_40 c29 ?_
        refine z_ldc (x := (-1000004)) hX mc_X8_148 dX8_trade_55 ?_
        obtain ⟨rfl, rfl⟩ := ret2 h
        exact z_iret hR dX8_trade_57
    · refine z_if_ne_t hX 55 (by decide) dX8_trade_27 c26 ?_
      refine z_ldc (x := (-1000004)) hX mc_X8_148 dX8_trade_55 ?_
      obtain ⟨rfl, rfl⟩ := ret2 h
      exact z_iret hR dX8_trade_57
set_option maxRecDepth 20000 in
set_option maxHeartbeats 4000000 in
theorem t_X8_pass_38 {X : CX} {N : Nat} {r : Int32} {σ' : HP} (hR : OkX X RX8 cX8_pass 4 6 135 (some .int) (some (.int r)) σ')  : ∀ (n : Nat) (j0 : Nat) (a1 : Int32) (a2 : Int32) (a3 : Int32) (σ : HP), kd j0 = 8 → L_X8_pass_38  N n j0 a1 a2 a3 σ = some (r, σ') → Z X σ 38 [(0, rf X.1 j0), (1, .int a1), (2, .int a2), (3, .int a3)] [] := by
  have hX := hR.1
  intro n
  induction n with
  | zero =>
    intro j0 a1 a2 a3 σ hk_j0 h
    rw [L_X8_pass_38] at h
    cases h
  | succ n ih =>
    intro j0 a1 a2 a3 σ hk_j0 h
    rw [L_X8_pass_38] at h
    refine z_iload_n hX dX8_pass_38 3 rfl ?_
    refine z_iload_n hX dX8_pass_39 1 rfl ?_
    rcases ite_or h with ⟨c21, h⟩ | ⟨c21, h⟩
    · refine z_icmp_ge_t hX 60 (by decide) dX8_pass_40 c21 ?_
      refine z_iload_n hX dX8_pass_60 2 rfl ?_
      obtain ⟨rfl, rfl⟩ := ret2 h
      exact z_iret hR dX8_pass_61
    · refine z_icmp_ge_f hX 60 (by decide) dX8_pass_40 c21 ?_
      refine z_iload_n hX dX8_pass_43 2 rfl ?_
      refine z_aload_n hX dX8_pass_44 0 rfl ?_
      refine z_aload_n hX dX8_pass_45 0 rfl ?_
      refine g_X8_7 hX hk_j0 dX8_pass_46 ?_
      obtain ⟨r23, σ24, k22, h⟩ := bind2_some h
      refine v_X8_111 hX hk_j0 (c_X8_minute X.1 hk_j0 (kl_8_0 hk_j0).1 (kl_8_0 hk_j0).2 k22) (Nat.le_of_ble_eq_true rfl) (Nat.le_of_ble_eq_true rfl) (Nat.le_of_ble_eq_true rfl) dX8_pass_49 ?_
      refine z_iadd hX dX8_pass_52 ?_
      obtain ⟨x25, ex25, h⟩ := bd_some h
      refine z_top ex25 ?_
      refine z_istore_n (lv' := [(2, .int x25), (0, rf X.1 j0), (1, .int a1), (3, .int a3)]) hX dX8_pass_53 (by decide) rfl ?_
      refine z_iinc (y := (a3 + 1)) (lv' := [(3, .int (a3 + 1)), (2, .int x25), (0, rf X.1 j0), (1, .int a1)]) hX dX8_pass_54 3 rfl rfl (by decide) rfl ?_
      refine z_goto hX 38 (by decide) dX8_pass_57 ?_
      refine z_sub (lv' := [(0, rf X.1 j0), (1, .int a1), (2, .int x25), (3, .int (a3 + 1))]) [2, 3, 1, 0] rfl ?_
      exact ih j0 a1 x25 (a3 + 1) σ24 hk_j0 h
set_option maxRecDepth 20000 in
set_option maxHeartbeats 4000000 in
theorem c_X8_pass (w : WP) {N : Nat} {j0 : Nat} {a1 : Int32} {r : Int32} {σ σ' : HP} (hk_j0 : kd j0 = 8) (h : F_X8_pass N j0 a1 σ = some (r, σ')) : Ct w yX8_pass cX8_pass 4 (some .int) 6 135 [rf w j0, .int a1] σ (some (.int r)) σ' := by
  refine z_met w (by decide +kernel) (Nat.le_of_ble_eq_true rfl) (fun X hw hX => ?_)
  subst hw
  have hR : OkX X RX8 cX8_pass 4 6 135 (some .int) (some (.int r)) σ' := hX
  have hX := hR.1
  show Z X σ 0 [(0, rf X.1 j0), (1, .int a1)] []
  unfold F_X8_pass at h
  refine z_iload_n hX dX8_pass_0 1 rfl ?_
  refine z_iconst (x := 1) hX dX8_pass_1 (by decide) ?_
  refine z_bipush (x := 60) hX dX8_pass_2 (by decide) ?_
  obtain ⟨r22, k21, h⟩ := bind_some h
  refine v_X8_47 hX (c_X8_in X.1 k21) (Nat.le_of_ble_eq_true rfl) (Nat.le_of_ble_eq_true rfl) (Nat.le_of_ble_eq_true rfl) dX8_pass_4 ?_
  rcases ite_or h with ⟨c23, h⟩ | ⟨c23, h⟩
  · refine z_if_ne_f hX 13 (by decide) dX8_pass_7 c23 ?_
    refine z_ldc (x := (-1000002)) hX mc_X8_123 dX8_pass_10 ?_
    obtain ⟨rfl, rfl⟩ := ret2 h
    exact z_iret hR dX8_pass_12
  · refine z_if_ne_t hX 13 (by decide) dX8_pass_7 c23 ?_
    refine z_aload_n hX dX8_pass_13 0 rfl ?_
    refine g_X8_7 hX hk_j0 dX8_pass_14 ?_
    refine z_iconst (x := 1) hX dX8_pass_17 (by decide) ?_
    refine z_iald hX (kl_8_0 hk_j0).1 (kl_8_0 hk_j0).2 (by unfold vp_in; decide) dX8_pass_18 ?_
    refine z_iload_n hX dX8_pass_19 1 rfl ?_
    refine z_iadd hX dX8_pass_20 ?_
    refine z_sipush (x := 9999) hX dX8_pass_21 (by decide) ?_
    rcases ite_or h with ⟨c24, h⟩ | ⟨c24, h⟩
    · refine z_icmp_le_t hX 30 (by decide) dX8_pass_24 c24 ?_
      refine z_aload_n hX dX8_pass_30 0 rfl ?_
      obtain ⟨σ26, k25, h⟩ := bind_some h
      refine v_X8_129 hX hk_j0 (c_X8_records X.1 hk_j0 k25) (Nat.le_of_ble_eq_true rfl) (Nat.le_of_ble_eq_true rfl) (Nat.le_of_ble_eq_true rfl) dX8_pass_31 ?_
      refine z_iconst (x := 0) hX dX8_pass_34 (by decide) ?_
      refine z_istore_n (lv' := [(2, .int 0), (0, rf X.1 j0), (1, .int a1)]) hX dX8_pass_35 (by decide) rfl ?_
      refine z_iconst (x := 0) hX dX8_pass_36 (by decide) ?_
      refine z_istore_n (lv' := [(3, .int 0), (2, .int 0), (0, rf X.1 j0), (1, .int a1)]) hX dX8_pass_37 (by decide) rfl ?_
      refine z_sub (lv' := [(0, rf X.1 j0), (1, .int a1), (2, .int 0), (3, .int 0)]) [2, 3, 1, 0] rfl ?_
      exact t_X8_pass_38 hR  N j0 a1 0 0 σ26 hk_j0 h
    · refine z_icmp_le_f hX 30 (by decide) dX8_pass_24 c24 ?_
      refine z_ldc (x := (-1000003)) hX mc_X8_128 dX8_pass_27 ?_
      obtain ⟨rfl, rfl⟩ := ret2 h
      exact z_iret hR dX8_pass_29
set_option maxRecDepth 20000 in
set_option maxHeartbeats 4000000 in
theorem c_X8_isWind (w : WP) {N : Nat} {a0 : Int32} {a1 : Int32} {r : Int32} {σ : HP} (h : F_X8_isWind N a0 a1 σ = some r) : Ct w yX8_isWind cX8_isWind 2 (some .boolean) 1 22 [.int a0, .int a1] σ (some (.int r)) σ := by
  refine z_met w (by decide +kernel) (Nat.le_of_ble_eq_true rfl) (fun X hw hX => ?_)
  subst hw
  have hR : OkX X RX8 cX8_isWind 2 1 22 (some .boolean) (some (.int r)) σ := hX
  have hX := hR.1
  show Z X σ 0 [(0, .int a0), (1, .int a1)] []
  unfold F_X8_isWind at h
  refine z_iload_n hX dX8_isWind_0 0 rfl ?_
  refine z_iconst (x := 0) hX dX8_isWind_1 (by decide) ?_
  refine z_iconst (x := 3) hX dX8_isWind_2 (by decide) ?_
  obtain ⟨r22, k21, h⟩ := bind_some h
  refine v_X8_47 hX (c_X8_in X.1 k21) (Nat.le_of_ble_eq_true rfl) (Nat.le_of_ble_eq_true rfl) (Nat.le_of_ble_eq_true rfl) dX8_isWind_3 ?_
  rcases ite_or h with ⟨c23, h⟩ | ⟨c23, h⟩
  · refine z_if_eq_t hX 22 (by decide) dX8_isWind_6 c23 ?_
    refine z_iconst (x := 0) hX dX8_isWind_22 (by decide) ?_
    obtain rfl := ret1 h
    exact z_zret hR rfl dX8_isWind_23
  · refine z_if_eq_f hX 22 (by decide) dX8_isWind_6 c23 ?_
    refine z_iload_n hX dX8_isWind_9 1 rfl ?_
    refine z_iconst (x := 0) hX dX8_isWind_10 (by decide) ?_
    refine z_iconst (x := 5) hX dX8_isWind_11 (by decide) ?_
    obtain ⟨r25, k24, h⟩ := bind_some h
    refine v_X8_47 hX (c_X8_in X.1 k24) (Nat.le_of_ble_eq_true rfl) (Nat.le_of_ble_eq_true rfl) (Nat.le_of_ble_eq_true rfl) dX8_isWind_12 ?_
    rcases ite_or h with ⟨c26, h⟩ | ⟨c26, h⟩
    · refine z_if_eq_t hX 22 (by decide) dX8_isWind_15 c26 ?_
      refine z_iconst (x := 0) hX dX8_isWind_22 (by decide) ?_
      obtain rfl := ret1 h
      exact z_zret hR rfl dX8_isWind_23
    · refine z_if_eq_f hX 22 (by decide) dX8_isWind_15 c26 ?_
      refine z_iconst (x := 1) hX dX8_isWind_18 (by decide) ?_
      refine z_goto hX 23 (by decide) dX8_isWind_19 ?_
      obtain rfl := ret1 h
      exact z_zret hR rfl dX8_isWind_23
set_option maxRecDepth 20000 in
set_option maxHeartbeats 4000000 in
theorem t_X8_wind_34 {X : CX} {N : Nat} {j0 : Nat} {a1 : Int32} {a2 : Int32} {r : Int32} {σ σ' : HP} (hR : OkX X RX8 cX8_wind 3 5 112 (some .int) (some (.int r)) σ')  (hk_j0 : kd j0 = 8) (h : J_X8_wind_34  N j0 a1 a2 σ = some (r, σ')) : Z X σ 34 [(0, rf X.1 j0), (1, .int a1), (2, .int a2)] [] := by
  have hX := hR.1
  unfold J_X8_wind_34 at h
  refine z_aload_n hX dX8_wind_34 0 rfl ?_
  obtain ⟨σ22, k21, h⟩ := bind_some h
  refine v_X8_129 hX hk_j0 (c_X8_records X.1 hk_j0 k21) (Nat.le_of_ble_eq_true rfl) (Nat.le_of_ble_eq_true rfl) (Nat.le_of_ble_eq_true rfl) dX8_wind_35 ?_
  refine z_aload_n hX dX8_wind_38 0 rfl ?_
  refine z_aload_n hX dX8_wind_39 0 rfl ?_
  refine g_X8_7 hX hk_j0 dX8_wind_40 ?_
  refine z_iload_n hX dX8_wind_43 1 rfl ?_
  refine z_iload_n hX dX8_wind_44 2 rfl ?_
  obtain ⟨r24, σ25, k23, h⟩ := bind2_some h
  refine v_X8_102 hX hk_j0 (c_X8_blows X.1 hk_j0 (kl_8_0 hk_j0).1 (kl_8_0 hk_j0).2 k23) (Nat.le_of_ble_eq_true rfl) (Nat.le_of_ble_eq_true rfl) (Nat.le_of_ble_eq_true rfl) dX8_wind_45 ?_
  obtain ⟨rfl, rfl⟩ := ret2 h
  exact z_iret hR dX8_wind_48
set_option maxRecDepth 20000 in
set_option maxHeartbeats 4000000 in
theorem c_X8_wind (w : WP) {N : Nat} {j0 : Nat} {a1 : Int32} {a2 : Int32} {r : Int32} {σ σ' : HP} (hk_j0 : kd j0 = 8) (h : F_X8_wind N j0 a1 a2 σ = some (r, σ')) : Ct w yX8_wind cX8_wind 3 (some .int) 5 112 [rf w j0, .int a1, .int a2] σ (some (.int r)) σ' := by
  refine z_met w (by decide +kernel) (Nat.le_of_ble_eq_true rfl) (fun X hw hX => ?_)
  subst hw
  have hR : OkX X RX8 cX8_wind 3 5 112 (some .int) (some (.int r)) σ' := hX
  have hX := hR.1
  show Z X σ 0 [(0, rf X.1 j0), (1, .int a1), (2, .int a2)] []
  unfold F_X8_wind at h
  refine z_iload_n hX dX8_wind_0 1 rfl ?_
  refine z_iload_n hX dX8_wind_1 2 rfl ?_
  obtain ⟨r22, k21, h⟩ := bind_some h
  refine v_X8_152 hX (c_X8_isWind X.1 k21) (Nat.le_of_ble_eq_true rfl) (Nat.le_of_ble_eq_true rfl) (Nat.le_of_ble_eq_true rfl) dX8_wind_2 ?_
  rcases ite_or h with ⟨c23, h⟩ | ⟨c23, h⟩
  · refine z_if_ne_f hX 11 (by decide) dX8_wind_5 c23 ?_
    refine z_ldc (x := (-1000002)) hX mc_X8_123 dX8_wind_8 ?_
    obtain ⟨rfl, rfl⟩ := ret2 h
    exact z_iret hR dX8_wind_10
  · refine z_if_ne_t hX 11 (by decide) dX8_wind_5 c23 ?_
    refine z_aload_n hX dX8_wind_11 0 rfl ?_
    refine g_X8_7 hX hk_j0 dX8_wind_12 ?_
    refine z_iconst (x := 2) hX dX8_wind_15 (by decide) ?_
    refine z_iald hX (kl_8_0 hk_j0).1 (kl_8_0 hk_j0).2 (by unfold vp_in; decide) dX8_wind_16 ?_
    refine z_iload_n hX dX8_wind_17 1 rfl ?_
    rcases ite_or h with ⟨c24, h⟩ | ⟨c24, h⟩
    · refine z_icmp_ne_f hX 34 (by decide) dX8_wind_18 c24 ?_
      refine z_aload_n hX dX8_wind_21 0 rfl ?_
      refine g_X8_7 hX hk_j0 dX8_wind_22 ?_
      refine z_iconst (x := 3) hX dX8_wind_25 (by decide) ?_
      refine z_iald hX (kl_8_0 hk_j0).1 (kl_8_0 hk_j0).2 (by unfold vp_in; decide) dX8_wind_26 ?_
      refine z_iload_n hX dX8_wind_27 2 rfl ?_
      rcases ite_or h with ⟨c25, h⟩ | ⟨c25, h⟩
      · refine z_icmp_ne_f hX 34 (by decide) dX8_wind_28 c25 ?_
        refine z_ldc (x := (-1000005)) hX mc_X8_69 dX8_wind_31 ?_
        obtain ⟨rfl, rfl⟩ := ret2 h
        exact z_iret hR dX8_wind_33
      · refine z_icmp_ne_t hX 34 (by decide) dX8_wind_28 c25 ?_
        exact t_X8_wind_34 hR  hk_j0 h
    · refine z_icmp_ne_t hX 34 (by decide) dX8_wind_18 c24 ?_
      exact t_X8_wind_34 hR  hk_j0 h
set_option maxRecDepth 20000 in
set_option maxHeartbeats 4000000 in
theorem t_X8_turnAt_5 {X : CX} {N : Nat} {r : Int32} {σ : HP} (hR : OkX X RX8 cX8_turnAt 4 0 0 (some .int) (some (.int r)) σ)  : ∀ (n : Nat) (j0 : Nat) (a1 : Int32) (a2 : Int32) (a3 : Int32), kd j0 = 8 → L_X8_turnAt_5  N σ n j0 a1 a2 a3 = some r → Z X σ 5 [(0, rf X.1 j0), (1, .int a1), (2, .int a2), (3, .int a3)] [] := by
  have hX := hR.1
  intro n
  induction n with
  | zero =>
    intro j0 a1 a2 a3 hk_j0 h
    rw [L_X8_turnAt_5] at h
    cases h
  | succ n ih =>
    intro j0 a1 a2 a3 hk_j0 h
    rw [L_X8_turnAt_5] at h
    refine z_iload_n hX dX8_turnAt_5 3 rfl ?_
    refine z_aload_n hX dX8_turnAt_6 0 rfl ?_
    refine g_X8_7 hX hk_j0 dX8_turnAt_7 ?_
    refine z_bipush (x := 6) hX dX8_turnAt_10 (by decide) ?_
    refine z_iald hX (kl_8_0 hk_j0).1 (kl_8_0 hk_j0).2 (by unfold vp_in; decide) dX8_turnAt_12 ?_
    rcases ite_or h with ⟨c21, h⟩ | ⟨c21, h⟩
    · refine z_icmp_ge_t hX 43 (by decide) dX8_turnAt_13 c21 ?_
      refine z_iload_n hX dX8_turnAt_43 2 rfl ?_
      obtain rfl := ret1 h
      exact z_iret hR dX8_turnAt_44
    · refine z_icmp_ge_f hX 43 (by decide) dX8_turnAt_13 c21 ?_
      refine z_aload_n hX dX8_turnAt_16 0 rfl ?_
      refine g_X8_7 hX hk_j0 dX8_turnAt_17 ?_
      refine z_bipush (x := 84) hX dX8_turnAt_20 (by decide) ?_
      refine z_iconst (x := 3) hX dX8_turnAt_22 (by decide) ?_
      refine z_iload_n hX dX8_turnAt_23 3 rfl ?_
      refine z_imul hX dX8_turnAt_24 ?_
      refine z_iadd hX dX8_turnAt_25 ?_
      obtain ⟨g22, h⟩ := gd_some h
      refine z_iald hX (kl_8_0 hk_j0).1 (kl_8_0 hk_j0).2 g22 dX8_turnAt_26 ?_
      refine z_iload_n hX dX8_turnAt_27 1 rfl ?_
      rcases ite_or h with ⟨c23, h⟩ | ⟨c23, h⟩
      · refine z_icmp_ne_f hX 35 (by decide) dX8_turnAt_28 c23 ?_
        refine z_iload_n hX dX8_turnAt_31 3 rfl ?_
        refine z_goto hX 36 (by decide) dX8_turnAt_32 ?_
        refine z_istore_n (lv' := [(2, .int a3), (0, rf X.1 j0), (1, .int a1), (3, .int a3)]) hX dX8_turnAt_36 (by decide) rfl ?_
        refine z_iinc (y := (a3 + 1)) (lv' := [(3, .int (a3 + 1)), (2, .int a3), (0, rf X.1 j0), (1, .int a1)]) hX dX8_turnAt_37 3 rfl rfl (by decide) rfl ?_
        refine z_goto hX 5 (by decide) dX8_turnAt_40 ?_
        refine z_sub (lv' := [(0, rf X.1 j0), (1, .int a1), (2, .int a3), (3, .int (a3 + 1))]) [2, 3, 1, 0] rfl ?_
        exact ih j0 a1 a3 (a3 + 1) hk_j0 h
      · refine z_icmp_ne_t hX 35 (by decide) dX8_turnAt_28 c23 ?_
        refine z_iload_n hX dX8_turnAt_35 2 rfl ?_
        refine z_istore_n (lv' := [(2, .int a2), (0, rf X.1 j0), (1, .int a1), (3, .int a3)]) hX dX8_turnAt_36 (by decide) rfl ?_
        refine z_iinc (y := (a3 + 1)) (lv' := [(3, .int (a3 + 1)), (2, .int a2), (0, rf X.1 j0), (1, .int a1)]) hX dX8_turnAt_37 3 rfl rfl (by decide) rfl ?_
        refine z_goto hX 5 (by decide) dX8_turnAt_40 ?_
        refine z_sub (lv' := [(0, rf X.1 j0), (1, .int a1), (2, .int a2), (3, .int (a3 + 1))]) [2, 3, 1, 0] rfl ?_
        exact ih j0 a1 a2 (a3 + 1) hk_j0 h
set_option maxRecDepth 20000 in
set_option maxHeartbeats 4000000 in
theorem c_X8_turnAt (w : WP) {N : Nat} {j0 : Nat} {a1 : Int32} {r : Int32} {σ : HP} (hk_j0 : kd j0 = 8) (h : F_X8_turnAt N j0 a1 σ = some r) : Ct w yX8_turnAt cX8_turnAt 4 (some .int) 0 0 [rf w j0, .int a1] σ (some (.int r)) σ := by
  refine z_met w (by decide +kernel) (Nat.le_of_ble_eq_true rfl) (fun X hw hX => ?_)
  subst hw
  have hR : OkX X RX8 cX8_turnAt 4 0 0 (some .int) (some (.int r)) σ := hX
  have hX := hR.1
  show Z X σ 0 [(0, rf X.1 j0), (1, .int a1)] []
  unfold F_X8_turnAt at h
  refine z_ldc (x := (-1000005)) hX mc_X8_69 dX8_turnAt_0 ?_
  refine z_istore_n (lv' := [(2, .int (-1000005)), (0, rf X.1 j0), (1, .int a1)]) hX dX8_turnAt_2 (by decide) rfl ?_
  refine z_iconst (x := 0) hX dX8_turnAt_3 (by decide) ?_
  refine z_istore_n (lv' := [(3, .int 0), (2, .int (-1000005)), (0, rf X.1 j0), (1, .int a1)]) hX dX8_turnAt_4 (by decide) rfl ?_
  refine z_sub (lv' := [(0, rf X.1 j0), (1, .int a1), (2, .int (-1000005)), (3, .int 0)]) [2, 3, 1, 0] rfl ?_
  exact t_X8_turnAt_5 hR  N j0 a1 (-1000005) 0 hk_j0 h
set_option maxRecDepth 20000 in
set_option maxHeartbeats 4000000 in
theorem t_X8_planTurn_149 {X : CX} {N : Nat} {j0 : Nat} {a1 : Int32} {a2 : Int32} {a3 : Int32} {a4 : Int32} {r : Int32} {σ σ' : HP} (hR : OkX X RX8 cX8_planTurn 6 2 45 (some .int) (some (.int r)) σ')  (hk_j0 : kd j0 = 8) (h : J_X8_planTurn_149  N j0 a1 a2 a3 a4 σ = some (r, σ')) : Z X σ 149 [(0, rf X.1 j0), (1, .int a1), (2, .int a2), (3, .int a3), (4, .int a4)] [] := by
  have hX := hR.1
  unfold J_X8_planTurn_149 at h
  refine z_aload_n hX dX8_planTurn_149 0 rfl ?_
  refine g_X8_7 hX hk_j0 dX8_planTurn_150 ?_
  refine z_bipush (x := 84) hX dX8_planTurn_153 (by decide) ?_
  refine z_iconst (x := 3) hX dX8_planTurn_155 (by decide) ?_
  refine z_iload hX dX8_planTurn_156 4 rfl ?_
  refine z_imul hX dX8_planTurn_158 ?_
  refine z_iadd hX dX8_planTurn_159 ?_
  refine z_iload_n hX dX8_planTurn_160 1 rfl ?_
  obtain ⟨g21, h⟩ := gd_some h
  obtain ⟨σ22, eσ22, h⟩ := bd_some h
  refine z_iast hX (kl_8_0 hk_j0).1 (kl_8_0 hk_j0).2 g21 dX8_planTurn_161 ?_
  refine z_ms eσ22 ?_
  refine z_aload_n hX dX8_planTurn_162 0 rfl ?_
  refine g_X8_7 hX hk_j0 dX8_planTurn_163 ?_
  refine z_bipush (x := 84) hX dX8_planTurn_166 (by decide) ?_
  refine z_iconst (x := 3) hX dX8_planTurn_168 (by decide) ?_
  refine z_iload hX dX8_planTurn_169 4 rfl ?_
  refine z_imul hX dX8_planTurn_171 ?_
  refine z_iadd hX dX8_planTurn_172 ?_
  refine z_iconst (x := 1) hX dX8_planTurn_173 (by decide) ?_
  refine z_iadd hX dX8_planTurn_174 ?_
  refine z_iload_n hX dX8_planTurn_175 2 rfl ?_
  obtain ⟨g23, h⟩ := gd_some h
  obtain ⟨σ24, eσ24, h⟩ := bd_some h
  refine z_iast hX (kl_8_0 hk_j0).1 (kl_8_0 hk_j0).2 g23 dX8_planTurn_176 ?_
  refine z_ms eσ24 ?_
  refine z_aload_n hX dX8_planTurn_177 0 rfl ?_
  refine g_X8_7 hX hk_j0 dX8_planTurn_178 ?_
  refine z_bipush (x := 84) hX dX8_planTurn_181 (by decide) ?_
  refine z_iconst (x := 3) hX dX8_planTurn_183 (by decide) ?_
  refine z_iload hX dX8_planTurn_184 4 rfl ?_
  refine z_imul hX dX8_planTurn_186 ?_
  refine z_iadd hX dX8_planTurn_187 ?_
  refine z_iconst (x := 2) hX dX8_planTurn_188 (by decide) ?_
  refine z_iadd hX dX8_planTurn_189 ?_
  refine z_iload_n hX dX8_planTurn_190 3 rfl ?_
  obtain ⟨g25, h⟩ := gd_some h
  obtain ⟨σ26, eσ26, h⟩ := bd_some h
  refine z_iast hX (kl_8_0 hk_j0).1 (kl_8_0 hk_j0).2 g25 dX8_planTurn_191 ?_
  refine z_ms eσ26 ?_
  refine z_aload_n hX dX8_planTurn_192 0 rfl ?_
  refine g_X8_7 hX hk_j0 dX8_planTurn_193 ?_
  refine z_bipush (x := 6) hX dX8_planTurn_196 (by decide) ?_
  refine z_dup2 hX rfl rfl dX8_planTurn_198 ?_
  refine z_iald hX (kl_8_0 hk_j0).1 (kl_8_0 hk_j0).2 (by unfold vp_in; decide) dX8_planTurn_199 ?_
  refine z_iconst (x := 1) hX dX8_planTurn_200 (by decide) ?_
  refine z_iadd hX dX8_planTurn_201 ?_
  obtain ⟨σ27, eσ27, h⟩ := bd_some h
  refine z_iast hX (kl_8_0 hk_j0).1 (kl_8_0 hk_j0).2 (by unfold vp_in; decide) dX8_planTurn_202 ?_
  refine z_ms eσ27 ?_
  refine z_aload_n hX dX8_planTurn_203 0 rfl ?_
  refine g_X8_7 hX hk_j0 dX8_planTurn_204 ?_
  refine z_bipush (x := 6) hX dX8_planTurn_207 (by decide) ?_
  refine z_iald hX (kl_8_0 hk_j0).1 (kl_8_0 hk_j0).2 (by unfold vp_in; decide) dX8_planTurn_209 ?_
  obtain ⟨rfl, rfl⟩ := ret2 h
  exact z_iret hR dX8_planTurn_210
set_option maxRecDepth 20000 in
set_option maxHeartbeats 4000000 in
theorem t_X8_planTurn_99 {X : CX} {N : Nat} {k73 : (Nat → Int32 → Int32 → Int32 → Int32 → HP → Option (Int32 × HP))} {r : Int32} {σ' : HP} (hR : OkX X RX8 cX8_planTurn 6 2 45 (some .int) (some (.int r)) σ') (hk73 : ∀ (j0 : Nat) (a1 : Int32) (a2 : Int32) (a3 : Int32) (a4 : Int32) (σ9 : HP), kd j0 = 8 → k73 j0 a1 a2 a3 a4 σ9 = some (r, σ') → Z X σ9 73 [(0, rf X.1 j0), (1, .int a1), (2, .int a2), (3, .int a3), (4, .int a4)] []) : ∀ (n : Nat) (j0 : Nat) (a1 : Int32) (a2 : Int32) (a3 : Int32) (a4 : Int32) (a5 : Int32) (σ : HP), kd j0 = 8 → L_X8_planTurn_99 k73 N n j0 a1 a2 a3 a4 a5 σ = some (r, σ') → Z X σ 99 [(0, rf X.1 j0), (1, .int a1), (2, .int a2), (3, .int a3), (4, .int a4), (5, .int a5)] [] := by
  have hX := hR.1
  intro n
  induction n with
  | zero =>
    intro j0 a1 a2 a3 a4 a5 σ hk_j0 h
    rw [L_X8_planTurn_99] at h
    cases h
  | succ n ih =>
    intro j0 a1 a2 a3 a4 a5 σ hk_j0 h
    rw [L_X8_planTurn_99] at h
    refine z_iload hX dX8_planTurn_99 5 rfl ?_
    refine z_iconst (x := 3) hX dX8_planTurn_101 (by decide) ?_
    rcases ite_or h with ⟨c21, h⟩ | ⟨c21, h⟩
    · refine z_icmp_ge_t hX 143 (by decide) dX8_planTurn_102 c21 ?_
      refine z_iinc (y := (a4 + (-1))) (lv' := [(4, .int (a4 + (-1))), (0, rf X.1 j0), (1, .int a1), (2, .int a2), (3, .int a3), (5, .int a5)]) hX dX8_planTurn_143 4 rfl rfl (by decide) rfl ?_
      refine z_goto hX 73 (by decide) dX8_planTurn_146 ?_
      refine z_sub (lv' := [(0, rf X.1 j0), (1, .int a1), (2, .int a2), (3, .int a3), (4, .int (a4 + (-1)))]) [1, 2, 3, 4, 0] rfl ?_
      exact hk73 j0 a1 a2 a3 (a4 + (-1)) σ hk_j0 h
    · refine z_icmp_ge_f hX 143 (by decide) dX8_planTurn_102 c21 ?_
      refine z_aload_n hX dX8_planTurn_105 0 rfl ?_
      refine g_X8_7 hX hk_j0 dX8_planTurn_106 ?_
      refine z_bipush (x := 84) hX dX8_planTurn_109 (by decide) ?_
      refine z_iconst (x := 3) hX dX8_planTurn_111 (by decide) ?_
      refine z_iload hX dX8_planTurn_112 4 rfl ?_
      refine z_imul hX dX8_planTurn_114 ?_
      refine z_iadd hX dX8_planTurn_115 ?_
      refine z_iload hX dX8_planTurn_116 5 rfl ?_
      refine z_iadd hX dX8_planTurn_118 ?_
      refine z_aload_n hX dX8_planTurn_119 0 rfl ?_
      refine g_X8_7 hX hk_j0 dX8_planTurn_120 ?_
      refine z_bipush (x := 84) hX dX8_planTurn_123 (by decide) ?_
      refine z_iconst (x := 3) hX dX8_planTurn_125 (by decide) ?_
      refine z_iload hX dX8_planTurn_126 4 rfl ?_
      refine z_iconst (x := 1) hX dX8_planTurn_128 (by decide) ?_
      refine z_isub hX dX8_planTurn_129 ?_
      refine z_imul hX dX8_planTurn_130 ?_
      refine z_iadd hX dX8_planTurn_131 ?_
      refine z_iload hX dX8_planTurn_132 5 rfl ?_
      refine z_iadd hX dX8_planTurn_134 ?_
      obtain ⟨g22, h⟩ := gd_some h
      refine z_iald hX (kl_8_0 hk_j0).1 (kl_8_0 hk_j0).2 g22 dX8_planTurn_135 ?_
      obtain ⟨g23, h⟩ := gd_some h
      obtain ⟨σ24, eσ24, h⟩ := bd_some h
      refine z_iast hX (kl_8_0 hk_j0).1 (kl_8_0 hk_j0).2 g23 dX8_planTurn_136 ?_
      refine z_ms eσ24 ?_
      refine z_iinc (y := (a5 + 1)) (lv' := [(5, .int (a5 + 1)), (0, rf X.1 j0), (1, .int a1), (2, .int a2), (3, .int a3), (4, .int a4)]) hX dX8_planTurn_137 5 rfl rfl (by decide) rfl ?_
      refine z_goto hX 99 (by decide) dX8_planTurn_140 ?_
      refine z_sub (lv' := [(0, rf X.1 j0), (1, .int a1), (2, .int a2), (3, .int a3), (4, .int a4), (5, .int (a5 + 1))]) [1, 2, 3, 4, 5, 0] rfl ?_
      exact ih j0 a1 a2 a3 a4 (a5 + 1) σ24 hk_j0 h
set_option maxRecDepth 20000 in
set_option maxHeartbeats 4000000 in
theorem t_X8_planTurn_73 {X : CX} {N : Nat} {r : Int32} {σ' : HP} (hR : OkX X RX8 cX8_planTurn 6 2 45 (some .int) (some (.int r)) σ')  : ∀ (n : Nat) (j0 : Nat) (a1 : Int32) (a2 : Int32) (a3 : Int32) (a4 : Int32) (σ : HP), kd j0 = 8 → L_X8_planTurn_73  N n j0 a1 a2 a3 a4 σ = some (r, σ') → Z X σ 73 [(0, rf X.1 j0), (1, .int a1), (2, .int a2), (3, .int a3), (4, .int a4)] [] := by
  have hX := hR.1
  intro n
  induction n with
  | zero =>
    intro j0 a1 a2 a3 a4 σ hk_j0 h
    rw [L_X8_planTurn_73] at h
    cases h
  | succ n ih =>
    intro j0 a1 a2 a3 a4 σ hk_j0 h
    rw [L_X8_planTurn_73] at h
    refine z_iload hX dX8_planTurn_73 4 rfl ?_
    rcases ite_or h with ⟨c21, h⟩ | ⟨c21, h⟩
    · refine z_if_le_t hX 149 (by decide) dX8_planTurn_75 c21 ?_
      exact t_X8_planTurn_149 hR  hk_j0 h
    · refine z_if_le_f hX 149 (by decide) dX8_planTurn_75 c21 ?_
      refine z_aload_n hX dX8_planTurn_78 0 rfl ?_
      refine g_X8_7 hX hk_j0 dX8_planTurn_79 ?_
      refine z_bipush (x := 84) hX dX8_planTurn_82 (by decide) ?_
      refine z_iconst (x := 3) hX dX8_planTurn_84 (by decide) ?_
      refine z_iload hX dX8_planTurn_85 4 rfl ?_
      refine z_iconst (x := 1) hX dX8_planTurn_87 (by decide) ?_
      refine z_isub hX dX8_planTurn_88 ?_
      refine z_imul hX dX8_planTurn_89 ?_
      refine z_iadd hX dX8_planTurn_90 ?_
      obtain ⟨g22, h⟩ := gd_some h
      refine z_iald hX (kl_8_0 hk_j0).1 (kl_8_0 hk_j0).2 g22 dX8_planTurn_91 ?_
      refine z_iload_n hX dX8_planTurn_92 1 rfl ?_
      rcases ite_or h with ⟨c23, h⟩ | ⟨c23, h⟩
      · refine z_icmp_le_t hX 149 (by decide) dX8_planTurn_93 c23 ?_
        exact t_X8_planTurn_149 hR  hk_j0 h
      · refine z_icmp_le_f hX 149 (by decide) dX8_planTurn_93 c23 ?_
        refine z_iconst (x := 0) hX dX8_planTurn_96 (by decide) ?_
        refine z_istore (lv' := [(5, .int 0), (0, rf X.1 j0), (1, .int a1), (2, .int a2), (3, .int a3), (4, .int a4)]) hX dX8_planTurn_97 (by decide) rfl ?_
        refine z_sub (lv' := [(0, rf X.1 j0), (1, .int a1), (2, .int a2), (3, .int a3), (4, .int a4), (5, .int 0)]) [1, 2, 3, 4, 5, 0] rfl ?_
        exact t_X8_planTurn_99 hR (fun j0 a1 a2 a3 a4 σ9 hk_j0 h9 => ih j0 a1 a2 a3 a4 σ9 hk_j0 h9) N j0 a1 a2 a3 a4 0 σ hk_j0 h
set_option maxRecDepth 20000 in
set_option maxHeartbeats 4000000 in
theorem c_X8_planTurn (w : WP) {N : Nat} {j0 : Nat} {a1 : Int32} {a2 : Int32} {a3 : Int32} {r : Int32} {σ σ' : HP} (hk_j0 : kd j0 = 8) (h : F_X8_planTurn N j0 a1 a2 a3 σ = some (r, σ')) : Ct w yX8_planTurn cX8_planTurn 6 (some .int) 2 45 [rf w j0, .int a1, .int a2, .int a3] σ (some (.int r)) σ' := by
  refine z_met w (by decide +kernel) (Nat.le_of_ble_eq_true rfl) (fun X hw hX => ?_)
  subst hw
  have hR : OkX X RX8 cX8_planTurn 6 2 45 (some .int) (some (.int r)) σ' := hX
  have hX := hR.1
  show Z X σ 0 [(0, rf X.1 j0), (1, .int a1), (2, .int a2), (3, .int a3)] []
  unfold F_X8_planTurn at h
  refine z_iload_n hX dX8_planTurn_0 1 rfl ?_
  refine z_iconst (x := 1) hX dX8_planTurn_1 (by decide) ?_
  refine z_sipush (x := 9999) hX dX8_planTurn_2 (by decide) ?_
  obtain ⟨r22, k21, h⟩ := bind_some h
  refine v_X8_47 hX (c_X8_in X.1 k21) (Nat.le_of_ble_eq_true rfl) (Nat.le_of_ble_eq_true rfl) (Nat.le_of_ble_eq_true rfl) dX8_planTurn_5 ?_
  rcases ite_or h with ⟨c23, h⟩ | ⟨c23, h⟩
  · refine z_if_eq_t hX 19 (by decide) dX8_planTurn_8 c23 ?_
    refine z_ldc (x := (-1000002)) hX mc_X8_123 dX8_planTurn_19 ?_
    obtain ⟨rfl, rfl⟩ := ret2 h
    exact z_iret hR dX8_planTurn_21
  · refine z_if_eq_f hX 19 (by decide) dX8_planTurn_8 c23 ?_
    refine z_iload_n hX dX8_planTurn_11 2 rfl ?_
    refine z_iload_n hX dX8_planTurn_12 3 rfl ?_
    obtain ⟨r25, k24, h⟩ := bind_some h
    refine v_X8_152 hX (c_X8_isWind X.1 k24) (Nat.le_of_ble_eq_true rfl) (Nat.le_of_ble_eq_true rfl) (Nat.le_of_ble_eq_true rfl) dX8_planTurn_13 ?_
    rcases ite_or h with ⟨c26, h⟩ | ⟨c26, h⟩
    · refine z_if_ne_f hX 22 (by decide) dX8_planTurn_16 c26 ?_
      refine z_ldc (x := (-1000002)) hX mc_X8_123 dX8_planTurn_19 ?_
      obtain ⟨rfl, rfl⟩ := ret2 h
      exact z_iret hR dX8_planTurn_21
    · refine z_if_ne_t hX 22 (by decide) dX8_planTurn_16 c26 ?_
      refine z_iload_n hX dX8_planTurn_22 1 rfl ?_
      refine z_aload_n hX dX8_planTurn_23 0 rfl ?_
      refine g_X8_7 hX hk_j0 dX8_planTurn_24 ?_
      refine z_iconst (x := 1) hX dX8_planTurn_27 (by decide) ?_
      refine z_iald hX (kl_8_0 hk_j0).1 (kl_8_0 hk_j0).2 (by unfold vp_in; decide) dX8_planTurn_28 ?_
      rcases ite_or h with ⟨c27, h⟩ | ⟨c27, h⟩
      · refine z_icmp_le_t hX 42 (by decide) dX8_planTurn_29 c27 ?_
        refine z_ldc (x := (-1000004)) hX mc_X8_148 dX8_planTurn_42 ?_
        obtain ⟨rfl, rfl⟩ := ret2 h
        exact z_iret hR dX8_planTurn_44
      · refine z_icmp_le_f hX 42 (by decide) dX8_planTurn_29 c27 ?_
        refine z_aload_n hX dX8_planTurn_32 0 rfl ?_
        refine z_iload_n hX dX8_planTurn_33 1 rfl ?_
        obtain ⟨r29, k28, h⟩ := bind_some h
        refine v_X8_156 hX hk_j0 (c_X8_turnAt X.1 hk_j0 k28) (Nat.le_of_ble_eq_true rfl) (Nat.le_of_ble_eq_true rfl) (Nat.le_of_ble_eq_true rfl) dX8_planTurn_34 ?_
        refine z_ldc (x := (-1000005)) hX mc_X8_69 dX8_planTurn_37 ?_
        rcases ite_or h with ⟨c30, h⟩ | ⟨c30, h⟩
        · refine z_icmp_eq_t hX 45 (by decide) dX8_planTurn_39 c30 ?_
          refine z_aload_n hX dX8_planTurn_45 0 rfl ?_
          refine g_X8_7 hX hk_j0 dX8_planTurn_46 ?_
          refine z_bipush (x := 6) hX dX8_planTurn_49 (by decide) ?_
          refine z_iald hX (kl_8_0 hk_j0).1 (kl_8_0 hk_j0).2 (by unfold vp_in; decide) dX8_planTurn_51 ?_
          refine z_bipush (x := 8) hX dX8_planTurn_52 (by decide) ?_
          rcases ite_or h with ⟨c31, h⟩ | ⟨c31, h⟩
          · refine z_icmp_ne_f hX 60 (by decide) dX8_planTurn_54 c31 ?_
            refine z_ldc (x := (-1000003)) hX mc_X8_128 dX8_planTurn_57 ?_
            obtain ⟨rfl, rfl⟩ := ret2 h
            exact z_iret hR dX8_planTurn_59
          · refine z_icmp_ne_t hX 60 (by decide) dX8_planTurn_54 c31 ?_
            refine z_aload_n hX dX8_planTurn_60 0 rfl ?_
            obtain ⟨σ33, k32, h⟩ := bind_some h
            refine v_X8_129 hX hk_j0 (c_X8_records X.1 hk_j0 k32) (Nat.le_of_ble_eq_true rfl) (Nat.le_of_ble_eq_true rfl) (Nat.le_of_ble_eq_true rfl) dX8_planTurn_61 ?_
            refine z_aload_n hX dX8_planTurn_64 0 rfl ?_
            refine g_X8_7 hX hk_j0 dX8_planTurn_65 ?_
            refine z_bipush (x := 6) hX dX8_planTurn_68 (by decide) ?_
            refine z_iald hX (kl_8_0 hk_j0).1 (kl_8_0 hk_j0).2 (by unfold vp_in; decide) dX8_planTurn_70 ?_
            obtain ⟨x34, ex34, h⟩ := bd_some h
            refine z_top ex34 ?_
            refine z_istore (lv' := [(4, .int x34), (0, rf X.1 j0), (1, .int a1), (2, .int a2), (3, .int a3)]) hX dX8_planTurn_71 (by decide) rfl ?_
            refine z_sub (lv' := [(0, rf X.1 j0), (1, .int a1), (2, .int a2), (3, .int a3), (4, .int x34)]) [1, 2, 3, 4, 0] rfl ?_
            exact t_X8_planTurn_73 hR  N j0 a1 a2 a3 x34 σ33 hk_j0 h
        · refine z_icmp_eq_f hX 45 (by decide) dX8_planTurn_39 c30 ?_
          refine z_ldc (x := (-1000004)) hX mc_X8_148 dX8_planTurn_42 ?_
          obtain ⟨rfl, rfl⟩ := ret2 h
          exact z_iret hR dX8_planTurn_44
set_option maxRecDepth 20000 in
set_option maxHeartbeats 4000000 in
theorem c_X8_dropTurn (w : WP) {N : Nat} {j0 : Nat} {a1 : Int32} {r : Int32} {σ σ' : HP} (hk_j0 : kd j0 = 8) (h : F_X8_dropTurn N j0 a1 σ = some (r, σ')) : Ct w yX8_dropTurn cX8_dropTurn 3 (some .int) 2 45 [rf w j0, .int a1] σ (some (.int r)) σ' := by
  refine z_met w (by decide +kernel) (Nat.le_of_ble_eq_true rfl) (fun X hw hX => ?_)
  subst hw
  have hR : OkX X RX8 cX8_dropTurn 3 2 45 (some .int) (some (.int r)) σ' := hX
  have hX := hR.1
  show Z X σ 0 [(0, rf X.1 j0), (1, .int a1)] []
  unfold F_X8_dropTurn at h
  refine z_aload_n hX dX8_dropTurn_0 0 rfl ?_
  refine z_iload_n hX dX8_dropTurn_1 1 rfl ?_
  obtain ⟨r22, k21, h⟩ := bind_some h
  refine v_X8_156 hX hk_j0 (c_X8_turnAt X.1 hk_j0 k21) (Nat.le_of_ble_eq_true rfl) (Nat.le_of_ble_eq_true rfl) (Nat.le_of_ble_eq_true rfl) dX8_dropTurn_2 ?_
  refine z_istore_n (lv' := [(2, .int r22), (0, rf X.1 j0), (1, .int a1)]) hX dX8_dropTurn_5 (by decide) rfl ?_
  refine z_iload_n hX dX8_dropTurn_6 0 rfl ?_
  refine z_ldc (x := (-1000005)) hX mc_X8_69 dX8_dropTurn_7 ?_
  rcases ite_or h with ⟨c23, h⟩ | ⟨c23, h⟩
  · refine z_icmp_ne_f hX 15 (by decide) dX8_dropTurn_9 c23 ?_
    refine z_ldc (x := (-1000001)) hX mc_X8_147 dX8_dropTurn_12 ?_
    obtain ⟨rfl, rfl⟩ := ret2 h
    exact z_iret hR dX8_dropTurn_14
  · refine z_icmp_ne_t hX 15 (by decide) dX8_dropTurn_9 c23 ?_
    refine z_aload_n hX dX8_dropTurn_15 1 rfl ?_
    obtain ⟨σ25, k24, h⟩ := bind_some h
    refine v_X8_129 hX hk_j0 (c_X8_records X.1 hk_j0 k24) (Nat.le_of_ble_eq_true rfl) (Nat.le_of_ble_eq_true rfl) (Nat.le_of_ble_eq_true rfl) dX8_dropTurn_16 ?_
    refine z_aload_n hX dX8_dropTurn_19 1 rfl ?_
    refine g_X8_7 hX hk_j0 dX8_dropTurn_20 ?_
    refine z_iload_n hX dX8_dropTurn_23 0 rfl ?_
    obtain ⟨σ27, k26, h⟩ := bind_some h
    refine v_X8_98 hX (c_X8_dropsTurn X.1 (kl_8_0 hk_j0).1 (kl_8_0 hk_j0).2 k26) (Nat.le_of_ble_eq_true rfl) (Nat.le_of_ble_eq_true rfl) (Nat.le_of_ble_eq_true rfl) dX8_dropTurn_24 ?_
    refine z_aload_n hX dX8_dropTurn_27 1 rfl ?_
    refine g_X8_7 hX hk_j0 dX8_dropTurn_28 ?_
    refine z_bipush (x := 6) hX dX8_dropTurn_31 (by decide) ?_
    refine z_iald hX (kl_8_0 hk_j0).1 (kl_8_0 hk_j0).2 (by unfold vp_in; decide) dX8_dropTurn_33 ?_
    obtain ⟨rfl, rfl⟩ := ret2 h
    exact z_iret hR dX8_dropTurn_34
