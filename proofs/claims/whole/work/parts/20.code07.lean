set_option maxRecDepth 20000 in
set_option maxHeartbeats 4000000 in
theorem t_X8_crowd_9 {X : CX} {N : Nat} {j0 : Nat} {s0 : Int32} {r : Int32} {σ σ' : HP} (hR : OkX X RX8 cX8_crowd 3 5 110 (some .int) (some (.int r)) σ')  (hk_j0 : kd j0 = 8) (h : J_X8_crowd_9  N j0 s0 σ = some (r, σ')) : Z X σ 9 [(0, rf X.1 j0)] [.int s0] := by
  have hX := hR.1
  unfold J_X8_crowd_9 at h
  refine z_istore_n (lv' := [(2, .int s0), (0, rf X.1 j0)]) hX dX8_crowd_9 (by decide) rfl ?_
  refine z_aload_n hX dX8_crowd_10 1 rfl ?_
  refine g_X8_7 hX hk_j0 dX8_crowd_11 ?_
  refine z_iconst (x := 4) hX dX8_crowd_14 (by decide) ?_
  refine z_iald hX (kl_8_0 hk_j0).1 (kl_8_0 hk_j0).2 (by unfold vp_in; decide) dX8_crowd_15 ?_
  refine z_iload_n hX dX8_crowd_16 0 rfl ?_
  rcases ite_or h with ⟨c21, h⟩ | ⟨c21, h⟩
  · refine z_icmp_ne_f hX 23 (by decide) dX8_crowd_17 c21 ?_
    refine z_ldc (x := (-1000005)) hX mc_X8_69 dX8_crowd_20 ?_
    obtain ⟨rfl, rfl⟩ := ret2 h
    exact z_iret hR dX8_crowd_22
  · refine z_icmp_ne_t hX 23 (by decide) dX8_crowd_17 c21 ?_
    refine z_aload_n hX dX8_crowd_23 1 rfl ?_
    obtain ⟨σ23, k22, h⟩ := bind_some h
    refine v_X8_129 hX hk_j0 (c_X8_records X.1 hk_j0 k22) (Nat.le_of_ble_eq_true rfl) (Nat.le_of_ble_eq_true rfl) (Nat.le_of_ble_eq_true rfl) dX8_crowd_24 ?_
    refine z_aload_n hX dX8_crowd_27 1 rfl ?_
    refine g_X8_7 hX hk_j0 dX8_crowd_28 ?_
    refine z_iconst (x := 4) hX dX8_crowd_31 (by decide) ?_
    refine z_iload_n hX dX8_crowd_32 0 rfl ?_
    obtain ⟨σ24, eσ24, h⟩ := bd_some h
    refine z_iast hX (kl_8_0 hk_j0).1 (kl_8_0 hk_j0).2 (by unfold vp_in; decide) dX8_crowd_33 ?_
    refine z_ms eσ24 ?_
    refine z_aload_n hX dX8_crowd_34 1 rfl ?_
    refine g_X8_7 hX hk_j0 dX8_crowd_35 ?_
    obtain ⟨r26, k25, h⟩ := bind_some h
    refine v_X8_70 hX (c_X8_readable X.1 (kl_8_0 hk_j0).1 (kl_8_0 hk_j0).2 k25) (Nat.le_of_ble_eq_true rfl) (Nat.le_of_ble_eq_true rfl) (Nat.le_of_ble_eq_true rfl) dX8_crowd_38 ?_
    obtain ⟨rfl, rfl⟩ := ret2 h
    exact z_iret hR dX8_crowd_41
set_option maxRecDepth 20000 in
set_option maxHeartbeats 4000000 in
theorem c_X8_crowd (w : WP) {N : Nat} {j0 : Nat} {a1 : Int32} {r : Int32} {σ σ' : HP} (hk_j0 : kd j0 = 8) (h : F_X8_crowd N j0 a1 σ = some (r, σ')) : Ct w yX8_crowd cX8_crowd 3 (some .int) 5 110 [rf w j0, .int a1] σ (some (.int r)) σ' := by
  refine z_met w (by decide +kernel) (Nat.le_of_ble_eq_true rfl) (fun X hw hX => ?_)
  subst hw
  have hR : OkX X RX8 cX8_crowd 3 5 110 (some .int) (some (.int r)) σ' := hX
  have hX := hR.1
  show Z X σ 0 [(0, rf X.1 j0), (1, .int a1)] []
  unfold F_X8_crowd at h
  refine z_iload_n hX dX8_crowd_0 1 rfl ?_
  rcases ite_or h with ⟨c21, h⟩ | ⟨c21, h⟩
  · refine z_if_eq_t hX 8 (by decide) dX8_crowd_1 c21 ?_
    refine z_iconst (x := 0) hX dX8_crowd_8 (by decide) ?_
    refine z_sub (lv' := [(0, rf X.1 j0)]) [0] rfl ?_
    exact t_X8_crowd_9 hR  hk_j0 h
  · refine z_if_eq_f hX 8 (by decide) dX8_crowd_1 c21 ?_
    refine z_iconst (x := 1) hX dX8_crowd_4 (by decide) ?_
    refine z_goto hX 9 (by decide) dX8_crowd_5 ?_
    refine z_sub (lv' := [(0, rf X.1 j0)]) [0] rfl ?_
    exact t_X8_crowd_9 hR  hk_j0 h
set_option maxRecDepth 20000 in
set_option maxHeartbeats 4000000 in
theorem c_X8_setTangle (w : WP) {N : Nat} {j0 : Nat} {a1 : Int32} {r : Int32} {σ σ' : HP} (hk_j0 : kd j0 = 8) (h : F_X8_setTangle N j0 a1 σ = some (r, σ')) : Ct w yX8_setTangle cX8_setTangle 3 (some .int) 2 45 [rf w j0, .int a1] σ (some (.int r)) σ' := by
  refine z_met w (by decide +kernel) (Nat.le_of_ble_eq_true rfl) (fun X hw hX => ?_)
  subst hw
  have hR : OkX X RX8 cX8_setTangle 3 2 45 (some .int) (some (.int r)) σ' := hX
  have hX := hR.1
  show Z X σ 0 [(0, rf X.1 j0), (1, .int a1)] []
  unfold F_X8_setTangle at h
  refine z_iload_n hX dX8_setTangle_0 1 rfl ?_
  refine z_iconst (x := 1) hX dX8_setTangle_1 (by decide) ?_
  refine z_bipush (x := 9) hX dX8_setTangle_2 (by decide) ?_
  obtain ⟨r22, k21, h⟩ := bind_some h
  refine v_X8_47 hX (c_X8_in X.1 k21) (Nat.le_of_ble_eq_true rfl) (Nat.le_of_ble_eq_true rfl) (Nat.le_of_ble_eq_true rfl) dX8_setTangle_4 ?_
  rcases ite_or h with ⟨c23, h⟩ | ⟨c23, h⟩
  · refine z_if_ne_f hX 13 (by decide) dX8_setTangle_7 c23 ?_
    refine z_ldc (x := (-1000002)) hX mc_X8_123 dX8_setTangle_10 ?_
    obtain ⟨rfl, rfl⟩ := ret2 h
    exact z_iret hR dX8_setTangle_12
  · refine z_if_ne_t hX 13 (by decide) dX8_setTangle_7 c23 ?_
    refine z_aload_n hX dX8_setTangle_13 0 rfl ?_
    refine g_X8_7 hX hk_j0 dX8_setTangle_14 ?_
    refine z_iconst (x := 5) hX dX8_setTangle_17 (by decide) ?_
    refine z_iald hX (kl_8_0 hk_j0).1 (kl_8_0 hk_j0).2 (by unfold vp_in; decide) dX8_setTangle_18 ?_
    obtain ⟨x24, ex24, h⟩ := bd_some h
    refine z_top ex24 ?_
    refine z_istore_n (lv' := [(2, .int x24), (0, rf X.1 j0), (1, .int a1)]) hX dX8_setTangle_19 (by decide) rfl ?_
    refine z_iload_n hX dX8_setTangle_20 0 rfl ?_
    refine z_iload_n hX dX8_setTangle_21 2 rfl ?_
    rcases ite_or h with ⟨c25, h⟩ | ⟨c25, h⟩
    · refine z_icmp_ne_f hX 28 (by decide) dX8_setTangle_22 c25 ?_
      refine z_ldc (x := (-1000005)) hX mc_X8_69 dX8_setTangle_25 ?_
      obtain ⟨rfl, rfl⟩ := ret2 h
      exact z_iret hR dX8_setTangle_27
    · refine z_icmp_ne_t hX 28 (by decide) dX8_setTangle_22 c25 ?_
      refine z_aload_n hX dX8_setTangle_28 1 rfl ?_
      obtain ⟨σ27, k26, h⟩ := bind_some h
      refine v_X8_129 hX hk_j0 (c_X8_records X.1 hk_j0 k26) (Nat.le_of_ble_eq_true rfl) (Nat.le_of_ble_eq_true rfl) (Nat.le_of_ble_eq_true rfl) dX8_setTangle_29 ?_
      refine z_aload_n hX dX8_setTangle_32 1 rfl ?_
      refine g_X8_7 hX hk_j0 dX8_setTangle_33 ?_
      refine z_iconst (x := 5) hX dX8_setTangle_36 (by decide) ?_
      refine z_iload_n hX dX8_setTangle_37 2 rfl ?_
      obtain ⟨σ28, eσ28, h⟩ := bd_some h
      refine z_iast hX (kl_8_0 hk_j0).1 (kl_8_0 hk_j0).2 (by unfold vp_in; decide) dX8_setTangle_38 ?_
      refine z_ms eσ28 ?_
      refine z_iload_n hX dX8_setTangle_39 0 rfl ?_
      obtain ⟨rfl, rfl⟩ := ret2 h
      exact z_iret hR dX8_setTangle_40
set_option maxRecDepth 20000 in
set_option maxHeartbeats 4000000 in
theorem t_X8_wordFault_38 {X : CX} {N : Nat} {j0 : Nat} {a1 : Int32} {r : Int32} {σ : HP} (hR : OkX X RX8 cX8_wordFault 2 1 22 (some .int) (some (.int r)) σ)  (hk_j0 : kd j0 = 8) (h : J_X8_wordFault_38  N j0 a1 σ = some r) : Z X σ 38 [(0, rf X.1 j0), (1, .int a1)] [] := by
  have hX := hR.1
  unfold J_X8_wordFault_38 at h
  refine z_iload_n hX dX8_wordFault_38 1 rfl ?_
  refine z_aload_n hX dX8_wordFault_39 0 rfl ?_
  refine g_X8_141 hX hk_j0 dX8_wordFault_40 ?_
  rcases ite_or h with ⟨c21, h⟩ | ⟨c21, h⟩
  · refine z_icmp_ne_f hX 58 (by decide) dX8_wordFault_43 c21 ?_
    refine z_aload_n hX dX8_wordFault_46 0 rfl ?_
    refine g_X8_141 hX hk_j0 dX8_wordFault_47 ?_
    rcases ite_or h with ⟨c22, h⟩ | ⟨c22, h⟩
    · refine z_if_le_t hX 58 (by decide) dX8_wordFault_50 c22 ?_
      refine z_iload_n hX dX8_wordFault_58 1 rfl ?_
      obtain rfl := ret1 h
      exact z_iret hR dX8_wordFault_59
    · refine z_if_le_f hX 58 (by decide) dX8_wordFault_50 c22 ?_
      refine z_ldc (x := (-1000005)) hX mc_X8_69 dX8_wordFault_53 ?_
      refine z_goto hX 59 (by decide) dX8_wordFault_55 ?_
      obtain rfl := ret1 h
      exact z_iret hR dX8_wordFault_59
  · refine z_icmp_ne_t hX 58 (by decide) dX8_wordFault_43 c21 ?_
    refine z_iload_n hX dX8_wordFault_58 1 rfl ?_
    obtain rfl := ret1 h
    exact z_iret hR dX8_wordFault_59
set_option maxRecDepth 20000 in
set_option maxHeartbeats 4000000 in
theorem t_X8_wordFault_2 {X : CX} {N : Nat} {r : Int32} {σ : HP} (hR : OkX X RX8 cX8_wordFault 2 1 22 (some .int) (some (.int r)) σ)  : ∀ (n : Nat) (j0 : Nat) (a1 : Int32), kd j0 = 8 → L_X8_wordFault_2  N σ n j0 a1 = some r → Z X σ 2 [(0, rf X.1 j0), (1, .int a1)] [] := by
  have hX := hR.1
  intro n
  induction n with
  | zero =>
    intro j0 a1 hk_j0 h
    rw [L_X8_wordFault_2] at h
    cases h
  | succ n ih =>
    intro j0 a1 hk_j0 h
    rw [L_X8_wordFault_2] at h
    refine z_iload_n hX dX8_wordFault_2 1 rfl ?_
    refine z_aload_n hX dX8_wordFault_3 0 rfl ?_
    refine g_X8_141 hX hk_j0 dX8_wordFault_4 ?_
    rcases ite_or h with ⟨c21, h⟩ | ⟨c21, h⟩
    · refine z_icmp_ge_t hX 38 (by decide) dX8_wordFault_7 c21 ?_
      exact t_X8_wordFault_38 hR  hk_j0 h
    · refine z_icmp_ge_f hX 38 (by decide) dX8_wordFault_7 c21 ?_
      refine z_iload_n hX dX8_wordFault_10 1 rfl ?_
      refine z_bipush (x := 12) hX dX8_wordFault_11 (by decide) ?_
      rcases ite_or h with ⟨c22, h⟩ | ⟨c22, h⟩
      · refine z_icmp_ge_t hX 38 (by decide) dX8_wordFault_13 c22 ?_
        exact t_X8_wordFault_38 hR  hk_j0 h
      · refine z_icmp_ge_f hX 38 (by decide) dX8_wordFault_13 c22 ?_
        refine z_aload_n hX dX8_wordFault_16 0 rfl ?_
        refine g_X8_22 hX hk_j0 dX8_wordFault_17 ?_
        refine z_iload_n hX dX8_wordFault_20 1 rfl ?_
        obtain ⟨g23, h⟩ := gd_some h
        refine z_cald hX (kl_8_6 hk_j0).1 (kl_8_6 hk_j0).2 g23 dX8_wordFault_21 ?_
        refine z_bipush (x := 97) hX dX8_wordFault_22 (by decide) ?_
        refine z_bipush (x := 122) hX dX8_wordFault_24 (by decide) ?_
        obtain ⟨r25, k24, h⟩ := bind_some h
        refine v_X8_47 hX (c_X8_in X.1 k24) (Nat.le_of_ble_eq_true rfl) (Nat.le_of_ble_eq_true rfl) (Nat.le_of_ble_eq_true rfl) dX8_wordFault_26 ?_
        rcases ite_or h with ⟨c26, h⟩ | ⟨c26, h⟩
        · refine z_if_eq_t hX 38 (by decide) dX8_wordFault_29 c26 ?_
          exact t_X8_wordFault_38 hR  hk_j0 h
        · refine z_if_eq_f hX 38 (by decide) dX8_wordFault_29 c26 ?_
          refine z_iinc (y := (a1 + 1)) (lv' := [(1, .int (a1 + 1)), (0, rf X.1 j0)]) hX dX8_wordFault_32 1 rfl rfl (by decide) rfl ?_
          refine z_goto hX 2 (by decide) dX8_wordFault_35 ?_
          refine z_sub (lv' := [(0, rf X.1 j0), (1, .int (a1 + 1))]) [1, 0] rfl ?_
          exact ih j0 (a1 + 1) hk_j0 h
set_option maxRecDepth 20000 in
set_option maxHeartbeats 4000000 in
theorem c_X8_wordFault (w : WP) {N : Nat} {j0 : Nat} {r : Int32} {σ : HP} (hk_j0 : kd j0 = 8) (h : F_X8_wordFault N j0 σ = some r) : Ct w yX8_wordFault cX8_wordFault 2 (some .int) 1 22 [rf w j0] σ (some (.int r)) σ := by
  refine z_met w (by decide +kernel) (Nat.le_of_ble_eq_true rfl) (fun X hw hX => ?_)
  subst hw
  have hR : OkX X RX8 cX8_wordFault 2 1 22 (some .int) (some (.int r)) σ := hX
  have hX := hR.1
  show Z X σ 0 [(0, rf X.1 j0)] []
  unfold F_X8_wordFault at h
  refine z_iconst (x := 0) hX dX8_wordFault_0 (by decide) ?_
  refine z_istore_n (lv' := [(1, .int 0), (0, rf X.1 j0)]) hX dX8_wordFault_1 (by decide) rfl ?_
  refine z_sub (lv' := [(0, rf X.1 j0), (1, .int 0)]) [1, 0] rfl ?_
  exact t_X8_wordFault_2 hR  N j0 0 hk_j0 h
set_option maxRecDepth 20000 in
set_option maxHeartbeats 4000000 in
theorem t_X8_isWord_22 {X : CX} {N : Nat} {r : Int32} {σ : HP} (hR : OkX X RX8 cX8_isWord 3 0 0 (some .boolean) (some (.int r)) σ)  : ∀ (n : Nat) (j0 : Nat) (a1 : Int32) (a2 : Int32), kd j0 = 8 → L_X8_isWord_22  N σ n j0 a1 a2 = some r → Z X σ 22 [(0, rf X.1 j0), (1, .int a1), (2, .int a2)] [] := by
  have hX := hR.1
  intro n
  induction n with
  | zero =>
    intro j0 a1 a2 hk_j0 h
    rw [L_X8_isWord_22] at h
    cases h
  | succ n ih =>
    intro j0 a1 a2 hk_j0 h
    rw [L_X8_isWord_22] at h
    refine z_iload_n hX dX8_isWord_22 2 rfl ?_
    refine z_aload_n hX dX8_isWord_23 0 rfl ?_
    refine g_X8_141 hX hk_j0 dX8_isWord_24 ?_
    rcases ite_or h with ⟨c21, h⟩ | ⟨c21, h⟩
    · refine z_icmp_ge_t hX 64 (by decide) dX8_isWord_27 c21 ?_
      refine z_iload_n hX dX8_isWord_64 1 rfl ?_
      obtain ⟨g22, h⟩ := gd_some h
      obtain rfl := ret1 h
      exact z_zret hR (nb01 g22) dX8_isWord_65
    · refine z_icmp_ge_f hX 64 (by decide) dX8_isWord_27 c21 ?_
      refine z_iload_n hX dX8_isWord_30 1 rfl ?_
      rcases ite_or h with ⟨c23, h⟩ | ⟨c23, h⟩
      · refine z_if_eq_t hX 64 (by decide) dX8_isWord_31 c23 ?_
        refine z_iload_n hX dX8_isWord_64 1 rfl ?_
        obtain ⟨g24, h⟩ := gd_some h
        obtain rfl := ret1 h
        exact z_zret hR (nb01 g24) dX8_isWord_65
      · refine z_if_eq_f hX 64 (by decide) dX8_isWord_31 c23 ?_
        refine z_aload_n hX dX8_isWord_34 0 rfl ?_
        refine g_X8_7 hX hk_j0 dX8_isWord_35 ?_
        refine z_bipush (x := 108) hX dX8_isWord_38 (by decide) ?_
        refine z_iload_n hX dX8_isWord_40 2 rfl ?_
        refine z_iadd hX dX8_isWord_41 ?_
        obtain ⟨g25, h⟩ := gd_some h
        refine z_iald hX (kl_8_0 hk_j0).1 (kl_8_0 hk_j0).2 g25 dX8_isWord_42 ?_
        refine z_aload_n hX dX8_isWord_43 0 rfl ?_
        refine g_X8_22 hX hk_j0 dX8_isWord_44 ?_
        refine z_iload_n hX dX8_isWord_47 2 rfl ?_
        obtain ⟨g26, h⟩ := gd_some h
        refine z_cald hX (kl_8_6 hk_j0).1 (kl_8_6 hk_j0).2 g26 dX8_isWord_48 ?_
        rcases ite_or h with ⟨c27, h⟩ | ⟨c27, h⟩
        · refine z_icmp_ne_f hX 56 (by decide) dX8_isWord_49 c27 ?_
          refine z_iconst (x := 1) hX dX8_isWord_52 (by decide) ?_
          refine z_goto hX 57 (by decide) dX8_isWord_53 ?_
          refine z_istore_n (lv' := [(1, .int 1), (0, rf X.1 j0), (2, .int a2)]) hX dX8_isWord_57 (by decide) rfl ?_
          refine z_iinc (y := (a2 + 1)) (lv' := [(2, .int (a2 + 1)), (1, .int 1), (0, rf X.1 j0)]) hX dX8_isWord_58 2 rfl rfl (by decide) rfl ?_
          refine z_goto hX 22 (by decide) dX8_isWord_61 ?_
          refine z_sub (lv' := [(0, rf X.1 j0), (1, .int 1), (2, .int (a2 + 1))]) [2, 1, 0] rfl ?_
          exact ih j0 1 (a2 + 1) hk_j0 h
        · refine z_icmp_ne_t hX 56 (by decide) dX8_isWord_49 c27 ?_
          refine z_iconst (x := 0) hX dX8_isWord_56 (by decide) ?_
          refine z_istore_n (lv' := [(1, .int 0), (0, rf X.1 j0), (2, .int a2)]) hX dX8_isWord_57 (by decide) rfl ?_
          refine z_iinc (y := (a2 + 1)) (lv' := [(2, .int (a2 + 1)), (1, .int 0), (0, rf X.1 j0)]) hX dX8_isWord_58 2 rfl rfl (by decide) rfl ?_
          refine z_goto hX 22 (by decide) dX8_isWord_61 ?_
          refine z_sub (lv' := [(0, rf X.1 j0), (1, .int 0), (2, .int (a2 + 1))]) [2, 1, 0] rfl ?_
          exact ih j0 0 (a2 + 1) hk_j0 h
set_option maxRecDepth 20000 in
set_option maxHeartbeats 4000000 in
theorem t_X8_isWord_19 {X : CX} {N : Nat} {j0 : Nat} {s0 : Int32} {r : Int32} {σ : HP} (hR : OkX X RX8 cX8_isWord 3 0 0 (some .boolean) (some (.int r)) σ)  (hk_j0 : kd j0 = 8) (h : J_X8_isWord_19  N j0 s0 σ = some r) : Z X σ 19 [(0, rf X.1 j0)] [.int s0] := by
  have hX := hR.1
  unfold J_X8_isWord_19 at h
  refine z_istore_n (lv' := [(1, .int s0), (0, rf X.1 j0)]) hX dX8_isWord_19 (by decide) rfl ?_
  refine z_iconst (x := 0) hX dX8_isWord_20 (by decide) ?_
  refine z_istore_n (lv' := [(2, .int 0), (1, .int s0), (0, rf X.1 j0)]) hX dX8_isWord_21 (by decide) rfl ?_
  refine z_sub (lv' := [(0, rf X.1 j0), (1, .int s0), (2, .int 0)]) [2, 1, 0] rfl ?_
  exact t_X8_isWord_22 hR  N j0 s0 0 hk_j0 h
set_option maxRecDepth 20000 in
set_option maxHeartbeats 4000000 in
theorem c_X8_isWord (w : WP) {N : Nat} {j0 : Nat} {r : Int32} {σ : HP} (hk_j0 : kd j0 = 8) (h : F_X8_isWord N j0 σ = some r) : Ct w yX8_isWord cX8_isWord 3 (some .boolean) 0 0 [rf w j0] σ (some (.int r)) σ := by
  refine z_met w (by decide +kernel) (Nat.le_of_ble_eq_true rfl) (fun X hw hX => ?_)
  subst hw
  have hR : OkX X RX8 cX8_isWord 3 0 0 (some .boolean) (some (.int r)) σ := hX
  have hX := hR.1
  show Z X σ 0 [(0, rf X.1 j0)] []
  unfold F_X8_isWord at h
  refine z_aload_n hX dX8_isWord_0 0 rfl ?_
  refine g_X8_7 hX hk_j0 dX8_isWord_1 ?_
  refine z_bipush (x := 7) hX dX8_isWord_4 (by decide) ?_
  refine z_iald hX (kl_8_0 hk_j0).1 (kl_8_0 hk_j0).2 (by unfold vp_in; decide) dX8_isWord_6 ?_
  refine z_aload_n hX dX8_isWord_7 0 rfl ?_
  refine g_X8_141 hX hk_j0 dX8_isWord_8 ?_
  rcases ite_or h with ⟨c21, h⟩ | ⟨c21, h⟩
  · refine z_icmp_ne_f hX 18 (by decide) dX8_isWord_11 c21 ?_
    refine z_iconst (x := 1) hX dX8_isWord_14 (by decide) ?_
    refine z_goto hX 19 (by decide) dX8_isWord_15 ?_
    exact t_X8_isWord_19 hR  hk_j0 h
  · refine z_icmp_ne_t hX 18 (by decide) dX8_isWord_11 c21 ?_
    refine z_iconst (x := 0) hX dX8_isWord_18 (by decide) ?_
    exact t_X8_isWord_19 hR  hk_j0 h
set_option maxRecDepth 20000 in
set_option maxHeartbeats 4000000 in
theorem t_X8_want_64 {X : CX} {N : Nat} {k32 : (Nat → Int32 → HP → Option (Int32 × HP))} {j0 : Nat} {a2 : Int32} {p0 : Nat} {s1 : Int32} {s2 : Int32} {r : Int32} {σ σ' : HP} (hR : OkX X RX8 cX8_want 3 2 45 (some .int) (some (.int r)) σ') (hk32 : ∀ (j0 : Nat) (a2 : Int32) (σ9 : HP), kd j0 = 8 → k32 j0 a2 σ9 = some (r, σ') → Z X σ9 32 [(0, rf X.1 j0), (2, .int a2)] []) (hk_j0 : kd j0 = 8) (hk_p0 : kd p0 = 9) (hl_p0 : ln p0 = 152) (h : J_X8_want_64 k32 N j0 a2 p0 s1 s2 σ = some (r, σ')) : Z X σ 64 [(0, rf X.1 j0), (2, .int a2)] [.int s2, .int s1, rf X.1 p0] := by
  have hX := hR.1
  unfold J_X8_want_64 at h
  obtain ⟨g21, h⟩ := gd_some h
  obtain ⟨σ22, eσ22, h⟩ := bd_some h
  refine z_iast hX hk_p0 hl_p0 g21 dX8_want_64 ?_
  refine z_ms eσ22 ?_
  refine z_iinc (y := (a2 + 1)) (lv' := [(2, .int (a2 + 1)), (0, rf X.1 j0)]) hX dX8_want_65 1 rfl rfl (by decide) rfl ?_
  refine z_goto hX 32 (by decide) dX8_want_68 ?_
  refine z_sub (lv' := [(0, rf X.1 j0), (2, .int (a2 + 1))]) [1, 0] rfl ?_
  exact hk32 j0 (a2 + 1) σ22 hk_j0 h
set_option maxRecDepth 20000 in
set_option maxHeartbeats 4000000 in
theorem t_X8_want_32 {X : CX} {N : Nat} {r : Int32} {σ' : HP} (hR : OkX X RX8 cX8_want 3 2 45 (some .int) (some (.int r)) σ')  : ∀ (n : Nat) (j0 : Nat) (a2 : Int32) (σ : HP), kd j0 = 8 → L_X8_want_32  N n j0 a2 σ = some (r, σ') → Z X σ 32 [(0, rf X.1 j0), (2, .int a2)] [] := by
  have hX := hR.1
  intro n
  induction n with
  | zero =>
    intro j0 a2 σ hk_j0 h
    rw [L_X8_want_32] at h
    cases h
  | succ n ih =>
    intro j0 a2 σ hk_j0 h
    rw [L_X8_want_32] at h
    refine z_iload_n hX dX8_want_32 1 rfl ?_
    refine z_bipush (x := 12) hX dX8_want_33 (by decide) ?_
    rcases ite_or h with ⟨c21, h⟩ | ⟨c21, h⟩
    · refine z_icmp_ge_t hX 71 (by decide) dX8_want_35 c21 ?_
      refine z_aload_n hX dX8_want_71 0 rfl ?_
      refine g_X8_7 hX hk_j0 dX8_want_72 ?_
      refine z_bipush (x := 7) hX dX8_want_75 (by decide) ?_
      refine z_aload_n hX dX8_want_77 0 rfl ?_
      refine g_X8_141 hX hk_j0 dX8_want_78 ?_
      obtain ⟨σ22, eσ22, h⟩ := bd_some h
      refine z_iast hX (kl_8_0 hk_j0).1 (kl_8_0 hk_j0).2 (by unfold vp_in; decide) dX8_want_81 ?_
      refine z_ms eσ22 ?_
      refine z_aload_n hX dX8_want_82 0 rfl ?_
      refine g_X8_141 hX hk_j0 dX8_want_83 ?_
      obtain ⟨rfl, rfl⟩ := ret2 h
      exact z_iret hR dX8_want_86
    · refine z_icmp_ge_f hX 71 (by decide) dX8_want_35 c21 ?_
      refine z_aload_n hX dX8_want_38 0 rfl ?_
      refine g_X8_7 hX hk_j0 dX8_want_39 ?_
      refine z_bipush (x := 108) hX dX8_want_42 (by decide) ?_
      refine z_iload_n hX dX8_want_44 1 rfl ?_
      refine z_iadd hX dX8_want_45 ?_
      refine z_iload_n hX dX8_want_46 1 rfl ?_
      refine z_aload_n hX dX8_want_47 0 rfl ?_
      refine g_X8_141 hX hk_j0 dX8_want_48 ?_
      rcases ite_or h with ⟨c23, h⟩ | ⟨c23, h⟩
      · refine z_icmp_ge_t hX 63 (by decide) dX8_want_51 c23 ?_
        refine z_iconst (x := 0) hX dX8_want_63 (by decide) ?_
        exact t_X8_want_64 hR (fun j0 a2 σ9 hk_j0 h9 => ih j0 a2 σ9 hk_j0 h9) hk_j0 (kl_8_0 hk_j0).1 (kl_8_0 hk_j0).2 h
      · refine z_icmp_ge_f hX 63 (by decide) dX8_want_51 c23 ?_
        refine z_aload_n hX dX8_want_54 0 rfl ?_
        refine g_X8_22 hX hk_j0 dX8_want_55 ?_
        refine z_iload_n hX dX8_want_58 1 rfl ?_
        obtain ⟨g24, h⟩ := gd_some h
        refine z_cald hX (kl_8_6 hk_j0).1 (kl_8_6 hk_j0).2 g24 dX8_want_59 ?_
        refine z_goto hX 64 (by decide) dX8_want_60 ?_
        exact t_X8_want_64 hR (fun j0 a2 σ9 hk_j0 h9 => ih j0 a2 σ9 hk_j0 h9) hk_j0 (kl_8_0 hk_j0).1 (kl_8_0 hk_j0).2 h
set_option maxRecDepth 20000 in
set_option maxHeartbeats 4000000 in
theorem c_X8_want (w : WP) {N : Nat} {j0 : Nat} {r : Int32} {σ σ' : HP} (hk_j0 : kd j0 = 8) (h : F_X8_want N j0 σ = some (r, σ')) : Ct w yX8_want cX8_want 3 (some .int) 2 45 [rf w j0] σ (some (.int r)) σ' := by
  refine z_met w (by decide +kernel) (Nat.le_of_ble_eq_true rfl) (fun X hw hX => ?_)
  subst hw
  have hR : OkX X RX8 cX8_want 3 2 45 (some .int) (some (.int r)) σ' := hX
  have hX := hR.1
  show Z X σ 0 [(0, rf X.1 j0)] []
  unfold F_X8_want at h
  refine z_aload_n hX dX8_want_0 0 rfl ?_
  obtain ⟨r22, k21, h⟩ := bind_some h
  refine v_X8_160 hX hk_j0 (c_X8_wordFault X.1 hk_j0 k21) (Nat.le_of_ble_eq_true rfl) (Nat.le_of_ble_eq_true rfl) (Nat.le_of_ble_eq_true rfl) dX8_want_1 ?_
  refine z_istore_n (lv' := [(1, .int r22), (0, rf X.1 j0)]) hX dX8_want_4 (by decide) rfl ?_
  refine z_iload_n hX dX8_want_5 0 rfl ?_
  refine z_ldc (x := (-1000005)) hX mc_X8_69 dX8_want_6 ?_
  rcases ite_or h with ⟨c23, h⟩ | ⟨c23, h⟩
  · refine z_icmp_eq_t hX 16 (by decide) dX8_want_8 c23 ?_
    refine z_aload_n hX dX8_want_16 1 rfl ?_
    obtain ⟨r25, k24, h⟩ := bind_some h
    refine v_X8_163 hX hk_j0 (c_X8_isWord X.1 hk_j0 k24) (Nat.le_of_ble_eq_true rfl) (Nat.le_of_ble_eq_true rfl) (Nat.le_of_ble_eq_true rfl) dX8_want_17 ?_
    rcases ite_or h with ⟨c26, h⟩ | ⟨c26, h⟩
    · refine z_if_eq_t hX 26 (by decide) dX8_want_20 c26 ?_
      refine z_aload_n hX dX8_want_26 1 rfl ?_
      obtain ⟨σ28, k27, h⟩ := bind_some h
      refine v_X8_129 hX hk_j0 (c_X8_records X.1 hk_j0 k27) (Nat.le_of_ble_eq_true rfl) (Nat.le_of_ble_eq_true rfl) (Nat.le_of_ble_eq_true rfl) dX8_want_27 ?_
      refine z_iconst (x := 0) hX dX8_want_30 (by decide) ?_
      refine z_istore_n (lv' := [(2, .int 0), (1, .int r22), (0, rf X.1 j0)]) hX dX8_want_31 (by decide) rfl ?_
      refine z_sub (lv' := [(0, rf X.1 j0), (2, .int 0)]) [2, 0] rfl ?_
      exact t_X8_want_32 hR  N j0 0 σ28 hk_j0 h
    · refine z_if_eq_f hX 26 (by decide) dX8_want_20 c26 ?_
      refine z_ldc (x := (-1000005)) hX mc_X8_69 dX8_want_23 ?_
      obtain ⟨rfl, rfl⟩ := ret2 h
      exact z_iret hR dX8_want_25
  · refine z_icmp_eq_f hX 16 (by decide) dX8_want_8 c23 ?_
    refine z_ldc (x := (-1000100)) hX mc_X8_140 dX8_want_11 ?_
    refine z_iload_n hX dX8_want_13 0 rfl ?_
    refine z_isub hX dX8_want_14 ?_
    obtain ⟨rfl, rfl⟩ := ret2 h
    exact z_iret hR dX8_want_15
set_option maxRecDepth 20000 in
set_option maxHeartbeats 4000000 in
theorem c_X8_type (w : WP) {N : Nat} {j0 : Nat} {a1 : Int32} {r : Int32} {σ σ' : HP} (hk_j0 : kd j0 = 8) (h : F_X8_type N j0 a1 σ = some (r, σ')) : Ct w yX8_type cX8_type 2 (some .int) 0 0 [rf w j0, .int a1] σ (some (.int r)) σ' := by
  refine z_met w (by decide +kernel) (Nat.le_of_ble_eq_true rfl) (fun X hw hX => ?_)
  subst hw
  have hR : OkX X RX8 cX8_type 2 0 0 (some .int) (some (.int r)) σ' := hX
  have hX := hR.1
  show Z X σ 0 [(0, rf X.1 j0), (1, .int a1)] []
  unfold F_X8_type at h
  refine z_aload_n hX dX8_type_0 0 rfl ?_
  refine g_X8_141 hX hk_j0 dX8_type_1 ?_
  refine z_bipush (x := 60) hX dX8_type_4 (by decide) ?_
  rcases ite_or h with ⟨c21, h⟩ | ⟨c21, h⟩
  · refine z_icmp_ne_f hX 12 (by decide) dX8_type_6 c21 ?_
    refine z_ldc (x := (-1000003)) hX mc_X8_128 dX8_type_9 ?_
    obtain ⟨rfl, rfl⟩ := ret2 h
    exact z_iret hR dX8_type_11
  · refine z_icmp_ne_t hX 12 (by decide) dX8_type_6 c21 ?_
    refine z_aload_n hX dX8_type_12 0 rfl ?_
    refine g_X8_22 hX hk_j0 dX8_type_13 ?_
    refine z_aload_n hX dX8_type_16 0 rfl ?_
    refine g_X8_141 hX hk_j0 dX8_type_17 ?_
    refine z_iload_n hX dX8_type_20 1 rfl ?_
    obtain ⟨g22, h⟩ := gd_some h
    obtain ⟨σ23, eσ23, h⟩ := bd_some h
    refine z_cast hX (kl_8_6 hk_j0).1 (kl_8_6 hk_j0).2 g22 dX8_type_21 ?_
    refine z_ms eσ23 ?_
    refine z_aload_n hX dX8_type_22 0 rfl ?_
    refine z_dup hX rfl dX8_type_23 ?_
    refine g_X8_141 hX hk_j0 dX8_type_24 ?_
    refine z_iconst (x := 1) hX dX8_type_27 (by decide) ?_
    refine z_iadd hX dX8_type_28 ?_
    obtain ⟨σ24, eσ24, h⟩ := bd_some h
    refine p_X8_141 hX hk_j0 dX8_type_29 ?_
    refine z_ms eσ24 ?_
    refine z_aload_n hX dX8_type_32 0 rfl ?_
    refine g_X8_141 hX hk_j0 dX8_type_33 ?_
    obtain ⟨rfl, rfl⟩ := ret2 h
    exact z_iret hR dX8_type_36
set_option maxRecDepth 20000 in
set_option maxHeartbeats 4000000 in
theorem c_X8_clearText (w : WP) {N : Nat} {j0 : Nat} {r : Int32} {σ σ' : HP} (hk_j0 : kd j0 = 8) (h : F_X8_clearText N j0 σ = some (r, σ')) : Ct w yX8_clearText cX8_clearText 2 (some .int) 0 0 [rf w j0] σ (some (.int r)) σ' := by
  refine z_met w (by decide +kernel) (Nat.le_of_ble_eq_true rfl) (fun X hw hX => ?_)
  subst hw
  have hR : OkX X RX8 cX8_clearText 2 0 0 (some .int) (some (.int r)) σ' := hX
  have hX := hR.1
  show Z X σ 0 [(0, rf X.1 j0)] []
  unfold F_X8_clearText at h
  refine z_aload_n hX dX8_clearText_0 0 rfl ?_
  refine g_X8_141 hX hk_j0 dX8_clearText_1 ?_
  obtain ⟨x21, ex21, h⟩ := bd_some h
  refine z_top ex21 ?_
  refine z_istore_n (lv' := [(1, .int x21), (0, rf X.1 j0)]) hX dX8_clearText_4 (by decide) rfl ?_
  refine z_aload_n hX dX8_clearText_5 1 rfl ?_
  refine z_iconst (x := 0) hX dX8_clearText_6 (by decide) ?_
  obtain ⟨σ22, eσ22, h⟩ := bd_some h
  refine p_X8_141 hX hk_j0 dX8_clearText_7 ?_
  refine z_ms eσ22 ?_
  refine z_iload_n hX dX8_clearText_10 0 rfl ?_
  obtain ⟨rfl, rfl⟩ := ret2 h
  exact z_iret hR dX8_clearText_11
set_option maxRecDepth 20000 in
set_option maxHeartbeats 4000000 in
theorem c_X8_undo (w : WP) {N : Nat} {j0 : Nat} {r : Int32} {σ σ' : HP} (hk_j0 : kd j0 = 8) (h : F_X8_undo N j0 σ = some (r, σ')) : Ct w yX8_undo cX8_undo 1 (some .int) 1 24 [rf w j0] σ (some (.int r)) σ' := by
  refine z_met w (by decide +kernel) (Nat.le_of_ble_eq_true rfl) (fun X hw hX => ?_)
  subst hw
  have hR : OkX X RX8 cX8_undo 1 1 24 (some .int) (some (.int r)) σ' := hX
  have hX := hR.1
  show Z X σ 0 [(0, rf X.1 j0)] []
  unfold F_X8_undo at h
  refine z_aload_n hX dX8_undo_0 0 rfl ?_
  refine g_X8_39 hX hk_j0 dX8_undo_1 ?_
  rcases ite_or h with ⟨c21, h⟩ | ⟨c21, h⟩
  · refine z_if_ne_f hX 10 (by decide) dX8_undo_4 c21 ?_
    refine z_ldc (x := (-1000005)) hX mc_X8_69 dX8_undo_7 ?_
    obtain ⟨rfl, rfl⟩ := ret2 h
    exact z_iret hR dX8_undo_9
  · refine z_if_ne_t hX 10 (by decide) dX8_undo_4 c21 ?_
    refine z_aload_n hX dX8_undo_10 0 rfl ?_
    refine z_dup hX rfl dX8_undo_11 ?_
    refine g_X8_39 hX hk_j0 dX8_undo_12 ?_
    refine z_iconst (x := 1) hX dX8_undo_15 (by decide) ?_
    refine z_isub hX dX8_undo_16 ?_
    obtain ⟨σ22, eσ22, h⟩ := bd_some h
    refine p_X8_39 hX hk_j0 dX8_undo_17 ?_
    refine z_ms eσ22 ?_
    refine z_aload_n hX dX8_undo_20 0 rfl ?_
    refine g_X8_16 hX hk_j0 dX8_undo_21 ?_
    refine z_sipush (x := 152) hX dX8_undo_24 (by decide) ?_
    refine z_aload_n hX dX8_undo_27 0 rfl ?_
    refine g_X8_39 hX hk_j0 dX8_undo_28 ?_
    refine z_imul hX dX8_undo_31 ?_
    refine z_aload_n hX dX8_undo_32 0 rfl ?_
    refine g_X8_7 hX hk_j0 dX8_undo_33 ?_
    refine z_iconst (x := 0) hX dX8_undo_36 (by decide) ?_
    obtain ⟨σ24, k23, h⟩ := bind_some h
    refine v_X8_43 hX (c_X8_lays X.1 (kl_8_2 hk_j0).1 (kl_8_0 hk_j0).1 k23) (Nat.le_of_ble_eq_true rfl) (Nat.le_of_ble_eq_true rfl) (Nat.le_of_ble_eq_true rfl) dX8_undo_37 ?_
    refine z_aload_n hX dX8_undo_40 0 rfl ?_
    refine g_X8_39 hX hk_j0 dX8_undo_41 ?_
    obtain ⟨rfl, rfl⟩ := ret2 h
    exact z_iret hR dX8_undo_44
set_option maxRecDepth 20000 in
set_option maxHeartbeats 4000000 in
theorem c_X8_keep (w : WP) {N : Nat} {j0 : Nat} {r : Int32} {σ σ' : HP} (hk_j0 : kd j0 = 8) (h : F_X8_keep N j0 σ = some (r, σ')) : Ct w yX8_keep cX8_keep 1 (some .int) 1 24 [rf w j0] σ (some (.int r)) σ' := by
  refine z_met w (by decide +kernel) (Nat.le_of_ble_eq_true rfl) (fun X hw hX => ?_)
  subst hw
  have hR : OkX X RX8 cX8_keep 1 1 24 (some .int) (some (.int r)) σ' := hX
  have hX := hR.1
  show Z X σ 0 [(0, rf X.1 j0)] []
  unfold F_X8_keep at h
  refine z_aload_n hX dX8_keep_0 0 rfl ?_
  refine g_X8_7 hX hk_j0 dX8_keep_1 ?_
  refine z_iconst (x := 0) hX dX8_keep_4 (by decide) ?_
  refine z_aload_n hX dX8_keep_5 0 rfl ?_
  refine g_X8_19 hX hk_j0 dX8_keep_6 ?_
  refine z_iconst (x := 0) hX dX8_keep_9 (by decide) ?_
  obtain ⟨σ22, k21, h⟩ := bind_some h
  refine v_X8_43 hX (c_X8_lays X.1 (kl_8_0 hk_j0).1 (kl_8_4 hk_j0).1 k21) (Nat.le_of_ble_eq_true rfl) (Nat.le_of_ble_eq_true rfl) (Nat.le_of_ble_eq_true rfl) dX8_keep_10 ?_
  refine z_aload_n hX dX8_keep_13 0 rfl ?_
  refine z_iconst (x := 1) hX dX8_keep_14 (by decide) ?_
  obtain ⟨σ23, eσ23, h⟩ := bd_some h
  refine p_X8_167 hX hk_j0 (Or.inr rfl) dX8_keep_15 ?_
  refine z_ms eσ23 ?_
  refine z_aload_n hX dX8_keep_18 0 rfl ?_
  refine g_X8_7 hX hk_j0 dX8_keep_19 ?_
  refine z_iconst (x := 1) hX dX8_keep_22 (by decide) ?_
  refine z_iald hX (kl_8_0 hk_j0).1 (kl_8_0 hk_j0).2 (by unfold vp_in; decide) dX8_keep_23 ?_
  obtain ⟨rfl, rfl⟩ := ret2 h
  exact z_iret hR dX8_keep_24
set_option maxRecDepth 20000 in
set_option maxHeartbeats 4000000 in
theorem c_X8_restore (w : WP) {N : Nat} {j0 : Nat} {r : Int32} {σ σ' : HP} (hk_j0 : kd j0 = 8) (h : F_X8_restore N j0 σ = some (r, σ')) : Ct w yX8_restore cX8_restore 1 (some .int) 2 45 [rf w j0] σ (some (.int r)) σ' := by
  refine z_met w (by decide +kernel) (Nat.le_of_ble_eq_true rfl) (fun X hw hX => ?_)
  subst hw
  have hR : OkX X RX8 cX8_restore 1 2 45 (some .int) (some (.int r)) σ' := hX
  have hX := hR.1
  show Z X σ 0 [(0, rf X.1 j0)] []
  unfold F_X8_restore at h
  refine z_aload_n hX dX8_restore_0 0 rfl ?_
  refine g_X8_167 hX hk_j0 dX8_restore_1 ?_
  rcases ite_or h with ⟨c21, h⟩ | ⟨c21, h⟩
  · refine z_if_ne_f hX 10 (by decide) dX8_restore_4 c21 ?_
    refine z_ldc (x := (-1000005)) hX mc_X8_69 dX8_restore_7 ?_
    obtain ⟨rfl, rfl⟩ := ret2 h
    exact z_iret hR dX8_restore_9
  · refine z_if_ne_t hX 10 (by decide) dX8_restore_4 c21 ?_
    refine z_aload_n hX dX8_restore_10 0 rfl ?_
    obtain ⟨σ23, k22, h⟩ := bind_some h
    refine v_X8_129 hX hk_j0 (c_X8_records X.1 hk_j0 k22) (Nat.le_of_ble_eq_true rfl) (Nat.le_of_ble_eq_true rfl) (Nat.le_of_ble_eq_true rfl) dX8_restore_11 ?_
    refine z_aload_n hX dX8_restore_14 0 rfl ?_
    refine g_X8_19 hX hk_j0 dX8_restore_15 ?_
    refine z_iconst (x := 0) hX dX8_restore_18 (by decide) ?_
    refine z_aload_n hX dX8_restore_19 0 rfl ?_
    refine g_X8_7 hX hk_j0 dX8_restore_20 ?_
    refine z_iconst (x := 0) hX dX8_restore_23 (by decide) ?_
    obtain ⟨σ25, k24, h⟩ := bind_some h
    refine v_X8_43 hX (c_X8_lays X.1 (kl_8_4 hk_j0).1 (kl_8_0 hk_j0).1 k24) (Nat.le_of_ble_eq_true rfl) (Nat.le_of_ble_eq_true rfl) (Nat.le_of_ble_eq_true rfl) dX8_restore_24 ?_
    refine z_aload_n hX dX8_restore_27 0 rfl ?_
    refine g_X8_7 hX hk_j0 dX8_restore_28 ?_
    refine z_iconst (x := 1) hX dX8_restore_31 (by decide) ?_
    refine z_iald hX (kl_8_0 hk_j0).1 (kl_8_0 hk_j0).2 (by unfold vp_in; decide) dX8_restore_32 ?_
    obtain ⟨rfl, rfl⟩ := ret2 h
    exact z_iret hR dX8_restore_33
set_option maxRecDepth 20000 in
set_option maxHeartbeats 4000000 in
theorem t_X8_partner_5 {X : CX} {N : Nat} {r : Int32} {σ : HP} (hR : OkX X RX8 cX8_partner 4 2 43 (some .int) (some (.int r)) σ)  : ∀ (n : Nat) (j0 : Nat) (a1 : Int32) (a2 : Int32) (a3 : Int32), kd j0 = 8 → L_X8_partner_5  N σ n j0 a1 a2 a3 = some r → Z X σ 5 [(0, rf X.1 j0), (1, .int a1), (2, .int a2), (3, .int a3)] [] := by
  have hX := hR.1
  intro n
  induction n with
  | zero =>
    intro j0 a1 a2 a3 hk_j0 h
    rw [L_X8_partner_5] at h
    cases h
  | succ n ih =>
    intro j0 a1 a2 a3 hk_j0 h
    rw [L_X8_partner_5] at h
    refine z_iload_n hX dX8_partner_5 3 rfl ?_
    refine z_aload_n hX dX8_partner_6 0 rfl ?_
    refine g_X8_7 hX hk_j0 dX8_partner_7 ?_
    refine z_iconst (x := 0) hX dX8_partner_10 (by decide) ?_
    refine z_iald hX (kl_8_0 hk_j0).1 (kl_8_0 hk_j0).2 (by unfold vp_in; decide) dX8_partner_11 ?_
    rcases ite_or h with ⟨c21, h⟩ | ⟨c21, h⟩
    · refine z_icmp_ge_t hX 59 (by decide) dX8_partner_12 c21 ?_
      refine z_iload_n hX dX8_partner_59 2 rfl ?_
      obtain rfl := ret1 h
      exact z_iret hR dX8_partner_60
    · refine z_icmp_ge_f hX 59 (by decide) dX8_partner_12 c21 ?_
      refine z_aload_n hX dX8_partner_15 0 rfl ?_
      refine g_X8_7 hX hk_j0 dX8_partner_16 ?_
      refine z_iload_n hX dX8_partner_19 1 rfl ?_
      obtain ⟨r23, k22, h⟩ := bind_some h
      refine v_X8_59 hX (c_X8_isTangled X.1 (kl_8_0 hk_j0).1 (kl_8_0 hk_j0).2 k22) (Nat.le_of_ble_eq_true rfl) (Nat.le_of_ble_eq_true rfl) (Nat.le_of_ble_eq_true rfl) dX8_partner_20 ?_
      rcases ite_or h with ⟨c24, h⟩ | ⟨c24, h⟩
      · refine z_if_eq_t hX 59 (by decide) dX8_partner_23 c24 ?_
        refine z_iload_n hX dX8_partner_59 2 rfl ?_
        obtain rfl := ret1 h
        exact z_iret hR dX8_partner_60
      · refine z_if_eq_f hX 59 (by decide) dX8_partner_23 c24 ?_
        refine z_aload_n hX dX8_partner_26 0 rfl ?_
        refine g_X8_7 hX hk_j0 dX8_partner_27 ?_
        refine z_iload_n hX dX8_partner_30 3 rfl ?_
        refine z_iconst (x := 0) hX dX8_partner_31 (by decide) ?_
        obtain ⟨r26, k25, h⟩ := bind_some h
        refine v_X8_51 hX (c_X8_of X.1 (kl_8_0 hk_j0).1 (kl_8_0 hk_j0).2 k25) (Nat.le_of_ble_eq_true rfl) (Nat.le_of_ble_eq_true rfl) (Nat.le_of_ble_eq_true rfl) dX8_partner_32 ?_
        refine z_aload_n hX dX8_partner_35 0 rfl ?_
        refine g_X8_7 hX hk_j0 dX8_partner_36 ?_
        refine z_iload_n hX dX8_partner_39 1 rfl ?_
        refine z_iconst (x := 3) hX dX8_partner_40 (by decide) ?_
        obtain ⟨r28, k27, h⟩ := bind_some h
        refine v_X8_51 hX (c_X8_of X.1 (kl_8_0 hk_j0).1 (kl_8_0 hk_j0).2 k27) (Nat.le_of_ble_eq_true rfl) (Nat.le_of_ble_eq_true rfl) (Nat.le_of_ble_eq_true rfl) dX8_partner_41 ?_
        rcases ite_or h with ⟨c29, h⟩ | ⟨c29, h⟩
        · refine z_icmp_ne_f hX 51 (by decide) dX8_partner_44 c29 ?_
          refine z_iload_n hX dX8_partner_47 3 rfl ?_
          refine z_goto hX 52 (by decide) dX8_partner_48 ?_
          refine z_istore_n (lv' := [(2, .int a3), (0, rf X.1 j0), (1, .int a1), (3, .int a3)]) hX dX8_partner_52 (by decide) rfl ?_
          refine z_iinc (y := (a3 + 1)) (lv' := [(3, .int (a3 + 1)), (2, .int a3), (0, rf X.1 j0), (1, .int a1)]) hX dX8_partner_53 3 rfl rfl (by decide) rfl ?_
          refine z_goto hX 5 (by decide) dX8_partner_56 ?_
          refine z_sub (lv' := [(0, rf X.1 j0), (1, .int a1), (2, .int a3), (3, .int (a3 + 1))]) [2, 3, 1, 0] rfl ?_
          exact ih j0 a1 a3 (a3 + 1) hk_j0 h
        · refine z_icmp_ne_t hX 51 (by decide) dX8_partner_44 c29 ?_
          refine z_iload_n hX dX8_partner_51 2 rfl ?_
          refine z_istore_n (lv' := [(2, .int a2), (0, rf X.1 j0), (1, .int a1), (3, .int a3)]) hX dX8_partner_52 (by decide) rfl ?_
          refine z_iinc (y := (a3 + 1)) (lv' := [(3, .int (a3 + 1)), (2, .int a2), (0, rf X.1 j0), (1, .int a1)]) hX dX8_partner_53 3 rfl rfl (by decide) rfl ?_
          refine z_goto hX 5 (by decide) dX8_partner_56 ?_
          refine z_sub (lv' := [(0, rf X.1 j0), (1, .int a1), (2, .int a2), (3, .int (a3 + 1))]) [2, 3, 1, 0] rfl ?_
          exact ih j0 a1 a2 (a3 + 1) hk_j0 h
set_option maxRecDepth 20000 in
set_option maxHeartbeats 4000000 in
theorem c_X8_partner (w : WP) {N : Nat} {j0 : Nat} {a1 : Int32} {r : Int32} {σ : HP} (hk_j0 : kd j0 = 8) (h : F_X8_partner N j0 a1 σ = some r) : Ct w yX8_partner cX8_partner 4 (some .int) 2 43 [rf w j0, .int a1] σ (some (.int r)) σ := by
  refine z_met w (by decide +kernel) (Nat.le_of_ble_eq_true rfl) (fun X hw hX => ?_)
  subst hw
  have hR : OkX X RX8 cX8_partner 4 2 43 (some .int) (some (.int r)) σ := hX
  have hX := hR.1
  show Z X σ 0 [(0, rf X.1 j0), (1, .int a1)] []
  unfold F_X8_partner at h
  refine z_ldc (x := (-1000005)) hX mc_X8_69 dX8_partner_0 ?_
  refine z_istore_n (lv' := [(2, .int (-1000005)), (0, rf X.1 j0), (1, .int a1)]) hX dX8_partner_2 (by decide) rfl ?_
  refine z_iconst (x := 0) hX dX8_partner_3 (by decide) ?_
  refine z_istore_n (lv' := [(3, .int 0), (2, .int (-1000005)), (0, rf X.1 j0), (1, .int a1)]) hX dX8_partner_4 (by decide) rfl ?_
  refine z_sub (lv' := [(0, rf X.1 j0), (1, .int a1), (2, .int (-1000005)), (3, .int 0)]) [2, 3, 1, 0] rfl ?_
  exact t_X8_partner_5 hR  N j0 a1 (-1000005) 0 hk_j0 h
set_option maxRecDepth 20000 in
set_option maxHeartbeats 4000000 in
theorem c_X8_flier (w : WP) {N : Nat} {j0 : Nat} {a1 : Int32} {a2 : Int32} {r : Int32} {σ : HP} (hk_j0 : kd j0 = 8) (h : F_X8_flier N j0 a1 a2 σ = some r) : Ct w yX8_flier cX8_flier 3 (some .int) 4 88 [rf w j0, .int a1, .int a2] σ (some (.int r)) σ := by
  refine z_met w (by decide +kernel) (Nat.le_of_ble_eq_true rfl) (fun X hw hX => ?_)
  subst hw
  have hR : OkX X RX8 cX8_flier 3 4 88 (some .int) (some (.int r)) σ := hX
  have hX := hR.1
  show Z X σ 0 [(0, rf X.1 j0), (1, .int a1), (2, .int a2)] []
  unfold F_X8_flier at h
  refine z_aload_n hX dX8_flier_0 0 rfl ?_
  refine z_iload_n hX dX8_flier_1 1 rfl ?_
  obtain ⟨r22, k21, h⟩ := bind_some h
  refine v_X8_144 hX hk_j0 (c_X8_isPlace X.1 hk_j0 k21) (Nat.le_of_ble_eq_true rfl) (Nat.le_of_ble_eq_true rfl) (Nat.le_of_ble_eq_true rfl) dX8_flier_2 ?_
  rcases ite_or h with ⟨c23, h⟩ | ⟨c23, h⟩
  · refine z_if_ne_f hX 11 (by decide) dX8_flier_5 c23 ?_
    refine z_ldc (x := (-1000001)) hX mc_X8_147 dX8_flier_8 ?_
    obtain rfl := ret1 h
    exact z_iret hR dX8_flier_10
  · refine z_if_ne_t hX 11 (by decide) dX8_flier_5 c23 ?_
    refine z_iload_n hX dX8_flier_11 2 rfl ?_
    rcases ite_or h with ⟨c24, h⟩ | ⟨c24, h⟩
    · refine z_tabIn hX 60 (by rw [c24]; decide) (by rw [c24]; decide) (by rw [c24]; rfl) (by decide) dX8_flier_12 ?_
      refine z_aload_n hX dX8_flier_60 0 rfl ?_
      refine g_X8_7 hX hk_j0 dX8_flier_61 ?_
      refine z_iload_n hX dX8_flier_64 1 rfl ?_
      refine z_iload_n hX dX8_flier_65 2 rfl ?_
      obtain ⟨r26, k25, h⟩ := bind_some h
      refine v_X8_51 hX (c_X8_of X.1 (kl_8_0 hk_j0).1 (kl_8_0 hk_j0).2 k25) (Nat.le_of_ble_eq_true rfl) (Nat.le_of_ble_eq_true rfl) (Nat.le_of_ble_eq_true rfl) dX8_flier_66 ?_
      obtain rfl := ret1 h
      exact z_iret hR dX8_flier_69
    rcases ite_or h with ⟨c27, h⟩ | ⟨c27, h⟩
    · refine z_tabIn hX 60 (by rw [c27]; decide) (by rw [c27]; decide) (by rw [c27]; rfl) (by decide) dX8_flier_12 ?_
      refine z_aload_n hX dX8_flier_60 0 rfl ?_
      refine g_X8_7 hX hk_j0 dX8_flier_61 ?_
      refine z_iload_n hX dX8_flier_64 1 rfl ?_
      refine z_iload_n hX dX8_flier_65 2 rfl ?_
      obtain ⟨r29, k28, h⟩ := bind_some h
      refine v_X8_51 hX (c_X8_of X.1 (kl_8_0 hk_j0).1 (kl_8_0 hk_j0).2 k28) (Nat.le_of_ble_eq_true rfl) (Nat.le_of_ble_eq_true rfl) (Nat.le_of_ble_eq_true rfl) dX8_flier_66 ?_
      obtain rfl := ret1 h
      exact z_iret hR dX8_flier_69
    rcases ite_or h with ⟨c30, h⟩ | ⟨c30, h⟩
    · refine z_tabIn hX 60 (by rw [c30]; decide) (by rw [c30]; decide) (by rw [c30]; rfl) (by decide) dX8_flier_12 ?_
      refine z_aload_n hX dX8_flier_60 0 rfl ?_
      refine g_X8_7 hX hk_j0 dX8_flier_61 ?_
      refine z_iload_n hX dX8_flier_64 1 rfl ?_
      refine z_iload_n hX dX8_flier_65 2 rfl ?_
      obtain ⟨r32, k31, h⟩ := bind_some h
      refine v_X8_51 hX (c_X8_of X.1 (kl_8_0 hk_j0).1 (kl_8_0 hk_j0).2 k31) (Nat.le_of_ble_eq_true rfl) (Nat.le_of_ble_eq_true rfl) (Nat.le_of_ble_eq_true rfl) dX8_flier_66 ?_
      obtain rfl := ret1 h
      exact z_iret hR dX8_flier_69
    rcases ite_or h with ⟨c33, h⟩ | ⟨c33, h⟩
    · refine z_tabIn hX 70 (by rw [c33]; decide) (by rw [c33]; decide) (by rw [c33]; rfl) (by decide) dX8_flier_12 ?_
      refine z_aload_n hX dX8_flier_70 0 rfl ?_
      refine g_X8_7 hX hk_j0 dX8_flier_71 ?_
      refine z_iload_n hX dX8_flier_74 1 rfl ?_
      obtain ⟨r35, k34, h⟩ := bind_some h
      refine v_X8_63 hX (c_X8_shown X.1 (kl_8_0 hk_j0).1 (kl_8_0 hk_j0).2 k34) (Nat.le_of_ble_eq_true rfl) (Nat.le_of_ble_eq_true rfl) (Nat.le_of_ble_eq_true rfl) dX8_flier_75 ?_
      obtain rfl := ret1 h
      exact z_iret hR dX8_flier_78
    rcases ite_or h with ⟨c36, h⟩ | ⟨c36, h⟩
    · refine z_tabIn hX 79 (by rw [c36]; decide) (by rw [c36]; decide) (by rw [c36]; rfl) (by decide) dX8_flier_12 ?_
      refine z_aload_n hX dX8_flier_79 0 rfl ?_
      refine z_iload_n hX dX8_flier_80 1 rfl ?_
      obtain ⟨r38, k37, h⟩ := bind_some h
      refine v_X8_171 hX hk_j0 (c_X8_partner X.1 hk_j0 k37) (Nat.le_of_ble_eq_true rfl) (Nat.le_of_ble_eq_true rfl) (Nat.le_of_ble_eq_true rfl) dX8_flier_81 ?_
      obtain rfl := ret1 h
      exact z_iret hR dX8_flier_84
    rcases ite_or h with ⟨c39, h⟩ | ⟨c39, h⟩
    · refine z_tabIn hX 85 (by rw [c39]; decide) (by rw [c39]; decide) (by rw [c39]; rfl) (by decide) dX8_flier_12 ?_
      refine z_aload_n hX dX8_flier_85 0 rfl ?_
      refine g_X8_7 hX hk_j0 dX8_flier_86 ?_
      refine z_iload_n hX dX8_flier_89 1 rfl ?_
      refine z_iconst (x := 4) hX dX8_flier_90 (by decide) ?_
      obtain ⟨r41, k40, h⟩ := bind_some h
      refine v_X8_51 hX (c_X8_of X.1 (kl_8_0 hk_j0).1 (kl_8_0 hk_j0).2 k40) (Nat.le_of_ble_eq_true rfl) (Nat.le_of_ble_eq_true rfl) (Nat.le_of_ble_eq_true rfl) dX8_flier_91 ?_
      obtain rfl := ret1 h
      exact z_iret hR dX8_flier_94
    rcases ite_or h with ⟨c42, h⟩ | ⟨c42, h⟩
    · refine z_tabIn hX 95 (by rw [c42]; decide) (by rw [c42]; decide) (by rw [c42]; rfl) (by decide) dX8_flier_12 ?_
      refine z_aload_n hX dX8_flier_95 0 rfl ?_
      refine g_X8_7 hX hk_j0 dX8_flier_96 ?_
      refine z_iload_n hX dX8_flier_99 1 rfl ?_
      obtain ⟨r44, k43, h⟩ := bind_some h
      refine v_X8_66 hX (c_X8_isRead X.1 (kl_8_0 hk_j0).1 (kl_8_0 hk_j0).2 k43) (Nat.le_of_ble_eq_true rfl) (Nat.le_of_ble_eq_true rfl) (Nat.le_of_ble_eq_true rfl) dX8_flier_100 ?_
      rcases ite_or h with ⟨c45, h⟩ | ⟨c45, h⟩
      · refine z_if_eq_t hX 110 (by decide) dX8_flier_103 c45 ?_
        refine z_iconst (x := 0) hX dX8_flier_110 (by decide) ?_
        obtain rfl := ret1 h
        exact z_iret hR dX8_flier_111
      · refine z_if_eq_f hX 110 (by decide) dX8_flier_103 c45 ?_
        refine z_iconst (x := 1) hX dX8_flier_106 (by decide) ?_
        refine z_goto hX 111 (by decide) dX8_flier_107 ?_
        obtain rfl := ret1 h
        exact z_iret hR dX8_flier_111
    rcases ite_or h with ⟨c46, h⟩ | ⟨c46, h⟩
    · refine z_tabIn hX 112 (by rw [c46]; decide) (by rw [c46]; decide) (by rw [c46]; rfl) (by decide) dX8_flier_12 ?_
      refine z_aload_n hX dX8_flier_112 0 rfl ?_
      refine g_X8_7 hX hk_j0 dX8_flier_113 ?_
      refine z_iload_n hX dX8_flier_116 1 rfl ?_
      refine z_iconst (x := 5) hX dX8_flier_117 (by decide) ?_
      obtain ⟨r48, k47, h⟩ := bind_some h
      refine v_X8_51 hX (c_X8_of X.1 (kl_8_0 hk_j0).1 (kl_8_0 hk_j0).2 k47) (Nat.le_of_ble_eq_true rfl) (Nat.le_of_ble_eq_true rfl) (Nat.le_of_ble_eq_true rfl) dX8_flier_118 ?_
      obtain rfl := ret1 h
      exact z_iret hR dX8_flier_121
    refine z_tabOut hX 122 (by have n0 := lv_neT c24 (a := 0) (by decide); have n1 := lv_neT c27 (a := 1) (by decide); have n2 := lv_neT c30 (a := 2) (by decide); have n3 := lv_neT c33 (a := 3) (by decide); have n4 := lv_neT c36 (a := 4) (by decide); have n5 := lv_neT c39 (a := 5) (by decide); have n6 := lv_neT c42 (a := 6) (by decide); have n7 := lv_neT c46 (a := 7) (by decide); omega) (by decide) dX8_flier_12 ?_
    refine z_ldc (x := (-1000002)) hX mc_X8_123 dX8_flier_122 ?_
    obtain rfl := ret1 h
    exact z_iret hR dX8_flier_124
set_option maxRecDepth 20000 in
set_option maxHeartbeats 4000000 in
theorem c_X8_reads (w : WP) {N : Nat} {j0 : Nat} {a1 : Int32} {r : Int32} {σ : HP} (hk_j0 : kd j0 = 8) (h : F_X8_reads N j0 a1 σ = some r) : Ct w yX8_reads cX8_reads 3 (some .int) 5 113 [rf w j0, .int a1] σ (some (.int r)) σ := by
  refine z_met w (by decide +kernel) (Nat.le_of_ble_eq_true rfl) (fun X hw hX => ?_)
  subst hw
  have hR : OkX X RX8 cX8_reads 3 5 113 (some .int) (some (.int r)) σ := hX
  have hX := hR.1
  show Z X σ 0 [(0, rf X.1 j0), (1, .int a1)] []
  unfold F_X8_reads at h
  refine z_iload_n hX dX8_reads_0 1 rfl ?_
  rcases ite_or h with ⟨c21, h⟩ | ⟨c21, h⟩
  · refine z_if_ge_t hX 7 (by decide) dX8_reads_1 c21 ?_
    refine z_aload_n hX dX8_reads_7 0 rfl ?_
    refine g_X8_7 hX hk_j0 dX8_reads_8 ?_
    refine z_iload_n hX dX8_reads_11 1 rfl ?_
    obtain ⟨r23, k22, h⟩ := bind_some h
    refine v_X8_74 hX (c_X8_ranked X.1 (kl_8_0 hk_j0).1 (kl_8_0 hk_j0).2 k22) (Nat.le_of_ble_eq_true rfl) (Nat.le_of_ble_eq_true rfl) (Nat.le_of_ble_eq_true rfl) dX8_reads_12 ?_
    refine z_istore_n (lv' := [(2, .int r23), (0, rf X.1 j0), (1, .int a1)]) hX dX8_reads_15 (by decide) rfl ?_
    refine z_iload_n hX dX8_reads_16 0 rfl ?_
    refine z_ldc (x := (-1000005)) hX mc_X8_69 dX8_reads_17 ?_
    rcases ite_or h with ⟨c24, h⟩ | ⟨c24, h⟩
    · refine z_icmp_ne_f hX 27 (by decide) dX8_reads_19 c24 ?_
      refine z_ldc (x := (-1000005)) hX mc_X8_69 dX8_reads_22 ?_
      refine z_goto hX 36 (by decide) dX8_reads_24 ?_
      obtain rfl := ret1 h
      exact z_iret hR dX8_reads_36
    · refine z_icmp_ne_t hX 27 (by decide) dX8_reads_19 c24 ?_
      refine z_aload_n hX dX8_reads_27 1 rfl ?_
      refine g_X8_7 hX hk_j0 dX8_reads_28 ?_
      refine z_iload_n hX dX8_reads_31 0 rfl ?_
      refine z_iconst (x := 1) hX dX8_reads_32 (by decide) ?_
      obtain ⟨r26, k25, h⟩ := bind_some h
      refine v_X8_51 hX (c_X8_of X.1 (kl_8_0 hk_j0).1 (kl_8_0 hk_j0).2 k25) (Nat.le_of_ble_eq_true rfl) (Nat.le_of_ble_eq_true rfl) (Nat.le_of_ble_eq_true rfl) dX8_reads_33 ?_
      obtain rfl := ret1 h
      exact z_iret hR dX8_reads_36
  · refine z_if_ge_f hX 7 (by decide) dX8_reads_1 c21 ?_
    refine z_ldc (x := (-1000002)) hX mc_X8_123 dX8_reads_4 ?_
    obtain rfl := ret1 h
    exact z_iret hR dX8_reads_6
set_option maxRecDepth 20000 in
set_option maxHeartbeats 4000000 in
theorem c_X8_ifTraded (w : WP) {N : Nat} {j0 : Nat} {a1 : Int32} {a2 : Int32} {r : Int32} {σ σ' : HP} (hk_j0 : kd j0 = 8) (h : F_X8_ifTraded N j0 a1 a2 σ = some (r, σ')) : Ct w yX8_ifTraded cX8_ifTraded 5 (some .int) 5 113 [rf w j0, .int a1, .int a2] σ (some (.int r)) σ' := by
  refine z_met w (by decide +kernel) (Nat.le_of_ble_eq_true rfl) (fun X hw hX => ?_)
  subst hw
  have hR : OkX X RX8 cX8_ifTraded 5 5 113 (some .int) (some (.int r)) σ' := hX
  have hX := hR.1
  show Z X σ 0 [(0, rf X.1 j0), (1, .int a1), (2, .int a2)] []
  unfold F_X8_ifTraded at h
  refine z_iload_n hX dX8_ifTraded_0 1 rfl ?_
  refine z_iconst (x := 0) hX dX8_ifTraded_1 (by decide) ?_
  refine z_aload_n hX dX8_ifTraded_2 0 rfl ?_
  refine g_X8_7 hX hk_j0 dX8_ifTraded_3 ?_
  refine z_iconst (x := 0) hX dX8_ifTraded_6 (by decide) ?_
  refine z_iald hX (kl_8_0 hk_j0).1 (kl_8_0 hk_j0).2 (by unfold vp_in; decide) dX8_ifTraded_7 ?_
  refine z_iconst (x := 2) hX dX8_ifTraded_8 (by decide) ?_
  refine z_isub hX dX8_ifTraded_9 ?_
  obtain ⟨r22, k21, h⟩ := bind_some h
  refine v_X8_47 hX (c_X8_in X.1 k21) (Nat.le_of_ble_eq_true rfl) (Nat.le_of_ble_eq_true rfl) (Nat.le_of_ble_eq_true rfl) dX8_ifTraded_10 ?_
  rcases ite_or h with ⟨c23, h⟩ | ⟨c23, h⟩
  · refine z_if_ne_f hX 19 (by decide) dX8_ifTraded_13 c23 ?_
    refine z_ldc (x := (-1000001)) hX mc_X8_147 dX8_ifTraded_16 ?_
    obtain ⟨rfl, rfl⟩ := ret2 h
    exact z_iret hR dX8_ifTraded_18
  · refine z_if_ne_t hX 19 (by decide) dX8_ifTraded_13 c23 ?_
    refine z_iload_n hX dX8_ifTraded_19 2 rfl ?_
    refine z_iconst (x := 0) hX dX8_ifTraded_20 (by decide) ?_
    refine z_iconst (x := 2) hX dX8_ifTraded_21 (by decide) ?_
    obtain ⟨r25, k24, h⟩ := bind_some h
    refine v_X8_47 hX (c_X8_in X.1 k24) (Nat.le_of_ble_eq_true rfl) (Nat.le_of_ble_eq_true rfl) (Nat.le_of_ble_eq_true rfl) dX8_ifTraded_22 ?_
    rcases ite_or h with ⟨c26, h⟩ | ⟨c26, h⟩
    · refine z_if_ne_f hX 31 (by decide) dX8_ifTraded_25 c26 ?_
      refine z_ldc (x := (-1000002)) hX mc_X8_123 dX8_ifTraded_28 ?_
      obtain ⟨rfl, rfl⟩ := ret2 h
      exact z_iret hR dX8_ifTraded_30
    · refine z_if_ne_t hX 31 (by decide) dX8_ifTraded_25 c26 ?_
      refine z_iload_n hX dX8_ifTraded_31 2 rfl ?_
      refine z_iconst (x := 1) hX dX8_ifTraded_32 (by decide) ?_
      rcases ite_or h with ⟨c27, h⟩ | ⟨c27, h⟩
      · refine z_icmp_ne_f hX 53 (by decide) dX8_ifTraded_33 c27 ?_
        refine z_aload_n hX dX8_ifTraded_36 0 rfl ?_
        refine g_X8_7 hX hk_j0 dX8_ifTraded_37 ?_
        refine z_iload_n hX dX8_ifTraded_40 1 rfl ?_
        obtain ⟨r38, k37, h⟩ := bind_some h
        refine v_X8_117 hX (c_X8_isSafe X.1 (kl_8_0 hk_j0).1 (kl_8_0 hk_j0).2 k37) (Nat.le_of_ble_eq_true rfl) (Nat.le_of_ble_eq_true rfl) (Nat.le_of_ble_eq_true rfl) dX8_ifTraded_41 ?_
        rcases ite_or h with ⟨c39, h⟩ | ⟨c39, h⟩
        · refine z_if_eq_t hX 51 (by decide) dX8_ifTraded_44 c39 ?_
          refine z_iconst (x := 0) hX dX8_ifTraded_51 (by decide) ?_
          obtain ⟨rfl, rfl⟩ := ret2 h
          exact z_iret hR dX8_ifTraded_52
        · refine z_if_eq_f hX 51 (by decide) dX8_ifTraded_44 c39 ?_
          refine z_iconst (x := 1) hX dX8_ifTraded_47 (by decide) ?_
          refine z_goto hX 52 (by decide) dX8_ifTraded_48 ?_
          obtain ⟨rfl, rfl⟩ := ret2 h
          exact z_iret hR dX8_ifTraded_52
      · refine z_icmp_ne_t hX 53 (by decide) dX8_ifTraded_33 c27 ?_
        refine z_aload_n hX dX8_ifTraded_53 0 rfl ?_
        refine z_aload_n hX dX8_ifTraded_54 0 rfl ?_
        refine g_X8_7 hX hk_j0 dX8_ifTraded_55 ?_
        obtain ⟨r29, σ30, k28, h⟩ := bind2_some h
        refine v_X8_114 hX hk_j0 (c_X8_fewest X.1 hk_j0 (kl_8_0 hk_j0).1 (kl_8_0 hk_j0).2 k28) (Nat.le_of_ble_eq_true rfl) (Nat.le_of_ble_eq_true rfl) (Nat.le_of_ble_eq_true rfl) dX8_ifTraded_58 ?_
        refine z_istore_n (lv' := [(3, .int r29), (0, rf X.1 j0), (1, .int a1), (2, .int a2)]) hX dX8_ifTraded_61 (by decide) rfl ?_
        refine z_iload_n hX dX8_ifTraded_62 0 rfl ?_
        refine z_ldc (x := (-1000005)) hX mc_X8_69 dX8_ifTraded_63 ?_
        rcases ite_or h with ⟨c31, h⟩ | ⟨c31, h⟩
        · refine z_icmp_ne_f hX 71 (by decide) dX8_ifTraded_65 c31 ?_
          refine z_ldc (x := (-1000005)) hX mc_X8_69 dX8_ifTraded_68 ?_
          obtain ⟨rfl, rfl⟩ := ret2 h
          exact z_iret hR dX8_ifTraded_70
        · refine z_icmp_ne_t hX 71 (by decide) dX8_ifTraded_65 c31 ?_
          refine z_aload_n hX dX8_ifTraded_71 1 rfl ?_
          refine z_aload_n hX dX8_ifTraded_72 1 rfl ?_
          refine g_X8_7 hX hk_j0 dX8_ifTraded_73 ?_
          refine z_iload_n hX dX8_ifTraded_76 2 rfl ?_
          obtain ⟨r33, σ34, k32, h⟩ := bind2_some h
          refine v_X8_120 hX hk_j0 (c_X8_behind X.1 hk_j0 (kl_8_0 hk_j0).1 (kl_8_0 hk_j0).2 k32) (Nat.le_of_ble_eq_true rfl) (Nat.le_of_ble_eq_true rfl) (Nat.le_of_ble_eq_true rfl) dX8_ifTraded_77 ?_
          refine z_istore (lv' := [(4, .int r33), (3, .int r29), (0, rf X.1 j0), (1, .int a1), (2, .int a2)]) hX dX8_ifTraded_80 (by decide) rfl ?_
          refine z_iload_n hX dX8_ifTraded_82 4 rfl ?_
          refine z_iconst (x := 2) hX dX8_ifTraded_83 (by decide) ?_
          rcases ite_or h with ⟨c35, h⟩ | ⟨c35, h⟩
          · refine z_icmp_ne_f hX 92 (by decide) dX8_ifTraded_84 c35 ?_
            refine z_iload hX dX8_ifTraded_87 0 rfl ?_
            refine z_goto hX 103 (by decide) dX8_ifTraded_89 ?_
            obtain ⟨rfl, rfl⟩ := ret2 h
            exact z_iret hR dX8_ifTraded_103
          · refine z_icmp_ne_t hX 92 (by decide) dX8_ifTraded_84 c35 ?_
            refine z_iload hX dX8_ifTraded_92 0 rfl ?_
            refine z_iload_n hX dX8_ifTraded_94 1 rfl ?_
            rcases ite_or h with ⟨c36, h⟩ | ⟨c36, h⟩
            · refine z_icmp_ge_t hX 102 (by decide) dX8_ifTraded_95 c36 ?_
              refine z_iconst (x := 0) hX dX8_ifTraded_102 (by decide) ?_
              obtain ⟨rfl, rfl⟩ := ret2 h
              exact z_iret hR dX8_ifTraded_103
            · refine z_icmp_ge_f hX 102 (by decide) dX8_ifTraded_95 c36 ?_
              refine z_iconst (x := 1) hX dX8_ifTraded_98 (by decide) ?_
              refine z_goto hX 103 (by decide) dX8_ifTraded_99 ?_
              obtain ⟨rfl, rfl⟩ := ret2 h
              exact z_iret hR dX8_ifTraded_103
set_option maxRecDepth 20000 in
set_option maxHeartbeats 4000000 in
theorem c_X8_nextTrade (w : WP) {N : Nat} {j0 : Nat} {r : Int32} {σ σ' : HP} (hk_j0 : kd j0 = 8) (h : F_X8_nextTrade N j0 σ = some (r, σ')) : Ct w yX8_nextTrade cX8_nextTrade 1 (some .int) 6 136 [rf w j0] σ (some (.int r)) σ' := by
  refine z_met w (by decide +kernel) (Nat.le_of_ble_eq_true rfl) (fun X hw hX => ?_)
  subst hw
  have hR : OkX X RX8 cX8_nextTrade 1 6 136 (some .int) (some (.int r)) σ' := hX
  have hX := hR.1
  show Z X σ 0 [(0, rf X.1 j0)] []
  unfold F_X8_nextTrade at h
  refine z_aload_n hX dX8_nextTrade_0 0 rfl ?_
  refine z_aload_n hX dX8_nextTrade_1 0 rfl ?_
  refine g_X8_7 hX hk_j0 dX8_nextTrade_2 ?_
  obtain ⟨r22, σ23, k21, h⟩ := bind2_some h
  refine v_X8_174 hX hk_j0 (c_X8_next X.1 hk_j0 (kl_8_0 hk_j0).1 (kl_8_0 hk_j0).2 k21) (Nat.le_of_ble_eq_true rfl) (Nat.le_of_ble_eq_true rfl) (Nat.le_of_ble_eq_true rfl) dX8_nextTrade_5 ?_
  obtain ⟨rfl, rfl⟩ := ret2 h
  exact z_iret hR dX8_nextTrade_8
set_option maxRecDepth 20000 in
set_option maxHeartbeats 4000000 in
theorem t_X8_spelledIn_66 {X : CX} {N : Nat} {k15 : (Nat → Int32 → HP → Option (Int32 × HP))} {j0 : Nat} {a1 : Int32} {a2 : Int32} {s0 : Int32} {r : Int32} {σ σ' : HP} (hR : OkX X RX8 cX8_spelledIn 5 7 159 (some .int) (some (.int r)) σ') (hk15 : ∀ (j0 : Nat) (a1 : Int32) (σ9 : HP), kd j0 = 8 → k15 j0 a1 σ9 = some (r, σ') → Z X σ9 15 [(0, rf X.1 j0), (1, .int a1)] []) (hk_j0 : kd j0 = 8) (h : J_X8_spelledIn_66 k15 N j0 a1 a2 s0 σ = some (r, σ')) : Z X σ 66 [(0, rf X.1 j0), (1, .int a1), (2, .int a2)] [.int s0] := by
  have hX := hR.1
  unfold J_X8_spelledIn_66 at h
  refine z_istore_n (lv' := [(3, .int s0), (0, rf X.1 j0), (1, .int a1), (2, .int a2)]) hX dX8_spelledIn_66 (by decide) rfl ?_
  refine z_iload_n hX dX8_spelledIn_67 3 rfl ?_
  refine z_ldc (x := (-1000005)) hX mc_X8_69 dX8_spelledIn_68 ?_
  rcases ite_or h with ⟨c21, h⟩ | ⟨c21, h⟩
  · refine z_icmp_ne_f hX 84 (by decide) dX8_spelledIn_70 c21 ?_
    refine z_aload_n hX dX8_spelledIn_73 1 rfl ?_
    refine z_aload_n hX dX8_spelledIn_74 1 rfl ?_
    refine g_X8_13 hX hk_j0 dX8_spelledIn_75 ?_
    obtain ⟨r23, σ24, k22, h⟩ := bind2_some h
    refine v_X8_111 hX hk_j0 (c_X8_minute X.1 hk_j0 (kl_8_1 hk_j0).1 (kl_8_1 hk_j0).2 k22) (Nat.le_of_ble_eq_true rfl) (Nat.le_of_ble_eq_true rfl) (Nat.le_of_ble_eq_true rfl) dX8_spelledIn_78 ?_
    refine z_goto hX 85 (by decide) dX8_spelledIn_81 ?_
    refine z_istore (lv' := [(4, .int r23), (3, .int s0), (0, rf X.1 j0), (1, .int a1), (2, .int a2)]) hX dX8_spelledIn_85 (by decide) rfl ?_
    refine z_iinc (y := (a1 + 1)) (lv' := [(1, .int (a1 + 1)), (4, .int r23), (3, .int s0), (0, rf X.1 j0), (2, .int a2)]) hX dX8_spelledIn_87 3 rfl rfl (by decide) rfl ?_
    refine z_goto hX 15 (by decide) dX8_spelledIn_90 ?_
    refine z_sub (lv' := [(0, rf X.1 j0), (1, .int (a1 + 1))]) [3, 0] rfl ?_
    exact hk15 j0 (a1 + 1) σ24 hk_j0 h
  · refine z_icmp_ne_t hX 84 (by decide) dX8_spelledIn_70 c21 ?_
    refine z_iconst (x := 0) hX dX8_spelledIn_84 (by decide) ?_
    refine z_istore (lv' := [(4, .int 0), (3, .int s0), (0, rf X.1 j0), (1, .int a1), (2, .int a2)]) hX dX8_spelledIn_85 (by decide) rfl ?_
    refine z_iinc (y := (a1 + 1)) (lv' := [(1, .int (a1 + 1)), (4, .int 0), (3, .int s0), (0, rf X.1 j0), (2, .int a2)]) hX dX8_spelledIn_87 3 rfl rfl (by decide) rfl ?_
    refine z_goto hX 15 (by decide) dX8_spelledIn_90 ?_
    refine z_sub (lv' := [(0, rf X.1 j0), (1, .int (a1 + 1))]) [3, 0] rfl ?_
    exact hk15 j0 (a1 + 1) σ hk_j0 h
set_option maxRecDepth 20000 in
set_option maxHeartbeats 4000000 in
theorem t_X8_spelledIn_65 {X : CX} {N : Nat} {k15 : (Nat → Int32 → HP → Option (Int32 × HP))} {j0 : Nat} {a1 : Int32} {a2 : Int32} {r : Int32} {σ σ' : HP} (hR : OkX X RX8 cX8_spelledIn 5 7 159 (some .int) (some (.int r)) σ') (hk15 : ∀ (j0 : Nat) (a1 : Int32) (σ9 : HP), kd j0 = 8 → k15 j0 a1 σ9 = some (r, σ') → Z X σ9 15 [(0, rf X.1 j0), (1, .int a1)] []) (hk_j0 : kd j0 = 8) (h : J_X8_spelledIn_65 k15 N j0 a1 a2 σ = some (r, σ')) : Z X σ 65 [(0, rf X.1 j0), (1, .int a1), (2, .int a2)] [] := by
  have hX := hR.1
  unfold J_X8_spelledIn_65 at h
  refine z_iconst (x := 0) hX dX8_spelledIn_65 (by decide) ?_
  exact t_X8_spelledIn_66 hR hk15 hk_j0 h
set_option maxRecDepth 20000 in
set_option maxHeartbeats 4000000 in
theorem t_X8_spelledIn_15 {X : CX} {N : Nat} {r : Int32} {σ' : HP} (hR : OkX X RX8 cX8_spelledIn 5 7 159 (some .int) (some (.int r)) σ')  : ∀ (n : Nat) (j0 : Nat) (a1 : Int32) (σ : HP), kd j0 = 8 → L_X8_spelledIn_15  N n j0 a1 σ = some (r, σ') → Z X σ 15 [(0, rf X.1 j0), (1, .int a1)] [] := by
  have hX := hR.1
  intro n
  induction n with
  | zero =>
    intro j0 a1 σ hk_j0 h
    rw [L_X8_spelledIn_15] at h
    cases h
  | succ n ih =>
    intro j0 a1 σ hk_j0 h
    rw [L_X8_spelledIn_15] at h
    refine z_iload_n hX dX8_spelledIn_15 1 rfl ?_
    refine z_sipush (x := 200) hX dX8_spelledIn_16 (by decide) ?_
    rcases ite_or h with ⟨c21, h⟩ | ⟨c21, h⟩
    · refine z_icmp_gt_t hX 93 (by decide) dX8_spelledIn_19 c21 ?_
      refine z_ldc (x := (-1000005)) hX mc_X8_69 dX8_spelledIn_93 ?_
      obtain ⟨rfl, rfl⟩ := ret2 h
      exact z_iret hR dX8_spelledIn_95
    · refine z_icmp_gt_f hX 93 (by decide) dX8_spelledIn_19 c21 ?_
      refine z_aload_n hX dX8_spelledIn_22 0 rfl ?_
      refine g_X8_13 hX hk_j0 dX8_spelledIn_23 ?_
      obtain ⟨r23, k22, h⟩ := bind_some h
      refine v_X8_177 hX (c_X8_isSpelled X.1 (kl_8_1 hk_j0).1 (kl_8_1 hk_j0).2 k22) (Nat.le_of_ble_eq_true rfl) (Nat.le_of_ble_eq_true rfl) (Nat.le_of_ble_eq_true rfl) dX8_spelledIn_26 ?_
      rcases ite_or h with ⟨c24, h⟩ | ⟨c24, h⟩
      · refine z_if_eq_t hX 34 (by decide) dX8_spelledIn_29 c24 ?_
        refine z_aload_n hX dX8_spelledIn_34 0 rfl ?_
        refine z_aload_n hX dX8_spelledIn_35 0 rfl ?_
        refine g_X8_13 hX hk_j0 dX8_spelledIn_36 ?_
        obtain ⟨r26, σ27, k25, h⟩ := bind2_some h
        refine v_X8_174 hX hk_j0 (c_X8_next X.1 hk_j0 (kl_8_1 hk_j0).1 (kl_8_1 hk_j0).2 k25) (Nat.le_of_ble_eq_true rfl) (Nat.le_of_ble_eq_true rfl) (Nat.le_of_ble_eq_true rfl) dX8_spelledIn_39 ?_
        refine z_istore_n (lv' := [(2, .int r26), (0, rf X.1 j0), (1, .int a1)]) hX dX8_spelledIn_42 (by decide) rfl ?_
        refine z_iload_n hX dX8_spelledIn_43 0 rfl ?_
        refine z_ldc (x := (-1000005)) hX mc_X8_69 dX8_spelledIn_44 ?_
        rcases ite_or h with ⟨c28, h⟩ | ⟨c28, h⟩
        · refine z_icmp_eq_t hX 65 (by decide) dX8_spelledIn_46 c28 ?_
          refine z_sub (lv' := [(0, rf X.1 j0), (1, .int a1), (2, .int r26)]) [1, 2, 0] rfl ?_
          exact t_X8_spelledIn_65 hR (fun j0 a1 σ9 hk_j0 h9 => ih j0 a1 σ9 hk_j0 h9) hk_j0 h
        · refine z_icmp_eq_f hX 65 (by decide) dX8_spelledIn_46 c28 ?_
          refine z_aload_n hX dX8_spelledIn_49 1 rfl ?_
          refine z_aload_n hX dX8_spelledIn_50 1 rfl ?_
          refine g_X8_13 hX hk_j0 dX8_spelledIn_51 ?_
          refine z_iload_n hX dX8_spelledIn_54 0 rfl ?_
          obtain ⟨r30, σ31, k29, h⟩ := bind2_some h
          refine v_X8_149 hX hk_j0 (c_X8_trades X.1 hk_j0 (kl_8_1 hk_j0).1 (kl_8_1 hk_j0).2 k29) (Nat.le_of_ble_eq_true rfl) (Nat.le_of_ble_eq_true rfl) (Nat.le_of_ble_eq_true rfl) dX8_spelledIn_55 ?_
          rcases ite_or h with ⟨c32, h⟩ | ⟨c32, h⟩
          · refine z_if_eq_t hX 65 (by decide) dX8_spelledIn_58 c32 ?_
            refine z_sub (lv' := [(0, rf X.1 j0), (1, .int a1), (2, .int r26)]) [1, 2, 0] rfl ?_
            exact t_X8_spelledIn_65 hR (fun j0 a1 σ9 hk_j0 h9 => ih j0 a1 σ9 hk_j0 h9) hk_j0 h
          · refine z_if_eq_f hX 65 (by decide) dX8_spelledIn_58 c32 ?_
            refine z_iconst (x := 1) hX dX8_spelledIn_61 (by decide) ?_
            refine z_goto hX 66 (by decide) dX8_spelledIn_62 ?_
            refine z_sub (lv' := [(0, rf X.1 j0), (1, .int a1), (2, .int r26)]) [1, 2, 0] rfl ?_
            exact t_X8_spelledIn_66 hR (fun j0 a1 σ9 hk_j0 h9 => ih j0 a1 σ9 hk_j0 h9) hk_j0 h
      · refine z_if_eq_f hX 34 (by decide) dX8_spelledIn_29 c24 ?_
        refine z_iload_n hX dX8_spelledIn_32 1 rfl ?_
        obtain ⟨rfl, rfl⟩ := ret2 h
        exact z_iret hR dX8_spelledIn_33
set_option maxRecDepth 20000 in
set_option maxHeartbeats 4000000 in
theorem c_X8_spelledIn (w : WP) {N : Nat} {j0 : Nat} {r : Int32} {σ σ' : HP} (hk_j0 : kd j0 = 8) (h : F_X8_spelledIn N j0 σ = some (r, σ')) : Ct w yX8_spelledIn cX8_spelledIn 5 (some .int) 7 159 [rf w j0] σ (some (.int r)) σ' := by
  refine z_met w (by decide +kernel) (Nat.le_of_ble_eq_true rfl) (fun X hw hX => ?_)
  subst hw
  have hR : OkX X RX8 cX8_spelledIn 5 7 159 (some .int) (some (.int r)) σ' := hX
  have hX := hR.1
  show Z X σ 0 [(0, rf X.1 j0)] []
  unfold F_X8_spelledIn at h
  refine z_aload_n hX dX8_spelledIn_0 0 rfl ?_
  refine g_X8_7 hX hk_j0 dX8_spelledIn_1 ?_
  refine z_iconst (x := 0) hX dX8_spelledIn_4 (by decide) ?_
  refine z_aload_n hX dX8_spelledIn_5 0 rfl ?_
  refine g_X8_13 hX hk_j0 dX8_spelledIn_6 ?_
  refine z_iconst (x := 0) hX dX8_spelledIn_9 (by decide) ?_
  obtain ⟨σ22, k21, h⟩ := bind_some h
  refine v_X8_43 hX (c_X8_lays X.1 (kl_8_0 hk_j0).1 (kl_8_1 hk_j0).1 k21) (Nat.le_of_ble_eq_true rfl) (Nat.le_of_ble_eq_true rfl) (Nat.le_of_ble_eq_true rfl) dX8_spelledIn_10 ?_
  refine z_iconst (x := 0) hX dX8_spelledIn_13 (by decide) ?_
  refine z_istore_n (lv' := [(1, .int 0), (0, rf X.1 j0)]) hX dX8_spelledIn_14 (by decide) rfl ?_
  refine z_sub (lv' := [(0, rf X.1 j0), (1, .int 0)]) [1, 0] rfl ?_
  exact t_X8_spelledIn_15 hR  N j0 0 σ22 hk_j0 h
set_option maxRecDepth 20000 in
set_option maxHeartbeats 4000000 in
theorem c_X8_turnOf (w : WP) {N : Nat} {j0 : Nat} {a1 : Int32} {a2 : Int32} {r : Int32} {σ : HP} (hk_j0 : kd j0 = 8) (h : F_X8_turnOf N j0 a1 a2 σ = some r) : Ct w yX8_turnOf cX8_turnOf 3 (some .int) 1 22 [rf w j0, .int a1, .int a2] σ (some (.int r)) σ := by
  refine z_met w (by decide +kernel) (Nat.le_of_ble_eq_true rfl) (fun X hw hX => ?_)
  subst hw
  have hR : OkX X RX8 cX8_turnOf 3 1 22 (some .int) (some (.int r)) σ := hX
  have hX := hR.1
  show Z X σ 0 [(0, rf X.1 j0), (1, .int a1), (2, .int a2)] []
  unfold F_X8_turnOf at h
  refine z_iload_n hX dX8_turnOf_0 1 rfl ?_
  rcases ite_or h with ⟨c21, h⟩ | ⟨c21, h⟩
  · refine z_if_lt_t hX 13 (by decide) dX8_turnOf_1 c21 ?_
    refine z_ldc (x := (-1000002)) hX mc_X8_123 dX8_turnOf_13 ?_
    obtain rfl := ret1 h
    exact z_iret hR dX8_turnOf_15
  · refine z_if_lt_f hX 13 (by decide) dX8_turnOf_1 c21 ?_
    refine z_iload_n hX dX8_turnOf_4 2 rfl ?_
    refine z_iconst (x := 0) hX dX8_turnOf_5 (by decide) ?_
    refine z_iconst (x := 2) hX dX8_turnOf_6 (by decide) ?_
    obtain ⟨r23, k22, h⟩ := bind_some h
    refine v_X8_47 hX (c_X8_in X.1 k22) (Nat.le_of_ble_eq_true rfl) (Nat.le_of_ble_eq_true rfl) (Nat.le_of_ble_eq_true rfl) dX8_turnOf_7 ?_
    rcases ite_or h with ⟨c24, h⟩ | ⟨c24, h⟩
    · refine z_if_ne_f hX 16 (by decide) dX8_turnOf_10 c24 ?_
      refine z_ldc (x := (-1000002)) hX mc_X8_123 dX8_turnOf_13 ?_
      obtain rfl := ret1 h
      exact z_iret hR dX8_turnOf_15
    · refine z_if_ne_t hX 16 (by decide) dX8_turnOf_10 c24 ?_
      refine z_iload_n hX dX8_turnOf_16 1 rfl ?_
      refine z_aload_n hX dX8_turnOf_17 0 rfl ?_
      refine g_X8_7 hX hk_j0 dX8_turnOf_18 ?_
      refine z_bipush (x := 6) hX dX8_turnOf_21 (by decide) ?_
      refine z_iald hX (kl_8_0 hk_j0).1 (kl_8_0 hk_j0).2 (by unfold vp_in; decide) dX8_turnOf_23 ?_
      rcases ite_or h with ⟨c25, h⟩ | ⟨c25, h⟩
      · refine z_icmp_ge_t hX 43 (by decide) dX8_turnOf_24 c25 ?_
        refine z_ldc (x := (-1000005)) hX mc_X8_69 dX8_turnOf_43 ?_
        obtain rfl := ret1 h
        exact z_iret hR dX8_turnOf_45
      · refine z_icmp_ge_f hX 43 (by decide) dX8_turnOf_24 c25 ?_
        refine z_aload_n hX dX8_turnOf_27 0 rfl ?_
        refine g_X8_7 hX hk_j0 dX8_turnOf_28 ?_
        refine z_bipush (x := 84) hX dX8_turnOf_31 (by decide) ?_
        refine z_iconst (x := 3) hX dX8_turnOf_33 (by decide) ?_
        refine z_iload_n hX dX8_turnOf_34 1 rfl ?_
        refine z_imul hX dX8_turnOf_35 ?_
        refine z_iadd hX dX8_turnOf_36 ?_
        refine z_iload_n hX dX8_turnOf_37 2 rfl ?_
        refine z_iadd hX dX8_turnOf_38 ?_
        obtain ⟨g26, h⟩ := gd_some h
        refine z_iald hX (kl_8_0 hk_j0).1 (kl_8_0 hk_j0).2 g26 dX8_turnOf_39 ?_
        refine z_goto hX 45 (by decide) dX8_turnOf_40 ?_
        obtain rfl := ret1 h
        exact z_iret hR dX8_turnOf_45
set_option maxRecDepth 20000 in
set_option maxHeartbeats 4000000 in
theorem c_X8_tangle (w : WP) {N : Nat} {j0 : Nat} {a1 : Int32} {a2 : Int32} {r : Int32} {σ : HP} (hk_j0 : kd j0 = 8) (h : F_X8_tangle N j0 a1 a2 σ = some r) : Ct w yX8_tangle cX8_tangle 3 (some .int) 1 22 [rf w j0, .int a1, .int a2] σ (some (.int r)) σ := by
  refine z_met w (by decide +kernel) (Nat.le_of_ble_eq_true rfl) (fun X hw hX => ?_)
  subst hw
  have hR : OkX X RX8 cX8_tangle 3 1 22 (some .int) (some (.int r)) σ := hX
  have hX := hR.1
  show Z X σ 0 [(0, rf X.1 j0), (1, .int a1), (2, .int a2)] []
  unfold F_X8_tangle at h
  refine z_iload_n hX dX8_tangle_0 1 rfl ?_
  rcases ite_or h with ⟨c21, h⟩ | ⟨c21, h⟩
  · refine z_if_lt_t hX 13 (by decide) dX8_tangle_1 c21 ?_
    refine z_ldc (x := (-1000002)) hX mc_X8_123 dX8_tangle_13 ?_
    obtain rfl := ret1 h
    exact z_iret hR dX8_tangle_15
  · refine z_if_lt_f hX 13 (by decide) dX8_tangle_1 c21 ?_
    refine z_iload_n hX dX8_tangle_4 2 rfl ?_
    refine z_iconst (x := 0) hX dX8_tangle_5 (by decide) ?_
    refine z_iconst (x := 3) hX dX8_tangle_6 (by decide) ?_
    obtain ⟨r23, k22, h⟩ := bind_some h
    refine v_X8_47 hX (c_X8_in X.1 k22) (Nat.le_of_ble_eq_true rfl) (Nat.le_of_ble_eq_true rfl) (Nat.le_of_ble_eq_true rfl) dX8_tangle_7 ?_
    rcases ite_or h with ⟨c24, h⟩ | ⟨c24, h⟩
    · refine z_if_ne_f hX 16 (by decide) dX8_tangle_10 c24 ?_
      refine z_ldc (x := (-1000002)) hX mc_X8_123 dX8_tangle_13 ?_
      obtain rfl := ret1 h
      exact z_iret hR dX8_tangle_15
    · refine z_if_ne_t hX 16 (by decide) dX8_tangle_10 c24 ?_
      refine z_iload_n hX dX8_tangle_16 1 rfl ?_
      refine z_aload_n hX dX8_tangle_17 0 rfl ?_
      refine g_X8_7 hX hk_j0 dX8_tangle_18 ?_
      refine z_bipush (x := 11) hX dX8_tangle_21 (by decide) ?_
      refine z_iald hX (kl_8_0 hk_j0).1 (kl_8_0 hk_j0).2 (by unfold vp_in; decide) dX8_tangle_23 ?_
      rcases ite_or h with ⟨c25, h⟩ | ⟨c25, h⟩
      · refine z_icmp_ge_t hX 43 (by decide) dX8_tangle_24 c25 ?_
        refine z_ldc (x := (-1000005)) hX mc_X8_69 dX8_tangle_43 ?_
        obtain rfl := ret1 h
        exact z_iret hR dX8_tangle_45
      · refine z_icmp_ge_f hX 43 (by decide) dX8_tangle_24 c25 ?_
        refine z_aload_n hX dX8_tangle_27 0 rfl ?_
        refine g_X8_7 hX hk_j0 dX8_tangle_28 ?_
        refine z_bipush (x := 120) hX dX8_tangle_31 (by decide) ?_
        refine z_iconst (x := 4) hX dX8_tangle_33 (by decide) ?_
        refine z_iload_n hX dX8_tangle_34 1 rfl ?_
        refine z_imul hX dX8_tangle_35 ?_
        refine z_iadd hX dX8_tangle_36 ?_
        refine z_iload_n hX dX8_tangle_37 2 rfl ?_
        refine z_iadd hX dX8_tangle_38 ?_
        obtain ⟨g26, h⟩ := gd_some h
        refine z_iald hX (kl_8_0 hk_j0).1 (kl_8_0 hk_j0).2 g26 dX8_tangle_39 ?_
        refine z_goto hX 45 (by decide) dX8_tangle_40 ?_
        obtain rfl := ret1 h
        exact z_iret hR dX8_tangle_45
set_option maxRecDepth 20000 in
set_option maxHeartbeats 4000000 in
theorem c_X8_count (w : WP) {N : Nat} {j0 : Nat} {a1 : Int32} {r : Int32} {σ σ' : HP} (hk_j0 : kd j0 = 8) (h : F_X8_count N j0 a1 σ = some (r, σ')) : Ct w yX8_count cX8_count 2 (some .int) 6 135 [rf w j0, .int a1] σ (some (.int r)) σ' := by
  refine z_met w (by decide +kernel) (Nat.le_of_ble_eq_true rfl) (fun X hw hX => ?_)
  subst hw
  have hR : OkX X RX8 cX8_count 2 6 135 (some .int) (some (.int r)) σ' := hX
  have hX := hR.1
  show Z X σ 0 [(0, rf X.1 j0), (1, .int a1)] []
  unfold F_X8_count at h
  refine z_iload_n hX dX8_count_0 1 rfl ?_
  rcases ite_or h with ⟨c21, h⟩ | ⟨c21, h⟩
  · refine z_tabIn hX 72 (by rw [c21]; decide) (by rw [c21]; decide) (by rw [c21]; rfl) (by decide) dX8_count_1 ?_
    refine z_aload_n hX dX8_count_72 0 rfl ?_
    refine g_X8_7 hX hk_j0 dX8_count_73 ?_
    refine z_iload_n hX dX8_count_76 1 rfl ?_
    obtain ⟨g22, h⟩ := gd_some h
    refine z_iald hX (kl_8_0 hk_j0).1 (kl_8_0 hk_j0).2 g22 dX8_count_77 ?_
    obtain ⟨rfl, rfl⟩ := ret2 h
    exact z_iret hR dX8_count_78
  rcases ite_or h with ⟨c23, h⟩ | ⟨c23, h⟩
  · refine z_tabIn hX 72 (by rw [c23]; decide) (by rw [c23]; decide) (by rw [c23]; rfl) (by decide) dX8_count_1 ?_
    refine z_aload_n hX dX8_count_72 0 rfl ?_
    refine g_X8_7 hX hk_j0 dX8_count_73 ?_
    refine z_iload_n hX dX8_count_76 1 rfl ?_
    obtain ⟨g24, h⟩ := gd_some h
    refine z_iald hX (kl_8_0 hk_j0).1 (kl_8_0 hk_j0).2 g24 dX8_count_77 ?_
    obtain ⟨rfl, rfl⟩ := ret2 h
    exact z_iret hR dX8_count_78
  rcases ite_or h with ⟨c25, h⟩ | ⟨c25, h⟩
  · refine z_tabIn hX 72 (by rw [c25]; decide) (by rw [c25]; decide) (by rw [c25]; rfl) (by decide) dX8_count_1 ?_
    refine z_aload_n hX dX8_count_72 0 rfl ?_
    refine g_X8_7 hX hk_j0 dX8_count_73 ?_
    refine z_iload_n hX dX8_count_76 1 rfl ?_
    obtain ⟨g26, h⟩ := gd_some h
    refine z_iald hX (kl_8_0 hk_j0).1 (kl_8_0 hk_j0).2 g26 dX8_count_77 ?_
    obtain ⟨rfl, rfl⟩ := ret2 h
    exact z_iret hR dX8_count_78
  rcases ite_or h with ⟨c27, h⟩ | ⟨c27, h⟩
  · refine z_tabIn hX 72 (by rw [c27]; decide) (by rw [c27]; decide) (by rw [c27]; rfl) (by decide) dX8_count_1 ?_
    refine z_aload_n hX dX8_count_72 0 rfl ?_
    refine g_X8_7 hX hk_j0 dX8_count_73 ?_
    refine z_iload_n hX dX8_count_76 1 rfl ?_
    obtain ⟨g28, h⟩ := gd_some h
    refine z_iald hX (kl_8_0 hk_j0).1 (kl_8_0 hk_j0).2 g28 dX8_count_77 ?_
    obtain ⟨rfl, rfl⟩ := ret2 h
    exact z_iret hR dX8_count_78
  rcases ite_or h with ⟨c29, h⟩ | ⟨c29, h⟩
  · refine z_tabIn hX 72 (by rw [c29]; decide) (by rw [c29]; decide) (by rw [c29]; rfl) (by decide) dX8_count_1 ?_
    refine z_aload_n hX dX8_count_72 0 rfl ?_
    refine g_X8_7 hX hk_j0 dX8_count_73 ?_
    refine z_iload_n hX dX8_count_76 1 rfl ?_
    obtain ⟨g30, h⟩ := gd_some h
    refine z_iald hX (kl_8_0 hk_j0).1 (kl_8_0 hk_j0).2 g30 dX8_count_77 ?_
    obtain ⟨rfl, rfl⟩ := ret2 h
    exact z_iret hR dX8_count_78
  rcases ite_or h with ⟨c31, h⟩ | ⟨c31, h⟩
  · refine z_tabIn hX 79 (by rw [c31]; decide) (by rw [c31]; decide) (by rw [c31]; rfl) (by decide) dX8_count_1 ?_
    refine z_aload_n hX dX8_count_79 0 rfl ?_
    refine g_X8_7 hX hk_j0 dX8_count_80 ?_
    obtain ⟨r33, k32, h⟩ := bind_some h
    refine v_X8_70 hX (c_X8_readable X.1 (kl_8_0 hk_j0).1 (kl_8_0 hk_j0).2 k32) (Nat.le_of_ble_eq_true rfl) (Nat.le_of_ble_eq_true rfl) (Nat.le_of_ble_eq_true rfl) dX8_count_83 ?_
    obtain ⟨rfl, rfl⟩ := ret2 h
    exact z_iret hR dX8_count_86
  rcases ite_or h with ⟨c34, h⟩ | ⟨c34, h⟩
  · refine z_tabIn hX 87 (by rw [c34]; decide) (by rw [c34]; decide) (by rw [c34]; rfl) (by decide) dX8_count_1 ?_
    refine z_aload_n hX dX8_count_87 0 rfl ?_
    refine g_X8_7 hX hk_j0 dX8_count_88 ?_
    refine z_bipush (x := 7) hX dX8_count_91 (by decide) ?_
    refine z_iald hX (kl_8_0 hk_j0).1 (kl_8_0 hk_j0).2 (by unfold vp_in; decide) dX8_count_93 ?_
    obtain ⟨rfl, rfl⟩ := ret2 h
    exact z_iret hR dX8_count_94
  rcases ite_or h with ⟨c35, h⟩ | ⟨c35, h⟩
  · refine z_tabIn hX 95 (by rw [c35]; decide) (by rw [c35]; decide) (by rw [c35]; rfl) (by decide) dX8_count_1 ?_
    refine z_aload_n hX dX8_count_95 0 rfl ?_
    refine z_aload_n hX dX8_count_96 0 rfl ?_
    refine g_X8_7 hX hk_j0 dX8_count_97 ?_
    obtain ⟨r37, σ38, k36, h⟩ := bind2_some h
    refine v_X8_114 hX hk_j0 (c_X8_fewest X.1 hk_j0 (kl_8_0 hk_j0).1 (kl_8_0 hk_j0).2 k36) (Nat.le_of_ble_eq_true rfl) (Nat.le_of_ble_eq_true rfl) (Nat.le_of_ble_eq_true rfl) dX8_count_100 ?_
    obtain ⟨rfl, rfl⟩ := ret2 h
    exact z_iret hR dX8_count_103
  rcases ite_or h with ⟨c39, h⟩ | ⟨c39, h⟩
  · refine z_tabIn hX 104 (by rw [c39]; decide) (by rw [c39]; decide) (by rw [c39]; rfl) (by decide) dX8_count_1 ?_
    refine z_aload_n hX dX8_count_104 0 rfl ?_
    refine g_X8_7 hX hk_j0 dX8_count_105 ?_
    obtain ⟨r41, k40, h⟩ := bind_some h
    refine v_X8_177 hX (c_X8_isSpelled X.1 (kl_8_0 hk_j0).1 (kl_8_0 hk_j0).2 k40) (Nat.le_of_ble_eq_true rfl) (Nat.le_of_ble_eq_true rfl) (Nat.le_of_ble_eq_true rfl) dX8_count_108 ?_
    rcases ite_or h with ⟨c42, h⟩ | ⟨c42, h⟩
    · refine z_if_eq_t hX 118 (by decide) dX8_count_111 c42 ?_
      refine z_iconst (x := 0) hX dX8_count_118 (by decide) ?_
      obtain ⟨rfl, rfl⟩ := ret2 h
      exact z_iret hR dX8_count_119
    · refine z_if_eq_f hX 118 (by decide) dX8_count_111 c42 ?_
      refine z_iconst (x := 1) hX dX8_count_114 (by decide) ?_
      refine z_goto hX 119 (by decide) dX8_count_115 ?_
      obtain ⟨rfl, rfl⟩ := ret2 h
      exact z_iret hR dX8_count_119
  rcases ite_or h with ⟨c43, h⟩ | ⟨c43, h⟩
  · refine z_tabIn hX 120 (by rw [c43]; decide) (by rw [c43]; decide) (by rw [c43]; rfl) (by decide) dX8_count_1 ?_
    refine z_aload_n hX dX8_count_120 0 rfl ?_
    refine g_X8_7 hX hk_j0 dX8_count_121 ?_
    refine z_bipush (x := 8) hX dX8_count_124 (by decide) ?_
    refine z_iald hX (kl_8_0 hk_j0).1 (kl_8_0 hk_j0).2 (by unfold vp_in; decide) dX8_count_126 ?_
    obtain ⟨rfl, rfl⟩ := ret2 h
    exact z_iret hR dX8_count_127
  rcases ite_or h with ⟨c44, h⟩ | ⟨c44, h⟩
  · refine z_tabIn hX 128 (by rw [c44]; decide) (by rw [c44]; decide) (by rw [c44]; rfl) (by decide) dX8_count_1 ?_
    refine z_aload_n hX dX8_count_128 0 rfl ?_
    refine g_X8_7 hX hk_j0 dX8_count_129 ?_
    refine z_bipush (x := 9) hX dX8_count_132 (by decide) ?_
    refine z_iald hX (kl_8_0 hk_j0).1 (kl_8_0 hk_j0).2 (by unfold vp_in; decide) dX8_count_134 ?_
    obtain ⟨rfl, rfl⟩ := ret2 h
    exact z_iret hR dX8_count_135
  rcases ite_or h with ⟨c45, h⟩ | ⟨c45, h⟩
  · refine z_tabIn hX 136 (by rw [c45]; decide) (by rw [c45]; decide) (by rw [c45]; rfl) (by decide) dX8_count_1 ?_
    refine z_aload_n hX dX8_count_136 0 rfl ?_
    refine g_X8_7 hX hk_j0 dX8_count_137 ?_
    refine z_bipush (x := 6) hX dX8_count_140 (by decide) ?_
    refine z_iald hX (kl_8_0 hk_j0).1 (kl_8_0 hk_j0).2 (by unfold vp_in; decide) dX8_count_142 ?_
    obtain ⟨rfl, rfl⟩ := ret2 h
    exact z_iret hR dX8_count_143
  rcases ite_or h with ⟨c46, h⟩ | ⟨c46, h⟩
  · refine z_tabIn hX 144 (by rw [c46]; decide) (by rw [c46]; decide) (by rw [c46]; rfl) (by decide) dX8_count_1 ?_
    refine z_aload_n hX dX8_count_144 0 rfl ?_
    refine g_X8_39 hX hk_j0 dX8_count_145 ?_
    obtain ⟨rfl, rfl⟩ := ret2 h
    exact z_iret hR dX8_count_148
  rcases ite_or h with ⟨c47, h⟩ | ⟨c47, h⟩
  · refine z_tabIn hX 149 (by rw [c47]; decide) (by rw [c47]; decide) (by rw [c47]; rfl) (by decide) dX8_count_1 ?_
    refine z_aload_n hX dX8_count_149 0 rfl ?_
    refine g_X8_141 hX hk_j0 dX8_count_150 ?_
    obtain ⟨rfl, rfl⟩ := ret2 h
    exact z_iret hR dX8_count_153
  refine z_tabOut hX 154 (by have n0 := lv_neT c21 (a := 0) (by decide); have n1 := lv_neT c23 (a := 1) (by decide); have n2 := lv_neT c25 (a := 2) (by decide); have n3 := lv_neT c27 (a := 3) (by decide); have n4 := lv_neT c29 (a := 4) (by decide); have n5 := lv_neT c31 (a := 5) (by decide); have n6 := lv_neT c34 (a := 6) (by decide); have n7 := lv_neT c35 (a := 7) (by decide); have n8 := lv_neT c39 (a := 8) (by decide); have n9 := lv_neT c43 (a := 9) (by decide); have n10 := lv_neT c44 (a := 10) (by decide); have n11 := lv_neT c45 (a := 11) (by decide); have n12 := lv_neT c46 (a := 12) (by decide); have n13 := lv_neT c47 (a := 13) (by decide); omega) (by decide) dX8_count_1 ?_
  refine z_ldc (x := (-1000002)) hX mc_X8_123 dX8_count_154 ?_
  obtain ⟨rfl, rfl⟩ := ret2 h
  exact z_iret hR dX8_count_156
