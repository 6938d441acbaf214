set_option maxRecDepth 20000 in
set_option maxHeartbeats 4000000 in
theorem t_X7_record_12 {X : CX} {N : Nat} {j0 : Nat} {σ σ' : HP} (hR : OkX X RX7 cX7_record 1 3 60 none none σ')  (hk_j0 : kd j0 = 7) (h : J_X7_record_12  N j0 σ = some σ') : Z X σ 12 [(0, rf X.1 j0)] [] := by
  have hX := hR.1
  unfold J_X7_record_12 at h
  refine z_aload_n hX dX7_record_12 0 rfl ?_
  refine g_X7_22 hX hk_j0 dX7_record_13 ?_
  refine z_aload_n hX dX7_record_16 0 rfl ?_
  refine g_X7_48 hX hk_j0 dX7_record_17 ?_
  obtain ⟨g21, h⟩ := gd_some h
  refine z_aald hX (kl_7_3 hk_j0).1 (kl_7_3 hk_j0).2 g21 dX7_record_20 ?_
  obtain ⟨g22, h⟩ := gd_some h
  obtain ⟨q23, eq23, h⟩ := bd_some h
  refine z_topr eq23 ?_
  have kq23 : kd q23 = 4 := eq23 ▸ g22
  refine z_aload_n hX dX7_record_21 0 rfl ?_
  refine g_X7_10 hX hk_j0 dX7_record_22 ?_
  obtain ⟨σ25, k24, h⟩ := bind_some h
  refine v_X7_183 hX kq23 (c_X4_copyFrom X.1 kq23 (kl_7_0 hk_j0).1 k24) (Nat.le_of_ble_eq_true rfl) (Nat.le_of_ble_eq_true rfl) (Nat.le_of_ble_eq_true rfl) dX7_record_25 ?_
  refine z_aload_n hX dX7_record_28 0 rfl ?_
  refine z_dup hX rfl dX7_record_29 ?_
  refine g_X7_48 hX hk_j0 dX7_record_30 ?_
  refine z_iconst (x := 1) hX dX7_record_33 (by decide) ?_
  refine z_iadd hX dX7_record_34 ?_
  obtain ⟨σ26, eσ26, h⟩ := bd_some h
  refine p_X7_48 hX hk_j0 dX7_record_35 ?_
  refine z_ms eσ26 ?_
  obtain rfl := ret1 h
  exact z_vret hR dX7_record_38
set_option maxRecDepth 20000 in
set_option maxHeartbeats 4000000 in
theorem c_X7_record (w : WP) {N : Nat} {j0 : Nat} {σ σ' : HP} (hk_j0 : kd j0 = 7) (h : F_X7_record N j0 σ = some σ') : Ct w yX7_record cX7_record 1 none 3 60 [rf w j0] σ none σ' := by
  refine z_met w (by decide +kernel) (Nat.le_of_ble_eq_true rfl) (fun X hw hX => ?_)
  subst hw
  have hR : OkX X RX7 cX7_record 1 3 60 none none σ' := hX
  have hX := hR.1
  show Z X σ 0 [(0, rf X.1 j0)] []
  unfold F_X7_record at h
  refine z_aload_n hX dX7_record_0 0 rfl ?_
  refine g_X7_48 hX hk_j0 dX7_record_1 ?_
  refine z_iconst (x := 4) hX dX7_record_4 (by decide) ?_
  rcases ite_or h with ⟨c21, h⟩ | ⟨c21, h⟩
  · refine z_icmp_lt_t hX 12 (by decide) dX7_record_5 c21 ?_
    exact t_X7_record_12 hR  hk_j0 h
  · refine z_icmp_lt_f hX 12 (by decide) dX7_record_5 c21 ?_
    refine z_aload_n hX dX7_record_8 0 rfl ?_
    obtain ⟨σ23, k22, h⟩ := bind_some h
    refine v_X7_285 hX hk_j0 (c_X7_dropOldest X.1 hk_j0 k22) (Nat.le_of_ble_eq_true rfl) (Nat.le_of_ble_eq_true rfl) (Nat.le_of_ble_eq_true rfl) dX7_record_9 ?_
    exact t_X7_record_12 hR  hk_j0 h
set_option maxRecDepth 20000 in
set_option maxHeartbeats 4000000 in
theorem c_X7_come (w : WP) {N : Nat} {j0 : Nat} {a1 : Int32} {a2 : Int32} {r : Int32} {σ σ' : HP} (hk_j0 : kd j0 = 7) (h : F_X7_come N j0 a1 a2 σ = some (r, σ')) : Ct w yX7_come cX7_come 3 (some .int) 4 80 [rf w j0, .int a1, .int a2] σ (some (.int r)) σ' := by
  refine z_met w (by decide +kernel) (Nat.le_of_ble_eq_true rfl) (fun X hw hX => ?_)
  subst hw
  have hR : OkX X RX7 cX7_come 3 4 80 (some .int) (some (.int r)) σ' := hX
  have hX := hR.1
  show Z X σ 0 [(0, rf X.1 j0), (1, .int a1), (2, .int a2)] []
  unfold F_X7_come at h
  refine z_iload_n hX dX7_come_0 1 rfl ?_
  obtain ⟨r22, k21, h⟩ := bind_some h
  refine v_X7_55 hX (c_X7_isLetter X.1 k21) (Nat.le_of_ble_eq_true rfl) (Nat.le_of_ble_eq_true rfl) (Nat.le_of_ble_eq_true rfl) dX7_come_1 ?_
  rcases ite_or h with ⟨c23, h⟩ | ⟨c23, h⟩
  · refine z_if_eq_t hX 17 (by decide) dX7_come_4 c23 ?_
    refine z_ldc (x := (-1000002)) hX mc_X7_63 dX7_come_17 ?_
    obtain ⟨rfl, rfl⟩ := ret2 h
    exact z_iret hR dX7_come_19
  · refine z_if_eq_f hX 17 (by decide) dX7_come_4 c23 ?_
    refine z_iload_n hX dX7_come_7 2 rfl ?_
    refine z_iconst (x := 1) hX dX7_come_8 (by decide) ?_
    refine z_bipush (x := 9) hX dX7_come_9 (by decide) ?_
    obtain ⟨r25, k24, h⟩ := bind_some h
    refine v_X7_59 hX (c_X7_isWithin X.1 k24) (Nat.le_of_ble_eq_true rfl) (Nat.le_of_ble_eq_true rfl) (Nat.le_of_ble_eq_true rfl) dX7_come_11 ?_
    rcases ite_or h with ⟨c26, h⟩ | ⟨c26, h⟩
    · refine z_if_ne_f hX 20 (by decide) dX7_come_14 c26 ?_
      refine z_ldc (x := (-1000002)) hX mc_X7_63 dX7_come_17 ?_
      obtain ⟨rfl, rfl⟩ := ret2 h
      exact z_iret hR dX7_come_19
    · refine z_if_ne_t hX 20 (by decide) dX7_come_14 c26 ?_
      refine z_aload_n hX dX7_come_20 0 rfl ?_
      refine g_X7_10 hX hk_j0 dX7_come_21 ?_
      refine g_X7_64 hX (kl_7_0 hk_j0).1 dX7_come_24 ?_
      refine z_iconst (x := 1) hX dX7_come_27 (by decide) ?_
      obtain ⟨r28, k27, h⟩ := bind_some h
      refine v_X7_68 hX (kl_4_0 (kl_7_0 hk_j0).1).1 (c_X3_hasRoomFor X.1 (kl_4_0 (kl_7_0 hk_j0).1).1 k27) (Nat.le_of_ble_eq_true rfl) (Nat.le_of_ble_eq_true rfl) (Nat.le_of_ble_eq_true rfl) dX7_come_28 ?_
      rcases ite_or h with ⟨c29, h⟩ | ⟨c29, h⟩
      · refine z_if_ne_f hX 37 (by decide) dX7_come_31 c29 ?_
        refine z_ldc (x := (-1000003)) hX mc_X7_74 dX7_come_34 ?_
        obtain ⟨rfl, rfl⟩ := ret2 h
        exact z_iret hR dX7_come_36
      · refine z_if_ne_t hX 37 (by decide) dX7_come_31 c29 ?_
        refine z_aload_n hX dX7_come_37 0 rfl ?_
        obtain ⟨σ31, k30, h⟩ := bind_some h
        refine v_X7_75 hX hk_j0 (c_X7_record X.1 hk_j0 k30) (Nat.le_of_ble_eq_true rfl) (Nat.le_of_ble_eq_true rfl) (Nat.le_of_ble_eq_true rfl) dX7_come_38 ?_
        refine z_aload_n hX dX7_come_41 0 rfl ?_
        refine g_X7_10 hX hk_j0 dX7_come_42 ?_
        refine g_X7_64 hX (kl_7_0 hk_j0).1 dX7_come_45 ?_
        refine z_iload_n hX dX7_come_48 1 rfl ?_
        refine z_iload_n hX dX7_come_49 2 rfl ?_
        obtain ⟨σ33, k32, h⟩ := bind_some h
        refine v_X7_78 hX (kl_4_0 (kl_7_0 hk_j0).1).1 (c_X3_append X.1 (kl_4_0 (kl_7_0 hk_j0).1).1 k32) (Nat.le_of_ble_eq_true rfl) (Nat.le_of_ble_eq_true rfl) (Nat.le_of_ble_eq_true rfl) dX7_come_50 ?_
        refine z_aload_n hX dX7_come_53 0 rfl ?_
        refine g_X7_10 hX hk_j0 dX7_come_54 ?_
        refine g_X7_64 hX (kl_7_0 hk_j0).1 dX7_come_57 ?_
        refine g_X7_82 hX (kl_4_0 (kl_7_0 hk_j0).1).1 dX7_come_60 ?_
        refine z_iconst (x := 1) hX dX7_come_63 (by decide) ?_
        refine z_isub hX dX7_come_64 ?_
        obtain ⟨rfl, rfl⟩ := ret2 h
        exact z_iret hR dX7_come_65
set_option maxRecDepth 20000 in
set_option maxHeartbeats 4000000 in
theorem c_X7_isAllowedInRow (w : WP) {N : Nat} {a0 : Int32} {a1 : Int32} {r : Int32} {σ : HP} (h : F_X7_isAllowedInRow N a0 a1 σ = some r) : Ct w yX7_isAllowedInRow cX7_isAllowedInRow 2 (some .boolean) 1 20 [.int a0, .int a1] σ (some (.int r)) σ := by
  refine z_met w (by decide +kernel) (Nat.le_of_ble_eq_true rfl) (fun X hw hX => ?_)
  subst hw
  have hR : OkX X RX7 cX7_isAllowedInRow 2 1 20 (some .boolean) (some (.int r)) σ := hX
  have hX := hR.1
  show Z X σ 0 [(0, .int a0), (1, .int a1)] []
  unfold F_X7_isAllowedInRow at h
  refine z_iload_n hX dX7_isAllowedInRow_0 1 rfl ?_
  rcases ite_or h with ⟨c21, h⟩ | ⟨c21, h⟩
  · refine z_lookup (off := 27) hX 28 (by decide) (by rw [c21] <;> rfl) (by decide) dX7_isAllowedInRow_1 ?_
    refine z_iload_n hX dX7_isAllowedInRow_28 0 rfl ?_
    obtain ⟨r23, k22, h⟩ := bind_some h
    refine v_X7_55 hX (c_X7_isLetter X.1 k22) (Nat.le_of_ble_eq_true rfl) (Nat.le_of_ble_eq_true rfl) (Nat.le_of_ble_eq_true rfl) dX7_isAllowedInRow_29 ?_
    obtain ⟨g24, h⟩ := gd_some h
    obtain rfl := ret1 h
    exact z_zret hR (nb01 g24) dX7_isAllowedInRow_32
  rcases ite_or h with ⟨c25, h⟩ | ⟨c25, h⟩
  · refine z_lookup (off := 32) hX 33 (by decide) (by rw [c25] <;> rfl) (by decide) dX7_isAllowedInRow_1 ?_
    refine z_iload_n hX dX7_isAllowedInRow_33 0 rfl ?_
    refine z_bipush (x := 49) hX dX7_isAllowedInRow_34 (by decide) ?_
    rcases ite_or h with ⟨c26, h⟩ | ⟨c26, h⟩
    · refine z_icmp_lt_t hX 49 (by decide) dX7_isAllowedInRow_36 c26 ?_
      refine z_iconst (x := 0) hX dX7_isAllowedInRow_49 (by decide) ?_
      obtain rfl := ret1 h
      exact z_zret hR rfl dX7_isAllowedInRow_50
    · refine z_icmp_lt_f hX 49 (by decide) dX7_isAllowedInRow_36 c26 ?_
      refine z_iload_n hX dX7_isAllowedInRow_39 0 rfl ?_
      refine z_bipush (x := 57) hX dX7_isAllowedInRow_40 (by decide) ?_
      rcases ite_or h with ⟨c27, h⟩ | ⟨c27, h⟩
      · refine z_icmp_gt_t hX 49 (by decide) dX7_isAllowedInRow_42 c27 ?_
        refine z_iconst (x := 0) hX dX7_isAllowedInRow_49 (by decide) ?_
        obtain rfl := ret1 h
        exact z_zret hR rfl dX7_isAllowedInRow_50
      · refine z_icmp_gt_f hX 49 (by decide) dX7_isAllowedInRow_42 c27 ?_
        refine z_iconst (x := 1) hX dX7_isAllowedInRow_45 (by decide) ?_
        refine z_goto hX 50 (by decide) dX7_isAllowedInRow_46 ?_
        obtain rfl := ret1 h
        exact z_zret hR rfl dX7_isAllowedInRow_50
  refine z_lookup (off := 50) hX 51 (by decide) ((lv_osw (a := 0) c21 (by decide)).trans ((lv_osw (a := 1) c25 (by decide)).trans (rfl))) (by decide) dX7_isAllowedInRow_1 ?_
  refine z_iload_n hX dX7_isAllowedInRow_51 0 rfl ?_
  refine z_bipush (x := 44) hX dX7_isAllowedInRow_52 (by decide) ?_
  rcases ite_or h with ⟨c28, h⟩ | ⟨c28, h⟩
  · refine z_icmp_ne_f hX 61 (by decide) dX7_isAllowedInRow_54 c28 ?_
    refine z_iconst (x := 1) hX dX7_isAllowedInRow_57 (by decide) ?_
    refine z_goto hX 62 (by decide) dX7_isAllowedInRow_58 ?_
    obtain rfl := ret1 h
    exact z_zret hR rfl dX7_isAllowedInRow_62
  · refine z_icmp_ne_t hX 61 (by decide) dX7_isAllowedInRow_54 c28 ?_
    refine z_iconst (x := 0) hX dX7_isAllowedInRow_61 (by decide) ?_
    obtain rfl := ret1 h
    exact z_zret hR rfl dX7_isAllowedInRow_62
set_option maxRecDepth 20000 in
set_option maxHeartbeats 4000000 in
theorem t_X7_rowFault_2 {X : CX} {N : Nat} {r : Int32} {σ : HP} (hR : OkX X RX7 cX7_rowFault 2 2 41 (some .int) (some (.int r)) σ)  : ∀ (n : Nat) (j0 : Nat) (a1 : Int32), kd j0 = 7 → L_X7_rowFault_2  N σ n j0 a1 = some r → Z X σ 2 [(0, rf X.1 j0), (1, .int a1)] [] := by
  have hX := hR.1
  intro n
  induction n with
  | zero =>
    intro j0 a1 hk_j0 h
    rw [L_X7_rowFault_2] at h
    cases h
  | succ n ih =>
    intro j0 a1 hk_j0 h
    rw [L_X7_rowFault_2] at h
    refine z_iload_n hX dX7_rowFault_2 1 rfl ?_
    refine z_aload_n hX dX7_rowFault_3 0 rfl ?_
    refine g_X7_52 hX hk_j0 dX7_rowFault_4 ?_
    rcases ite_or h with ⟨c21, h⟩ | ⟨c21, h⟩
    · refine z_icmp_ge_t hX 33 (by decide) dX7_rowFault_7 c21 ?_
      refine z_aload_n hX dX7_rowFault_33 0 rfl ?_
      refine g_X7_52 hX hk_j0 dX7_rowFault_34 ?_
      refine z_iconst (x := 3) hX dX7_rowFault_37 (by decide) ?_
      refine z_irem hX dX7_rowFault_38 (by decide) ?_
      refine z_iconst (x := 2) hX dX7_rowFault_39 (by decide) ?_
      rcases ite_or h with ⟨c22, h⟩ | ⟨c22, h⟩
      · refine z_icmp_ne_f hX 47 (by decide) dX7_rowFault_40 c22 ?_
        refine z_iconst (x := (-1)) hX dX7_rowFault_43 (by decide) ?_
        refine z_goto hX 51 (by decide) dX7_rowFault_44 ?_
        obtain rfl := ret1 h
        exact z_iret hR dX7_rowFault_51
      · refine z_icmp_ne_t hX 47 (by decide) dX7_rowFault_40 c22 ?_
        refine z_aload_n hX dX7_rowFault_47 0 rfl ?_
        refine g_X7_52 hX hk_j0 dX7_rowFault_48 ?_
        obtain rfl := ret1 h
        exact z_iret hR dX7_rowFault_51
    · refine z_icmp_ge_f hX 33 (by decide) dX7_rowFault_7 c21 ?_
      refine z_aload_n hX dX7_rowFault_10 0 rfl ?_
      refine g_X7_26 hX hk_j0 dX7_rowFault_11 ?_
      refine z_iload_n hX dX7_rowFault_14 1 rfl ?_
      obtain ⟨g23, h⟩ := gd_some h
      refine z_cald hX (kl_7_4 hk_j0).1 (kl_7_4 hk_j0).2 g23 dX7_rowFault_15 ?_
      refine z_iload_n hX dX7_rowFault_16 1 rfl ?_
      refine z_iconst (x := 3) hX dX7_rowFault_17 (by decide) ?_
      refine z_irem hX dX7_rowFault_18 (by decide) ?_
      obtain ⟨r25, k24, h⟩ := bind_some h
      refine v_X7_288 hX (c_X7_isAllowedInRow X.1 k24) (Nat.le_of_ble_eq_true rfl) (Nat.le_of_ble_eq_true rfl) (Nat.le_of_ble_eq_true rfl) dX7_rowFault_19 ?_
      rcases ite_or h with ⟨c26, h⟩ | ⟨c26, h⟩
      · refine z_if_ne_f hX 27 (by decide) dX7_rowFault_22 c26 ?_
        refine z_iload_n hX dX7_rowFault_25 1 rfl ?_
        obtain rfl := ret1 h
        exact z_iret hR dX7_rowFault_26
      · refine z_if_ne_t hX 27 (by decide) dX7_rowFault_22 c26 ?_
        refine z_iinc (y := (a1 + 1)) (lv' := [(1, .int (a1 + 1)), (0, rf X.1 j0)]) hX dX7_rowFault_27 1 rfl rfl (by decide) rfl ?_
        refine z_goto hX 2 (by decide) dX7_rowFault_30 ?_
        refine z_sub (lv' := [(0, rf X.1 j0), (1, .int (a1 + 1))]) [1, 0] rfl ?_
        exact ih j0 (a1 + 1) hk_j0 h
set_option maxRecDepth 20000 in
set_option maxHeartbeats 4000000 in
theorem c_X7_rowFault (w : WP) {N : Nat} {j0 : Nat} {r : Int32} {σ : HP} (hk_j0 : kd j0 = 7) (h : F_X7_rowFault N j0 σ = some r) : Ct w yX7_rowFault cX7_rowFault 2 (some .int) 2 41 [rf w j0] σ (some (.int r)) σ := by
  refine z_met w (by decide +kernel) (Nat.le_of_ble_eq_true rfl) (fun X hw hX => ?_)
  subst hw
  have hR : OkX X RX7 cX7_rowFault 2 2 41 (some .int) (some (.int r)) σ := hX
  have hX := hR.1
  show Z X σ 0 [(0, rf X.1 j0)] []
  unfold F_X7_rowFault at h
  refine z_iconst (x := 0) hX dX7_rowFault_0 (by decide) ?_
  refine z_istore_n (lv' := [(1, .int 0), (0, rf X.1 j0)]) hX dX7_rowFault_1 (by decide) rfl ?_
  refine z_sub (lv' := [(0, rf X.1 j0), (1, .int 0)]) [1, 0] rfl ?_
  exact t_X7_rowFault_2 hR  N j0 0 hk_j0 h
set_option maxRecDepth 20000 in
set_option maxHeartbeats 4000000 in
theorem t_X7_readRow_45 {X : CX} {N : Nat} {r : Int32} {σ' : HP} (hR : OkX X RX7 cX7_readRow 3 4 80 (some .int) (some (.int r)) σ')  : ∀ (n : Nat) (j0 : Nat) (a2 : Int32) (σ : HP), kd j0 = 7 → L_X7_readRow_45  N n j0 a2 σ = some (r, σ') → Z X σ 45 [(0, rf X.1 j0), (2, .int a2)] [] := by
  have hX := hR.1
  intro n
  induction n with
  | zero =>
    intro j0 a2 σ hk_j0 h
    rw [L_X7_readRow_45] at h
    cases h
  | succ n ih =>
    intro j0 a2 σ hk_j0 h
    rw [L_X7_readRow_45] at h
    refine z_iload_n hX dX7_readRow_45 1 rfl ?_
    refine z_iconst (x := 1) hX dX7_readRow_46 (by decide) ?_
    refine z_iadd hX dX7_readRow_47 ?_
    refine z_aload_n hX dX7_readRow_48 0 rfl ?_
    refine g_X7_52 hX hk_j0 dX7_readRow_49 ?_
    rcases ite_or h with ⟨c21, h⟩ | ⟨c21, h⟩
    · refine z_icmp_ge_t hX 88 (by decide) dX7_readRow_52 c21 ?_
      refine z_aload_n hX dX7_readRow_88 0 rfl ?_
      refine g_X7_10 hX hk_j0 dX7_readRow_89 ?_
      refine g_X7_64 hX (kl_7_0 hk_j0).1 dX7_readRow_92 ?_
      refine g_X7_82 hX (kl_4_0 (kl_7_0 hk_j0).1).1 dX7_readRow_95 ?_
      obtain ⟨rfl, rfl⟩ := ret2 h
      exact z_iret hR dX7_readRow_98
    · refine z_icmp_ge_f hX 88 (by decide) dX7_readRow_52 c21 ?_
      refine z_aload_n hX dX7_readRow_55 0 rfl ?_
      refine g_X7_10 hX hk_j0 dX7_readRow_56 ?_
      refine g_X7_64 hX (kl_7_0 hk_j0).1 dX7_readRow_59 ?_
      refine z_aload_n hX dX7_readRow_62 0 rfl ?_
      refine g_X7_26 hX hk_j0 dX7_readRow_63 ?_
      refine z_iload_n hX dX7_readRow_66 1 rfl ?_
      obtain ⟨g22, h⟩ := gd_some h
      refine z_cald hX (kl_7_4 hk_j0).1 (kl_7_4 hk_j0).2 g22 dX7_readRow_67 ?_
      refine z_aload_n hX dX7_readRow_68 0 rfl ?_
      refine g_X7_26 hX hk_j0 dX7_readRow_69 ?_
      refine z_iload_n hX dX7_readRow_72 1 rfl ?_
      refine z_iconst (x := 1) hX dX7_readRow_73 (by decide) ?_
      refine z_iadd hX dX7_readRow_74 ?_
      obtain ⟨g23, h⟩ := gd_some h
      refine z_cald hX (kl_7_4 hk_j0).1 (kl_7_4 hk_j0).2 g23 dX7_readRow_75 ?_
      refine z_bipush (x := 48) hX dX7_readRow_76 (by decide) ?_
      refine z_isub hX dX7_readRow_78 ?_
      obtain ⟨σ25, k24, h⟩ := bind_some h
      refine v_X7_78 hX (kl_4_0 (kl_7_0 hk_j0).1).1 (c_X3_append X.1 (kl_4_0 (kl_7_0 hk_j0).1).1 k24) (Nat.le_of_ble_eq_true rfl) (Nat.le_of_ble_eq_true rfl) (Nat.le_of_ble_eq_true rfl) dX7_readRow_79 ?_
      refine z_iinc (y := (a2 + 3)) (lv' := [(2, .int (a2 + 3)), (0, rf X.1 j0)]) hX dX7_readRow_82 1 rfl rfl (by decide) rfl ?_
      refine z_goto hX 45 (by decide) dX7_readRow_85 ?_
      refine z_sub (lv' := [(0, rf X.1 j0), (2, .int (a2 + 3))]) [1, 0] rfl ?_
      exact ih j0 (a2 + 3) σ25 hk_j0 h
set_option maxRecDepth 20000 in
set_option maxHeartbeats 4000000 in
theorem c_X7_readRow (w : WP) {N : Nat} {j0 : Nat} {r : Int32} {σ σ' : HP} (hk_j0 : kd j0 = 7) (h : F_X7_readRow N j0 σ = some (r, σ')) : Ct w yX7_readRow cX7_readRow 3 (some .int) 4 80 [rf w j0] σ (some (.int r)) σ' := by
  refine z_met w (by decide +kernel) (Nat.le_of_ble_eq_true rfl) (fun X hw hX => ?_)
  subst hw
  have hR : OkX X RX7 cX7_readRow 3 4 80 (some .int) (some (.int r)) σ' := hX
  have hX := hR.1
  show Z X σ 0 [(0, rf X.1 j0)] []
  unfold F_X7_readRow at h
  refine z_aload_n hX dX7_readRow_0 0 rfl ?_
  obtain ⟨r22, k21, h⟩ := bind_some h
  refine v_X7_85 hX hk_j0 (c_X7_rowFault X.1 hk_j0 k21) (Nat.le_of_ble_eq_true rfl) (Nat.le_of_ble_eq_true rfl) (Nat.le_of_ble_eq_true rfl) dX7_readRow_1 ?_
  refine z_istore_n (lv' := [(1, .int r22), (0, rf X.1 j0)]) hX dX7_readRow_4 (by decide) rfl ?_
  refine z_iload_n hX dX7_readRow_5 0 rfl ?_
  refine z_iconst (x := (-1)) hX dX7_readRow_6 (by decide) ?_
  rcases ite_or h with ⟨c23, h⟩ | ⟨c23, h⟩
  · refine z_icmp_eq_t hX 15 (by decide) dX7_readRow_7 c23 ?_
    refine z_aload_n hX dX7_readRow_15 1 rfl ?_
    refine g_X7_10 hX hk_j0 dX7_readRow_16 ?_
    refine g_X7_64 hX (kl_7_0 hk_j0).1 dX7_readRow_19 ?_
    refine z_aload_n hX dX7_readRow_22 1 rfl ?_
    refine g_X7_52 hX hk_j0 dX7_readRow_23 ?_
    refine z_iconst (x := 1) hX dX7_readRow_26 (by decide) ?_
    refine z_iadd hX dX7_readRow_27 ?_
    refine z_iconst (x := 3) hX dX7_readRow_28 (by decide) ?_
    refine z_idiv hX dX7_readRow_29 (by decide) ?_
    obtain ⟨r25, k24, h⟩ := bind_some h
    refine v_X7_68 hX (kl_4_0 (kl_7_0 hk_j0).1).1 (c_X3_hasRoomFor X.1 (kl_4_0 (kl_7_0 hk_j0).1).1 k24) (Nat.le_of_ble_eq_true rfl) (Nat.le_of_ble_eq_true rfl) (Nat.le_of_ble_eq_true rfl) dX7_readRow_30 ?_
    rcases ite_or h with ⟨c26, h⟩ | ⟨c26, h⟩
    · refine z_if_ne_f hX 39 (by decide) dX7_readRow_33 c26 ?_
      refine z_ldc (x := (-1000003)) hX mc_X7_74 dX7_readRow_36 ?_
      obtain ⟨rfl, rfl⟩ := ret2 h
      exact z_iret hR dX7_readRow_38
    · refine z_if_ne_t hX 39 (by decide) dX7_readRow_33 c26 ?_
      refine z_aload_n hX dX7_readRow_39 1 rfl ?_
      obtain ⟨σ28, k27, h⟩ := bind_some h
      refine v_X7_75 hX hk_j0 (c_X7_record X.1 hk_j0 k27) (Nat.le_of_ble_eq_true rfl) (Nat.le_of_ble_eq_true rfl) (Nat.le_of_ble_eq_true rfl) dX7_readRow_40 ?_
      refine z_iconst (x := 0) hX dX7_readRow_43 (by decide) ?_
      refine z_istore_n (lv' := [(2, .int 0), (1, .int r22), (0, rf X.1 j0)]) hX dX7_readRow_44 (by decide) rfl ?_
      refine z_sub (lv' := [(0, rf X.1 j0), (2, .int 0)]) [2, 0] rfl ?_
      exact t_X7_readRow_45 hR  N j0 0 σ28 hk_j0 h
  · refine z_icmp_eq_f hX 15 (by decide) dX7_readRow_7 c23 ?_
    refine z_ldc (x := (-1000100)) hX mc_X7_89 dX7_readRow_10 ?_
    refine z_iload_n hX dX7_readRow_12 0 rfl ?_
    refine z_isub hX dX7_readRow_13 ?_
    obtain ⟨rfl, rfl⟩ := ret2 h
    exact z_iret hR dX7_readRow_14
set_option maxRecDepth 20000 in
set_option maxHeartbeats 4000000 in
theorem c_X7_go (w : WP) {N : Nat} {j0 : Nat} {a1 : Int32} {r : Int32} {σ σ' : HP} (hk_j0 : kd j0 = 7) (h : F_X7_go N j0 a1 σ = some (r, σ')) : Ct w yX7_go cX7_go 2 (some .int) 4 80 [rf w j0, .int a1] σ (some (.int r)) σ' := by
  refine z_met w (by decide +kernel) (Nat.le_of_ble_eq_true rfl) (fun X hw hX => ?_)
  subst hw
  have hR : OkX X RX7 cX7_go 2 4 80 (some .int) (some (.int r)) σ' := hX
  have hX := hR.1
  show Z X σ 0 [(0, rf X.1 j0), (1, .int a1)] []
  unfold F_X7_go at h
  refine z_aload_n hX dX7_go_0 0 rfl ?_
  refine g_X7_10 hX hk_j0 dX7_go_1 ?_
  refine g_X7_64 hX (kl_7_0 hk_j0).1 dX7_go_4 ?_
  refine z_iload_n hX dX7_go_7 1 rfl ?_
  obtain ⟨r22, k21, h⟩ := bind_some h
  refine v_X7_90 hX (kl_4_0 (kl_7_0 hk_j0).1).1 (c_X3_hasPlace X.1 (kl_4_0 (kl_7_0 hk_j0).1).1 k21) (Nat.le_of_ble_eq_true rfl) (Nat.le_of_ble_eq_true rfl) (Nat.le_of_ble_eq_true rfl) dX7_go_8 ?_
  rcases ite_or h with ⟨c23, h⟩ | ⟨c23, h⟩
  · refine z_if_ne_f hX 17 (by decide) dX7_go_11 c23 ?_
    refine z_ldc (x := (-1000001)) hX mc_X7_93 dX7_go_14 ?_
    obtain ⟨rfl, rfl⟩ := ret2 h
    exact z_iret hR dX7_go_16
  · refine z_if_ne_t hX 17 (by decide) dX7_go_11 c23 ?_
    refine z_aload_n hX dX7_go_17 0 rfl ?_
    refine g_X7_10 hX hk_j0 dX7_go_18 ?_
    refine g_X7_64 hX (kl_7_0 hk_j0).1 dX7_go_21 ?_
    refine z_iload_n hX dX7_go_24 1 rfl ?_
    obtain ⟨r25, k24, h⟩ := bind_some h
    refine v_X7_94 hX (kl_4_0 (kl_7_0 hk_j0).1).1 (c_X3_isTangled X.1 (kl_4_0 (kl_7_0 hk_j0).1).1 k24) (Nat.le_of_ble_eq_true rfl) (Nat.le_of_ble_eq_true rfl) (Nat.le_of_ble_eq_true rfl) dX7_go_25 ?_
    rcases ite_or h with ⟨c26, h⟩ | ⟨c26, h⟩
    · refine z_if_eq_t hX 34 (by decide) dX7_go_28 c26 ?_
      refine z_aload_n hX dX7_go_34 0 rfl ?_
      obtain ⟨σ28, k27, h⟩ := bind_some h
      refine v_X7_75 hX hk_j0 (c_X7_record X.1 hk_j0 k27) (Nat.le_of_ble_eq_true rfl) (Nat.le_of_ble_eq_true rfl) (Nat.le_of_ble_eq_true rfl) dX7_go_35 ?_
      refine z_aload_n hX dX7_go_38 0 rfl ?_
      refine g_X7_10 hX hk_j0 dX7_go_39 ?_
      refine g_X7_64 hX (kl_7_0 hk_j0).1 dX7_go_42 ?_
      refine z_iload_n hX dX7_go_45 1 rfl ?_
      obtain ⟨σ30, k29, h⟩ := bind_some h
      refine v_X7_98 hX (kl_4_0 (kl_7_0 hk_j0).1).1 (c_X3_remove X.1 (kl_4_0 (kl_7_0 hk_j0).1).1 k29) (Nat.le_of_ble_eq_true rfl) (Nat.le_of_ble_eq_true rfl) (Nat.le_of_ble_eq_true rfl) dX7_go_46 ?_
      refine z_aload_n hX dX7_go_49 0 rfl ?_
      refine g_X7_10 hX hk_j0 dX7_go_50 ?_
      refine g_X7_64 hX (kl_7_0 hk_j0).1 dX7_go_53 ?_
      refine g_X7_82 hX (kl_4_0 (kl_7_0 hk_j0).1).1 dX7_go_56 ?_
      obtain ⟨rfl, rfl⟩ := ret2 h
      exact z_iret hR dX7_go_59
    · refine z_if_eq_f hX 34 (by decide) dX7_go_28 c26 ?_
      refine z_ldc (x := (-1000004)) hX mc_X7_97 dX7_go_31 ?_
      obtain ⟨rfl, rfl⟩ := ret2 h
      exact z_iret hR dX7_go_33
set_option maxRecDepth 20000 in
set_option maxHeartbeats 4000000 in
theorem c_X7_pay (w : WP) {N : Nat} {j0 : Nat} {a1 : Int32} {a2 : Int32} {r : Int32} {σ σ' : HP} (hk_j0 : kd j0 = 7) (h : F_X7_pay N j0 a1 a2 σ = some (r, σ')) : Ct w yX7_pay cX7_pay 4 (some .int) 4 80 [rf w j0, .int a1, .int a2] σ (some (.int r)) σ' := by
  refine z_met w (by decide +kernel) (Nat.le_of_ble_eq_true rfl) (fun X hw hX => ?_)
  subst hw
  have hR : OkX X RX7 cX7_pay 4 4 80 (some .int) (some (.int r)) σ' := hX
  have hX := hR.1
  show Z X σ 0 [(0, rf X.1 j0), (1, .int a1), (2, .int a2)] []
  unfold F_X7_pay at h
  refine z_aload_n hX dX7_pay_0 0 rfl ?_
  refine g_X7_10 hX hk_j0 dX7_pay_1 ?_
  refine g_X7_64 hX (kl_7_0 hk_j0).1 dX7_pay_4 ?_
  refine z_iload_n hX dX7_pay_7 1 rfl ?_
  obtain ⟨r22, k21, h⟩ := bind_some h
  refine v_X7_90 hX (kl_4_0 (kl_7_0 hk_j0).1).1 (c_X3_hasPlace X.1 (kl_4_0 (kl_7_0 hk_j0).1).1 k21) (Nat.le_of_ble_eq_true rfl) (Nat.le_of_ble_eq_true rfl) (Nat.le_of_ble_eq_true rfl) dX7_pay_8 ?_
  rcases ite_or h with ⟨c23, h⟩ | ⟨c23, h⟩
  · refine z_if_ne_f hX 17 (by decide) dX7_pay_11 c23 ?_
    refine z_ldc (x := (-1000001)) hX mc_X7_93 dX7_pay_14 ?_
    obtain ⟨rfl, rfl⟩ := ret2 h
    exact z_iret hR dX7_pay_16
  · refine z_if_ne_t hX 17 (by decide) dX7_pay_11 c23 ?_
    refine z_iload_n hX dX7_pay_17 2 rfl ?_
    refine z_iconst (x := 1) hX dX7_pay_18 (by decide) ?_
    refine z_bipush (x := 9) hX dX7_pay_19 (by decide) ?_
    obtain ⟨r25, k24, h⟩ := bind_some h
    refine v_X7_59 hX (c_X7_isWithin X.1 k24) (Nat.le_of_ble_eq_true rfl) (Nat.le_of_ble_eq_true rfl) (Nat.le_of_ble_eq_true rfl) dX7_pay_21 ?_
    rcases ite_or h with ⟨c26, h⟩ | ⟨c26, h⟩
    · refine z_if_ne_f hX 30 (by decide) dX7_pay_24 c26 ?_
      refine z_ldc (x := (-1000002)) hX mc_X7_63 dX7_pay_27 ?_
      obtain ⟨rfl, rfl⟩ := ret2 h
      exact z_iret hR dX7_pay_29
    · refine z_if_ne_t hX 30 (by decide) dX7_pay_24 c26 ?_
      refine z_aload_n hX dX7_pay_30 0 rfl ?_
      refine g_X7_10 hX hk_j0 dX7_pay_31 ?_
      refine g_X7_64 hX (kl_7_0 hk_j0).1 dX7_pay_34 ?_
      refine g_X7_102 hX (kl_4_0 (kl_7_0 hk_j0).1).1 dX7_pay_37 ?_
      refine z_iload_n hX dX7_pay_40 1 rfl ?_
      obtain ⟨g27, h⟩ := gd_some h
      refine z_iald hX (kl_3_2 (kl_4_0 (kl_7_0 hk_j0).1).1).1 (kl_3_2 (kl_4_0 (kl_7_0 hk_j0).1).1).2 g27 dX7_pay_41 ?_
      obtain ⟨x28, ex28, h⟩ := bd_some h
      refine z_top ex28 ?_
      refine z_istore_n (lv' := [(3, .int x28), (0, rf X.1 j0), (1, .int a1), (2, .int a2)]) hX dX7_pay_42 (by decide) rfl ?_
      refine z_iload_n hX dX7_pay_43 0 rfl ?_
      refine z_iload_n hX dX7_pay_44 3 rfl ?_
      rcases ite_or h with ⟨c29, h⟩ | ⟨c29, h⟩
      · refine z_icmp_ne_f hX 51 (by decide) dX7_pay_45 c29 ?_
        refine z_ldc (x := (-1000005)) hX mc_X7_106 dX7_pay_48 ?_
        obtain ⟨rfl, rfl⟩ := ret2 h
        exact z_iret hR dX7_pay_50
      · refine z_icmp_ne_t hX 51 (by decide) dX7_pay_45 c29 ?_
        refine z_aload_n hX dX7_pay_51 1 rfl ?_
        obtain ⟨σ31, k30, h⟩ := bind_some h
        refine v_X7_75 hX hk_j0 (c_X7_record X.1 hk_j0 k30) (Nat.le_of_ble_eq_true rfl) (Nat.le_of_ble_eq_true rfl) (Nat.le_of_ble_eq_true rfl) dX7_pay_52 ?_
        refine z_aload_n hX dX7_pay_55 1 rfl ?_
        refine g_X7_10 hX hk_j0 dX7_pay_56 ?_
        refine g_X7_64 hX (kl_7_0 hk_j0).1 dX7_pay_59 ?_
        refine g_X7_102 hX (kl_4_0 (kl_7_0 hk_j0).1).1 dX7_pay_62 ?_
        refine z_iload_n hX dX7_pay_65 2 rfl ?_
        refine z_iload_n hX dX7_pay_66 3 rfl ?_
        obtain ⟨g32, h⟩ := gd_some h
        obtain ⟨σ33, eσ33, h⟩ := bd_some h
        refine z_iast hX (kl_3_2 (kl_4_0 (kl_7_0 hk_j0).1).1).1 (kl_3_2 (kl_4_0 (kl_7_0 hk_j0).1).1).2 g32 dX7_pay_67 ?_
        refine z_ms eσ33 ?_
        refine z_iload_n hX dX7_pay_68 0 rfl ?_
        obtain ⟨rfl, rfl⟩ := ret2 h
        exact z_iret hR dX7_pay_69
set_option maxRecDepth 20000 in
set_option maxHeartbeats 4000000 in
theorem c_X7_trade (w : WP) {N : Nat} {j0 : Nat} {a1 : Int32} {r : Int32} {σ σ' : HP} (hk_j0 : kd j0 = 7) (h : F_X7_trade N j0 a1 σ = some (r, σ')) : Ct w yX7_trade cX7_trade 2 (some .int) 6 131 [rf w j0, .int a1] σ (some (.int r)) σ' := by
  refine z_met w (by decide +kernel) (Nat.le_of_ble_eq_true rfl) (fun X hw hX => ?_)
  subst hw
  have hR : OkX X RX7 cX7_trade 2 6 131 (some .int) (some (.int r)) σ' := hX
  have hX := hR.1
  show Z X σ 0 [(0, rf X.1 j0), (1, .int a1)] []
  unfold F_X7_trade at h
  refine z_aload_n hX dX7_trade_0 0 rfl ?_
  refine g_X7_10 hX hk_j0 dX7_trade_1 ?_
  refine g_X7_64 hX (kl_7_0 hk_j0).1 dX7_trade_4 ?_
  refine z_iload_n hX dX7_trade_7 1 rfl ?_
  obtain ⟨r22, k21, h⟩ := bind_some h
  refine v_X7_107 hX (kl_4_0 (kl_7_0 hk_j0).1).1 (c_X3_hasPairAt X.1 (kl_4_0 (kl_7_0 hk_j0).1).1 k21) (Nat.le_of_ble_eq_true rfl) (Nat.le_of_ble_eq_true rfl) (Nat.le_of_ble_eq_true rfl) dX7_trade_8 ?_
  rcases ite_or h with ⟨c23, h⟩ | ⟨c23, h⟩
  · refine z_if_ne_f hX 17 (by decide) dX7_trade_11 c23 ?_
    refine z_ldc (x := (-1000001)) hX mc_X7_93 dX7_trade_14 ?_
    obtain ⟨rfl, rfl⟩ := ret2 h
    exact z_iret hR dX7_trade_16
  · refine z_if_ne_t hX 17 (by decide) dX7_trade_11 c23 ?_
    refine z_aload_n hX dX7_trade_17 0 rfl ?_
    refine g_X7_10 hX hk_j0 dX7_trade_18 ?_
    refine g_X7_64 hX (kl_7_0 hk_j0).1 dX7_trade_21 ?_
    refine z_iload_n hX dX7_trade_24 1 rfl ?_
    obtain ⟨r25, k24, h⟩ := bind_some h
    refine v_X7_110 hX (kl_4_0 (kl_7_0 hk_j0).1).1 (c_X3_isPairFree X.1 (kl_4_0 (kl_7_0 hk_j0).1).1 k24) (Nat.le_of_ble_eq_true rfl) (Nat.le_of_ble_eq_true rfl) (Nat.le_of_ble_eq_true rfl) dX7_trade_25 ?_
    rcases ite_or h with ⟨c26, h⟩ | ⟨c26, h⟩
    · refine z_if_eq_t hX 44 (by decide) dX7_trade_28 c26 ?_
      refine z_ldc (x := (-1000004)) hX mc_X7_97 dX7_trade_44 ?_
      obtain ⟨rfl, rfl⟩ := ret2 h
      exact z_iret hR dX7_trade_46
    · refine z_if_eq_f hX 44 (by decide) dX7_trade_28 c26 ?_
      refine z_aload_n hX dX7_trade_31 0 rfl ?_
      refine g_X7_10 hX hk_j0 dX7_trade_32 ?_
      refine g_X7_113 hX (kl_7_0 hk_j0).1 dX7_trade_35 ?_
      refine z_sipush (x := 9999) hX dX7_trade_38 (by decide) ?_
      rcases ite_or h with ⟨c27, h⟩ | ⟨c27, h⟩
      · refine z_icmp_lt_t hX 47 (by decide) dX7_trade_41 c27 ?_
        refine z_aload_n hX dX7_trade_47 0 rfl ?_
        obtain ⟨σ29, k28, h⟩ := bind_some h
        refine v_X7_75 hX hk_j0 (c_X7_record X.1 hk_j0 k28) (Nat.le_of_ble_eq_true rfl) (Nat.le_of_ble_eq_true rfl) (Nat.le_of_ble_eq_true rfl) dX7_trade_48 ?_
        refine z_aload_n hX dX7_trade_51 0 rfl ?_
        refine g_X7_10 hX hk_j0 dX7_trade_52 ?_
        refine z_iload_n hX dX7_trade_55 1 rfl ?_
        obtain ⟨r31, σ32, k30, h⟩ := bind2_some h
        refine v_X7_116 hX (kl_7_0 hk_j0).1 (c_X4_tradePlaces X.1 (kl_7_0 hk_j0).1 k30) (Nat.le_of_ble_eq_true rfl) (Nat.le_of_ble_eq_true rfl) (Nat.le_of_ble_eq_true rfl) dX7_trade_56 ?_
        obtain ⟨r34, k33, h⟩ := bind_some h
        refine v_X7_119 hX (c_X7_asNumber X.1 k33) (Nat.le_of_ble_eq_true rfl) (Nat.le_of_ble_eq_true rfl) (Nat.le_of_ble_eq_true rfl) dX7_trade_59 ?_
        obtain ⟨rfl, rfl⟩ := ret2 h
        exact z_iret hR dX7_trade_62
      · refine z_icmp_lt_f hX 47 (by decide) dX7_trade_41 c27 ?_
        refine z_ldc (x := (-1000004)) hX mc_X7_97 dX7_trade_44 ?_
        obtain ⟨rfl, rfl⟩ := ret2 h
        exact z_iret hR dX7_trade_46
set_option maxRecDepth 20000 in
set_option maxHeartbeats 4000000 in
theorem t_X7_pass_39 {X : CX} {N : Nat} {r : Int32} {σ' : HP} (hR : OkX X RX7 cX7_pass 4 5 109 (some .int) (some (.int r)) σ')  : ∀ (n : Nat) (j0 : Nat) (a1 : Int32) (a2 : Int32) (a3 : Int32) (σ : HP), kd j0 = 7 → L_X7_pass_39  N n j0 a1 a2 a3 σ = some (r, σ') → Z X σ 39 [(0, rf X.1 j0), (1, .int a1), (2, .int a2), (3, .int a3)] [] := by
  have hX := hR.1
  intro n
  induction n with
  | zero =>
    intro j0 a1 a2 a3 σ hk_j0 h
    rw [L_X7_pass_39] at h
    cases h
  | succ n ih =>
    intro j0 a1 a2 a3 σ hk_j0 h
    rw [L_X7_pass_39] at h
    refine z_iload_n hX dX7_pass_39 3 rfl ?_
    refine z_iload_n hX dX7_pass_40 1 rfl ?_
    rcases ite_or h with ⟨c21, h⟩ | ⟨c21, h⟩
    · refine z_icmp_ge_t hX 60 (by decide) dX7_pass_41 c21 ?_
      refine z_iload_n hX dX7_pass_60 2 rfl ?_
      obtain ⟨rfl, rfl⟩ := ret2 h
      exact z_iret hR dX7_pass_61
    · refine z_icmp_ge_f hX 60 (by decide) dX7_pass_41 c21 ?_
      refine z_iload_n hX dX7_pass_44 2 rfl ?_
      refine z_aload_n hX dX7_pass_45 0 rfl ?_
      refine g_X7_10 hX hk_j0 dX7_pass_46 ?_
      obtain ⟨r23, σ24, k22, h⟩ := bind2_some h
      refine v_X7_123 hX (kl_7_0 hk_j0).1 (c_X4_passMinute X.1 (kl_7_0 hk_j0).1 k22) (Nat.le_of_ble_eq_true rfl) (Nat.le_of_ble_eq_true rfl) (Nat.le_of_ble_eq_true rfl) dX7_pass_49 ?_
      refine z_iadd hX dX7_pass_52 ?_
      obtain ⟨x25, ex25, h⟩ := bd_some h
      refine z_top ex25 ?_
      refine z_istore_n (lv' := [(2, .int x25), (0, rf X.1 j0), (1, .int a1), (3, .int a3)]) hX dX7_pass_53 (by decide) rfl ?_
      refine z_iinc (y := (a3 + 1)) (lv' := [(3, .int (a3 + 1)), (2, .int x25), (0, rf X.1 j0), (1, .int a1)]) hX dX7_pass_54 3 rfl rfl (by decide) rfl ?_
      refine z_goto hX 39 (by decide) dX7_pass_57 ?_
      refine z_sub (lv' := [(0, rf X.1 j0), (1, .int a1), (2, .int x25), (3, .int (a3 + 1))]) [2, 3, 1, 0] rfl ?_
      exact ih j0 a1 x25 (a3 + 1) σ24 hk_j0 h
set_option maxRecDepth 20000 in
set_option maxHeartbeats 4000000 in
theorem c_X7_pass (w : WP) {N : Nat} {j0 : Nat} {a1 : Int32} {r : Int32} {σ σ' : HP} (hk_j0 : kd j0 = 7) (h : F_X7_pass N j0 a1 σ = some (r, σ')) : Ct w yX7_pass cX7_pass 4 (some .int) 5 109 [rf w j0, .int a1] σ (some (.int r)) σ' := by
  refine z_met w (by decide +kernel) (Nat.le_of_ble_eq_true rfl) (fun X hw hX => ?_)
  subst hw
  have hR : OkX X RX7 cX7_pass 4 5 109 (some .int) (some (.int r)) σ' := hX
  have hX := hR.1
  show Z X σ 0 [(0, rf X.1 j0), (1, .int a1)] []
  unfold F_X7_pass at h
  refine z_iload_n hX dX7_pass_0 1 rfl ?_
  refine z_iconst (x := 1) hX dX7_pass_1 (by decide) ?_
  refine z_bipush (x := 60) hX dX7_pass_2 (by decide) ?_
  obtain ⟨r22, k21, h⟩ := bind_some h
  refine v_X7_59 hX (c_X7_isWithin X.1 k21) (Nat.le_of_ble_eq_true rfl) (Nat.le_of_ble_eq_true rfl) (Nat.le_of_ble_eq_true rfl) dX7_pass_4 ?_
  rcases ite_or h with ⟨c23, h⟩ | ⟨c23, h⟩
  · refine z_if_ne_f hX 13 (by decide) dX7_pass_7 c23 ?_
    refine z_ldc (x := (-1000002)) hX mc_X7_63 dX7_pass_10 ?_
    obtain ⟨rfl, rfl⟩ := ret2 h
    exact z_iret hR dX7_pass_12
  · refine z_if_ne_t hX 13 (by decide) dX7_pass_7 c23 ?_
    refine z_aload_n hX dX7_pass_13 0 rfl ?_
    refine g_X7_10 hX hk_j0 dX7_pass_14 ?_
    refine g_X7_113 hX (kl_7_0 hk_j0).1 dX7_pass_17 ?_
    refine z_iload_n hX dX7_pass_20 1 rfl ?_
    refine z_iadd hX dX7_pass_21 ?_
    refine z_sipush (x := 9999) hX dX7_pass_22 (by decide) ?_
    rcases ite_or h with ⟨c24, h⟩ | ⟨c24, h⟩
    · refine z_icmp_le_t hX 31 (by decide) dX7_pass_25 c24 ?_
      refine z_aload_n hX dX7_pass_31 0 rfl ?_
      obtain ⟨σ26, k25, h⟩ := bind_some h
      refine v_X7_75 hX hk_j0 (c_X7_record X.1 hk_j0 k25) (Nat.le_of_ble_eq_true rfl) (Nat.le_of_ble_eq_true rfl) (Nat.le_of_ble_eq_true rfl) dX7_pass_32 ?_
      refine z_iconst (x := 0) hX dX7_pass_35 (by decide) ?_
      refine z_istore_n (lv' := [(2, .int 0), (0, rf X.1 j0), (1, .int a1)]) hX dX7_pass_36 (by decide) rfl ?_
      refine z_iconst (x := 0) hX dX7_pass_37 (by decide) ?_
      refine z_istore_n (lv' := [(3, .int 0), (2, .int 0), (0, rf X.1 j0), (1, .int a1)]) hX dX7_pass_38 (by decide) rfl ?_
      refine z_sub (lv' := [(0, rf X.1 j0), (1, .int a1), (2, .int 0), (3, .int 0)]) [2, 3, 1, 0] rfl ?_
      exact t_X7_pass_39 hR  N j0 a1 0 0 σ26 hk_j0 h
    · refine z_icmp_le_f hX 31 (by decide) dX7_pass_25 c24 ?_
      refine z_ldc (x := (-1000003)) hX mc_X7_74 dX7_pass_28 ?_
      obtain ⟨rfl, rfl⟩ := ret2 h
      exact z_iret hR dX7_pass_30
set_option maxRecDepth 20000 in
set_option maxHeartbeats 4000000 in
theorem c_X7_isWind (w : WP) {N : Nat} {a0 : Int32} {a1 : Int32} {r : Int32} {σ : HP} (h : F_X7_isWind N a0 a1 σ = some r) : Ct w yX7_isWind cX7_isWind 2 (some .boolean) 1 22 [.int a0, .int a1] σ (some (.int r)) σ := by
  refine z_met w (by decide +kernel) (Nat.le_of_ble_eq_true rfl) (fun X hw hX => ?_)
  subst hw
  have hR : OkX X RX7 cX7_isWind 2 1 22 (some .boolean) (some (.int r)) σ := hX
  have hX := hR.1
  show Z X σ 0 [(0, .int a0), (1, .int a1)] []
  unfold F_X7_isWind at h
  refine z_iload_n hX dX7_isWind_0 0 rfl ?_
  refine z_iconst (x := 0) hX dX7_isWind_1 (by decide) ?_
  refine z_iconst (x := 3) hX dX7_isWind_2 (by decide) ?_
  obtain ⟨r22, k21, h⟩ := bind_some h
  refine v_X7_59 hX (c_X7_isWithin X.1 k21) (Nat.le_of_ble_eq_true rfl) (Nat.le_of_ble_eq_true rfl) (Nat.le_of_ble_eq_true rfl) dX7_isWind_3 ?_
  rcases ite_or h with ⟨c23, h⟩ | ⟨c23, h⟩
  · refine z_if_eq_t hX 22 (by decide) dX7_isWind_6 c23 ?_
    refine z_iconst (x := 0) hX dX7_isWind_22 (by decide) ?_
    obtain rfl := ret1 h
    exact z_zret hR rfl dX7_isWind_23
  · refine z_if_eq_f hX 22 (by decide) dX7_isWind_6 c23 ?_
    refine z_iload_n hX dX7_isWind_9 1 rfl ?_
    refine z_iconst (x := 0) hX dX7_isWind_10 (by decide) ?_
    refine z_iconst (x := 5) hX dX7_isWind_11 (by decide) ?_
    obtain ⟨r25, k24, h⟩ := bind_some h
    refine v_X7_59 hX (c_X7_isWithin X.1 k24) (Nat.le_of_ble_eq_true rfl) (Nat.le_of_ble_eq_true rfl) (Nat.le_of_ble_eq_true rfl) dX7_isWind_12 ?_
    rcases ite_or h with ⟨c26, h⟩ | ⟨c26, h⟩
    · refine z_if_eq_t hX 22 (by decide) dX7_isWind_15 c26 ?_
      refine z_iconst (x := 0) hX dX7_isWind_22 (by decide) ?_
      obtain rfl := ret1 h
      exact z_zret hR rfl dX7_isWind_23
    · refine z_if_eq_f hX 22 (by decide) dX7_isWind_15 c26 ?_
      refine z_iconst (x := 1) hX dX7_isWind_18 (by decide) ?_
      refine z_goto hX 23 (by decide) dX7_isWind_19 ?_
      obtain rfl := ret1 h
      exact z_zret hR rfl dX7_isWind_23
set_option maxRecDepth 20000 in
set_option maxHeartbeats 4000000 in
theorem t_X7_wind_36 {X : CX} {N : Nat} {j0 : Nat} {a1 : Int32} {a2 : Int32} {r : Int32} {σ σ' : HP} (hR : OkX X RX7 cX7_wind 3 4 86 (some .int) (some (.int r)) σ')  (hk_j0 : kd j0 = 7) (h : J_X7_wind_36  N j0 a1 a2 σ = some (r, σ')) : Z X σ 36 [(0, rf X.1 j0), (1, .int a1), (2, .int a2)] [] := by
  have hX := hR.1
  unfold J_X7_wind_36 at h
  refine z_aload_n hX dX7_wind_36 0 rfl ?_
  obtain ⟨σ22, k21, h⟩ := bind_some h
  refine v_X7_75 hX hk_j0 (c_X7_record X.1 hk_j0 k21) (Nat.le_of_ble_eq_true rfl) (Nat.le_of_ble_eq_true rfl) (Nat.le_of_ble_eq_true rfl) dX7_wind_37 ?_
  refine z_aload_n hX dX7_wind_40 0 rfl ?_
  refine g_X7_10 hX hk_j0 dX7_wind_41 ?_
  refine z_iload_n hX dX7_wind_44 1 rfl ?_
  refine z_iload_n hX dX7_wind_45 2 rfl ?_
  obtain ⟨r24, σ25, k23, h⟩ := bind2_some h
  refine v_X7_136 hX (kl_7_0 hk_j0).1 (c_X4_turnWind X.1 (kl_7_0 hk_j0).1 k23) (Nat.le_of_ble_eq_true rfl) (Nat.le_of_ble_eq_true rfl) (Nat.le_of_ble_eq_true rfl) dX7_wind_46 ?_
  obtain ⟨rfl, rfl⟩ := ret2 h
  exact z_iret hR dX7_wind_49
set_option maxRecDepth 20000 in
set_option maxHeartbeats 4000000 in
theorem c_X7_wind (w : WP) {N : Nat} {j0 : Nat} {a1 : Int32} {a2 : Int32} {r : Int32} {σ σ' : HP} (hk_j0 : kd j0 = 7) (h : F_X7_wind N j0 a1 a2 σ = some (r, σ')) : Ct w yX7_wind cX7_wind 3 (some .int) 4 86 [rf w j0, .int a1, .int a2] σ (some (.int r)) σ' := by
  refine z_met w (by decide +kernel) (Nat.le_of_ble_eq_true rfl) (fun X hw hX => ?_)
  subst hw
  have hR : OkX X RX7 cX7_wind 3 4 86 (some .int) (some (.int r)) σ' := hX
  have hX := hR.1
  show Z X σ 0 [(0, rf X.1 j0), (1, .int a1), (2, .int a2)] []
  unfold F_X7_wind at h
  refine z_iload_n hX dX7_wind_0 1 rfl ?_
  refine z_iload_n hX dX7_wind_1 2 rfl ?_
  obtain ⟨r22, k21, h⟩ := bind_some h
  refine v_X7_126 hX (c_X7_isWind X.1 k21) (Nat.le_of_ble_eq_true rfl) (Nat.le_of_ble_eq_true rfl) (Nat.le_of_ble_eq_true rfl) dX7_wind_2 ?_
  rcases ite_or h with ⟨c23, h⟩ | ⟨c23, h⟩
  · refine z_if_ne_f hX 11 (by decide) dX7_wind_5 c23 ?_
    refine z_ldc (x := (-1000002)) hX mc_X7_63 dX7_wind_8 ?_
    obtain ⟨rfl, rfl⟩ := ret2 h
    exact z_iret hR dX7_wind_10
  · refine z_if_ne_t hX 11 (by decide) dX7_wind_5 c23 ?_
    refine z_aload_n hX dX7_wind_11 0 rfl ?_
    refine g_X7_10 hX hk_j0 dX7_wind_12 ?_
    refine g_X7_130 hX (kl_7_0 hk_j0).1 dX7_wind_15 ?_
    refine z_iload_n hX dX7_wind_18 1 rfl ?_
    rcases ite_or h with ⟨c24, h⟩ | ⟨c24, h⟩
    · refine z_icmp_ne_f hX 36 (by decide) dX7_wind_19 c24 ?_
      refine z_aload_n hX dX7_wind_22 0 rfl ?_
      refine g_X7_10 hX hk_j0 dX7_wind_23 ?_
      refine g_X7_133 hX (kl_7_0 hk_j0).1 dX7_wind_26 ?_
      refine z_iload_n hX dX7_wind_29 2 rfl ?_
      rcases ite_or h with ⟨c25, h⟩ | ⟨c25, h⟩
      · refine z_icmp_ne_f hX 36 (by decide) dX7_wind_30 c25 ?_
        refine z_ldc (x := (-1000005)) hX mc_X7_106 dX7_wind_33 ?_
        obtain ⟨rfl, rfl⟩ := ret2 h
        exact z_iret hR dX7_wind_35
      · refine z_icmp_ne_t hX 36 (by decide) dX7_wind_30 c25 ?_
        exact t_X7_wind_36 hR  hk_j0 h
    · refine z_icmp_ne_t hX 36 (by decide) dX7_wind_19 c24 ?_
      exact t_X7_wind_36 hR  hk_j0 h
set_option maxRecDepth 20000 in
set_option maxHeartbeats 4000000 in
theorem c_X7_planTurn (w : WP) {N : Nat} {j0 : Nat} {a1 : Int32} {a2 : Int32} {a3 : Int32} {r : Int32} {σ σ' : HP} (hk_j0 : kd j0 = 7) (h : F_X7_planTurn N j0 a1 a2 a3 σ = some (r, σ')) : Ct w yX7_planTurn cX7_planTurn 4 (some .int) 4 80 [rf w j0, .int a1, .int a2, .int a3] σ (some (.int r)) σ' := by
  refine z_met w (by decide +kernel) (Nat.le_of_ble_eq_true rfl) (fun X hw hX => ?_)
  subst hw
  have hR : OkX X RX7 cX7_planTurn 4 4 80 (some .int) (some (.int r)) σ' := hX
  have hX := hR.1
  show Z X σ 0 [(0, rf X.1 j0), (1, .int a1), (2, .int a2), (3, .int a3)] []
  unfold F_X7_planTurn at h
  refine z_iload_n hX dX7_planTurn_0 1 rfl ?_
  refine z_iconst (x := 1) hX dX7_planTurn_1 (by decide) ?_
  refine z_sipush (x := 9999) hX dX7_planTurn_2 (by decide) ?_
  obtain ⟨r22, k21, h⟩ := bind_some h
  refine v_X7_59 hX (c_X7_isWithin X.1 k21) (Nat.le_of_ble_eq_true rfl) (Nat.le_of_ble_eq_true rfl) (Nat.le_of_ble_eq_true rfl) dX7_planTurn_5 ?_
  rcases ite_or h with ⟨c23, h⟩ | ⟨c23, h⟩
  · refine z_if_eq_t hX 19 (by decide) dX7_planTurn_8 c23 ?_
    refine z_ldc (x := (-1000002)) hX mc_X7_63 dX7_planTurn_19 ?_
    obtain ⟨rfl, rfl⟩ := ret2 h
    exact z_iret hR dX7_planTurn_21
  · refine z_if_eq_f hX 19 (by decide) dX7_planTurn_8 c23 ?_
    refine z_iload_n hX dX7_planTurn_11 2 rfl ?_
    refine z_iload_n hX dX7_planTurn_12 3 rfl ?_
    obtain ⟨r25, k24, h⟩ := bind_some h
    refine v_X7_126 hX (c_X7_isWind X.1 k24) (Nat.le_of_ble_eq_true rfl) (Nat.le_of_ble_eq_true rfl) (Nat.le_of_ble_eq_true rfl) dX7_planTurn_13 ?_
    rcases ite_or h with ⟨c26, h⟩ | ⟨c26, h⟩
    · refine z_if_ne_f hX 22 (by decide) dX7_planTurn_16 c26 ?_
      refine z_ldc (x := (-1000002)) hX mc_X7_63 dX7_planTurn_19 ?_
      obtain ⟨rfl, rfl⟩ := ret2 h
      exact z_iret hR dX7_planTurn_21
    · refine z_if_ne_t hX 22 (by decide) dX7_planTurn_16 c26 ?_
      refine z_iload_n hX dX7_planTurn_22 1 rfl ?_
      refine z_aload_n hX dX7_planTurn_23 0 rfl ?_
      refine g_X7_10 hX hk_j0 dX7_planTurn_24 ?_
      refine g_X7_113 hX (kl_7_0 hk_j0).1 dX7_planTurn_27 ?_
      rcases ite_or h with ⟨c27, h⟩ | ⟨c27, h⟩
      · refine z_icmp_le_t hX 48 (by decide) dX7_planTurn_30 c27 ?_
        refine z_ldc (x := (-1000004)) hX mc_X7_97 dX7_planTurn_48 ?_
        obtain ⟨rfl, rfl⟩ := ret2 h
        exact z_iret hR dX7_planTurn_50
      · refine z_icmp_le_f hX 48 (by decide) dX7_planTurn_30 c27 ?_
        refine z_aload_n hX dX7_planTurn_33 0 rfl ?_
        refine g_X7_10 hX hk_j0 dX7_planTurn_34 ?_
        refine g_X7_140 hX (kl_7_0 hk_j0).1 dX7_planTurn_37 ?_
        refine z_iload_n hX dX7_planTurn_40 1 rfl ?_
        obtain ⟨r29, k28, h⟩ := bind_some h
        refine v_X7_144 hX (kl_4_1 (kl_7_0 hk_j0).1).1 (c_X1_rankOf X.1 (kl_4_1 (kl_7_0 hk_j0).1).1 k28) (Nat.le_of_ble_eq_true rfl) (Nat.le_of_ble_eq_true rfl) (Nat.le_of_ble_eq_true rfl) dX7_planTurn_41 ?_
        refine z_iconst (x := (-1)) hX dX7_planTurn_44 (by decide) ?_
        rcases ite_or h with ⟨c30, h⟩ | ⟨c30, h⟩
        · refine z_icmp_eq_t hX 51 (by decide) dX7_planTurn_45 c30 ?_
          refine z_aload_n hX dX7_planTurn_51 0 rfl ?_
          refine g_X7_10 hX hk_j0 dX7_planTurn_52 ?_
          refine g_X7_140 hX (kl_7_0 hk_j0).1 dX7_planTurn_55 ?_
          refine g_X7_150 hX (kl_4_1 (kl_7_0 hk_j0).1).1 dX7_planTurn_58 ?_
          refine z_bipush (x := 8) hX dX7_planTurn_61 (by decide) ?_
          rcases ite_or h with ⟨c31, h⟩ | ⟨c31, h⟩
          · refine z_icmp_lt_t hX 69 (by decide) dX7_planTurn_63 c31 ?_
            refine z_aload_n hX dX7_planTurn_69 0 rfl ?_
            obtain ⟨σ33, k32, h⟩ := bind_some h
            refine v_X7_75 hX hk_j0 (c_X7_record X.1 hk_j0 k32) (Nat.le_of_ble_eq_true rfl) (Nat.le_of_ble_eq_true rfl) (Nat.le_of_ble_eq_true rfl) dX7_planTurn_70 ?_
            refine z_aload_n hX dX7_planTurn_73 0 rfl ?_
            refine g_X7_10 hX hk_j0 dX7_planTurn_74 ?_
            refine g_X7_140 hX (kl_7_0 hk_j0).1 dX7_planTurn_77 ?_
            refine z_iload_n hX dX7_planTurn_80 1 rfl ?_
            refine z_iload_n hX dX7_planTurn_81 2 rfl ?_
            refine z_iload_n hX dX7_planTurn_82 3 rfl ?_
            obtain ⟨σ35, k34, h⟩ := bind_some h
            refine v_X7_151 hX (kl_4_1 (kl_7_0 hk_j0).1).1 (c_X1_insert X.1 (kl_4_1 (kl_7_0 hk_j0).1).1 k34) (Nat.le_of_ble_eq_true rfl) (Nat.le_of_ble_eq_true rfl) (Nat.le_of_ble_eq_true rfl) dX7_planTurn_83 ?_
            refine z_aload_n hX dX7_planTurn_86 0 rfl ?_
            refine g_X7_10 hX hk_j0 dX7_planTurn_87 ?_
            refine g_X7_140 hX (kl_7_0 hk_j0).1 dX7_planTurn_90 ?_
            refine g_X7_150 hX (kl_4_1 (kl_7_0 hk_j0).1).1 dX7_planTurn_93 ?_
            obtain ⟨rfl, rfl⟩ := ret2 h
            exact z_iret hR dX7_planTurn_96
          · refine z_icmp_lt_f hX 69 (by decide) dX7_planTurn_63 c31 ?_
            refine z_ldc (x := (-1000003)) hX mc_X7_74 dX7_planTurn_66 ?_
            obtain ⟨rfl, rfl⟩ := ret2 h
            exact z_iret hR dX7_planTurn_68
        · refine z_icmp_eq_f hX 51 (by decide) dX7_planTurn_45 c30 ?_
          refine z_ldc (x := (-1000004)) hX mc_X7_97 dX7_planTurn_48 ?_
          obtain ⟨rfl, rfl⟩ := ret2 h
          exact z_iret hR dX7_planTurn_50
set_option maxRecDepth 20000 in
set_option maxHeartbeats 4000000 in
theorem c_X7_dropTurn (w : WP) {N : Nat} {j0 : Nat} {a1 : Int32} {r : Int32} {σ σ' : HP} (hk_j0 : kd j0 = 7) (h : F_X7_dropTurn N j0 a1 σ = some (r, σ')) : Ct w yX7_dropTurn cX7_dropTurn 3 (some .int) 4 80 [rf w j0, .int a1] σ (some (.int r)) σ' := by
  refine z_met w (by decide +kernel) (Nat.le_of_ble_eq_true rfl) (fun X hw hX => ?_)
  subst hw
  have hR : OkX X RX7 cX7_dropTurn 3 4 80 (some .int) (some (.int r)) σ' := hX
  have hX := hR.1
  show Z X σ 0 [(0, rf X.1 j0), (1, .int a1)] []
  unfold F_X7_dropTurn at h
  refine z_aload_n hX dX7_dropTurn_0 0 rfl ?_
  refine g_X7_10 hX hk_j0 dX7_dropTurn_1 ?_
  refine g_X7_140 hX (kl_7_0 hk_j0).1 dX7_dropTurn_4 ?_
  refine z_iload_n hX dX7_dropTurn_7 1 rfl ?_
  obtain ⟨r22, k21, h⟩ := bind_some h
  refine v_X7_144 hX (kl_4_1 (kl_7_0 hk_j0).1).1 (c_X1_rankOf X.1 (kl_4_1 (kl_7_0 hk_j0).1).1 k21) (Nat.le_of_ble_eq_true rfl) (Nat.le_of_ble_eq_true rfl) (Nat.le_of_ble_eq_true rfl) dX7_dropTurn_8 ?_
  refine z_istore_n (lv' := [(2, .int r22), (0, rf X.1 j0), (1, .int a1)]) hX dX7_dropTurn_11 (by decide) rfl ?_
  refine z_iload_n hX dX7_dropTurn_12 0 rfl ?_
  refine z_iconst (x := (-1)) hX dX7_dropTurn_13 (by decide) ?_
  rcases ite_or h with ⟨c23, h⟩ | ⟨c23, h⟩
  · refine z_icmp_ne_f hX 20 (by decide) dX7_dropTurn_14 c23 ?_
    refine z_ldc (x := (-1000001)) hX mc_X7_93 dX7_dropTurn_17 ?_
    obtain ⟨rfl, rfl⟩ := ret2 h
    exact z_iret hR dX7_dropTurn_19
  · refine z_icmp_ne_t hX 20 (by decide) dX7_dropTurn_14 c23 ?_
    refine z_aload_n hX dX7_dropTurn_20 1 rfl ?_
    obtain ⟨σ25, k24, h⟩ := bind_some h
    refine v_X7_75 hX hk_j0 (c_X7_record X.1 hk_j0 k24) (Nat.le_of_ble_eq_true rfl) (Nat.le_of_ble_eq_true rfl) (Nat.le_of_ble_eq_true rfl) dX7_dropTurn_21 ?_
    refine z_aload_n hX dX7_dropTurn_24 1 rfl ?_
    refine g_X7_10 hX hk_j0 dX7_dropTurn_25 ?_
    refine g_X7_140 hX (kl_7_0 hk_j0).1 dX7_dropTurn_28 ?_
    refine z_iload_n hX dX7_dropTurn_31 0 rfl ?_
    obtain ⟨σ27, k26, h⟩ := bind_some h
    refine v_X7_155 hX (kl_4_1 (kl_7_0 hk_j0).1).1 (c_X1_remove X.1 (kl_4_1 (kl_7_0 hk_j0).1).1 k26) (Nat.le_of_ble_eq_true rfl) (Nat.le_of_ble_eq_true rfl) (Nat.le_of_ble_eq_true rfl) dX7_dropTurn_32 ?_
    refine z_aload_n hX dX7_dropTurn_35 1 rfl ?_
    refine g_X7_10 hX hk_j0 dX7_dropTurn_36 ?_
    refine g_X7_140 hX (kl_7_0 hk_j0).1 dX7_dropTurn_39 ?_
    refine g_X7_150 hX (kl_4_1 (kl_7_0 hk_j0).1).1 dX7_dropTurn_42 ?_
    obtain ⟨rfl, rfl⟩ := ret2 h
    exact z_iret hR dX7_dropTurn_45
set_option maxRecDepth 20000 in
set_option maxHeartbeats 4000000 in
theorem c_X7_readableKites (w : WP) {N : Nat} {j0 : Nat} {r : Int32} {σ σ' : HP} (hk_j0 : kd j0 = 7) (h : F_X7_readableKites N j0 σ = some (r, σ')) : Ct w yX7_readableKites cX7_readableKites 1 (some .int) 3 71 [rf w j0] σ (some (.int r)) σ' := by
  refine z_met w (by decide +kernel) (Nat.le_of_ble_eq_true rfl) (fun X hw hX => ?_)
  subst hw
  have hR : OkX X RX7 cX7_readableKites 1 3 71 (some .int) (some (.int r)) σ' := hX
  have hX := hR.1
  show Z X σ 0 [(0, rf X.1 j0)] []
  unfold F_X7_readableKites at h
  refine z_aload_n hX dX7_readableKites_0 0 rfl ?_
  refine g_X7_33 hX hk_j0 dX7_readableKites_1 ?_
  refine z_aload_n hX dX7_readableKites_4 0 rfl ?_
  refine g_X7_10 hX hk_j0 dX7_readableKites_5 ?_
  obtain ⟨σ22, k21, h⟩ := bind_some h
  refine v_X7_211 hX (kl_7_5 hk_j0).1 (c_X2_look X.1 (kl_7_5 hk_j0).1 (kl_7_0 hk_j0).1 k21) (Nat.le_of_ble_eq_true rfl) (Nat.le_of_ble_eq_true rfl) (Nat.le_of_ble_eq_true rfl) dX7_readableKites_8 ?_
  refine z_aload_n hX dX7_readableKites_11 0 rfl ?_
  refine g_X7_33 hX hk_j0 dX7_readableKites_12 ?_
  refine g_X7_214 hX (kl_7_5 hk_j0).1 dX7_readableKites_15 ?_
  obtain ⟨rfl, rfl⟩ := ret2 h
  exact z_iret hR dX7_readableKites_18
set_option maxRecDepth 20000 in
set_option maxHeartbeats 4000000 in
theorem c_X7_crowd (w : WP) {N : Nat} {j0 : Nat} {a1 : Int32} {r : Int32} {σ σ' : HP} (hk_j0 : kd j0 = 7) (h : F_X7_crowd N j0 a1 σ = some (r, σ')) : Ct w yX7_crowd cX7_crowd 2 (some .int) 4 91 [rf w j0, .int a1] σ (some (.int r)) σ' := by
  refine z_met w (by decide +kernel) (Nat.le_of_ble_eq_true rfl) (fun X hw hX => ?_)
  subst hw
  have hR : OkX X RX7 cX7_crowd 2 4 91 (some .int) (some (.int r)) σ' := hX
  have hX := hR.1
  show Z X σ 0 [(0, rf X.1 j0), (1, .int a1)] []
  unfold F_X7_crowd at h
  refine z_aload_n hX dX7_crowd_0 0 rfl ?_
  refine g_X7_10 hX hk_j0 dX7_crowd_1 ?_
  refine g_X7_156 hX (kl_7_0 hk_j0).1 dX7_crowd_4 ?_
  refine z_iload_n hX dX7_crowd_7 1 rfl ?_
  rcases ite_or h with ⟨c21, h⟩ | ⟨c21, h⟩
  · refine z_icmp_ne_f hX 14 (by decide) dX7_crowd_8 c21 ?_
    refine z_ldc (x := (-1000005)) hX mc_X7_106 dX7_crowd_11 ?_
    obtain ⟨rfl, rfl⟩ := ret2 h
    exact z_iret hR dX7_crowd_13
  · refine z_icmp_ne_t hX 14 (by decide) dX7_crowd_8 c21 ?_
    refine z_aload_n hX dX7_crowd_14 0 rfl ?_
    obtain ⟨σ23, k22, h⟩ := bind_some h
    refine v_X7_75 hX hk_j0 (c_X7_record X.1 hk_j0 k22) (Nat.le_of_ble_eq_true rfl) (Nat.le_of_ble_eq_true rfl) (Nat.le_of_ble_eq_true rfl) dX7_crowd_15 ?_
    refine z_aload_n hX dX7_crowd_18 0 rfl ?_
    refine g_X7_10 hX hk_j0 dX7_crowd_19 ?_
    refine z_iload_n hX dX7_crowd_22 1 rfl ?_
    obtain ⟨g24, h⟩ := gd_some h
    obtain ⟨σ25, eσ25, h⟩ := bd_some h
    refine p_X7_156 hX (kl_7_0 hk_j0).1 g24 dX7_crowd_23 ?_
    refine z_ms eσ25 ?_
    refine z_aload_n hX dX7_crowd_26 0 rfl ?_
    obtain ⟨r27, σ28, k26, h⟩ := bind2_some h
    refine v_X7_159 hX hk_j0 (c_X7_readableKites X.1 hk_j0 k26) (Nat.le_of_ble_eq_true rfl) (Nat.le_of_ble_eq_true rfl) (Nat.le_of_ble_eq_true rfl) dX7_crowd_27 ?_
    obtain ⟨rfl, rfl⟩ := ret2 h
    exact z_iret hR dX7_crowd_30
set_option maxRecDepth 20000 in
set_option maxHeartbeats 4000000 in
theorem c_X7_setTangle (w : WP) {N : Nat} {j0 : Nat} {a1 : Int32} {r : Int32} {σ σ' : HP} (hk_j0 : kd j0 = 7) (h : F_X7_setTangle N j0 a1 σ = some (r, σ')) : Ct w yX7_setTangle cX7_setTangle 3 (some .int) 4 80 [rf w j0, .int a1] σ (some (.int r)) σ' := by
  refine z_met w (by decide +kernel) (Nat.le_of_ble_eq_true rfl) (fun X hw hX => ?_)
  subst hw
  have hR : OkX X RX7 cX7_setTangle 3 4 80 (some .int) (some (.int r)) σ' := hX
  have hX := hR.1
  show Z X σ 0 [(0, rf X.1 j0), (1, .int a1)] []
  unfold F_X7_setTangle at h
  refine z_iload_n hX dX7_setTangle_0 1 rfl ?_
  refine z_iconst (x := 1) hX dX7_setTangle_1 (by decide) ?_
  refine z_bipush (x := 9) hX dX7_setTangle_2 (by decide) ?_
  obtain ⟨r22, k21, h⟩ := bind_some h
  refine v_X7_59 hX (c_X7_isWithin X.1 k21) (Nat.le_of_ble_eq_true rfl) (Nat.le_of_ble_eq_true rfl) (Nat.le_of_ble_eq_true rfl) dX7_setTangle_4 ?_
  rcases ite_or h with ⟨c23, h⟩ | ⟨c23, h⟩
  · refine z_if_ne_f hX 13 (by decide) dX7_setTangle_7 c23 ?_
    refine z_ldc (x := (-1000002)) hX mc_X7_63 dX7_setTangle_10 ?_
    obtain ⟨rfl, rfl⟩ := ret2 h
    exact z_iret hR dX7_setTangle_12
  · refine z_if_ne_t hX 13 (by decide) dX7_setTangle_7 c23 ?_
    refine z_aload_n hX dX7_setTangle_13 0 rfl ?_
    refine g_X7_10 hX hk_j0 dX7_setTangle_14 ?_
    refine g_X7_162 hX (kl_7_0 hk_j0).1 dX7_setTangle_17 ?_
    obtain ⟨x24, ex24, h⟩ := bd_some h
    refine z_top ex24 ?_
    refine z_istore_n (lv' := [(2, .int x24), (0, rf X.1 j0), (1, .int a1)]) hX dX7_setTangle_20 (by decide) rfl ?_
    refine z_iload_n hX dX7_setTangle_21 0 rfl ?_
    refine z_iload_n hX dX7_setTangle_22 2 rfl ?_
    rcases ite_or h with ⟨c25, h⟩ | ⟨c25, h⟩
    · refine z_icmp_ne_f hX 29 (by decide) dX7_setTangle_23 c25 ?_
      refine z_ldc (x := (-1000005)) hX mc_X7_106 dX7_setTangle_26 ?_
      obtain ⟨rfl, rfl⟩ := ret2 h
      exact z_iret hR dX7_setTangle_28
    · refine z_icmp_ne_t hX 29 (by decide) dX7_setTangle_23 c25 ?_
      refine z_aload_n hX dX7_setTangle_29 1 rfl ?_
      obtain ⟨σ27, k26, h⟩ := bind_some h
      refine v_X7_75 hX hk_j0 (c_X7_record X.1 hk_j0 k26) (Nat.le_of_ble_eq_true rfl) (Nat.le_of_ble_eq_true rfl) (Nat.le_of_ble_eq_true rfl) dX7_setTangle_30 ?_
      refine z_aload_n hX dX7_setTangle_33 1 rfl ?_
      refine g_X7_10 hX hk_j0 dX7_setTangle_34 ?_
      refine z_iload_n hX dX7_setTangle_37 2 rfl ?_
      obtain ⟨σ28, eσ28, h⟩ := bd_some h
      refine p_X7_162 hX (kl_7_0 hk_j0).1 dX7_setTangle_38 ?_
      refine z_ms eσ28 ?_
      refine z_iload_n hX dX7_setTangle_41 0 rfl ?_
      obtain ⟨rfl, rfl⟩ := ret2 h
      exact z_iret hR dX7_setTangle_42
set_option maxRecDepth 20000 in
set_option maxHeartbeats 4000000 in
theorem t_X7_wordFault_2 {X : CX} {N : Nat} {r : Int32} {σ : HP} (hR : OkX X RX7 cX7_wordFault 2 1 20 (some .int) (some (.int r)) σ)  : ∀ (n : Nat) (j0 : Nat) (a1 : Int32), kd j0 = 7 → L_X7_wordFault_2  N σ n j0 a1 = some r → Z X σ 2 [(0, rf X.1 j0), (1, .int a1)] [] := by
  have hX := hR.1
  intro n
  induction n with
  | zero =>
    intro j0 a1 hk_j0 h
    rw [L_X7_wordFault_2] at h
    cases h
  | succ n ih =>
    intro j0 a1 hk_j0 h
    rw [L_X7_wordFault_2] at h
    refine z_iload_n hX dX7_wordFault_2 1 rfl ?_
    refine z_aload_n hX dX7_wordFault_3 0 rfl ?_
    refine g_X7_52 hX hk_j0 dX7_wordFault_4 ?_
    rcases ite_or h with ⟨c21, h⟩ | ⟨c21, h⟩
    · refine z_icmp_ge_t hX 36 (by decide) dX7_wordFault_7 c21 ?_
      refine z_aload_n hX dX7_wordFault_36 0 rfl ?_
      refine g_X7_52 hX hk_j0 dX7_wordFault_37 ?_
      rcases ite_or h with ⟨c22, h⟩ | ⟨c22, h⟩
      · refine z_if_le_t hX 47 (by decide) dX7_wordFault_40 c22 ?_
        refine z_iconst (x := 0) hX dX7_wordFault_47 (by decide) ?_
        obtain rfl := ret1 h
        exact z_iret hR dX7_wordFault_48
      · refine z_if_le_f hX 47 (by decide) dX7_wordFault_40 c22 ?_
        refine z_iconst (x := (-1)) hX dX7_wordFault_43 (by decide) ?_
        refine z_goto hX 48 (by decide) dX7_wordFault_44 ?_
        obtain rfl := ret1 h
        exact z_iret hR dX7_wordFault_48
    · refine z_icmp_ge_f hX 36 (by decide) dX7_wordFault_7 c21 ?_
      refine z_iload_n hX dX7_wordFault_10 1 rfl ?_
      refine z_bipush (x := 12) hX dX7_wordFault_11 (by decide) ?_
      rcases ite_or h with ⟨c23, h⟩ | ⟨c23, h⟩
      · refine z_icmp_ge_t hX 28 (by decide) dX7_wordFault_13 c23 ?_
        refine z_iload_n hX dX7_wordFault_28 1 rfl ?_
        obtain rfl := ret1 h
        exact z_iret hR dX7_wordFault_29
      · refine z_icmp_ge_f hX 28 (by decide) dX7_wordFault_13 c23 ?_
        refine z_aload_n hX dX7_wordFault_16 0 rfl ?_
        refine g_X7_26 hX hk_j0 dX7_wordFault_17 ?_
        refine z_iload_n hX dX7_wordFault_20 1 rfl ?_
        obtain ⟨g24, h⟩ := gd_some h
        refine z_cald hX (kl_7_4 hk_j0).1 (kl_7_4 hk_j0).2 g24 dX7_wordFault_21 ?_
        obtain ⟨r26, k25, h⟩ := bind_some h
        refine v_X7_55 hX (c_X7_isLetter X.1 k25) (Nat.le_of_ble_eq_true rfl) (Nat.le_of_ble_eq_true rfl) (Nat.le_of_ble_eq_true rfl) dX7_wordFault_22 ?_
        rcases ite_or h with ⟨c27, h⟩ | ⟨c27, h⟩
        · refine z_if_ne_f hX 30 (by decide) dX7_wordFault_25 c27 ?_
          refine z_iload_n hX dX7_wordFault_28 1 rfl ?_
          obtain rfl := ret1 h
          exact z_iret hR dX7_wordFault_29
        · refine z_if_ne_t hX 30 (by decide) dX7_wordFault_25 c27 ?_
          refine z_iinc (y := (a1 + 1)) (lv' := [(1, .int (a1 + 1)), (0, rf X.1 j0)]) hX dX7_wordFault_30 1 rfl rfl (by decide) rfl ?_
          refine z_goto hX 2 (by decide) dX7_wordFault_33 ?_
          refine z_sub (lv' := [(0, rf X.1 j0), (1, .int (a1 + 1))]) [1, 0] rfl ?_
          exact ih j0 (a1 + 1) hk_j0 h
set_option maxRecDepth 20000 in
set_option maxHeartbeats 4000000 in
theorem c_X7_wordFault (w : WP) {N : Nat} {j0 : Nat} {r : Int32} {σ : HP} (hk_j0 : kd j0 = 7) (h : F_X7_wordFault N j0 σ = some r) : Ct w yX7_wordFault cX7_wordFault 2 (some .int) 1 20 [rf w j0] σ (some (.int r)) σ := by
  refine z_met w (by decide +kernel) (Nat.le_of_ble_eq_true rfl) (fun X hw hX => ?_)
  subst hw
  have hR : OkX X RX7 cX7_wordFault 2 1 20 (some .int) (some (.int r)) σ := hX
  have hX := hR.1
  show Z X σ 0 [(0, rf X.1 j0)] []
  unfold F_X7_wordFault at h
  refine z_iconst (x := 0) hX dX7_wordFault_0 (by decide) ?_
  refine z_istore_n (lv' := [(1, .int 0), (0, rf X.1 j0)]) hX dX7_wordFault_1 (by decide) rfl ?_
  refine z_sub (lv' := [(0, rf X.1 j0), (1, .int 0)]) [1, 0] rfl ?_
  exact t_X7_wordFault_2 hR  N j0 0 hk_j0 h
set_option maxRecDepth 20000 in
set_option maxHeartbeats 4000000 in
theorem c_X7_want (w : WP) {N : Nat} {j0 : Nat} {r : Int32} {σ σ' : HP} (hk_j0 : kd j0 = 7) (h : F_X7_want N j0 σ = some (r, σ')) : Ct w yX7_want cX7_want 2 (some .int) 4 80 [rf w j0] σ (some (.int r)) σ' := by
  refine z_met w (by decide +kernel) (Nat.le_of_ble_eq_true rfl) (fun X hw hX => ?_)
  subst hw
  have hR : OkX X RX7 cX7_want 2 4 80 (some .int) (some (.int r)) σ' := hX
  have hX := hR.1
  show Z X σ 0 [(0, rf X.1 j0)] []
  unfold F_X7_want at h
  refine z_aload_n hX dX7_want_0 0 rfl ?_
  obtain ⟨r22, k21, h⟩ := bind_some h
  refine v_X7_165 hX hk_j0 (c_X7_wordFault X.1 hk_j0 k21) (Nat.le_of_ble_eq_true rfl) (Nat.le_of_ble_eq_true rfl) (Nat.le_of_ble_eq_true rfl) dX7_want_1 ?_
  refine z_istore_n (lv' := [(1, .int r22), (0, rf X.1 j0)]) hX dX7_want_4 (by decide) rfl ?_
  refine z_iload_n hX dX7_want_5 0 rfl ?_
  refine z_iconst (x := (-1)) hX dX7_want_6 (by decide) ?_
  rcases ite_or h with ⟨c23, h⟩ | ⟨c23, h⟩
  · refine z_icmp_eq_t hX 15 (by decide) dX7_want_7 c23 ?_
    refine z_aload_n hX dX7_want_15 1 rfl ?_
    refine g_X7_10 hX hk_j0 dX7_want_16 ?_
    refine g_X7_168 hX (kl_7_0 hk_j0).1 dX7_want_19 ?_
    refine z_aload_n hX dX7_want_22 1 rfl ?_
    refine g_X7_26 hX hk_j0 dX7_want_23 ?_
    refine z_aload_n hX dX7_want_26 1 rfl ?_
    refine g_X7_52 hX hk_j0 dX7_want_27 ?_
    obtain ⟨r25, k24, h⟩ := bind_some h
    refine v_X7_172 hX (kl_4_3 (kl_7_0 hk_j0).1).1 (c_X6_isSame X.1 (kl_4_3 (kl_7_0 hk_j0).1).1 (kl_7_4 hk_j0).1 (kl_7_4 hk_j0).2 k24) (Nat.le_of_ble_eq_true rfl) (Nat.le_of_ble_eq_true rfl) (Nat.le_of_ble_eq_true rfl) dX7_want_30 ?_
    rcases ite_or h with ⟨c26, h⟩ | ⟨c26, h⟩
    · refine z_if_eq_t hX 39 (by decide) dX7_want_33 c26 ?_
      refine z_aload_n hX dX7_want_39 1 rfl ?_
      obtain ⟨σ28, k27, h⟩ := bind_some h
      refine v_X7_75 hX hk_j0 (c_X7_record X.1 hk_j0 k27) (Nat.le_of_ble_eq_true rfl) (Nat.le_of_ble_eq_true rfl) (Nat.le_of_ble_eq_true rfl) dX7_want_40 ?_
      refine z_aload_n hX dX7_want_43 1 rfl ?_
      refine g_X7_10 hX hk_j0 dX7_want_44 ?_
      refine g_X7_168 hX (kl_7_0 hk_j0).1 dX7_want_47 ?_
      refine z_aload_n hX dX7_want_50 1 rfl ?_
      refine g_X7_26 hX hk_j0 dX7_want_51 ?_
      refine z_aload_n hX dX7_want_54 1 rfl ?_
      refine g_X7_52 hX hk_j0 dX7_want_55 ?_
      obtain ⟨σ30, k29, h⟩ := bind_some h
      refine v_X7_178 hX (kl_4_3 (kl_7_0 hk_j0).1).1 (c_X6_become X.1 (kl_4_3 (kl_7_0 hk_j0).1).1 (kl_7_4 hk_j0).1 (kl_7_4 hk_j0).2 k29) (Nat.le_of_ble_eq_true rfl) (Nat.le_of_ble_eq_true rfl) (Nat.le_of_ble_eq_true rfl) dX7_want_58 ?_
      refine z_aload_n hX dX7_want_61 1 rfl ?_
      refine g_X7_10 hX hk_j0 dX7_want_62 ?_
      refine g_X7_168 hX (kl_7_0 hk_j0).1 dX7_want_65 ?_
      refine g_X7_182 hX (kl_4_3 (kl_7_0 hk_j0).1).1 dX7_want_68 ?_
      obtain ⟨rfl, rfl⟩ := ret2 h
      exact z_iret hR dX7_want_71
    · refine z_if_eq_f hX 39 (by decide) dX7_want_33 c26 ?_
      refine z_ldc (x := (-1000005)) hX mc_X7_106 dX7_want_36 ?_
      obtain ⟨rfl, rfl⟩ := ret2 h
      exact z_iret hR dX7_want_38
  · refine z_icmp_eq_f hX 15 (by decide) dX7_want_7 c23 ?_
    refine z_ldc (x := (-1000100)) hX mc_X7_89 dX7_want_10 ?_
    refine z_iload_n hX dX7_want_12 0 rfl ?_
    refine z_isub hX dX7_want_13 ?_
    obtain ⟨rfl, rfl⟩ := ret2 h
    exact z_iret hR dX7_want_14
set_option maxRecDepth 20000 in
set_option maxHeartbeats 4000000 in
theorem c_X7_type (w : WP) {N : Nat} {j0 : Nat} {a1 : Int32} {r : Int32} {σ σ' : HP} (hk_j0 : kd j0 = 7) (h : F_X7_type N j0 a1 σ = some (r, σ')) : Ct w yX7_type cX7_type 2 (some .int) 0 0 [rf w j0, .int a1] σ (some (.int r)) σ' := by
  refine z_met w (by decide +kernel) (Nat.le_of_ble_eq_true rfl) (fun X hw hX => ?_)
  subst hw
  have hR : OkX X RX7 cX7_type 2 0 0 (some .int) (some (.int r)) σ' := hX
  have hX := hR.1
  show Z X σ 0 [(0, rf X.1 j0), (1, .int a1)] []
  unfold F_X7_type at h
  refine z_aload_n hX dX7_type_0 0 rfl ?_
  refine g_X7_52 hX hk_j0 dX7_type_1 ?_
  refine z_bipush (x := 60) hX dX7_type_4 (by decide) ?_
  rcases ite_or h with ⟨c21, h⟩ | ⟨c21, h⟩
  · refine z_icmp_lt_t hX 12 (by decide) dX7_type_6 c21 ?_
    refine z_aload_n hX dX7_type_12 0 rfl ?_
    refine g_X7_26 hX hk_j0 dX7_type_13 ?_
    refine z_aload_n hX dX7_type_16 0 rfl ?_
    refine g_X7_52 hX hk_j0 dX7_type_17 ?_
    refine z_iload_n hX dX7_type_20 1 rfl ?_
    obtain ⟨g22, h⟩ := gd_some h
    obtain ⟨σ23, eσ23, h⟩ := bd_some h
    refine z_cast hX (kl_7_4 hk_j0).1 (kl_7_4 hk_j0).2 g22 dX7_type_21 ?_
    refine z_ms eσ23 ?_
    refine z_aload_n hX dX7_type_22 0 rfl ?_
    refine z_dup hX rfl dX7_type_23 ?_
    refine g_X7_52 hX hk_j0 dX7_type_24 ?_
    refine z_iconst (x := 1) hX dX7_type_27 (by decide) ?_
    refine z_iadd hX dX7_type_28 ?_
    obtain ⟨σ24, eσ24, h⟩ := bd_some h
    refine p_X7_52 hX hk_j0 dX7_type_29 ?_
    refine z_ms eσ24 ?_
    refine z_aload_n hX dX7_type_32 0 rfl ?_
    refine g_X7_52 hX hk_j0 dX7_type_33 ?_
    obtain ⟨rfl, rfl⟩ := ret2 h
    exact z_iret hR dX7_type_36
  · refine z_icmp_lt_f hX 12 (by decide) dX7_type_6 c21 ?_
    refine z_ldc (x := (-1000003)) hX mc_X7_74 dX7_type_9 ?_
    obtain ⟨rfl, rfl⟩ := ret2 h
    exact z_iret hR dX7_type_11
set_option maxRecDepth 20000 in
set_option maxHeartbeats 4000000 in
theorem c_X7_clearText (w : WP) {N : Nat} {j0 : Nat} {r : Int32} {σ σ' : HP} (hk_j0 : kd j0 = 7) (h : F_X7_clearText N j0 σ = some (r, σ')) : Ct w yX7_clearText cX7_clearText 2 (some .int) 0 0 [rf w j0] σ (some (.int r)) σ' := by
  refine z_met w (by decide +kernel) (Nat.le_of_ble_eq_true rfl) (fun X hw hX => ?_)
  subst hw
  have hR : OkX X RX7 cX7_clearText 2 0 0 (some .int) (some (.int r)) σ' := hX
  have hX := hR.1
  show Z X σ 0 [(0, rf X.1 j0)] []
  unfold F_X7_clearText at h
  refine z_aload_n hX dX7_clearText_0 0 rfl ?_
  refine g_X7_52 hX hk_j0 dX7_clearText_1 ?_
  obtain ⟨x21, ex21, h⟩ := bd_some h
  refine z_top ex21 ?_
  refine z_istore_n (lv' := [(1, .int x21), (0, rf X.1 j0)]) hX dX7_clearText_4 (by decide) rfl ?_
  refine z_aload_n hX dX7_clearText_5 1 rfl ?_
  refine z_iconst (x := 0) hX dX7_clearText_6 (by decide) ?_
  obtain ⟨σ22, eσ22, h⟩ := bd_some h
  refine p_X7_52 hX hk_j0 dX7_clearText_7 ?_
  refine z_ms eσ22 ?_
  refine z_iload_n hX dX7_clearText_10 0 rfl ?_
  obtain ⟨rfl, rfl⟩ := ret2 h
  exact z_iret hR dX7_clearText_11
set_option maxRecDepth 20000 in
set_option maxHeartbeats 4000000 in
theorem c_X7_undo (w : WP) {N : Nat} {j0 : Nat} {r : Int32} {σ σ' : HP} (hk_j0 : kd j0 = 7) (h : F_X7_undo N j0 σ = some (r, σ')) : Ct w yX7_undo cX7_undo 1 (some .int) 3 60 [rf w j0] σ (some (.int r)) σ' := by
  refine z_met w (by decide +kernel) (Nat.le_of_ble_eq_true rfl) (fun X hw hX => ?_)
  subst hw
  have hR : OkX X RX7 cX7_undo 1 3 60 (some .int) (some (.int r)) σ' := hX
  have hX := hR.1
  show Z X σ 0 [(0, rf X.1 j0)] []
  unfold F_X7_undo at h
  refine z_aload_n hX dX7_undo_0 0 rfl ?_
  refine g_X7_48 hX hk_j0 dX7_undo_1 ?_
  rcases ite_or h with ⟨c21, h⟩ | ⟨c21, h⟩
  · refine z_if_gt_t hX 10 (by decide) dX7_undo_4 c21 ?_
    refine z_aload_n hX dX7_undo_10 0 rfl ?_
    refine z_dup hX rfl dX7_undo_11 ?_
    refine g_X7_48 hX hk_j0 dX7_undo_12 ?_
    refine z_iconst (x := 1) hX dX7_undo_15 (by decide) ?_
    refine z_isub hX dX7_undo_16 ?_
    obtain ⟨σ22, eσ22, h⟩ := bd_some h
    refine p_X7_48 hX hk_j0 dX7_undo_17 ?_
    refine z_ms eσ22 ?_
    refine z_aload_n hX dX7_undo_20 0 rfl ?_
    refine g_X7_10 hX hk_j0 dX7_undo_21 ?_
    refine z_aload_n hX dX7_undo_24 0 rfl ?_
    refine g_X7_22 hX hk_j0 dX7_undo_25 ?_
    refine z_aload_n hX dX7_undo_28 0 rfl ?_
    refine g_X7_48 hX hk_j0 dX7_undo_29 ?_
    obtain ⟨g23, h⟩ := gd_some h
    refine z_aald hX (kl_7_3 hk_j0).1 (kl_7_3 hk_j0).2 g23 dX7_undo_32 ?_
    obtain ⟨g24, h⟩ := gd_some h
    obtain ⟨q25, eq25, h⟩ := bd_some h
    refine z_topr eq25 ?_
    have kq25 : kd q25 = 4 := eq25 ▸ g24
    obtain ⟨σ27, k26, h⟩ := bind_some h
    refine v_X7_183 hX (kl_7_0 hk_j0).1 (c_X4_copyFrom X.1 (kl_7_0 hk_j0).1 kq25 k26) (Nat.le_of_ble_eq_true rfl) (Nat.le_of_ble_eq_true rfl) (Nat.le_of_ble_eq_true rfl) dX7_undo_33 ?_
    refine z_aload_n hX dX7_undo_36 0 rfl ?_
    refine g_X7_48 hX hk_j0 dX7_undo_37 ?_
    obtain ⟨rfl, rfl⟩ := ret2 h
    exact z_iret hR dX7_undo_40
  · refine z_if_gt_f hX 10 (by decide) dX7_undo_4 c21 ?_
    refine z_ldc (x := (-1000005)) hX mc_X7_106 dX7_undo_7 ?_
    obtain ⟨rfl, rfl⟩ := ret2 h
    exact z_iret hR dX7_undo_9
set_option maxRecDepth 20000 in
set_option maxHeartbeats 4000000 in
theorem c_X7_keep (w : WP) {N : Nat} {j0 : Nat} {r : Int32} {σ σ' : HP} (hk_j0 : kd j0 = 7) (h : F_X7_keep N j0 σ = some (r, σ')) : Ct w yX7_keep cX7_keep 1 (some .int) 3 60 [rf w j0] σ (some (.int r)) σ' := by
  refine z_met w (by decide +kernel) (Nat.le_of_ble_eq_true rfl) (fun X hw hX => ?_)
  subst hw
  have hR : OkX X RX7 cX7_keep 1 3 60 (some .int) (some (.int r)) σ' := hX
  have hX := hR.1
  show Z X σ 0 [(0, rf X.1 j0)] []
  unfold F_X7_keep at h
  refine z_aload_n hX dX7_keep_0 0 rfl ?_
  refine g_X7_19 hX hk_j0 dX7_keep_1 ?_
  refine z_aload_n hX dX7_keep_4 0 rfl ?_
  refine g_X7_10 hX hk_j0 dX7_keep_5 ?_
  obtain ⟨σ22, k21, h⟩ := bind_some h
  refine v_X7_183 hX (kl_7_2 hk_j0).1 (c_X4_copyFrom X.1 (kl_7_2 hk_j0).1 (kl_7_0 hk_j0).1 k21) (Nat.le_of_ble_eq_true rfl) (Nat.le_of_ble_eq_true rfl) (Nat.le_of_ble_eq_true rfl) dX7_keep_8 ?_
  refine z_aload_n hX dX7_keep_11 0 rfl ?_
  refine z_iconst (x := 1) hX dX7_keep_12 (by decide) ?_
  obtain ⟨σ23, eσ23, h⟩ := bd_some h
  refine p_X7_44 hX hk_j0 (Or.inr rfl) dX7_keep_13 ?_
  refine z_ms eσ23 ?_
  refine z_aload_n hX dX7_keep_16 0 rfl ?_
  refine g_X7_10 hX hk_j0 dX7_keep_17 ?_
  refine g_X7_113 hX (kl_7_0 hk_j0).1 dX7_keep_20 ?_
  obtain ⟨rfl, rfl⟩ := ret2 h
  exact z_iret hR dX7_keep_23
set_option maxRecDepth 20000 in
set_option maxHeartbeats 4000000 in
theorem c_X7_restore (w : WP) {N : Nat} {j0 : Nat} {r : Int32} {σ σ' : HP} (hk_j0 : kd j0 = 7) (h : F_X7_restore N j0 σ = some (r, σ')) : Ct w yX7_restore cX7_restore 1 (some .int) 4 80 [rf w j0] σ (some (.int r)) σ' := by
  refine z_met w (by decide +kernel) (Nat.le_of_ble_eq_true rfl) (fun X hw hX => ?_)
  subst hw
  have hR : OkX X RX7 cX7_restore 1 4 80 (some .int) (some (.int r)) σ' := hX
  have hX := hR.1
  show Z X σ 0 [(0, rf X.1 j0)] []
  unfold F_X7_restore at h
  refine z_aload_n hX dX7_restore_0 0 rfl ?_
  refine g_X7_44 hX hk_j0 dX7_restore_1 ?_
  rcases ite_or h with ⟨c21, h⟩ | ⟨c21, h⟩
  · refine z_if_ne_f hX 10 (by decide) dX7_restore_4 c21 ?_
    refine z_ldc (x := (-1000005)) hX mc_X7_106 dX7_restore_7 ?_
    obtain ⟨rfl, rfl⟩ := ret2 h
    exact z_iret hR dX7_restore_9
  · refine z_if_ne_t hX 10 (by decide) dX7_restore_4 c21 ?_
    refine z_aload_n hX dX7_restore_10 0 rfl ?_
    obtain ⟨σ23, k22, h⟩ := bind_some h
    refine v_X7_75 hX hk_j0 (c_X7_record X.1 hk_j0 k22) (Nat.le_of_ble_eq_true rfl) (Nat.le_of_ble_eq_true rfl) (Nat.le_of_ble_eq_true rfl) dX7_restore_11 ?_
    refine z_aload_n hX dX7_restore_14 0 rfl ?_
    refine g_X7_10 hX hk_j0 dX7_restore_15 ?_
    refine z_aload_n hX dX7_restore_18 0 rfl ?_
    refine g_X7_19 hX hk_j0 dX7_restore_19 ?_
    obtain ⟨σ25, k24, h⟩ := bind_some h
    refine v_X7_183 hX (kl_7_0 hk_j0).1 (c_X4_copyFrom X.1 (kl_7_0 hk_j0).1 (kl_7_2 hk_j0).1 k24) (Nat.le_of_ble_eq_true rfl) (Nat.le_of_ble_eq_true rfl) (Nat.le_of_ble_eq_true rfl) dX7_restore_22 ?_
    refine z_aload_n hX dX7_restore_25 0 rfl ?_
    refine g_X7_10 hX hk_j0 dX7_restore_26 ?_
    refine g_X7_113 hX (kl_7_0 hk_j0).1 dX7_restore_29 ?_
    obtain ⟨rfl, rfl⟩ := ret2 h
    exact z_iret hR dX7_restore_32
set_option maxRecDepth 20000 in
set_option maxHeartbeats 4000000 in
theorem c_X7_flier (w : WP) {N : Nat} {j0 : Nat} {a1 : Int32} {a2 : Int32} {r : Int32} {σ : HP} (hk_j0 : kd j0 = 7) (h : F_X7_flier N j0 a1 a2 σ = some r) : Ct w yX7_flier cX7_flier 3 (some .int) 2 46 [rf w j0, .int a1, .int a2] σ (some (.int r)) σ := by
  refine z_met w (by decide +kernel) (Nat.le_of_ble_eq_true rfl) (fun X hw hX => ?_)
  subst hw
  have hR : OkX X RX7 cX7_flier 3 2 46 (some .int) (some (.int r)) σ := hX
  have hX := hR.1
  show Z X σ 0 [(0, rf X.1 j0), (1, .int a1), (2, .int a2)] []
  unfold F_X7_flier at h
  refine z_aload_n hX dX7_flier_0 0 rfl ?_
  refine g_X7_10 hX hk_j0 dX7_flier_1 ?_
  refine g_X7_64 hX (kl_7_0 hk_j0).1 dX7_flier_4 ?_
  refine z_iload_n hX dX7_flier_7 1 rfl ?_
  obtain ⟨r22, k21, h⟩ := bind_some h
  refine v_X7_90 hX (kl_4_0 (kl_7_0 hk_j0).1).1 (c_X3_hasPlace X.1 (kl_4_0 (kl_7_0 hk_j0).1).1 k21) (Nat.le_of_ble_eq_true rfl) (Nat.le_of_ble_eq_true rfl) (Nat.le_of_ble_eq_true rfl) dX7_flier_8 ?_
  rcases ite_or h with ⟨c23, h⟩ | ⟨c23, h⟩
  · refine z_if_ne_f hX 17 (by decide) dX7_flier_11 c23 ?_
    refine z_ldc (x := (-1000001)) hX mc_X7_93 dX7_flier_14 ?_
    obtain rfl := ret1 h
    exact z_iret hR dX7_flier_16
  · refine z_if_ne_t hX 17 (by decide) dX7_flier_11 c23 ?_
    refine z_iload_n hX dX7_flier_17 2 rfl ?_
    rcases ite_or h with ⟨c24, h⟩ | ⟨c24, h⟩
    · refine z_tabIn hX 64 (by rw [c24]; decide) (by rw [c24]; decide) (by rw [c24]; rfl) (by decide) dX7_flier_18 ?_
      refine z_aload_n hX dX7_flier_64 0 rfl ?_
      refine g_X7_10 hX hk_j0 dX7_flier_65 ?_
      refine g_X7_64 hX (kl_7_0 hk_j0).1 dX7_flier_68 ?_
      refine g_X7_187 hX (kl_4_0 (kl_7_0 hk_j0).1).1 dX7_flier_71 ?_
      refine z_iload_n hX dX7_flier_74 1 rfl ?_
      obtain ⟨g25, h⟩ := gd_some h
      refine z_iald hX (kl_3_0 (kl_4_0 (kl_7_0 hk_j0).1).1).1 (kl_3_0 (kl_4_0 (kl_7_0 hk_j0).1).1).2 g25 dX7_flier_75 ?_
      obtain rfl := ret1 h
      exact z_iret hR dX7_flier_76
    rcases ite_or h with ⟨c26, h⟩ | ⟨c26, h⟩
    · refine z_tabIn hX 77 (by rw [c26]; decide) (by rw [c26]; decide) (by rw [c26]; rfl) (by decide) dX7_flier_18 ?_
      refine z_aload_n hX dX7_flier_77 0 rfl ?_
      refine g_X7_10 hX hk_j0 dX7_flier_78 ?_
      refine g_X7_64 hX (kl_7_0 hk_j0).1 dX7_flier_81 ?_
      refine g_X7_190 hX (kl_4_0 (kl_7_0 hk_j0).1).1 dX7_flier_84 ?_
      refine z_iload_n hX dX7_flier_87 1 rfl ?_
      obtain ⟨g27, h⟩ := gd_some h
      refine z_iald hX (kl_3_1 (kl_4_0 (kl_7_0 hk_j0).1).1).1 (kl_3_1 (kl_4_0 (kl_7_0 hk_j0).1).1).2 g27 dX7_flier_88 ?_
      obtain rfl := ret1 h
      exact z_iret hR dX7_flier_89
    rcases ite_or h with ⟨c28, h⟩ | ⟨c28, h⟩
    · refine z_tabIn hX 90 (by rw [c28]; decide) (by rw [c28]; decide) (by rw [c28]; rfl) (by decide) dX7_flier_18 ?_
      refine z_aload_n hX dX7_flier_90 0 rfl ?_
      refine g_X7_10 hX hk_j0 dX7_flier_91 ?_
      refine g_X7_64 hX (kl_7_0 hk_j0).1 dX7_flier_94 ?_
      refine g_X7_102 hX (kl_4_0 (kl_7_0 hk_j0).1).1 dX7_flier_97 ?_
      refine z_iload_n hX dX7_flier_100 1 rfl ?_
      obtain ⟨g29, h⟩ := gd_some h
      refine z_iald hX (kl_3_2 (kl_4_0 (kl_7_0 hk_j0).1).1).1 (kl_3_2 (kl_4_0 (kl_7_0 hk_j0).1).1).2 g29 dX7_flier_101 ?_
      obtain rfl := ret1 h
      exact z_iret hR dX7_flier_102
    rcases ite_or h with ⟨c30, h⟩ | ⟨c30, h⟩
    · refine z_tabIn hX 103 (by rw [c30]; decide) (by rw [c30]; decide) (by rw [c30]; rfl) (by decide) dX7_flier_18 ?_
      refine z_aload_n hX dX7_flier_103 0 rfl ?_
      refine g_X7_10 hX hk_j0 dX7_flier_104 ?_
      refine g_X7_64 hX (kl_7_0 hk_j0).1 dX7_flier_107 ?_
      refine z_iload_n hX dX7_flier_110 1 rfl ?_
      refine z_aload_n hX dX7_flier_111 0 rfl ?_
      refine g_X7_10 hX hk_j0 dX7_flier_112 ?_
      obtain ⟨r32, k31, h⟩ := bind_some h
      refine v_X7_193 hX (kl_7_0 hk_j0).1 (c_X4_drift X.1 (kl_7_0 hk_j0).1 k31) (Nat.le_of_ble_eq_true rfl) (Nat.le_of_ble_eq_true rfl) (Nat.le_of_ble_eq_true rfl) dX7_flier_115 ?_
      obtain ⟨r34, k33, h⟩ := bind_some h
      refine v_X7_196 hX (kl_4_0 (kl_7_0 hk_j0).1).1 (c_X3_shownAt X.1 (kl_4_0 (kl_7_0 hk_j0).1).1 k33) (Nat.le_of_ble_eq_true rfl) (Nat.le_of_ble_eq_true rfl) (Nat.le_of_ble_eq_true rfl) dX7_flier_118 ?_
      obtain rfl := ret1 h
      exact z_iret hR dX7_flier_121
    rcases ite_or h with ⟨c35, h⟩ | ⟨c35, h⟩
    · refine z_tabIn hX 122 (by rw [c35]; decide) (by rw [c35]; decide) (by rw [c35]; rfl) (by decide) dX7_flier_18 ?_
      refine z_aload_n hX dX7_flier_122 0 rfl ?_
      refine g_X7_10 hX hk_j0 dX7_flier_123 ?_
      refine g_X7_64 hX (kl_7_0 hk_j0).1 dX7_flier_126 ?_
      refine z_iload_n hX dX7_flier_129 1 rfl ?_
      obtain ⟨r37, k36, h⟩ := bind_some h
      refine v_X7_94 hX (kl_4_0 (kl_7_0 hk_j0).1).1 (c_X3_isTangled X.1 (kl_4_0 (kl_7_0 hk_j0).1).1 k36) (Nat.le_of_ble_eq_true rfl) (Nat.le_of_ble_eq_true rfl) (Nat.le_of_ble_eq_true rfl) dX7_flier_130 ?_
      rcases ite_or h with ⟨c38, h⟩ | ⟨c38, h⟩
      · refine z_if_eq_t hX 153 (by decide) dX7_flier_133 c38 ?_
        refine z_ldc (x := (-1000005)) hX mc_X7_106 dX7_flier_153 ?_
        obtain rfl := ret1 h
        exact z_iret hR dX7_flier_155
      · refine z_if_eq_f hX 153 (by decide) dX7_flier_133 c38 ?_
        refine z_iload_n hX dX7_flier_136 1 rfl ?_
        refine z_aload_n hX dX7_flier_137 0 rfl ?_
        refine g_X7_10 hX hk_j0 dX7_flier_138 ?_
        refine g_X7_64 hX (kl_7_0 hk_j0).1 dX7_flier_141 ?_
        refine g_X7_199 hX (kl_4_0 (kl_7_0 hk_j0).1).1 dX7_flier_144 ?_
        refine z_iload_n hX dX7_flier_147 1 rfl ?_
        obtain ⟨g39, h⟩ := gd_some h
        refine z_iald hX (kl_3_3 (kl_4_0 (kl_7_0 hk_j0).1).1).1 (kl_3_3 (kl_4_0 (kl_7_0 hk_j0).1).1).2 g39 dX7_flier_148 ?_
        refine z_iadd hX dX7_flier_149 ?_
        refine z_goto hX 155 (by decide) dX7_flier_150 ?_
        obtain rfl := ret1 h
        exact z_iret hR dX7_flier_155
    rcases ite_or h with ⟨c40, h⟩ | ⟨c40, h⟩
    · refine z_tabIn hX 156 (by rw [c40]; decide) (by rw [c40]; decide) (by rw [c40]; rfl) (by decide) dX7_flier_18 ?_
      refine z_aload_n hX dX7_flier_156 0 rfl ?_
      refine g_X7_10 hX hk_j0 dX7_flier_157 ?_
      refine g_X7_64 hX (kl_7_0 hk_j0).1 dX7_flier_160 ?_
      refine g_X7_202 hX (kl_4_0 (kl_7_0 hk_j0).1).1 dX7_flier_163 ?_
      refine z_iload_n hX dX7_flier_166 1 rfl ?_
      obtain ⟨g41, h⟩ := gd_some h
      refine z_iald hX (kl_3_4 (kl_4_0 (kl_7_0 hk_j0).1).1).1 (kl_3_4 (kl_4_0 (kl_7_0 hk_j0).1).1).2 g41 dX7_flier_167 ?_
      obtain rfl := ret1 h
      exact z_iret hR dX7_flier_168
    rcases ite_or h with ⟨c42, h⟩ | ⟨c42, h⟩
    · refine z_tabIn hX 169 (by rw [c42]; decide) (by rw [c42]; decide) (by rw [c42]; rfl) (by decide) dX7_flier_18 ?_
      refine z_aload_n hX dX7_flier_169 0 rfl ?_
      refine g_X7_10 hX hk_j0 dX7_flier_170 ?_
      refine g_X7_64 hX (kl_7_0 hk_j0).1 dX7_flier_173 ?_
      refine z_iload_n hX dX7_flier_176 1 rfl ?_
      refine z_aload_n hX dX7_flier_177 0 rfl ?_
      refine g_X7_10 hX hk_j0 dX7_flier_178 ?_
      obtain ⟨r44, k43, h⟩ := bind_some h
      refine v_X7_193 hX (kl_7_0 hk_j0).1 (c_X4_drift X.1 (kl_7_0 hk_j0).1 k43) (Nat.le_of_ble_eq_true rfl) (Nat.le_of_ble_eq_true rfl) (Nat.le_of_ble_eq_true rfl) dX7_flier_181 ?_
      obtain ⟨r46, k45, h⟩ := bind_some h
      refine v_X7_205 hX (kl_4_0 (kl_7_0 hk_j0).1).1 (c_X3_canBeRead X.1 (kl_4_0 (kl_7_0 hk_j0).1).1 k45) (Nat.le_of_ble_eq_true rfl) (Nat.le_of_ble_eq_true rfl) (Nat.le_of_ble_eq_true rfl) dX7_flier_184 ?_
      obtain ⟨r48, k47, h⟩ := bind_some h
      refine v_X7_119 hX (c_X7_asNumber X.1 k47) (Nat.le_of_ble_eq_true rfl) (Nat.le_of_ble_eq_true rfl) (Nat.le_of_ble_eq_true rfl) dX7_flier_187 ?_
      obtain rfl := ret1 h
      exact z_iret hR dX7_flier_190
    rcases ite_or h with ⟨c49, h⟩ | ⟨c49, h⟩
    · refine z_tabIn hX 191 (by rw [c49]; decide) (by rw [c49]; decide) (by rw [c49]; rfl) (by decide) dX7_flier_18 ?_
      refine z_aload_n hX dX7_flier_191 0 rfl ?_
      refine g_X7_10 hX hk_j0 dX7_flier_192 ?_
      refine g_X7_64 hX (kl_7_0 hk_j0).1 dX7_flier_195 ?_
      refine g_X7_208 hX (kl_4_0 (kl_7_0 hk_j0).1).1 dX7_flier_198 ?_
      refine z_iload_n hX dX7_flier_201 1 rfl ?_
      obtain ⟨g50, h⟩ := gd_some h
      refine z_iald hX (kl_3_5 (kl_4_0 (kl_7_0 hk_j0).1).1).1 (kl_3_5 (kl_4_0 (kl_7_0 hk_j0).1).1).2 g50 dX7_flier_202 ?_
      obtain rfl := ret1 h
      exact z_iret hR dX7_flier_203
    refine z_tabOut hX 204 (by have n0 := lv_neT c24 (a := 0) (by decide); have n1 := lv_neT c26 (a := 1) (by decide); have n2 := lv_neT c28 (a := 2) (by decide); have n3 := lv_neT c30 (a := 3) (by decide); have n4 := lv_neT c35 (a := 4) (by decide); have n5 := lv_neT c40 (a := 5) (by decide); have n6 := lv_neT c42 (a := 6) (by decide); have n7 := lv_neT c49 (a := 7) (by decide); omega) (by decide) dX7_flier_18 ?_
    refine z_ldc (x := (-1000002)) hX mc_X7_63 dX7_flier_204 ?_
    obtain rfl := ret1 h
    exact z_iret hR dX7_flier_206
