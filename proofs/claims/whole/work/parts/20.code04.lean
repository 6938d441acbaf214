set_option maxRecDepth 20000 in
set_option maxHeartbeats 4000000 in
theorem c_X7_reads (w : WP) {N : Nat} {j0 : Nat} {a1 : Int32} {r : Int32} {σ σ' : HP} (hk_j0 : kd j0 = 7) (h : F_X7_reads N j0 a1 σ = some (r, σ')) : Ct w yX7_reads cX7_reads 2 (some .int) 3 71 [rf w j0, .int a1] σ (some (.int r)) σ' := by
  refine z_met w (by decide +kernel) (Nat.le_of_ble_eq_true rfl) (fun X hw hX => ?_)
  subst hw
  have hR : OkX X RX7 cX7_reads 2 3 71 (some .int) (some (.int r)) σ' := hX
  have hX := hR.1
  show Z X σ 0 [(0, rf X.1 j0), (1, .int a1)] []
  unfold F_X7_reads at h
  refine z_iload_n hX dX7_reads_0 1 rfl ?_
  rcases ite_or h with ⟨c21, h⟩ | ⟨c21, h⟩
  · refine z_if_ge_t hX 7 (by decide) dX7_reads_1 c21 ?_
    refine z_aload_n hX dX7_reads_7 0 rfl ?_
    refine g_X7_33 hX hk_j0 dX7_reads_8 ?_
    refine z_aload_n hX dX7_reads_11 0 rfl ?_
    refine g_X7_10 hX hk_j0 dX7_reads_12 ?_
    obtain ⟨σ23, k22, h⟩ := bind_some h
    refine v_X7_211 hX (kl_7_5 hk_j0).1 (c_X2_look X.1 (kl_7_5 hk_j0).1 (kl_7_0 hk_j0).1 k22) (Nat.le_of_ble_eq_true rfl) (Nat.le_of_ble_eq_true rfl) (Nat.le_of_ble_eq_true rfl) dX7_reads_15 ?_
    refine z_iload_n hX dX7_reads_18 1 rfl ?_
    refine z_aload_n hX dX7_reads_19 0 rfl ?_
    refine g_X7_33 hX hk_j0 dX7_reads_20 ?_
    refine g_X7_214 hX (kl_7_5 hk_j0).1 dX7_reads_23 ?_
    rcases ite_or h with ⟨c24, h⟩ | ⟨c24, h⟩
    · refine z_icmp_lt_t hX 32 (by decide) dX7_reads_26 c24 ?_
      refine z_aload_n hX dX7_reads_32 0 rfl ?_
      refine g_X7_10 hX hk_j0 dX7_reads_33 ?_
      refine g_X7_64 hX (kl_7_0 hk_j0).1 dX7_reads_36 ?_
      refine g_X7_190 hX (kl_4_0 (kl_7_0 hk_j0).1).1 dX7_reads_39 ?_
      refine z_aload_n hX dX7_reads_42 0 rfl ?_
      refine g_X7_33 hX hk_j0 dX7_reads_43 ?_
      refine g_X7_215 hX (kl_7_5 hk_j0).1 dX7_reads_46 ?_
      refine z_iload_n hX dX7_reads_49 1 rfl ?_
      obtain ⟨g25, h⟩ := gd_some h
      refine z_iald hX (kl_2_0 (kl_7_5 hk_j0).1).1 (kl_2_0 (kl_7_5 hk_j0).1).2 g25 dX7_reads_50 ?_
      obtain ⟨g26, h⟩ := gd_some h
      refine z_iald hX (kl_3_1 (kl_4_0 (kl_7_0 hk_j0).1).1).1 (kl_3_1 (kl_4_0 (kl_7_0 hk_j0).1).1).2 g26 dX7_reads_51 ?_
      obtain ⟨rfl, rfl⟩ := ret2 h
      exact z_iret hR dX7_reads_52
    · refine z_icmp_lt_f hX 32 (by decide) dX7_reads_26 c24 ?_
      refine z_ldc (x := (-1000005)) hX mc_X7_106 dX7_reads_29 ?_
      obtain ⟨rfl, rfl⟩ := ret2 h
      exact z_iret hR dX7_reads_31
  · refine z_if_ge_f hX 7 (by decide) dX7_reads_1 c21 ?_
    refine z_ldc (x := (-1000002)) hX mc_X7_63 dX7_reads_4 ?_
    obtain ⟨rfl, rfl⟩ := ret2 h
    exact z_iret hR dX7_reads_6
set_option maxRecDepth 20000 in
set_option maxHeartbeats 4000000 in
theorem c_X7_ifTraded (w : WP) {N : Nat} {j0 : Nat} {a1 : Int32} {a2 : Int32} {r : Int32} {σ σ' : HP} (hk_j0 : kd j0 = 7) (h : F_X7_ifTraded N j0 a1 a2 σ = some (r, σ')) : Ct w yX7_ifTraded cX7_ifTraded 3 (some .int) 4 89 [rf w j0, .int a1, .int a2] σ (some (.int r)) σ' := by
  refine z_met w (by decide +kernel) (Nat.le_of_ble_eq_true rfl) (fun X hw hX => ?_)
  subst hw
  have hR : OkX X RX7 cX7_ifTraded 3 4 89 (some .int) (some (.int r)) σ' := hX
  have hX := hR.1
  show Z X σ 0 [(0, rf X.1 j0), (1, .int a1), (2, .int a2)] []
  unfold F_X7_ifTraded at h
  refine z_aload_n hX dX7_ifTraded_0 0 rfl ?_
  refine g_X7_10 hX hk_j0 dX7_ifTraded_1 ?_
  refine g_X7_64 hX (kl_7_0 hk_j0).1 dX7_ifTraded_4 ?_
  refine z_iload_n hX dX7_ifTraded_7 1 rfl ?_
  obtain ⟨r22, k21, h⟩ := bind_some h
  refine v_X7_107 hX (kl_4_0 (kl_7_0 hk_j0).1).1 (c_X3_hasPairAt X.1 (kl_4_0 (kl_7_0 hk_j0).1).1 k21) (Nat.le_of_ble_eq_true rfl) (Nat.le_of_ble_eq_true rfl) (Nat.le_of_ble_eq_true rfl) dX7_ifTraded_8 ?_
  rcases ite_or h with ⟨c23, h⟩ | ⟨c23, h⟩
  · refine z_if_ne_f hX 17 (by decide) dX7_ifTraded_11 c23 ?_
    refine z_ldc (x := (-1000001)) hX mc_X7_93 dX7_ifTraded_14 ?_
    obtain ⟨rfl, rfl⟩ := ret2 h
    exact z_iret hR dX7_ifTraded_16
  · refine z_if_ne_t hX 17 (by decide) dX7_ifTraded_11 c23 ?_
    refine z_iload_n hX dX7_ifTraded_17 2 rfl ?_
    refine z_iconst (x := 0) hX dX7_ifTraded_18 (by decide) ?_
    refine z_iconst (x := 2) hX dX7_ifTraded_19 (by decide) ?_
    obtain ⟨r25, k24, h⟩ := bind_some h
    refine v_X7_59 hX (c_X7_isWithin X.1 k24) (Nat.le_of_ble_eq_true rfl) (Nat.le_of_ble_eq_true rfl) (Nat.le_of_ble_eq_true rfl) dX7_ifTraded_20 ?_
    rcases ite_or h with ⟨c26, h⟩ | ⟨c26, h⟩
    · refine z_if_ne_f hX 29 (by decide) dX7_ifTraded_23 c26 ?_
      refine z_ldc (x := (-1000002)) hX mc_X7_63 dX7_ifTraded_26 ?_
      obtain ⟨rfl, rfl⟩ := ret2 h
      exact z_iret hR dX7_ifTraded_28
    · refine z_if_ne_t hX 29 (by decide) dX7_ifTraded_23 c26 ?_
      refine z_iload_n hX dX7_ifTraded_29 2 rfl ?_
      refine z_iconst (x := 1) hX dX7_ifTraded_30 (by decide) ?_
      rcases ite_or h with ⟨c27, h⟩ | ⟨c27, h⟩
      · refine z_icmp_ne_f hX 46 (by decide) dX7_ifTraded_31 c27 ?_
        refine z_aload_n hX dX7_ifTraded_34 0 rfl ?_
        refine g_X7_10 hX hk_j0 dX7_ifTraded_35 ?_
        refine z_iload_n hX dX7_ifTraded_38 1 rfl ?_
        obtain ⟨r39, k38, h⟩ := bind_some h
        refine v_X7_218 hX (kl_7_0 hk_j0).1 (c_X4_isSafe X.1 (kl_7_0 hk_j0).1 k38) (Nat.le_of_ble_eq_true rfl) (Nat.le_of_ble_eq_true rfl) (Nat.le_of_ble_eq_true rfl) dX7_ifTraded_39 ?_
        obtain ⟨r41, k40, h⟩ := bind_some h
        refine v_X7_119 hX (c_X7_asNumber X.1 k40) (Nat.le_of_ble_eq_true rfl) (Nat.le_of_ble_eq_true rfl) (Nat.le_of_ble_eq_true rfl) dX7_ifTraded_42 ?_
        obtain ⟨rfl, rfl⟩ := ret2 h
        exact z_iret hR dX7_ifTraded_45
      · refine z_icmp_ne_t hX 46 (by decide) dX7_ifTraded_31 c27 ?_
        refine z_aload_n hX dX7_ifTraded_46 0 rfl ?_
        refine g_X7_40 hX hk_j0 dX7_ifTraded_47 ?_
        refine z_aload_n hX dX7_ifTraded_50 0 rfl ?_
        refine g_X7_10 hX hk_j0 dX7_ifTraded_51 ?_
        obtain ⟨σ29, k28, h⟩ := bind_some h
        refine v_X7_221 hX (kl_7_6 hk_j0).1 (c_X0_match X.1 (kl_7_6 hk_j0).1 (kl_7_0 hk_j0).1 k28) (Nat.le_of_ble_eq_true rfl) (Nat.le_of_ble_eq_true rfl) (Nat.le_of_ble_eq_true rfl) dX7_ifTraded_54 ?_
        refine z_aload_n hX dX7_ifTraded_57 0 rfl ?_
        refine g_X7_40 hX hk_j0 dX7_ifTraded_58 ?_
        refine g_X7_224 hX (kl_7_6 hk_j0).1 dX7_ifTraded_61 ?_
        rcases ite_or h with ⟨c30, h⟩ | ⟨c30, h⟩
        · refine z_if_ne_f hX 70 (by decide) dX7_ifTraded_64 c30 ?_
          refine z_ldc (x := (-1000005)) hX mc_X7_106 dX7_ifTraded_67 ?_
          obtain ⟨rfl, rfl⟩ := ret2 h
          exact z_iret hR dX7_ifTraded_69
        · refine z_if_ne_t hX 70 (by decide) dX7_ifTraded_64 c30 ?_
          refine z_iload_n hX dX7_ifTraded_70 2 rfl ?_
          rcases ite_or h with ⟨c31, h⟩ | ⟨c31, h⟩
          · refine z_if_ne_f hX 88 (by decide) dX7_ifTraded_71 c31 ?_
            refine z_aload_n hX dX7_ifTraded_74 0 rfl ?_
            refine g_X7_40 hX hk_j0 dX7_ifTraded_75 ?_
            refine z_iload_n hX dX7_ifTraded_78 1 rfl ?_
            obtain ⟨r35, k34, h⟩ := bind_some h
            refine v_X7_227 hX (kl_7_6 hk_j0).1 (c_X0_isGood X.1 (kl_7_6 hk_j0).1 k34) (Nat.le_of_ble_eq_true rfl) (Nat.le_of_ble_eq_true rfl) (Nat.le_of_ble_eq_true rfl) dX7_ifTraded_79 ?_
            obtain ⟨r37, k36, h⟩ := bind_some h
            refine v_X7_119 hX (c_X7_asNumber X.1 k36) (Nat.le_of_ble_eq_true rfl) (Nat.le_of_ble_eq_true rfl) (Nat.le_of_ble_eq_true rfl) dX7_ifTraded_82 ?_
            refine z_goto hX 103 (by decide) dX7_ifTraded_85 ?_
            obtain ⟨rfl, rfl⟩ := ret2 h
            exact z_iret hR dX7_ifTraded_103
          · refine z_if_ne_t hX 88 (by decide) dX7_ifTraded_71 c31 ?_
            refine z_aload_n hX dX7_ifTraded_88 0 rfl ?_
            refine g_X7_40 hX hk_j0 dX7_ifTraded_89 ?_
            refine z_aload_n hX dX7_ifTraded_92 0 rfl ?_
            refine g_X7_10 hX hk_j0 dX7_ifTraded_93 ?_
            refine g_X7_64 hX (kl_7_0 hk_j0).1 dX7_ifTraded_96 ?_
            refine z_iload_n hX dX7_ifTraded_99 1 rfl ?_
            obtain ⟨r33, k32, h⟩ := bind_some h
            refine v_X7_230 hX (kl_7_6 hk_j0).1 (c_X0_fewestBehind X.1 (kl_7_6 hk_j0).1 (kl_4_0 (kl_7_0 hk_j0).1).1 k32) (Nat.le_of_ble_eq_true rfl) (Nat.le_of_ble_eq_true rfl) (Nat.le_of_ble_eq_true rfl) dX7_ifTraded_100 ?_
            obtain ⟨rfl, rfl⟩ := ret2 h
            exact z_iret hR dX7_ifTraded_103
set_option maxRecDepth 20000 in
set_option maxHeartbeats 4000000 in
theorem t_X7_nextPlace_22 {X : CX} {N : Nat} {r : Int32} {σ' : HP} (hR : OkX X RX7 cX7_nextPlace 3 4 89 (some .int) (some (.int r)) σ')  : ∀ (n : Nat) (j0 : Nat) (j1 : Nat) (a2 : Int32) (σ : HP), kd j0 = 7 → kd j1 = 4 → L_X7_nextPlace_22  N n j0 j1 a2 σ = some (r, σ') → Z X σ 22 [(0, rf X.1 j0), (1, rf X.1 j1), (2, .int a2)] [] := by
  have hX := hR.1
  intro n
  induction n with
  | zero =>
    intro j0 j1 a2 σ hk_j0 hk_j1 h
    rw [L_X7_nextPlace_22] at h
    cases h
  | succ n ih =>
    intro j0 j1 a2 σ hk_j0 hk_j1 h
    rw [L_X7_nextPlace_22] at h
    refine z_iload_n hX dX7_nextPlace_22 2 rfl ?_
    refine z_aload_n hX dX7_nextPlace_23 1 rfl ?_
    refine g_X7_64 hX hk_j1 dX7_nextPlace_24 ?_
    refine g_X7_82 hX (kl_4_0 hk_j1).1 dX7_nextPlace_27 ?_
    refine z_iconst (x := 1) hX dX7_nextPlace_30 (by decide) ?_
    refine z_isub hX dX7_nextPlace_31 ?_
    rcases ite_or h with ⟨c21, h⟩ | ⟨c21, h⟩
    · refine z_icmp_ge_t hX 62 (by decide) dX7_nextPlace_32 c21 ?_
      refine z_iconst (x := (-1)) hX dX7_nextPlace_62 (by decide) ?_
      obtain ⟨rfl, rfl⟩ := ret2 h
      exact z_iret hR dX7_nextPlace_63
    · refine z_icmp_ge_f hX 62 (by decide) dX7_nextPlace_32 c21 ?_
      refine z_aload_n hX dX7_nextPlace_35 0 rfl ?_
      refine g_X7_40 hX hk_j0 dX7_nextPlace_36 ?_
      refine z_iload_n hX dX7_nextPlace_39 2 rfl ?_
      obtain ⟨r23, k22, h⟩ := bind_some h
      refine v_X7_227 hX (kl_7_6 hk_j0).1 (c_X0_isGood X.1 (kl_7_6 hk_j0).1 k22) (Nat.le_of_ble_eq_true rfl) (Nat.le_of_ble_eq_true rfl) (Nat.le_of_ble_eq_true rfl) dX7_nextPlace_40 ?_
      rcases ite_or h with ⟨c24, h⟩ | ⟨c24, h⟩
      · refine z_if_eq_t hX 56 (by decide) dX7_nextPlace_43 c24 ?_
        refine z_iinc (y := (a2 + 1)) (lv' := [(2, .int (a2 + 1)), (0, rf X.1 j0), (1, rf X.1 j1)]) hX dX7_nextPlace_56 2 rfl rfl (by decide) rfl ?_
        refine z_goto hX 22 (by decide) dX7_nextPlace_59 ?_
        refine z_sub (lv' := [(0, rf X.1 j0), (1, rf X.1 j1), (2, .int (a2 + 1))]) [1, 2, 0] rfl ?_
        exact ih j0 j1 (a2 + 1) σ hk_j0 hk_j1 h
      · refine z_if_eq_f hX 56 (by decide) dX7_nextPlace_43 c24 ?_
        refine z_aload_n hX dX7_nextPlace_46 1 rfl ?_
        refine z_iload_n hX dX7_nextPlace_47 2 rfl ?_
        obtain ⟨r26, k25, h⟩ := bind_some h
        refine v_X7_218 hX hk_j1 (c_X4_isSafe X.1 hk_j1 k25) (Nat.le_of_ble_eq_true rfl) (Nat.le_of_ble_eq_true rfl) (Nat.le_of_ble_eq_true rfl) dX7_nextPlace_48 ?_
        rcases ite_or h with ⟨c27, h⟩ | ⟨c27, h⟩
        · refine z_if_eq_t hX 56 (by decide) dX7_nextPlace_51 c27 ?_
          refine z_iinc (y := (a2 + 1)) (lv' := [(2, .int (a2 + 1)), (0, rf X.1 j0), (1, rf X.1 j1)]) hX dX7_nextPlace_56 2 rfl rfl (by decide) rfl ?_
          refine z_goto hX 22 (by decide) dX7_nextPlace_59 ?_
          refine z_sub (lv' := [(0, rf X.1 j0), (1, rf X.1 j1), (2, .int (a2 + 1))]) [1, 2, 0] rfl ?_
          exact ih j0 j1 (a2 + 1) σ hk_j0 hk_j1 h
        · refine z_if_eq_f hX 56 (by decide) dX7_nextPlace_51 c27 ?_
          refine z_iload_n hX dX7_nextPlace_54 2 rfl ?_
          obtain ⟨rfl, rfl⟩ := ret2 h
          exact z_iret hR dX7_nextPlace_55
set_option maxRecDepth 20000 in
set_option maxHeartbeats 4000000 in
theorem c_X7_nextPlace (w : WP) {N : Nat} {j0 : Nat} {j1 : Nat} {r : Int32} {σ σ' : HP} (hk_j0 : kd j0 = 7) (hk_j1 : kd j1 = 4) (h : F_X7_nextPlace N j0 j1 σ = some (r, σ')) : Ct w yX7_nextPlace cX7_nextPlace 3 (some .int) 4 89 [rf w j0, rf w j1] σ (some (.int r)) σ' := by
  refine z_met w (by decide +kernel) (Nat.le_of_ble_eq_true rfl) (fun X hw hX => ?_)
  subst hw
  have hR : OkX X RX7 cX7_nextPlace 3 4 89 (some .int) (some (.int r)) σ' := hX
  have hX := hR.1
  show Z X σ 0 [(0, rf X.1 j0), (1, rf X.1 j1)] []
  unfold F_X7_nextPlace at h
  refine z_aload_n hX dX7_nextPlace_0 0 rfl ?_
  refine g_X7_40 hX hk_j0 dX7_nextPlace_1 ?_
  refine z_aload_n hX dX7_nextPlace_4 1 rfl ?_
  obtain ⟨σ22, k21, h⟩ := bind_some h
  refine v_X7_221 hX (kl_7_6 hk_j0).1 (c_X0_match X.1 (kl_7_6 hk_j0).1 hk_j1 k21) (Nat.le_of_ble_eq_true rfl) (Nat.le_of_ble_eq_true rfl) (Nat.le_of_ble_eq_true rfl) dX7_nextPlace_5 ?_
  refine z_aload_n hX dX7_nextPlace_8 0 rfl ?_
  refine g_X7_40 hX hk_j0 dX7_nextPlace_9 ?_
  refine g_X7_224 hX (kl_7_6 hk_j0).1 dX7_nextPlace_12 ?_
  rcases ite_or h with ⟨c23, h⟩ | ⟨c23, h⟩
  · refine z_if_ne_f hX 20 (by decide) dX7_nextPlace_15 c23 ?_
    refine z_iconst (x := (-1)) hX dX7_nextPlace_18 (by decide) ?_
    obtain ⟨rfl, rfl⟩ := ret2 h
    exact z_iret hR dX7_nextPlace_19
  · refine z_if_ne_t hX 20 (by decide) dX7_nextPlace_15 c23 ?_
    refine z_iconst (x := 0) hX dX7_nextPlace_20 (by decide) ?_
    refine z_istore_n (lv' := [(2, .int 0), (0, rf X.1 j0), (1, rf X.1 j1)]) hX dX7_nextPlace_21 (by decide) rfl ?_
    refine z_sub (lv' := [(0, rf X.1 j0), (1, rf X.1 j1), (2, .int 0)]) [1, 2, 0] rfl ?_
    exact t_X7_nextPlace_22 hR  N j0 j1 0 σ22 hk_j0 hk_j1 h
set_option maxRecDepth 20000 in
set_option maxHeartbeats 4000000 in
theorem c_X7_nextTrade (w : WP) {N : Nat} {j0 : Nat} {r : Int32} {σ σ' : HP} (hk_j0 : kd j0 = 7) (h : F_X7_nextTrade N j0 σ = some (r, σ')) : Ct w yX7_nextTrade cX7_nextTrade 2 (some .int) 5 111 [rf w j0] σ (some (.int r)) σ' := by
  refine z_met w (by decide +kernel) (Nat.le_of_ble_eq_true rfl) (fun X hw hX => ?_)
  subst hw
  have hR : OkX X RX7 cX7_nextTrade 2 5 111 (some .int) (some (.int r)) σ' := hX
  have hX := hR.1
  show Z X σ 0 [(0, rf X.1 j0)] []
  unfold F_X7_nextTrade at h
  refine z_aload_n hX dX7_nextTrade_0 0 rfl ?_
  refine z_aload_n hX dX7_nextTrade_1 0 rfl ?_
  refine g_X7_10 hX hk_j0 dX7_nextTrade_2 ?_
  obtain ⟨r22, σ23, k21, h⟩ := bind2_some h
  refine v_X7_234 hX hk_j0 (c_X7_nextPlace X.1 hk_j0 (kl_7_0 hk_j0).1 k21) (Nat.le_of_ble_eq_true rfl) (Nat.le_of_ble_eq_true rfl) (Nat.le_of_ble_eq_true rfl) dX7_nextTrade_5 ?_
  refine z_istore_n (lv' := [(1, .int r22), (0, rf X.1 j0)]) hX dX7_nextTrade_8 (by decide) rfl ?_
  refine z_iload_n hX dX7_nextTrade_9 0 rfl ?_
  refine z_iconst (x := (-1)) hX dX7_nextTrade_10 (by decide) ?_
  rcases ite_or h with ⟨c24, h⟩ | ⟨c24, h⟩
  · refine z_icmp_ne_f hX 19 (by decide) dX7_nextTrade_11 c24 ?_
    refine z_ldc (x := (-1000005)) hX mc_X7_106 dX7_nextTrade_14 ?_
    refine z_goto hX 20 (by decide) dX7_nextTrade_16 ?_
    obtain ⟨rfl, rfl⟩ := ret2 h
    exact z_iret hR dX7_nextTrade_20
  · refine z_icmp_ne_t hX 19 (by decide) dX7_nextTrade_11 c24 ?_
    refine z_iload_n hX dX7_nextTrade_19 0 rfl ?_
    obtain ⟨rfl, rfl⟩ := ret2 h
    exact z_iret hR dX7_nextTrade_20
set_option maxRecDepth 20000 in
set_option maxHeartbeats 4000000 in
theorem t_X7_isSpelled_56 {X : CX} {N : Nat} {r : Int32} {σ' : HP} (hR : OkX X RX7 cX7_isSpelled 3 3 71 (some .boolean) (some (.int r)) σ')  : ∀ (n : Nat) (j0 : Nat) (j1 : Nat) (a2 : Int32) (σ : HP), kd j0 = 7 → kd j1 = 4 → L_X7_isSpelled_56  N n j0 j1 a2 σ = some (r, σ') → Z X σ 56 [(0, rf X.1 j0), (1, rf X.1 j1), (2, .int a2)] [] := by
  have hX := hR.1
  intro n
  induction n with
  | zero =>
    intro j0 j1 a2 σ hk_j0 hk_j1 h
    rw [L_X7_isSpelled_56] at h
    cases h
  | succ n ih =>
    intro j0 j1 a2 σ hk_j0 hk_j1 h
    rw [L_X7_isSpelled_56] at h
    refine z_iload_n hX dX7_isSpelled_56 2 rfl ?_
    refine z_aload_n hX dX7_isSpelled_57 0 rfl ?_
    refine g_X7_33 hX hk_j0 dX7_isSpelled_58 ?_
    refine g_X7_214 hX (kl_7_5 hk_j0).1 dX7_isSpelled_61 ?_
    rcases ite_or h with ⟨c21, h⟩ | ⟨c21, h⟩
    · refine z_icmp_ge_t hX 104 (by decide) dX7_isSpelled_64 c21 ?_
      refine z_iconst (x := 1) hX dX7_isSpelled_104 (by decide) ?_
      obtain ⟨rfl, rfl⟩ := ret2 h
      exact z_zret hR rfl dX7_isSpelled_105
    · refine z_icmp_ge_f hX 104 (by decide) dX7_isSpelled_64 c21 ?_
      refine z_aload_n hX dX7_isSpelled_67 1 rfl ?_
      refine g_X7_64 hX hk_j1 dX7_isSpelled_68 ?_
      refine g_X7_190 hX (kl_4_0 hk_j1).1 dX7_isSpelled_71 ?_
      refine z_aload_n hX dX7_isSpelled_74 0 rfl ?_
      refine g_X7_33 hX hk_j0 dX7_isSpelled_75 ?_
      refine g_X7_215 hX (kl_7_5 hk_j0).1 dX7_isSpelled_78 ?_
      refine z_iload_n hX dX7_isSpelled_81 2 rfl ?_
      obtain ⟨g22, h⟩ := gd_some h
      refine z_iald hX (kl_2_0 (kl_7_5 hk_j0).1).1 (kl_2_0 (kl_7_5 hk_j0).1).2 g22 dX7_isSpelled_82 ?_
      obtain ⟨g23, h⟩ := gd_some h
      refine z_iald hX (kl_3_1 (kl_4_0 hk_j1).1).1 (kl_3_1 (kl_4_0 hk_j1).1).2 g23 dX7_isSpelled_83 ?_
      refine z_aload_n hX dX7_isSpelled_84 1 rfl ?_
      refine g_X7_168 hX hk_j1 dX7_isSpelled_85 ?_
      refine g_X7_282 hX (kl_4_3 hk_j1).1 dX7_isSpelled_88 ?_
      refine z_iload_n hX dX7_isSpelled_91 2 rfl ?_
      obtain ⟨g24, h⟩ := gd_some h
      refine z_cald hX (kl_6_0 (kl_4_3 hk_j1).1).1 (kl_6_0 (kl_4_3 hk_j1).1).2 g24 dX7_isSpelled_92 ?_
      rcases ite_or h with ⟨c25, h⟩ | ⟨c25, h⟩
      · refine z_icmp_eq_t hX 98 (by decide) dX7_isSpelled_93 c25 ?_
        refine z_iinc (y := (a2 + 1)) (lv' := [(2, .int (a2 + 1)), (0, rf X.1 j0), (1, rf X.1 j1)]) hX dX7_isSpelled_98 2 rfl rfl (by decide) rfl ?_
        refine z_goto hX 56 (by decide) dX7_isSpelled_101 ?_
        refine z_sub (lv' := [(0, rf X.1 j0), (1, rf X.1 j1), (2, .int (a2 + 1))]) [1, 2, 0] rfl ?_
        exact ih j0 j1 (a2 + 1) σ hk_j0 hk_j1 h
      · refine z_icmp_eq_f hX 98 (by decide) dX7_isSpelled_93 c25 ?_
        refine z_iconst (x := 0) hX dX7_isSpelled_96 (by decide) ?_
        obtain ⟨rfl, rfl⟩ := ret2 h
        exact z_zret hR rfl dX7_isSpelled_97
set_option maxRecDepth 20000 in
set_option maxHeartbeats 4000000 in
theorem c_X7_isSpelled (w : WP) {N : Nat} {j0 : Nat} {j1 : Nat} {r : Int32} {σ σ' : HP} (hk_j0 : kd j0 = 7) (hk_j1 : kd j1 = 4) (h : F_X7_isSpelled N j0 j1 σ = some (r, σ')) : Ct w yX7_isSpelled cX7_isSpelled 3 (some .boolean) 3 71 [rf w j0, rf w j1] σ (some (.int r)) σ' := by
  refine z_met w (by decide +kernel) (Nat.le_of_ble_eq_true rfl) (fun X hw hX => ?_)
  subst hw
  have hR : OkX X RX7 cX7_isSpelled 3 3 71 (some .boolean) (some (.int r)) σ' := hX
  have hX := hR.1
  show Z X σ 0 [(0, rf X.1 j0), (1, rf X.1 j1)] []
  unfold F_X7_isSpelled at h
  refine z_aload_n hX dX7_isSpelled_0 0 rfl ?_
  refine g_X7_33 hX hk_j0 dX7_isSpelled_1 ?_
  refine z_aload_n hX dX7_isSpelled_4 1 rfl ?_
  obtain ⟨σ22, k21, h⟩ := bind_some h
  refine v_X7_211 hX (kl_7_5 hk_j0).1 (c_X2_look X.1 (kl_7_5 hk_j0).1 hk_j1 k21) (Nat.le_of_ble_eq_true rfl) (Nat.le_of_ble_eq_true rfl) (Nat.le_of_ble_eq_true rfl) dX7_isSpelled_5 ?_
  refine z_aload_n hX dX7_isSpelled_8 0 rfl ?_
  refine g_X7_33 hX hk_j0 dX7_isSpelled_9 ?_
  refine g_X7_214 hX (kl_7_5 hk_j0).1 dX7_isSpelled_12 ?_
  refine z_aload_n hX dX7_isSpelled_15 1 rfl ?_
  refine g_X7_64 hX hk_j1 dX7_isSpelled_16 ?_
  refine g_X7_82 hX (kl_4_0 hk_j1).1 dX7_isSpelled_19 ?_
  rcases ite_or h with ⟨c23, h⟩ | ⟨c23, h⟩
  · refine z_icmp_ne_f hX 52 (by decide) dX7_isSpelled_22 c23 ?_
    refine z_aload_n hX dX7_isSpelled_25 0 rfl ?_
    refine g_X7_33 hX hk_j0 dX7_isSpelled_26 ?_
    refine g_X7_214 hX (kl_7_5 hk_j0).1 dX7_isSpelled_29 ?_
    refine z_aload_n hX dX7_isSpelled_32 1 rfl ?_
    refine g_X7_168 hX hk_j1 dX7_isSpelled_33 ?_
    refine g_X7_182 hX (kl_4_3 hk_j1).1 dX7_isSpelled_36 ?_
    rcases ite_or h with ⟨c24, h⟩ | ⟨c24, h⟩
    · refine z_icmp_ne_f hX 52 (by decide) dX7_isSpelled_39 c24 ?_
      refine z_aload_n hX dX7_isSpelled_42 1 rfl ?_
      refine g_X7_168 hX hk_j1 dX7_isSpelled_43 ?_
      refine g_X7_182 hX (kl_4_3 hk_j1).1 dX7_isSpelled_46 ?_
      rcases ite_or h with ⟨c25, h⟩ | ⟨c25, h⟩
      · refine z_if_ne_f hX 54 (by decide) dX7_isSpelled_49 c25 ?_
        refine z_iconst (x := 0) hX dX7_isSpelled_52 (by decide) ?_
        obtain ⟨rfl, rfl⟩ := ret2 h
        exact z_zret hR rfl dX7_isSpelled_53
      · refine z_if_ne_t hX 54 (by decide) dX7_isSpelled_49 c25 ?_
        refine z_iconst (x := 0) hX dX7_isSpelled_54 (by decide) ?_
        refine z_istore_n (lv' := [(2, .int 0), (0, rf X.1 j0), (1, rf X.1 j1)]) hX dX7_isSpelled_55 (by decide) rfl ?_
        refine z_sub (lv' := [(0, rf X.1 j0), (1, rf X.1 j1), (2, .int 0)]) [1, 2, 0] rfl ?_
        exact t_X7_isSpelled_56 hR  N j0 j1 0 σ22 hk_j0 hk_j1 h
    · refine z_icmp_ne_t hX 52 (by decide) dX7_isSpelled_39 c24 ?_
      refine z_iconst (x := 0) hX dX7_isSpelled_52 (by decide) ?_
      obtain ⟨rfl, rfl⟩ := ret2 h
      exact z_zret hR rfl dX7_isSpelled_53
  · refine z_icmp_ne_t hX 52 (by decide) dX7_isSpelled_22 c23 ?_
    refine z_iconst (x := 0) hX dX7_isSpelled_52 (by decide) ?_
    obtain ⟨rfl, rfl⟩ := ret2 h
    exact z_zret hR rfl dX7_isSpelled_53
set_option maxRecDepth 20000 in
set_option maxHeartbeats 4000000 in
theorem t_X7_spelledIn_37 {X : CX} {N : Nat} {r : Int32} {σ' : HP} (hR : OkX X RX7 cX7_spelledIn 3 6 131 (some .int) (some (.int r)) σ')  : ∀ (n : Nat) (j0 : Nat) (a1 : Int32) (σ : HP), kd j0 = 7 → L_X7_spelledIn_37  N n j0 a1 σ = some (r, σ') → Z X σ 37 [(0, rf X.1 j0), (1, .int a1)] [] := by
  have hX := hR.1
  intro n
  induction n with
  | zero =>
    intro j0 a1 σ hk_j0 h
    rw [L_X7_spelledIn_37] at h
    cases h
  | succ n ih =>
    intro j0 a1 σ hk_j0 h
    rw [L_X7_spelledIn_37] at h
    refine z_iload_n hX dX7_spelledIn_37 1 rfl ?_
    refine z_sipush (x := 200) hX dX7_spelledIn_38 (by decide) ?_
    rcases ite_or h with ⟨c21, h⟩ | ⟨c21, h⟩
    · refine z_icmp_gt_t hX 110 (by decide) dX7_spelledIn_41 c21 ?_
      refine z_ldc (x := (-1000005)) hX mc_X7_106 dX7_spelledIn_110 ?_
      obtain ⟨rfl, rfl⟩ := ret2 h
      exact z_iret hR dX7_spelledIn_112
    · refine z_icmp_gt_f hX 110 (by decide) dX7_spelledIn_41 c21 ?_
      refine z_aload_n hX dX7_spelledIn_44 0 rfl ?_
      refine z_aload_n hX dX7_spelledIn_45 0 rfl ?_
      refine g_X7_16 hX hk_j0 dX7_spelledIn_46 ?_
      obtain ⟨r23, σ24, k22, h⟩ := bind2_some h
      refine v_X7_238 hX hk_j0 (c_X7_isSpelled X.1 hk_j0 (kl_7_1 hk_j0).1 k22) (Nat.le_of_ble_eq_true rfl) (Nat.le_of_ble_eq_true rfl) (Nat.le_of_ble_eq_true rfl) dX7_spelledIn_49 ?_
      rcases ite_or h with ⟨c25, h⟩ | ⟨c25, h⟩
      · refine z_if_eq_t hX 57 (by decide) dX7_spelledIn_52 c25 ?_
        refine z_aload_n hX dX7_spelledIn_57 0 rfl ?_
        refine z_aload_n hX dX7_spelledIn_58 0 rfl ?_
        refine g_X7_16 hX hk_j0 dX7_spelledIn_59 ?_
        obtain ⟨r27, σ28, k26, h⟩ := bind2_some h
        refine v_X7_234 hX hk_j0 (c_X7_nextPlace X.1 hk_j0 (kl_7_1 hk_j0).1 k26) (Nat.le_of_ble_eq_true rfl) (Nat.le_of_ble_eq_true rfl) (Nat.le_of_ble_eq_true rfl) dX7_spelledIn_62 ?_
        refine z_istore_n (lv' := [(2, .int r27), (0, rf X.1 j0), (1, .int a1)]) hX dX7_spelledIn_65 (by decide) rfl ?_
        refine z_iload_n hX dX7_spelledIn_66 0 rfl ?_
        refine z_iconst (x := (-1)) hX dX7_spelledIn_67 (by decide) ?_
        rcases ite_or h with ⟨c29, h⟩ | ⟨c29, h⟩
        · refine z_icmp_eq_t hX 83 (by decide) dX7_spelledIn_68 c29 ?_
          refine z_aload_n hX dX7_spelledIn_83 1 rfl ?_
          refine g_X7_16 hX hk_j0 dX7_spelledIn_84 ?_
          obtain ⟨r31, k30, h⟩ := bind_some h
          refine v_X7_242 hX (kl_7_1 hk_j0).1 (c_X4_isAtRest X.1 (kl_7_1 hk_j0).1 k30) (Nat.le_of_ble_eq_true rfl) (Nat.le_of_ble_eq_true rfl) (Nat.le_of_ble_eq_true rfl) dX7_spelledIn_87 ?_
          rcases ite_or h with ⟨c32, h⟩ | ⟨c32, h⟩
          · refine z_if_eq_t hX 96 (by decide) dX7_spelledIn_90 c32 ?_
            refine z_aload_n hX dX7_spelledIn_96 1 rfl ?_
            refine g_X7_16 hX hk_j0 dX7_spelledIn_97 ?_
            obtain ⟨r34, σ35, k33, h⟩ := bind2_some h
            refine v_X7_123 hX (kl_7_1 hk_j0).1 (c_X4_passMinute X.1 (kl_7_1 hk_j0).1 k33) (Nat.le_of_ble_eq_true rfl) (Nat.le_of_ble_eq_true rfl) (Nat.le_of_ble_eq_true rfl) dX7_spelledIn_100 ?_
            refine z_pop hX rfl dX7_spelledIn_103 ?_
            refine z_iinc (y := (a1 + 1)) (lv' := [(1, .int (a1 + 1)), (2, .int r27), (0, rf X.1 j0)]) hX dX7_spelledIn_104 2 rfl rfl (by decide) rfl ?_
            refine z_goto hX 37 (by decide) dX7_spelledIn_107 ?_
            refine z_sub (lv' := [(0, rf X.1 j0), (1, .int (a1 + 1))]) [2, 0] rfl ?_
            exact ih j0 (a1 + 1) σ35 hk_j0 h
          · refine z_if_eq_f hX 96 (by decide) dX7_spelledIn_90 c32 ?_
            refine z_ldc (x := (-1000005)) hX mc_X7_106 dX7_spelledIn_93 ?_
            obtain ⟨rfl, rfl⟩ := ret2 h
            exact z_iret hR dX7_spelledIn_95
        · refine z_icmp_eq_f hX 83 (by decide) dX7_spelledIn_68 c29 ?_
          refine z_aload_n hX dX7_spelledIn_71 1 rfl ?_
          refine g_X7_16 hX hk_j0 dX7_spelledIn_72 ?_
          refine z_iload_n hX dX7_spelledIn_75 0 rfl ?_
          obtain ⟨r37, σ38, k36, h⟩ := bind2_some h
          refine v_X7_116 hX (kl_7_1 hk_j0).1 (c_X4_tradePlaces X.1 (kl_7_1 hk_j0).1 k36) (Nat.le_of_ble_eq_true rfl) (Nat.le_of_ble_eq_true rfl) (Nat.le_of_ble_eq_true rfl) dX7_spelledIn_76 ?_
          refine z_pop hX rfl dX7_spelledIn_79 ?_
          refine z_goto hX 104 (by decide) dX7_spelledIn_80 ?_
          refine z_iinc (y := (a1 + 1)) (lv' := [(1, .int (a1 + 1)), (2, .int r27), (0, rf X.1 j0)]) hX dX7_spelledIn_104 2 rfl rfl (by decide) rfl ?_
          refine z_goto hX 37 (by decide) dX7_spelledIn_107 ?_
          refine z_sub (lv' := [(0, rf X.1 j0), (1, .int (a1 + 1))]) [2, 0] rfl ?_
          exact ih j0 (a1 + 1) σ38 hk_j0 h
      · refine z_if_eq_f hX 57 (by decide) dX7_spelledIn_52 c25 ?_
        refine z_iload_n hX dX7_spelledIn_55 1 rfl ?_
        obtain ⟨rfl, rfl⟩ := ret2 h
        exact z_iret hR dX7_spelledIn_56
set_option maxRecDepth 20000 in
set_option maxHeartbeats 4000000 in
theorem c_X7_spelledIn (w : WP) {N : Nat} {j0 : Nat} {r : Int32} {σ σ' : HP} (hk_j0 : kd j0 = 7) (h : F_X7_spelledIn N j0 σ = some (r, σ')) : Ct w yX7_spelledIn cX7_spelledIn 3 (some .int) 6 131 [rf w j0] σ (some (.int r)) σ' := by
  refine z_met w (by decide +kernel) (Nat.le_of_ble_eq_true rfl) (fun X hw hX => ?_)
  subst hw
  have hR : OkX X RX7 cX7_spelledIn 3 6 131 (some .int) (some (.int r)) σ' := hX
  have hX := hR.1
  show Z X σ 0 [(0, rf X.1 j0)] []
  unfold F_X7_spelledIn at h
  refine z_aload_n hX dX7_spelledIn_0 0 rfl ?_
  refine g_X7_40 hX hk_j0 dX7_spelledIn_1 ?_
  refine z_aload_n hX dX7_spelledIn_4 0 rfl ?_
  refine g_X7_10 hX hk_j0 dX7_spelledIn_5 ?_
  obtain ⟨σ22, k21, h⟩ := bind_some h
  refine v_X7_221 hX (kl_7_6 hk_j0).1 (c_X0_match X.1 (kl_7_6 hk_j0).1 (kl_7_0 hk_j0).1 k21) (Nat.le_of_ble_eq_true rfl) (Nat.le_of_ble_eq_true rfl) (Nat.le_of_ble_eq_true rfl) dX7_spelledIn_8 ?_
  refine z_aload_n hX dX7_spelledIn_11 0 rfl ?_
  refine g_X7_40 hX hk_j0 dX7_spelledIn_12 ?_
  refine g_X7_224 hX (kl_7_6 hk_j0).1 dX7_spelledIn_15 ?_
  rcases ite_or h with ⟨c23, h⟩ | ⟨c23, h⟩
  · refine z_if_ne_f hX 24 (by decide) dX7_spelledIn_18 c23 ?_
    refine z_ldc (x := (-1000005)) hX mc_X7_106 dX7_spelledIn_21 ?_
    obtain ⟨rfl, rfl⟩ := ret2 h
    exact z_iret hR dX7_spelledIn_23
  · refine z_if_ne_t hX 24 (by decide) dX7_spelledIn_18 c23 ?_
    refine z_aload_n hX dX7_spelledIn_24 0 rfl ?_
    refine g_X7_16 hX hk_j0 dX7_spelledIn_25 ?_
    refine z_aload_n hX dX7_spelledIn_28 0 rfl ?_
    refine g_X7_10 hX hk_j0 dX7_spelledIn_29 ?_
    obtain ⟨σ25, k24, h⟩ := bind_some h
    refine v_X7_183 hX (kl_7_1 hk_j0).1 (c_X4_copyFrom X.1 (kl_7_1 hk_j0).1 (kl_7_0 hk_j0).1 k24) (Nat.le_of_ble_eq_true rfl) (Nat.le_of_ble_eq_true rfl) (Nat.le_of_ble_eq_true rfl) dX7_spelledIn_32 ?_
    refine z_iconst (x := 0) hX dX7_spelledIn_35 (by decide) ?_
    refine z_istore_n (lv' := [(1, .int 0), (0, rf X.1 j0)]) hX dX7_spelledIn_36 (by decide) rfl ?_
    refine z_sub (lv' := [(0, rf X.1 j0), (1, .int 0)]) [1, 0] rfl ?_
    exact t_X7_spelledIn_37 hR  N j0 0 σ25 hk_j0 h
set_option maxRecDepth 20000 in
set_option maxHeartbeats 4000000 in
theorem c_X7_turnOf (w : WP) {N : Nat} {j0 : Nat} {a1 : Int32} {a2 : Int32} {r : Int32} {σ : HP} (hk_j0 : kd j0 = 7) (h : F_X7_turnOf N j0 a1 a2 σ = some r) : Ct w yX7_turnOf cX7_turnOf 3 (some .int) 1 22 [rf w j0, .int a1, .int a2] σ (some (.int r)) σ := by
  refine z_met w (by decide +kernel) (Nat.le_of_ble_eq_true rfl) (fun X hw hX => ?_)
  subst hw
  have hR : OkX X RX7 cX7_turnOf 3 1 22 (some .int) (some (.int r)) σ := hX
  have hX := hR.1
  show Z X σ 0 [(0, rf X.1 j0), (1, .int a1), (2, .int a2)] []
  unfold F_X7_turnOf at h
  refine z_iload_n hX dX7_turnOf_0 1 rfl ?_
  rcases ite_or h with ⟨c21, h⟩ | ⟨c21, h⟩
  · refine z_if_lt_t hX 13 (by decide) dX7_turnOf_1 c21 ?_
    refine z_ldc (x := (-1000002)) hX mc_X7_63 dX7_turnOf_13 ?_
    obtain rfl := ret1 h
    exact z_iret hR dX7_turnOf_15
  · refine z_if_lt_f hX 13 (by decide) dX7_turnOf_1 c21 ?_
    refine z_iload_n hX dX7_turnOf_4 2 rfl ?_
    refine z_iconst (x := 0) hX dX7_turnOf_5 (by decide) ?_
    refine z_iconst (x := 2) hX dX7_turnOf_6 (by decide) ?_
    obtain ⟨r23, k22, h⟩ := bind_some h
    refine v_X7_59 hX (c_X7_isWithin X.1 k22) (Nat.le_of_ble_eq_true rfl) (Nat.le_of_ble_eq_true rfl) (Nat.le_of_ble_eq_true rfl) dX7_turnOf_7 ?_
    rcases ite_or h with ⟨c24, h⟩ | ⟨c24, h⟩
    · refine z_if_ne_f hX 16 (by decide) dX7_turnOf_10 c24 ?_
      refine z_ldc (x := (-1000002)) hX mc_X7_63 dX7_turnOf_13 ?_
      obtain rfl := ret1 h
      exact z_iret hR dX7_turnOf_15
    · refine z_if_ne_t hX 16 (by decide) dX7_turnOf_10 c24 ?_
      refine z_iload_n hX dX7_turnOf_16 1 rfl ?_
      refine z_aload_n hX dX7_turnOf_17 0 rfl ?_
      refine g_X7_10 hX hk_j0 dX7_turnOf_18 ?_
      refine g_X7_140 hX (kl_7_0 hk_j0).1 dX7_turnOf_21 ?_
      refine g_X7_150 hX (kl_4_1 (kl_7_0 hk_j0).1).1 dX7_turnOf_24 ?_
      rcases ite_or h with ⟨c25, h⟩ | ⟨c25, h⟩
      · refine z_icmp_lt_t hX 33 (by decide) dX7_turnOf_27 c25 ?_
        refine z_iload_n hX dX7_turnOf_33 2 rfl ?_
        rcases ite_or h with ⟨c26, h⟩ | ⟨c26, h⟩
        · refine z_lookup (off := 26) hX 60 (by decide) (by rw [c26] <;> rfl) (by decide) dX7_turnOf_34 ?_
          refine z_aload_n hX dX7_turnOf_60 0 rfl ?_
          refine g_X7_10 hX hk_j0 dX7_turnOf_61 ?_
          refine g_X7_140 hX (kl_7_0 hk_j0).1 dX7_turnOf_64 ?_
          refine g_X7_246 hX (kl_4_1 (kl_7_0 hk_j0).1).1 dX7_turnOf_67 ?_
          refine z_iload_n hX dX7_turnOf_70 1 rfl ?_
          obtain ⟨g27, h⟩ := gd_some h
          refine z_iald hX (kl_1_0 (kl_4_1 (kl_7_0 hk_j0).1).1).1 (kl_1_0 (kl_4_1 (kl_7_0 hk_j0).1).1).2 g27 dX7_turnOf_71 ?_
          obtain rfl := ret1 h
          exact z_iret hR dX7_turnOf_72
        rcases ite_or h with ⟨c28, h⟩ | ⟨c28, h⟩
        · refine z_lookup (off := 39) hX 73 (by decide) (by rw [c28] <;> rfl) (by decide) dX7_turnOf_34 ?_
          refine z_aload_n hX dX7_turnOf_73 0 rfl ?_
          refine g_X7_10 hX hk_j0 dX7_turnOf_74 ?_
          refine g_X7_140 hX (kl_7_0 hk_j0).1 dX7_turnOf_77 ?_
          refine g_X7_249 hX (kl_4_1 (kl_7_0 hk_j0).1).1 dX7_turnOf_80 ?_
          refine z_iload_n hX dX7_turnOf_83 1 rfl ?_
          obtain ⟨g29, h⟩ := gd_some h
          refine z_iald hX (kl_1_1 (kl_4_1 (kl_7_0 hk_j0).1).1).1 (kl_1_1 (kl_4_1 (kl_7_0 hk_j0).1).1).2 g29 dX7_turnOf_84 ?_
          obtain rfl := ret1 h
          exact z_iret hR dX7_turnOf_85
        refine z_lookup (off := 52) hX 86 (by decide) ((lv_osw (a := 0) c26 (by decide)).trans ((lv_osw (a := 1) c28 (by decide)).trans (rfl))) (by decide) dX7_turnOf_34 ?_
        refine z_aload_n hX dX7_turnOf_86 0 rfl ?_
        refine g_X7_10 hX hk_j0 dX7_turnOf_87 ?_
        refine g_X7_140 hX (kl_7_0 hk_j0).1 dX7_turnOf_90 ?_
        refine g_X7_251 hX (kl_4_1 (kl_7_0 hk_j0).1).1 dX7_turnOf_93 ?_
        refine z_iload_n hX dX7_turnOf_96 1 rfl ?_
        obtain ⟨g30, h⟩ := gd_some h
        refine z_iald hX (kl_1_2 (kl_4_1 (kl_7_0 hk_j0).1).1).1 (kl_1_2 (kl_4_1 (kl_7_0 hk_j0).1).1).2 g30 dX7_turnOf_97 ?_
        obtain rfl := ret1 h
        exact z_iret hR dX7_turnOf_98
      · refine z_icmp_lt_f hX 33 (by decide) dX7_turnOf_27 c25 ?_
        refine z_ldc (x := (-1000005)) hX mc_X7_106 dX7_turnOf_30 ?_
        obtain rfl := ret1 h
        exact z_iret hR dX7_turnOf_32
set_option maxRecDepth 20000 in
set_option maxHeartbeats 4000000 in
theorem c_X7_tangle (w : WP) {N : Nat} {j0 : Nat} {a1 : Int32} {a2 : Int32} {r : Int32} {σ : HP} (hk_j0 : kd j0 = 7) (h : F_X7_tangle N j0 a1 a2 σ = some r) : Ct w yX7_tangle cX7_tangle 3 (some .int) 1 22 [rf w j0, .int a1, .int a2] σ (some (.int r)) σ := by
  refine z_met w (by decide +kernel) (Nat.le_of_ble_eq_true rfl) (fun X hw hX => ?_)
  subst hw
  have hR : OkX X RX7 cX7_tangle 3 1 22 (some .int) (some (.int r)) σ := hX
  have hX := hR.1
  show Z X σ 0 [(0, rf X.1 j0), (1, .int a1), (2, .int a2)] []
  unfold F_X7_tangle at h
  refine z_iload_n hX dX7_tangle_0 1 rfl ?_
  rcases ite_or h with ⟨c21, h⟩ | ⟨c21, h⟩
  · refine z_if_lt_t hX 13 (by decide) dX7_tangle_1 c21 ?_
    refine z_ldc (x := (-1000002)) hX mc_X7_63 dX7_tangle_13 ?_
    obtain rfl := ret1 h
    exact z_iret hR dX7_tangle_15
  · refine z_if_lt_f hX 13 (by decide) dX7_tangle_1 c21 ?_
    refine z_iload_n hX dX7_tangle_4 2 rfl ?_
    refine z_iconst (x := 0) hX dX7_tangle_5 (by decide) ?_
    refine z_iconst (x := 3) hX dX7_tangle_6 (by decide) ?_
    obtain ⟨r23, k22, h⟩ := bind_some h
    refine v_X7_59 hX (c_X7_isWithin X.1 k22) (Nat.le_of_ble_eq_true rfl) (Nat.le_of_ble_eq_true rfl) (Nat.le_of_ble_eq_true rfl) dX7_tangle_7 ?_
    rcases ite_or h with ⟨c24, h⟩ | ⟨c24, h⟩
    · refine z_if_ne_f hX 16 (by decide) dX7_tangle_10 c24 ?_
      refine z_ldc (x := (-1000002)) hX mc_X7_63 dX7_tangle_13 ?_
      obtain rfl := ret1 h
      exact z_iret hR dX7_tangle_15
    · refine z_if_ne_t hX 16 (by decide) dX7_tangle_10 c24 ?_
      refine z_iload_n hX dX7_tangle_16 1 rfl ?_
      refine z_aload_n hX dX7_tangle_17 0 rfl ?_
      refine g_X7_10 hX hk_j0 dX7_tangle_18 ?_
      refine g_X7_253 hX (kl_7_0 hk_j0).1 dX7_tangle_21 ?_
      refine g_X7_257 hX (kl_4_2 (kl_7_0 hk_j0).1).1 dX7_tangle_24 ?_
      rcases ite_or h with ⟨c25, h⟩ | ⟨c25, h⟩
      · refine z_icmp_lt_t hX 33 (by decide) dX7_tangle_27 c25 ?_
        refine z_iload_n hX dX7_tangle_33 2 rfl ?_
        rcases ite_or h with ⟨c26, h⟩ | ⟨c26, h⟩
        · refine z_tabIn hX 60 (by rw [c26]; decide) (by rw [c26]; decide) (by rw [c26]; rfl) (by decide) dX7_tangle_34 ?_
          refine z_aload_n hX dX7_tangle_60 0 rfl ?_
          refine g_X7_10 hX hk_j0 dX7_tangle_61 ?_
          refine g_X7_253 hX (kl_7_0 hk_j0).1 dX7_tangle_64 ?_
          refine g_X7_260 hX (kl_4_2 (kl_7_0 hk_j0).1).1 dX7_tangle_67 ?_
          refine z_iload_n hX dX7_tangle_70 1 rfl ?_
          obtain ⟨g27, h⟩ := gd_some h
          refine z_iald hX (kl_5_0 (kl_4_2 (kl_7_0 hk_j0).1).1).1 (kl_5_0 (kl_4_2 (kl_7_0 hk_j0).1).1).2 g27 dX7_tangle_71 ?_
          obtain rfl := ret1 h
          exact z_iret hR dX7_tangle_72
        rcases ite_or h with ⟨c28, h⟩ | ⟨c28, h⟩
        · refine z_tabIn hX 73 (by rw [c28]; decide) (by rw [c28]; decide) (by rw [c28]; rfl) (by decide) dX7_tangle_34 ?_
          refine z_aload_n hX dX7_tangle_73 0 rfl ?_
          refine g_X7_10 hX hk_j0 dX7_tangle_74 ?_
          refine g_X7_253 hX (kl_7_0 hk_j0).1 dX7_tangle_77 ?_
          refine g_X7_261 hX (kl_4_2 (kl_7_0 hk_j0).1).1 dX7_tangle_80 ?_
          refine z_iload_n hX dX7_tangle_83 1 rfl ?_
          obtain ⟨g29, h⟩ := gd_some h
          refine z_iald hX (kl_5_1 (kl_4_2 (kl_7_0 hk_j0).1).1).1 (kl_5_1 (kl_4_2 (kl_7_0 hk_j0).1).1).2 g29 dX7_tangle_84 ?_
          obtain rfl := ret1 h
          exact z_iret hR dX7_tangle_85
        rcases ite_or h with ⟨c30, h⟩ | ⟨c30, h⟩
        · refine z_tabIn hX 86 (by rw [c30]; decide) (by rw [c30]; decide) (by rw [c30]; rfl) (by decide) dX7_tangle_34 ?_
          refine z_aload_n hX dX7_tangle_86 0 rfl ?_
          refine g_X7_10 hX hk_j0 dX7_tangle_87 ?_
          refine g_X7_253 hX (kl_7_0 hk_j0).1 dX7_tangle_90 ?_
          refine g_X7_264 hX (kl_4_2 (kl_7_0 hk_j0).1).1 dX7_tangle_93 ?_
          refine z_iload_n hX dX7_tangle_96 1 rfl ?_
          obtain ⟨g31, h⟩ := gd_some h
          refine z_iald hX (kl_5_2 (kl_4_2 (kl_7_0 hk_j0).1).1).1 (kl_5_2 (kl_4_2 (kl_7_0 hk_j0).1).1).2 g31 dX7_tangle_97 ?_
          obtain rfl := ret1 h
          exact z_iret hR dX7_tangle_98
        refine z_tabOut hX 99 (by have n0 := lv_neT c26 (a := 0) (by decide); have n1 := lv_neT c28 (a := 1) (by decide); have n2 := lv_neT c30 (a := 2) (by decide); omega) (by decide) dX7_tangle_34 ?_
        refine z_aload_n hX dX7_tangle_99 0 rfl ?_
        refine g_X7_10 hX hk_j0 dX7_tangle_100 ?_
        refine g_X7_253 hX (kl_7_0 hk_j0).1 dX7_tangle_103 ?_
        refine g_X7_267 hX (kl_4_2 (kl_7_0 hk_j0).1).1 dX7_tangle_106 ?_
        refine z_iload_n hX dX7_tangle_109 1 rfl ?_
        obtain ⟨g32, h⟩ := gd_some h
        refine z_iald hX (kl_5_3 (kl_4_2 (kl_7_0 hk_j0).1).1).1 (kl_5_3 (kl_4_2 (kl_7_0 hk_j0).1).1).2 g32 dX7_tangle_110 ?_
        obtain rfl := ret1 h
        exact z_iret hR dX7_tangle_111
      · refine z_icmp_lt_f hX 33 (by decide) dX7_tangle_27 c25 ?_
        refine z_ldc (x := (-1000005)) hX mc_X7_106 dX7_tangle_30 ?_
        obtain rfl := ret1 h
        exact z_iret hR dX7_tangle_32
set_option maxRecDepth 20000 in
set_option maxHeartbeats 4000000 in
theorem c_X7_fewestTrades (w : WP) {N : Nat} {j0 : Nat} {r : Int32} {σ σ' : HP} (hk_j0 : kd j0 = 7) (h : F_X7_fewestTrades N j0 σ = some (r, σ')) : Ct w yX7_fewestTrades cX7_fewestTrades 1 (some .int) 3 70 [rf w j0] σ (some (.int r)) σ' := by
  refine z_met w (by decide +kernel) (Nat.le_of_ble_eq_true rfl) (fun X hw hX => ?_)
  subst hw
  have hR : OkX X RX7 cX7_fewestTrades 1 3 70 (some .int) (some (.int r)) σ' := hX
  have hX := hR.1
  show Z X σ 0 [(0, rf X.1 j0)] []
  unfold F_X7_fewestTrades at h
  refine z_aload_n hX dX7_fewestTrades_0 0 rfl ?_
  refine g_X7_40 hX hk_j0 dX7_fewestTrades_1 ?_
  refine z_aload_n hX dX7_fewestTrades_4 0 rfl ?_
  refine g_X7_10 hX hk_j0 dX7_fewestTrades_5 ?_
  obtain ⟨σ22, k21, h⟩ := bind_some h
  refine v_X7_221 hX (kl_7_6 hk_j0).1 (c_X0_match X.1 (kl_7_6 hk_j0).1 (kl_7_0 hk_j0).1 k21) (Nat.le_of_ble_eq_true rfl) (Nat.le_of_ble_eq_true rfl) (Nat.le_of_ble_eq_true rfl) dX7_fewestTrades_8 ?_
  refine z_aload_n hX dX7_fewestTrades_11 0 rfl ?_
  refine g_X7_40 hX hk_j0 dX7_fewestTrades_12 ?_
  refine g_X7_224 hX (kl_7_6 hk_j0).1 dX7_fewestTrades_15 ?_
  rcases ite_or h with ⟨c23, h⟩ | ⟨c23, h⟩
  · refine z_if_eq_t hX 31 (by decide) dX7_fewestTrades_18 c23 ?_
    refine z_ldc (x := (-1000005)) hX mc_X7_106 dX7_fewestTrades_31 ?_
    obtain ⟨rfl, rfl⟩ := ret2 h
    exact z_iret hR dX7_fewestTrades_33
  · refine z_if_eq_f hX 31 (by decide) dX7_fewestTrades_18 c23 ?_
    refine z_aload_n hX dX7_fewestTrades_21 0 rfl ?_
    refine g_X7_40 hX hk_j0 dX7_fewestTrades_22 ?_
    refine g_X7_279 hX (kl_7_6 hk_j0).1 dX7_fewestTrades_25 ?_
    refine z_goto hX 33 (by decide) dX7_fewestTrades_28 ?_
    obtain ⟨rfl, rfl⟩ := ret2 h
    exact z_iret hR dX7_fewestTrades_33
set_option maxRecDepth 20000 in
set_option maxHeartbeats 4000000 in
theorem c_X7_count (w : WP) {N : Nat} {j0 : Nat} {a1 : Int32} {r : Int32} {σ σ' : HP} (hk_j0 : kd j0 = 7) (h : F_X7_count N j0 a1 σ = some (r, σ')) : Ct w yX7_count cX7_count 2 (some .int) 4 93 [rf w j0, .int a1] σ (some (.int r)) σ' := by
  refine z_met w (by decide +kernel) (Nat.le_of_ble_eq_true rfl) (fun X hw hX => ?_)
  subst hw
  have hR : OkX X RX7 cX7_count 2 4 93 (some .int) (some (.int r)) σ' := hX
  have hX := hR.1
  show Z X σ 0 [(0, rf X.1 j0), (1, .int a1)] []
  unfold F_X7_count at h
  refine z_iload_n hX dX7_count_0 1 rfl ?_
  rcases ite_or h with ⟨c21, h⟩ | ⟨c21, h⟩
  · refine z_tabIn hX 72 (by rw [c21]; decide) (by rw [c21]; decide) (by rw [c21]; rfl) (by decide) dX7_count_1 ?_
    refine z_aload_n hX dX7_count_72 0 rfl ?_
    refine g_X7_10 hX hk_j0 dX7_count_73 ?_
    refine g_X7_64 hX (kl_7_0 hk_j0).1 dX7_count_76 ?_
    refine g_X7_82 hX (kl_4_0 (kl_7_0 hk_j0).1).1 dX7_count_79 ?_
    obtain ⟨rfl, rfl⟩ := ret2 h
    exact z_iret hR dX7_count_82
  rcases ite_or h with ⟨c22, h⟩ | ⟨c22, h⟩
  · refine z_tabIn hX 83 (by rw [c22]; decide) (by rw [c22]; decide) (by rw [c22]; rfl) (by decide) dX7_count_1 ?_
    refine z_aload_n hX dX7_count_83 0 rfl ?_
    refine g_X7_10 hX hk_j0 dX7_count_84 ?_
    refine g_X7_113 hX (kl_7_0 hk_j0).1 dX7_count_87 ?_
    obtain ⟨rfl, rfl⟩ := ret2 h
    exact z_iret hR dX7_count_90
  rcases ite_or h with ⟨c23, h⟩ | ⟨c23, h⟩
  · refine z_tabIn hX 91 (by rw [c23]; decide) (by rw [c23]; decide) (by rw [c23]; rfl) (by decide) dX7_count_1 ?_
    refine z_aload_n hX dX7_count_91 0 rfl ?_
    refine g_X7_10 hX hk_j0 dX7_count_92 ?_
    refine g_X7_130 hX (kl_7_0 hk_j0).1 dX7_count_95 ?_
    obtain ⟨rfl, rfl⟩ := ret2 h
    exact z_iret hR dX7_count_98
  rcases ite_or h with ⟨c24, h⟩ | ⟨c24, h⟩
  · refine z_tabIn hX 99 (by rw [c24]; decide) (by rw [c24]; decide) (by rw [c24]; rfl) (by decide) dX7_count_1 ?_
    refine z_aload_n hX dX7_count_99 0 rfl ?_
    refine g_X7_10 hX hk_j0 dX7_count_100 ?_
    refine g_X7_133 hX (kl_7_0 hk_j0).1 dX7_count_103 ?_
    obtain ⟨rfl, rfl⟩ := ret2 h
    exact z_iret hR dX7_count_106
  rcases ite_or h with ⟨c25, h⟩ | ⟨c25, h⟩
  · refine z_tabIn hX 107 (by rw [c25]; decide) (by rw [c25]; decide) (by rw [c25]; rfl) (by decide) dX7_count_1 ?_
    refine z_aload_n hX dX7_count_107 0 rfl ?_
    refine g_X7_10 hX hk_j0 dX7_count_108 ?_
    refine g_X7_156 hX (kl_7_0 hk_j0).1 dX7_count_111 ?_
    obtain ⟨r27, k26, h⟩ := bind_some h
    refine v_X7_119 hX (c_X7_asNumber X.1 k26) (Nat.le_of_ble_eq_true rfl) (Nat.le_of_ble_eq_true rfl) (Nat.le_of_ble_eq_true rfl) dX7_count_114 ?_
    obtain ⟨rfl, rfl⟩ := ret2 h
    exact z_iret hR dX7_count_117
  rcases ite_or h with ⟨c28, h⟩ | ⟨c28, h⟩
  · refine z_tabIn hX 118 (by rw [c28]; decide) (by rw [c28]; decide) (by rw [c28]; rfl) (by decide) dX7_count_1 ?_
    refine z_aload_n hX dX7_count_118 0 rfl ?_
    obtain ⟨r30, σ31, k29, h⟩ := bind2_some h
    refine v_X7_159 hX hk_j0 (c_X7_readableKites X.1 hk_j0 k29) (Nat.le_of_ble_eq_true rfl) (Nat.le_of_ble_eq_true rfl) (Nat.le_of_ble_eq_true rfl) dX7_count_119 ?_
    obtain ⟨rfl, rfl⟩ := ret2 h
    exact z_iret hR dX7_count_122
  rcases ite_or h with ⟨c32, h⟩ | ⟨c32, h⟩
  · refine z_tabIn hX 123 (by rw [c32]; decide) (by rw [c32]; decide) (by rw [c32]; rfl) (by decide) dX7_count_1 ?_
    refine z_aload_n hX dX7_count_123 0 rfl ?_
    refine g_X7_10 hX hk_j0 dX7_count_124 ?_
    refine g_X7_168 hX (kl_7_0 hk_j0).1 dX7_count_127 ?_
    refine g_X7_182 hX (kl_4_3 (kl_7_0 hk_j0).1).1 dX7_count_130 ?_
    obtain ⟨rfl, rfl⟩ := ret2 h
    exact z_iret hR dX7_count_133
  rcases ite_or h with ⟨c33, h⟩ | ⟨c33, h⟩
  · refine z_tabIn hX 134 (by rw [c33]; decide) (by rw [c33]; decide) (by rw [c33]; rfl) (by decide) dX7_count_1 ?_
    refine z_aload_n hX dX7_count_134 0 rfl ?_
    obtain ⟨r35, σ36, k34, h⟩ := bind2_some h
    refine v_X7_270 hX hk_j0 (c_X7_fewestTrades X.1 hk_j0 k34) (Nat.le_of_ble_eq_true rfl) (Nat.le_of_ble_eq_true rfl) (Nat.le_of_ble_eq_true rfl) dX7_count_135 ?_
    obtain ⟨rfl, rfl⟩ := ret2 h
    exact z_iret hR dX7_count_138
  rcases ite_or h with ⟨c37, h⟩ | ⟨c37, h⟩
  · refine z_tabIn hX 139 (by rw [c37]; decide) (by rw [c37]; decide) (by rw [c37]; rfl) (by decide) dX7_count_1 ?_
    refine z_aload_n hX dX7_count_139 0 rfl ?_
    refine z_aload_n hX dX7_count_140 0 rfl ?_
    refine g_X7_10 hX hk_j0 dX7_count_141 ?_
    obtain ⟨r39, σ40, k38, h⟩ := bind2_some h
    refine v_X7_238 hX hk_j0 (c_X7_isSpelled X.1 hk_j0 (kl_7_0 hk_j0).1 k38) (Nat.le_of_ble_eq_true rfl) (Nat.le_of_ble_eq_true rfl) (Nat.le_of_ble_eq_true rfl) dX7_count_144 ?_
    obtain ⟨r42, k41, h⟩ := bind_some h
    refine v_X7_119 hX (c_X7_asNumber X.1 k41) (Nat.le_of_ble_eq_true rfl) (Nat.le_of_ble_eq_true rfl) (Nat.le_of_ble_eq_true rfl) dX7_count_147 ?_
    obtain ⟨rfl, rfl⟩ := ret2 h
    exact z_iret hR dX7_count_150
  rcases ite_or h with ⟨c43, h⟩ | ⟨c43, h⟩
  · refine z_tabIn hX 151 (by rw [c43]; decide) (by rw [c43]; decide) (by rw [c43]; rfl) (by decide) dX7_count_1 ?_
    refine z_aload_n hX dX7_count_151 0 rfl ?_
    refine g_X7_10 hX hk_j0 dX7_count_152 ?_
    refine g_X7_273 hX (kl_7_0 hk_j0).1 dX7_count_155 ?_
    obtain ⟨rfl, rfl⟩ := ret2 h
    exact z_iret hR dX7_count_158
  rcases ite_or h with ⟨c44, h⟩ | ⟨c44, h⟩
  · refine z_tabIn hX 159 (by rw [c44]; decide) (by rw [c44]; decide) (by rw [c44]; rfl) (by decide) dX7_count_1 ?_
    refine z_aload_n hX dX7_count_159 0 rfl ?_
    refine g_X7_10 hX hk_j0 dX7_count_160 ?_
    refine g_X7_253 hX (kl_7_0 hk_j0).1 dX7_count_163 ?_
    refine g_X7_276 hX (kl_4_2 (kl_7_0 hk_j0).1).1 dX7_count_166 ?_
    obtain ⟨rfl, rfl⟩ := ret2 h
    exact z_iret hR dX7_count_169
  rcases ite_or h with ⟨c45, h⟩ | ⟨c45, h⟩
  · refine z_tabIn hX 170 (by rw [c45]; decide) (by rw [c45]; decide) (by rw [c45]; rfl) (by decide) dX7_count_1 ?_
    refine z_aload_n hX dX7_count_170 0 rfl ?_
    refine g_X7_10 hX hk_j0 dX7_count_171 ?_
    refine g_X7_140 hX (kl_7_0 hk_j0).1 dX7_count_174 ?_
    refine g_X7_150 hX (kl_4_1 (kl_7_0 hk_j0).1).1 dX7_count_177 ?_
    obtain ⟨rfl, rfl⟩ := ret2 h
    exact z_iret hR dX7_count_180
  rcases ite_or h with ⟨c46, h⟩ | ⟨c46, h⟩
  · refine z_tabIn hX 181 (by rw [c46]; decide) (by rw [c46]; decide) (by rw [c46]; rfl) (by decide) dX7_count_1 ?_
    refine z_aload_n hX dX7_count_181 0 rfl ?_
    refine g_X7_48 hX hk_j0 dX7_count_182 ?_
    obtain ⟨rfl, rfl⟩ := ret2 h
    exact z_iret hR dX7_count_185
  rcases ite_or h with ⟨c47, h⟩ | ⟨c47, h⟩
  · refine z_tabIn hX 186 (by rw [c47]; decide) (by rw [c47]; decide) (by rw [c47]; rfl) (by decide) dX7_count_1 ?_
    refine z_aload_n hX dX7_count_186 0 rfl ?_
    refine g_X7_52 hX hk_j0 dX7_count_187 ?_
    obtain ⟨rfl, rfl⟩ := ret2 h
    exact z_iret hR dX7_count_190
  refine z_tabOut hX 191 (by have n0 := lv_neT c21 (a := 0) (by decide); have n1 := lv_neT c22 (a := 1) (by decide); have n2 := lv_neT c23 (a := 2) (by decide); have n3 := lv_neT c24 (a := 3) (by decide); have n4 := lv_neT c25 (a := 4) (by decide); have n5 := lv_neT c28 (a := 5) (by decide); have n6 := lv_neT c32 (a := 6) (by decide); have n7 := lv_neT c33 (a := 7) (by decide); have n8 := lv_neT c37 (a := 8) (by decide); have n9 := lv_neT c43 (a := 9) (by decide); have n10 := lv_neT c44 (a := 10) (by decide); have n11 := lv_neT c45 (a := 11) (by decide); have n12 := lv_neT c46 (a := 12) (by decide); have n13 := lv_neT c47 (a := 13) (by decide); omega) (by decide) dX7_count_1 ?_
  refine z_ldc (x := (-1000002)) hX mc_X7_63 dX7_count_191 ?_
  obtain ⟨rfl, rfl⟩ := ret2 h
  exact z_iret hR dX7_count_193
set_option maxRecDepth 20000 in
set_option maxHeartbeats 4000000 in
theorem c_X8_in (w : WP) {N : Nat} {a0 : Int32} {a1 : Int32} {a2 : Int32} {r : Int32} {σ : HP} (h : F_X8_in N a0 a1 a2 σ = some r) : Ct w yX8_in cX8_in 3 (some .boolean) 0 0 [.int a0, .int a1, .int a2] σ (some (.int r)) σ := by
  refine z_met w (by decide +kernel) (Nat.le_of_ble_eq_true rfl) (fun X hw hX => ?_)
  subst hw
  have hR : OkX X RX8 cX8_in 3 0 0 (some .boolean) (some (.int r)) σ := hX
  have hX := hR.1
  show Z X σ 0 [(0, .int a0), (1, .int a1), (2, .int a2)] []
  unfold F_X8_in at h
  refine z_iload_n hX dX8_in_0 0 rfl ?_
  refine z_iload_n hX dX8_in_1 1 rfl ?_
  rcases ite_or h with ⟨c21, h⟩ | ⟨c21, h⟩
  · refine z_icmp_lt_t hX 14 (by decide) dX8_in_2 c21 ?_
    refine z_iconst (x := 0) hX dX8_in_14 (by decide) ?_
    obtain rfl := ret1 h
    exact z_zret hR rfl dX8_in_15
  · refine z_icmp_lt_f hX 14 (by decide) dX8_in_2 c21 ?_
    refine z_iload_n hX dX8_in_5 0 rfl ?_
    refine z_iload_n hX dX8_in_6 2 rfl ?_
    rcases ite_or h with ⟨c22, h⟩ | ⟨c22, h⟩
    · refine z_icmp_gt_t hX 14 (by decide) dX8_in_7 c22 ?_
      refine z_iconst (x := 0) hX dX8_in_14 (by decide) ?_
      obtain rfl := ret1 h
      exact z_zret hR rfl dX8_in_15
    · refine z_icmp_gt_f hX 14 (by decide) dX8_in_7 c22 ?_
      refine z_iconst (x := 1) hX dX8_in_10 (by decide) ?_
      refine z_goto hX 15 (by decide) dX8_in_11 ?_
      obtain rfl := ret1 h
      exact z_zret hR rfl dX8_in_15
set_option maxRecDepth 20000 in
set_option maxHeartbeats 4000000 in
theorem t_X8_lays_3 {X : CX} {N : Nat} {σ' : HP} (hR : OkX X RX8 cX8_lays 5 0 0 none none σ')  : ∀ (n : Nat) (j0 : Nat) (a1 : Int32) (j2 : Nat) (a3 : Int32) (a4 : Int32) (σ : HP), kd j0 = 9 → kd j2 = 9 → L_X8_lays_3  N n j0 a1 j2 a3 a4 σ = some σ' → Z X σ 3 [(0, rf X.1 j0), (1, .int a1), (2, rf X.1 j2), (3, .int a3), (4, .int a4)] [] := by
  have hX := hR.1
  intro n
  induction n with
  | zero =>
    intro j0 a1 j2 a3 a4 σ hk_j0 hk_j2 h
    rw [L_X8_lays_3] at h
    cases h
  | succ n ih =>
    intro j0 a1 j2 a3 a4 σ hk_j0 hk_j2 h
    rw [L_X8_lays_3] at h
    refine z_iload hX dX8_lays_3 4 rfl ?_
    refine z_sipush (x := 152) hX dX8_lays_5 (by decide) ?_
    rcases ite_or h with ⟨c21, h⟩ | ⟨c21, h⟩
    · refine z_icmp_ge_t hX 29 (by decide) dX8_lays_8 c21 ?_
      obtain rfl := ret1 h
      exact z_vret hR dX8_lays_29
    · refine z_icmp_ge_f hX 29 (by decide) dX8_lays_8 c21 ?_
      refine z_aload_n hX dX8_lays_11 2 rfl ?_
      refine z_iload_n hX dX8_lays_12 3 rfl ?_
      refine z_iload hX dX8_lays_13 4 rfl ?_
      refine z_iadd hX dX8_lays_15 ?_
      refine z_aload_n hX dX8_lays_16 0 rfl ?_
      refine z_iload_n hX dX8_lays_17 1 rfl ?_
      refine z_iload hX dX8_lays_18 4 rfl ?_
      refine z_iadd hX dX8_lays_20 ?_
      obtain ⟨g22, h⟩ := gd_some h
      refine z_iald hX hk_j0 rfl g22 dX8_lays_21 ?_
      obtain ⟨g23, h⟩ := gd_some h
      obtain ⟨σ24, eσ24, h⟩ := bd_some h
      refine z_iast hX hk_j2 rfl g23 dX8_lays_22 ?_
      refine z_ms eσ24 ?_
      refine z_iinc (y := (a4 + 1)) (lv' := [(4, .int (a4 + 1)), (0, rf X.1 j0), (1, .int a1), (2, rf X.1 j2), (3, .int a3)]) hX dX8_lays_23 4 rfl rfl (by decide) rfl ?_
      refine z_goto hX 3 (by decide) dX8_lays_26 ?_
      refine z_sub (lv' := [(0, rf X.1 j0), (1, .int a1), (2, rf X.1 j2), (3, .int a3), (4, .int (a4 + 1))]) [1, 2, 3, 4, 0] rfl ?_
      exact ih j0 a1 j2 a3 (a4 + 1) σ24 hk_j0 hk_j2 h
set_option maxRecDepth 20000 in
set_option maxHeartbeats 4000000 in
theorem c_X8_lays (w : WP) {N : Nat} {j0 : Nat} {a1 : Int32} {j2 : Nat} {a3 : Int32} {σ σ' : HP} (hk_j0 : kd j0 = 9) (hk_j2 : kd j2 = 9) (h : F_X8_lays N j0 a1 j2 a3 σ = some σ') : Ct w yX8_lays cX8_lays 5 none 0 0 [rf w j0, .int a1, rf w j2, .int a3] σ none σ' := by
  refine z_met w (by decide +kernel) (Nat.le_of_ble_eq_true rfl) (fun X hw hX => ?_)
  subst hw
  have hR : OkX X RX8 cX8_lays 5 0 0 none none σ' := hX
  have hX := hR.1
  show Z X σ 0 [(0, rf X.1 j0), (1, .int a1), (2, rf X.1 j2), (3, .int a3)] []
  unfold F_X8_lays at h
  refine z_iconst (x := 0) hX dX8_lays_0 (by decide) ?_
  refine z_istore (lv' := [(4, .int 0), (0, rf X.1 j0), (1, .int a1), (2, rf X.1 j2), (3, .int a3)]) hX dX8_lays_1 (by decide) rfl ?_
  refine z_sub (lv' := [(0, rf X.1 j0), (1, .int a1), (2, rf X.1 j2), (3, .int a3), (4, .int 0)]) [1, 2, 3, 4, 0] rfl ?_
  exact t_X8_lays_3 hR  N j0 a1 j2 a3 0 σ hk_j0 hk_j2 h
set_option maxRecDepth 20000 in
set_option maxHeartbeats 4000000 in
theorem t_X8_records_49 {X : CX} {N : Nat} {j0 : Nat} {σ σ' : HP} (hR : OkX X RX8 cX8_records 2 1 24 none none σ')  (hk_j0 : kd j0 = 8) (h : J_X8_records_49  N j0 σ = some σ') : Z X σ 49 [(0, rf X.1 j0)] [] := by
  have hX := hR.1
  unfold J_X8_records_49 at h
  refine z_aload_n hX dX8_records_49 0 rfl ?_
  refine g_X8_7 hX hk_j0 dX8_records_50 ?_
  refine z_iconst (x := 0) hX dX8_records_53 (by decide) ?_
  refine z_aload_n hX dX8_records_54 0 rfl ?_
  refine g_X8_16 hX hk_j0 dX8_records_55 ?_
  refine z_sipush (x := 152) hX dX8_records_58 (by decide) ?_
  refine z_aload_n hX dX8_records_61 0 rfl ?_
  refine g_X8_39 hX hk_j0 dX8_records_62 ?_
  refine z_imul hX dX8_records_65 ?_
  obtain ⟨σ22, k21, h⟩ := bind_some h
  refine v_X8_43 hX (c_X8_lays X.1 (kl_8_0 hk_j0).1 (kl_8_2 hk_j0).1 k21) (Nat.le_of_ble_eq_true rfl) (Nat.le_of_ble_eq_true rfl) (Nat.le_of_ble_eq_true rfl) dX8_records_66 ?_
  refine z_aload_n hX dX8_records_69 0 rfl ?_
  refine z_dup hX rfl dX8_records_70 ?_
  refine g_X8_39 hX hk_j0 dX8_records_71 ?_
  refine z_iconst (x := 1) hX dX8_records_74 (by decide) ?_
  refine z_iadd hX dX8_records_75 ?_
  obtain ⟨σ23, eσ23, h⟩ := bd_some h
  refine p_X8_39 hX hk_j0 dX8_records_76 ?_
  refine z_ms eσ23 ?_
  obtain rfl := ret1 h
  exact z_vret hR dX8_records_79
set_option maxRecDepth 20000 in
set_option maxHeartbeats 4000000 in
theorem t_X8_records_10 {X : CX} {N : Nat} {σ' : HP} (hR : OkX X RX8 cX8_records 2 1 24 none none σ')  : ∀ (n : Nat) (j0 : Nat) (a1 : Int32) (σ : HP), kd j0 = 8 → L_X8_records_10  N n j0 a1 σ = some σ' → Z X σ 10 [(0, rf X.1 j0), (1, .int a1)] [] := by
  have hX := hR.1
  intro n
  induction n with
  | zero =>
    intro j0 a1 σ hk_j0 h
    rw [L_X8_records_10] at h
    cases h
  | succ n ih =>
    intro j0 a1 σ hk_j0 h
    rw [L_X8_records_10] at h
    refine z_iload_n hX dX8_records_10 1 rfl ?_
    refine z_sipush (x := 456) hX dX8_records_11 (by decide) ?_
    rcases ite_or h with ⟨c21, h⟩ | ⟨c21, h⟩
    · refine z_icmp_ge_t hX 39 (by decide) dX8_records_14 c21 ?_
      refine z_aload_n hX dX8_records_39 0 rfl ?_
      refine z_dup hX rfl dX8_records_40 ?_
      refine g_X8_39 hX hk_j0 dX8_records_41 ?_
      refine z_iconst (x := 1) hX dX8_records_44 (by decide) ?_
      refine z_isub hX dX8_records_45 ?_
      obtain ⟨σ22, eσ22, h⟩ := bd_some h
      refine p_X8_39 hX hk_j0 dX8_records_46 ?_
      refine z_ms eσ22 ?_
      refine z_sub (lv' := [(0, rf X.1 j0)]) [0] rfl ?_
      exact t_X8_records_49 hR  hk_j0 h
    · refine z_icmp_ge_f hX 39 (by decide) dX8_records_14 c21 ?_
      refine z_aload_n hX dX8_records_17 0 rfl ?_
      refine g_X8_16 hX hk_j0 dX8_records_18 ?_
      refine z_iload_n hX dX8_records_21 1 rfl ?_
      refine z_aload_n hX dX8_records_22 0 rfl ?_
      refine g_X8_16 hX hk_j0 dX8_records_23 ?_
      refine z_iload_n hX dX8_records_26 1 rfl ?_
      refine z_sipush (x := 152) hX dX8_records_27 (by decide) ?_
      refine z_iadd hX dX8_records_30 ?_
      obtain ⟨g23, h⟩ := gd_some h
      refine z_iald hX (kl_8_2 hk_j0).1 (kl_8_2 hk_j0).2 g23 dX8_records_31 ?_
      obtain ⟨g24, h⟩ := gd_some h
      obtain ⟨σ25, eσ25, h⟩ := bd_some h
      refine z_iast hX (kl_8_2 hk_j0).1 (kl_8_2 hk_j0).2 g24 dX8_records_32 ?_
      refine z_ms eσ25 ?_
      refine z_iinc (y := (a1 + 1)) (lv' := [(1, .int (a1 + 1)), (0, rf X.1 j0)]) hX dX8_records_33 1 rfl rfl (by decide) rfl ?_
      refine z_goto hX 10 (by decide) dX8_records_36 ?_
      refine z_sub (lv' := [(0, rf X.1 j0), (1, .int (a1 + 1))]) [1, 0] rfl ?_
      exact ih j0 (a1 + 1) σ25 hk_j0 h
set_option maxRecDepth 20000 in
set_option maxHeartbeats 4000000 in
theorem c_X8_records (w : WP) {N : Nat} {j0 : Nat} {σ σ' : HP} (hk_j0 : kd j0 = 8) (h : F_X8_records N j0 σ = some σ') : Ct w yX8_records cX8_records 2 none 1 24 [rf w j0] σ none σ' := by
  refine z_met w (by decide +kernel) (Nat.le_of_ble_eq_true rfl) (fun X hw hX => ?_)
  subst hw
  have hR : OkX X RX8 cX8_records 2 1 24 none none σ' := hX
  have hX := hR.1
  show Z X σ 0 [(0, rf X.1 j0)] []
  unfold F_X8_records at h
  refine z_aload_n hX dX8_records_0 0 rfl ?_
  refine g_X8_39 hX hk_j0 dX8_records_1 ?_
  refine z_iconst (x := 4) hX dX8_records_4 (by decide) ?_
  rcases ite_or h with ⟨c21, h⟩ | ⟨c21, h⟩
  · refine z_icmp_ne_f hX 49 (by decide) dX8_records_5 c21 ?_
    refine z_iconst (x := 0) hX dX8_records_8 (by decide) ?_
    refine z_istore_n (lv' := [(1, .int 0), (0, rf X.1 j0)]) hX dX8_records_9 (by decide) rfl ?_
    refine z_sub (lv' := [(0, rf X.1 j0), (1, .int 0)]) [1, 0] rfl ?_
    exact t_X8_records_10 hR  N j0 0 σ hk_j0 h
  · refine z_icmp_ne_t hX 49 (by decide) dX8_records_5 c21 ?_
    exact t_X8_records_49 hR  hk_j0 h
set_option maxRecDepth 20000 in
set_option maxHeartbeats 4000000 in
theorem c_X8_of (w : WP) {N : Nat} {j0 : Nat} {a1 : Int32} {a2 : Int32} {r : Int32} {σ : HP} (hk_j0 : kd j0 = 9) (hl_j0 : ln j0 = 152) (h : F_X8_of N j0 a1 a2 σ = some r) : Ct w yX8_of cX8_of 3 (some .int) 0 0 [rf w j0, .int a1, .int a2] σ (some (.int r)) σ := by
  refine z_met w (by decide +kernel) (Nat.le_of_ble_eq_true rfl) (fun X hw hX => ?_)
  subst hw
  have hR : OkX X RX8 cX8_of 3 0 0 (some .int) (some (.int r)) σ := hX
  have hX := hR.1
  show Z X σ 0 [(0, rf X.1 j0), (1, .int a1), (2, .int a2)] []
  unfold F_X8_of at h
  refine z_aload_n hX dX8_of_0 0 rfl ?_
  refine z_bipush (x := 12) hX dX8_of_1 (by decide) ?_
  refine z_bipush (x := 6) hX dX8_of_3 (by decide) ?_
  refine z_iload_n hX dX8_of_5 1 rfl ?_
  refine z_imul hX dX8_of_6 ?_
  refine z_iadd hX dX8_of_7 ?_
  refine z_iload_n hX dX8_of_8 2 rfl ?_
  refine z_iadd hX dX8_of_9 ?_
  obtain ⟨g21, h⟩ := gd_some h
  refine z_iald hX hk_j0 hl_j0 g21 dX8_of_10 ?_
  obtain rfl := ret1 h
  exact z_iret hR dX8_of_11
set_option maxRecDepth 20000 in
set_option maxHeartbeats 4000000 in
theorem c_X8_puts (w : WP) {N : Nat} {j0 : Nat} {a1 : Int32} {a2 : Int32} {a3 : Int32} {σ σ' : HP} (hk_j0 : kd j0 = 9) (hl_j0 : ln j0 = 152) (h : F_X8_puts N j0 a1 a2 a3 σ = some σ') : Ct w yX8_puts cX8_puts 4 none 0 0 [rf w j0, .int a1, .int a2, .int a3] σ none σ' := by
  refine z_met w (by decide +kernel) (Nat.le_of_ble_eq_true rfl) (fun X hw hX => ?_)
  subst hw
  have hR : OkX X RX8 cX8_puts 4 0 0 none none σ' := hX
  have hX := hR.1
  show Z X σ 0 [(0, rf X.1 j0), (1, .int a1), (2, .int a2), (3, .int a3)] []
  unfold F_X8_puts at h
  refine z_aload_n hX dX8_puts_0 0 rfl ?_
  refine z_bipush (x := 12) hX dX8_puts_1 (by decide) ?_
  refine z_bipush (x := 6) hX dX8_puts_3 (by decide) ?_
  refine z_iload_n hX dX8_puts_5 1 rfl ?_
  refine z_imul hX dX8_puts_6 ?_
  refine z_iadd hX dX8_puts_7 ?_
  refine z_iload_n hX dX8_puts_8 2 rfl ?_
  refine z_iadd hX dX8_puts_9 ?_
  refine z_iload_n hX dX8_puts_10 3 rfl ?_
  obtain ⟨g21, h⟩ := gd_some h
  obtain ⟨σ22, eσ22, h⟩ := bd_some h
  refine z_iast hX hk_j0 hl_j0 g21 dX8_puts_11 ?_
  refine z_ms eσ22 ?_
  obtain rfl := ret1 h
  exact z_vret hR dX8_puts_12
set_option maxRecDepth 20000 in
set_option maxHeartbeats 4000000 in
theorem c_X8_isPlace (w : WP) {N : Nat} {j0 : Nat} {a1 : Int32} {r : Int32} {σ : HP} (hk_j0 : kd j0 = 8) (h : F_X8_isPlace N j0 a1 σ = some r) : Ct w yX8_isPlace cX8_isPlace 2 (some .boolean) 1 22 [rf w j0, .int a1] σ (some (.int r)) σ := by
  refine z_met w (by decide +kernel) (Nat.le_of_ble_eq_true rfl) (fun X hw hX => ?_)
  subst hw
  have hR : OkX X RX8 cX8_isPlace 2 1 22 (some .boolean) (some (.int r)) σ := hX
  have hX := hR.1
  show Z X σ 0 [(0, rf X.1 j0), (1, .int a1)] []
  unfold F_X8_isPlace at h
  refine z_iload_n hX dX8_isPlace_0 1 rfl ?_
  refine z_iconst (x := 0) hX dX8_isPlace_1 (by decide) ?_
  refine z_aload_n hX dX8_isPlace_2 0 rfl ?_
  refine g_X8_7 hX hk_j0 dX8_isPlace_3 ?_
  refine z_iconst (x := 0) hX dX8_isPlace_6 (by decide) ?_
  refine z_iald hX (kl_8_0 hk_j0).1 (kl_8_0 hk_j0).2 (by unfold vp_in; decide) dX8_isPlace_7 ?_
  refine z_iconst (x := 1) hX dX8_isPlace_8 (by decide) ?_
  refine z_isub hX dX8_isPlace_9 ?_
  obtain ⟨r22, k21, h⟩ := bind_some h
  refine v_X8_47 hX (c_X8_in X.1 k21) (Nat.le_of_ble_eq_true rfl) (Nat.le_of_ble_eq_true rfl) (Nat.le_of_ble_eq_true rfl) dX8_isPlace_10 ?_
  obtain ⟨g23, h⟩ := gd_some h
  obtain rfl := ret1 h
  exact z_zret hR (nb01 g23) dX8_isPlace_13
set_option maxRecDepth 20000 in
set_option maxHeartbeats 4000000 in
theorem c_X8_aside (w : WP) {N : Nat} {j0 : Nat} {a1 : Int32} {r : Int32} {σ : HP} (hk_j0 : kd j0 = 9) (hl_j0 : ln j0 = 152) (h : F_X8_aside N j0 a1 σ = some r) : Ct w yX8_aside cX8_aside 3 (some .int) 1 22 [rf w j0, .int a1] σ (some (.int r)) σ := by
  refine z_met w (by decide +kernel) (Nat.le_of_ble_eq_true rfl) (fun X hw hX => ?_)
  subst hw
  have hR : OkX X RX8 cX8_aside 3 1 22 (some .int) (some (.int r)) σ := hX
  have hX := hR.1
  show Z X σ 0 [(0, rf X.1 j0), (1, .int a1)] []
  unfold F_X8_aside at h
  refine z_aload_n hX dX8_aside_0 0 rfl ?_
  refine z_iconst (x := 3) hX dX8_aside_1 (by decide) ?_
  refine z_iald hX hk_j0 hl_j0 (by unfold vp_in; decide) dX8_aside_2 ?_
  refine z_aload_n hX dX8_aside_3 0 rfl ?_
  refine z_iload_n hX dX8_aside_4 1 rfl ?_
  refine z_iconst (x := 2) hX dX8_aside_5 (by decide) ?_
  obtain ⟨r22, k21, h⟩ := bind_some h
  refine v_X8_51 hX (c_X8_of X.1 hk_j0 hl_j0 k21) (Nat.le_of_ble_eq_true rfl) (Nat.le_of_ble_eq_true rfl) (Nat.le_of_ble_eq_true rfl) dX8_aside_6 ?_
  refine z_imul hX dX8_aside_9 ?_
  obtain ⟨x23, ex23, h⟩ := bd_some h
  refine z_top ex23 ?_
  refine z_istore_n (lv' := [(2, .int x23), (0, rf X.1 j0), (1, .int a1)]) hX dX8_aside_10 (by decide) rfl ?_
  refine z_aload_n hX dX8_aside_11 1 rfl ?_
  refine z_iconst (x := 2) hX dX8_aside_12 (by decide) ?_
  refine z_iald hX hk_j0 hl_j0 (by unfold vp_in; decide) dX8_aside_13 ?_
  refine z_iconst (x := 1) hX dX8_aside_14 (by decide) ?_
  rcases ite_or h with ⟨c24, h⟩ | ⟨c24, h⟩
  · refine z_icmp_ne_f hX 22 (by decide) dX8_aside_15 c24 ?_
    refine z_iload_n hX dX8_aside_18 0 rfl ?_
    refine z_goto hX 35 (by decide) dX8_aside_19 ?_
    obtain rfl := ret1 h
    exact z_iret hR dX8_aside_35
  · refine z_icmp_ne_t hX 22 (by decide) dX8_aside_15 c24 ?_
    refine z_aload_n hX dX8_aside_22 1 rfl ?_
    refine z_iconst (x := 2) hX dX8_aside_23 (by decide) ?_
    refine z_iald hX hk_j0 hl_j0 (by unfold vp_in; decide) dX8_aside_24 ?_
    refine z_iconst (x := 3) hX dX8_aside_25 (by decide) ?_
    rcases ite_or h with ⟨c25, h⟩ | ⟨c25, h⟩
    · refine z_icmp_ne_f hX 34 (by decide) dX8_aside_26 c25 ?_
      refine z_iload_n hX dX8_aside_29 0 rfl ?_
      refine z_ineg hX dX8_aside_30 ?_
      refine z_goto hX 35 (by decide) dX8_aside_31 ?_
      obtain rfl := ret1 h
      exact z_iret hR dX8_aside_35
    · refine z_icmp_ne_t hX 34 (by decide) dX8_aside_26 c25 ?_
      refine z_iconst (x := 0) hX dX8_aside_34 (by decide) ?_
      obtain rfl := ret1 h
      exact z_iret hR dX8_aside_35
set_option maxRecDepth 20000 in
set_option maxHeartbeats 4000000 in
theorem c_X8_shown (w : WP) {N : Nat} {j0 : Nat} {a1 : Int32} {r : Int32} {σ : HP} (hk_j0 : kd j0 = 9) (hl_j0 : ln j0 = 152) (h : F_X8_shown N j0 a1 σ = some r) : Ct w yX8_shown cX8_shown 2 (some .int) 2 44 [rf w j0, .int a1] σ (some (.int r)) σ := by
  refine z_met w (by decide +kernel) (Nat.le_of_ble_eq_true rfl) (fun X hw hX => ?_)
  subst hw
  have hR : OkX X RX8 cX8_shown 2 2 44 (some .int) (some (.int r)) σ := hX
  have hX := hR.1
  show Z X σ 0 [(0, rf X.1 j0), (1, .int a1)] []
  unfold F_X8_shown at h
  refine z_bipush (x := 10) hX dX8_shown_0 (by decide) ?_
  refine z_iload_n hX dX8_shown_2 1 rfl ?_
  refine z_imul hX dX8_shown_3 ?_
  refine z_aload_n hX dX8_shown_4 0 rfl ?_
  refine z_iload_n hX dX8_shown_5 1 rfl ?_
  obtain ⟨r22, k21, h⟩ := bind_some h
  refine v_X8_55 hX (c_X8_aside X.1 hk_j0 hl_j0 k21) (Nat.le_of_ble_eq_true rfl) (Nat.le_of_ble_eq_true rfl) (Nat.le_of_ble_eq_true rfl) dX8_shown_6 ?_
  refine z_iadd hX dX8_shown_9 ?_
  obtain rfl := ret1 h
  exact z_iret hR dX8_shown_10
set_option maxRecDepth 20000 in
set_option maxHeartbeats 4000000 in
theorem c_X8_isTangled (w : WP) {N : Nat} {j0 : Nat} {a1 : Int32} {r : Int32} {σ : HP} (hk_j0 : kd j0 = 9) (hl_j0 : ln j0 = 152) (h : F_X8_isTangled N j0 a1 σ = some r) : Ct w yX8_isTangled cX8_isTangled 2 (some .boolean) 1 22 [rf w j0, .int a1] σ (some (.int r)) σ := by
  refine z_met w (by decide +kernel) (Nat.le_of_ble_eq_true rfl) (fun X hw hX => ?_)
  subst hw
  have hR : OkX X RX8 cX8_isTangled 2 1 22 (some .boolean) (some (.int r)) σ := hX
  have hX := hR.1
  show Z X σ 0 [(0, rf X.1 j0), (1, .int a1)] []
  unfold F_X8_isTangled at h
  refine z_aload_n hX dX8_isTangled_0 0 rfl ?_
  refine z_iload_n hX dX8_isTangled_1 1 rfl ?_
  refine z_iconst (x := 4) hX dX8_isTangled_2 (by decide) ?_
  obtain ⟨r22, k21, h⟩ := bind_some h
  refine v_X8_51 hX (c_X8_of X.1 hk_j0 hl_j0 k21) (Nat.le_of_ble_eq_true rfl) (Nat.le_of_ble_eq_true rfl) (Nat.le_of_ble_eq_true rfl) dX8_isTangled_3 ?_
  rcases ite_or h with ⟨c23, h⟩ | ⟨c23, h⟩
  · refine z_if_le_t hX 13 (by decide) dX8_isTangled_6 c23 ?_
    refine z_iconst (x := 0) hX dX8_isTangled_13 (by decide) ?_
    obtain rfl := ret1 h
    exact z_zret hR rfl dX8_isTangled_14
  · refine z_if_le_f hX 13 (by decide) dX8_isTangled_6 c23 ?_
    refine z_iconst (x := 1) hX dX8_isTangled_9 (by decide) ?_
    refine z_goto hX 14 (by decide) dX8_isTangled_10 ?_
    obtain rfl := ret1 h
    exact z_zret hR rfl dX8_isTangled_14
set_option maxRecDepth 20000 in
set_option maxHeartbeats 4000000 in
theorem t_X8_isRead_45 {X : CX} {N : Nat} {k16 : (Nat → Int32 → Int32 → Int32 → Option (Int32))} {j0 : Nat} {a1 : Int32} {a3 : Int32} {r : Int32} {σ : HP} (hR : OkX X RX8 cX8_isRead 4 3 65 (some .boolean) (some (.int r)) σ) (hk16 : ∀ (j0 : Nat) (a1 : Int32) (a2 : Int32) (a3 : Int32), kd j0 = 9 → ln j0 = 152 → k16 j0 a1 a2 a3 = some r → Z X σ 16 [(0, rf X.1 j0), (1, .int a1), (2, .int a2), (3, .int a3)] []) (hk_j0 : kd j0 = 9) (hl_j0 : ln j0 = 152) (h : J_X8_isRead_45 k16 N j0 a1 a3 σ = some r) : Z X σ 45 [(0, rf X.1 j0), (1, .int a1), (3, .int a3)] [] := by
  have hX := hR.1
  unfold J_X8_isRead_45 at h
  refine z_iconst (x := 1) hX dX8_isRead_45 (by decide) ?_
  refine z_goto hX 50 (by decide) dX8_isRead_46 ?_
  refine z_istore_n (lv' := [(2, .int 1), (0, rf X.1 j0), (1, .int a1), (3, .int a3)]) hX dX8_isRead_50 (by decide) rfl ?_
  refine z_iinc (y := (a3 + 1)) (lv' := [(3, .int (a3 + 1)), (2, .int 1), (0, rf X.1 j0), (1, .int a1)]) hX dX8_isRead_51 3 rfl rfl (by decide) rfl ?_
  refine z_goto hX 16 (by decide) dX8_isRead_54 ?_
  refine z_sub (lv' := [(0, rf X.1 j0), (1, .int a1), (2, .int 1), (3, .int (a3 + 1))]) [2, 3, 1, 0] rfl ?_
  exact hk16 j0 a1 1 (a3 + 1) hk_j0 hl_j0 h
set_option maxRecDepth 20000 in
set_option maxHeartbeats 4000000 in
theorem t_X8_isRead_16 {X : CX} {N : Nat} {r : Int32} {σ : HP} (hR : OkX X RX8 cX8_isRead 4 3 65 (some .boolean) (some (.int r)) σ)  : ∀ (n : Nat) (j0 : Nat) (a1 : Int32) (a2 : Int32) (a3 : Int32), kd j0 = 9 → ln j0 = 152 → L_X8_isRead_16  N σ n j0 a1 a2 a3 = some r → Z X σ 16 [(0, rf X.1 j0), (1, .int a1), (2, .int a2), (3, .int a3)] [] := by
  have hX := hR.1
  intro n
  induction n with
  | zero =>
    intro j0 a1 a2 a3 hk_j0 hl_j0 h
    rw [L_X8_isRead_16] at h
    cases h
  | succ n ih =>
    intro j0 a1 a2 a3 hk_j0 hl_j0 h
    rw [L_X8_isRead_16] at h
    refine z_iload_n hX dX8_isRead_16 3 rfl ?_
    refine z_aload_n hX dX8_isRead_17 0 rfl ?_
    refine z_iconst (x := 0) hX dX8_isRead_18 (by decide) ?_
    refine z_iald hX hk_j0 hl_j0 (by unfold vp_in; decide) dX8_isRead_19 ?_
    rcases ite_or h with ⟨c21, h⟩ | ⟨c21, h⟩
    · refine z_icmp_ge_t hX 57 (by decide) dX8_isRead_20 c21 ?_
      refine z_iload_n hX dX8_isRead_57 2 rfl ?_
      obtain ⟨g22, h⟩ := gd_some h
      obtain rfl := ret1 h
      exact z_zret hR (nb01 g22) dX8_isRead_58
    · refine z_icmp_ge_f hX 57 (by decide) dX8_isRead_20 c21 ?_
      refine z_iload_n hX dX8_isRead_23 2 rfl ?_
      rcases ite_or h with ⟨c23, h⟩ | ⟨c23, h⟩
      · refine z_if_eq_t hX 49 (by decide) dX8_isRead_24 c23 ?_
        refine z_iconst (x := 0) hX dX8_isRead_49 (by decide) ?_
        refine z_istore_n (lv' := [(2, .int 0), (0, rf X.1 j0), (1, .int a1), (3, .int a3)]) hX dX8_isRead_50 (by decide) rfl ?_
        refine z_iinc (y := (a3 + 1)) (lv' := [(3, .int (a3 + 1)), (2, .int 0), (0, rf X.1 j0), (1, .int a1)]) hX dX8_isRead_51 3 rfl rfl (by decide) rfl ?_
        refine z_goto hX 16 (by decide) dX8_isRead_54 ?_
        refine z_sub (lv' := [(0, rf X.1 j0), (1, .int a1), (2, .int 0), (3, .int (a3 + 1))]) [2, 3, 1, 0] rfl ?_
        exact ih j0 a1 0 (a3 + 1) hk_j0 hl_j0 h
      · refine z_if_eq_f hX 49 (by decide) dX8_isRead_24 c23 ?_
        refine z_iload_n hX dX8_isRead_27 3 rfl ?_
        refine z_iload_n hX dX8_isRead_28 1 rfl ?_
        rcases ite_or h with ⟨c24, h⟩ | ⟨c24, h⟩
        · refine z_icmp_eq_t hX 45 (by decide) dX8_isRead_29 c24 ?_
          refine z_sub (lv' := [(0, rf X.1 j0), (1, .int a1), (3, .int a3)]) [0, 1, 3] rfl ?_
          exact t_X8_isRead_45 hR (fun j0 a1 a2 a3 hk_j0 hl_j0 h9 => ih j0 a1 a2 a3 hk_j0 hl_j0 h9) hk_j0 hl_j0 h
        · refine z_icmp_eq_f hX 45 (by decide) dX8_isRead_29 c24 ?_
          refine z_aload_n hX dX8_isRead_32 0 rfl ?_
          refine z_iload_n hX dX8_isRead_33 3 rfl ?_
          obtain ⟨r26, k25, h⟩ := bind_some h
          refine v_X8_63 hX (c_X8_shown X.1 hk_j0 hl_j0 k25) (Nat.le_of_ble_eq_true rfl) (Nat.le_of_ble_eq_true rfl) (Nat.le_of_ble_eq_true rfl) dX8_isRead_34 ?_
          refine z_aload_n hX dX8_isRead_37 0 rfl ?_
          refine z_iload_n hX dX8_isRead_38 1 rfl ?_
          obtain ⟨r28, k27, h⟩ := bind_some h
          refine v_X8_63 hX (c_X8_shown X.1 hk_j0 hl_j0 k27) (Nat.le_of_ble_eq_true rfl) (Nat.le_of_ble_eq_true rfl) (Nat.le_of_ble_eq_true rfl) dX8_isRead_39 ?_
          rcases ite_or h with ⟨c29, h⟩ | ⟨c29, h⟩
          · refine z_icmp_eq_t hX 49 (by decide) dX8_isRead_42 c29 ?_
            refine z_iconst (x := 0) hX dX8_isRead_49 (by decide) ?_
            refine z_istore_n (lv' := [(2, .int 0), (0, rf X.1 j0), (1, .int a1), (3, .int a3)]) hX dX8_isRead_50 (by decide) rfl ?_
            refine z_iinc (y := (a3 + 1)) (lv' := [(3, .int (a3 + 1)), (2, .int 0), (0, rf X.1 j0), (1, .int a1)]) hX dX8_isRead_51 3 rfl rfl (by decide) rfl ?_
            refine z_goto hX 16 (by decide) dX8_isRead_54 ?_
            refine z_sub (lv' := [(0, rf X.1 j0), (1, .int a1), (2, .int 0), (3, .int (a3 + 1))]) [2, 3, 1, 0] rfl ?_
            exact ih j0 a1 0 (a3 + 1) hk_j0 hl_j0 h
          · refine z_icmp_eq_f hX 49 (by decide) dX8_isRead_42 c29 ?_
            refine z_sub (lv' := [(0, rf X.1 j0), (1, .int a1), (3, .int a3)]) [0, 1, 3] rfl ?_
            exact t_X8_isRead_45 hR (fun j0 a1 a2 a3 hk_j0 hl_j0 h9 => ih j0 a1 a2 a3 hk_j0 hl_j0 h9) hk_j0 hl_j0 h
set_option maxRecDepth 20000 in
set_option maxHeartbeats 4000000 in
theorem t_X8_isRead_13 {X : CX} {N : Nat} {j0 : Nat} {a1 : Int32} {s0 : Int32} {r : Int32} {σ : HP} (hR : OkX X RX8 cX8_isRead 4 3 65 (some .boolean) (some (.int r)) σ)  (hk_j0 : kd j0 = 9) (hl_j0 : ln j0 = 152) (h : J_X8_isRead_13  N j0 a1 s0 σ = some r) : Z X σ 13 [(0, rf X.1 j0), (1, .int a1)] [.int s0] := by
  have hX := hR.1
  unfold J_X8_isRead_13 at h
  refine z_istore_n (lv' := [(2, .int s0), (0, rf X.1 j0), (1, .int a1)]) hX dX8_isRead_13 (by decide) rfl ?_
  refine z_iconst (x := 0) hX dX8_isRead_14 (by decide) ?_
  refine z_istore_n (lv' := [(3, .int 0), (2, .int s0), (0, rf X.1 j0), (1, .int a1)]) hX dX8_isRead_15 (by decide) rfl ?_
  refine z_sub (lv' := [(0, rf X.1 j0), (1, .int a1), (2, .int s0), (3, .int 0)]) [2, 3, 1, 0] rfl ?_
  exact t_X8_isRead_16 hR  N j0 a1 s0 0 hk_j0 hl_j0 h
set_option maxRecDepth 20000 in
set_option maxHeartbeats 4000000 in
theorem c_X8_isRead (w : WP) {N : Nat} {j0 : Nat} {a1 : Int32} {r : Int32} {σ : HP} (hk_j0 : kd j0 = 9) (hl_j0 : ln j0 = 152) (h : F_X8_isRead N j0 a1 σ = some r) : Ct w yX8_isRead cX8_isRead 4 (some .boolean) 3 65 [rf w j0, .int a1] σ (some (.int r)) σ := by
  refine z_met w (by decide +kernel) (Nat.le_of_ble_eq_true rfl) (fun X hw hX => ?_)
  subst hw
  have hR : OkX X RX8 cX8_isRead 4 3 65 (some .boolean) (some (.int r)) σ := hX
  have hX := hR.1
  show Z X σ 0 [(0, rf X.1 j0), (1, .int a1)] []
  unfold F_X8_isRead at h
  refine z_aload_n hX dX8_isRead_0 0 rfl ?_
  refine z_iload_n hX dX8_isRead_1 1 rfl ?_
  obtain ⟨r22, k21, h⟩ := bind_some h
  refine v_X8_59 hX (c_X8_isTangled X.1 hk_j0 hl_j0 k21) (Nat.le_of_ble_eq_true rfl) (Nat.le_of_ble_eq_true rfl) (Nat.le_of_ble_eq_true rfl) dX8_isRead_2 ?_
  rcases ite_or h with ⟨c23, h⟩ | ⟨c23, h⟩
  · refine z_if_ne_f hX 12 (by decide) dX8_isRead_5 c23 ?_
    refine z_iconst (x := 1) hX dX8_isRead_8 (by decide) ?_
    refine z_goto hX 13 (by decide) dX8_isRead_9 ?_
    exact t_X8_isRead_13 hR  hk_j0 hl_j0 h
  · refine z_if_ne_t hX 12 (by decide) dX8_isRead_5 c23 ?_
    refine z_iconst (x := 0) hX dX8_isRead_12 (by decide) ?_
    exact t_X8_isRead_13 hR  hk_j0 hl_j0 h
set_option maxRecDepth 20000 in
set_option maxHeartbeats 4000000 in
theorem t_X8_readable_4 {X : CX} {N : Nat} {r : Int32} {σ : HP} (hR : OkX X RX8 cX8_readable 3 4 88 (some .int) (some (.int r)) σ)  : ∀ (n : Nat) (j0 : Nat) (a1 : Int32) (a2 : Int32), kd j0 = 9 → ln j0 = 152 → L_X8_readable_4  N σ n j0 a1 a2 = some r → Z X σ 4 [(0, rf X.1 j0), (1, .int a1), (2, .int a2)] [] := by
  have hX := hR.1
  intro n
  induction n with
  | zero =>
    intro j0 a1 a2 hk_j0 hl_j0 h
    rw [L_X8_readable_4] at h
    cases h
  | succ n ih =>
    intro j0 a1 a2 hk_j0 hl_j0 h
    rw [L_X8_readable_4] at h
    refine z_iload_n hX dX8_readable_4 2 rfl ?_
    refine z_aload_n hX dX8_readable_5 0 rfl ?_
    refine z_iconst (x := 0) hX dX8_readable_6 (by decide) ?_
    refine z_iald hX hk_j0 hl_j0 (by unfold vp_in; decide) dX8_readable_7 ?_
    rcases ite_or h with ⟨c21, h⟩ | ⟨c21, h⟩
    · refine z_icmp_ge_t hX 33 (by decide) dX8_readable_8 c21 ?_
      refine z_iload_n hX dX8_readable_33 1 rfl ?_
      obtain rfl := ret1 h
      exact z_iret hR dX8_readable_34
    · refine z_icmp_ge_f hX 33 (by decide) dX8_readable_8 c21 ?_
      refine z_iload_n hX dX8_readable_11 1 rfl ?_
      refine z_aload_n hX dX8_readable_12 0 rfl ?_
      refine z_iload_n hX dX8_readable_13 2 rfl ?_
      obtain ⟨r23, k22, h⟩ := bind_some h
      refine v_X8_66 hX (c_X8_isRead X.1 hk_j0 hl_j0 k22) (Nat.le_of_ble_eq_true rfl) (Nat.le_of_ble_eq_true rfl) (Nat.le_of_ble_eq_true rfl) dX8_readable_14 ?_
      rcases ite_or h with ⟨c24, h⟩ | ⟨c24, h⟩
      · refine z_if_eq_t hX 24 (by decide) dX8_readable_17 c24 ?_
        refine z_iconst (x := 0) hX dX8_readable_24 (by decide) ?_
        refine z_iadd hX dX8_readable_25 ?_
        obtain ⟨x25, ex25, h⟩ := bd_some h
        refine z_top ex25 ?_
        refine z_istore_n (lv' := [(1, .int x25), (0, rf X.1 j0), (2, .int a2)]) hX dX8_readable_26 (by decide) rfl ?_
        refine z_iinc (y := (a2 + 1)) (lv' := [(2, .int (a2 + 1)), (1, .int x25), (0, rf X.1 j0)]) hX dX8_readable_27 2 rfl rfl (by decide) rfl ?_
        refine z_goto hX 4 (by decide) dX8_readable_30 ?_
        refine z_sub (lv' := [(0, rf X.1 j0), (1, .int x25), (2, .int (a2 + 1))]) [2, 1, 0] rfl ?_
        exact ih j0 x25 (a2 + 1) hk_j0 hl_j0 h
      · refine z_if_eq_f hX 24 (by decide) dX8_readable_17 c24 ?_
        refine z_iconst (x := 1) hX dX8_readable_20 (by decide) ?_
        refine z_goto hX 25 (by decide) dX8_readable_21 ?_
        refine z_iadd hX dX8_readable_25 ?_
        obtain ⟨x26, ex26, h⟩ := bd_some h
        refine z_top ex26 ?_
        refine z_istore_n (lv' := [(1, .int x26), (0, rf X.1 j0), (2, .int a2)]) hX dX8_readable_26 (by decide) rfl ?_
        refine z_iinc (y := (a2 + 1)) (lv' := [(2, .int (a2 + 1)), (1, .int x26), (0, rf X.1 j0)]) hX dX8_readable_27 2 rfl rfl (by decide) rfl ?_
        refine z_goto hX 4 (by decide) dX8_readable_30 ?_
        refine z_sub (lv' := [(0, rf X.1 j0), (1, .int x26), (2, .int (a2 + 1))]) [2, 1, 0] rfl ?_
        exact ih j0 x26 (a2 + 1) hk_j0 hl_j0 h
set_option maxRecDepth 20000 in
set_option maxHeartbeats 4000000 in
theorem c_X8_readable (w : WP) {N : Nat} {j0 : Nat} {r : Int32} {σ : HP} (hk_j0 : kd j0 = 9) (hl_j0 : ln j0 = 152) (h : F_X8_readable N j0 σ = some r) : Ct w yX8_readable cX8_readable 3 (some .int) 4 88 [rf w j0] σ (some (.int r)) σ := by
  refine z_met w (by decide +kernel) (Nat.le_of_ble_eq_true rfl) (fun X hw hX => ?_)
  subst hw
  have hR : OkX X RX8 cX8_readable 3 4 88 (some .int) (some (.int r)) σ := hX
  have hX := hR.1
  show Z X σ 0 [(0, rf X.1 j0)] []
  unfold F_X8_readable at h
  refine z_iconst (x := 0) hX dX8_readable_0 (by decide) ?_
  refine z_istore_n (lv' := [(1, .int 0), (0, rf X.1 j0)]) hX dX8_readable_1 (by decide) rfl ?_
  refine z_iconst (x := 0) hX dX8_readable_2 (by decide) ?_
  refine z_istore_n (lv' := [(2, .int 0), (1, .int 0), (0, rf X.1 j0)]) hX dX8_readable_3 (by decide) rfl ?_
  refine z_sub (lv' := [(0, rf X.1 j0), (1, .int 0), (2, .int 0)]) [2, 1, 0] rfl ?_
  exact t_X8_readable_4 hR  N j0 0 0 hk_j0 hl_j0 h
set_option maxRecDepth 20000 in
set_option maxHeartbeats 4000000 in
theorem t_X8_ranked_70 {X : CX} {N : Nat} {k2 : (Nat → Int32 → Int32 → Option (Int32))} {k14 : (Nat → Int32 → Int32 → Int32 → Int32 → Option (Int32))} {j0 : Nat} {a1 : Int32} {a2 : Int32} {a3 : Int32} {a4 : Int32} {s0 : Int32} {r : Int32} {σ : HP} (hR : OkX X RX8 cX8_ranked 6 4 88 (some .int) (some (.int r)) σ) (hk2 : ∀ (j0 : Nat) (a1 : Int32) (a2 : Int32), kd j0 = 9 → ln j0 = 152 → k2 j0 a1 a2 = some r → Z X σ 2 [(0, rf X.1 j0), (1, .int a1), (2, .int a2)] []) (hk14 : ∀ (j0 : Nat) (a1 : Int32) (a2 : Int32) (a3 : Int32) (a4 : Int32), kd j0 = 9 → ln j0 = 152 → k14 j0 a1 a2 a3 a4 = some r → Z X σ 14 [(0, rf X.1 j0), (1, .int a1), (2, .int a2), (3, .int a3), (4, .int a4)] []) (hk_j0 : kd j0 = 9) (hl_j0 : ln j0 = 152) (h : J_X8_ranked_70 k2 k14 N j0 a1 a2 a3 a4 s0 σ = some r) : Z X σ 70 [(0, rf X.1 j0), (1, .int a1), (2, .int a2), (3, .int a3), (4, .int a4)] [.int s0] := by
  have hX := hR.1
  unfold J_X8_ranked_70 at h
  refine z_istore (lv' := [(5, .int s0), (0, rf X.1 j0), (1, .int a1), (2, .int a2), (3, .int a3), (4, .int a4)]) hX dX8_ranked_70 (by decide) rfl ?_
  refine z_iload_n hX dX8_ranked_72 4 rfl ?_
  refine z_iload hX dX8_ranked_73 0 rfl ?_
  rcases ite_or h with ⟨c21, h⟩ | ⟨c21, h⟩
  · refine z_if_eq_t hX 91 (by decide) dX8_ranked_75 c21 ?_
    refine z_iconst (x := 0) hX dX8_ranked_91 (by decide) ?_
    refine z_iadd hX dX8_ranked_92 ?_
    obtain ⟨x22, ex22, h⟩ := bd_some h
    refine z_top ex22 ?_
    refine z_istore_n (lv' := [(3, .int x22), (5, .int s0), (0, rf X.1 j0), (1, .int a1), (2, .int a2), (4, .int a4)]) hX dX8_ranked_93 (by decide) rfl ?_
    refine z_iinc (y := (a4 + 1)) (lv' := [(4, .int (a4 + 1)), (3, .int x22), (5, .int s0), (0, rf X.1 j0), (1, .int a1), (2, .int a2)]) hX dX8_ranked_94 5 rfl rfl (by decide) rfl ?_
    refine z_goto hX 14 (by decide) dX8_ranked_97 ?_
    refine z_sub (lv' := [(0, rf X.1 j0), (1, .int a1), (2, .int a2), (3, .int x22), (4, .int (a4 + 1))]) [3, 4, 5, 1, 0] rfl ?_
    exact hk14 j0 a1 a2 x22 (a4 + 1) hk_j0 hl_j0 h
  · refine z_if_eq_f hX 91 (by decide) dX8_ranked_75 c21 ?_
    refine z_aload_n hX dX8_ranked_78 1 rfl ?_
    refine z_iload hX dX8_ranked_79 5 rfl ?_
    obtain ⟨r24, k23, h⟩ := bind_some h
    refine v_X8_66 hX (c_X8_isRead X.1 hk_j0 hl_j0 k23) (Nat.le_of_ble_eq_true rfl) (Nat.le_of_ble_eq_true rfl) (Nat.le_of_ble_eq_true rfl) dX8_ranked_81 ?_
    rcases ite_or h with ⟨c25, h⟩ | ⟨c25, h⟩
    · refine z_if_eq_t hX 91 (by decide) dX8_ranked_84 c25 ?_
      refine z_iconst (x := 0) hX dX8_ranked_91 (by decide) ?_
      refine z_iadd hX dX8_ranked_92 ?_
      obtain ⟨x26, ex26, h⟩ := bd_some h
      refine z_top ex26 ?_
      refine z_istore_n (lv' := [(3, .int x26), (5, .int s0), (0, rf X.1 j0), (1, .int a1), (2, .int a2), (4, .int a4)]) hX dX8_ranked_93 (by decide) rfl ?_
      refine z_iinc (y := (a4 + 1)) (lv' := [(4, .int (a4 + 1)), (3, .int x26), (5, .int s0), (0, rf X.1 j0), (1, .int a1), (2, .int a2)]) hX dX8_ranked_94 5 rfl rfl (by decide) rfl ?_
      refine z_goto hX 14 (by decide) dX8_ranked_97 ?_
      refine z_sub (lv' := [(0, rf X.1 j0), (1, .int a1), (2, .int a2), (3, .int x26), (4, .int (a4 + 1))]) [3, 4, 5, 1, 0] rfl ?_
      exact hk14 j0 a1 a2 x26 (a4 + 1) hk_j0 hl_j0 h
    · refine z_if_eq_f hX 91 (by decide) dX8_ranked_84 c25 ?_
      refine z_iconst (x := 1) hX dX8_ranked_87 (by decide) ?_
      refine z_goto hX 92 (by decide) dX8_ranked_88 ?_
      refine z_iadd hX dX8_ranked_92 ?_
      obtain ⟨x27, ex27, h⟩ := bd_some h
      refine z_top ex27 ?_
      refine z_istore_n (lv' := [(3, .int x27), (5, .int s0), (0, rf X.1 j0), (1, .int a1), (2, .int a2), (4, .int a4)]) hX dX8_ranked_93 (by decide) rfl ?_
      refine z_iinc (y := (a4 + 1)) (lv' := [(4, .int (a4 + 1)), (3, .int x27), (5, .int s0), (0, rf X.1 j0), (1, .int a1), (2, .int a2)]) hX dX8_ranked_94 5 rfl rfl (by decide) rfl ?_
      refine z_goto hX 14 (by decide) dX8_ranked_97 ?_
      refine z_sub (lv' := [(0, rf X.1 j0), (1, .int a1), (2, .int a2), (3, .int x27), (4, .int (a4 + 1))]) [3, 4, 5, 1, 0] rfl ?_
      exact hk14 j0 a1 a2 x27 (a4 + 1) hk_j0 hl_j0 h
set_option maxRecDepth 20000 in
set_option maxHeartbeats 4000000 in
theorem t_X8_ranked_14 {X : CX} {N : Nat} {k2 : (Nat → Int32 → Int32 → Option (Int32))} {r : Int32} {σ : HP} (hR : OkX X RX8 cX8_ranked 6 4 88 (some .int) (some (.int r)) σ) (hk2 : ∀ (j0 : Nat) (a1 : Int32) (a2 : Int32), kd j0 = 9 → ln j0 = 152 → k2 j0 a1 a2 = some r → Z X σ 2 [(0, rf X.1 j0), (1, .int a1), (2, .int a2)] []) : ∀ (n : Nat) (j0 : Nat) (a1 : Int32) (a2 : Int32) (a3 : Int32) (a4 : Int32), kd j0 = 9 → ln j0 = 152 → L_X8_ranked_14 k2 N σ n j0 a1 a2 a3 a4 = some r → Z X σ 14 [(0, rf X.1 j0), (1, .int a1), (2, .int a2), (3, .int a3), (4, .int a4)] [] := by
  have hX := hR.1
  intro n
  induction n with
  | zero =>
    intro j0 a1 a2 a3 a4 hk_j0 hl_j0 h
    rw [L_X8_ranked_14] at h
    cases h
  | succ n ih =>
    intro j0 a1 a2 a3 a4 hk_j0 hl_j0 h
    rw [L_X8_ranked_14] at h
    refine z_iload hX dX8_ranked_14 4 rfl ?_
    refine z_aload_n hX dX8_ranked_16 0 rfl ?_
    refine z_iconst (x := 0) hX dX8_ranked_17 (by decide) ?_
    refine z_iald hX hk_j0 hl_j0 (by unfold vp_in; decide) dX8_ranked_18 ?_
    rcases ite_or h with ⟨c21, h⟩ | ⟨c21, h⟩
    · refine z_icmp_ge_t hX 100 (by decide) dX8_ranked_19 c21 ?_
      refine z_aload_n hX dX8_ranked_100 0 rfl ?_
      refine z_iload_n hX dX8_ranked_101 2 rfl ?_
      obtain ⟨r23, k22, h⟩ := bind_some h
      refine v_X8_66 hX (c_X8_isRead X.1 hk_j0 hl_j0 k22) (Nat.le_of_ble_eq_true rfl) (Nat.le_of_ble_eq_true rfl) (Nat.le_of_ble_eq_true rfl) dX8_ranked_102 ?_
      rcases ite_or h with ⟨c24, h⟩ | ⟨c24, h⟩
      · refine z_if_eq_t hX 115 (by decide) dX8_ranked_105 c24 ?_
        refine z_iinc (y := (a2 + 1)) (lv' := [(2, .int (a2 + 1)), (0, rf X.1 j0), (1, .int a1), (3, .int a3), (4, .int a4)]) hX dX8_ranked_115 2 rfl rfl (by decide) rfl ?_
        refine z_goto hX 2 (by decide) dX8_ranked_118 ?_
        refine z_sub (lv' := [(0, rf X.1 j0), (1, .int a1), (2, .int (a2 + 1))]) [1, 2, 0] rfl ?_
        exact hk2 j0 a1 (a2 + 1) hk_j0 hl_j0 h
      · refine z_if_eq_f hX 115 (by decide) dX8_ranked_105 c24 ?_
        refine z_iload_n hX dX8_ranked_108 3 rfl ?_
        refine z_iload_n hX dX8_ranked_109 1 rfl ?_
        rcases ite_or h with ⟨c25, h⟩ | ⟨c25, h⟩
        · refine z_icmp_ne_f hX 115 (by decide) dX8_ranked_110 c25 ?_
          refine z_iload_n hX dX8_ranked_113 2 rfl ?_
          obtain rfl := ret1 h
          exact z_iret hR dX8_ranked_114
        · refine z_icmp_ne_t hX 115 (by decide) dX8_ranked_110 c25 ?_
          refine z_iinc (y := (a2 + 1)) (lv' := [(2, .int (a2 + 1)), (0, rf X.1 j0), (1, .int a1), (3, .int a3), (4, .int a4)]) hX dX8_ranked_115 2 rfl rfl (by decide) rfl ?_
          refine z_goto hX 2 (by decide) dX8_ranked_118 ?_
          refine z_sub (lv' := [(0, rf X.1 j0), (1, .int a1), (2, .int (a2 + 1))]) [1, 2, 0] rfl ?_
          exact hk2 j0 a1 (a2 + 1) hk_j0 hl_j0 h
    · refine z_icmp_ge_f hX 100 (by decide) dX8_ranked_19 c21 ?_
      refine z_aload_n hX dX8_ranked_22 0 rfl ?_
      refine z_iconst (x := 4) hX dX8_ranked_23 (by decide) ?_
      refine z_iald hX hk_j0 hl_j0 (by unfold vp_in; decide) dX8_ranked_24 ?_
      refine z_iconst (x := 1) hX dX8_ranked_25 (by decide) ?_
      rcases ite_or h with ⟨c26, h⟩ | ⟨c26, h⟩
      · refine z_icmp_ne_f hX 51 (by decide) dX8_ranked_26 c26 ?_
        refine z_aload_n hX dX8_ranked_29 0 rfl ?_
        refine z_iload hX dX8_ranked_30 4 rfl ?_
        obtain ⟨r33, k32, h⟩ := bind_some h
        refine v_X8_63 hX (c_X8_shown X.1 hk_j0 hl_j0 k32) (Nat.le_of_ble_eq_true rfl) (Nat.le_of_ble_eq_true rfl) (Nat.le_of_ble_eq_true rfl) dX8_ranked_32 ?_
        refine z_aload_n hX dX8_ranked_35 0 rfl ?_
        refine z_iload_n hX dX8_ranked_36 2 rfl ?_
        obtain ⟨r35, k34, h⟩ := bind_some h
        refine v_X8_63 hX (c_X8_shown X.1 hk_j0 hl_j0 k34) (Nat.le_of_ble_eq_true rfl) (Nat.le_of_ble_eq_true rfl) (Nat.le_of_ble_eq_true rfl) dX8_ranked_37 ?_
        rcases ite_or h with ⟨c36, h⟩ | ⟨c36, h⟩
        · refine z_icmp_le_t hX 47 (by decide) dX8_ranked_40 c36 ?_
          refine z_iconst (x := 0) hX dX8_ranked_47 (by decide) ?_
          refine z_goto hX 70 (by decide) dX8_ranked_48 ?_
          exact t_X8_ranked_70 hR hk2 (fun j0 a1 a2 a3 a4 hk_j0 hl_j0 h9 => ih j0 a1 a2 a3 a4 hk_j0 hl_j0 h9) hk_j0 hl_j0 h
        · refine z_icmp_le_f hX 47 (by decide) dX8_ranked_40 c36 ?_
          refine z_iconst (x := 1) hX dX8_ranked_43 (by decide) ?_
          refine z_goto hX 70 (by decide) dX8_ranked_44 ?_
          exact t_X8_ranked_70 hR hk2 (fun j0 a1 a2 a3 a4 hk_j0 hl_j0 h9 => ih j0 a1 a2 a3 a4 hk_j0 hl_j0 h9) hk_j0 hl_j0 h
      · refine z_icmp_ne_t hX 51 (by decide) dX8_ranked_26 c26 ?_
        refine z_aload_n hX dX8_ranked_51 0 rfl ?_
        refine z_iload hX dX8_ranked_52 4 rfl ?_
        obtain ⟨r28, k27, h⟩ := bind_some h
        refine v_X8_63 hX (c_X8_shown X.1 hk_j0 hl_j0 k27) (Nat.le_of_ble_eq_true rfl) (Nat.le_of_ble_eq_true rfl) (Nat.le_of_ble_eq_true rfl) dX8_ranked_54 ?_
        refine z_aload_n hX dX8_ranked_57 0 rfl ?_
        refine z_iload_n hX dX8_ranked_58 2 rfl ?_
        obtain ⟨r30, k29, h⟩ := bind_some h
        refine v_X8_63 hX (c_X8_shown X.1 hk_j0 hl_j0 k29) (Nat.le_of_ble_eq_true rfl) (Nat.le_of_ble_eq_true rfl) (Nat.le_of_ble_eq_true rfl) dX8_ranked_59 ?_
        rcases ite_or h with ⟨c31, h⟩ | ⟨c31, h⟩
        · refine z_icmp_ge_t hX 69 (by decide) dX8_ranked_62 c31 ?_
          refine z_iconst (x := 0) hX dX8_ranked_69 (by decide) ?_
          exact t_X8_ranked_70 hR hk2 (fun j0 a1 a2 a3 a4 hk_j0 hl_j0 h9 => ih j0 a1 a2 a3 a4 hk_j0 hl_j0 h9) hk_j0 hl_j0 h
        · refine z_icmp_ge_f hX 69 (by decide) dX8_ranked_62 c31 ?_
          refine z_iconst (x := 1) hX dX8_ranked_65 (by decide) ?_
          refine z_goto hX 70 (by decide) dX8_ranked_66 ?_
          exact t_X8_ranked_70 hR hk2 (fun j0 a1 a2 a3 a4 hk_j0 hl_j0 h9 => ih j0 a1 a2 a3 a4 hk_j0 hl_j0 h9) hk_j0 hl_j0 h
set_option maxRecDepth 20000 in
set_option maxHeartbeats 4000000 in
theorem t_X8_ranked_2 {X : CX} {N : Nat} {r : Int32} {σ : HP} (hR : OkX X RX8 cX8_ranked 6 4 88 (some .int) (some (.int r)) σ)  : ∀ (n : Nat) (j0 : Nat) (a1 : Int32) (a2 : Int32), kd j0 = 9 → ln j0 = 152 → L_X8_ranked_2  N σ n j0 a1 a2 = some r → Z X σ 2 [(0, rf X.1 j0), (1, .int a1), (2, .int a2)] [] := by
  have hX := hR.1
  intro n
  induction n with
  | zero =>
    intro j0 a1 a2 hk_j0 hl_j0 h
    rw [L_X8_ranked_2] at h
    cases h
  | succ n ih =>
    intro j0 a1 a2 hk_j0 hl_j0 h
    rw [L_X8_ranked_2] at h
    refine z_iload_n hX dX8_ranked_2 2 rfl ?_
    refine z_aload_n hX dX8_ranked_3 0 rfl ?_
    refine z_iconst (x := 0) hX dX8_ranked_4 (by decide) ?_
    refine z_iald hX hk_j0 hl_j0 (by unfold vp_in; decide) dX8_ranked_5 ?_
    rcases ite_or h with ⟨c21, h⟩ | ⟨c21, h⟩
    · refine z_icmp_ge_t hX 121 (by decide) dX8_ranked_6 c21 ?_
      refine z_ldc (x := (-1000005)) hX mc_X8_69 dX8_ranked_121 ?_
      obtain rfl := ret1 h
      exact z_iret hR dX8_ranked_123
    · refine z_icmp_ge_f hX 121 (by decide) dX8_ranked_6 c21 ?_
      refine z_iconst (x := 0) hX dX8_ranked_9 (by decide) ?_
      refine z_istore_n (lv' := [(3, .int 0), (0, rf X.1 j0), (1, .int a1), (2, .int a2)]) hX dX8_ranked_10 (by decide) rfl ?_
      refine z_iconst (x := 0) hX dX8_ranked_11 (by decide) ?_
      refine z_istore (lv' := [(4, .int 0), (3, .int 0), (0, rf X.1 j0), (1, .int a1), (2, .int a2)]) hX dX8_ranked_12 (by decide) rfl ?_
      refine z_sub (lv' := [(0, rf X.1 j0), (1, .int a1), (2, .int a2), (3, .int 0), (4, .int 0)]) [2, 3, 4, 1, 0] rfl ?_
      exact t_X8_ranked_14 hR (fun j0 a1 a2 hk_j0 hl_j0 h9 => ih j0 a1 a2 hk_j0 hl_j0 h9) N j0 a1 a2 0 0 hk_j0 hl_j0 h
set_option maxRecDepth 20000 in
set_option maxHeartbeats 4000000 in
theorem c_X8_ranked (w : WP) {N : Nat} {j0 : Nat} {a1 : Int32} {r : Int32} {σ : HP} (hk_j0 : kd j0 = 9) (hl_j0 : ln j0 = 152) (h : F_X8_ranked N j0 a1 σ = some r) : Ct w yX8_ranked cX8_ranked 6 (some .int) 4 88 [rf w j0, .int a1] σ (some (.int r)) σ := by
  refine z_met w (by decide +kernel) (Nat.le_of_ble_eq_true rfl) (fun X hw hX => ?_)
  subst hw
  have hR : OkX X RX8 cX8_ranked 6 4 88 (some .int) (some (.int r)) σ := hX
  have hX := hR.1
  show Z X σ 0 [(0, rf X.1 j0), (1, .int a1)] []
  unfold F_X8_ranked at h
  refine z_iconst (x := 0) hX dX8_ranked_0 (by decide) ?_
  refine z_istore_n (lv' := [(2, .int 0), (0, rf X.1 j0), (1, .int a1)]) hX dX8_ranked_1 (by decide) rfl ?_
  refine z_sub (lv' := [(0, rf X.1 j0), (1, .int a1), (2, .int 0)]) [1, 2, 0] rfl ?_
  exact t_X8_ranked_2 hR  N j0 a1 0 hk_j0 hl_j0 h
