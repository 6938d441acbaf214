set_option maxRecDepth 20000 in
set_option maxHeartbeats 4000000 in
theorem t_X8_isSpelled_35 {X : CX} {N : Nat} {r : Int32} {σ : HP} (hR : OkX X RX8 cX8_isSpelled 3 5 113 (some .boolean) (some (.int r)) σ)  : ∀ (n : Nat) (j0 : Nat) (a1 : Int32) (a2 : Int32), kd j0 = 9 → ln j0 = 152 → L_X8_isSpelled_35  N σ n j0 a1 a2 = some r → Z X σ 35 [(0, rf X.1 j0), (1, .int a1), (2, .int a2)] [] := by
  have hX := hR.1
  intro n
  induction n with
  | zero =>
    intro j0 a1 a2 hk_j0 hl_j0 h
    rw [L_X8_isSpelled_35] at h
    cases h
  | succ n ih =>
    intro j0 a1 a2 hk_j0 hl_j0 h
    rw [L_X8_isSpelled_35] at h
    refine z_iload_n hX dX8_isSpelled_35 2 rfl ?_
    refine z_aload_n hX dX8_isSpelled_36 0 rfl ?_
    refine z_bipush (x := 7) hX dX8_isSpelled_37 (by decide) ?_
    refine z_iald hX hk_j0 hl_j0 (by unfold vp_in; decide) dX8_isSpelled_39 ?_
    rcases ite_or h with ⟨c21, h⟩ | ⟨c21, h⟩
    · refine z_icmp_ge_t hX 78 (by decide) dX8_isSpelled_40 c21 ?_
      refine z_iload_n hX dX8_isSpelled_78 1 rfl ?_
      obtain ⟨g22, h⟩ := gd_some h
      obtain rfl := ret1 h
      exact z_zret hR (nb01 g22) dX8_isSpelled_79
    · refine z_icmp_ge_f hX 78 (by decide) dX8_isSpelled_40 c21 ?_
      refine z_iload_n hX dX8_isSpelled_43 1 rfl ?_
      rcases ite_or h with ⟨c23, h⟩ | ⟨c23, h⟩
      · refine z_if_eq_t hX 78 (by decide) dX8_isSpelled_44 c23 ?_
        refine z_iload_n hX dX8_isSpelled_78 1 rfl ?_
        obtain ⟨g24, h⟩ := gd_some h
        obtain rfl := ret1 h
        exact z_zret hR (nb01 g24) dX8_isSpelled_79
      · refine z_if_eq_f hX 78 (by decide) dX8_isSpelled_44 c23 ?_
        refine z_aload_n hX dX8_isSpelled_47 0 rfl ?_
        refine z_aload_n hX dX8_isSpelled_48 0 rfl ?_
        refine z_iload_n hX dX8_isSpelled_49 2 rfl ?_
        obtain ⟨r26, k25, h⟩ := bind_some h
        refine v_X8_74 hX (c_X8_ranked X.1 hk_j0 hl_j0 k25) (Nat.le_of_ble_eq_true rfl) (Nat.le_of_ble_eq_true rfl) (Nat.le_of_ble_eq_true rfl) dX8_isSpelled_50 ?_
        refine z_iconst (x := 1) hX dX8_isSpelled_53 (by decide) ?_
        obtain ⟨r28, k27, h⟩ := bind_some h
        refine v_X8_51 hX (c_X8_of X.1 hk_j0 hl_j0 k27) (Nat.le_of_ble_eq_true rfl) (Nat.le_of_ble_eq_true rfl) (Nat.le_of_ble_eq_true rfl) dX8_isSpelled_54 ?_
        refine z_aload_n hX dX8_isSpelled_57 0 rfl ?_
        refine z_bipush (x := 108) hX dX8_isSpelled_58 (by decide) ?_
        refine z_iload_n hX dX8_isSpelled_60 2 rfl ?_
        refine z_iadd hX dX8_isSpelled_61 ?_
        obtain ⟨g29, h⟩ := gd_some h
        refine z_iald hX hk_j0 hl_j0 g29 dX8_isSpelled_62 ?_
        rcases ite_or h with ⟨c30, h⟩ | ⟨c30, h⟩
        · refine z_icmp_ne_f hX 70 (by decide) dX8_isSpelled_63 c30 ?_
          refine z_iconst (x := 1) hX dX8_isSpelled_66 (by decide) ?_
          refine z_goto hX 71 (by decide) dX8_isSpelled_67 ?_
          refine z_istore_n (lv' := [(1, .int 1), (0, rf X.1 j0), (2, .int a2)]) hX dX8_isSpelled_71 (by decide) rfl ?_
          refine z_iinc (y := (a2 + 1)) (lv' := [(2, .int (a2 + 1)), (1, .int 1), (0, rf X.1 j0)]) hX dX8_isSpelled_72 2 rfl rfl (by decide) rfl ?_
          refine z_goto hX 35 (by decide) dX8_isSpelled_75 ?_
          refine z_sub (lv' := [(0, rf X.1 j0), (1, .int 1), (2, .int (a2 + 1))]) [2, 1, 0] rfl ?_
          exact ih j0 1 (a2 + 1) hk_j0 hl_j0 h
        · refine z_icmp_ne_t hX 70 (by decide) dX8_isSpelled_63 c30 ?_
          refine z_iconst (x := 0) hX dX8_isSpelled_70 (by decide) ?_
          refine z_istore_n (lv' := [(1, .int 0), (0, rf X.1 j0), (2, .int a2)]) hX dX8_isSpelled_71 (by decide) rfl ?_
          refine z_iinc (y := (a2 + 1)) (lv' := [(2, .int (a2 + 1)), (1, .int 0), (0, rf X.1 j0)]) hX dX8_isSpelled_72 2 rfl rfl (by decide) rfl ?_
          refine z_goto hX 35 (by decide) dX8_isSpelled_75 ?_
          refine z_sub (lv' := [(0, rf X.1 j0), (1, .int 0), (2, .int (a2 + 1))]) [2, 1, 0] rfl ?_
          exact ih j0 0 (a2 + 1) hk_j0 hl_j0 h
set_option maxRecDepth 20000 in
set_option maxHeartbeats 4000000 in
theorem t_X8_isSpelled_32 {X : CX} {N : Nat} {j0 : Nat} {s0 : Int32} {r : Int32} {σ : HP} (hR : OkX X RX8 cX8_isSpelled 3 5 113 (some .boolean) (some (.int r)) σ)  (hk_j0 : kd j0 = 9) (hl_j0 : ln j0 = 152) (h : J_X8_isSpelled_32  N j0 s0 σ = some r) : Z X σ 32 [(0, rf X.1 j0)] [.int s0] := by
  have hX := hR.1
  unfold J_X8_isSpelled_32 at h
  refine z_istore_n (lv' := [(1, .int s0), (0, rf X.1 j0)]) hX dX8_isSpelled_32 (by decide) rfl ?_
  refine z_iconst (x := 0) hX dX8_isSpelled_33 (by decide) ?_
  refine z_istore_n (lv' := [(2, .int 0), (1, .int s0), (0, rf X.1 j0)]) hX dX8_isSpelled_34 (by decide) rfl ?_
  refine z_sub (lv' := [(0, rf X.1 j0), (1, .int s0), (2, .int 0)]) [2, 1, 0] rfl ?_
  exact t_X8_isSpelled_35 hR  N j0 s0 0 hk_j0 hl_j0 h
set_option maxRecDepth 20000 in
set_option maxHeartbeats 4000000 in
theorem t_X8_isSpelled_31 {X : CX} {N : Nat} {j0 : Nat} {r : Int32} {σ : HP} (hR : OkX X RX8 cX8_isSpelled 3 5 113 (some .boolean) (some (.int r)) σ)  (hk_j0 : kd j0 = 9) (hl_j0 : ln j0 = 152) (h : J_X8_isSpelled_31  N j0 σ = some r) : Z X σ 31 [(0, rf X.1 j0)] [] := by
  have hX := hR.1
  unfold J_X8_isSpelled_31 at h
  refine z_iconst (x := 0) hX dX8_isSpelled_31 (by decide) ?_
  exact t_X8_isSpelled_32 hR  hk_j0 hl_j0 h
set_option maxRecDepth 20000 in
set_option maxHeartbeats 4000000 in
theorem c_X8_isSpelled (w : WP) {N : Nat} {j0 : Nat} {r : Int32} {σ : HP} (hk_j0 : kd j0 = 9) (hl_j0 : ln j0 = 152) (h : F_X8_isSpelled N j0 σ = some r) : Ct w yX8_isSpelled cX8_isSpelled 3 (some .boolean) 5 113 [rf w j0] σ (some (.int r)) σ := by
  refine z_met w (by decide +kernel) (Nat.le_of_ble_eq_true rfl) (fun X hw hX => ?_)
  subst hw
  have hR : OkX X RX8 cX8_isSpelled 3 5 113 (some .boolean) (some (.int r)) σ := hX
  have hX := hR.1
  show Z X σ 0 [(0, rf X.1 j0)] []
  unfold F_X8_isSpelled at h
  refine z_aload_n hX dX8_isSpelled_0 0 rfl ?_
  refine z_bipush (x := 7) hX dX8_isSpelled_1 (by decide) ?_
  refine z_iald hX hk_j0 hl_j0 (by unfold vp_in; decide) dX8_isSpelled_3 ?_
  rcases ite_or h with ⟨c21, h⟩ | ⟨c21, h⟩
  · refine z_if_le_t hX 31 (by decide) dX8_isSpelled_4 c21 ?_
    exact t_X8_isSpelled_31 hR  hk_j0 hl_j0 h
  · refine z_if_le_f hX 31 (by decide) dX8_isSpelled_4 c21 ?_
    refine z_aload_n hX dX8_isSpelled_7 0 rfl ?_
    refine z_iconst (x := 0) hX dX8_isSpelled_8 (by decide) ?_
    refine z_iald hX hk_j0 hl_j0 (by unfold vp_in; decide) dX8_isSpelled_9 ?_
    refine z_aload_n hX dX8_isSpelled_10 0 rfl ?_
    refine z_bipush (x := 7) hX dX8_isSpelled_11 (by decide) ?_
    refine z_iald hX hk_j0 hl_j0 (by unfold vp_in; decide) dX8_isSpelled_13 ?_
    rcases ite_or h with ⟨c22, h⟩ | ⟨c22, h⟩
    · refine z_icmp_ne_f hX 31 (by decide) dX8_isSpelled_14 c22 ?_
      refine z_aload_n hX dX8_isSpelled_17 0 rfl ?_
      obtain ⟨r24, k23, h⟩ := bind_some h
      refine v_X8_70 hX (c_X8_readable X.1 hk_j0 hl_j0 k23) (Nat.le_of_ble_eq_true rfl) (Nat.le_of_ble_eq_true rfl) (Nat.le_of_ble_eq_true rfl) dX8_isSpelled_18 ?_
      refine z_aload_n hX dX8_isSpelled_21 0 rfl ?_
      refine z_iconst (x := 0) hX dX8_isSpelled_22 (by decide) ?_
      refine z_iald hX hk_j0 hl_j0 (by unfold vp_in; decide) dX8_isSpelled_23 ?_
      rcases ite_or h with ⟨c25, h⟩ | ⟨c25, h⟩
      · refine z_icmp_ne_f hX 31 (by decide) dX8_isSpelled_24 c25 ?_
        refine z_iconst (x := 1) hX dX8_isSpelled_27 (by decide) ?_
        refine z_goto hX 32 (by decide) dX8_isSpelled_28 ?_
        exact t_X8_isSpelled_32 hR  hk_j0 hl_j0 h
      · refine z_icmp_ne_t hX 31 (by decide) dX8_isSpelled_24 c25 ?_
        exact t_X8_isSpelled_31 hR  hk_j0 hl_j0 h
    · refine z_icmp_ne_t hX 31 (by decide) dX8_isSpelled_14 c22 ?_
      exact t_X8_isSpelled_31 hR  hk_j0 hl_j0 h
set_option maxRecDepth 20000 in
set_option maxHeartbeats 4000000 in
theorem t_X8_letterAt_19 {X : CX} {N : Nat} {p0 : Nat} {s1 : Int32} {r : Int32} {σ : HP} (hR : OkX X RX8 cX8_letterAt 2 1 22 (some .int) (some (.int r)) σ)  (hk_p0 : kd p0 = 9) (hl_p0 : ln p0 = 152) (h : J_X8_letterAt_19  N p0 s1 σ = some r) : Z X σ 19 [] [.int s1, rf X.1 p0] := by
  have hX := hR.1
  unfold J_X8_letterAt_19 at h
  refine z_iconst (x := 1) hX dX8_letterAt_19 (by decide) ?_
  obtain ⟨r22, k21, h⟩ := bind_some h
  refine v_X8_51 hX (c_X8_of X.1 hk_p0 hl_p0 k21) (Nat.le_of_ble_eq_true rfl) (Nat.le_of_ble_eq_true rfl) (Nat.le_of_ble_eq_true rfl) dX8_letterAt_20 ?_
  obtain rfl := ret1 h
  exact z_iret hR dX8_letterAt_23
set_option maxRecDepth 20000 in
set_option maxHeartbeats 4000000 in
theorem c_X8_letterAt (w : WP) {N : Nat} {j0 : Nat} {a1 : Int32} {r : Int32} {σ : HP} (hk_j0 : kd j0 = 9) (hl_j0 : ln j0 = 152) (h : F_X8_letterAt N j0 a1 σ = some r) : Ct w yX8_letterAt cX8_letterAt 2 (some .int) 1 22 [rf w j0, .int a1] σ (some (.int r)) σ := by
  refine z_met w (by decide +kernel) (Nat.le_of_ble_eq_true rfl) (fun X hw hX => ?_)
  subst hw
  have hR : OkX X RX8 cX8_letterAt 2 1 22 (some .int) (some (.int r)) σ := hX
  have hX := hR.1
  show Z X σ 0 [(0, rf X.1 j0), (1, .int a1)] []
  unfold F_X8_letterAt at h
  refine z_aload_n hX dX8_letterAt_0 0 rfl ?_
  refine z_aload_n hX dX8_letterAt_1 0 rfl ?_
  refine z_iconst (x := 4) hX dX8_letterAt_2 (by decide) ?_
  refine z_iald hX hk_j0 hl_j0 (by unfold vp_in; decide) dX8_letterAt_3 ?_
  refine z_iconst (x := 1) hX dX8_letterAt_4 (by decide) ?_
  rcases ite_or h with ⟨c21, h⟩ | ⟨c21, h⟩
  · refine z_icmp_ne_f hX 18 (by decide) dX8_letterAt_5 c21 ?_
    refine z_aload_n hX dX8_letterAt_8 0 rfl ?_
    refine z_iconst (x := 0) hX dX8_letterAt_9 (by decide) ?_
    refine z_iald hX hk_j0 hl_j0 (by unfold vp_in; decide) dX8_letterAt_10 ?_
    refine z_iconst (x := 1) hX dX8_letterAt_11 (by decide) ?_
    refine z_isub hX dX8_letterAt_12 ?_
    refine z_iload_n hX dX8_letterAt_13 1 rfl ?_
    refine z_isub hX dX8_letterAt_14 ?_
    refine z_goto hX 19 (by decide) dX8_letterAt_15 ?_
    refine z_sub (lv' := []) [] rfl ?_
    exact t_X8_letterAt_19 hR  hk_j0 hl_j0 h
  · refine z_icmp_ne_t hX 18 (by decide) dX8_letterAt_5 c21 ?_
    refine z_iload_n hX dX8_letterAt_18 1 rfl ?_
    refine z_sub (lv' := []) [] rfl ?_
    exact t_X8_letterAt_19 hR  hk_j0 hl_j0 h
set_option maxRecDepth 20000 in
set_option maxHeartbeats 4000000 in
theorem t_X8_laysGoal_120 {X : CX} {N : Nat} {k53 : (Nat → Nat → Int32 → Int32 → HP → Option (Int32 × HP))} {j0 : Nat} {j1 : Nat} {a3 : Int32} {a4 : Int32} {s0 : Int32} {r : Int32} {σ σ' : HP} (hR : OkX X RX8 cX8_laysGoal 5 2 43 (some .boolean) (some (.int r)) σ') (hk53 : ∀ (j0 : Nat) (j1 : Nat) (a2 : Int32) (a3 : Int32) (σ9 : HP), kd j0 = 8 → kd j1 = 9 → ln j1 = 152 → k53 j0 j1 a2 a3 σ9 = some (r, σ') → Z X σ9 53 [(0, rf X.1 j0), (1, rf X.1 j1), (2, .int a2), (3, .int a3)] []) (hk_j0 : kd j0 = 8) (hk_j1 : kd j1 = 9) (hl_j1 : ln j1 = 152) (h : J_X8_laysGoal_120 k53 N j0 j1 a3 a4 s0 σ = some (r, σ')) : Z X σ 120 [(0, rf X.1 j0), (1, rf X.1 j1), (3, .int a3), (4, .int a4)] [.int s0] := by
  have hX := hR.1
  unfold J_X8_laysGoal_120 at h
  refine z_istore_n (lv' := [(2, .int s0), (0, rf X.1 j0), (1, rf X.1 j1), (3, .int a3), (4, .int a4)]) hX dX8_laysGoal_120 (by decide) rfl ?_
  refine z_iload_n hX dX8_laysGoal_121 0 rfl ?_
  rcases ite_or h with ⟨c21, h⟩ | ⟨c21, h⟩
  · refine z_if_eq_t hX 141 (by decide) dX8_laysGoal_122 c21 ?_
    refine z_iinc (y := (a3 + 1)) (lv' := [(3, .int (a3 + 1)), (2, .int s0), (0, rf X.1 j0), (1, rf X.1 j1), (4, .int a4)]) hX dX8_laysGoal_141 3 rfl rfl (by decide) rfl ?_
    refine z_goto hX 53 (by decide) dX8_laysGoal_144 ?_
    refine z_sub (lv' := [(0, rf X.1 j0), (1, rf X.1 j1), (2, .int s0), (3, .int (a3 + 1))]) [2, 3, 1, 0] rfl ?_
    exact hk53 j0 j1 s0 (a3 + 1) σ hk_j0 hk_j1 hl_j1 h
  · refine z_if_eq_f hX 141 (by decide) dX8_laysGoal_122 c21 ?_
    refine z_aload_n hX dX8_laysGoal_125 1 rfl ?_
    refine g_X8_26 hX hk_j0 dX8_laysGoal_126 ?_
    refine z_iload hX dX8_laysGoal_129 4 rfl ?_
    refine z_iconst (x := 1) hX dX8_laysGoal_131 (by decide) ?_
    obtain ⟨g22, h⟩ := gd_some h
    obtain ⟨σ23, eσ23, h⟩ := bd_some h
    refine z_zast hX (kl_8_8 hk_j0).1 (kl_8_8 hk_j0).2 g22 dX8_laysGoal_132 ?_
    refine z_ms eσ23 ?_
    refine z_aload_n hX dX8_laysGoal_133 1 rfl ?_
    refine g_X8_30 hX hk_j0 dX8_laysGoal_134 ?_
    refine z_iload_n hX dX8_laysGoal_137 3 rfl ?_
    refine z_iload hX dX8_laysGoal_138 4 rfl ?_
    obtain ⟨g24, h⟩ := gd_some h
    obtain ⟨σ25, eσ25, h⟩ := bd_some h
    refine z_iast hX (kl_8_9 hk_j0).1 (kl_8_9 hk_j0).2 g24 dX8_laysGoal_140 ?_
    refine z_ms eσ25 ?_
    refine z_iinc (y := (a3 + 1)) (lv' := [(3, .int (a3 + 1)), (2, .int s0), (0, rf X.1 j0), (1, rf X.1 j1), (4, .int a4)]) hX dX8_laysGoal_141 3 rfl rfl (by decide) rfl ?_
    refine z_goto hX 53 (by decide) dX8_laysGoal_144 ?_
    refine z_sub (lv' := [(0, rf X.1 j0), (1, rf X.1 j1), (2, .int s0), (3, .int (a3 + 1))]) [2, 3, 1, 0] rfl ?_
    exact hk53 j0 j1 s0 (a3 + 1) σ25 hk_j0 hk_j1 hl_j1 h
set_option maxRecDepth 20000 in
set_option maxHeartbeats 4000000 in
theorem t_X8_laysGoal_107 {X : CX} {N : Nat} {k53 : (Nat → Nat → Int32 → Int32 → HP → Option (Int32 × HP))} {j0 : Nat} {j1 : Nat} {a3 : Int32} {a4 : Int32} {r : Int32} {σ σ' : HP} (hR : OkX X RX8 cX8_laysGoal 5 2 43 (some .boolean) (some (.int r)) σ') (hk53 : ∀ (j0 : Nat) (j1 : Nat) (a2 : Int32) (a3 : Int32) (σ9 : HP), kd j0 = 8 → kd j1 = 9 → ln j1 = 152 → k53 j0 j1 a2 a3 σ9 = some (r, σ') → Z X σ9 53 [(0, rf X.1 j0), (1, rf X.1 j1), (2, .int a2), (3, .int a3)] []) (hk_j0 : kd j0 = 8) (hk_j1 : kd j1 = 9) (hl_j1 : ln j1 = 152) (h : J_X8_laysGoal_107 k53 N j0 j1 a3 a4 σ = some (r, σ')) : Z X σ 107 [(0, rf X.1 j0), (1, rf X.1 j1), (3, .int a3), (4, .int a4)] [] := by
  have hX := hR.1
  unfold J_X8_laysGoal_107 at h
  refine z_iload hX dX8_laysGoal_107 3 rfl ?_
  refine z_aload_n hX dX8_laysGoal_109 1 rfl ?_
  refine z_iconst (x := 0) hX dX8_laysGoal_110 (by decide) ?_
  refine z_iald hX hk_j1 hl_j1 (by unfold vp_in; decide) dX8_laysGoal_111 ?_
  rcases ite_or h with ⟨c21, h⟩ | ⟨c21, h⟩
  · refine z_icmp_ge_t hX 119 (by decide) dX8_laysGoal_112 c21 ?_
    refine z_iconst (x := 0) hX dX8_laysGoal_119 (by decide) ?_
    exact t_X8_laysGoal_120 hR hk53 hk_j0 hk_j1 hl_j1 h
  · refine z_icmp_ge_f hX 119 (by decide) dX8_laysGoal_112 c21 ?_
    refine z_iconst (x := 1) hX dX8_laysGoal_115 (by decide) ?_
    refine z_goto hX 120 (by decide) dX8_laysGoal_116 ?_
    exact t_X8_laysGoal_120 hR hk53 hk_j0 hk_j1 hl_j1 h
set_option maxRecDepth 20000 in
set_option maxHeartbeats 4000000 in
theorem t_X8_laysGoal_68 {X : CX} {N : Nat} {k53 : (Nat → Nat → Int32 → Int32 → HP → Option (Int32 × HP))} {r : Int32} {σ' : HP} (hR : OkX X RX8 cX8_laysGoal 5 2 43 (some .boolean) (some (.int r)) σ') (hk53 : ∀ (j0 : Nat) (j1 : Nat) (a2 : Int32) (a3 : Int32) (σ9 : HP), kd j0 = 8 → kd j1 = 9 → ln j1 = 152 → k53 j0 j1 a2 a3 σ9 = some (r, σ') → Z X σ9 53 [(0, rf X.1 j0), (1, rf X.1 j1), (2, .int a2), (3, .int a3)] []) : ∀ (n : Nat) (j0 : Nat) (j1 : Nat) (a3 : Int32) (a4 : Int32) (σ : HP), kd j0 = 8 → kd j1 = 9 → ln j1 = 152 → L_X8_laysGoal_68 k53 N n j0 j1 a3 a4 σ = some (r, σ') → Z X σ 68 [(0, rf X.1 j0), (1, rf X.1 j1), (3, .int a3), (4, .int a4)] [] := by
  have hX := hR.1
  intro n
  induction n with
  | zero =>
    intro j0 j1 a3 a4 σ hk_j0 hk_j1 hl_j1 h
    rw [L_X8_laysGoal_68] at h
    cases h
  | succ n ih =>
    intro j0 j1 a3 a4 σ hk_j0 hk_j1 hl_j1 h
    rw [L_X8_laysGoal_68] at h
    refine z_iload hX dX8_laysGoal_68 3 rfl ?_
    refine z_aload_n hX dX8_laysGoal_70 1 rfl ?_
    refine z_iconst (x := 0) hX dX8_laysGoal_71 (by decide) ?_
    refine z_iald hX hk_j1 hl_j1 (by unfold vp_in; decide) dX8_laysGoal_72 ?_
    rcases ite_or h with ⟨c21, h⟩ | ⟨c21, h⟩
    · refine z_icmp_ge_t hX 107 (by decide) dX8_laysGoal_73 c21 ?_
      exact t_X8_laysGoal_107 hR hk53 hk_j0 hk_j1 hl_j1 h
    · refine z_icmp_ge_f hX 107 (by decide) dX8_laysGoal_73 c21 ?_
      refine z_aload_n hX dX8_laysGoal_76 0 rfl ?_
      refine g_X8_26 hX hk_j0 dX8_laysGoal_77 ?_
      refine z_iload hX dX8_laysGoal_80 3 rfl ?_
      obtain ⟨g22, h⟩ := gd_some h
      refine z_zald hX (kl_8_8 hk_j0).1 (kl_8_8 hk_j0).2 g22 dX8_laysGoal_82 ?_
      rcases ite_or h with ⟨c23, h⟩ | ⟨c23, h⟩
      · refine z_if_ne_f hX 101 (by decide) dX8_laysGoal_83 c23 ?_
        refine z_aload_n hX dX8_laysGoal_86 1 rfl ?_
        refine z_iload hX dX8_laysGoal_87 3 rfl ?_
        obtain ⟨r25, k24, h⟩ := bind_some h
        refine v_X8_77 hX (c_X8_letterAt X.1 hk_j1 hl_j1 k24) (Nat.le_of_ble_eq_true rfl) (Nat.le_of_ble_eq_true rfl) (Nat.le_of_ble_eq_true rfl) dX8_laysGoal_89 ?_
        refine z_aload_n hX dX8_laysGoal_92 1 rfl ?_
        refine z_bipush (x := 108) hX dX8_laysGoal_93 (by decide) ?_
        refine z_iload_n hX dX8_laysGoal_95 2 rfl ?_
        refine z_iadd hX dX8_laysGoal_96 ?_
        obtain ⟨g26, h⟩ := gd_some h
        refine z_iald hX hk_j1 hl_j1 g26 dX8_laysGoal_97 ?_
        rcases ite_or h with ⟨c27, h⟩ | ⟨c27, h⟩
        · refine z_icmp_eq_t hX 107 (by decide) dX8_laysGoal_98 c27 ?_
          exact t_X8_laysGoal_107 hR hk53 hk_j0 hk_j1 hl_j1 h
        · refine z_icmp_eq_f hX 107 (by decide) dX8_laysGoal_98 c27 ?_
          refine z_iinc (y := (a4 + 1)) (lv' := [(4, .int (a4 + 1)), (0, rf X.1 j0), (1, rf X.1 j1), (3, .int a3)]) hX dX8_laysGoal_101 3 rfl rfl (by decide) rfl ?_
          refine z_goto hX 68 (by decide) dX8_laysGoal_104 ?_
          refine z_sub (lv' := [(0, rf X.1 j0), (1, rf X.1 j1), (3, .int a3), (4, .int (a4 + 1))]) [1, 2, 3, 0] rfl ?_
          exact ih j0 j1 a3 (a4 + 1) σ hk_j0 hk_j1 hl_j1 h
      · refine z_if_ne_t hX 101 (by decide) dX8_laysGoal_83 c23 ?_
        refine z_iinc (y := (a4 + 1)) (lv' := [(4, .int (a4 + 1)), (0, rf X.1 j0), (1, rf X.1 j1), (3, .int a3)]) hX dX8_laysGoal_101 3 rfl rfl (by decide) rfl ?_
        refine z_goto hX 68 (by decide) dX8_laysGoal_104 ?_
        refine z_sub (lv' := [(0, rf X.1 j0), (1, rf X.1 j1), (3, .int a3), (4, .int (a4 + 1))]) [1, 2, 3, 0] rfl ?_
        exact ih j0 j1 a3 (a4 + 1) σ hk_j0 hk_j1 hl_j1 h
set_option maxRecDepth 20000 in
set_option maxHeartbeats 4000000 in
theorem t_X8_laysGoal_53 {X : CX} {N : Nat} {r : Int32} {σ' : HP} (hR : OkX X RX8 cX8_laysGoal 5 2 43 (some .boolean) (some (.int r)) σ')  : ∀ (n : Nat) (j0 : Nat) (j1 : Nat) (a2 : Int32) (a3 : Int32) (σ : HP), kd j0 = 8 → kd j1 = 9 → ln j1 = 152 → L_X8_laysGoal_53  N n j0 j1 a2 a3 σ = some (r, σ') → Z X σ 53 [(0, rf X.1 j0), (1, rf X.1 j1), (2, .int a2), (3, .int a3)] [] := by
  have hX := hR.1
  intro n
  induction n with
  | zero =>
    intro j0 j1 a2 a3 σ hk_j0 hk_j1 hl_j1 h
    rw [L_X8_laysGoal_53] at h
    cases h
  | succ n ih =>
    intro j0 j1 a2 a3 σ hk_j0 hk_j1 hl_j1 h
    rw [L_X8_laysGoal_53] at h
    refine z_iload_n hX dX8_laysGoal_53 3 rfl ?_
    refine z_aload_n hX dX8_laysGoal_54 1 rfl ?_
    refine z_bipush (x := 7) hX dX8_laysGoal_55 (by decide) ?_
    refine z_iald hX hk_j1 hl_j1 (by unfold vp_in; decide) dX8_laysGoal_57 ?_
    rcases ite_or h with ⟨c21, h⟩ | ⟨c21, h⟩
    · refine z_icmp_ge_t hX 147 (by decide) dX8_laysGoal_58 c21 ?_
      refine z_iload_n hX dX8_laysGoal_147 2 rfl ?_
      obtain ⟨g22, h⟩ := gd_some h
      obtain ⟨rfl, rfl⟩ := ret2 h
      exact z_zret hR (nb01 g22) dX8_laysGoal_148
    · refine z_icmp_ge_f hX 147 (by decide) dX8_laysGoal_58 c21 ?_
      refine z_iload_n hX dX8_laysGoal_61 2 rfl ?_
      rcases ite_or h with ⟨c23, h⟩ | ⟨c23, h⟩
      · refine z_if_eq_t hX 147 (by decide) dX8_laysGoal_62 c23 ?_
        refine z_iload_n hX dX8_laysGoal_147 2 rfl ?_
        obtain ⟨g24, h⟩ := gd_some h
        obtain ⟨rfl, rfl⟩ := ret2 h
        exact z_zret hR (nb01 g24) dX8_laysGoal_148
      · refine z_if_eq_f hX 147 (by decide) dX8_laysGoal_62 c23 ?_
        refine z_iconst (x := 0) hX dX8_laysGoal_65 (by decide) ?_
        refine z_istore (lv' := [(4, .int 0), (0, rf X.1 j0), (1, rf X.1 j1), (2, .int a2), (3, .int a3)]) hX dX8_laysGoal_66 (by decide) rfl ?_
        refine z_sub (lv' := [(0, rf X.1 j0), (1, rf X.1 j1), (3, .int a3), (4, .int 0)]) [1, 2, 4, 0] rfl ?_
        exact t_X8_laysGoal_68 hR (fun j0 j1 a2 a3 σ9 hk_j0 hk_j1 hl_j1 h9 => ih j0 j1 a2 a3 σ9 hk_j0 hk_j1 hl_j1 h9) N j0 j1 a3 0 σ hk_j0 hk_j1 hl_j1 h
set_option maxRecDepth 20000 in
set_option maxHeartbeats 4000000 in
theorem t_X8_laysGoal_50 {X : CX} {N : Nat} {j0 : Nat} {j1 : Nat} {s0 : Int32} {r : Int32} {σ σ' : HP} (hR : OkX X RX8 cX8_laysGoal 5 2 43 (some .boolean) (some (.int r)) σ')  (hk_j0 : kd j0 = 8) (hk_j1 : kd j1 = 9) (hl_j1 : ln j1 = 152) (h : J_X8_laysGoal_50  N j0 j1 s0 σ = some (r, σ')) : Z X σ 50 [(0, rf X.1 j0), (1, rf X.1 j1)] [.int s0] := by
  have hX := hR.1
  unfold J_X8_laysGoal_50 at h
  refine z_istore_n (lv' := [(2, .int s0), (0, rf X.1 j0), (1, rf X.1 j1)]) hX dX8_laysGoal_50 (by decide) rfl ?_
  refine z_iconst (x := 0) hX dX8_laysGoal_51 (by decide) ?_
  refine z_istore_n (lv' := [(3, .int 0), (2, .int s0), (0, rf X.1 j0), (1, rf X.1 j1)]) hX dX8_laysGoal_52 (by decide) rfl ?_
  refine z_sub (lv' := [(0, rf X.1 j0), (1, rf X.1 j1), (2, .int s0), (3, .int 0)]) [2, 3, 1, 0] rfl ?_
  exact t_X8_laysGoal_53 hR  N j0 j1 s0 0 σ hk_j0 hk_j1 hl_j1 h
set_option maxRecDepth 20000 in
set_option maxHeartbeats 4000000 in
theorem t_X8_laysGoal_49 {X : CX} {N : Nat} {j0 : Nat} {j1 : Nat} {r : Int32} {σ σ' : HP} (hR : OkX X RX8 cX8_laysGoal 5 2 43 (some .boolean) (some (.int r)) σ')  (hk_j0 : kd j0 = 8) (hk_j1 : kd j1 = 9) (hl_j1 : ln j1 = 152) (h : J_X8_laysGoal_49  N j0 j1 σ = some (r, σ')) : Z X σ 49 [(0, rf X.1 j0), (1, rf X.1 j1)] [] := by
  have hX := hR.1
  unfold J_X8_laysGoal_49 at h
  refine z_iconst (x := 0) hX dX8_laysGoal_49 (by decide) ?_
  exact t_X8_laysGoal_50 hR  hk_j0 hk_j1 hl_j1 h
set_option maxRecDepth 20000 in
set_option maxHeartbeats 4000000 in
theorem t_X8_laysGoal_2 {X : CX} {N : Nat} {r : Int32} {σ' : HP} (hR : OkX X RX8 cX8_laysGoal 5 2 43 (some .boolean) (some (.int r)) σ')  : ∀ (n : Nat) (j0 : Nat) (j1 : Nat) (a2 : Int32) (σ : HP), kd j0 = 8 → kd j1 = 9 → ln j1 = 152 → L_X8_laysGoal_2  N n j0 j1 a2 σ = some (r, σ') → Z X σ 2 [(0, rf X.1 j0), (1, rf X.1 j1), (2, .int a2)] [] := by
  have hX := hR.1
  intro n
  induction n with
  | zero =>
    intro j0 j1 a2 σ hk_j0 hk_j1 hl_j1 h
    rw [L_X8_laysGoal_2] at h
    cases h
  | succ n ih =>
    intro j0 j1 a2 σ hk_j0 hk_j1 hl_j1 h
    rw [L_X8_laysGoal_2] at h
    refine z_iload_n hX dX8_laysGoal_2 2 rfl ?_
    refine z_bipush (x := 12) hX dX8_laysGoal_3 (by decide) ?_
    rcases ite_or h with ⟨c21, h⟩ | ⟨c21, h⟩
    · refine z_icmp_ge_t hX 28 (by decide) dX8_laysGoal_5 c21 ?_
      refine z_aload_n hX dX8_laysGoal_28 1 rfl ?_
      refine z_bipush (x := 7) hX dX8_laysGoal_29 (by decide) ?_
      refine z_iald hX hk_j1 hl_j1 (by unfold vp_in; decide) dX8_laysGoal_31 ?_
      rcases ite_or h with ⟨c22, h⟩ | ⟨c22, h⟩
      · refine z_if_le_t hX 49 (by decide) dX8_laysGoal_32 c22 ?_
        refine z_sub (lv' := [(0, rf X.1 j0), (1, rf X.1 j1)]) [0, 1] rfl ?_
        exact t_X8_laysGoal_49 hR  hk_j0 hk_j1 hl_j1 h
      · refine z_if_le_f hX 49 (by decide) dX8_laysGoal_32 c22 ?_
        refine z_aload_n hX dX8_laysGoal_35 1 rfl ?_
        refine z_iconst (x := 0) hX dX8_laysGoal_36 (by decide) ?_
        refine z_iald hX hk_j1 hl_j1 (by unfold vp_in; decide) dX8_laysGoal_37 ?_
        refine z_aload_n hX dX8_laysGoal_38 1 rfl ?_
        refine z_bipush (x := 7) hX dX8_laysGoal_39 (by decide) ?_
        refine z_iald hX hk_j1 hl_j1 (by unfold vp_in; decide) dX8_laysGoal_41 ?_
        rcases ite_or h with ⟨c23, h⟩ | ⟨c23, h⟩
        · refine z_icmp_ne_f hX 49 (by decide) dX8_laysGoal_42 c23 ?_
          refine z_iconst (x := 1) hX dX8_laysGoal_45 (by decide) ?_
          refine z_goto hX 50 (by decide) dX8_laysGoal_46 ?_
          refine z_sub (lv' := [(0, rf X.1 j0), (1, rf X.1 j1)]) [0, 1] rfl ?_
          exact t_X8_laysGoal_50 hR  hk_j0 hk_j1 hl_j1 h
        · refine z_icmp_ne_t hX 49 (by decide) dX8_laysGoal_42 c23 ?_
          refine z_sub (lv' := [(0, rf X.1 j0), (1, rf X.1 j1)]) [0, 1] rfl ?_
          exact t_X8_laysGoal_49 hR  hk_j0 hk_j1 hl_j1 h
    · refine z_icmp_ge_f hX 28 (by decide) dX8_laysGoal_5 c21 ?_
      refine z_aload_n hX dX8_laysGoal_8 0 rfl ?_
      refine g_X8_26 hX hk_j0 dX8_laysGoal_9 ?_
      refine z_iload_n hX dX8_laysGoal_12 2 rfl ?_
      refine z_iconst (x := 0) hX dX8_laysGoal_13 (by decide) ?_
      obtain ⟨g24, h⟩ := gd_some h
      obtain ⟨σ25, eσ25, h⟩ := bd_some h
      refine z_zast hX (kl_8_8 hk_j0).1 (kl_8_8 hk_j0).2 g24 dX8_laysGoal_14 ?_
      refine z_ms eσ25 ?_
      refine z_aload_n hX dX8_laysGoal_15 0 rfl ?_
      refine g_X8_30 hX hk_j0 dX8_laysGoal_16 ?_
      refine z_iload_n hX dX8_laysGoal_19 2 rfl ?_
      refine z_iconst (x := 0) hX dX8_laysGoal_20 (by decide) ?_
      obtain ⟨g26, h⟩ := gd_some h
      obtain ⟨σ27, eσ27, h⟩ := bd_some h
      refine z_iast hX (kl_8_9 hk_j0).1 (kl_8_9 hk_j0).2 g26 dX8_laysGoal_21 ?_
      refine z_ms eσ27 ?_
      refine z_iinc (y := (a2 + 1)) (lv' := [(2, .int (a2 + 1)), (0, rf X.1 j0), (1, rf X.1 j1)]) hX dX8_laysGoal_22 2 rfl rfl (by decide) rfl ?_
      refine z_goto hX 2 (by decide) dX8_laysGoal_25 ?_
      refine z_sub (lv' := [(0, rf X.1 j0), (1, rf X.1 j1), (2, .int (a2 + 1))]) [1, 2, 0] rfl ?_
      exact ih j0 j1 (a2 + 1) σ27 hk_j0 hk_j1 hl_j1 h
set_option maxRecDepth 20000 in
set_option maxHeartbeats 4000000 in
theorem c_X8_laysGoal (w : WP) {N : Nat} {j0 : Nat} {j1 : Nat} {r : Int32} {σ σ' : HP} (hk_j0 : kd j0 = 8) (hk_j1 : kd j1 = 9) (hl_j1 : ln j1 = 152) (h : F_X8_laysGoal N j0 j1 σ = some (r, σ')) : Ct w yX8_laysGoal cX8_laysGoal 5 (some .boolean) 2 43 [rf w j0, rf w j1] σ (some (.int r)) σ' := by
  refine z_met w (by decide +kernel) (Nat.le_of_ble_eq_true rfl) (fun X hw hX => ?_)
  subst hw
  have hR : OkX X RX8 cX8_laysGoal 5 2 43 (some .boolean) (some (.int r)) σ' := hX
  have hX := hR.1
  show Z X σ 0 [(0, rf X.1 j0), (1, rf X.1 j1)] []
  unfold F_X8_laysGoal at h
  refine z_iconst (x := 0) hX dX8_laysGoal_0 (by decide) ?_
  refine z_istore_n (lv' := [(2, .int 0), (0, rf X.1 j0), (1, rf X.1 j1)]) hX dX8_laysGoal_1 (by decide) rfl ?_
  refine z_sub (lv' := [(0, rf X.1 j0), (1, rf X.1 j1), (2, .int 0)]) [1, 2, 0] rfl ?_
  exact t_X8_laysGoal_2 hR  N j0 j1 0 σ hk_j0 hk_j1 hl_j1 h
set_option maxRecDepth 20000 in
set_option maxHeartbeats 4000000 in
theorem t_X8_fewest_26 {X : CX} {N : Nat} {k15 : (Nat → Nat → Int32 → Int32 → HP → Option (Int32 × HP))} {r : Int32} {σ' : HP} (hR : OkX X RX8 cX8_fewest 5 3 67 (some .int) (some (.int r)) σ') (hk15 : ∀ (j0 : Nat) (j1 : Nat) (a2 : Int32) (a3 : Int32) (σ9 : HP), kd j0 = 8 → kd j1 = 9 → ln j1 = 152 → k15 j0 j1 a2 a3 σ9 = some (r, σ') → Z X σ9 15 [(0, rf X.1 j0), (1, rf X.1 j1), (2, .int a2), (3, .int a3)] []) : ∀ (n : Nat) (j0 : Nat) (j1 : Nat) (a2 : Int32) (a3 : Int32) (a4 : Int32) (σ : HP), kd j0 = 8 → kd j1 = 9 → ln j1 = 152 → L_X8_fewest_26 k15 N n j0 j1 a2 a3 a4 σ = some (r, σ') → Z X σ 26 [(0, rf X.1 j0), (1, rf X.1 j1), (2, .int a2), (3, .int a3), (4, .int a4)] [] := by
  have hX := hR.1
  intro n
  induction n with
  | zero =>
    intro j0 j1 a2 a3 a4 σ hk_j0 hk_j1 hl_j1 h
    rw [L_X8_fewest_26] at h
    cases h
  | succ n ih =>
    intro j0 j1 a2 a3 a4 σ hk_j0 hk_j1 hl_j1 h
    rw [L_X8_fewest_26] at h
    refine z_iload hX dX8_fewest_26 4 rfl ?_
    refine z_iload_n hX dX8_fewest_28 3 rfl ?_
    rcases ite_or h with ⟨c21, h⟩ | ⟨c21, h⟩
    · refine z_icmp_ge_t hX 62 (by decide) dX8_fewest_29 c21 ?_
      refine z_iinc (y := (a3 + 1)) (lv' := [(3, .int (a3 + 1)), (0, rf X.1 j0), (1, rf X.1 j1), (2, .int a2), (4, .int a4)]) hX dX8_fewest_62 3 rfl rfl (by decide) rfl ?_
      refine z_goto hX 15 (by decide) dX8_fewest_65 ?_
      refine z_sub (lv' := [(0, rf X.1 j0), (1, rf X.1 j1), (2, .int a2), (3, .int (a3 + 1))]) [1, 2, 3, 0] rfl ?_
      exact hk15 j0 j1 a2 (a3 + 1) σ hk_j0 hk_j1 hl_j1 h
    · refine z_icmp_ge_f hX 62 (by decide) dX8_fewest_29 c21 ?_
      refine z_iload_n hX dX8_fewest_32 2 rfl ?_
      refine z_aload_n hX dX8_fewest_33 0 rfl ?_
      refine g_X8_30 hX hk_j0 dX8_fewest_34 ?_
      refine z_iload hX dX8_fewest_37 4 rfl ?_
      obtain ⟨g22, h⟩ := gd_some h
      refine z_iald hX (kl_8_9 hk_j0).1 (kl_8_9 hk_j0).2 g22 dX8_fewest_39 ?_
      refine z_aload_n hX dX8_fewest_40 0 rfl ?_
      refine g_X8_30 hX hk_j0 dX8_fewest_41 ?_
      refine z_iload_n hX dX8_fewest_44 3 rfl ?_
      obtain ⟨g23, h⟩ := gd_some h
      refine z_iald hX (kl_8_9 hk_j0).1 (kl_8_9 hk_j0).2 g23 dX8_fewest_45 ?_
      rcases ite_or h with ⟨c24, h⟩ | ⟨c24, h⟩
      · refine z_icmp_le_t hX 53 (by decide) dX8_fewest_46 c24 ?_
        refine z_iconst (x := 0) hX dX8_fewest_53 (by decide) ?_
        refine z_iadd hX dX8_fewest_54 ?_
        obtain ⟨x25, ex25, h⟩ := bd_some h
        refine z_top ex25 ?_
        refine z_istore_n (lv' := [(2, .int x25), (0, rf X.1 j0), (1, rf X.1 j1), (3, .int a3), (4, .int a4)]) hX dX8_fewest_55 (by decide) rfl ?_
        refine z_iinc (y := (a4 + 1)) (lv' := [(4, .int (a4 + 1)), (2, .int x25), (0, rf X.1 j0), (1, rf X.1 j1), (3, .int a3)]) hX dX8_fewest_56 4 rfl rfl (by decide) rfl ?_
        refine z_goto hX 26 (by decide) dX8_fewest_59 ?_
        refine z_sub (lv' := [(0, rf X.1 j0), (1, rf X.1 j1), (2, .int x25), (3, .int a3), (4, .int (a4 + 1))]) [2, 3, 1, 4, 0] rfl ?_
        exact ih j0 j1 x25 a3 (a4 + 1) σ hk_j0 hk_j1 hl_j1 h
      · refine z_icmp_le_f hX 53 (by decide) dX8_fewest_46 c24 ?_
        refine z_iconst (x := 1) hX dX8_fewest_49 (by decide) ?_
        refine z_goto hX 54 (by decide) dX8_fewest_50 ?_
        refine z_iadd hX dX8_fewest_54 ?_
        obtain ⟨x26, ex26, h⟩ := bd_some h
        refine z_top ex26 ?_
        refine z_istore_n (lv' := [(2, .int x26), (0, rf X.1 j0), (1, rf X.1 j1), (3, .int a3), (4, .int a4)]) hX dX8_fewest_55 (by decide) rfl ?_
        refine z_iinc (y := (a4 + 1)) (lv' := [(4, .int (a4 + 1)), (2, .int x26), (0, rf X.1 j0), (1, rf X.1 j1), (3, .int a3)]) hX dX8_fewest_56 4 rfl rfl (by decide) rfl ?_
        refine z_goto hX 26 (by decide) dX8_fewest_59 ?_
        refine z_sub (lv' := [(0, rf X.1 j0), (1, rf X.1 j1), (2, .int x26), (3, .int a3), (4, .int (a4 + 1))]) [2, 3, 1, 4, 0] rfl ?_
        exact ih j0 j1 x26 a3 (a4 + 1) σ hk_j0 hk_j1 hl_j1 h
set_option maxRecDepth 20000 in
set_option maxHeartbeats 4000000 in
theorem t_X8_fewest_15 {X : CX} {N : Nat} {r : Int32} {σ' : HP} (hR : OkX X RX8 cX8_fewest 5 3 67 (some .int) (some (.int r)) σ')  : ∀ (n : Nat) (j0 : Nat) (j1 : Nat) (a2 : Int32) (a3 : Int32) (σ : HP), kd j0 = 8 → kd j1 = 9 → ln j1 = 152 → L_X8_fewest_15  N n j0 j1 a2 a3 σ = some (r, σ') → Z X σ 15 [(0, rf X.1 j0), (1, rf X.1 j1), (2, .int a2), (3, .int a3)] [] := by
  have hX := hR.1
  intro n
  induction n with
  | zero =>
    intro j0 j1 a2 a3 σ hk_j0 hk_j1 hl_j1 h
    rw [L_X8_fewest_15] at h
    cases h
  | succ n ih =>
    intro j0 j1 a2 a3 σ hk_j0 hk_j1 hl_j1 h
    rw [L_X8_fewest_15] at h
    refine z_iload_n hX dX8_fewest_15 3 rfl ?_
    refine z_aload_n hX dX8_fewest_16 1 rfl ?_
    refine z_bipush (x := 7) hX dX8_fewest_17 (by decide) ?_
    refine z_iald hX hk_j1 hl_j1 (by unfold vp_in; decide) dX8_fewest_19 ?_
    rcases ite_or h with ⟨c21, h⟩ | ⟨c21, h⟩
    · refine z_icmp_ge_t hX 68 (by decide) dX8_fewest_20 c21 ?_
      refine z_iload_n hX dX8_fewest_68 2 rfl ?_
      obtain ⟨rfl, rfl⟩ := ret2 h
      exact z_iret hR dX8_fewest_69
    · refine z_icmp_ge_f hX 68 (by decide) dX8_fewest_20 c21 ?_
      refine z_iconst (x := 0) hX dX8_fewest_23 (by decide) ?_
      refine z_istore (lv' := [(4, .int 0), (0, rf X.1 j0), (1, rf X.1 j1), (2, .int a2), (3, .int a3)]) hX dX8_fewest_24 (by decide) rfl ?_
      refine z_sub (lv' := [(0, rf X.1 j0), (1, rf X.1 j1), (2, .int a2), (3, .int a3), (4, .int 0)]) [1, 2, 3, 4, 0] rfl ?_
      exact t_X8_fewest_26 hR (fun j0 j1 a2 a3 σ9 hk_j0 hk_j1 hl_j1 h9 => ih j0 j1 a2 a3 σ9 hk_j0 hk_j1 hl_j1 h9) N j0 j1 a2 a3 0 σ hk_j0 hk_j1 hl_j1 h
set_option maxRecDepth 20000 in
set_option maxHeartbeats 4000000 in
theorem c_X8_fewest (w : WP) {N : Nat} {j0 : Nat} {j1 : Nat} {r : Int32} {σ σ' : HP} (hk_j0 : kd j0 = 8) (hk_j1 : kd j1 = 9) (hl_j1 : ln j1 = 152) (h : F_X8_fewest N j0 j1 σ = some (r, σ')) : Ct w yX8_fewest cX8_fewest 5 (some .int) 3 67 [rf w j0, rf w j1] σ (some (.int r)) σ' := by
  refine z_met w (by decide +kernel) (Nat.le_of_ble_eq_true rfl) (fun X hw hX => ?_)
  subst hw
  have hR : OkX X RX8 cX8_fewest 5 3 67 (some .int) (some (.int r)) σ' := hX
  have hX := hR.1
  show Z X σ 0 [(0, rf X.1 j0), (1, rf X.1 j1)] []
  unfold F_X8_fewest at h
  refine z_aload_n hX dX8_fewest_0 0 rfl ?_
  refine z_aload_n hX dX8_fewest_1 1 rfl ?_
  obtain ⟨r22, σ23, k21, h⟩ := bind2_some h
  refine v_X8_80 hX hk_j0 (c_X8_laysGoal X.1 hk_j0 hk_j1 hl_j1 k21) (Nat.le_of_ble_eq_true rfl) (Nat.le_of_ble_eq_true rfl) (Nat.le_of_ble_eq_true rfl) dX8_fewest_2 ?_
  rcases ite_or h with ⟨c24, h⟩ | ⟨c24, h⟩
  · refine z_if_ne_f hX 11 (by decide) dX8_fewest_5 c24 ?_
    refine z_ldc (x := (-1000005)) hX mc_X8_69 dX8_fewest_8 ?_
    obtain ⟨rfl, rfl⟩ := ret2 h
    exact z_iret hR dX8_fewest_10
  · refine z_if_ne_t hX 11 (by decide) dX8_fewest_5 c24 ?_
    refine z_iconst (x := 0) hX dX8_fewest_11 (by decide) ?_
    refine z_istore_n (lv' := [(2, .int 0), (0, rf X.1 j0), (1, rf X.1 j1)]) hX dX8_fewest_12 (by decide) rfl ?_
    refine z_iconst (x := 0) hX dX8_fewest_13 (by decide) ?_
    refine z_istore_n (lv' := [(3, .int 0), (2, .int 0), (0, rf X.1 j0), (1, rf X.1 j1)]) hX dX8_fewest_14 (by decide) rfl ?_
    refine z_sub (lv' := [(0, rf X.1 j0), (1, rf X.1 j1), (2, .int 0), (3, .int 0)]) [2, 3, 1, 0] rfl ?_
    exact t_X8_fewest_15 hR  N j0 j1 0 0 σ23 hk_j0 hk_j1 hl_j1 h
set_option maxRecDepth 20000 in
set_option maxHeartbeats 4000000 in
theorem t_X8_logs_81 {X : CX} {N : Nat} {p0 : Nat} {s1 : Int32} {s2 : Int32} {s3 : Int32} {σ σ' : HP} (hR : OkX X RX8 cX8_logs 4 1 22 none none σ')  (hk_p0 : kd p0 = 9) (hl_p0 : ln p0 = 152) (h : J_X8_logs_81  N p0 s1 s2 s3 σ = some σ') : Z X σ 81 [] [.int s3, .int s2, .int s1, rf X.1 p0] := by
  have hX := hR.1
  unfold J_X8_logs_81 at h
  refine z_iadd hX dX8_logs_81 ?_
  obtain ⟨g21, h⟩ := gd_some h
  obtain ⟨σ22, eσ22, h⟩ := bd_some h
  refine z_iast hX hk_p0 hl_p0 g21 dX8_logs_82 ?_
  refine z_ms eσ22 ?_
  obtain rfl := ret1 h
  exact z_vret hR dX8_logs_83
set_option maxRecDepth 20000 in
set_option maxHeartbeats 4000000 in
theorem t_X8_logs_3 {X : CX} {N : Nat} {σ' : HP} (hR : OkX X RX8 cX8_logs 4 1 22 none none σ')  : ∀ (n : Nat) (j0 : Nat) (a1 : Int32) (a2 : Int32) (a3 : Int32) (σ : HP), kd j0 = 9 → ln j0 = 152 → L_X8_logs_3  N n j0 a1 a2 a3 σ = some σ' → Z X σ 3 [(0, rf X.1 j0), (1, .int a1), (2, .int a2), (3, .int a3)] [] := by
  have hX := hR.1
  intro n
  induction n with
  | zero =>
    intro j0 a1 a2 a3 σ hk_j0 hl_j0 h
    rw [L_X8_logs_3] at h
    cases h
  | succ n ih =>
    intro j0 a1 a2 a3 σ hk_j0 hl_j0 h
    rw [L_X8_logs_3] at h
    refine z_iload_n hX dX8_logs_3 3 rfl ?_
    refine z_iconst (x := 3) hX dX8_logs_4 (by decide) ?_
    rcases ite_or h with ⟨c21, h⟩ | ⟨c21, h⟩
    · refine z_icmp_le_t hX 28 (by decide) dX8_logs_5 c21 ?_
      refine z_aload_n hX dX8_logs_28 0 rfl ?_
      refine z_bipush (x := 120) hX dX8_logs_29 (by decide) ?_
      refine z_aload_n hX dX8_logs_31 0 rfl ?_
      refine z_iconst (x := 1) hX dX8_logs_32 (by decide) ?_
      refine z_iald hX hk_j0 hl_j0 (by unfold vp_in; decide) dX8_logs_33 ?_
      obtain ⟨σ22, eσ22, h⟩ := bd_some h
      refine z_iast hX hk_j0 hl_j0 (by unfold vp_in; decide) dX8_logs_34 ?_
      refine z_ms eσ22 ?_
      refine z_aload_n hX dX8_logs_35 0 rfl ?_
      refine z_bipush (x := 121) hX dX8_logs_36 (by decide) ?_
      refine z_aload_n hX dX8_logs_38 0 rfl ?_
      refine z_iload_n hX dX8_logs_39 1 rfl ?_
      refine z_iconst (x := 0) hX dX8_logs_40 (by decide) ?_
      obtain ⟨r24, k23, h⟩ := bind_some h
      refine v_X8_51 hX (c_X8_of X.1 hk_j0 hl_j0 k23) (Nat.le_of_ble_eq_true rfl) (Nat.le_of_ble_eq_true rfl) (Nat.le_of_ble_eq_true rfl) dX8_logs_41 ?_
      obtain ⟨σ25, eσ25, h⟩ := bd_some h
      refine z_iast hX hk_j0 hl_j0 (by unfold vp_in; decide) dX8_logs_44 ?_
      refine z_ms eσ25 ?_
      refine z_aload_n hX dX8_logs_45 0 rfl ?_
      refine z_bipush (x := 122) hX dX8_logs_46 (by decide) ?_
      refine z_aload_n hX dX8_logs_48 0 rfl ?_
      refine z_iload_n hX dX8_logs_49 1 rfl ?_
      refine z_iconst (x := 1) hX dX8_logs_50 (by decide) ?_
      refine z_iadd hX dX8_logs_51 ?_
      refine z_iconst (x := 0) hX dX8_logs_52 (by decide) ?_
      obtain ⟨r27, k26, h⟩ := bind_some h
      refine v_X8_51 hX (c_X8_of X.1 hk_j0 hl_j0 k26) (Nat.le_of_ble_eq_true rfl) (Nat.le_of_ble_eq_true rfl) (Nat.le_of_ble_eq_true rfl) dX8_logs_53 ?_
      obtain ⟨σ28, eσ28, h⟩ := bd_some h
      refine z_iast hX hk_j0 hl_j0 (by unfold vp_in; decide) dX8_logs_56 ?_
      refine z_ms eσ28 ?_
      refine z_aload_n hX dX8_logs_57 0 rfl ?_
      refine z_bipush (x := 123) hX dX8_logs_58 (by decide) ?_
      refine z_iload_n hX dX8_logs_60 2 rfl ?_
      obtain ⟨σ29, eσ29, h⟩ := bd_some h
      refine z_iast hX hk_j0 hl_j0 (by unfold vp_in; decide) dX8_logs_61 ?_
      refine z_ms eσ29 ?_
      refine z_aload_n hX dX8_logs_62 0 rfl ?_
      refine z_bipush (x := 11) hX dX8_logs_63 (by decide) ?_
      refine z_dup2 hX rfl rfl dX8_logs_65 ?_
      refine z_iald hX hk_j0 hl_j0 (by unfold vp_in; decide) dX8_logs_66 ?_
      refine z_aload_n hX dX8_logs_67 0 rfl ?_
      refine z_bipush (x := 11) hX dX8_logs_68 (by decide) ?_
      refine z_iald hX hk_j0 hl_j0 (by unfold vp_in; decide) dX8_logs_70 ?_
      refine z_bipush (x := 8) hX dX8_logs_71 (by decide) ?_
      rcases ite_or h with ⟨c30, h⟩ | ⟨c30, h⟩
      · refine z_icmp_ge_t hX 80 (by decide) dX8_logs_73 c30 ?_
        refine z_iconst (x := 0) hX dX8_logs_80 (by decide) ?_
        refine z_sub (lv' := []) [] rfl ?_
        exact t_X8_logs_81 hR  hk_j0 hl_j0 h
      · refine z_icmp_ge_f hX 80 (by decide) dX8_logs_73 c30 ?_
        refine z_iconst (x := 1) hX dX8_logs_76 (by decide) ?_
        refine z_goto hX 81 (by decide) dX8_logs_77 ?_
        refine z_sub (lv' := []) [] rfl ?_
        exact t_X8_logs_81 hR  hk_j0 hl_j0 h
    · refine z_icmp_le_f hX 28 (by decide) dX8_logs_5 c21 ?_
      refine z_aload_n hX dX8_logs_8 0 rfl ?_
      refine z_bipush (x := 120) hX dX8_logs_9 (by decide) ?_
      refine z_iload_n hX dX8_logs_11 3 rfl ?_
      refine z_iadd hX dX8_logs_12 ?_
      refine z_aload_n hX dX8_logs_13 0 rfl ?_
      refine z_bipush (x := 120) hX dX8_logs_14 (by decide) ?_
      refine z_iload_n hX dX8_logs_16 3 rfl ?_
      refine z_iadd hX dX8_logs_17 ?_
      refine z_iconst (x := 4) hX dX8_logs_18 (by decide) ?_
      refine z_isub hX dX8_logs_19 ?_
      obtain ⟨g31, h⟩ := gd_some h
      refine z_iald hX hk_j0 hl_j0 g31 dX8_logs_20 ?_
      obtain ⟨g32, h⟩ := gd_some h
      obtain ⟨σ33, eσ33, h⟩ := bd_some h
      refine z_iast hX hk_j0 hl_j0 g32 dX8_logs_21 ?_
      refine z_ms eσ33 ?_
      refine z_iinc (y := (a3 + (-1))) (lv' := [(3, .int (a3 + (-1))), (0, rf X.1 j0), (1, .int a1), (2, .int a2)]) hX dX8_logs_22 3 rfl rfl (by decide) rfl ?_
      refine z_goto hX 3 (by decide) dX8_logs_25 ?_
      refine z_sub (lv' := [(0, rf X.1 j0), (1, .int a1), (2, .int a2), (3, .int (a3 + (-1)))]) [1, 2, 3, 0] rfl ?_
      exact ih j0 a1 a2 (a3 + (-1)) σ33 hk_j0 hl_j0 h
set_option maxRecDepth 20000 in
set_option maxHeartbeats 4000000 in
theorem c_X8_logs (w : WP) {N : Nat} {j0 : Nat} {a1 : Int32} {a2 : Int32} {σ σ' : HP} (hk_j0 : kd j0 = 9) (hl_j0 : ln j0 = 152) (h : F_X8_logs N j0 a1 a2 σ = some σ') : Ct w yX8_logs cX8_logs 4 none 1 22 [rf w j0, .int a1, .int a2] σ none σ' := by
  refine z_met w (by decide +kernel) (Nat.le_of_ble_eq_true rfl) (fun X hw hX => ?_)
  subst hw
  have hR : OkX X RX8 cX8_logs 4 1 22 none none σ' := hX
  have hX := hR.1
  show Z X σ 0 [(0, rf X.1 j0), (1, .int a1), (2, .int a2)] []
  unfold F_X8_logs at h
  refine z_bipush (x := 31) hX dX8_logs_0 (by decide) ?_
  refine z_istore_n (lv' := [(3, .int 31), (0, rf X.1 j0), (1, .int a1), (2, .int a2)]) hX dX8_logs_2 (by decide) rfl ?_
  refine z_sub (lv' := [(0, rf X.1 j0), (1, .int a1), (2, .int a2), (3, .int 31)]) [1, 2, 3, 0] rfl ?_
  exact t_X8_logs_3 hR  N j0 a1 a2 31 σ hk_j0 hl_j0 h
set_option maxRecDepth 20000 in
set_option maxHeartbeats 4000000 in
theorem c_X8_tangles (w : WP) {N : Nat} {j0 : Nat} {a1 : Int32} {a2 : Int32} {σ σ' : HP} (hk_j0 : kd j0 = 9) (hl_j0 : ln j0 = 152) (h : F_X8_tangles N j0 a1 a2 σ = some σ') : Ct w yX8_tangles cX8_tangles 3 none 2 45 [rf w j0, .int a1, .int a2] σ none σ' := by
  refine z_met w (by decide +kernel) (Nat.le_of_ble_eq_true rfl) (fun X hw hX => ?_)
  subst hw
  have hR : OkX X RX8 cX8_tangles 3 2 45 none none σ' := hX
  have hX := hR.1
  show Z X σ 0 [(0, rf X.1 j0), (1, .int a1), (2, .int a2)] []
  unfold F_X8_tangles at h
  refine z_aload_n hX dX8_tangles_0 0 rfl ?_
  refine z_iload_n hX dX8_tangles_1 1 rfl ?_
  refine z_iconst (x := 3) hX dX8_tangles_2 (by decide) ?_
  refine z_aload_n hX dX8_tangles_3 0 rfl ?_
  refine z_iload_n hX dX8_tangles_4 1 rfl ?_
  refine z_iconst (x := 1) hX dX8_tangles_5 (by decide) ?_
  refine z_iadd hX dX8_tangles_6 ?_
  refine z_iconst (x := 0) hX dX8_tangles_7 (by decide) ?_
  obtain ⟨r22, k21, h⟩ := bind_some h
  refine v_X8_51 hX (c_X8_of X.1 hk_j0 hl_j0 k21) (Nat.le_of_ble_eq_true rfl) (Nat.le_of_ble_eq_true rfl) (Nat.le_of_ble_eq_true rfl) dX8_tangles_8 ?_
  obtain ⟨σ24, k23, h⟩ := bind_some h
  refine v_X8_84 hX (c_X8_puts X.1 hk_j0 hl_j0 k23) (Nat.le_of_ble_eq_true rfl) (Nat.le_of_ble_eq_true rfl) (Nat.le_of_ble_eq_true rfl) dX8_tangles_11 ?_
  refine z_aload_n hX dX8_tangles_14 0 rfl ?_
  refine z_iload_n hX dX8_tangles_15 1 rfl ?_
  refine z_iconst (x := 1) hX dX8_tangles_16 (by decide) ?_
  refine z_iadd hX dX8_tangles_17 ?_
  refine z_iconst (x := 3) hX dX8_tangles_18 (by decide) ?_
  refine z_aload_n hX dX8_tangles_19 0 rfl ?_
  refine z_iload_n hX dX8_tangles_20 1 rfl ?_
  refine z_iconst (x := 0) hX dX8_tangles_21 (by decide) ?_
  obtain ⟨r26, k25, h⟩ := bind_some h
  refine v_X8_51 hX (c_X8_of X.1 hk_j0 hl_j0 k25) (Nat.le_of_ble_eq_true rfl) (Nat.le_of_ble_eq_true rfl) (Nat.le_of_ble_eq_true rfl) dX8_tangles_22 ?_
  obtain ⟨σ28, k27, h⟩ := bind_some h
  refine v_X8_84 hX (c_X8_puts X.1 hk_j0 hl_j0 k27) (Nat.le_of_ble_eq_true rfl) (Nat.le_of_ble_eq_true rfl) (Nat.le_of_ble_eq_true rfl) dX8_tangles_25 ?_
  refine z_aload_n hX dX8_tangles_28 0 rfl ?_
  refine z_iload_n hX dX8_tangles_29 1 rfl ?_
  refine z_iconst (x := 4) hX dX8_tangles_30 (by decide) ?_
  refine z_aload_n hX dX8_tangles_31 0 rfl ?_
  refine z_iconst (x := 5) hX dX8_tangles_32 (by decide) ?_
  refine z_iald hX hk_j0 hl_j0 (by unfold vp_in; decide) dX8_tangles_33 ?_
  obtain ⟨σ30, k29, h⟩ := bind_some h
  refine v_X8_84 hX (c_X8_puts X.1 hk_j0 hl_j0 k29) (Nat.le_of_ble_eq_true rfl) (Nat.le_of_ble_eq_true rfl) (Nat.le_of_ble_eq_true rfl) dX8_tangles_34 ?_
  refine z_aload_n hX dX8_tangles_37 0 rfl ?_
  refine z_iload_n hX dX8_tangles_38 1 rfl ?_
  refine z_iconst (x := 1) hX dX8_tangles_39 (by decide) ?_
  refine z_iadd hX dX8_tangles_40 ?_
  refine z_iconst (x := 4) hX dX8_tangles_41 (by decide) ?_
  refine z_aload_n hX dX8_tangles_42 0 rfl ?_
  refine z_iconst (x := 5) hX dX8_tangles_43 (by decide) ?_
  refine z_iald hX hk_j0 hl_j0 (by unfold vp_in; decide) dX8_tangles_44 ?_
  obtain ⟨σ32, k31, h⟩ := bind_some h
  refine v_X8_84 hX (c_X8_puts X.1 hk_j0 hl_j0 k31) (Nat.le_of_ble_eq_true rfl) (Nat.le_of_ble_eq_true rfl) (Nat.le_of_ble_eq_true rfl) dX8_tangles_45 ?_
  refine z_aload_n hX dX8_tangles_48 0 rfl ?_
  refine z_bipush (x := 9) hX dX8_tangles_49 (by decide) ?_
  refine z_dup2 hX rfl rfl dX8_tangles_51 ?_
  refine z_iald hX hk_j0 hl_j0 (by unfold vp_in; decide) dX8_tangles_52 ?_
  refine z_iconst (x := 1) hX dX8_tangles_53 (by decide) ?_
  refine z_iadd hX dX8_tangles_54 ?_
  obtain ⟨σ33, eσ33, h⟩ := bd_some h
  refine z_iast hX hk_j0 hl_j0 (by unfold vp_in; decide) dX8_tangles_55 ?_
  refine z_ms eσ33 ?_
  refine z_aload_n hX dX8_tangles_56 0 rfl ?_
  refine z_iload_n hX dX8_tangles_57 1 rfl ?_
  refine z_iload_n hX dX8_tangles_58 2 rfl ?_
  obtain ⟨σ35, k34, h⟩ := bind_some h
  refine v_X8_88 hX (c_X8_logs X.1 hk_j0 hl_j0 k34) (Nat.le_of_ble_eq_true rfl) (Nat.le_of_ble_eq_true rfl) (Nat.le_of_ble_eq_true rfl) dX8_tangles_59 ?_
  obtain rfl := ret1 h
  exact z_vret hR dX8_tangles_62
set_option maxRecDepth 20000 in
set_option maxHeartbeats 4000000 in
theorem t_X8_wouldTangle_60 {X : CX} {N : Nat} {r : Int32} {σ : HP} (hR : OkX X RX8 cX8_wouldTangle 6 2 44 (some .boolean) (some (.int r)) σ)  (h : J_X8_wouldTangle_60  N  σ = some r) : Z X σ 60 [] [] := by
  have hX := hR.1
  unfold J_X8_wouldTangle_60 at h
  refine z_iconst (x := 1) hX dX8_wouldTangle_60 (by decide) ?_
  refine z_goto hX 65 (by decide) dX8_wouldTangle_61 ?_
  obtain rfl := ret1 h
  exact z_zret hR rfl dX8_wouldTangle_65
set_option maxRecDepth 20000 in
set_option maxHeartbeats 4000000 in
theorem t_X8_wouldTangle_48 {X : CX} {N : Nat} {a2 : Int32} {a3 : Int32} {a4 : Int32} {a5 : Int32} {r : Int32} {σ : HP} (hR : OkX X RX8 cX8_wouldTangle 6 2 44 (some .boolean) (some (.int r)) σ)  (h : J_X8_wouldTangle_48  N a2 a3 a4 a5 σ = some r) : Z X σ 48 [(2, .int a2), (3, .int a3), (4, .int a4), (5, .int a5)] [] := by
  have hX := hR.1
  unfold J_X8_wouldTangle_48 at h
  refine z_iload_n hX dX8_wouldTangle_48 1 rfl ?_
  refine z_iload_n hX dX8_wouldTangle_49 0 rfl ?_
  rcases ite_or h with ⟨c21, h⟩ | ⟨c21, h⟩
  · refine z_icmp_gt_t hX 64 (by decide) dX8_wouldTangle_50 c21 ?_
    refine z_iconst (x := 0) hX dX8_wouldTangle_64 (by decide) ?_
    obtain rfl := ret1 h
    exact z_zret hR rfl dX8_wouldTangle_65
  · refine z_icmp_gt_f hX 64 (by decide) dX8_wouldTangle_50 c21 ?_
    refine z_iload hX dX8_wouldTangle_53 3 rfl ?_
    refine z_iload hX dX8_wouldTangle_55 2 rfl ?_
    rcases ite_or h with ⟨c22, h⟩ | ⟨c22, h⟩
    · refine z_icmp_gt_t hX 64 (by decide) dX8_wouldTangle_57 c22 ?_
      refine z_iconst (x := 0) hX dX8_wouldTangle_64 (by decide) ?_
      obtain rfl := ret1 h
      exact z_zret hR rfl dX8_wouldTangle_65
    · refine z_icmp_gt_f hX 64 (by decide) dX8_wouldTangle_57 c22 ?_
      refine z_sub (lv' := []) [] rfl ?_
      exact t_X8_wouldTangle_60 hR   h
set_option maxRecDepth 20000 in
set_option maxHeartbeats 4000000 in
theorem c_X8_wouldTangle (w : WP) {N : Nat} {j0 : Nat} {a1 : Int32} {r : Int32} {σ : HP} (hk_j0 : kd j0 = 9) (hl_j0 : ln j0 = 152) (h : F_X8_wouldTangle N j0 a1 σ = some r) : Ct w yX8_wouldTangle cX8_wouldTangle 6 (some .boolean) 2 44 [rf w j0, .int a1] σ (some (.int r)) σ := by
  refine z_met w (by decide +kernel) (Nat.le_of_ble_eq_true rfl) (fun X hw hX => ?_)
  subst hw
  have hR : OkX X RX8 cX8_wouldTangle 6 2 44 (some .boolean) (some (.int r)) σ := hX
  have hX := hR.1
  show Z X σ 0 [(0, rf X.1 j0), (1, .int a1)] []
  unfold F_X8_wouldTangle at h
  refine z_aload_n hX dX8_wouldTangle_0 0 rfl ?_
  refine z_iload_n hX dX8_wouldTangle_1 1 rfl ?_
  obtain ⟨r22, k21, h⟩ := bind_some h
  refine v_X8_55 hX (c_X8_aside X.1 hk_j0 hl_j0 k21) (Nat.le_of_ble_eq_true rfl) (Nat.le_of_ble_eq_true rfl) (Nat.le_of_ble_eq_true rfl) dX8_wouldTangle_2 ?_
  refine z_istore_n (lv' := [(2, .int r22), (0, rf X.1 j0), (1, .int a1)]) hX dX8_wouldTangle_5 (by decide) rfl ?_
  refine z_bipush (x := 10) hX dX8_wouldTangle_6 (by decide) ?_
  refine z_aload_n hX dX8_wouldTangle_8 1 rfl ?_
  refine z_iload_n hX dX8_wouldTangle_9 2 rfl ?_
  refine z_iconst (x := 1) hX dX8_wouldTangle_10 (by decide) ?_
  refine z_iadd hX dX8_wouldTangle_11 ?_
  obtain ⟨r24, k23, h⟩ := bind_some h
  refine v_X8_55 hX (c_X8_aside X.1 hk_j0 hl_j0 k23) (Nat.le_of_ble_eq_true rfl) (Nat.le_of_ble_eq_true rfl) (Nat.le_of_ble_eq_true rfl) dX8_wouldTangle_12 ?_
  refine z_iadd hX dX8_wouldTangle_15 ?_
  obtain ⟨x25, ex25, h⟩ := bd_some h
  refine z_top ex25 ?_
  refine z_istore_n (lv' := [(3, .int x25), (2, .int r22), (0, rf X.1 j0), (1, .int a1)]) hX dX8_wouldTangle_16 (by decide) rfl ?_
  refine z_bipush (x := 10) hX dX8_wouldTangle_17 (by decide) ?_
  refine z_aload_n hX dX8_wouldTangle_19 2 rfl ?_
  refine z_iload_n hX dX8_wouldTangle_20 3 rfl ?_
  obtain ⟨r27, k26, h⟩ := bind_some h
  refine v_X8_55 hX (c_X8_aside X.1 hk_j0 hl_j0 k26) (Nat.le_of_ble_eq_true rfl) (Nat.le_of_ble_eq_true rfl) (Nat.le_of_ble_eq_true rfl) dX8_wouldTangle_21 ?_
  refine z_iadd hX dX8_wouldTangle_24 ?_
  obtain ⟨x28, ex28, h⟩ := bd_some h
  refine z_top ex28 ?_
  refine z_istore (lv' := [(4, .int x28), (3, .int x25), (2, .int r22), (0, rf X.1 j0), (1, .int a1)]) hX dX8_wouldTangle_25 (by decide) rfl ?_
  refine z_aload_n hX dX8_wouldTangle_27 3 rfl ?_
  refine z_iload_n hX dX8_wouldTangle_28 4 rfl ?_
  refine z_iconst (x := 1) hX dX8_wouldTangle_29 (by decide) ?_
  refine z_iadd hX dX8_wouldTangle_30 ?_
  obtain ⟨r30, k29, h⟩ := bind_some h
  refine v_X8_55 hX (c_X8_aside X.1 hk_j0 hl_j0 k29) (Nat.le_of_ble_eq_true rfl) (Nat.le_of_ble_eq_true rfl) (Nat.le_of_ble_eq_true rfl) dX8_wouldTangle_31 ?_
  refine z_istore (lv' := [(5, .int r30), (4, .int x28), (3, .int x25), (2, .int r22), (0, rf X.1 j0), (1, .int a1)]) hX dX8_wouldTangle_34 (by decide) rfl ?_
  refine z_iload_n hX dX8_wouldTangle_36 3 rfl ?_
  refine z_iload_n hX dX8_wouldTangle_37 2 rfl ?_
  rcases ite_or h with ⟨c31, h⟩ | ⟨c31, h⟩
  · refine z_icmp_gt_t hX 48 (by decide) dX8_wouldTangle_38 c31 ?_
    refine z_sub (lv' := [(2, .int r22), (3, .int x25), (4, .int x28), (5, .int r30)]) [3, 2, 1, 0] rfl ?_
    exact t_X8_wouldTangle_48 hR   h
  · refine z_icmp_gt_f hX 48 (by decide) dX8_wouldTangle_38 c31 ?_
    refine z_iload hX dX8_wouldTangle_41 1 rfl ?_
    refine z_iload hX dX8_wouldTangle_43 0 rfl ?_
    rcases ite_or h with ⟨c32, h⟩ | ⟨c32, h⟩
    · refine z_icmp_le_t hX 60 (by decide) dX8_wouldTangle_45 c32 ?_
      refine z_sub (lv' := []) [] rfl ?_
      exact t_X8_wouldTangle_60 hR   h
    · refine z_icmp_le_f hX 60 (by decide) dX8_wouldTangle_45 c32 ?_
      refine z_sub (lv' := [(2, .int r22), (3, .int x25), (4, .int x28), (5, .int r30)]) [3, 2, 1, 0] rfl ?_
      exact t_X8_wouldTangle_48 hR   h
set_option maxRecDepth 20000 in
set_option maxHeartbeats 4000000 in
theorem t_X8_swaps_2 {X : CX} {N : Nat} {σ' : HP} (hR : OkX X RX8 cX8_swaps 4 1 23 none none σ')  : ∀ (n : Nat) (j0 : Nat) (a1 : Int32) (a2 : Int32) (σ : HP), kd j0 = 9 → ln j0 = 152 → L_X8_swaps_2  N n j0 a1 a2 σ = some σ' → Z X σ 2 [(0, rf X.1 j0), (1, .int a1), (2, .int a2)] [] := by
  have hX := hR.1
  intro n
  induction n with
  | zero =>
    intro j0 a1 a2 σ hk_j0 hl_j0 h
    rw [L_X8_swaps_2] at h
    cases h
  | succ n ih =>
    intro j0 a1 a2 σ hk_j0 hl_j0 h
    rw [L_X8_swaps_2] at h
    refine z_iload_n hX dX8_swaps_2 2 rfl ?_
    refine z_bipush (x := 6) hX dX8_swaps_3 (by decide) ?_
    rcases ite_or h with ⟨c21, h⟩ | ⟨c21, h⟩
    · refine z_icmp_ge_t hX 44 (by decide) dX8_swaps_5 c21 ?_
      obtain rfl := ret1 h
      exact z_vret hR dX8_swaps_44
    · refine z_icmp_ge_f hX 44 (by decide) dX8_swaps_5 c21 ?_
      refine z_aload_n hX dX8_swaps_8 0 rfl ?_
      refine z_iload_n hX dX8_swaps_9 1 rfl ?_
      refine z_iload_n hX dX8_swaps_10 2 rfl ?_
      obtain ⟨r23, k22, h⟩ := bind_some h
      refine v_X8_51 hX (c_X8_of X.1 hk_j0 hl_j0 k22) (Nat.le_of_ble_eq_true rfl) (Nat.le_of_ble_eq_true rfl) (Nat.le_of_ble_eq_true rfl) dX8_swaps_11 ?_
      refine z_istore_n (lv' := [(3, .int r23), (0, rf X.1 j0), (1, .int a1), (2, .int a2)]) hX dX8_swaps_14 (by decide) rfl ?_
      refine z_aload_n hX dX8_swaps_15 1 rfl ?_
      refine z_iload_n hX dX8_swaps_16 2 rfl ?_
      refine z_iload_n hX dX8_swaps_17 3 rfl ?_
      refine z_aload_n hX dX8_swaps_18 1 rfl ?_
      refine z_iload_n hX dX8_swaps_19 2 rfl ?_
      refine z_iconst (x := 1) hX dX8_swaps_20 (by decide) ?_
      refine z_iadd hX dX8_swaps_21 ?_
      refine z_iload_n hX dX8_swaps_22 3 rfl ?_
      obtain ⟨r25, k24, h⟩ := bind_some h
      refine v_X8_51 hX (c_X8_of X.1 hk_j0 hl_j0 k24) (Nat.le_of_ble_eq_true rfl) (Nat.le_of_ble_eq_true rfl) (Nat.le_of_ble_eq_true rfl) dX8_swaps_23 ?_
      obtain ⟨σ27, k26, h⟩ := bind_some h
      refine v_X8_84 hX (c_X8_puts X.1 hk_j0 hl_j0 k26) (Nat.le_of_ble_eq_true rfl) (Nat.le_of_ble_eq_true rfl) (Nat.le_of_ble_eq_true rfl) dX8_swaps_26 ?_
      refine z_aload_n hX dX8_swaps_29 1 rfl ?_
      refine z_iload_n hX dX8_swaps_30 2 rfl ?_
      refine z_iconst (x := 1) hX dX8_swaps_31 (by decide) ?_
      refine z_iadd hX dX8_swaps_32 ?_
      refine z_iload_n hX dX8_swaps_33 3 rfl ?_
      refine z_iload_n hX dX8_swaps_34 0 rfl ?_
      obtain ⟨σ29, k28, h⟩ := bind_some h
      refine v_X8_84 hX (c_X8_puts X.1 hk_j0 hl_j0 k28) (Nat.le_of_ble_eq_true rfl) (Nat.le_of_ble_eq_true rfl) (Nat.le_of_ble_eq_true rfl) dX8_swaps_35 ?_
      refine z_iinc (y := (a2 + 1)) (lv' := [(2, .int (a2 + 1)), (3, .int r23), (0, rf X.1 j0), (1, .int a1)]) hX dX8_swaps_38 3 rfl rfl (by decide) rfl ?_
      refine z_goto hX 2 (by decide) dX8_swaps_41 ?_
      refine z_sub (lv' := [(0, rf X.1 j0), (1, .int a1), (2, .int (a2 + 1))]) [2, 3, 0] rfl ?_
      exact ih j0 a1 (a2 + 1) σ29 hk_j0 hl_j0 h
set_option maxRecDepth 20000 in
set_option maxHeartbeats 4000000 in
theorem c_X8_swaps (w : WP) {N : Nat} {j0 : Nat} {a1 : Int32} {σ σ' : HP} (hk_j0 : kd j0 = 9) (hl_j0 : ln j0 = 152) (h : F_X8_swaps N j0 a1 σ = some σ') : Ct w yX8_swaps cX8_swaps 4 none 1 23 [rf w j0, .int a1] σ none σ' := by
  refine z_met w (by decide +kernel) (Nat.le_of_ble_eq_true rfl) (fun X hw hX => ?_)
  subst hw
  have hR : OkX X RX8 cX8_swaps 4 1 23 none none σ' := hX
  have hX := hR.1
  show Z X σ 0 [(0, rf X.1 j0), (1, .int a1)] []
  unfold F_X8_swaps at h
  refine z_iconst (x := 0) hX dX8_swaps_0 (by decide) ?_
  refine z_istore_n (lv' := [(2, .int 0), (0, rf X.1 j0), (1, .int a1)]) hX dX8_swaps_1 (by decide) rfl ?_
  refine z_sub (lv' := [(0, rf X.1 j0), (1, .int a1), (2, .int 0)]) [1, 2, 0] rfl ?_
  exact t_X8_swaps_2 hR  N j0 a1 0 σ hk_j0 hl_j0 h
set_option maxRecDepth 20000 in
set_option maxHeartbeats 4000000 in
theorem c_X8_relation (w : WP) {N : Nat} {j0 : Nat} {a1 : Int32} {r : Int32} {σ : HP} (hk_j0 : kd j0 = 9) (hl_j0 : ln j0 = 152) (h : F_X8_relation N j0 a1 σ = some r) : Ct w yX8_relation cX8_relation 3 (some .int) 3 65 [rf w j0, .int a1] σ (some (.int r)) σ := by
  refine z_met w (by decide +kernel) (Nat.le_of_ble_eq_true rfl) (fun X hw hX => ?_)
  subst hw
  have hR : OkX X RX8 cX8_relation 3 3 65 (some .int) (some (.int r)) σ := hX
  have hX := hR.1
  show Z X σ 0 [(0, rf X.1 j0), (1, .int a1)] []
  unfold F_X8_relation at h
  refine z_aload_n hX dX8_relation_0 0 rfl ?_
  refine z_iload_n hX dX8_relation_1 1 rfl ?_
  obtain ⟨r22, k21, h⟩ := bind_some h
  refine v_X8_63 hX (c_X8_shown X.1 hk_j0 hl_j0 k21) (Nat.le_of_ble_eq_true rfl) (Nat.le_of_ble_eq_true rfl) (Nat.le_of_ble_eq_true rfl) dX8_relation_2 ?_
  refine z_aload_n hX dX8_relation_5 0 rfl ?_
  refine z_iload_n hX dX8_relation_6 1 rfl ?_
  refine z_iconst (x := 1) hX dX8_relation_7 (by decide) ?_
  refine z_iadd hX dX8_relation_8 ?_
  obtain ⟨r24, k23, h⟩ := bind_some h
  refine v_X8_63 hX (c_X8_shown X.1 hk_j0 hl_j0 k23) (Nat.le_of_ble_eq_true rfl) (Nat.le_of_ble_eq_true rfl) (Nat.le_of_ble_eq_true rfl) dX8_relation_9 ?_
  refine z_isub hX dX8_relation_12 ?_
  obtain ⟨x25, ex25, h⟩ := bd_some h
  refine z_top ex25 ?_
  refine z_istore_n (lv' := [(2, .int x25), (0, rf X.1 j0), (1, .int a1)]) hX dX8_relation_13 (by decide) rfl ?_
  refine z_iload_n hX dX8_relation_14 0 rfl ?_
  rcases ite_or h with ⟨c26, h⟩ | ⟨c26, h⟩
  · refine z_if_ge_t hX 22 (by decide) dX8_relation_15 c26 ?_
    refine z_iload_n hX dX8_relation_22 0 rfl ?_
    rcases ite_or h with ⟨c27, h⟩ | ⟨c27, h⟩
    · refine z_if_le_t hX 30 (by decide) dX8_relation_23 c27 ?_
      refine z_iconst (x := 0) hX dX8_relation_30 (by decide) ?_
      obtain rfl := ret1 h
      exact z_iret hR dX8_relation_31
    · refine z_if_le_f hX 30 (by decide) dX8_relation_23 c27 ?_
      refine z_iconst (x := 1) hX dX8_relation_26 (by decide) ?_
      refine z_goto hX 31 (by decide) dX8_relation_27 ?_
      obtain rfl := ret1 h
      exact z_iret hR dX8_relation_31
  · refine z_if_ge_f hX 22 (by decide) dX8_relation_15 c26 ?_
    refine z_iconst (x := (-1)) hX dX8_relation_18 (by decide) ?_
    refine z_goto hX 31 (by decide) dX8_relation_19 ?_
    obtain rfl := ret1 h
    exact z_iret hR dX8_relation_31
set_option maxRecDepth 20000 in
set_option maxHeartbeats 4000000 in
theorem t_X8_blows_46 {X : CX} {N : Nat} {r : Int32} {σ' : HP} (hR : OkX X RX8 cX8_blows 6 4 87 (some .int) (some (.int r)) σ')  : ∀ (n : Nat) (j0 : Nat) (j1 : Nat) (a4 : Int32) (a5 : Int32) (σ : HP), kd j0 = 8 → kd j1 = 9 → ln j1 = 152 → L_X8_blows_46  N n j0 j1 a4 a5 σ = some (r, σ') → Z X σ 46 [(0, rf X.1 j0), (1, rf X.1 j1), (4, .int a4), (5, .int a5)] [] := by
  have hX := hR.1
  intro n
  induction n with
  | zero =>
    intro j0 j1 a4 a5 σ hk_j0 hk_j1 hl_j1 h
    rw [L_X8_blows_46] at h
    cases h
  | succ n ih =>
    intro j0 j1 a4 a5 σ hk_j0 hk_j1 hl_j1 h
    rw [L_X8_blows_46] at h
    refine z_iload hX dX8_blows_46 3 rfl ?_
    refine z_aload_n hX dX8_blows_48 1 rfl ?_
    refine z_iconst (x := 0) hX dX8_blows_49 (by decide) ?_
    refine z_iald hX hk_j1 hl_j1 (by unfold vp_in; decide) dX8_blows_50 ?_
    refine z_iconst (x := 1) hX dX8_blows_51 (by decide) ?_
    refine z_isub hX dX8_blows_52 ?_
    rcases ite_or h with ⟨c21, h⟩ | ⟨c21, h⟩
    · refine z_icmp_ge_t hX 108 (by decide) dX8_blows_53 c21 ?_
      refine z_iload hX dX8_blows_108 2 rfl ?_
      obtain ⟨rfl, rfl⟩ := ret2 h
      exact z_iret hR dX8_blows_110
    · refine z_icmp_ge_f hX 108 (by decide) dX8_blows_53 c21 ?_
      refine z_aload_n hX dX8_blows_56 1 rfl ?_
      refine z_iload hX dX8_blows_57 3 rfl ?_
      obtain ⟨r23, k22, h⟩ := bind_some h
      refine v_X8_59 hX (c_X8_isTangled X.1 hk_j1 hl_j1 k22) (Nat.le_of_ble_eq_true rfl) (Nat.le_of_ble_eq_true rfl) (Nat.le_of_ble_eq_true rfl) dX8_blows_59 ?_
      rcases ite_or h with ⟨c24, h⟩ | ⟨c24, h⟩
      · refine z_if_ne_f hX 102 (by decide) dX8_blows_62 c24 ?_
        refine z_aload_n hX dX8_blows_65 1 rfl ?_
        refine z_iload hX dX8_blows_66 3 rfl ?_
        refine z_iconst (x := 1) hX dX8_blows_68 (by decide) ?_
        refine z_iadd hX dX8_blows_69 ?_
        obtain ⟨r26, k25, h⟩ := bind_some h
        refine v_X8_59 hX (c_X8_isTangled X.1 hk_j1 hl_j1 k25) (Nat.le_of_ble_eq_true rfl) (Nat.le_of_ble_eq_true rfl) (Nat.le_of_ble_eq_true rfl) dX8_blows_70 ?_
        rcases ite_or h with ⟨c27, h⟩ | ⟨c27, h⟩
        · refine z_if_ne_f hX 102 (by decide) dX8_blows_73 c27 ?_
          refine z_aload_n hX dX8_blows_76 1 rfl ?_
          refine z_iload hX dX8_blows_77 3 rfl ?_
          obtain ⟨r29, k28, h⟩ := bind_some h
          refine v_X8_92 hX (c_X8_relation X.1 hk_j1 hl_j1 k28) (Nat.le_of_ble_eq_true rfl) (Nat.le_of_ble_eq_true rfl) (Nat.le_of_ble_eq_true rfl) dX8_blows_79 ?_
          refine z_aload_n hX dX8_blows_82 0 rfl ?_
          refine g_X8_33 hX hk_j0 dX8_blows_83 ?_
          refine z_iload hX dX8_blows_86 3 rfl ?_
          obtain ⟨g30, h⟩ := gd_some h
          refine z_iald hX (kl_8_10 hk_j0).1 (kl_8_10 hk_j0).2 g30 dX8_blows_88 ?_
          rcases ite_or h with ⟨c31, h⟩ | ⟨c31, h⟩
          · refine z_icmp_eq_t hX 102 (by decide) dX8_blows_89 c31 ?_
            refine z_iinc (y := (a5 + 1)) (lv' := [(5, .int (a5 + 1)), (0, rf X.1 j0), (1, rf X.1 j1), (4, .int a4)]) hX dX8_blows_102 3 rfl rfl (by decide) rfl ?_
            refine z_goto hX 46 (by decide) dX8_blows_105 ?_
            refine z_sub (lv' := [(0, rf X.1 j0), (1, rf X.1 j1), (4, .int a4), (5, .int (a5 + 1))]) [1, 2, 3, 0] rfl ?_
            exact ih j0 j1 a4 (a5 + 1) σ hk_j0 hk_j1 hl_j1 h
          · refine z_icmp_eq_f hX 102 (by decide) dX8_blows_89 c31 ?_
            refine z_aload_n hX dX8_blows_92 1 rfl ?_
            refine z_iload hX dX8_blows_93 3 rfl ?_
            refine z_iconst (x := 0) hX dX8_blows_95 (by decide) ?_
            obtain ⟨σ33, k32, h⟩ := bind_some h
            refine v_X8_95 hX (c_X8_tangles X.1 hk_j1 hl_j1 k32) (Nat.le_of_ble_eq_true rfl) (Nat.le_of_ble_eq_true rfl) (Nat.le_of_ble_eq_true rfl) dX8_blows_96 ?_
            refine z_iinc (y := (a4 + 1)) (lv' := [(4, .int (a4 + 1)), (0, rf X.1 j0), (1, rf X.1 j1), (5, .int a5)]) hX dX8_blows_99 2 rfl rfl (by decide) rfl ?_
            refine z_iinc (y := (a5 + 1)) (lv' := [(5, .int (a5 + 1)), (4, .int (a4 + 1)), (0, rf X.1 j0), (1, rf X.1 j1)]) hX dX8_blows_102 3 rfl rfl (by decide) rfl ?_
            refine z_goto hX 46 (by decide) dX8_blows_105 ?_
            refine z_sub (lv' := [(0, rf X.1 j0), (1, rf X.1 j1), (4, .int (a4 + 1)), (5, .int (a5 + 1))]) [2, 3, 1, 0] rfl ?_
            exact ih j0 j1 (a4 + 1) (a5 + 1) σ33 hk_j0 hk_j1 hl_j1 h
        · refine z_if_ne_t hX 102 (by decide) dX8_blows_73 c27 ?_
          refine z_iinc (y := (a5 + 1)) (lv' := [(5, .int (a5 + 1)), (0, rf X.1 j0), (1, rf X.1 j1), (4, .int a4)]) hX dX8_blows_102 3 rfl rfl (by decide) rfl ?_
          refine z_goto hX 46 (by decide) dX8_blows_105 ?_
          refine z_sub (lv' := [(0, rf X.1 j0), (1, rf X.1 j1), (4, .int a4), (5, .int (a5 + 1))]) [1, 2, 3, 0] rfl ?_
          exact ih j0 j1 a4 (a5 + 1) σ hk_j0 hk_j1 hl_j1 h
      · refine z_if_ne_t hX 102 (by decide) dX8_blows_62 c24 ?_
        refine z_iinc (y := (a5 + 1)) (lv' := [(5, .int (a5 + 1)), (0, rf X.1 j0), (1, rf X.1 j1), (4, .int a4)]) hX dX8_blows_102 3 rfl rfl (by decide) rfl ?_
        refine z_goto hX 46 (by decide) dX8_blows_105 ?_
        refine z_sub (lv' := [(0, rf X.1 j0), (1, rf X.1 j1), (4, .int a4), (5, .int (a5 + 1))]) [1, 2, 3, 0] rfl ?_
        exact ih j0 j1 a4 (a5 + 1) σ hk_j0 hk_j1 hl_j1 h
set_option maxRecDepth 20000 in
set_option maxHeartbeats 4000000 in
theorem t_X8_blows_3 {X : CX} {N : Nat} {r : Int32} {σ' : HP} (hR : OkX X RX8 cX8_blows 6 4 87 (some .int) (some (.int r)) σ')  : ∀ (n : Nat) (j0 : Nat) (j1 : Nat) (a2 : Int32) (a3 : Int32) (a4 : Int32) (σ : HP), kd j0 = 8 → kd j1 = 9 → ln j1 = 152 → L_X8_blows_3  N n j0 j1 a2 a3 a4 σ = some (r, σ') → Z X σ 3 [(0, rf X.1 j0), (1, rf X.1 j1), (2, .int a2), (3, .int a3), (4, .int a4)] [] := by
  have hX := hR.1
  intro n
  induction n with
  | zero =>
    intro j0 j1 a2 a3 a4 σ hk_j0 hk_j1 hl_j1 h
    rw [L_X8_blows_3] at h
    cases h
  | succ n ih =>
    intro j0 j1 a2 a3 a4 σ hk_j0 hk_j1 hl_j1 h
    rw [L_X8_blows_3] at h
    refine z_iload hX dX8_blows_3 4 rfl ?_
    refine z_aload_n hX dX8_blows_5 1 rfl ?_
    refine z_iconst (x := 0) hX dX8_blows_6 (by decide) ?_
    refine z_iald hX hk_j1 hl_j1 (by unfold vp_in; decide) dX8_blows_7 ?_
    refine z_iconst (x := 1) hX dX8_blows_8 (by decide) ?_
    refine z_isub hX dX8_blows_9 ?_
    rcases ite_or h with ⟨c21, h⟩ | ⟨c21, h⟩
    · refine z_icmp_ge_t hX 32 (by decide) dX8_blows_10 c21 ?_
      refine z_aload_n hX dX8_blows_32 1 rfl ?_
      refine z_iconst (x := 2) hX dX8_blows_33 (by decide) ?_
      refine z_iload_n hX dX8_blows_34 2 rfl ?_
      obtain ⟨σ22, eσ22, h⟩ := bd_some h
      refine z_iast hX hk_j1 hl_j1 (by unfold vp_in; decide) dX8_blows_35 ?_
      refine z_ms eσ22 ?_
      refine z_aload_n hX dX8_blows_36 1 rfl ?_
      refine z_iconst (x := 3) hX dX8_blows_37 (by decide) ?_
      refine z_iload_n hX dX8_blows_38 3 rfl ?_
      obtain ⟨σ23, eσ23, h⟩ := bd_some h
      refine z_iast hX hk_j1 hl_j1 (by unfold vp_in; decide) dX8_blows_39 ?_
      refine z_ms eσ23 ?_
      refine z_iconst (x := 0) hX dX8_blows_40 (by decide) ?_
      refine z_istore (lv' := [(4, .int 0), (0, rf X.1 j0), (1, rf X.1 j1), (2, .int a2), (3, .int a3)]) hX dX8_blows_41 (by decide) rfl ?_
      refine z_iconst (x := 0) hX dX8_blows_43 (by decide) ?_
      refine z_istore (lv' := [(5, .int 0), (4, .int 0), (0, rf X.1 j0), (1, rf X.1 j1), (2, .int a2), (3, .int a3)]) hX dX8_blows_44 (by decide) rfl ?_
      refine z_sub (lv' := [(0, rf X.1 j0), (1, rf X.1 j1), (4, .int 0), (5, .int 0)]) [2, 3, 1, 0] rfl ?_
      exact t_X8_blows_46 hR  N j0 j1 0 0 σ23 hk_j0 hk_j1 hl_j1 h
    · refine z_icmp_ge_f hX 32 (by decide) dX8_blows_10 c21 ?_
      refine z_aload_n hX dX8_blows_13 0 rfl ?_
      refine g_X8_33 hX hk_j0 dX8_blows_14 ?_
      refine z_iload hX dX8_blows_17 4 rfl ?_
      refine z_aload_n hX dX8_blows_19 1 rfl ?_
      refine z_iload hX dX8_blows_20 4 rfl ?_
      obtain ⟨r25, k24, h⟩ := bind_some h
      refine v_X8_92 hX (c_X8_relation X.1 hk_j1 hl_j1 k24) (Nat.le_of_ble_eq_true rfl) (Nat.le_of_ble_eq_true rfl) (Nat.le_of_ble_eq_true rfl) dX8_blows_22 ?_
      obtain ⟨g26, h⟩ := gd_some h
      obtain ⟨σ27, eσ27, h⟩ := bd_some h
      refine z_iast hX (kl_8_10 hk_j0).1 (kl_8_10 hk_j0).2 g26 dX8_blows_25 ?_
      refine z_ms eσ27 ?_
      refine z_iinc (y := (a4 + 1)) (lv' := [(4, .int (a4 + 1)), (0, rf X.1 j0), (1, rf X.1 j1), (2, .int a2), (3, .int a3)]) hX dX8_blows_26 4 rfl rfl (by decide) rfl ?_
      refine z_goto hX 3 (by decide) dX8_blows_29 ?_
      refine z_sub (lv' := [(0, rf X.1 j0), (1, rf X.1 j1), (2, .int a2), (3, .int a3), (4, .int (a4 + 1))]) [1, 2, 3, 4, 0] rfl ?_
      exact ih j0 j1 a2 a3 (a4 + 1) σ27 hk_j0 hk_j1 hl_j1 h
set_option maxRecDepth 20000 in
set_option maxHeartbeats 4000000 in
theorem c_X8_blows (w : WP) {N : Nat} {j0 : Nat} {j1 : Nat} {a2 : Int32} {a3 : Int32} {r : Int32} {σ σ' : HP} (hk_j0 : kd j0 = 8) (hk_j1 : kd j1 = 9) (hl_j1 : ln j1 = 152) (h : F_X8_blows N j0 j1 a2 a3 σ = some (r, σ')) : Ct w yX8_blows cX8_blows 6 (some .int) 4 87 [rf w j0, rf w j1, .int a2, .int a3] σ (some (.int r)) σ' := by
  refine z_met w (by decide +kernel) (Nat.le_of_ble_eq_true rfl) (fun X hw hX => ?_)
  subst hw
  have hR : OkX X RX8 cX8_blows 6 4 87 (some .int) (some (.int r)) σ' := hX
  have hX := hR.1
  show Z X σ 0 [(0, rf X.1 j0), (1, rf X.1 j1), (2, .int a2), (3, .int a3)] []
  unfold F_X8_blows at h
  refine z_iconst (x := 0) hX dX8_blows_0 (by decide) ?_
  refine z_istore (lv' := [(4, .int 0), (0, rf X.1 j0), (1, rf X.1 j1), (2, .int a2), (3, .int a3)]) hX dX8_blows_1 (by decide) rfl ?_
  refine z_sub (lv' := [(0, rf X.1 j0), (1, rf X.1 j1), (2, .int a2), (3, .int a3), (4, .int 0)]) [1, 2, 3, 4, 0] rfl ?_
  exact t_X8_blows_3 hR  N j0 j1 a2 a3 0 σ hk_j0 hk_j1 hl_j1 h
set_option maxRecDepth 20000 in
set_option maxHeartbeats 4000000 in
theorem t_X8_dropsTurn_44 {X : CX} {N : Nat} {σ' : HP} (hR : OkX X RX8 cX8_dropsTurn 3 0 0 none none σ')  : ∀ (n : Nat) (j0 : Nat) (a2 : Int32) (σ : HP), kd j0 = 9 → ln j0 = 152 → L_X8_dropsTurn_44  N n j0 a2 σ = some σ' → Z X σ 44 [(0, rf X.1 j0), (2, .int a2)] [] := by
  have hX := hR.1
  intro n
  induction n with
  | zero =>
    intro j0 a2 σ hk_j0 hl_j0 h
    rw [L_X8_dropsTurn_44] at h
    cases h
  | succ n ih =>
    intro j0 a2 σ hk_j0 hl_j0 h
    rw [L_X8_dropsTurn_44] at h
    refine z_iload_n hX dX8_dropsTurn_44 1 rfl ?_
    refine z_iconst (x := 3) hX dX8_dropsTurn_45 (by decide) ?_
    rcases ite_or h with ⟨c21, h⟩ | ⟨c21, h⟩
    · refine z_icmp_ge_t hX 69 (by decide) dX8_dropsTurn_46 c21 ?_
      obtain rfl := ret1 h
      exact z_vret hR dX8_dropsTurn_69
    · refine z_icmp_ge_f hX 69 (by decide) dX8_dropsTurn_46 c21 ?_
      refine z_aload_n hX dX8_dropsTurn_49 0 rfl ?_
      refine z_bipush (x := 84) hX dX8_dropsTurn_50 (by decide) ?_
      refine z_iconst (x := 3) hX dX8_dropsTurn_52 (by decide) ?_
      refine z_aload_n hX dX8_dropsTurn_53 0 rfl ?_
      refine z_bipush (x := 6) hX dX8_dropsTurn_54 (by decide) ?_
      refine z_iald hX hk_j0 hl_j0 (by unfold vp_in; decide) dX8_dropsTurn_56 ?_
      refine z_imul hX dX8_dropsTurn_57 ?_
      refine z_iadd hX dX8_dropsTurn_58 ?_
      refine z_iload_n hX dX8_dropsTurn_59 1 rfl ?_
      refine z_iadd hX dX8_dropsTurn_60 ?_
      refine z_iconst (x := 0) hX dX8_dropsTurn_61 (by decide) ?_
      obtain ⟨g22, h⟩ := gd_some h
      obtain ⟨σ23, eσ23, h⟩ := bd_some h
      refine z_iast hX hk_j0 hl_j0 g22 dX8_dropsTurn_62 ?_
      refine z_ms eσ23 ?_
      refine z_iinc (y := (a2 + 1)) (lv' := [(2, .int (a2 + 1)), (0, rf X.1 j0)]) hX dX8_dropsTurn_63 1 rfl rfl (by decide) rfl ?_
      refine z_goto hX 44 (by decide) dX8_dropsTurn_66 ?_
      refine z_sub (lv' := [(0, rf X.1 j0), (2, .int (a2 + 1))]) [1, 0] rfl ?_
      exact ih j0 (a2 + 1) σ23 hk_j0 hl_j0 h
set_option maxRecDepth 20000 in
set_option maxHeartbeats 4000000 in
theorem t_X8_dropsTurn_15 {X : CX} {N : Nat} {σ' : HP} (hR : OkX X RX8 cX8_dropsTurn 3 0 0 none none σ')  : ∀ (n : Nat) (j0 : Nat) (a2 : Int32) (σ : HP), kd j0 = 9 → ln j0 = 152 → L_X8_dropsTurn_15  N n j0 a2 σ = some σ' → Z X σ 15 [(0, rf X.1 j0), (2, .int a2)] [] := by
  have hX := hR.1
  intro n
  induction n with
  | zero =>
    intro j0 a2 σ hk_j0 hl_j0 h
    rw [L_X8_dropsTurn_15] at h
    cases h
  | succ n ih =>
    intro j0 a2 σ hk_j0 hl_j0 h
    rw [L_X8_dropsTurn_15] at h
    refine z_iload_n hX dX8_dropsTurn_15 1 rfl ?_
    refine z_bipush (x := 84) hX dX8_dropsTurn_16 (by decide) ?_
    refine z_iconst (x := 3) hX dX8_dropsTurn_18 (by decide) ?_
    refine z_aload_n hX dX8_dropsTurn_19 0 rfl ?_
    refine z_bipush (x := 6) hX dX8_dropsTurn_20 (by decide) ?_
    refine z_iald hX hk_j0 hl_j0 (by unfold vp_in; decide) dX8_dropsTurn_22 ?_
    refine z_imul hX dX8_dropsTurn_23 ?_
    refine z_iadd hX dX8_dropsTurn_24 ?_
    rcases ite_or h with ⟨c21, h⟩ | ⟨c21, h⟩
    · refine z_icmp_ge_t hX 42 (by decide) dX8_dropsTurn_25 c21 ?_
      refine z_iconst (x := 0) hX dX8_dropsTurn_42 (by decide) ?_
      refine z_istore_n (lv' := [(2, .int 0), (0, rf X.1 j0)]) hX dX8_dropsTurn_43 (by decide) rfl ?_
      refine z_sub (lv' := [(0, rf X.1 j0), (2, .int 0)]) [1, 0] rfl ?_
      exact t_X8_dropsTurn_44 hR  N j0 0 σ hk_j0 hl_j0 h
    · refine z_icmp_ge_f hX 42 (by decide) dX8_dropsTurn_25 c21 ?_
      refine z_aload_n hX dX8_dropsTurn_28 0 rfl ?_
      refine z_iload_n hX dX8_dropsTurn_29 1 rfl ?_
      refine z_aload_n hX dX8_dropsTurn_30 0 rfl ?_
      refine z_iload_n hX dX8_dropsTurn_31 1 rfl ?_
      refine z_iconst (x := 3) hX dX8_dropsTurn_32 (by decide) ?_
      refine z_iadd hX dX8_dropsTurn_33 ?_
      obtain ⟨g22, h⟩ := gd_some h
      refine z_iald hX hk_j0 hl_j0 g22 dX8_dropsTurn_34 ?_
      obtain ⟨g23, h⟩ := gd_some h
      obtain ⟨σ24, eσ24, h⟩ := bd_some h
      refine z_iast hX hk_j0 hl_j0 g23 dX8_dropsTurn_35 ?_
      refine z_ms eσ24 ?_
      refine z_iinc (y := (a2 + 1)) (lv' := [(2, .int (a2 + 1)), (0, rf X.1 j0)]) hX dX8_dropsTurn_36 1 rfl rfl (by decide) rfl ?_
      refine z_goto hX 15 (by decide) dX8_dropsTurn_39 ?_
      refine z_sub (lv' := [(0, rf X.1 j0), (2, .int (a2 + 1))]) [1, 0] rfl ?_
      exact ih j0 (a2 + 1) σ24 hk_j0 hl_j0 h
set_option maxRecDepth 20000 in
set_option maxHeartbeats 4000000 in
theorem c_X8_dropsTurn (w : WP) {N : Nat} {j0 : Nat} {a1 : Int32} {σ σ' : HP} (hk_j0 : kd j0 = 9) (hl_j0 : ln j0 = 152) (h : F_X8_dropsTurn N j0 a1 σ = some σ') : Ct w yX8_dropsTurn cX8_dropsTurn 3 none 0 0 [rf w j0, .int a1] σ none σ' := by
  refine z_met w (by decide +kernel) (Nat.le_of_ble_eq_true rfl) (fun X hw hX => ?_)
  subst hw
  have hR : OkX X RX8 cX8_dropsTurn 3 0 0 none none σ' := hX
  have hX := hR.1
  show Z X σ 0 [(0, rf X.1 j0), (1, .int a1)] []
  unfold F_X8_dropsTurn at h
  refine z_aload_n hX dX8_dropsTurn_0 0 rfl ?_
  refine z_bipush (x := 6) hX dX8_dropsTurn_1 (by decide) ?_
  refine z_dup2 hX rfl rfl dX8_dropsTurn_3 ?_
  refine z_iald hX hk_j0 hl_j0 (by unfold vp_in; decide) dX8_dropsTurn_4 ?_
  refine z_iconst (x := 1) hX dX8_dropsTurn_5 (by decide) ?_
  refine z_isub hX dX8_dropsTurn_6 ?_
  obtain ⟨σ21, eσ21, h⟩ := bd_some h
  refine z_iast hX hk_j0 hl_j0 (by unfold vp_in; decide) dX8_dropsTurn_7 ?_
  refine z_ms eσ21 ?_
  refine z_bipush (x := 84) hX dX8_dropsTurn_8 (by decide) ?_
  refine z_iconst (x := 3) hX dX8_dropsTurn_10 (by decide) ?_
  refine z_iload_n hX dX8_dropsTurn_11 1 rfl ?_
  refine z_imul hX dX8_dropsTurn_12 ?_
  refine z_iadd hX dX8_dropsTurn_13 ?_
  obtain ⟨x22, ex22, h⟩ := bd_some h
  refine z_top ex22 ?_
  refine z_istore_n (lv' := [(2, .int x22), (0, rf X.1 j0), (1, .int a1)]) hX dX8_dropsTurn_14 (by decide) rfl ?_
  refine z_sub (lv' := [(0, rf X.1 j0), (2, .int x22)]) [1, 0] rfl ?_
  exact t_X8_dropsTurn_15 hR  N j0 x22 σ21 hk_j0 hl_j0 h
set_option maxRecDepth 20000 in
set_option maxHeartbeats 4000000 in
theorem t_X8_minute_9 {X : CX} {N : Nat} {r : Int32} {σ' : HP} (hR : OkX X RX8 cX8_minute 4 5 112 (some .int) (some (.int r)) σ')  : ∀ (n : Nat) (j0 : Nat) (j1 : Nat) (a2 : Int32) (σ : HP), kd j0 = 8 → kd j1 = 9 → ln j1 = 152 → L_X8_minute_9  N n j0 j1 a2 σ = some (r, σ') → Z X σ 9 [(0, rf X.1 j0), (1, rf X.1 j1), (2, .int a2)] [] := by
  have hX := hR.1
  intro n
  induction n with
  | zero =>
    intro j0 j1 a2 σ hk_j0 hk_j1 hl_j1 h
    rw [L_X8_minute_9] at h
    cases h
  | succ n ih =>
    intro j0 j1 a2 σ hk_j0 hk_j1 hl_j1 h
    rw [L_X8_minute_9] at h
    refine z_iload_n hX dX8_minute_9 2 rfl ?_
    refine z_aload_n hX dX8_minute_10 1 rfl ?_
    refine z_iconst (x := 0) hX dX8_minute_11 (by decide) ?_
    refine z_iald hX hk_j1 hl_j1 (by unfold vp_in; decide) dX8_minute_12 ?_
    rcases ite_or h with ⟨c21, h⟩ | ⟨c21, h⟩
    · refine z_icmp_ge_t hX 44 (by decide) dX8_minute_13 c21 ?_
      refine z_aload_n hX dX8_minute_44 1 rfl ?_
      refine z_bipush (x := 6) hX dX8_minute_45 (by decide) ?_
      refine z_iald hX hk_j1 hl_j1 (by unfold vp_in; decide) dX8_minute_47 ?_
      rcases ite_or h with ⟨c22, h⟩ | ⟨c22, h⟩
      · refine z_if_eq_t hX 61 (by decide) dX8_minute_48 c22 ?_
        refine z_iconst (x := 0) hX dX8_minute_61 (by decide) ?_
        obtain ⟨rfl, rfl⟩ := ret2 h
        exact z_iret hR dX8_minute_62
      · refine z_if_eq_f hX 61 (by decide) dX8_minute_48 c22 ?_
        refine z_aload_n hX dX8_minute_51 1 rfl ?_
        refine z_bipush (x := 84) hX dX8_minute_52 (by decide) ?_
        refine z_iald hX hk_j1 hl_j1 (by unfold vp_in; decide) dX8_minute_54 ?_
        refine z_aload_n hX dX8_minute_55 1 rfl ?_
        refine z_iconst (x := 1) hX dX8_minute_56 (by decide) ?_
        refine z_iald hX hk_j1 hl_j1 (by unfold vp_in; decide) dX8_minute_57 ?_
        rcases ite_or h with ⟨c23, h⟩ | ⟨c23, h⟩
        · refine z_icmp_eq_t hX 63 (by decide) dX8_minute_58 c23 ?_
          refine z_aload_n hX dX8_minute_63 1 rfl ?_
          refine z_bipush (x := 85) hX dX8_minute_64 (by decide) ?_
          refine z_iald hX hk_j1 hl_j1 (by unfold vp_in; decide) dX8_minute_66 ?_
          obtain ⟨x24, ex24, h⟩ := bd_some h
          refine z_top ex24 ?_
          refine z_istore_n (lv' := [(2, .int x24), (0, rf X.1 j0), (1, rf X.1 j1)]) hX dX8_minute_67 (by decide) rfl ?_
          refine z_aload_n hX dX8_minute_68 2 rfl ?_
          refine z_bipush (x := 86) hX dX8_minute_69 (by decide) ?_
          refine z_iald hX hk_j1 hl_j1 (by unfold vp_in; decide) dX8_minute_71 ?_
          obtain ⟨x25, ex25, h⟩ := bd_some h
          refine z_top ex25 ?_
          refine z_istore_n (lv' := [(3, .int x25), (2, .int x24), (0, rf X.1 j0), (1, rf X.1 j1)]) hX dX8_minute_72 (by decide) rfl ?_
          refine z_aload_n hX dX8_minute_73 3 rfl ?_
          refine z_iconst (x := 0) hX dX8_minute_74 (by decide) ?_
          obtain ⟨σ27, k26, h⟩ := bind_some h
          refine v_X8_98 hX (c_X8_dropsTurn X.1 hk_j1 hl_j1 k26) (Nat.le_of_ble_eq_true rfl) (Nat.le_of_ble_eq_true rfl) (Nat.le_of_ble_eq_true rfl) dX8_minute_75 ?_
          refine z_aload_n hX dX8_minute_78 2 rfl ?_
          refine z_aload_n hX dX8_minute_79 3 rfl ?_
          refine z_iload_n hX dX8_minute_80 1 rfl ?_
          refine z_iload_n hX dX8_minute_81 0 rfl ?_
          obtain ⟨r29, σ30, k28, h⟩ := bind2_some h
          refine v_X8_102 hX hk_j0 (c_X8_blows X.1 hk_j0 hk_j1 hl_j1 k28) (Nat.le_of_ble_eq_true rfl) (Nat.le_of_ble_eq_true rfl) (Nat.le_of_ble_eq_true rfl) dX8_minute_82 ?_
          obtain ⟨rfl, rfl⟩ := ret2 h
          exact z_iret hR dX8_minute_85
        · refine z_icmp_eq_f hX 63 (by decide) dX8_minute_58 c23 ?_
          refine z_iconst (x := 0) hX dX8_minute_61 (by decide) ?_
          obtain ⟨rfl, rfl⟩ := ret2 h
          exact z_iret hR dX8_minute_62
    · refine z_icmp_ge_f hX 44 (by decide) dX8_minute_13 c21 ?_
      refine z_aload_n hX dX8_minute_16 1 rfl ?_
      refine z_iload_n hX dX8_minute_17 2 rfl ?_
      obtain ⟨r32, k31, h⟩ := bind_some h
      refine v_X8_59 hX (c_X8_isTangled X.1 hk_j1 hl_j1 k31) (Nat.le_of_ble_eq_true rfl) (Nat.le_of_ble_eq_true rfl) (Nat.le_of_ble_eq_true rfl) dX8_minute_18 ?_
      rcases ite_or h with ⟨c33, h⟩ | ⟨c33, h⟩
      · refine z_if_eq_t hX 38 (by decide) dX8_minute_21 c33 ?_
        refine z_iinc (y := (a2 + 1)) (lv' := [(2, .int (a2 + 1)), (0, rf X.1 j0), (1, rf X.1 j1)]) hX dX8_minute_38 2 rfl rfl (by decide) rfl ?_
        refine z_goto hX 9 (by decide) dX8_minute_41 ?_
        refine z_sub (lv' := [(0, rf X.1 j0), (1, rf X.1 j1), (2, .int (a2 + 1))]) [1, 2, 0] rfl ?_
        exact ih j0 j1 (a2 + 1) σ hk_j0 hk_j1 hl_j1 h
      · refine z_if_eq_f hX 38 (by decide) dX8_minute_21 c33 ?_
        refine z_aload_n hX dX8_minute_24 1 rfl ?_
        refine z_iload_n hX dX8_minute_25 2 rfl ?_
        refine z_iconst (x := 4) hX dX8_minute_26 (by decide) ?_
        refine z_aload_n hX dX8_minute_27 1 rfl ?_
        refine z_iload_n hX dX8_minute_28 2 rfl ?_
        refine z_iconst (x := 4) hX dX8_minute_29 (by decide) ?_
        obtain ⟨r35, k34, h⟩ := bind_some h
        refine v_X8_51 hX (c_X8_of X.1 hk_j1 hl_j1 k34) (Nat.le_of_ble_eq_true rfl) (Nat.le_of_ble_eq_true rfl) (Nat.le_of_ble_eq_true rfl) dX8_minute_30 ?_
        refine z_iconst (x := 1) hX dX8_minute_33 (by decide) ?_
        refine z_isub hX dX8_minute_34 ?_
        obtain ⟨σ37, k36, h⟩ := bind_some h
        refine v_X8_84 hX (c_X8_puts X.1 hk_j1 hl_j1 k36) (Nat.le_of_ble_eq_true rfl) (Nat.le_of_ble_eq_true rfl) (Nat.le_of_ble_eq_true rfl) dX8_minute_35 ?_
        refine z_iinc (y := (a2 + 1)) (lv' := [(2, .int (a2 + 1)), (0, rf X.1 j0), (1, rf X.1 j1)]) hX dX8_minute_38 2 rfl rfl (by decide) rfl ?_
        refine z_goto hX 9 (by decide) dX8_minute_41 ?_
        refine z_sub (lv' := [(0, rf X.1 j0), (1, rf X.1 j1), (2, .int (a2 + 1))]) [1, 2, 0] rfl ?_
        exact ih j0 j1 (a2 + 1) σ37 hk_j0 hk_j1 hl_j1 h
set_option maxRecDepth 20000 in
set_option maxHeartbeats 4000000 in
theorem c_X8_minute (w : WP) {N : Nat} {j0 : Nat} {j1 : Nat} {r : Int32} {σ σ' : HP} (hk_j0 : kd j0 = 8) (hk_j1 : kd j1 = 9) (hl_j1 : ln j1 = 152) (h : F_X8_minute N j0 j1 σ = some (r, σ')) : Ct w yX8_minute cX8_minute 4 (some .int) 5 112 [rf w j0, rf w j1] σ (some (.int r)) σ' := by
  refine z_met w (by decide +kernel) (Nat.le_of_ble_eq_true rfl) (fun X hw hX => ?_)
  subst hw
  have hR : OkX X RX8 cX8_minute 4 5 112 (some .int) (some (.int r)) σ' := hX
  have hX := hR.1
  show Z X σ 0 [(0, rf X.1 j0), (1, rf X.1 j1)] []
  unfold F_X8_minute at h
  refine z_aload_n hX dX8_minute_0 1 rfl ?_
  refine z_iconst (x := 1) hX dX8_minute_1 (by decide) ?_
  refine z_dup2 hX rfl rfl dX8_minute_2 ?_
  refine z_iald hX hk_j1 hl_j1 (by unfold vp_in; decide) dX8_minute_3 ?_
  refine z_iconst (x := 1) hX dX8_minute_4 (by decide) ?_
  refine z_iadd hX dX8_minute_5 ?_
  obtain ⟨σ21, eσ21, h⟩ := bd_some h
  refine z_iast hX hk_j1 hl_j1 (by unfold vp_in; decide) dX8_minute_6 ?_
  refine z_ms eσ21 ?_
  refine z_iconst (x := 0) hX dX8_minute_7 (by decide) ?_
  refine z_istore_n (lv' := [(2, .int 0), (0, rf X.1 j0), (1, rf X.1 j1)]) hX dX8_minute_8 (by decide) rfl ?_
  refine z_sub (lv' := [(0, rf X.1 j0), (1, rf X.1 j1), (2, .int 0)]) [1, 2, 0] rfl ?_
  exact t_X8_minute_9 hR  N j0 j1 0 σ21 hk_j0 hk_j1 hl_j1 h
set_option maxRecDepth 20000 in
set_option maxHeartbeats 4000000 in
theorem t_X8_trades_61 {X : CX} {N : Nat} {j0 : Nat} {j1 : Nat} {a3 : Int32} {r : Int32} {σ σ' : HP} (hR : OkX X RX8 cX8_trades 5 6 135 (some .boolean) (some (.int r)) σ')  (hk_j0 : kd j0 = 8) (hk_j1 : kd j1 = 9) (hl_j1 : ln j1 = 152) (h : J_X8_trades_61  N j0 j1 a3 σ = some (r, σ')) : Z X σ 61 [(0, rf X.1 j0), (1, rf X.1 j1), (3, .int a3)] [] := by
  have hX := hR.1
  unfold J_X8_trades_61 at h
  refine z_aload_n hX dX8_trades_61 0 rfl ?_
  refine z_aload_n hX dX8_trades_62 1 rfl ?_
  obtain ⟨r22, σ23, k21, h⟩ := bind2_some h
  refine v_X8_111 hX hk_j0 (c_X8_minute X.1 hk_j0 hk_j1 hl_j1 k21) (Nat.le_of_ble_eq_true rfl) (Nat.le_of_ble_eq_true rfl) (Nat.le_of_ble_eq_true rfl) dX8_trades_63 ?_
  refine z_istore (lv' := [(4, .int r22), (0, rf X.1 j0), (1, rf X.1 j1), (3, .int a3)]) hX dX8_trades_66 (by decide) rfl ?_
  refine z_iload_n hX dX8_trades_68 3 rfl ?_
  rcases ite_or h with ⟨c24, h⟩ | ⟨c24, h⟩
  · refine z_if_eq_t hX 81 (by decide) dX8_trades_69 c24 ?_
    refine z_iconst (x := 0) hX dX8_trades_81 (by decide) ?_
    obtain ⟨rfl, rfl⟩ := ret2 h
    exact z_zret hR rfl dX8_trades_82
  · refine z_if_eq_f hX 81 (by decide) dX8_trades_69 c24 ?_
    refine z_iload hX dX8_trades_72 0 rfl ?_
    rcases ite_or h with ⟨c25, h⟩ | ⟨c25, h⟩
    · refine z_if_lt_t hX 81 (by decide) dX8_trades_74 c25 ?_
      refine z_iconst (x := 0) hX dX8_trades_81 (by decide) ?_
      obtain ⟨rfl, rfl⟩ := ret2 h
      exact z_zret hR rfl dX8_trades_82
    · refine z_if_lt_f hX 81 (by decide) dX8_trades_74 c25 ?_
      refine z_iconst (x := 1) hX dX8_trades_77 (by decide) ?_
      refine z_goto hX 82 (by decide) dX8_trades_78 ?_
      obtain ⟨rfl, rfl⟩ := ret2 h
      exact z_zret hR rfl dX8_trades_82
set_option maxRecDepth 20000 in
set_option maxHeartbeats 4000000 in
theorem c_X8_trades (w : WP) {N : Nat} {j0 : Nat} {j1 : Nat} {a2 : Int32} {r : Int32} {σ σ' : HP} (hk_j0 : kd j0 = 8) (hk_j1 : kd j1 = 9) (hl_j1 : ln j1 = 152) (h : F_X8_trades N j0 j1 a2 σ = some (r, σ')) : Ct w yX8_trades cX8_trades 5 (some .boolean) 6 135 [rf w j0, rf w j1, .int a2] σ (some (.int r)) σ' := by
  refine z_met w (by decide +kernel) (Nat.le_of_ble_eq_true rfl) (fun X hw hX => ?_)
  subst hw
  have hR : OkX X RX8 cX8_trades 5 6 135 (some .boolean) (some (.int r)) σ' := hX
  have hX := hR.1
  show Z X σ 0 [(0, rf X.1 j0), (1, rf X.1 j1), (2, .int a2)] []
  unfold F_X8_trades at h
  refine z_aload_n hX dX8_trades_0 1 rfl ?_
  refine z_iload_n hX dX8_trades_1 2 rfl ?_
  obtain ⟨r22, k21, h⟩ := bind_some h
  refine v_X8_105 hX (c_X8_wouldTangle X.1 hk_j1 hl_j1 k21) (Nat.le_of_ble_eq_true rfl) (Nat.le_of_ble_eq_true rfl) (Nat.le_of_ble_eq_true rfl) dX8_trades_2 ?_
  refine z_istore_n (lv' := [(3, .int r22), (0, rf X.1 j0), (1, rf X.1 j1), (2, .int a2)]) hX dX8_trades_5 (by decide) rfl ?_
  refine z_aload_n hX dX8_trades_6 2 rfl ?_
  refine z_iload_n hX dX8_trades_7 3 rfl ?_
  obtain ⟨σ24, k23, h⟩ := bind_some h
  refine v_X8_108 hX (c_X8_swaps X.1 hk_j1 hl_j1 k23) (Nat.le_of_ble_eq_true rfl) (Nat.le_of_ble_eq_true rfl) (Nat.le_of_ble_eq_true rfl) dX8_trades_8 ?_
  refine z_aload_n hX dX8_trades_11 2 rfl ?_
  refine z_iload_n hX dX8_trades_12 3 rfl ?_
  refine z_iconst (x := 5) hX dX8_trades_13 (by decide) ?_
  refine z_aload_n hX dX8_trades_14 2 rfl ?_
  refine z_iload_n hX dX8_trades_15 3 rfl ?_
  refine z_iconst (x := 5) hX dX8_trades_16 (by decide) ?_
  obtain ⟨r26, k25, h⟩ := bind_some h
  refine v_X8_51 hX (c_X8_of X.1 hk_j1 hl_j1 k25) (Nat.le_of_ble_eq_true rfl) (Nat.le_of_ble_eq_true rfl) (Nat.le_of_ble_eq_true rfl) dX8_trades_17 ?_
  refine z_iconst (x := 1) hX dX8_trades_20 (by decide) ?_
  refine z_iadd hX dX8_trades_21 ?_
  obtain ⟨σ28, k27, h⟩ := bind_some h
  refine v_X8_84 hX (c_X8_puts X.1 hk_j1 hl_j1 k27) (Nat.le_of_ble_eq_true rfl) (Nat.le_of_ble_eq_true rfl) (Nat.le_of_ble_eq_true rfl) dX8_trades_22 ?_
  refine z_aload_n hX dX8_trades_25 2 rfl ?_
  refine z_iload_n hX dX8_trades_26 3 rfl ?_
  refine z_iconst (x := 1) hX dX8_trades_27 (by decide) ?_
  refine z_iadd hX dX8_trades_28 ?_
  refine z_iconst (x := 5) hX dX8_trades_29 (by decide) ?_
  refine z_aload_n hX dX8_trades_30 2 rfl ?_
  refine z_iload_n hX dX8_trades_31 3 rfl ?_
  refine z_iconst (x := 1) hX dX8_trades_32 (by decide) ?_
  refine z_iadd hX dX8_trades_33 ?_
  refine z_iconst (x := 5) hX dX8_trades_34 (by decide) ?_
  obtain ⟨r30, k29, h⟩ := bind_some h
  refine v_X8_51 hX (c_X8_of X.1 hk_j1 hl_j1 k29) (Nat.le_of_ble_eq_true rfl) (Nat.le_of_ble_eq_true rfl) (Nat.le_of_ble_eq_true rfl) dX8_trades_35 ?_
  refine z_iconst (x := 1) hX dX8_trades_38 (by decide) ?_
  refine z_iadd hX dX8_trades_39 ?_
  obtain ⟨σ32, k31, h⟩ := bind_some h
  refine v_X8_84 hX (c_X8_puts X.1 hk_j1 hl_j1 k31) (Nat.le_of_ble_eq_true rfl) (Nat.le_of_ble_eq_true rfl) (Nat.le_of_ble_eq_true rfl) dX8_trades_40 ?_
  refine z_aload_n hX dX8_trades_43 2 rfl ?_
  refine z_bipush (x := 8) hX dX8_trades_44 (by decide) ?_
  refine z_dup2 hX rfl rfl dX8_trades_46 ?_
  refine z_iald hX hk_j1 hl_j1 (by unfold vp_in; decide) dX8_trades_47 ?_
  refine z_iconst (x := 1) hX dX8_trades_48 (by decide) ?_
  refine z_iadd hX dX8_trades_49 ?_
  obtain ⟨σ33, eσ33, h⟩ := bd_some h
  refine z_iast hX hk_j1 hl_j1 (by unfold vp_in; decide) dX8_trades_50 ?_
  refine z_ms eσ33 ?_
  refine z_iload_n hX dX8_trades_51 0 rfl ?_
  rcases ite_or h with ⟨c34, h⟩ | ⟨c34, h⟩
  · refine z_if_eq_t hX 61 (by decide) dX8_trades_52 c34 ?_
    refine z_sub (lv' := [(0, rf X.1 j0), (1, rf X.1 j1), (3, .int r22)]) [1, 2, 0] rfl ?_
    exact t_X8_trades_61 hR  hk_j0 hk_j1 hl_j1 h
  · refine z_if_eq_f hX 61 (by decide) dX8_trades_52 c34 ?_
    refine z_aload_n hX dX8_trades_55 2 rfl ?_
    refine z_iload_n hX dX8_trades_56 3 rfl ?_
    refine z_iconst (x := 1) hX dX8_trades_57 (by decide) ?_
    obtain ⟨σ36, k35, h⟩ := bind_some h
    refine v_X8_95 hX (c_X8_tangles X.1 hk_j1 hl_j1 k35) (Nat.le_of_ble_eq_true rfl) (Nat.le_of_ble_eq_true rfl) (Nat.le_of_ble_eq_true rfl) dX8_trades_58 ?_
    refine z_sub (lv' := [(0, rf X.1 j0), (1, rf X.1 j1), (3, .int r22)]) [1, 2, 0] rfl ?_
    exact t_X8_trades_61 hR  hk_j0 hk_j1 hl_j1 h
