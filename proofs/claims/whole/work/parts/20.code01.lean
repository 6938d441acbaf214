theorem ret1 {α : Type} {a b : α} (h : some a = some b) : b = a := (Option.some.inj h).symm
theorem ret2 {α β : Type} {a b : α} {c d : β} (h : some (a, c) = some (b, d)) : b = a ∧ d = c := ⟨(Prod.mk.inj (Option.some.inj h)).1.symm, (Prod.mk.inj (Option.some.inj h)).2.symm⟩
set_option maxRecDepth 20000 in
set_option maxHeartbeats 4000000 in
theorem t_X0_firstFree_2 {X : CX} {N : Nat} {r : Int32} {σ : HP} (hR : OkX X RX0 cX0_firstFree 4 0 0 (some .int) (some (.int r)) σ)  : ∀ (n : Nat) (j0 : Nat) (a1 : Int32) (a2 : Int32) (a3 : Int32), kd j0 = 6 → L_X0_firstFree_2  N σ n j0 a1 a2 a3 = some r → Z X σ 2 [(0, rf X.1 j0), (1, .int a1), (2, .int a2), (3, .int a3)] [] := by
  have hX := hR.1
  intro n
  induction n with
  | zero =>
    intro j0 a1 a2 a3 hk_j0 h
    rw [L_X0_firstFree_2] at h
    cases h
  | succ n ih =>
    intro j0 a1 a2 a3 hk_j0 h
    rw [L_X0_firstFree_2] at h
    refine z_iload_n hX dX0_firstFree_2 3 rfl ?_
    refine z_aload_n hX dX0_firstFree_3 0 rfl ?_
    refine g_X0_33 hX hk_j0 dX0_firstFree_4 ?_
    rcases ite_or h with ⟨c21, h⟩ | ⟨c21, h⟩
    · refine z_icmp_ge_t hX 36 (by decide) dX0_firstFree_7 c21 ?_
      refine z_iconst (x := (-1)) hX dX0_firstFree_36 (by decide) ?_
      obtain rfl := ret1 h
      exact z_iret hR dX0_firstFree_37
    · refine z_icmp_ge_f hX 36 (by decide) dX0_firstFree_7 c21 ?_
      refine z_aload_n hX dX0_firstFree_10 0 rfl ?_
      refine g_X0_60 hX hk_j0 dX0_firstFree_11 ?_
      refine z_iload_n hX dX0_firstFree_14 3 rfl ?_
      obtain ⟨g22, h⟩ := gd_some h
      refine z_cald hX (kl_6_0 hk_j0).1 (kl_6_0 hk_j0).2 g22 dX0_firstFree_15 ?_
      refine z_iload_n hX dX0_firstFree_16 1 rfl ?_
      rcases ite_or h with ⟨c23, h⟩ | ⟨c23, h⟩
      · refine z_icmp_ne_f hX 30 (by decide) dX0_firstFree_17 c23 ?_
        refine z_iload_n hX dX0_firstFree_20 2 rfl ?_
        refine z_iload_n hX dX0_firstFree_21 3 rfl ?_
        refine z_ishr hX dX0_firstFree_22 ?_
        refine z_iconst (x := 1) hX dX0_firstFree_23 (by decide) ?_
        refine z_iand hX dX0_firstFree_24 ?_
        rcases ite_or h with ⟨c24, h⟩ | ⟨c24, h⟩
        · refine z_if_ne_f hX 30 (by decide) dX0_firstFree_25 c24 ?_
          refine z_iload_n hX dX0_firstFree_28 3 rfl ?_
          obtain rfl := ret1 h
          exact z_iret hR dX0_firstFree_29
        · refine z_if_ne_t hX 30 (by decide) dX0_firstFree_25 c24 ?_
          refine z_iinc (y := (a3 + 1)) (lv' := [(3, .int (a3 + 1)), (0, rf X.1 j0), (1, .int a1), (2, .int a2)]) hX dX0_firstFree_30 3 rfl rfl (by decide) rfl ?_
          refine z_goto hX 2 (by decide) dX0_firstFree_33 ?_
          refine z_sub (lv' := [(0, rf X.1 j0), (1, .int a1), (2, .int a2), (3, .int (a3 + 1))]) [1, 2, 3, 0] rfl ?_
          exact ih j0 a1 a2 (a3 + 1) hk_j0 h
      · refine z_icmp_ne_t hX 30 (by decide) dX0_firstFree_17 c23 ?_
        refine z_iinc (y := (a3 + 1)) (lv' := [(3, .int (a3 + 1)), (0, rf X.1 j0), (1, .int a1), (2, .int a2)]) hX dX0_firstFree_30 3 rfl rfl (by decide) rfl ?_
        refine z_goto hX 2 (by decide) dX0_firstFree_33 ?_
        refine z_sub (lv' := [(0, rf X.1 j0), (1, .int a1), (2, .int a2), (3, .int (a3 + 1))]) [1, 2, 3, 0] rfl ?_
        exact ih j0 a1 a2 (a3 + 1) hk_j0 h
set_option maxRecDepth 20000 in
set_option maxHeartbeats 4000000 in
theorem c_X0_firstFree (w : WP) {N : Nat} {j0 : Nat} {a1 : Int32} {a2 : Int32} {r : Int32} {σ : HP} (hk_j0 : kd j0 = 6) (h : F_X0_firstFree N j0 a1 a2 σ = some r) : Ct w yX0_firstFree cX0_firstFree 4 (some .int) 0 0 [rf w j0, .int a1, .int a2] σ (some (.int r)) σ := by
  refine z_met w (by decide +kernel) (Nat.le_of_ble_eq_true rfl) (fun X hw hX => ?_)
  subst hw
  have hR : OkX X RX0 cX0_firstFree 4 0 0 (some .int) (some (.int r)) σ := hX
  have hX := hR.1
  show Z X σ 0 [(0, rf X.1 j0), (1, .int a1), (2, .int a2)] []
  unfold F_X0_firstFree at h
  refine z_iconst (x := 0) hX dX0_firstFree_0 (by decide) ?_
  refine z_istore_n (lv' := [(3, .int 0), (0, rf X.1 j0), (1, .int a1), (2, .int a2)]) hX dX0_firstFree_1 (by decide) rfl ?_
  refine z_sub (lv' := [(0, rf X.1 j0), (1, .int a1), (2, .int a2), (3, .int 0)]) [1, 2, 3, 0] rfl ?_
  exact t_X0_firstFree_2 hR  N j0 a1 a2 0 hk_j0 h
set_option maxRecDepth 20000 in
set_option maxHeartbeats 4000000 in
theorem t_X0_findTargets_35 {X : CX} {N : Nat} {k5 : (Nat → Nat → Nat → Int32 → Int32 → HP → Option (Int32 × HP))} {j0 : Nat} {j1 : Nat} {j2 : Nat} {a3 : Int32} {a4 : Int32} {s0 : Int32} {r : Int32} {σ σ' : HP} (hR : OkX X RX0 cX0_findTargets 7 1 23 (some .boolean) (some (.int r)) σ') (hk5 : ∀ (j0 : Nat) (j1 : Nat) (j2 : Nat) (a3 : Int32) (a4 : Int32) (σ9 : HP), kd j0 = 0 → kd j1 = 3 → kd j2 = 6 → k5 j0 j1 j2 a3 a4 σ9 = some (r, σ') → Z X σ9 5 [(0, rf X.1 j0), (1, rf X.1 j1), (2, rf X.1 j2), (3, .int a3), (4, .int a4)] []) (hk_j0 : kd j0 = 0) (hk_j1 : kd j1 = 3) (hk_j2 : kd j2 = 6) (h : J_X0_findTargets_35 k5 N j0 j1 j2 a3 a4 s0 σ = some (r, σ')) : Z X σ 35 [(0, rf X.1 j0), (1, rf X.1 j1), (2, rf X.1 j2), (3, .int a3), (4, .int a4)] [.int s0] := by
  have hX := hR.1
  unfold J_X0_findTargets_35 at h
  refine z_istore (lv' := [(5, .int s0), (0, rf X.1 j0), (1, rf X.1 j1), (2, rf X.1 j2), (3, .int a3), (4, .int a4)]) hX dX0_findTargets_35 (by decide) rfl ?_
  refine z_aload_n hX dX0_findTargets_37 3 rfl ?_
  refine z_aload_n hX dX0_findTargets_38 2 rfl ?_
  refine g_X0_53 hX hk_j1 dX0_findTargets_39 ?_
  refine z_iload hX dX0_findTargets_42 0 rfl ?_
  obtain ⟨g21, h⟩ := gd_some h
  refine z_iald hX (kl_3_1 hk_j1).1 (kl_3_1 hk_j1).2 g21 dX0_findTargets_44 ?_
  refine z_iload_n hX dX0_findTargets_45 4 rfl ?_
  obtain ⟨r23, k22, h⟩ := bind_some h
  refine v_X0_56 hX (c_X0_firstFree X.1 hk_j2 k22) (Nat.le_of_ble_eq_true rfl) (Nat.le_of_ble_eq_true rfl) (Nat.le_of_ble_eq_true rfl) dX0_findTargets_46 ?_
  refine z_istore (lv' := [(6, .int r23), (5, .int s0), (0, rf X.1 j0), (1, rf X.1 j1), (2, rf X.1 j2), (3, .int a3), (4, .int a4)]) hX dX0_findTargets_49 (by decide) rfl ?_
  refine z_iload hX dX0_findTargets_51 0 rfl ?_
  refine z_iconst (x := (-1)) hX dX0_findTargets_53 (by decide) ?_
  rcases ite_or h with ⟨c24, h⟩ | ⟨c24, h⟩
  · refine z_icmp_ne_f hX 59 (by decide) dX0_findTargets_54 c24 ?_
    refine z_iconst (x := 0) hX dX0_findTargets_57 (by decide) ?_
    obtain ⟨rfl, rfl⟩ := ret2 h
    exact z_zret hR rfl dX0_findTargets_58
  · refine z_icmp_ne_t hX 59 (by decide) dX0_findTargets_54 c24 ?_
    refine z_iload_n hX dX0_findTargets_59 5 rfl ?_
    refine z_iconst (x := 1) hX dX0_findTargets_60 (by decide) ?_
    refine z_iload hX dX0_findTargets_61 0 rfl ?_
    refine z_ishl hX dX0_findTargets_63 ?_
    refine z_ior hX dX0_findTargets_64 ?_
    obtain ⟨x25, ex25, h⟩ := bd_some h
    refine z_top ex25 ?_
    refine z_istore_n (lv' := [(3, .int x25), (6, .int r23), (5, .int s0), (0, rf X.1 j0), (1, rf X.1 j1), (2, rf X.1 j2), (4, .int a4)]) hX dX0_findTargets_65 (by decide) rfl ?_
    refine z_aload_n hX dX0_findTargets_66 3 rfl ?_
    refine g_X0_9 hX hk_j0 dX0_findTargets_67 ?_
    refine z_iload hX dX0_findTargets_70 2 rfl ?_
    refine z_iload hX dX0_findTargets_72 1 rfl ?_
    obtain ⟨g26, h⟩ := gd_some h
    obtain ⟨σ27, eσ27, h⟩ := bd_some h
    refine z_iast hX (kl_0_0 hk_j0).1 (kl_0_0 hk_j0).2 g26 dX0_findTargets_74 ?_
    refine z_ms eσ27 ?_
    refine z_iinc (y := (a4 + 1)) (lv' := [(4, .int (a4 + 1)), (3, .int x25), (6, .int r23), (5, .int s0), (0, rf X.1 j0), (1, rf X.1 j1), (2, rf X.1 j2)]) hX dX0_findTargets_75 6 rfl rfl (by decide) rfl ?_
    refine z_goto hX 5 (by decide) dX0_findTargets_78 ?_
    refine z_sub (lv' := [(0, rf X.1 j0), (1, rf X.1 j1), (2, rf X.1 j2), (3, .int x25), (4, .int (a4 + 1))]) [4, 5, 6, 1, 0] rfl ?_
    exact hk5 j0 j1 j2 x25 (a4 + 1) σ27 hk_j0 hk_j1 hk_j2 h
set_option maxRecDepth 20000 in
set_option maxHeartbeats 4000000 in
theorem t_X0_findTargets_5 {X : CX} {N : Nat} {r : Int32} {σ' : HP} (hR : OkX X RX0 cX0_findTargets 7 1 23 (some .boolean) (some (.int r)) σ')  : ∀ (n : Nat) (j0 : Nat) (j1 : Nat) (j2 : Nat) (a3 : Int32) (a4 : Int32) (σ : HP), kd j0 = 0 → kd j1 = 3 → kd j2 = 6 → L_X0_findTargets_5  N n j0 j1 j2 a3 a4 σ = some (r, σ') → Z X σ 5 [(0, rf X.1 j0), (1, rf X.1 j1), (2, rf X.1 j2), (3, .int a3), (4, .int a4)] [] := by
  have hX := hR.1
  intro n
  induction n with
  | zero =>
    intro j0 j1 j2 a3 a4 σ hk_j0 hk_j1 hk_j2 h
    rw [L_X0_findTargets_5] at h
    cases h
  | succ n ih =>
    intro j0 j1 j2 a3 a4 σ hk_j0 hk_j1 hk_j2 h
    rw [L_X0_findTargets_5] at h
    refine z_iload hX dX0_findTargets_5 4 rfl ?_
    refine z_aload_n hX dX0_findTargets_7 1 rfl ?_
    refine g_X0_42 hX hk_j1 dX0_findTargets_8 ?_
    rcases ite_or h with ⟨c21, h⟩ | ⟨c21, h⟩
    · refine z_icmp_ge_t hX 81 (by decide) dX0_findTargets_11 c21 ?_
      refine z_iconst (x := 1) hX dX0_findTargets_81 (by decide) ?_
      obtain ⟨rfl, rfl⟩ := ret2 h
      exact z_zret hR rfl dX0_findTargets_82
    · refine z_icmp_ge_f hX 81 (by decide) dX0_findTargets_11 c21 ?_
      refine z_aload_n hX dX0_findTargets_14 0 rfl ?_
      refine g_X0_15 hX hk_j0 dX0_findTargets_15 ?_
      rcases ite_or h with ⟨c22, h⟩ | ⟨c22, h⟩
      · refine z_if_eq_t hX 33 (by decide) dX0_findTargets_18 c22 ?_
        refine z_iload hX dX0_findTargets_33 4 rfl ?_
        exact t_X0_findTargets_35 hR (fun j0 j1 j2 a3 a4 σ9 hk_j0 hk_j1 hk_j2 h9 => ih j0 j1 j2 a3 a4 σ9 hk_j0 hk_j1 hk_j2 h9) hk_j0 hk_j1 hk_j2 h
      · refine z_if_eq_f hX 33 (by decide) dX0_findTargets_18 c22 ?_
        refine z_aload_n hX dX0_findTargets_21 1 rfl ?_
        refine g_X0_42 hX hk_j1 dX0_findTargets_22 ?_
        refine z_iconst (x := 1) hX dX0_findTargets_25 (by decide) ?_
        refine z_isub hX dX0_findTargets_26 ?_
        refine z_iload hX dX0_findTargets_27 4 rfl ?_
        refine z_isub hX dX0_findTargets_29 ?_
        refine z_goto hX 35 (by decide) dX0_findTargets_30 ?_
        exact t_X0_findTargets_35 hR (fun j0 j1 j2 a3 a4 σ9 hk_j0 hk_j1 hk_j2 h9 => ih j0 j1 j2 a3 a4 σ9 hk_j0 hk_j1 hk_j2 h9) hk_j0 hk_j1 hk_j2 h
set_option maxRecDepth 20000 in
set_option maxHeartbeats 4000000 in
theorem c_X0_findTargets (w : WP) {N : Nat} {j0 : Nat} {j1 : Nat} {j2 : Nat} {r : Int32} {σ σ' : HP} (hk_j0 : kd j0 = 0) (hk_j1 : kd j1 = 3) (hk_j2 : kd j2 = 6) (h : F_X0_findTargets N j0 j1 j2 σ = some (r, σ')) : Ct w yX0_findTargets cX0_findTargets 7 (some .boolean) 1 23 [rf w j0, rf w j1, rf w j2] σ (some (.int r)) σ' := by
  refine z_met w (by decide +kernel) (Nat.le_of_ble_eq_true rfl) (fun X hw hX => ?_)
  subst hw
  have hR : OkX X RX0 cX0_findTargets 7 1 23 (some .boolean) (some (.int r)) σ' := hX
  have hX := hR.1
  show Z X σ 0 [(0, rf X.1 j0), (1, rf X.1 j1), (2, rf X.1 j2)] []
  unfold F_X0_findTargets at h
  refine z_iconst (x := 0) hX dX0_findTargets_0 (by decide) ?_
  refine z_istore_n (lv' := [(3, .int 0), (0, rf X.1 j0), (1, rf X.1 j1), (2, rf X.1 j2)]) hX dX0_findTargets_1 (by decide) rfl ?_
  refine z_iconst (x := 0) hX dX0_findTargets_2 (by decide) ?_
  refine z_istore (lv' := [(4, .int 0), (3, .int 0), (0, rf X.1 j0), (1, rf X.1 j1), (2, rf X.1 j2)]) hX dX0_findTargets_3 (by decide) rfl ?_
  refine z_sub (lv' := [(0, rf X.1 j0), (1, rf X.1 j1), (2, rf X.1 j2), (3, .int 0), (4, .int 0)]) [2, 3, 4, 1, 0] rfl ?_
  exact t_X0_findTargets_5 hR  N j0 j1 j2 0 0 σ hk_j0 hk_j1 hk_j2 h
set_option maxRecDepth 20000 in
set_option maxHeartbeats 4000000 in
theorem c_X0_isWrongPair (w : WP) {N : Nat} {j0 : Nat} {a1 : Int32} {a2 : Int32} {r : Int32} {σ : HP} (hk_j0 : kd j0 = 0) (h : F_X0_isWrongPair N j0 a1 a2 σ = some r) : Ct w yX0_isWrongPair cX0_isWrongPair 3 (some .boolean) 0 0 [rf w j0, .int a1, .int a2] σ (some (.int r)) σ := by
  refine z_met w (by decide +kernel) (Nat.le_of_ble_eq_true rfl) (fun X hw hX => ?_)
  subst hw
  have hR : OkX X RX0 cX0_isWrongPair 3 0 0 (some .boolean) (some (.int r)) σ := hX
  have hX := hR.1
  show Z X σ 0 [(0, rf X.1 j0), (1, .int a1), (2, .int a2)] []
  unfold F_X0_isWrongPair at h
  refine z_aload_n hX dX0_isWrongPair_0 0 rfl ?_
  refine g_X0_15 hX hk_j0 dX0_isWrongPair_1 ?_
  rcases ite_or h with ⟨c21, h⟩ | ⟨c21, h⟩
  · refine z_if_eq_t hX 30 (by decide) dX0_isWrongPair_4 c21 ?_
    refine z_aload_n hX dX0_isWrongPair_30 0 rfl ?_
    refine g_X0_9 hX hk_j0 dX0_isWrongPair_31 ?_
    refine z_iload_n hX dX0_isWrongPair_34 1 rfl ?_
    obtain ⟨g22, h⟩ := gd_some h
    refine z_iald hX (kl_0_0 hk_j0).1 (kl_0_0 hk_j0).2 g22 dX0_isWrongPair_35 ?_
    refine z_aload_n hX dX0_isWrongPair_36 0 rfl ?_
    refine g_X0_9 hX hk_j0 dX0_isWrongPair_37 ?_
    refine z_iload_n hX dX0_isWrongPair_40 2 rfl ?_
    obtain ⟨g23, h⟩ := gd_some h
    refine z_iald hX (kl_0_0 hk_j0).1 (kl_0_0 hk_j0).2 g23 dX0_isWrongPair_41 ?_
    rcases ite_or h with ⟨c24, h⟩ | ⟨c24, h⟩
    · refine z_icmp_le_t hX 49 (by decide) dX0_isWrongPair_42 c24 ?_
      refine z_iconst (x := 0) hX dX0_isWrongPair_49 (by decide) ?_
      obtain rfl := ret1 h
      exact z_zret hR rfl dX0_isWrongPair_50
    · refine z_icmp_le_f hX 49 (by decide) dX0_isWrongPair_42 c24 ?_
      refine z_iconst (x := 1) hX dX0_isWrongPair_45 (by decide) ?_
      refine z_goto hX 50 (by decide) dX0_isWrongPair_46 ?_
      obtain rfl := ret1 h
      exact z_zret hR rfl dX0_isWrongPair_50
  · refine z_if_eq_f hX 30 (by decide) dX0_isWrongPair_4 c21 ?_
    refine z_aload_n hX dX0_isWrongPair_7 0 rfl ?_
    refine g_X0_9 hX hk_j0 dX0_isWrongPair_8 ?_
    refine z_iload_n hX dX0_isWrongPair_11 1 rfl ?_
    obtain ⟨g25, h⟩ := gd_some h
    refine z_iald hX (kl_0_0 hk_j0).1 (kl_0_0 hk_j0).2 g25 dX0_isWrongPair_12 ?_
    refine z_aload_n hX dX0_isWrongPair_13 0 rfl ?_
    refine g_X0_9 hX hk_j0 dX0_isWrongPair_14 ?_
    refine z_iload_n hX dX0_isWrongPair_17 2 rfl ?_
    obtain ⟨g26, h⟩ := gd_some h
    refine z_iald hX (kl_0_0 hk_j0).1 (kl_0_0 hk_j0).2 g26 dX0_isWrongPair_18 ?_
    rcases ite_or h with ⟨c27, h⟩ | ⟨c27, h⟩
    · refine z_icmp_ge_t hX 26 (by decide) dX0_isWrongPair_19 c27 ?_
      refine z_iconst (x := 0) hX dX0_isWrongPair_26 (by decide) ?_
      refine z_goto hX 50 (by decide) dX0_isWrongPair_27 ?_
      obtain rfl := ret1 h
      exact z_zret hR rfl dX0_isWrongPair_50
    · refine z_icmp_ge_f hX 26 (by decide) dX0_isWrongPair_19 c27 ?_
      refine z_iconst (x := 1) hX dX0_isWrongPair_22 (by decide) ?_
      refine z_goto hX 50 (by decide) dX0_isWrongPair_23 ?_
      obtain rfl := ret1 h
      exact z_zret hR rfl dX0_isWrongPair_50
set_option maxRecDepth 20000 in
set_option maxHeartbeats 4000000 in
theorem t_X0_countWrongPairs_14 {X : CX} {N : Nat} {k4 : (Nat → Int32 → Int32 → Int32 → Option (Int32))} {r : Int32} {σ : HP} (hR : OkX X RX0 cX0_countWrongPairs 5 1 22 (some .int) (some (.int r)) σ) (hk4 : ∀ (j0 : Nat) (a1 : Int32) (a2 : Int32) (a3 : Int32), kd j0 = 0 → k4 j0 a1 a2 a3 = some r → Z X σ 4 [(0, rf X.1 j0), (1, .int a1), (2, .int a2), (3, .int a3)] []) : ∀ (n : Nat) (j0 : Nat) (a1 : Int32) (a2 : Int32) (a3 : Int32) (a4 : Int32), kd j0 = 0 → L_X0_countWrongPairs_14 k4 N σ n j0 a1 a2 a3 a4 = some r → Z X σ 14 [(0, rf X.1 j0), (1, .int a1), (2, .int a2), (3, .int a3), (4, .int a4)] [] := by
  have hX := hR.1
  intro n
  induction n with
  | zero =>
    intro j0 a1 a2 a3 a4 hk_j0 h
    rw [L_X0_countWrongPairs_14] at h
    cases h
  | succ n ih =>
    intro j0 a1 a2 a3 a4 hk_j0 h
    rw [L_X0_countWrongPairs_14] at h
    refine z_iload hX dX0_countWrongPairs_14 4 rfl ?_
    refine z_iload_n hX dX0_countWrongPairs_16 1 rfl ?_
    rcases ite_or h with ⟨c21, h⟩ | ⟨c21, h⟩
    · refine z_icmp_ge_t hX 39 (by decide) dX0_countWrongPairs_17 c21 ?_
      refine z_iinc (y := (a3 + 1)) (lv' := [(3, .int (a3 + 1)), (0, rf X.1 j0), (1, .int a1), (2, .int a2), (4, .int a4)]) hX dX0_countWrongPairs_39 3 rfl rfl (by decide) rfl ?_
      refine z_goto hX 4 (by decide) dX0_countWrongPairs_42 ?_
      refine z_sub (lv' := [(0, rf X.1 j0), (1, .int a1), (2, .int a2), (3, .int (a3 + 1))]) [1, 2, 3, 0] rfl ?_
      exact hk4 j0 a1 a2 (a3 + 1) hk_j0 h
    · refine z_icmp_ge_f hX 39 (by decide) dX0_countWrongPairs_17 c21 ?_
      refine z_aload_n hX dX0_countWrongPairs_20 0 rfl ?_
      refine z_iload_n hX dX0_countWrongPairs_21 3 rfl ?_
      refine z_iload hX dX0_countWrongPairs_22 4 rfl ?_
      obtain ⟨r23, k22, h⟩ := bind_some h
      refine v_X0_64 hX hk_j0 (c_X0_isWrongPair X.1 hk_j0 k22) (Nat.le_of_ble_eq_true rfl) (Nat.le_of_ble_eq_true rfl) (Nat.le_of_ble_eq_true rfl) dX0_countWrongPairs_24 ?_
      rcases ite_or h with ⟨c24, h⟩ | ⟨c24, h⟩
      · refine z_if_eq_t hX 33 (by decide) dX0_countWrongPairs_27 c24 ?_
        refine z_iinc (y := (a4 + 1)) (lv' := [(4, .int (a4 + 1)), (0, rf X.1 j0), (1, .int a1), (2, .int a2), (3, .int a3)]) hX dX0_countWrongPairs_33 4 rfl rfl (by decide) rfl ?_
        refine z_goto hX 14 (by decide) dX0_countWrongPairs_36 ?_
        refine z_sub (lv' := [(0, rf X.1 j0), (1, .int a1), (2, .int a2), (3, .int a3), (4, .int (a4 + 1))]) [1, 2, 3, 4, 0] rfl ?_
        exact ih j0 a1 a2 a3 (a4 + 1) hk_j0 h
      · refine z_if_eq_f hX 33 (by decide) dX0_countWrongPairs_27 c24 ?_
        refine z_iinc (y := (a2 + 1)) (lv' := [(2, .int (a2 + 1)), (0, rf X.1 j0), (1, .int a1), (3, .int a3), (4, .int a4)]) hX dX0_countWrongPairs_30 2 rfl rfl (by decide) rfl ?_
        refine z_iinc (y := (a4 + 1)) (lv' := [(4, .int (a4 + 1)), (2, .int (a2 + 1)), (0, rf X.1 j0), (1, .int a1), (3, .int a3)]) hX dX0_countWrongPairs_33 4 rfl rfl (by decide) rfl ?_
        refine z_goto hX 14 (by decide) dX0_countWrongPairs_36 ?_
        refine z_sub (lv' := [(0, rf X.1 j0), (1, .int a1), (2, .int (a2 + 1)), (3, .int a3), (4, .int (a4 + 1))]) [2, 3, 1, 4, 0] rfl ?_
        exact ih j0 a1 (a2 + 1) a3 (a4 + 1) hk_j0 h
set_option maxRecDepth 20000 in
set_option maxHeartbeats 4000000 in
theorem t_X0_countWrongPairs_4 {X : CX} {N : Nat} {r : Int32} {σ : HP} (hR : OkX X RX0 cX0_countWrongPairs 5 1 22 (some .int) (some (.int r)) σ)  : ∀ (n : Nat) (j0 : Nat) (a1 : Int32) (a2 : Int32) (a3 : Int32), kd j0 = 0 → L_X0_countWrongPairs_4  N σ n j0 a1 a2 a3 = some r → Z X σ 4 [(0, rf X.1 j0), (1, .int a1), (2, .int a2), (3, .int a3)] [] := by
  have hX := hR.1
  intro n
  induction n with
  | zero =>
    intro j0 a1 a2 a3 hk_j0 h
    rw [L_X0_countWrongPairs_4] at h
    cases h
  | succ n ih =>
    intro j0 a1 a2 a3 hk_j0 h
    rw [L_X0_countWrongPairs_4] at h
    refine z_iload_n hX dX0_countWrongPairs_4 3 rfl ?_
    refine z_iload_n hX dX0_countWrongPairs_5 1 rfl ?_
    rcases ite_or h with ⟨c21, h⟩ | ⟨c21, h⟩
    · refine z_icmp_ge_t hX 45 (by decide) dX0_countWrongPairs_6 c21 ?_
      refine z_iload_n hX dX0_countWrongPairs_45 2 rfl ?_
      obtain rfl := ret1 h
      exact z_iret hR dX0_countWrongPairs_46
    · refine z_icmp_ge_f hX 45 (by decide) dX0_countWrongPairs_6 c21 ?_
      refine z_iload_n hX dX0_countWrongPairs_9 3 rfl ?_
      refine z_iconst (x := 1) hX dX0_countWrongPairs_10 (by decide) ?_
      refine z_iadd hX dX0_countWrongPairs_11 ?_
      obtain ⟨x22, ex22, h⟩ := bd_some h
      refine z_top ex22 ?_
      refine z_istore (lv' := [(4, .int x22), (0, rf X.1 j0), (1, .int a1), (2, .int a2), (3, .int a3)]) hX dX0_countWrongPairs_12 (by decide) rfl ?_
      refine z_sub (lv' := [(0, rf X.1 j0), (1, .int a1), (2, .int a2), (3, .int a3), (4, .int x22)]) [1, 2, 3, 4, 0] rfl ?_
      exact t_X0_countWrongPairs_14 hR (fun j0 a1 a2 a3 hk_j0 h9 => ih j0 a1 a2 a3 hk_j0 h9) N j0 a1 a2 a3 x22 hk_j0 h
set_option maxRecDepth 20000 in
set_option maxHeartbeats 4000000 in
theorem c_X0_countWrongPairs (w : WP) {N : Nat} {j0 : Nat} {a1 : Int32} {r : Int32} {σ : HP} (hk_j0 : kd j0 = 0) (h : F_X0_countWrongPairs N j0 a1 σ = some r) : Ct w yX0_countWrongPairs cX0_countWrongPairs 5 (some .int) 1 22 [rf w j0, .int a1] σ (some (.int r)) σ := by
  refine z_met w (by decide +kernel) (Nat.le_of_ble_eq_true rfl) (fun X hw hX => ?_)
  subst hw
  have hR : OkX X RX0 cX0_countWrongPairs 5 1 22 (some .int) (some (.int r)) σ := hX
  have hX := hR.1
  show Z X σ 0 [(0, rf X.1 j0), (1, .int a1)] []
  unfold F_X0_countWrongPairs at h
  refine z_iconst (x := 0) hX dX0_countWrongPairs_0 (by decide) ?_
  refine z_istore_n (lv' := [(2, .int 0), (0, rf X.1 j0), (1, .int a1)]) hX dX0_countWrongPairs_1 (by decide) rfl ?_
  refine z_iconst (x := 0) hX dX0_countWrongPairs_2 (by decide) ?_
  refine z_istore_n (lv' := [(3, .int 0), (2, .int 0), (0, rf X.1 j0), (1, .int a1)]) hX dX0_countWrongPairs_3 (by decide) rfl ?_
  refine z_sub (lv' := [(0, rf X.1 j0), (1, .int a1), (2, .int 0), (3, .int 0)]) [2, 3, 1, 0] rfl ?_
  exact t_X0_countWrongPairs_4 hR  N j0 a1 0 0 hk_j0 h
set_option maxRecDepth 20000 in
set_option maxHeartbeats 4000000 in
theorem t_X0_match_61 {X : CX} {N : Nat} {j0 : Nat} {j1 : Nat} {p0 : Nat} {s1 : Int32} {σ σ' : HP} (hR : OkX X RX0 cX0_match 2 2 49 none none σ')  (hk_j0 : kd j0 = 0) (hk_j1 : kd j1 = 4) (hk_p0 : kd p0 = 0) (h : J_X0_match_61  N j0 j1 p0 s1 σ = some σ') : Z X σ 61 [(0, rf X.1 j0), (1, rf X.1 j1)] [.int s1, rf X.1 p0] := by
  have hX := hR.1
  unfold J_X0_match_61 at h
  obtain ⟨g21, h⟩ := gd_some h
  obtain ⟨σ22, eσ22, h⟩ := bd_some h
  refine p_X0_19 hX hk_p0 g21 dX0_match_61 ?_
  refine z_ms eσ22 ?_
  refine z_aload_n hX dX0_match_64 0 rfl ?_
  refine g_X0_19 hX hk_j0 dX0_match_65 ?_
  rcases ite_or h with ⟨c23, h⟩ | ⟨c23, h⟩
  · refine z_if_eq_t hX 86 (by decide) dX0_match_68 c23 ?_
    obtain rfl := ret1 h
    exact z_vret hR dX0_match_86
  · refine z_if_eq_f hX 86 (by decide) dX0_match_68 c23 ?_
    refine z_aload_n hX dX0_match_71 0 rfl ?_
    refine z_aload_n hX dX0_match_72 0 rfl ?_
    refine z_aload_n hX dX0_match_73 1 rfl ?_
    refine g_X0_38 hX hk_j1 dX0_match_74 ?_
    refine g_X0_42 hX (kl_4_0 hk_j1).1 dX0_match_77 ?_
    obtain ⟨r25, k24, h⟩ := bind_some h
    refine v_X0_49 hX hk_j0 (c_X0_countWrongPairs X.1 hk_j0 k24) (Nat.le_of_ble_eq_true rfl) (Nat.le_of_ble_eq_true rfl) (Nat.le_of_ble_eq_true rfl) dX0_match_80 ?_
    obtain ⟨σ26, eσ26, h⟩ := bd_some h
    refine p_X0_22 hX hk_j0 dX0_match_83 ?_
    refine z_ms eσ26 ?_
    obtain rfl := ret1 h
    exact z_vret hR dX0_match_86
set_option maxRecDepth 20000 in
set_option maxHeartbeats 4000000 in
theorem t_X0_match_60 {X : CX} {N : Nat} {j0 : Nat} {j1 : Nat} {p0 : Nat} {σ σ' : HP} (hR : OkX X RX0 cX0_match 2 2 49 none none σ')  (hk_j0 : kd j0 = 0) (hk_j1 : kd j1 = 4) (hk_p0 : kd p0 = 0) (h : J_X0_match_60  N j0 j1 p0 σ = some σ') : Z X σ 60 [(0, rf X.1 j0), (1, rf X.1 j1)] [rf X.1 p0] := by
  have hX := hR.1
  unfold J_X0_match_60 at h
  refine z_iconst (x := 0) hX dX0_match_60 (by decide) ?_
  exact t_X0_match_61 hR  hk_j0 hk_j1 hk_p0 h
set_option maxRecDepth 20000 in
set_option maxHeartbeats 4000000 in
theorem c_X0_match (w : WP) {N : Nat} {j0 : Nat} {j1 : Nat} {σ σ' : HP} (hk_j0 : kd j0 = 0) (hk_j1 : kd j1 = 4) (h : F_X0_match N j0 j1 σ = some σ') : Ct w yX0_match cX0_match 2 none 2 49 [rf w j0, rf w j1] σ none σ' := by
  refine z_met w (by decide +kernel) (Nat.le_of_ble_eq_true rfl) (fun X hw hX => ?_)
  subst hw
  have hR : OkX X RX0 cX0_match 2 2 49 none none σ' := hX
  have hX := hR.1
  show Z X σ 0 [(0, rf X.1 j0), (1, rf X.1 j1)] []
  unfold F_X0_match at h
  refine z_aload_n hX dX0_match_0 0 rfl ?_
  refine z_aload_n hX dX0_match_1 1 rfl ?_
  refine g_X0_26 hX hk_j1 dX0_match_2 ?_
  obtain ⟨g21, h⟩ := gd_some h
  obtain ⟨σ22, eσ22, h⟩ := bd_some h
  refine p_X0_15 hX hk_j0 g21 dX0_match_5 ?_
  refine z_ms eσ22 ?_
  refine z_aload_n hX dX0_match_8 0 rfl ?_
  refine z_iconst (x := 0) hX dX0_match_9 (by decide) ?_
  obtain ⟨σ23, eσ23, h⟩ := bd_some h
  refine p_X0_22 hX hk_j0 dX0_match_10 ?_
  refine z_ms eσ23 ?_
  refine z_aload_n hX dX0_match_13 0 rfl ?_
  refine z_aload_n hX dX0_match_14 1 rfl ?_
  refine g_X0_29 hX hk_j1 dX0_match_15 ?_
  refine g_X0_33 hX (kl_4_3 hk_j1).1 dX0_match_18 ?_
  rcases ite_or h with ⟨c24, h⟩ | ⟨c24, h⟩
  · refine z_if_le_t hX 60 (by decide) dX0_match_21 c24 ?_
    exact t_X0_match_60 hR  hk_j0 hk_j1 hk_j0 h
  · refine z_if_le_f hX 60 (by decide) dX0_match_21 c24 ?_
    refine z_aload_n hX dX0_match_24 1 rfl ?_
    refine g_X0_29 hX hk_j1 dX0_match_25 ?_
    refine g_X0_33 hX (kl_4_3 hk_j1).1 dX0_match_28 ?_
    refine z_aload_n hX dX0_match_31 1 rfl ?_
    refine g_X0_38 hX hk_j1 dX0_match_32 ?_
    refine g_X0_42 hX (kl_4_0 hk_j1).1 dX0_match_35 ?_
    rcases ite_or h with ⟨c25, h⟩ | ⟨c25, h⟩
    · refine z_icmp_ne_f hX 60 (by decide) dX0_match_38 c25 ?_
      refine z_aload_n hX dX0_match_41 0 rfl ?_
      refine z_aload_n hX dX0_match_42 1 rfl ?_
      refine g_X0_38 hX hk_j1 dX0_match_43 ?_
      refine z_aload_n hX dX0_match_46 1 rfl ?_
      refine g_X0_29 hX hk_j1 dX0_match_47 ?_
      obtain ⟨r27, σ28, k26, h⟩ := bind2_some h
      refine v_X0_45 hX hk_j0 (c_X0_findTargets X.1 hk_j0 (kl_4_0 hk_j1).1 (kl_4_3 hk_j1).1 k26) (Nat.le_of_ble_eq_true rfl) (Nat.le_of_ble_eq_true rfl) (Nat.le_of_ble_eq_true rfl) dX0_match_50 ?_
      rcases ite_or h with ⟨c29, h⟩ | ⟨c29, h⟩
      · refine z_if_eq_t hX 60 (by decide) dX0_match_53 c29 ?_
        exact t_X0_match_60 hR  hk_j0 hk_j1 hk_j0 h
      · refine z_if_eq_f hX 60 (by decide) dX0_match_53 c29 ?_
        refine z_iconst (x := 1) hX dX0_match_56 (by decide) ?_
        refine z_goto hX 61 (by decide) dX0_match_57 ?_
        exact t_X0_match_61 hR  hk_j0 hk_j1 hk_j0 h
    · refine z_icmp_ne_t hX 60 (by decide) dX0_match_38 c25 ?_
      exact t_X0_match_60 hR  hk_j0 hk_j1 hk_j0 h
set_option maxRecDepth 20000 in
set_option maxHeartbeats 4000000 in
theorem c_X0_isGood (w : WP) {N : Nat} {j0 : Nat} {a1 : Int32} {r : Int32} {σ : HP} (hk_j0 : kd j0 = 0) (h : F_X0_isGood N j0 a1 σ = some r) : Ct w yX0_isGood cX0_isGood 2 (some .boolean) 1 22 [rf w j0, .int a1] σ (some (.int r)) σ := by
  refine z_met w (by decide +kernel) (Nat.le_of_ble_eq_true rfl) (fun X hw hX => ?_)
  subst hw
  have hR : OkX X RX0 cX0_isGood 2 1 22 (some .boolean) (some (.int r)) σ := hX
  have hX := hR.1
  show Z X σ 0 [(0, rf X.1 j0), (1, .int a1)] []
  unfold F_X0_isGood at h
  refine z_aload_n hX dX0_isGood_0 0 rfl ?_
  refine z_iload_n hX dX0_isGood_1 1 rfl ?_
  refine z_iload_n hX dX0_isGood_2 1 rfl ?_
  refine z_iconst (x := 1) hX dX0_isGood_3 (by decide) ?_
  refine z_iadd hX dX0_isGood_4 ?_
  obtain ⟨r22, k21, h⟩ := bind_some h
  refine v_X0_64 hX hk_j0 (c_X0_isWrongPair X.1 hk_j0 k21) (Nat.le_of_ble_eq_true rfl) (Nat.le_of_ble_eq_true rfl) (Nat.le_of_ble_eq_true rfl) dX0_isGood_5 ?_
  obtain ⟨g23, h⟩ := gd_some h
  obtain rfl := ret1 h
  exact z_zret hR (nb01 g23) dX0_isGood_8
set_option maxRecDepth 20000 in
set_option maxHeartbeats 4000000 in
theorem c_X0_fewestBehind (w : WP) {N : Nat} {j0 : Nat} {j1 : Nat} {a2 : Int32} {r : Int32} {σ : HP} (hk_j0 : kd j0 = 0) (hk_j1 : kd j1 = 3) (h : F_X0_fewestBehind N j0 j1 a2 σ = some r) : Ct w yX0_fewestBehind cX0_fewestBehind 3 (some .int) 2 43 [rf w j0, rf w j1, .int a2] σ (some (.int r)) σ := by
  refine z_met w (by decide +kernel) (Nat.le_of_ble_eq_true rfl) (fun X hw hX => ?_)
  subst hw
  have hR : OkX X RX0 cX0_fewestBehind 3 2 43 (some .int) (some (.int r)) σ := hX
  have hX := hR.1
  show Z X σ 0 [(0, rf X.1 j0), (1, rf X.1 j1), (2, .int a2)] []
  unfold F_X0_fewestBehind at h
  refine z_aload_n hX dX0_fewestBehind_0 1 rfl ?_
  refine g_X0_53 hX hk_j1 dX0_fewestBehind_1 ?_
  refine z_iload_n hX dX0_fewestBehind_4 2 rfl ?_
  obtain ⟨g21, h⟩ := gd_some h
  refine z_iald hX (kl_3_1 hk_j1).1 (kl_3_1 hk_j1).2 g21 dX0_fewestBehind_5 ?_
  refine z_aload_n hX dX0_fewestBehind_6 1 rfl ?_
  refine g_X0_53 hX hk_j1 dX0_fewestBehind_7 ?_
  refine z_iload_n hX dX0_fewestBehind_10 2 rfl ?_
  refine z_iconst (x := 1) hX dX0_fewestBehind_11 (by decide) ?_
  refine z_iadd hX dX0_fewestBehind_12 ?_
  obtain ⟨g22, h⟩ := gd_some h
  refine z_iald hX (kl_3_1 hk_j1).1 (kl_3_1 hk_j1).2 g22 dX0_fewestBehind_13 ?_
  rcases ite_or h with ⟨c23, h⟩ | ⟨c23, h⟩
  · refine z_icmp_ne_f hX 22 (by decide) dX0_fewestBehind_14 c23 ?_
    refine z_aload_n hX dX0_fewestBehind_17 0 rfl ?_
    refine g_X0_22 hX hk_j0 dX0_fewestBehind_18 ?_
    obtain rfl := ret1 h
    exact z_iret hR dX0_fewestBehind_21
  · refine z_icmp_ne_t hX 22 (by decide) dX0_fewestBehind_14 c23 ?_
    refine z_aload_n hX dX0_fewestBehind_22 0 rfl ?_
    refine z_iload_n hX dX0_fewestBehind_23 2 rfl ?_
    obtain ⟨r25, k24, h⟩ := bind_some h
    refine v_X0_68 hX hk_j0 (c_X0_isGood X.1 hk_j0 k24) (Nat.le_of_ble_eq_true rfl) (Nat.le_of_ble_eq_true rfl) (Nat.le_of_ble_eq_true rfl) dX0_fewestBehind_24 ?_
    rcases ite_or h with ⟨c26, h⟩ | ⟨c26, h⟩
    · refine z_if_eq_t hX 39 (by decide) dX0_fewestBehind_27 c26 ?_
      refine z_aload_n hX dX0_fewestBehind_39 0 rfl ?_
      refine g_X0_22 hX hk_j0 dX0_fewestBehind_40 ?_
      refine z_iconst (x := 1) hX dX0_fewestBehind_43 (by decide) ?_
      refine z_iadd hX dX0_fewestBehind_44 ?_
      obtain rfl := ret1 h
      exact z_iret hR dX0_fewestBehind_45
    · refine z_if_eq_f hX 39 (by decide) dX0_fewestBehind_27 c26 ?_
      refine z_aload_n hX dX0_fewestBehind_30 0 rfl ?_
      refine g_X0_22 hX hk_j0 dX0_fewestBehind_31 ?_
      refine z_iconst (x := 1) hX dX0_fewestBehind_34 (by decide) ?_
      refine z_isub hX dX0_fewestBehind_35 ?_
      refine z_goto hX 45 (by decide) dX0_fewestBehind_36 ?_
      obtain rfl := ret1 h
      exact z_iret hR dX0_fewestBehind_45
set_option maxRecDepth 20000 in
set_option maxHeartbeats 4000000 in
theorem c_X1_copyFrom (w : WP) {N : Nat} {j0 : Nat} {j1 : Nat} {σ σ' : HP} (hk_j0 : kd j0 = 1) (hk_j1 : kd j1 = 1) (h : F_X1_copyFrom N j0 j1 σ = some σ') : Ct w yX1_copyFrom cX1_copyFrom 2 none 1 18 [rf w j0, rf w j1] σ none σ' := by
  refine z_met w (by decide +kernel) (Nat.le_of_ble_eq_true rfl) (fun X hw hX => ?_)
  subst hw
  have hR : OkX X RX1 cX1_copyFrom 2 1 18 none none σ' := hX
  have hX := hR.1
  show Z X σ 0 [(0, rf X.1 j0), (1, rf X.1 j1)] []
  unfold F_X1_copyFrom at h
  refine z_aload_n hX dX1_copyFrom_0 1 rfl ?_
  refine g_X1_9 hX hk_j1 dX1_copyFrom_1 ?_
  refine z_iconst (x := 0) hX dX1_copyFrom_4 (by decide) ?_
  refine z_aload_n hX dX1_copyFrom_5 0 rfl ?_
  refine g_X1_9 hX hk_j0 dX1_copyFrom_6 ?_
  refine z_iconst (x := 0) hX dX1_copyFrom_9 (by decide) ?_
  refine z_bipush (x := 8) hX dX1_copyFrom_10 (by decide) ?_
  obtain ⟨σ21, eσ21, h⟩ := bd_some h
  refine z_copyI hX ml_X1_25 (kl_1_0 hk_j1).1 (kl_1_0 hk_j0).1 (kl_1_0 hk_j1).2 (kl_1_0 hk_j0).2 (by decide) (by decide) (by decide) (by decide) (by decide) (fun _ _ => rfl) (by decide) (Nat.le_of_ble_eq_true rfl) dX1_copyFrom_12 ?_
  refine z_ms eσ21 ?_
  refine z_aload_n hX dX1_copyFrom_15 1 rfl ?_
  refine g_X1_15 hX hk_j1 dX1_copyFrom_16 ?_
  refine z_iconst (x := 0) hX dX1_copyFrom_19 (by decide) ?_
  refine z_aload_n hX dX1_copyFrom_20 0 rfl ?_
  refine g_X1_15 hX hk_j0 dX1_copyFrom_21 ?_
  refine z_iconst (x := 0) hX dX1_copyFrom_24 (by decide) ?_
  refine z_bipush (x := 8) hX dX1_copyFrom_25 (by decide) ?_
  obtain ⟨σ22, eσ22, h⟩ := bd_some h
  refine z_copyI hX ml_X1_25 (kl_1_1 hk_j1).1 (kl_1_1 hk_j0).1 (kl_1_1 hk_j1).2 (kl_1_1 hk_j0).2 (by decide) (by decide) (by decide) (by decide) (by decide) (fun _ _ => rfl) (by decide) (Nat.le_of_ble_eq_true rfl) dX1_copyFrom_27 ?_
  refine z_ms eσ22 ?_
  refine z_aload_n hX dX1_copyFrom_30 1 rfl ?_
  refine g_X1_18 hX hk_j1 dX1_copyFrom_31 ?_
  refine z_iconst (x := 0) hX dX1_copyFrom_34 (by decide) ?_
  refine z_aload_n hX dX1_copyFrom_35 0 rfl ?_
  refine g_X1_18 hX hk_j0 dX1_copyFrom_36 ?_
  refine z_iconst (x := 0) hX dX1_copyFrom_39 (by decide) ?_
  refine z_bipush (x := 8) hX dX1_copyFrom_40 (by decide) ?_
  obtain ⟨σ23, eσ23, h⟩ := bd_some h
  refine z_copyI hX ml_X1_25 (kl_1_2 hk_j1).1 (kl_1_2 hk_j0).1 (kl_1_2 hk_j1).2 (kl_1_2 hk_j0).2 (by decide) (by decide) (by decide) (by decide) (by decide) (fun _ _ => rfl) (by decide) (Nat.le_of_ble_eq_true rfl) dX1_copyFrom_42 ?_
  refine z_ms eσ23 ?_
  refine z_aload_n hX dX1_copyFrom_45 0 rfl ?_
  refine z_aload_n hX dX1_copyFrom_46 1 rfl ?_
  refine g_X1_21 hX hk_j1 dX1_copyFrom_47 ?_
  obtain ⟨σ24, eσ24, h⟩ := bd_some h
  refine p_X1_21 hX hk_j0 dX1_copyFrom_50 ?_
  refine z_ms eσ24 ?_
  obtain rfl := ret1 h
  exact z_vret hR dX1_copyFrom_53
set_option maxRecDepth 20000 in
set_option maxHeartbeats 4000000 in
theorem t_X1_rankOf_2 {X : CX} {N : Nat} {r : Int32} {σ : HP} (hR : OkX X RX1 cX1_rankOf 3 0 0 (some .int) (some (.int r)) σ)  : ∀ (n : Nat) (j0 : Nat) (a1 : Int32) (a2 : Int32), kd j0 = 1 → L_X1_rankOf_2  N σ n j0 a1 a2 = some r → Z X σ 2 [(0, rf X.1 j0), (1, .int a1), (2, .int a2)] [] := by
  have hX := hR.1
  intro n
  induction n with
  | zero =>
    intro j0 a1 a2 hk_j0 h
    rw [L_X1_rankOf_2] at h
    cases h
  | succ n ih =>
    intro j0 a1 a2 hk_j0 h
    rw [L_X1_rankOf_2] at h
    refine z_iload_n hX dX1_rankOf_2 2 rfl ?_
    refine z_aload_n hX dX1_rankOf_3 0 rfl ?_
    refine g_X1_21 hX hk_j0 dX1_rankOf_4 ?_
    rcases ite_or h with ⟨c21, h⟩ | ⟨c21, h⟩
    · refine z_icmp_ge_t hX 28 (by decide) dX1_rankOf_7 c21 ?_
      refine z_iconst (x := (-1)) hX dX1_rankOf_28 (by decide) ?_
      obtain rfl := ret1 h
      exact z_iret hR dX1_rankOf_29
    · refine z_icmp_ge_f hX 28 (by decide) dX1_rankOf_7 c21 ?_
      refine z_aload_n hX dX1_rankOf_10 0 rfl ?_
      refine g_X1_9 hX hk_j0 dX1_rankOf_11 ?_
      refine z_iload_n hX dX1_rankOf_14 2 rfl ?_
      obtain ⟨g22, h⟩ := gd_some h
      refine z_iald hX (kl_1_0 hk_j0).1 (kl_1_0 hk_j0).2 g22 dX1_rankOf_15 ?_
      refine z_iload_n hX dX1_rankOf_16 1 rfl ?_
      rcases ite_or h with ⟨c23, h⟩ | ⟨c23, h⟩
      · refine z_icmp_ne_f hX 22 (by decide) dX1_rankOf_17 c23 ?_
        refine z_iload_n hX dX1_rankOf_20 2 rfl ?_
        obtain rfl := ret1 h
        exact z_iret hR dX1_rankOf_21
      · refine z_icmp_ne_t hX 22 (by decide) dX1_rankOf_17 c23 ?_
        refine z_iinc (y := (a2 + 1)) (lv' := [(2, .int (a2 + 1)), (0, rf X.1 j0), (1, .int a1)]) hX dX1_rankOf_22 2 rfl rfl (by decide) rfl ?_
        refine z_goto hX 2 (by decide) dX1_rankOf_25 ?_
        refine z_sub (lv' := [(0, rf X.1 j0), (1, .int a1), (2, .int (a2 + 1))]) [1, 2, 0] rfl ?_
        exact ih j0 a1 (a2 + 1) hk_j0 h
set_option maxRecDepth 20000 in
set_option maxHeartbeats 4000000 in
theorem c_X1_rankOf (w : WP) {N : Nat} {j0 : Nat} {a1 : Int32} {r : Int32} {σ : HP} (hk_j0 : kd j0 = 1) (h : F_X1_rankOf N j0 a1 σ = some r) : Ct w yX1_rankOf cX1_rankOf 3 (some .int) 0 0 [rf w j0, .int a1] σ (some (.int r)) σ := by
  refine z_met w (by decide +kernel) (Nat.le_of_ble_eq_true rfl) (fun X hw hX => ?_)
  subst hw
  have hR : OkX X RX1 cX1_rankOf 3 0 0 (some .int) (some (.int r)) σ := hX
  have hX := hR.1
  show Z X σ 0 [(0, rf X.1 j0), (1, .int a1)] []
  unfold F_X1_rankOf at h
  refine z_iconst (x := 0) hX dX1_rankOf_0 (by decide) ?_
  refine z_istore_n (lv' := [(2, .int 0), (0, rf X.1 j0), (1, .int a1)]) hX dX1_rankOf_1 (by decide) rfl ?_
  refine z_sub (lv' := [(0, rf X.1 j0), (1, .int a1), (2, .int 0)]) [1, 2, 0] rfl ?_
  exact t_X1_rankOf_2 hR  N j0 a1 0 hk_j0 h
set_option maxRecDepth 20000 in
set_option maxHeartbeats 4000000 in
theorem c_X1_move (w : WP) {N : Nat} {j0 : Nat} {a1 : Int32} {a2 : Int32} {σ σ' : HP} (hk_j0 : kd j0 = 1) (h : F_X1_move N j0 a1 a2 σ = some σ') : Ct w yX1_move cX1_move 3 none 0 0 [rf w j0, .int a1, .int a2] σ none σ' := by
  refine z_met w (by decide +kernel) (Nat.le_of_ble_eq_true rfl) (fun X hw hX => ?_)
  subst hw
  have hR : OkX X RX1 cX1_move 3 0 0 none none σ' := hX
  have hX := hR.1
  show Z X σ 0 [(0, rf X.1 j0), (1, .int a1), (2, .int a2)] []
  unfold F_X1_move at h
  refine z_aload_n hX dX1_move_0 0 rfl ?_
  refine g_X1_9 hX hk_j0 dX1_move_1 ?_
  refine z_iload_n hX dX1_move_4 2 rfl ?_
  refine z_aload_n hX dX1_move_5 0 rfl ?_
  refine g_X1_9 hX hk_j0 dX1_move_6 ?_
  refine z_iload_n hX dX1_move_9 1 rfl ?_
  obtain ⟨g21, h⟩ := gd_some h
  refine z_iald hX (kl_1_0 hk_j0).1 (kl_1_0 hk_j0).2 g21 dX1_move_10 ?_
  obtain ⟨g22, h⟩ := gd_some h
  obtain ⟨σ23, eσ23, h⟩ := bd_some h
  refine z_iast hX (kl_1_0 hk_j0).1 (kl_1_0 hk_j0).2 g22 dX1_move_11 ?_
  refine z_ms eσ23 ?_
  refine z_aload_n hX dX1_move_12 0 rfl ?_
  refine g_X1_15 hX hk_j0 dX1_move_13 ?_
  refine z_iload_n hX dX1_move_16 2 rfl ?_
  refine z_aload_n hX dX1_move_17 0 rfl ?_
  refine g_X1_15 hX hk_j0 dX1_move_18 ?_
  refine z_iload_n hX dX1_move_21 1 rfl ?_
  obtain ⟨g24, h⟩ := gd_some h
  refine z_iald hX (kl_1_1 hk_j0).1 (kl_1_1 hk_j0).2 g24 dX1_move_22 ?_
  obtain ⟨g25, h⟩ := gd_some h
  obtain ⟨σ26, eσ26, h⟩ := bd_some h
  refine z_iast hX (kl_1_1 hk_j0).1 (kl_1_1 hk_j0).2 g25 dX1_move_23 ?_
  refine z_ms eσ26 ?_
  refine z_aload_n hX dX1_move_24 0 rfl ?_
  refine g_X1_18 hX hk_j0 dX1_move_25 ?_
  refine z_iload_n hX dX1_move_28 2 rfl ?_
  refine z_aload_n hX dX1_move_29 0 rfl ?_
  refine g_X1_18 hX hk_j0 dX1_move_30 ?_
  refine z_iload_n hX dX1_move_33 1 rfl ?_
  obtain ⟨g27, h⟩ := gd_some h
  refine z_iald hX (kl_1_2 hk_j0).1 (kl_1_2 hk_j0).2 g27 dX1_move_34 ?_
  obtain ⟨g28, h⟩ := gd_some h
  obtain ⟨σ29, eσ29, h⟩ := bd_some h
  refine z_iast hX (kl_1_2 hk_j0).1 (kl_1_2 hk_j0).2 g28 dX1_move_35 ?_
  refine z_ms eσ29 ?_
  obtain rfl := ret1 h
  exact z_vret hR dX1_move_36
set_option maxRecDepth 20000 in
set_option maxHeartbeats 4000000 in
theorem t_X1_insert_50 {X : CX} {N : Nat} {j0 : Nat} {a1 : Int32} {a2 : Int32} {a3 : Int32} {a4 : Int32} {σ σ' : HP} (hR : OkX X RX1 cX1_insert 5 1 22 none none σ')  (hk_j0 : kd j0 = 1) (h : J_X1_insert_50  N j0 a1 a2 a3 a4 σ = some σ') : Z X σ 50 [(0, rf X.1 j0), (1, .int a1), (2, .int a2), (3, .int a3), (4, .int a4)] [] := by
  have hX := hR.1
  unfold J_X1_insert_50 at h
  refine z_aload_n hX dX1_insert_50 0 rfl ?_
  refine g_X1_9 hX hk_j0 dX1_insert_51 ?_
  refine z_iload hX dX1_insert_54 4 rfl ?_
  refine z_iload_n hX dX1_insert_56 1 rfl ?_
  obtain ⟨g21, h⟩ := gd_some h
  obtain ⟨σ22, eσ22, h⟩ := bd_some h
  refine z_iast hX (kl_1_0 hk_j0).1 (kl_1_0 hk_j0).2 g21 dX1_insert_57 ?_
  refine z_ms eσ22 ?_
  refine z_aload_n hX dX1_insert_58 0 rfl ?_
  refine g_X1_15 hX hk_j0 dX1_insert_59 ?_
  refine z_iload hX dX1_insert_62 4 rfl ?_
  refine z_iload_n hX dX1_insert_64 2 rfl ?_
  obtain ⟨g23, h⟩ := gd_some h
  obtain ⟨σ24, eσ24, h⟩ := bd_some h
  refine z_iast hX (kl_1_1 hk_j0).1 (kl_1_1 hk_j0).2 g23 dX1_insert_65 ?_
  refine z_ms eσ24 ?_
  refine z_aload_n hX dX1_insert_66 0 rfl ?_
  refine g_X1_18 hX hk_j0 dX1_insert_67 ?_
  refine z_iload hX dX1_insert_70 4 rfl ?_
  refine z_iload_n hX dX1_insert_72 3 rfl ?_
  obtain ⟨g25, h⟩ := gd_some h
  obtain ⟨σ26, eσ26, h⟩ := bd_some h
  refine z_iast hX (kl_1_2 hk_j0).1 (kl_1_2 hk_j0).2 g25 dX1_insert_73 ?_
  refine z_ms eσ26 ?_
  refine z_aload_n hX dX1_insert_74 0 rfl ?_
  refine z_dup hX rfl dX1_insert_75 ?_
  refine g_X1_21 hX hk_j0 dX1_insert_76 ?_
  refine z_iconst (x := 1) hX dX1_insert_79 (by decide) ?_
  refine z_iadd hX dX1_insert_80 ?_
  obtain ⟨σ27, eσ27, h⟩ := bd_some h
  refine p_X1_21 hX hk_j0 dX1_insert_81 ?_
  refine z_ms eσ27 ?_
  obtain rfl := ret1 h
  exact z_vret hR dX1_insert_84
set_option maxRecDepth 20000 in
set_option maxHeartbeats 4000000 in
theorem t_X1_insert_16 {X : CX} {N : Nat} {σ' : HP} (hR : OkX X RX1 cX1_insert 5 1 22 none none σ')  : ∀ (n : Nat) (j0 : Nat) (a1 : Int32) (a2 : Int32) (a3 : Int32) (a4 : Int32) (σ : HP), kd j0 = 1 → L_X1_insert_16  N n j0 a1 a2 a3 a4 σ = some σ' → Z X σ 16 [(0, rf X.1 j0), (1, .int a1), (2, .int a2), (3, .int a3), (4, .int a4)] [] := by
  have hX := hR.1
  intro n
  induction n with
  | zero =>
    intro j0 a1 a2 a3 a4 σ hk_j0 h
    rw [L_X1_insert_16] at h
    cases h
  | succ n ih =>
    intro j0 a1 a2 a3 a4 σ hk_j0 h
    rw [L_X1_insert_16] at h
    refine z_iload hX dX1_insert_16 4 rfl ?_
    rcases ite_or h with ⟨c21, h⟩ | ⟨c21, h⟩
    · refine z_if_le_t hX 50 (by decide) dX1_insert_18 c21 ?_
      exact t_X1_insert_50 hR  hk_j0 h
    · refine z_if_le_f hX 50 (by decide) dX1_insert_18 c21 ?_
      refine z_aload_n hX dX1_insert_21 0 rfl ?_
      refine g_X1_9 hX hk_j0 dX1_insert_22 ?_
      refine z_iload hX dX1_insert_25 4 rfl ?_
      refine z_iconst (x := 1) hX dX1_insert_27 (by decide) ?_
      refine z_isub hX dX1_insert_28 ?_
      obtain ⟨g22, h⟩ := gd_some h
      refine z_iald hX (kl_1_0 hk_j0).1 (kl_1_0 hk_j0).2 g22 dX1_insert_29 ?_
      refine z_iload_n hX dX1_insert_30 1 rfl ?_
      rcases ite_or h with ⟨c23, h⟩ | ⟨c23, h⟩
      · refine z_icmp_le_t hX 50 (by decide) dX1_insert_31 c23 ?_
        exact t_X1_insert_50 hR  hk_j0 h
      · refine z_icmp_le_f hX 50 (by decide) dX1_insert_31 c23 ?_
        refine z_aload_n hX dX1_insert_34 0 rfl ?_
        refine z_iload hX dX1_insert_35 4 rfl ?_
        refine z_iconst (x := 1) hX dX1_insert_37 (by decide) ?_
        refine z_isub hX dX1_insert_38 ?_
        refine z_iload hX dX1_insert_39 4 rfl ?_
        obtain ⟨σ25, k24, h⟩ := bind_some h
        refine v_X1_31 hX hk_j0 (c_X1_move X.1 hk_j0 k24) (Nat.le_of_ble_eq_true rfl) (Nat.le_of_ble_eq_true rfl) (Nat.le_of_ble_eq_true rfl) dX1_insert_41 ?_
        refine z_iinc (y := (a4 + (-1))) (lv' := [(4, .int (a4 + (-1))), (0, rf X.1 j0), (1, .int a1), (2, .int a2), (3, .int a3)]) hX dX1_insert_44 4 rfl rfl (by decide) rfl ?_
        refine z_goto hX 16 (by decide) dX1_insert_47 ?_
        refine z_sub (lv' := [(0, rf X.1 j0), (1, .int a1), (2, .int a2), (3, .int a3), (4, .int (a4 + (-1)))]) [1, 2, 3, 4, 0] rfl ?_
        exact ih j0 a1 a2 a3 (a4 + (-1)) σ25 hk_j0 h
set_option maxRecDepth 20000 in
set_option maxHeartbeats 4000000 in
theorem c_X1_insert (w : WP) {N : Nat} {j0 : Nat} {a1 : Int32} {a2 : Int32} {a3 : Int32} {σ σ' : HP} (hk_j0 : kd j0 = 1) (h : F_X1_insert N j0 a1 a2 a3 σ = some σ') : Ct w yX1_insert cX1_insert 5 none 1 22 [rf w j0, .int a1, .int a2, .int a3] σ none σ' := by
  refine z_met w (by decide +kernel) (Nat.le_of_ble_eq_true rfl) (fun X hw hX => ?_)
  subst hw
  have hR : OkX X RX1 cX1_insert 5 1 22 none none σ' := hX
  have hX := hR.1
  show Z X σ 0 [(0, rf X.1 j0), (1, .int a1), (2, .int a2), (3, .int a3)] []
  unfold F_X1_insert at h
  refine z_aload_n hX dX1_insert_0 0 rfl ?_
  refine g_X1_21 hX hk_j0 dX1_insert_1 ?_
  refine z_bipush (x := 8) hX dX1_insert_4 (by decide) ?_
  rcases ite_or h with ⟨c21, h⟩ | ⟨c21, h⟩
  · refine z_icmp_lt_t hX 10 (by decide) dX1_insert_6 c21 ?_
    refine z_aload_n hX dX1_insert_10 0 rfl ?_
    refine g_X1_21 hX hk_j0 dX1_insert_11 ?_
    obtain ⟨x22, ex22, h⟩ := bd_some h
    refine z_top ex22 ?_
    refine z_istore (lv' := [(4, .int x22), (0, rf X.1 j0), (1, .int a1), (2, .int a2), (3, .int a3)]) hX dX1_insert_14 (by decide) rfl ?_
    refine z_sub (lv' := [(0, rf X.1 j0), (1, .int a1), (2, .int a2), (3, .int a3), (4, .int x22)]) [1, 2, 3, 4, 0] rfl ?_
    exact t_X1_insert_16 hR  N j0 a1 a2 a3 x22 σ hk_j0 h
  · refine z_icmp_lt_f hX 10 (by decide) dX1_insert_6 c21 ?_
    obtain rfl := ret1 h
    exact z_vret hR dX1_insert_9
set_option maxRecDepth 20000 in
set_option maxHeartbeats 4000000 in
theorem t_X1_remove_2 {X : CX} {N : Nat} {σ' : HP} (hR : OkX X RX1 cX1_remove 3 1 22 none none σ')  : ∀ (n : Nat) (j0 : Nat) (a2 : Int32) (σ : HP), kd j0 = 1 → L_X1_remove_2  N n j0 a2 σ = some σ' → Z X σ 2 [(0, rf X.1 j0), (2, .int a2)] [] := by
  have hX := hR.1
  intro n
  induction n with
  | zero =>
    intro j0 a2 σ hk_j0 h
    rw [L_X1_remove_2] at h
    cases h
  | succ n ih =>
    intro j0 a2 σ hk_j0 h
    rw [L_X1_remove_2] at h
    refine z_iload_n hX dX1_remove_2 1 rfl ?_
    refine z_aload_n hX dX1_remove_3 0 rfl ?_
    refine g_X1_21 hX hk_j0 dX1_remove_4 ?_
    refine z_iconst (x := 1) hX dX1_remove_7 (by decide) ?_
    refine z_isub hX dX1_remove_8 ?_
    rcases ite_or h with ⟨c21, h⟩ | ⟨c21, h⟩
    · refine z_icmp_ge_t hX 26 (by decide) dX1_remove_9 c21 ?_
      refine z_aload_n hX dX1_remove_26 0 rfl ?_
      refine z_dup hX rfl dX1_remove_27 ?_
      refine g_X1_21 hX hk_j0 dX1_remove_28 ?_
      refine z_iconst (x := 1) hX dX1_remove_31 (by decide) ?_
      refine z_isub hX dX1_remove_32 ?_
      obtain ⟨σ22, eσ22, h⟩ := bd_some h
      refine p_X1_21 hX hk_j0 dX1_remove_33 ?_
      refine z_ms eσ22 ?_
      obtain rfl := ret1 h
      exact z_vret hR dX1_remove_36
    · refine z_icmp_ge_f hX 26 (by decide) dX1_remove_9 c21 ?_
      refine z_aload_n hX dX1_remove_12 0 rfl ?_
      refine z_iload_n hX dX1_remove_13 1 rfl ?_
      refine z_iconst (x := 1) hX dX1_remove_14 (by decide) ?_
      refine z_iadd hX dX1_remove_15 ?_
      refine z_iload_n hX dX1_remove_16 1 rfl ?_
      obtain ⟨σ24, k23, h⟩ := bind_some h
      refine v_X1_31 hX hk_j0 (c_X1_move X.1 hk_j0 k23) (Nat.le_of_ble_eq_true rfl) (Nat.le_of_ble_eq_true rfl) (Nat.le_of_ble_eq_true rfl) dX1_remove_17 ?_
      refine z_iinc (y := (a2 + 1)) (lv' := [(2, .int (a2 + 1)), (0, rf X.1 j0)]) hX dX1_remove_20 1 rfl rfl (by decide) rfl ?_
      refine z_goto hX 2 (by decide) dX1_remove_23 ?_
      refine z_sub (lv' := [(0, rf X.1 j0), (2, .int (a2 + 1))]) [1, 0] rfl ?_
      exact ih j0 (a2 + 1) σ24 hk_j0 h
set_option maxRecDepth 20000 in
set_option maxHeartbeats 4000000 in
theorem c_X1_remove (w : WP) {N : Nat} {j0 : Nat} {a1 : Int32} {σ σ' : HP} (hk_j0 : kd j0 = 1) (h : F_X1_remove N j0 a1 σ = some σ') : Ct w yX1_remove cX1_remove 3 none 1 22 [rf w j0, .int a1] σ none σ' := by
  refine z_met w (by decide +kernel) (Nat.le_of_ble_eq_true rfl) (fun X hw hX => ?_)
  subst hw
  have hR : OkX X RX1 cX1_remove 3 1 22 none none σ' := hX
  have hX := hR.1
  show Z X σ 0 [(0, rf X.1 j0), (1, .int a1)] []
  unfold F_X1_remove at h
  refine z_iload_n hX dX1_remove_0 1 rfl ?_
  refine z_istore_n (lv' := [(2, .int a1), (0, rf X.1 j0), (1, .int a1)]) hX dX1_remove_1 (by decide) rfl ?_
  refine z_sub (lv' := [(0, rf X.1 j0), (2, .int a1)]) [1, 0] rfl ?_
  exact t_X1_remove_2 hR  N j0 a1 σ hk_j0 h
set_option maxRecDepth 20000 in
set_option maxHeartbeats 4000000 in
theorem c_X4_drift (w : WP) {N : Nat} {j0 : Nat} {r : Int32} {σ : HP} (hk_j0 : kd j0 = 4) (h : F_X4_drift N j0 σ = some r) : Ct w yX4_drift cX4_drift 1 (some .int) 0 0 [rf w j0] σ (some (.int r)) σ := by
  refine z_met w (by decide +kernel) (Nat.le_of_ble_eq_true rfl) (fun X hw hX => ?_)
  subst hw
  have hR : OkX X RX4 cX4_drift 1 0 0 (some .int) (some (.int r)) σ := hX
  have hX := hR.1
  show Z X σ 0 [(0, rf X.1 j0)] []
  unfold F_X4_drift at h
  refine z_aload_n hX dX4_drift_0 0 rfl ?_
  refine g_X4_43 hX hk_j0 dX4_drift_1 ?_
  refine z_iconst (x := 1) hX dX4_drift_4 (by decide) ?_
  rcases ite_or h with ⟨c21, h⟩ | ⟨c21, h⟩
  · refine z_icmp_ne_f hX 13 (by decide) dX4_drift_5 c21 ?_
    refine z_aload_n hX dX4_drift_8 0 rfl ?_
    refine g_X4_46 hX hk_j0 dX4_drift_9 ?_
    obtain rfl := ret1 h
    exact z_iret hR dX4_drift_12
  · refine z_icmp_ne_t hX 13 (by decide) dX4_drift_5 c21 ?_
    refine z_aload_n hX dX4_drift_13 0 rfl ?_
    refine g_X4_43 hX hk_j0 dX4_drift_14 ?_
    refine z_iconst (x := 3) hX dX4_drift_17 (by decide) ?_
    rcases ite_or h with ⟨c22, h⟩ | ⟨c22, h⟩
    · refine z_icmp_ne_f hX 29 (by decide) dX4_drift_18 c22 ?_
      refine z_aload_n hX dX4_drift_21 0 rfl ?_
      refine g_X4_46 hX hk_j0 dX4_drift_22 ?_
      refine z_ineg hX dX4_drift_25 ?_
      refine z_goto hX 30 (by decide) dX4_drift_26 ?_
      obtain rfl := ret1 h
      exact z_iret hR dX4_drift_30
    · refine z_icmp_ne_t hX 29 (by decide) dX4_drift_18 c22 ?_
      refine z_iconst (x := 0) hX dX4_drift_29 (by decide) ?_
      obtain rfl := ret1 h
      exact z_iret hR dX4_drift_30
set_option maxRecDepth 20000 in
set_option maxHeartbeats 4000000 in
theorem c_X3_isTangled (w : WP) {N : Nat} {j0 : Nat} {a1 : Int32} {r : Int32} {σ : HP} (hk_j0 : kd j0 = 3) (h : F_X3_isTangled N j0 a1 σ = some r) : Ct w yX3_isTangled cX3_isTangled 2 (some .boolean) 0 0 [rf w j0, .int a1] σ (some (.int r)) σ := by
  refine z_met w (by decide +kernel) (Nat.le_of_ble_eq_true rfl) (fun X hw hX => ?_)
  subst hw
  have hR : OkX X RX3 cX3_isTangled 2 0 0 (some .boolean) (some (.int r)) σ := hX
  have hX := hR.1
  show Z X σ 0 [(0, rf X.1 j0), (1, .int a1)] []
  unfold F_X3_isTangled at h
  refine z_aload_n hX dX3_isTangled_0 0 rfl ?_
  refine g_X3_21 hX hk_j0 dX3_isTangled_1 ?_
  refine z_iload_n hX dX3_isTangled_4 1 rfl ?_
  obtain ⟨g21, h⟩ := gd_some h
  refine z_iald hX (kl_3_3 hk_j0).1 (kl_3_3 hk_j0).2 g21 dX3_isTangled_5 ?_
  rcases ite_or h with ⟨c22, h⟩ | ⟨c22, h⟩
  · refine z_if_eq_t hX 13 (by decide) dX3_isTangled_6 c22 ?_
    refine z_iconst (x := 0) hX dX3_isTangled_13 (by decide) ?_
    obtain rfl := ret1 h
    exact z_zret hR rfl dX3_isTangled_14
  · refine z_if_eq_f hX 13 (by decide) dX3_isTangled_6 c22 ?_
    refine z_iconst (x := 1) hX dX3_isTangled_9 (by decide) ?_
    refine z_goto hX 14 (by decide) dX3_isTangled_10 ?_
    obtain rfl := ret1 h
    exact z_zret hR rfl dX3_isTangled_14
set_option maxRecDepth 20000 in
set_option maxHeartbeats 4000000 in
theorem c_X3_shownAt (w : WP) {N : Nat} {j0 : Nat} {a1 : Int32} {a2 : Int32} {r : Int32} {σ : HP} (hk_j0 : kd j0 = 3) (h : F_X3_shownAt N j0 a1 a2 σ = some r) : Ct w yX3_shownAt cX3_shownAt 3 (some .int) 0 0 [rf w j0, .int a1, .int a2] σ (some (.int r)) σ := by
  refine z_met w (by decide +kernel) (Nat.le_of_ble_eq_true rfl) (fun X hw hX => ?_)
  subst hw
  have hR : OkX X RX3 cX3_shownAt 3 0 0 (some .int) (some (.int r)) σ := hX
  have hX := hR.1
  show Z X σ 0 [(0, rf X.1 j0), (1, .int a1), (2, .int a2)] []
  unfold F_X3_shownAt at h
  refine z_bipush (x := 10) hX dX3_shownAt_0 (by decide) ?_
  refine z_iload_n hX dX3_shownAt_2 1 rfl ?_
  refine z_imul hX dX3_shownAt_3 ?_
  refine z_iload_n hX dX3_shownAt_4 2 rfl ?_
  refine z_aload_n hX dX3_shownAt_5 0 rfl ?_
  refine g_X3_18 hX hk_j0 dX3_shownAt_6 ?_
  refine z_iload_n hX dX3_shownAt_9 1 rfl ?_
  obtain ⟨g21, h⟩ := gd_some h
  refine z_iald hX (kl_3_2 hk_j0).1 (kl_3_2 hk_j0).2 g21 dX3_shownAt_10 ?_
  refine z_imul hX dX3_shownAt_11 ?_
  refine z_iadd hX dX3_shownAt_12 ?_
  obtain rfl := ret1 h
  exact z_iret hR dX3_shownAt_13
set_option maxRecDepth 20000 in
set_option maxHeartbeats 4000000 in
theorem t_X3_canBeRead_20 {X : CX} {N : Nat} {r : Int32} {σ : HP} (hR : OkX X RX3 cX3_canBeRead 5 1 22 (some .boolean) (some (.int r)) σ)  : ∀ (n : Nat) (j0 : Nat) (a1 : Int32) (a2 : Int32) (a3 : Int32) (a4 : Int32), kd j0 = 3 → L_X3_canBeRead_20  N σ n j0 a1 a2 a3 a4 = some r → Z X σ 20 [(0, rf X.1 j0), (1, .int a1), (2, .int a2), (3, .int a3), (4, .int a4)] [] := by
  have hX := hR.1
  intro n
  induction n with
  | zero =>
    intro j0 a1 a2 a3 a4 hk_j0 h
    rw [L_X3_canBeRead_20] at h
    cases h
  | succ n ih =>
    intro j0 a1 a2 a3 a4 hk_j0 h
    rw [L_X3_canBeRead_20] at h
    refine z_iload hX dX3_canBeRead_20 4 rfl ?_
    refine z_aload_n hX dX3_canBeRead_22 0 rfl ?_
    refine g_X3_30 hX hk_j0 dX3_canBeRead_23 ?_
    rcases ite_or h with ⟨c21, h⟩ | ⟨c21, h⟩
    · refine z_icmp_ge_t hX 54 (by decide) dX3_canBeRead_26 c21 ?_
      refine z_iconst (x := 1) hX dX3_canBeRead_54 (by decide) ?_
      obtain rfl := ret1 h
      exact z_zret hR rfl dX3_canBeRead_55
    · refine z_icmp_ge_f hX 54 (by decide) dX3_canBeRead_26 c21 ?_
      refine z_iload hX dX3_canBeRead_29 4 rfl ?_
      refine z_iload_n hX dX3_canBeRead_31 1 rfl ?_
      rcases ite_or h with ⟨c22, h⟩ | ⟨c22, h⟩
      · refine z_icmp_eq_t hX 48 (by decide) dX3_canBeRead_32 c22 ?_
        refine z_iinc (y := (a4 + 1)) (lv' := [(4, .int (a4 + 1)), (0, rf X.1 j0), (1, .int a1), (2, .int a2), (3, .int a3)]) hX dX3_canBeRead_48 4 rfl rfl (by decide) rfl ?_
        refine z_goto hX 20 (by decide) dX3_canBeRead_51 ?_
        refine z_sub (lv' := [(0, rf X.1 j0), (1, .int a1), (2, .int a2), (3, .int a3), (4, .int (a4 + 1))]) [1, 2, 3, 4, 0] rfl ?_
        exact ih j0 a1 a2 a3 (a4 + 1) hk_j0 h
      · refine z_icmp_eq_f hX 48 (by decide) dX3_canBeRead_32 c22 ?_
        refine z_aload_n hX dX3_canBeRead_35 0 rfl ?_
        refine z_iload hX dX3_canBeRead_36 4 rfl ?_
        refine z_iload_n hX dX3_canBeRead_38 2 rfl ?_
        obtain ⟨r24, k23, h⟩ := bind_some h
        refine v_X3_55 hX hk_j0 (c_X3_shownAt X.1 hk_j0 k23) (Nat.le_of_ble_eq_true rfl) (Nat.le_of_ble_eq_true rfl) (Nat.le_of_ble_eq_true rfl) dX3_canBeRead_39 ?_
        refine z_iload_n hX dX3_canBeRead_42 3 rfl ?_
        rcases ite_or h with ⟨c25, h⟩ | ⟨c25, h⟩
        · refine z_icmp_ne_f hX 48 (by decide) dX3_canBeRead_43 c25 ?_
          refine z_iconst (x := 0) hX dX3_canBeRead_46 (by decide) ?_
          obtain rfl := ret1 h
          exact z_zret hR rfl dX3_canBeRead_47
        · refine z_icmp_ne_t hX 48 (by decide) dX3_canBeRead_43 c25 ?_
          refine z_iinc (y := (a4 + 1)) (lv' := [(4, .int (a4 + 1)), (0, rf X.1 j0), (1, .int a1), (2, .int a2), (3, .int a3)]) hX dX3_canBeRead_48 4 rfl rfl (by decide) rfl ?_
          refine z_goto hX 20 (by decide) dX3_canBeRead_51 ?_
          refine z_sub (lv' := [(0, rf X.1 j0), (1, .int a1), (2, .int a2), (3, .int a3), (4, .int (a4 + 1))]) [1, 2, 3, 4, 0] rfl ?_
          exact ih j0 a1 a2 a3 (a4 + 1) hk_j0 h
set_option maxRecDepth 20000 in
set_option maxHeartbeats 4000000 in
theorem c_X3_canBeRead (w : WP) {N : Nat} {j0 : Nat} {a1 : Int32} {a2 : Int32} {r : Int32} {σ : HP} (hk_j0 : kd j0 = 3) (h : F_X3_canBeRead N j0 a1 a2 σ = some r) : Ct w yX3_canBeRead cX3_canBeRead 5 (some .boolean) 1 22 [rf w j0, .int a1, .int a2] σ (some (.int r)) σ := by
  refine z_met w (by decide +kernel) (Nat.le_of_ble_eq_true rfl) (fun X hw hX => ?_)
  subst hw
  have hR : OkX X RX3 cX3_canBeRead 5 1 22 (some .boolean) (some (.int r)) σ := hX
  have hX := hR.1
  show Z X σ 0 [(0, rf X.1 j0), (1, .int a1), (2, .int a2)] []
  unfold F_X3_canBeRead at h
  refine z_aload_n hX dX3_canBeRead_0 0 rfl ?_
  refine z_iload_n hX dX3_canBeRead_1 1 rfl ?_
  obtain ⟨r22, k21, h⟩ := bind_some h
  refine v_X3_51 hX hk_j0 (c_X3_isTangled X.1 hk_j0 k21) (Nat.le_of_ble_eq_true rfl) (Nat.le_of_ble_eq_true rfl) (Nat.le_of_ble_eq_true rfl) dX3_canBeRead_2 ?_
  rcases ite_or h with ⟨c23, h⟩ | ⟨c23, h⟩
  · refine z_if_eq_t hX 10 (by decide) dX3_canBeRead_5 c23 ?_
    refine z_aload_n hX dX3_canBeRead_10 0 rfl ?_
    refine z_iload_n hX dX3_canBeRead_11 1 rfl ?_
    refine z_iload_n hX dX3_canBeRead_12 2 rfl ?_
    obtain ⟨r25, k24, h⟩ := bind_some h
    refine v_X3_55 hX hk_j0 (c_X3_shownAt X.1 hk_j0 k24) (Nat.le_of_ble_eq_true rfl) (Nat.le_of_ble_eq_true rfl) (Nat.le_of_ble_eq_true rfl) dX3_canBeRead_13 ?_
    refine z_istore_n (lv' := [(3, .int r25), (0, rf X.1 j0), (1, .int a1), (2, .int a2)]) hX dX3_canBeRead_16 (by decide) rfl ?_
    refine z_iconst (x := 0) hX dX3_canBeRead_17 (by decide) ?_
    refine z_istore (lv' := [(4, .int 0), (3, .int r25), (0, rf X.1 j0), (1, .int a1), (2, .int a2)]) hX dX3_canBeRead_18 (by decide) rfl ?_
    refine z_sub (lv' := [(0, rf X.1 j0), (1, .int a1), (2, .int a2), (3, .int r25), (4, .int 0)]) [2, 3, 4, 1, 0] rfl ?_
    exact t_X3_canBeRead_20 hR  N j0 a1 a2 r25 0 hk_j0 h
  · refine z_if_eq_f hX 10 (by decide) dX3_canBeRead_5 c23 ?_
    refine z_iconst (x := 0) hX dX3_canBeRead_8 (by decide) ?_
    obtain rfl := ret1 h
    exact z_zret hR rfl dX3_canBeRead_9
set_option maxRecDepth 20000 in
set_option maxHeartbeats 4000000 in
theorem t_X2_insert_85 {X : CX} {N : Nat} {j0 : Nat} {a2 : Int32} {a5 : Int32} {σ σ' : HP} (hR : OkX X RX2 cX2_insert 7 1 22 none none σ')  (hk_j0 : kd j0 = 2) (h : J_X2_insert_85  N j0 a2 a5 σ = some σ') : Z X σ 85 [(0, rf X.1 j0), (2, .int a2), (5, .int a5)] [] := by
  have hX := hR.1
  unfold J_X2_insert_85 at h
  refine z_aload_n hX dX2_insert_85 0 rfl ?_
  refine g_X2_9 hX hk_j0 dX2_insert_86 ?_
  refine z_iload hX dX2_insert_89 2 rfl ?_
  refine z_iload_n hX dX2_insert_91 1 rfl ?_
  obtain ⟨g21, h⟩ := gd_some h
  obtain ⟨σ22, eσ22, h⟩ := bd_some h
  refine z_iast hX (kl_2_0 hk_j0).1 (kl_2_0 hk_j0).2 g21 dX2_insert_92 ?_
  refine z_ms eσ22 ?_
  refine z_aload_n hX dX2_insert_93 0 rfl ?_
  refine z_dup hX rfl dX2_insert_94 ?_
  refine g_X2_15 hX hk_j0 dX2_insert_95 ?_
  refine z_iconst (x := 1) hX dX2_insert_98 (by decide) ?_
  refine z_iadd hX dX2_insert_99 ?_
  obtain ⟨σ23, eσ23, h⟩ := bd_some h
  refine p_X2_15 hX hk_j0 dX2_insert_100 ?_
  refine z_ms eσ23 ?_
  obtain rfl := ret1 h
  exact z_vret hR dX2_insert_103
set_option maxRecDepth 20000 in
set_option maxHeartbeats 4000000 in
theorem t_X2_insert_49 {X : CX} {N : Nat} {k17 : (Nat → Nat → Int32 → Int32 → Int32 → Int32 → HP → Option (HP))} {j0 : Nat} {j1 : Nat} {a2 : Int32} {a3 : Int32} {a4 : Int32} {a5 : Int32} {s0 : Int32} {σ σ' : HP} (hR : OkX X RX2 cX2_insert 7 1 22 none none σ') (hk17 : ∀ (j0 : Nat) (j1 : Nat) (a2 : Int32) (a3 : Int32) (a4 : Int32) (a5 : Int32) (σ9 : HP), kd j0 = 2 → kd j1 = 4 → k17 j0 j1 a2 a3 a4 a5 σ9 = some σ' → Z X σ9 17 [(0, rf X.1 j0), (1, rf X.1 j1), (2, .int a2), (3, .int a3), (4, .int a4), (5, .int a5)] []) (hk_j0 : kd j0 = 2) (hk_j1 : kd j1 = 4) (h : J_X2_insert_49 k17 N j0 j1 a2 a3 a4 a5 s0 σ = some σ') : Z X σ 49 [(0, rf X.1 j0), (1, rf X.1 j1), (2, .int a2), (3, .int a3), (4, .int a4), (5, .int a5)] [.int s0] := by
  have hX := hR.1
  unfold J_X2_insert_49 at h
  refine z_istore (lv' := [(6, .int s0), (0, rf X.1 j0), (1, rf X.1 j1), (2, .int a2), (3, .int a3), (4, .int a4), (5, .int a5)]) hX dX2_insert_49 (by decide) rfl ?_
  refine z_iload hX dX2_insert_51 0 rfl ?_
  refine z_aload_n hX dX2_insert_53 2 rfl ?_
  refine g_X2_44 hX hk_j1 dX2_insert_54 ?_
  rcases ite_or h with ⟨c21, h⟩ | ⟨c21, h⟩
  · refine z_icmp_ne_f hX 63 (by decide) dX2_insert_57 c21 ?_
    refine z_goto hX 85 (by decide) dX2_insert_60 ?_
    refine z_sub (lv' := [(0, rf X.1 j0), (2, .int a2), (5, .int a5)]) [1, 3, 6] rfl ?_
    exact t_X2_insert_85 hR  hk_j0 h
  · refine z_icmp_ne_t hX 63 (by decide) dX2_insert_57 c21 ?_
    refine z_aload_n hX dX2_insert_63 1 rfl ?_
    refine g_X2_9 hX hk_j0 dX2_insert_64 ?_
    refine z_iload hX dX2_insert_67 6 rfl ?_
    refine z_aload_n hX dX2_insert_69 1 rfl ?_
    refine g_X2_9 hX hk_j0 dX2_insert_70 ?_
    refine z_iload hX dX2_insert_73 6 rfl ?_
    refine z_iconst (x := 1) hX dX2_insert_75 (by decide) ?_
    refine z_isub hX dX2_insert_76 ?_
    obtain ⟨g22, h⟩ := gd_some h
    refine z_iald hX (kl_2_0 hk_j0).1 (kl_2_0 hk_j0).2 g22 dX2_insert_77 ?_
    obtain ⟨g23, h⟩ := gd_some h
    obtain ⟨σ24, eσ24, h⟩ := bd_some h
    refine z_iast hX (kl_2_0 hk_j0).1 (kl_2_0 hk_j0).2 g23 dX2_insert_78 ?_
    refine z_ms eσ24 ?_
    refine z_iinc (y := (a5 + (-1))) (lv' := [(5, .int (a5 + (-1))), (6, .int s0), (0, rf X.1 j0), (1, rf X.1 j1), (2, .int a2), (3, .int a3), (4, .int a4)]) hX dX2_insert_79 6 rfl rfl (by decide) rfl ?_
    refine z_goto hX 17 (by decide) dX2_insert_82 ?_
    refine z_sub (lv' := [(0, rf X.1 j0), (1, rf X.1 j1), (2, .int a2), (3, .int a3), (4, .int a4), (5, .int (a5 + (-1)))]) [2, 3, 4, 5, 6, 0] rfl ?_
    exact hk17 j0 j1 a2 a3 a4 (a5 + (-1)) σ24 hk_j0 hk_j1 h
set_option maxRecDepth 20000 in
set_option maxHeartbeats 4000000 in
theorem t_X2_insert_17 {X : CX} {N : Nat} {σ' : HP} (hR : OkX X RX2 cX2_insert 7 1 22 none none σ')  : ∀ (n : Nat) (j0 : Nat) (j1 : Nat) (a2 : Int32) (a3 : Int32) (a4 : Int32) (a5 : Int32) (σ : HP), kd j0 = 2 → kd j1 = 4 → L_X2_insert_17  N n j0 j1 a2 a3 a4 a5 σ = some σ' → Z X σ 17 [(0, rf X.1 j0), (1, rf X.1 j1), (2, .int a2), (3, .int a3), (4, .int a4), (5, .int a5)] [] := by
  have hX := hR.1
  intro n
  induction n with
  | zero =>
    intro j0 j1 a2 a3 a4 a5 σ hk_j0 hk_j1 h
    rw [L_X2_insert_17] at h
    cases h
  | succ n ih =>
    intro j0 j1 a2 a3 a4 a5 σ hk_j0 hk_j1 h
    rw [L_X2_insert_17] at h
    refine z_iload hX dX2_insert_17 5 rfl ?_
    rcases ite_or h with ⟨c21, h⟩ | ⟨c21, h⟩
    · refine z_if_le_t hX 85 (by decide) dX2_insert_19 c21 ?_
      refine z_sub (lv' := [(0, rf X.1 j0), (2, .int a2), (5, .int a5)]) [0, 2, 5] rfl ?_
      exact t_X2_insert_85 hR  hk_j0 h
    · refine z_if_le_f hX 85 (by decide) dX2_insert_19 c21 ?_
      refine z_iload hX dX2_insert_22 4 rfl ?_
      refine z_aload_n hX dX2_insert_24 1 rfl ?_
      refine g_X2_25 hX hk_j1 dX2_insert_25 ?_
      refine z_aload_n hX dX2_insert_28 0 rfl ?_
      refine g_X2_9 hX hk_j0 dX2_insert_29 ?_
      refine z_iload hX dX2_insert_32 5 rfl ?_
      refine z_iconst (x := 1) hX dX2_insert_34 (by decide) ?_
      refine z_isub hX dX2_insert_35 ?_
      obtain ⟨g22, h⟩ := gd_some h
      refine z_iald hX (kl_2_0 hk_j0).1 (kl_2_0 hk_j0).2 g22 dX2_insert_36 ?_
      refine z_iload_n hX dX2_insert_37 3 rfl ?_
      obtain ⟨r24, k23, h⟩ := bind_some h
      refine v_X2_40 hX (kl_4_0 hk_j1).1 (c_X3_shownAt X.1 (kl_4_0 hk_j1).1 k23) (Nat.le_of_ble_eq_true rfl) (Nat.le_of_ble_eq_true rfl) (Nat.le_of_ble_eq_true rfl) dX2_insert_38 ?_
      rcases ite_or h with ⟨c25, h⟩ | ⟨c25, h⟩
      · refine z_icmp_ge_t hX 48 (by decide) dX2_insert_41 c25 ?_
        refine z_iconst (x := 0) hX dX2_insert_48 (by decide) ?_
        exact t_X2_insert_49 hR (fun j0 j1 a2 a3 a4 a5 σ9 hk_j0 hk_j1 h9 => ih j0 j1 a2 a3 a4 a5 σ9 hk_j0 hk_j1 h9) hk_j0 hk_j1 h
      · refine z_icmp_ge_f hX 48 (by decide) dX2_insert_41 c25 ?_
        refine z_iconst (x := 1) hX dX2_insert_44 (by decide) ?_
        refine z_goto hX 49 (by decide) dX2_insert_45 ?_
        exact t_X2_insert_49 hR (fun j0 j1 a2 a3 a4 a5 σ9 hk_j0 hk_j1 h9 => ih j0 j1 a2 a3 a4 a5 σ9 hk_j0 hk_j1 h9) hk_j0 hk_j1 h
set_option maxRecDepth 20000 in
set_option maxHeartbeats 4000000 in
theorem c_X2_insert (w : WP) {N : Nat} {j0 : Nat} {j1 : Nat} {a2 : Int32} {a3 : Int32} {σ σ' : HP} (hk_j0 : kd j0 = 2) (hk_j1 : kd j1 = 4) (h : F_X2_insert N j0 j1 a2 a3 σ = some σ') : Ct w yX2_insert cX2_insert 7 none 1 22 [rf w j0, rf w j1, .int a2, .int a3] σ none σ' := by
  refine z_met w (by decide +kernel) (Nat.le_of_ble_eq_true rfl) (fun X hw hX => ?_)
  subst hw
  have hR : OkX X RX2 cX2_insert 7 1 22 none none σ' := hX
  have hX := hR.1
  show Z X σ 0 [(0, rf X.1 j0), (1, rf X.1 j1), (2, .int a2), (3, .int a3)] []
  unfold F_X2_insert at h
  refine z_aload_n hX dX2_insert_0 1 rfl ?_
  refine g_X2_25 hX hk_j1 dX2_insert_1 ?_
  refine z_iload_n hX dX2_insert_4 2 rfl ?_
  refine z_iload_n hX dX2_insert_5 3 rfl ?_
  obtain ⟨r22, k21, h⟩ := bind_some h
  refine v_X2_40 hX (kl_4_0 hk_j1).1 (c_X3_shownAt X.1 (kl_4_0 hk_j1).1 k21) (Nat.le_of_ble_eq_true rfl) (Nat.le_of_ble_eq_true rfl) (Nat.le_of_ble_eq_true rfl) dX2_insert_6 ?_
  refine z_istore (lv' := [(4, .int r22), (0, rf X.1 j0), (1, rf X.1 j1), (2, .int a2), (3, .int a3)]) hX dX2_insert_9 (by decide) rfl ?_
  refine z_aload_n hX dX2_insert_11 1 rfl ?_
  refine g_X2_15 hX hk_j0 dX2_insert_12 ?_
  obtain ⟨x23, ex23, h⟩ := bd_some h
  refine z_top ex23 ?_
  refine z_istore (lv' := [(5, .int x23), (4, .int r22), (0, rf X.1 j0), (1, rf X.1 j1), (2, .int a2), (3, .int a3)]) hX dX2_insert_15 (by decide) rfl ?_
  refine z_sub (lv' := [(0, rf X.1 j0), (1, rf X.1 j1), (2, .int a2), (3, .int a3), (4, .int r22), (5, .int x23)]) [2, 3, 4, 5, 1, 0] rfl ?_
  exact t_X2_insert_17 hR  N j0 j1 a2 a3 r22 x23 σ hk_j0 hk_j1 h
set_option maxRecDepth 20000 in
set_option maxHeartbeats 4000000 in
theorem t_X2_look_12 {X : CX} {N : Nat} {σ' : HP} (hR : OkX X RX2 cX2_look 4 2 48 none none σ')  : ∀ (n : Nat) (j0 : Nat) (j1 : Nat) (a2 : Int32) (a3 : Int32) (σ : HP), kd j0 = 2 → kd j1 = 4 → L_X2_look_12  N n j0 j1 a2 a3 σ = some σ' → Z X σ 12 [(0, rf X.1 j0), (1, rf X.1 j1), (2, .int a2), (3, .int a3)] [] := by
  have hX := hR.1
  intro n
  induction n with
  | zero =>
    intro j0 j1 a2 a3 σ hk_j0 hk_j1 h
    rw [L_X2_look_12] at h
    cases h
  | succ n ih =>
    intro j0 j1 a2 a3 σ hk_j0 hk_j1 h
    rw [L_X2_look_12] at h
    refine z_iload_n hX dX2_look_12 3 rfl ?_
    refine z_aload_n hX dX2_look_13 1 rfl ?_
    refine g_X2_25 hX hk_j1 dX2_look_14 ?_
    refine g_X2_29 hX (kl_4_0 hk_j1).1 dX2_look_17 ?_
    rcases ite_or h with ⟨c21, h⟩ | ⟨c21, h⟩
    · refine z_icmp_ge_t hX 48 (by decide) dX2_look_20 c21 ?_
      obtain rfl := ret1 h
      exact z_vret hR dX2_look_48
    · refine z_icmp_ge_f hX 48 (by decide) dX2_look_20 c21 ?_
      refine z_aload_n hX dX2_look_23 1 rfl ?_
      refine g_X2_25 hX hk_j1 dX2_look_24 ?_
      refine z_iload_n hX dX2_look_27 3 rfl ?_
      refine z_iload_n hX dX2_look_28 2 rfl ?_
      obtain ⟨r23, k22, h⟩ := bind_some h
      refine v_X2_32 hX (kl_4_0 hk_j1).1 (c_X3_canBeRead X.1 (kl_4_0 hk_j1).1 k22) (Nat.le_of_ble_eq_true rfl) (Nat.le_of_ble_eq_true rfl) (Nat.le_of_ble_eq_true rfl) dX2_look_29 ?_
      rcases ite_or h with ⟨c24, h⟩ | ⟨c24, h⟩
      · refine z_if_eq_t hX 42 (by decide) dX2_look_32 c24 ?_
        refine z_iinc (y := (a3 + 1)) (lv' := [(3, .int (a3 + 1)), (0, rf X.1 j0), (1, rf X.1 j1), (2, .int a2)]) hX dX2_look_42 3 rfl rfl (by decide) rfl ?_
        refine z_goto hX 12 (by decide) dX2_look_45 ?_
        refine z_sub (lv' := [(0, rf X.1 j0), (1, rf X.1 j1), (2, .int a2), (3, .int (a3 + 1))]) [1, 2, 3, 0] rfl ?_
        exact ih j0 j1 a2 (a3 + 1) σ hk_j0 hk_j1 h
      · refine z_if_eq_f hX 42 (by decide) dX2_look_32 c24 ?_
        refine z_aload_n hX dX2_look_35 0 rfl ?_
        refine z_aload_n hX dX2_look_36 1 rfl ?_
        refine z_iload_n hX dX2_look_37 3 rfl ?_
        refine z_iload_n hX dX2_look_38 2 rfl ?_
        obtain ⟨σ26, k25, h⟩ := bind_some h
        refine v_X2_36 hX hk_j0 (c_X2_insert X.1 hk_j0 hk_j1 k25) (Nat.le_of_ble_eq_true rfl) (Nat.le_of_ble_eq_true rfl) (Nat.le_of_ble_eq_true rfl) dX2_look_39 ?_
        refine z_iinc (y := (a3 + 1)) (lv' := [(3, .int (a3 + 1)), (0, rf X.1 j0), (1, rf X.1 j1), (2, .int a2)]) hX dX2_look_42 3 rfl rfl (by decide) rfl ?_
        refine z_goto hX 12 (by decide) dX2_look_45 ?_
        refine z_sub (lv' := [(0, rf X.1 j0), (1, rf X.1 j1), (2, .int a2), (3, .int (a3 + 1))]) [1, 2, 3, 0] rfl ?_
        exact ih j0 j1 a2 (a3 + 1) σ26 hk_j0 hk_j1 h
set_option maxRecDepth 20000 in
set_option maxHeartbeats 4000000 in
theorem c_X2_look (w : WP) {N : Nat} {j0 : Nat} {j1 : Nat} {σ σ' : HP} (hk_j0 : kd j0 = 2) (hk_j1 : kd j1 = 4) (h : F_X2_look N j0 j1 σ = some σ') : Ct w yX2_look cX2_look 4 none 2 48 [rf w j0, rf w j1] σ none σ' := by
  refine z_met w (by decide +kernel) (Nat.le_of_ble_eq_true rfl) (fun X hw hX => ?_)
  subst hw
  have hR : OkX X RX2 cX2_look 4 2 48 none none σ' := hX
  have hX := hR.1
  show Z X σ 0 [(0, rf X.1 j0), (1, rf X.1 j1)] []
  unfold F_X2_look at h
  refine z_aload_n hX dX2_look_0 1 rfl ?_
  obtain ⟨r22, k21, h⟩ := bind_some h
  refine v_X2_19 hX hk_j1 (c_X4_drift X.1 hk_j1 k21) (Nat.le_of_ble_eq_true rfl) (Nat.le_of_ble_eq_true rfl) (Nat.le_of_ble_eq_true rfl) dX2_look_1 ?_
  refine z_istore_n (lv' := [(2, .int r22), (0, rf X.1 j0), (1, rf X.1 j1)]) hX dX2_look_4 (by decide) rfl ?_
  refine z_aload_n hX dX2_look_5 1 rfl ?_
  refine z_iconst (x := 0) hX dX2_look_6 (by decide) ?_
  obtain ⟨σ23, eσ23, h⟩ := bd_some h
  refine p_X2_15 hX hk_j0 dX2_look_7 ?_
  refine z_ms eσ23 ?_
  refine z_iconst (x := 0) hX dX2_look_10 (by decide) ?_
  refine z_istore_n (lv' := [(3, .int 0), (2, .int r22), (0, rf X.1 j0), (1, rf X.1 j1)]) hX dX2_look_11 (by decide) rfl ?_
  refine z_sub (lv' := [(0, rf X.1 j0), (1, rf X.1 j1), (2, .int r22), (3, .int 0)]) [2, 3, 1, 0] rfl ?_
  exact t_X2_look_12 hR  N j0 j1 r22 0 σ23 hk_j0 hk_j1 h
set_option maxRecDepth 20000 in
set_option maxHeartbeats 4000000 in
theorem c_X3_copyFrom (w : WP) {N : Nat} {j0 : Nat} {j1 : Nat} {σ σ' : HP} (hk_j0 : kd j0 = 3) (hk_j1 : kd j1 = 3) (h : F_X3_copyFrom N j0 j1 σ = some σ') : Ct w yX3_copyFrom cX3_copyFrom 2 none 1 18 [rf w j0, rf w j1] σ none σ' := by
  refine z_met w (by decide +kernel) (Nat.le_of_ble_eq_true rfl) (fun X hw hX => ?_)
  subst hw
  have hR : OkX X RX3 cX3_copyFrom 2 1 18 none none σ' := hX
  have hX := hR.1
  show Z X σ 0 [(0, rf X.1 j0), (1, rf X.1 j1)] []
  unfold F_X3_copyFrom at h
  refine z_aload_n hX dX3_copyFrom_0 1 rfl ?_
  refine g_X3_9 hX hk_j1 dX3_copyFrom_1 ?_
  refine z_iconst (x := 0) hX dX3_copyFrom_4 (by decide) ?_
  refine z_aload_n hX dX3_copyFrom_5 0 rfl ?_
  refine g_X3_9 hX hk_j0 dX3_copyFrom_6 ?_
  refine z_iconst (x := 0) hX dX3_copyFrom_9 (by decide) ?_
  refine z_bipush (x := 12) hX dX3_copyFrom_10 (by decide) ?_
  obtain ⟨σ21, eσ21, h⟩ := bd_some h
  refine z_copyI hX ml_X3_37 (kl_3_0 hk_j1).1 (kl_3_0 hk_j0).1 (kl_3_0 hk_j1).2 (kl_3_0 hk_j0).2 (by decide) (by decide) (by decide) (by decide) (by decide) (fun _ _ => rfl) (by decide) (Nat.le_of_ble_eq_true rfl) dX3_copyFrom_12 ?_
  refine z_ms eσ21 ?_
  refine z_aload_n hX dX3_copyFrom_15 1 rfl ?_
  refine g_X3_15 hX hk_j1 dX3_copyFrom_16 ?_
  refine z_iconst (x := 0) hX dX3_copyFrom_19 (by decide) ?_
  refine z_aload_n hX dX3_copyFrom_20 0 rfl ?_
  refine g_X3_15 hX hk_j0 dX3_copyFrom_21 ?_
  refine z_iconst (x := 0) hX dX3_copyFrom_24 (by decide) ?_
  refine z_bipush (x := 12) hX dX3_copyFrom_25 (by decide) ?_
  obtain ⟨σ22, eσ22, h⟩ := bd_some h
  refine z_copyI hX ml_X3_37 (kl_3_1 hk_j1).1 (kl_3_1 hk_j0).1 (kl_3_1 hk_j1).2 (kl_3_1 hk_j0).2 (by decide) (by decide) (by decide) (by decide) (by decide) (fun _ _ => rfl) (by decide) (Nat.le_of_ble_eq_true rfl) dX3_copyFrom_27 ?_
  refine z_ms eσ22 ?_
  refine z_aload_n hX dX3_copyFrom_30 1 rfl ?_
  refine g_X3_18 hX hk_j1 dX3_copyFrom_31 ?_
  refine z_iconst (x := 0) hX dX3_copyFrom_34 (by decide) ?_
  refine z_aload_n hX dX3_copyFrom_35 0 rfl ?_
  refine g_X3_18 hX hk_j0 dX3_copyFrom_36 ?_
  refine z_iconst (x := 0) hX dX3_copyFrom_39 (by decide) ?_
  refine z_bipush (x := 12) hX dX3_copyFrom_40 (by decide) ?_
  obtain ⟨σ23, eσ23, h⟩ := bd_some h
  refine z_copyI hX ml_X3_37 (kl_3_2 hk_j1).1 (kl_3_2 hk_j0).1 (kl_3_2 hk_j1).2 (kl_3_2 hk_j0).2 (by decide) (by decide) (by decide) (by decide) (by decide) (fun _ _ => rfl) (by decide) (Nat.le_of_ble_eq_true rfl) dX3_copyFrom_42 ?_
  refine z_ms eσ23 ?_
  refine z_aload_n hX dX3_copyFrom_45 1 rfl ?_
  refine g_X3_21 hX hk_j1 dX3_copyFrom_46 ?_
  refine z_iconst (x := 0) hX dX3_copyFrom_49 (by decide) ?_
  refine z_aload_n hX dX3_copyFrom_50 0 rfl ?_
  refine g_X3_21 hX hk_j0 dX3_copyFrom_51 ?_
  refine z_iconst (x := 0) hX dX3_copyFrom_54 (by decide) ?_
  refine z_bipush (x := 12) hX dX3_copyFrom_55 (by decide) ?_
  obtain ⟨σ24, eσ24, h⟩ := bd_some h
  refine z_copyI hX ml_X3_37 (kl_3_3 hk_j1).1 (kl_3_3 hk_j0).1 (kl_3_3 hk_j1).2 (kl_3_3 hk_j0).2 (by decide) (by decide) (by decide) (by decide) (by decide) (fun _ _ => rfl) (by decide) (Nat.le_of_ble_eq_true rfl) dX3_copyFrom_57 ?_
  refine z_ms eσ24 ?_
  refine z_aload_n hX dX3_copyFrom_60 1 rfl ?_
  refine g_X3_24 hX hk_j1 dX3_copyFrom_61 ?_
  refine z_iconst (x := 0) hX dX3_copyFrom_64 (by decide) ?_
  refine z_aload_n hX dX3_copyFrom_65 0 rfl ?_
  refine g_X3_24 hX hk_j0 dX3_copyFrom_66 ?_
  refine z_iconst (x := 0) hX dX3_copyFrom_69 (by decide) ?_
  refine z_bipush (x := 12) hX dX3_copyFrom_70 (by decide) ?_
  obtain ⟨σ25, eσ25, h⟩ := bd_some h
  refine z_copyI hX ml_X3_37 (kl_3_4 hk_j1).1 (kl_3_4 hk_j0).1 (kl_3_4 hk_j1).2 (kl_3_4 hk_j0).2 (by decide) (by decide) (by decide) (by decide) (by decide) (fun _ _ => rfl) (by decide) (Nat.le_of_ble_eq_true rfl) dX3_copyFrom_72 ?_
  refine z_ms eσ25 ?_
  refine z_aload_n hX dX3_copyFrom_75 1 rfl ?_
  refine g_X3_27 hX hk_j1 dX3_copyFrom_76 ?_
  refine z_iconst (x := 0) hX dX3_copyFrom_79 (by decide) ?_
  refine z_aload_n hX dX3_copyFrom_80 0 rfl ?_
  refine g_X3_27 hX hk_j0 dX3_copyFrom_81 ?_
  refine z_iconst (x := 0) hX dX3_copyFrom_84 (by decide) ?_
  refine z_bipush (x := 12) hX dX3_copyFrom_85 (by decide) ?_
  obtain ⟨σ26, eσ26, h⟩ := bd_some h
  refine z_copyI hX ml_X3_37 (kl_3_5 hk_j1).1 (kl_3_5 hk_j0).1 (kl_3_5 hk_j1).2 (kl_3_5 hk_j0).2 (by decide) (by decide) (by decide) (by decide) (by decide) (fun _ _ => rfl) (by decide) (Nat.le_of_ble_eq_true rfl) dX3_copyFrom_87 ?_
  refine z_ms eσ26 ?_
  refine z_aload_n hX dX3_copyFrom_90 0 rfl ?_
  refine z_aload_n hX dX3_copyFrom_91 1 rfl ?_
  refine g_X3_30 hX hk_j1 dX3_copyFrom_92 ?_
  obtain ⟨σ27, eσ27, h⟩ := bd_some h
  refine p_X3_30 hX hk_j0 dX3_copyFrom_95 ?_
  refine z_ms eσ27 ?_
  refine z_aload_n hX dX3_copyFrom_98 0 rfl ?_
  refine z_aload_n hX dX3_copyFrom_99 1 rfl ?_
  refine g_X3_34 hX hk_j1 dX3_copyFrom_100 ?_
  obtain ⟨σ28, eσ28, h⟩ := bd_some h
  refine p_X3_34 hX hk_j0 dX3_copyFrom_103 ?_
  refine z_ms eσ28 ?_
  obtain rfl := ret1 h
  exact z_vret hR dX3_copyFrom_106
set_option maxRecDepth 20000 in
set_option maxHeartbeats 4000000 in
theorem c_X3_hasPlace (w : WP) {N : Nat} {j0 : Nat} {a1 : Int32} {r : Int32} {σ : HP} (hk_j0 : kd j0 = 3) (h : F_X3_hasPlace N j0 a1 σ = some r) : Ct w yX3_hasPlace cX3_hasPlace 2 (some .boolean) 0 0 [rf w j0, .int a1] σ (some (.int r)) σ := by
  refine z_met w (by decide +kernel) (Nat.le_of_ble_eq_true rfl) (fun X hw hX => ?_)
  subst hw
  have hR : OkX X RX3 cX3_hasPlace 2 0 0 (some .boolean) (some (.int r)) σ := hX
  have hX := hR.1
  show Z X σ 0 [(0, rf X.1 j0), (1, .int a1)] []
  unfold F_X3_hasPlace at h
  refine z_iload_n hX dX3_hasPlace_0 1 rfl ?_
  rcases ite_or h with ⟨c21, h⟩ | ⟨c21, h⟩
  · refine z_if_lt_t hX 16 (by decide) dX3_hasPlace_1 c21 ?_
    refine z_iconst (x := 0) hX dX3_hasPlace_16 (by decide) ?_
    obtain rfl := ret1 h
    exact z_zret hR rfl dX3_hasPlace_17
  · refine z_if_lt_f hX 16 (by decide) dX3_hasPlace_1 c21 ?_
    refine z_iload_n hX dX3_hasPlace_4 1 rfl ?_
    refine z_aload_n hX dX3_hasPlace_5 0 rfl ?_
    refine g_X3_30 hX hk_j0 dX3_hasPlace_6 ?_
    rcases ite_or h with ⟨c22, h⟩ | ⟨c22, h⟩
    · refine z_icmp_ge_t hX 16 (by decide) dX3_hasPlace_9 c22 ?_
      refine z_iconst (x := 0) hX dX3_hasPlace_16 (by decide) ?_
      obtain rfl := ret1 h
      exact z_zret hR rfl dX3_hasPlace_17
    · refine z_icmp_ge_f hX 16 (by decide) dX3_hasPlace_9 c22 ?_
      refine z_iconst (x := 1) hX dX3_hasPlace_12 (by decide) ?_
      refine z_goto hX 17 (by decide) dX3_hasPlace_13 ?_
      obtain rfl := ret1 h
      exact z_zret hR rfl dX3_hasPlace_17
set_option maxRecDepth 20000 in
set_option maxHeartbeats 4000000 in
theorem c_X3_hasPairAt (w : WP) {N : Nat} {j0 : Nat} {a1 : Int32} {r : Int32} {σ : HP} (hk_j0 : kd j0 = 3) (h : F_X3_hasPairAt N j0 a1 σ = some r) : Ct w yX3_hasPairAt cX3_hasPairAt 2 (some .boolean) 0 0 [rf w j0, .int a1] σ (some (.int r)) σ := by
  refine z_met w (by decide +kernel) (Nat.le_of_ble_eq_true rfl) (fun X hw hX => ?_)
  subst hw
  have hR : OkX X RX3 cX3_hasPairAt 2 0 0 (some .boolean) (some (.int r)) σ := hX
  have hX := hR.1
  show Z X σ 0 [(0, rf X.1 j0), (1, .int a1)] []
  unfold F_X3_hasPairAt at h
  refine z_iload_n hX dX3_hasPairAt_0 1 rfl ?_
  rcases ite_or h with ⟨c21, h⟩ | ⟨c21, h⟩
  · refine z_if_lt_t hX 18 (by decide) dX3_hasPairAt_1 c21 ?_
    refine z_iconst (x := 0) hX dX3_hasPairAt_18 (by decide) ?_
    obtain rfl := ret1 h
    exact z_zret hR rfl dX3_hasPairAt_19
  · refine z_if_lt_f hX 18 (by decide) dX3_hasPairAt_1 c21 ?_
    refine z_iload_n hX dX3_hasPairAt_4 1 rfl ?_
    refine z_aload_n hX dX3_hasPairAt_5 0 rfl ?_
    refine g_X3_30 hX hk_j0 dX3_hasPairAt_6 ?_
    refine z_iconst (x := 1) hX dX3_hasPairAt_9 (by decide) ?_
    refine z_isub hX dX3_hasPairAt_10 ?_
    rcases ite_or h with ⟨c22, h⟩ | ⟨c22, h⟩
    · refine z_icmp_ge_t hX 18 (by decide) dX3_hasPairAt_11 c22 ?_
      refine z_iconst (x := 0) hX dX3_hasPairAt_18 (by decide) ?_
      obtain rfl := ret1 h
      exact z_zret hR rfl dX3_hasPairAt_19
    · refine z_icmp_ge_f hX 18 (by decide) dX3_hasPairAt_11 c22 ?_
      refine z_iconst (x := 1) hX dX3_hasPairAt_14 (by decide) ?_
      refine z_goto hX 19 (by decide) dX3_hasPairAt_15 ?_
      obtain rfl := ret1 h
      exact z_zret hR rfl dX3_hasPairAt_19
set_option maxRecDepth 20000 in
set_option maxHeartbeats 4000000 in
theorem c_X3_hasRoomFor (w : WP) {N : Nat} {j0 : Nat} {a1 : Int32} {r : Int32} {σ : HP} (hk_j0 : kd j0 = 3) (h : F_X3_hasRoomFor N j0 a1 σ = some r) : Ct w yX3_hasRoomFor cX3_hasRoomFor 2 (some .boolean) 0 0 [rf w j0, .int a1] σ (some (.int r)) σ := by
  refine z_met w (by decide +kernel) (Nat.le_of_ble_eq_true rfl) (fun X hw hX => ?_)
  subst hw
  have hR : OkX X RX3 cX3_hasRoomFor 2 0 0 (some .boolean) (some (.int r)) σ := hX
  have hX := hR.1
  show Z X σ 0 [(0, rf X.1 j0), (1, .int a1)] []
  unfold F_X3_hasRoomFor at h
  refine z_aload_n hX dX3_hasRoomFor_0 0 rfl ?_
  refine g_X3_30 hX hk_j0 dX3_hasRoomFor_1 ?_
  refine z_iload_n hX dX3_hasRoomFor_4 1 rfl ?_
  refine z_iadd hX dX3_hasRoomFor_5 ?_
  refine z_bipush (x := 12) hX dX3_hasRoomFor_6 (by decide) ?_
  rcases ite_or h with ⟨c21, h⟩ | ⟨c21, h⟩
  · refine z_icmp_gt_t hX 26 (by decide) dX3_hasRoomFor_8 c21 ?_
    refine z_iconst (x := 0) hX dX3_hasRoomFor_26 (by decide) ?_
    obtain rfl := ret1 h
    exact z_zret hR rfl dX3_hasRoomFor_27
  · refine z_icmp_gt_f hX 26 (by decide) dX3_hasRoomFor_8 c21 ?_
    refine z_aload_n hX dX3_hasRoomFor_11 0 rfl ?_
    refine g_X3_34 hX hk_j0 dX3_hasRoomFor_12 ?_
    refine z_iload_n hX dX3_hasRoomFor_15 1 rfl ?_
    refine z_iadd hX dX3_hasRoomFor_16 ?_
    refine z_bipush (x := 99) hX dX3_hasRoomFor_17 (by decide) ?_
    rcases ite_or h with ⟨c22, h⟩ | ⟨c22, h⟩
    · refine z_icmp_gt_t hX 26 (by decide) dX3_hasRoomFor_19 c22 ?_
      refine z_iconst (x := 0) hX dX3_hasRoomFor_26 (by decide) ?_
      obtain rfl := ret1 h
      exact z_zret hR rfl dX3_hasRoomFor_27
    · refine z_icmp_gt_f hX 26 (by decide) dX3_hasRoomFor_19 c22 ?_
      refine z_iconst (x := 1) hX dX3_hasRoomFor_22 (by decide) ?_
      refine z_goto hX 27 (by decide) dX3_hasRoomFor_23 ?_
      obtain rfl := ret1 h
      exact z_zret hR rfl dX3_hasRoomFor_27
set_option maxRecDepth 20000 in
set_option maxHeartbeats 4000000 in
theorem c_X3_append (w : WP) {N : Nat} {j0 : Nat} {a1 : Int32} {a2 : Int32} {σ σ' : HP} (hk_j0 : kd j0 = 3) (h : F_X3_append N j0 a1 a2 σ = some σ') : Ct w yX3_append cX3_append 3 none 0 0 [rf w j0, .int a1, .int a2] σ none σ' := by
  refine z_met w (by decide +kernel) (Nat.le_of_ble_eq_true rfl) (fun X hw hX => ?_)
  subst hw
  have hR : OkX X RX3 cX3_append 3 0 0 none none σ' := hX
  have hX := hR.1
  show Z X σ 0 [(0, rf X.1 j0), (1, .int a1), (2, .int a2)] []
  unfold F_X3_append at h
  refine z_aload_n hX dX3_append_0 0 rfl ?_
  refine g_X3_30 hX hk_j0 dX3_append_1 ?_
  refine z_bipush (x := 12) hX dX3_append_4 (by decide) ?_
  rcases ite_or h with ⟨c21, h⟩ | ⟨c21, h⟩
  · refine z_icmp_lt_t hX 10 (by decide) dX3_append_6 c21 ?_
    refine z_aload_n hX dX3_append_10 0 rfl ?_
    refine g_X3_9 hX hk_j0 dX3_append_11 ?_
    refine z_aload_n hX dX3_append_14 0 rfl ?_
    refine g_X3_30 hX hk_j0 dX3_append_15 ?_
    refine z_aload_n hX dX3_append_18 0 rfl ?_
    refine g_X3_34 hX hk_j0 dX3_append_19 ?_
    obtain ⟨g22, h⟩ := gd_some h
    obtain ⟨σ23, eσ23, h⟩ := bd_some h
    refine z_iast hX (kl_3_0 hk_j0).1 (kl_3_0 hk_j0).2 g22 dX3_append_22 ?_
    refine z_ms eσ23 ?_
    refine z_aload_n hX dX3_append_23 0 rfl ?_
    refine g_X3_15 hX hk_j0 dX3_append_24 ?_
    refine z_aload_n hX dX3_append_27 0 rfl ?_
    refine g_X3_30 hX hk_j0 dX3_append_28 ?_
    refine z_iload_n hX dX3_append_31 1 rfl ?_
    obtain ⟨g24, h⟩ := gd_some h
    obtain ⟨σ25, eσ25, h⟩ := bd_some h
    refine z_iast hX (kl_3_1 hk_j0).1 (kl_3_1 hk_j0).2 g24 dX3_append_32 ?_
    refine z_ms eσ25 ?_
    refine z_aload_n hX dX3_append_33 0 rfl ?_
    refine g_X3_18 hX hk_j0 dX3_append_34 ?_
    refine z_aload_n hX dX3_append_37 0 rfl ?_
    refine g_X3_30 hX hk_j0 dX3_append_38 ?_
    refine z_iload_n hX dX3_append_41 2 rfl ?_
    obtain ⟨g26, h⟩ := gd_some h
    obtain ⟨σ27, eσ27, h⟩ := bd_some h
    refine z_iast hX (kl_3_2 hk_j0).1 (kl_3_2 hk_j0).2 g26 dX3_append_42 ?_
    refine z_ms eσ27 ?_
    refine z_aload_n hX dX3_append_43 0 rfl ?_
    refine g_X3_21 hX hk_j0 dX3_append_44 ?_
    refine z_aload_n hX dX3_append_47 0 rfl ?_
    refine g_X3_30 hX hk_j0 dX3_append_48 ?_
    refine z_iconst (x := 0) hX dX3_append_51 (by decide) ?_
    obtain ⟨g28, h⟩ := gd_some h
    obtain ⟨σ29, eσ29, h⟩ := bd_some h
    refine z_iast hX (kl_3_3 hk_j0).1 (kl_3_3 hk_j0).2 g28 dX3_append_52 ?_
    refine z_ms eσ29 ?_
    refine z_aload_n hX dX3_append_53 0 rfl ?_
    refine g_X3_24 hX hk_j0 dX3_append_54 ?_
    refine z_aload_n hX dX3_append_57 0 rfl ?_
    refine g_X3_30 hX hk_j0 dX3_append_58 ?_
    refine z_iconst (x := 0) hX dX3_append_61 (by decide) ?_
    obtain ⟨g30, h⟩ := gd_some h
    obtain ⟨σ31, eσ31, h⟩ := bd_some h
    refine z_iast hX (kl_3_4 hk_j0).1 (kl_3_4 hk_j0).2 g30 dX3_append_62 ?_
    refine z_ms eσ31 ?_
    refine z_aload_n hX dX3_append_63 0 rfl ?_
    refine g_X3_27 hX hk_j0 dX3_append_64 ?_
    refine z_aload_n hX dX3_append_67 0 rfl ?_
    refine g_X3_30 hX hk_j0 dX3_append_68 ?_
    refine z_iconst (x := 0) hX dX3_append_71 (by decide) ?_
    obtain ⟨g32, h⟩ := gd_some h
    obtain ⟨σ33, eσ33, h⟩ := bd_some h
    refine z_iast hX (kl_3_5 hk_j0).1 (kl_3_5 hk_j0).2 g32 dX3_append_72 ?_
    refine z_ms eσ33 ?_
    refine z_aload_n hX dX3_append_73 0 rfl ?_
    refine z_dup hX rfl dX3_append_74 ?_
    refine g_X3_30 hX hk_j0 dX3_append_75 ?_
    refine z_iconst (x := 1) hX dX3_append_78 (by decide) ?_
    refine z_iadd hX dX3_append_79 ?_
    obtain ⟨σ34, eσ34, h⟩ := bd_some h
    refine p_X3_30 hX hk_j0 dX3_append_80 ?_
    refine z_ms eσ34 ?_
    refine z_aload_n hX dX3_append_83 0 rfl ?_
    refine z_dup hX rfl dX3_append_84 ?_
    refine g_X3_34 hX hk_j0 dX3_append_85 ?_
    refine z_iconst (x := 1) hX dX3_append_88 (by decide) ?_
    refine z_iadd hX dX3_append_89 ?_
    obtain ⟨σ35, eσ35, h⟩ := bd_some h
    refine p_X3_34 hX hk_j0 dX3_append_90 ?_
    refine z_ms eσ35 ?_
    obtain rfl := ret1 h
    exact z_vret hR dX3_append_93
  · refine z_icmp_lt_f hX 10 (by decide) dX3_append_6 c21 ?_
    obtain rfl := ret1 h
    exact z_vret hR dX3_append_9
