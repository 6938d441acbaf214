/-! ===== the law: its links, its script, its 25 cases ===== -/
theorem ml_L_13 : Cond.methodLink RL 13 yX7_come ∈ wsA := memT 259 (by decide +kernel) (by decide +kernel)
theorem ml_L_17 : Cond.methodLink RL 17 yX8_come ∈ wsA := memT 658 (by decide +kernel) (by decide +kernel)
theorem ml_L_18 : Cond.methodLink RL 18 yX7_readRow ∈ wsA := memT 313 (by decide +kernel) (by decide +kernel)
theorem ml_L_22 : Cond.methodLink RL 22 yX8_readRow ∈ wsA := memT 685 (by decide +kernel) (by decide +kernel)
theorem ml_L_23 : Cond.methodLink RL 23 yX7_go ∈ wsA := memT 325 (by decide +kernel) (by decide +kernel)
theorem ml_L_27 : Cond.methodLink RL 27 yX8_go ∈ wsA := memT 695 (by decide +kernel) (by decide +kernel)
theorem ml_L_28 : Cond.methodLink RL 28 yX7_pay ∈ wsA := memT 350 (by decide +kernel) (by decide +kernel)
theorem ml_L_32 : Cond.methodLink RL 32 yX8_pay ∈ wsA := memT 711 (by decide +kernel) (by decide +kernel)
theorem ml_L_33 : Cond.methodLink RL 33 yX7_trade ∈ wsA := memT 355 (by decide +kernel) (by decide +kernel)
theorem ml_L_36 : Cond.methodLink RL 36 yX8_trade ∈ wsA := memT 715 (by decide +kernel) (by decide +kernel)
theorem ml_L_37 : Cond.methodLink RL 37 yX7_pass ∈ wsA := memT 440 (by decide +kernel) (by decide +kernel)
theorem ml_L_40 : Cond.methodLink RL 40 yX8_pass ∈ wsA := memT 755 (by decide +kernel) (by decide +kernel)
theorem ml_L_41 : Cond.methodLink RL 41 yX7_wind ∈ wsA := memT 445 (by decide +kernel) (by decide +kernel)
theorem ml_L_44 : Cond.methodLink RL 44 yX8_wind ∈ wsA := memT 759 (by decide +kernel) (by decide +kernel)
theorem ml_L_45 : Cond.methodLink RL 45 yX7_planTurn ∈ wsA := memT 453 (by decide +kernel) (by decide +kernel)
theorem ml_L_49 : Cond.methodLink RL 49 yX8_planTurn ∈ wsA := memT 766 (by decide +kernel) (by decide +kernel)
theorem ml_L_50 : Cond.methodLink RL 50 yX7_dropTurn ∈ wsA := memT 462 (by decide +kernel) (by decide +kernel)
theorem ml_L_53 : Cond.methodLink RL 53 yX8_dropTurn ∈ wsA := memT 774 (by decide +kernel) (by decide +kernel)
theorem ml_L_54 : Cond.methodLink RL 54 yX7_crowd ∈ wsA := memT 467 (by decide +kernel) (by decide +kernel)
theorem ml_L_58 : Cond.methodLink RL 58 yX8_crowd ∈ wsA := memT 778 (by decide +kernel) (by decide +kernel)
theorem ml_L_59 : Cond.methodLink RL 59 yX7_setTangle ∈ wsA := memT 489 (by decide +kernel) (by decide +kernel)
theorem ml_L_62 : Cond.methodLink RL 62 yX8_setTangle ∈ wsA := memT 788 (by decide +kernel) (by decide +kernel)
theorem ml_L_63 : Cond.methodLink RL 63 yX7_want ∈ wsA := memT 493 (by decide +kernel) (by decide +kernel)
theorem ml_L_66 : Cond.methodLink RL 66 yX8_want ∈ wsA := memT 792 (by decide +kernel) (by decide +kernel)
theorem ml_L_67 : Cond.methodLink RL 67 yX7_type ∈ wsA := memT 510 (by decide +kernel) (by decide +kernel)
theorem ml_L_71 : Cond.methodLink RL 71 yX8_type ∈ wsA := memT 804 (by decide +kernel) (by decide +kernel)
theorem ml_L_72 : Cond.methodLink RL 72 yX7_clearText ∈ wsA := memT 514 (by decide +kernel) (by decide +kernel)
theorem ml_L_75 : Cond.methodLink RL 75 yX8_clearText ∈ wsA := memT 808 (by decide +kernel) (by decide +kernel)
theorem ml_L_76 : Cond.methodLink RL 76 yX7_undo ∈ wsA := memT 518 (by decide +kernel) (by decide +kernel)
theorem ml_L_79 : Cond.methodLink RL 79 yX8_undo ∈ wsA := memT 812 (by decide +kernel) (by decide +kernel)
theorem ml_L_80 : Cond.methodLink RL 80 yX7_keep ∈ wsA := memT 522 (by decide +kernel) (by decide +kernel)
theorem ml_L_83 : Cond.methodLink RL 83 yX8_keep ∈ wsA := memT 816 (by decide +kernel) (by decide +kernel)
theorem ml_L_84 : Cond.methodLink RL 84 yX7_restore ∈ wsA := memT 526 (by decide +kernel) (by decide +kernel)
theorem ml_L_87 : Cond.methodLink RL 87 yX8_restore ∈ wsA := memT 820 (by decide +kernel) (by decide +kernel)
theorem ml_L_88 : Cond.methodLink RL 88 yX7_flier ∈ wsA := memT 530 (by decide +kernel) (by decide +kernel)
theorem ml_L_91 : Cond.methodLink RL 91 yX8_flier ∈ wsA := memT 824 (by decide +kernel) (by decide +kernel)
theorem ml_L_92 : Cond.methodLink RL 92 yX7_reads ∈ wsA := memT 537 (by decide +kernel) (by decide +kernel)
theorem ml_L_95 : Cond.methodLink RL 95 yX8_reads ∈ wsA := memT 832 (by decide +kernel) (by decide +kernel)
theorem ml_L_96 : Cond.methodLink RL 96 yX7_ifTraded ∈ wsA := memT 541 (by decide +kernel) (by decide +kernel)
theorem ml_L_99 : Cond.methodLink RL 99 yX8_ifTraded ∈ wsA := memT 839 (by decide +kernel) (by decide +kernel)
theorem ml_L_100 : Cond.methodLink RL 100 yX7_nextTrade ∈ wsA := memT 577 (by decide +kernel) (by decide +kernel)
theorem ml_L_103 : Cond.methodLink RL 103 yX8_nextTrade ∈ wsA := memT 861 (by decide +kernel) (by decide +kernel)
theorem ml_L_104 : Cond.methodLink RL 104 yX7_spelledIn ∈ wsA := memT 585 (by decide +kernel) (by decide +kernel)
theorem ml_L_107 : Cond.methodLink RL 107 yX8_spelledIn ∈ wsA := memT 869 (by decide +kernel) (by decide +kernel)
theorem ml_L_108 : Cond.methodLink RL 108 yX7_turnOf ∈ wsA := memT 598 (by decide +kernel) (by decide +kernel)
theorem ml_L_111 : Cond.methodLink RL 111 yX8_turnOf ∈ wsA := memT 876 (by decide +kernel) (by decide +kernel)
theorem ml_L_112 : Cond.methodLink RL 112 yX7_tangle ∈ wsA := memT 602 (by decide +kernel) (by decide +kernel)
theorem ml_L_115 : Cond.methodLink RL 115 yX8_tangle ∈ wsA := memT 880 (by decide +kernel) (by decide +kernel)
theorem ml_L_116 : Cond.methodLink RL 116 yX7_count ∈ wsA := memT 606 (by decide +kernel) (by decide +kernel)
theorem ml_L_119 : Cond.methodLink RL 119 yX8_count ∈ wsA := memT 884 (by decide +kernel) (by decide +kernel)
section LAW
variable {X : CX} {σ : HP} {pc : Nat} {lv : List (Nat × Value)} {st : List Value} {own : String} {cc : ByteArray} {nl fr lo b L : Nat} {xs : Nat → Int32}
/-- the script lies where it lay -/
def Scr (X : CX) (b L : Nat) (xs : Nat → Int32) : Prop := match X with
  | (w, p, e, R, s, m, args, below, meth, c, nL, cs, sl, Q) => va_X b L xs s s.heap ∧ b < s.heap.size ∧ ¬ wA w b
theorem z_sld (hX : OkC X own cc nl fr lo) (hS : Scr X b L xs) {i : Int32} (hi : vp_in i L) (hdg : decode cc pc = .ok (.iaload, 1)) (k : Z X σ (pc + 1) lv (.int (xs (ix i)) :: st)) : Z X σ pc lv (.int i :: .ref b :: st) := by
  obtain ⟨w, p, e, R, s, m, args, below, meth, c, nL, cs, sl, Q⟩ := X
  obtain ⟨hx, hb, hml, hnl, hown, hts, hK, hN, hZD, hR1, hR2, hR3, hR4⟩ := hX
  obtain ⟨h1, h2, h3⟩ := hS
  intro ls H locs h hP hS
  exact va_sld hx hb h1 h2 h3 hS hi hdg (k ls H locs h hP hS)
theorem z_slen (hX : OkC X own cc nl fr lo) (hS : Scr X b L xs) (hdg : decode cc pc = .ok (.arraylength, 1)) (k : Z X σ (pc + 1) lv (.int (Int32.ofNat L) :: st)) : Z X σ pc lv (.ref b :: st) := by
  obtain ⟨w, p, e, R, s, m, args, below, meth, c, nL, cs, sl, Q⟩ := X
  obtain ⟨hx, hb, hml, hnl, hown, hts, hK, hN, hZD, hR1, hR2, hR3, hR4⟩ := hX
  obtain ⟨h1, h2, h3⟩ := hS
  intro ls H locs h hP hS
  exact va_slen hx hb h1 h2 h3 hS hdg (k ls H locs h hP hS)
abbrev lvL (X : CX) (b i : Nat) : List (Nat × Value) := [(0, .ref b), (1, rf X.1 133), (2, rf X.1 140), (3, .int (nI i))]
theorem in_L {i L : Nat} {n : Nat} (hL : L ≤ 2048) (hi : i + 4 ≤ L) (hn : n < 4) : vp_in (nI i + nI n) L := by
  rw [nI_add]
  exact vp_in_nI (by omega) (by omega)
theorem kd133 : kd 133 = 7 := by decide +kernel
theorem kd140 : kd 140 = 8 := by decide +kernel
theorem law_come (hX : OkC X RL cL_law 4 10 366) (hS : Scr X b L xs) (hL : L ≤ 2048) {i : Nat} (hi : i + 4 ≤ L) (hI : Inv2 σ σ) (k : ∀ σ2, Inv2 σ2 σ2 → Z X σ2 753 (lvL X b i) []) : Z X σ 148 (lvL X b i) [] := by
  obtain ⟨r, σ1, σ2, k1, k2, hI2⟩ := both (F := fun σ => F_X7_come 1000 133 (((xs (ix (nI i + nI 1))).toUInt32 % 65536).toInt32) (xs (ix (nI i + nI 2))) σ) (G := fun s => F_X8_come 1000 140 (((xs (ix (nI i + nI 1))).toUInt32 % 65536).toInt32) (xs (ix (nI i + nI 2))) s) hI (fun s h => op_come (N := 1000) (by decide) h _ _)
  refine z_aload_n hX dL_law_148 1 rfl ?_
  refine z_aload_n hX dL_law_149 0 rfl ?_
  refine z_iload_n hX dL_law_150 3 rfl ?_
  refine z_iconst (x := nI 1) hX dL_law_151 (by decide) ?_
  refine z_iadd hX dL_law_152 ?_
  refine z_sld hX hS (in_L hL hi (by decide)) dL_law_153 ?_
  refine z_i2c hX dL_law_154 ?_
  refine z_aload_n hX dL_law_155 0 rfl ?_
  refine z_iload_n hX dL_law_156 3 rfl ?_
  refine z_iconst (x := nI 2) hX dL_law_157 (by decide) ?_
  refine z_iadd hX dL_law_158 ?_
  refine z_sld hX hS (in_L hL hi (by decide)) dL_law_159 ?_
  refine z_callV (j := 133) (st0 := _) (st := _) hX M_X7_come ml_L_13 (by decide) (cell_7 X.1 kd133) rfl (c_X7_come X.1 kd133 k1) rfl (Nat.le_of_ble_eq_true rfl) (Nat.le_of_ble_eq_true rfl) rfl (Nat.le_of_ble_eq_true rfl) dL_law_160 ?_
  refine z_aload_n hX dL_law_163 2 rfl ?_
  refine z_aload_n hX dL_law_164 0 rfl ?_
  refine z_iload_n hX dL_law_165 3 rfl ?_
  refine z_iconst (x := nI 1) hX dL_law_166 (by decide) ?_
  refine z_iadd hX dL_law_167 ?_
  refine z_sld hX hS (in_L hL hi (by decide)) dL_law_168 ?_
  refine z_i2c hX dL_law_169 ?_
  refine z_aload_n hX dL_law_170 0 rfl ?_
  refine z_iload_n hX dL_law_171 3 rfl ?_
  refine z_iconst (x := nI 2) hX dL_law_172 (by decide) ?_
  refine z_iadd hX dL_law_173 ?_
  refine z_sld hX hS (in_L hL hi (by decide)) dL_law_174 ?_
  refine z_callV (j := 140) (st0 := _) (st := _) hX M_X8_come ml_L_17 (by decide) (cell_8 X.1 kd140) rfl (c_X8_come X.1 kd140 k2) rfl (Nat.le_of_ble_eq_true rfl) (Nat.le_of_ble_eq_true rfl) rfl (Nat.le_of_ble_eq_true rfl) dL_law_175 ?_
  exact z_icmp_eq_t hX 753 (by decide) dL_law_178 rfl (k _ hI2)
theorem law_readRow (hX : OkC X RL cL_law 4 10 366) (hS : Scr X b L xs) (hL : L ≤ 2048) {i : Nat} (hi : i + 4 ≤ L) (hI : Inv2 σ σ) (k : ∀ σ2, Inv2 σ2 σ2 → Z X σ2 753 (lvL X b i) []) : Z X σ 183 (lvL X b i) [] := by
  obtain ⟨r, σ1, σ2, k1, k2, hI2⟩ := both (F := fun σ => F_X7_readRow 1000 133  σ) (G := fun s => F_X8_readRow 1000 140  s) hI (fun s h => op_readRow (N := 1000) (by decide) h)
  refine z_aload_n hX dL_law_183 1 rfl ?_
  refine z_callV (j := 133) (st0 := _) (st := _) hX M_X7_readRow ml_L_18 (by decide) (cell_7 X.1 kd133) rfl (c_X7_readRow X.1 kd133 k1) rfl (Nat.le_of_ble_eq_true rfl) (Nat.le_of_ble_eq_true rfl) rfl (Nat.le_of_ble_eq_true rfl) dL_law_184 ?_
  refine z_aload_n hX dL_law_187 2 rfl ?_
  refine z_callV (j := 140) (st0 := _) (st := _) hX M_X8_readRow ml_L_22 (by decide) (cell_8 X.1 kd140) rfl (c_X8_readRow X.1 kd140 k2) rfl (Nat.le_of_ble_eq_true rfl) (Nat.le_of_ble_eq_true rfl) rfl (Nat.le_of_ble_eq_true rfl) dL_law_188 ?_
  exact z_icmp_eq_t hX 753 (by decide) dL_law_191 rfl (k _ hI2)
theorem law_go (hX : OkC X RL cL_law 4 10 366) (hS : Scr X b L xs) (hL : L ≤ 2048) {i : Nat} (hi : i + 4 ≤ L) (hI : Inv2 σ σ) (k : ∀ σ2, Inv2 σ2 σ2 → Z X σ2 753 (lvL X b i) []) : Z X σ 196 (lvL X b i) [] := by
  obtain ⟨r, σ1, σ2, k1, k2, hI2⟩ := both (F := fun σ => F_X7_go 1000 133 (xs (ix (nI i + nI 1))) σ) (G := fun s => F_X8_go 1000 140 (xs (ix (nI i + nI 1))) s) hI (fun s h => op_go (N := 1000) (by decide) h _)
  refine z_aload_n hX dL_law_196 1 rfl ?_
  refine z_aload_n hX dL_law_197 0 rfl ?_
  refine z_iload_n hX dL_law_198 3 rfl ?_
  refine z_iconst (x := nI 1) hX dL_law_199 (by decide) ?_
  refine z_iadd hX dL_law_200 ?_
  refine z_sld hX hS (in_L hL hi (by decide)) dL_law_201 ?_
  refine z_callV (j := 133) (st0 := _) (st := _) hX M_X7_go ml_L_23 (by decide) (cell_7 X.1 kd133) rfl (c_X7_go X.1 kd133 k1) rfl (Nat.le_of_ble_eq_true rfl) (Nat.le_of_ble_eq_true rfl) rfl (Nat.le_of_ble_eq_true rfl) dL_law_202 ?_
  refine z_aload_n hX dL_law_205 2 rfl ?_
  refine z_aload_n hX dL_law_206 0 rfl ?_
  refine z_iload_n hX dL_law_207 3 rfl ?_
  refine z_iconst (x := nI 1) hX dL_law_208 (by decide) ?_
  refine z_iadd hX dL_law_209 ?_
  refine z_sld hX hS (in_L hL hi (by decide)) dL_law_210 ?_
  refine z_callV (j := 140) (st0 := _) (st := _) hX M_X8_go ml_L_27 (by decide) (cell_8 X.1 kd140) rfl (c_X8_go X.1 kd140 k2) rfl (Nat.le_of_ble_eq_true rfl) (Nat.le_of_ble_eq_true rfl) rfl (Nat.le_of_ble_eq_true rfl) dL_law_211 ?_
  exact z_icmp_eq_t hX 753 (by decide) dL_law_214 rfl (k _ hI2)
theorem law_pay (hX : OkC X RL cL_law 4 10 366) (hS : Scr X b L xs) (hL : L ≤ 2048) {i : Nat} (hi : i + 4 ≤ L) (hI : Inv2 σ σ) (k : ∀ σ2, Inv2 σ2 σ2 → Z X σ2 753 (lvL X b i) []) : Z X σ 219 (lvL X b i) [] := by
  obtain ⟨r, σ1, σ2, k1, k2, hI2⟩ := both (F := fun σ => F_X7_pay 1000 133 (xs (ix (nI i + nI 1))) (xs (ix (nI i + nI 2))) σ) (G := fun s => F_X8_pay 1000 140 (xs (ix (nI i + nI 1))) (xs (ix (nI i + nI 2))) s) hI (fun s h => op_pay (N := 1000) (by decide) h _ _)
  refine z_aload_n hX dL_law_219 1 rfl ?_
  refine z_aload_n hX dL_law_220 0 rfl ?_
  refine z_iload_n hX dL_law_221 3 rfl ?_
  refine z_iconst (x := nI 1) hX dL_law_222 (by decide) ?_
  refine z_iadd hX dL_law_223 ?_
  refine z_sld hX hS (in_L hL hi (by decide)) dL_law_224 ?_
  refine z_aload_n hX dL_law_225 0 rfl ?_
  refine z_iload_n hX dL_law_226 3 rfl ?_
  refine z_iconst (x := nI 2) hX dL_law_227 (by decide) ?_
  refine z_iadd hX dL_law_228 ?_
  refine z_sld hX hS (in_L hL hi (by decide)) dL_law_229 ?_
  refine z_callV (j := 133) (st0 := _) (st := _) hX M_X7_pay ml_L_28 (by decide) (cell_7 X.1 kd133) rfl (c_X7_pay X.1 kd133 k1) rfl (Nat.le_of_ble_eq_true rfl) (Nat.le_of_ble_eq_true rfl) rfl (Nat.le_of_ble_eq_true rfl) dL_law_230 ?_
  refine z_aload_n hX dL_law_233 2 rfl ?_
  refine z_aload_n hX dL_law_234 0 rfl ?_
  refine z_iload_n hX dL_law_235 3 rfl ?_
  refine z_iconst (x := nI 1) hX dL_law_236 (by decide) ?_
  refine z_iadd hX dL_law_237 ?_
  refine z_sld hX hS (in_L hL hi (by decide)) dL_law_238 ?_
  refine z_aload_n hX dL_law_239 0 rfl ?_
  refine z_iload_n hX dL_law_240 3 rfl ?_
  refine z_iconst (x := nI 2) hX dL_law_241 (by decide) ?_
  refine z_iadd hX dL_law_242 ?_
  refine z_sld hX hS (in_L hL hi (by decide)) dL_law_243 ?_
  refine z_callV (j := 140) (st0 := _) (st := _) hX M_X8_pay ml_L_32 (by decide) (cell_8 X.1 kd140) rfl (c_X8_pay X.1 kd140 k2) rfl (Nat.le_of_ble_eq_true rfl) (Nat.le_of_ble_eq_true rfl) rfl (Nat.le_of_ble_eq_true rfl) dL_law_244 ?_
  exact z_icmp_eq_t hX 753 (by decide) dL_law_247 rfl (k _ hI2)
theorem law_trade (hX : OkC X RL cL_law 4 10 366) (hS : Scr X b L xs) (hL : L ≤ 2048) {i : Nat} (hi : i + 4 ≤ L) (hI : Inv2 σ σ) (k : ∀ σ2, Inv2 σ2 σ2 → Z X σ2 753 (lvL X b i) []) : Z X σ 252 (lvL X b i) [] := by
  obtain ⟨r, σ1, σ2, k1, k2, hI2⟩ := both (F := fun σ => F_X7_trade 1000 133 (xs (ix (nI i + nI 1))) σ) (G := fun s => F_X8_trade 1000 140 (xs (ix (nI i + nI 1))) s) hI (fun s h => op_trade (N := 1000) (by decide) h _)
  refine z_aload_n hX dL_law_252 1 rfl ?_
  refine z_aload_n hX dL_law_253 0 rfl ?_
  refine z_iload_n hX dL_law_254 3 rfl ?_
  refine z_iconst (x := nI 1) hX dL_law_255 (by decide) ?_
  refine z_iadd hX dL_law_256 ?_
  refine z_sld hX hS (in_L hL hi (by decide)) dL_law_257 ?_
  refine z_callV (j := 133) (st0 := _) (st := _) hX M_X7_trade ml_L_33 (by decide) (cell_7 X.1 kd133) rfl (c_X7_trade X.1 kd133 k1) rfl (Nat.le_of_ble_eq_true rfl) (Nat.le_of_ble_eq_true rfl) rfl (Nat.le_of_ble_eq_true rfl) dL_law_258 ?_
  refine z_aload_n hX dL_law_261 2 rfl ?_
  refine z_aload_n hX dL_law_262 0 rfl ?_
  refine z_iload_n hX dL_law_263 3 rfl ?_
  refine z_iconst (x := nI 1) hX dL_law_264 (by decide) ?_
  refine z_iadd hX dL_law_265 ?_
  refine z_sld hX hS (in_L hL hi (by decide)) dL_law_266 ?_
  refine z_callV (j := 140) (st0 := _) (st := _) hX M_X8_trade ml_L_36 (by decide) (cell_8 X.1 kd140) rfl (c_X8_trade X.1 kd140 k2) rfl (Nat.le_of_ble_eq_true rfl) (Nat.le_of_ble_eq_true rfl) rfl (Nat.le_of_ble_eq_true rfl) dL_law_267 ?_
  exact z_icmp_eq_t hX 753 (by decide) dL_law_270 rfl (k _ hI2)
theorem law_pass (hX : OkC X RL cL_law 4 10 366) (hS : Scr X b L xs) (hL : L ≤ 2048) {i : Nat} (hi : i + 4 ≤ L) (hI : Inv2 σ σ) (k : ∀ σ2, Inv2 σ2 σ2 → Z X σ2 753 (lvL X b i) []) : Z X σ 275 (lvL X b i) [] := by
  obtain ⟨r, σ1, σ2, k1, k2, hI2⟩ := both (F := fun σ => F_X7_pass 1000 133 (xs (ix (nI i + nI 1))) σ) (G := fun s => F_X8_pass 1000 140 (xs (ix (nI i + nI 1))) s) hI (fun s h => op_pass (N := 1000) (by decide) h _)
  refine z_aload_n hX dL_law_275 1 rfl ?_
  refine z_aload_n hX dL_law_276 0 rfl ?_
  refine z_iload_n hX dL_law_277 3 rfl ?_
  refine z_iconst (x := nI 1) hX dL_law_278 (by decide) ?_
  refine z_iadd hX dL_law_279 ?_
  refine z_sld hX hS (in_L hL hi (by decide)) dL_law_280 ?_
  refine z_callV (j := 133) (st0 := _) (st := _) hX M_X7_pass ml_L_37 (by decide) (cell_7 X.1 kd133) rfl (c_X7_pass X.1 kd133 k1) rfl (Nat.le_of_ble_eq_true rfl) (Nat.le_of_ble_eq_true rfl) rfl (Nat.le_of_ble_eq_true rfl) dL_law_281 ?_
  refine z_aload_n hX dL_law_284 2 rfl ?_
  refine z_aload_n hX dL_law_285 0 rfl ?_
  refine z_iload_n hX dL_law_286 3 rfl ?_
  refine z_iconst (x := nI 1) hX dL_law_287 (by decide) ?_
  refine z_iadd hX dL_law_288 ?_
  refine z_sld hX hS (in_L hL hi (by decide)) dL_law_289 ?_
  refine z_callV (j := 140) (st0 := _) (st := _) hX M_X8_pass ml_L_40 (by decide) (cell_8 X.1 kd140) rfl (c_X8_pass X.1 kd140 k2) rfl (Nat.le_of_ble_eq_true rfl) (Nat.le_of_ble_eq_true rfl) rfl (Nat.le_of_ble_eq_true rfl) dL_law_290 ?_
  exact z_icmp_eq_t hX 753 (by decide) dL_law_293 rfl (k _ hI2)
theorem law_wind (hX : OkC X RL cL_law 4 10 366) (hS : Scr X b L xs) (hL : L ≤ 2048) {i : Nat} (hi : i + 4 ≤ L) (hI : Inv2 σ σ) (k : ∀ σ2, Inv2 σ2 σ2 → Z X σ2 753 (lvL X b i) []) : Z X σ 298 (lvL X b i) [] := by
  obtain ⟨r, σ1, σ2, k1, k2, hI2⟩ := both (F := fun σ => F_X7_wind 1000 133 (xs (ix (nI i + nI 1))) (xs (ix (nI i + nI 2))) σ) (G := fun s => F_X8_wind 1000 140 (xs (ix (nI i + nI 1))) (xs (ix (nI i + nI 2))) s) hI (fun s h => op_wind (N := 1000) (by decide) h _ _)
  refine z_aload_n hX dL_law_298 1 rfl ?_
  refine z_aload_n hX dL_law_299 0 rfl ?_
  refine z_iload_n hX dL_law_300 3 rfl ?_
  refine z_iconst (x := nI 1) hX dL_law_301 (by decide) ?_
  refine z_iadd hX dL_law_302 ?_
  refine z_sld hX hS (in_L hL hi (by decide)) dL_law_303 ?_
  refine z_aload_n hX dL_law_304 0 rfl ?_
  refine z_iload_n hX dL_law_305 3 rfl ?_
  refine z_iconst (x := nI 2) hX dL_law_306 (by decide) ?_
  refine z_iadd hX dL_law_307 ?_
  refine z_sld hX hS (in_L hL hi (by decide)) dL_law_308 ?_
  refine z_callV (j := 133) (st0 := _) (st := _) hX M_X7_wind ml_L_41 (by decide) (cell_7 X.1 kd133) rfl (c_X7_wind X.1 kd133 k1) rfl (Nat.le_of_ble_eq_true rfl) (Nat.le_of_ble_eq_true rfl) rfl (Nat.le_of_ble_eq_true rfl) dL_law_309 ?_
  refine z_aload_n hX dL_law_312 2 rfl ?_
  refine z_aload_n hX dL_law_313 0 rfl ?_
  refine z_iload_n hX dL_law_314 3 rfl ?_
  refine z_iconst (x := nI 1) hX dL_law_315 (by decide) ?_
  refine z_iadd hX dL_law_316 ?_
  refine z_sld hX hS (in_L hL hi (by decide)) dL_law_317 ?_
  refine z_aload_n hX dL_law_318 0 rfl ?_
  refine z_iload_n hX dL_law_319 3 rfl ?_
  refine z_iconst (x := nI 2) hX dL_law_320 (by decide) ?_
  refine z_iadd hX dL_law_321 ?_
  refine z_sld hX hS (in_L hL hi (by decide)) dL_law_322 ?_
  refine z_callV (j := 140) (st0 := _) (st := _) hX M_X8_wind ml_L_44 (by decide) (cell_8 X.1 kd140) rfl (c_X8_wind X.1 kd140 k2) rfl (Nat.le_of_ble_eq_true rfl) (Nat.le_of_ble_eq_true rfl) rfl (Nat.le_of_ble_eq_true rfl) dL_law_323 ?_
  exact z_icmp_eq_t hX 753 (by decide) dL_law_326 rfl (k _ hI2)
theorem law_planTurn (hX : OkC X RL cL_law 4 10 366) (hS : Scr X b L xs) (hL : L ≤ 2048) {i : Nat} (hi : i + 4 ≤ L) (hI : Inv2 σ σ) (k : ∀ σ2, Inv2 σ2 σ2 → Z X σ2 753 (lvL X b i) []) : Z X σ 331 (lvL X b i) [] := by
  obtain ⟨r, σ1, σ2, k1, k2, hI2⟩ := both (F := fun σ => F_X7_planTurn 1000 133 (xs (ix (nI i + nI 1))) (xs (ix (nI i + nI 2))) (xs (ix (nI i + nI 3))) σ) (G := fun s => F_X8_planTurn 1000 140 (xs (ix (nI i + nI 1))) (xs (ix (nI i + nI 2))) (xs (ix (nI i + nI 3))) s) hI (fun s h => op_planTurn (N := 1000) (by decide) h _ _ _)
  refine z_aload_n hX dL_law_331 1 rfl ?_
  refine z_aload_n hX dL_law_332 0 rfl ?_
  refine z_iload_n hX dL_law_333 3 rfl ?_
  refine z_iconst (x := nI 1) hX dL_law_334 (by decide) ?_
  refine z_iadd hX dL_law_335 ?_
  refine z_sld hX hS (in_L hL hi (by decide)) dL_law_336 ?_
  refine z_aload_n hX dL_law_337 0 rfl ?_
  refine z_iload_n hX dL_law_338 3 rfl ?_
  refine z_iconst (x := nI 2) hX dL_law_339 (by decide) ?_
  refine z_iadd hX dL_law_340 ?_
  refine z_sld hX hS (in_L hL hi (by decide)) dL_law_341 ?_
  refine z_aload_n hX dL_law_342 0 rfl ?_
  refine z_iload_n hX dL_law_343 3 rfl ?_
  refine z_iconst (x := nI 3) hX dL_law_344 (by decide) ?_
  refine z_iadd hX dL_law_345 ?_
  refine z_sld hX hS (in_L hL hi (by decide)) dL_law_346 ?_
  refine z_callV (j := 133) (st0 := _) (st := _) hX M_X7_planTurn ml_L_45 (by decide) (cell_7 X.1 kd133) rfl (c_X7_planTurn X.1 kd133 k1) rfl (Nat.le_of_ble_eq_true rfl) (Nat.le_of_ble_eq_true rfl) rfl (Nat.le_of_ble_eq_true rfl) dL_law_347 ?_
  refine z_aload_n hX dL_law_350 2 rfl ?_
  refine z_aload_n hX dL_law_351 0 rfl ?_
  refine z_iload_n hX dL_law_352 3 rfl ?_
  refine z_iconst (x := nI 1) hX dL_law_353 (by decide) ?_
  refine z_iadd hX dL_law_354 ?_
  refine z_sld hX hS (in_L hL hi (by decide)) dL_law_355 ?_
  refine z_aload_n hX dL_law_356 0 rfl ?_
  refine z_iload_n hX dL_law_357 3 rfl ?_
  refine z_iconst (x := nI 2) hX dL_law_358 (by decide) ?_
  refine z_iadd hX dL_law_359 ?_
  refine z_sld hX hS (in_L hL hi (by decide)) dL_law_360 ?_
  refine z_aload_n hX dL_law_361 0 rfl ?_
  refine z_iload_n hX dL_law_362 3 rfl ?_
  refine z_iconst (x := nI 3) hX dL_law_363 (by decide) ?_
  refine z_iadd hX dL_law_364 ?_
  refine z_sld hX hS (in_L hL hi (by decide)) dL_law_365 ?_
  refine z_callV (j := 140) (st0 := _) (st := _) hX M_X8_planTurn ml_L_49 (by decide) (cell_8 X.1 kd140) rfl (c_X8_planTurn X.1 kd140 k2) rfl (Nat.le_of_ble_eq_true rfl) (Nat.le_of_ble_eq_true rfl) rfl (Nat.le_of_ble_eq_true rfl) dL_law_366 ?_
  exact z_icmp_eq_t hX 753 (by decide) dL_law_369 rfl (k _ hI2)
theorem law_dropTurn (hX : OkC X RL cL_law 4 10 366) (hS : Scr X b L xs) (hL : L ≤ 2048) {i : Nat} (hi : i + 4 ≤ L) (hI : Inv2 σ σ) (k : ∀ σ2, Inv2 σ2 σ2 → Z X σ2 753 (lvL X b i) []) : Z X σ 374 (lvL X b i) [] := by
  obtain ⟨r, σ1, σ2, k1, k2, hI2⟩ := both (F := fun σ => F_X7_dropTurn 1000 133 (xs (ix (nI i + nI 1))) σ) (G := fun s => F_X8_dropTurn 1000 140 (xs (ix (nI i + nI 1))) s) hI (fun s h => op_dropTurn (N := 1000) (by decide) h _)
  refine z_aload_n hX dL_law_374 1 rfl ?_
  refine z_aload_n hX dL_law_375 0 rfl ?_
  refine z_iload_n hX dL_law_376 3 rfl ?_
  refine z_iconst (x := nI 1) hX dL_law_377 (by decide) ?_
  refine z_iadd hX dL_law_378 ?_
  refine z_sld hX hS (in_L hL hi (by decide)) dL_law_379 ?_
  refine z_callV (j := 133) (st0 := _) (st := _) hX M_X7_dropTurn ml_L_50 (by decide) (cell_7 X.1 kd133) rfl (c_X7_dropTurn X.1 kd133 k1) rfl (Nat.le_of_ble_eq_true rfl) (Nat.le_of_ble_eq_true rfl) rfl (Nat.le_of_ble_eq_true rfl) dL_law_380 ?_
  refine z_aload_n hX dL_law_383 2 rfl ?_
  refine z_aload_n hX dL_law_384 0 rfl ?_
  refine z_iload_n hX dL_law_385 3 rfl ?_
  refine z_iconst (x := nI 1) hX dL_law_386 (by decide) ?_
  refine z_iadd hX dL_law_387 ?_
  refine z_sld hX hS (in_L hL hi (by decide)) dL_law_388 ?_
  refine z_callV (j := 140) (st0 := _) (st := _) hX M_X8_dropTurn ml_L_53 (by decide) (cell_8 X.1 kd140) rfl (c_X8_dropTurn X.1 kd140 k2) rfl (Nat.le_of_ble_eq_true rfl) (Nat.le_of_ble_eq_true rfl) rfl (Nat.le_of_ble_eq_true rfl) dL_law_389 ?_
  exact z_icmp_eq_t hX 753 (by decide) dL_law_392 rfl (k _ hI2)
theorem law_setTangle (hX : OkC X RL cL_law 4 10 366) (hS : Scr X b L xs) (hL : L ≤ 2048) {i : Nat} (hi : i + 4 ≤ L) (hI : Inv2 σ σ) (k : ∀ σ2, Inv2 σ2 σ2 → Z X σ2 753 (lvL X b i) []) : Z X σ 436 (lvL X b i) [] := by
  obtain ⟨r, σ1, σ2, k1, k2, hI2⟩ := both (F := fun σ => F_X7_setTangle 1000 133 (xs (ix (nI i + nI 1))) σ) (G := fun s => F_X8_setTangle 1000 140 (xs (ix (nI i + nI 1))) s) hI (fun s h => op_setTangle (N := 1000) (by decide) h _)
  refine z_aload_n hX dL_law_436 1 rfl ?_
  refine z_aload_n hX dL_law_437 0 rfl ?_
  refine z_iload_n hX dL_law_438 3 rfl ?_
  refine z_iconst (x := nI 1) hX dL_law_439 (by decide) ?_
  refine z_iadd hX dL_law_440 ?_
  refine z_sld hX hS (in_L hL hi (by decide)) dL_law_441 ?_
  refine z_callV (j := 133) (st0 := _) (st := _) hX M_X7_setTangle ml_L_59 (by decide) (cell_7 X.1 kd133) rfl (c_X7_setTangle X.1 kd133 k1) rfl (Nat.le_of_ble_eq_true rfl) (Nat.le_of_ble_eq_true rfl) rfl (Nat.le_of_ble_eq_true rfl) dL_law_442 ?_
  refine z_aload_n hX dL_law_445 2 rfl ?_
  refine z_aload_n hX dL_law_446 0 rfl ?_
  refine z_iload_n hX dL_law_447 3 rfl ?_
  refine z_iconst (x := nI 1) hX dL_law_448 (by decide) ?_
  refine z_iadd hX dL_law_449 ?_
  refine z_sld hX hS (in_L hL hi (by decide)) dL_law_450 ?_
  refine z_callV (j := 140) (st0 := _) (st := _) hX M_X8_setTangle ml_L_62 (by decide) (cell_8 X.1 kd140) rfl (c_X8_setTangle X.1 kd140 k2) rfl (Nat.le_of_ble_eq_true rfl) (Nat.le_of_ble_eq_true rfl) rfl (Nat.le_of_ble_eq_true rfl) dL_law_451 ?_
  exact z_icmp_eq_t hX 753 (by decide) dL_law_454 rfl (k _ hI2)
theorem law_want (hX : OkC X RL cL_law 4 10 366) (hS : Scr X b L xs) (hL : L ≤ 2048) {i : Nat} (hi : i + 4 ≤ L) (hI : Inv2 σ σ) (k : ∀ σ2, Inv2 σ2 σ2 → Z X σ2 753 (lvL X b i) []) : Z X σ 459 (lvL X b i) [] := by
  obtain ⟨r, σ1, σ2, k1, k2, hI2⟩ := both (F := fun σ => F_X7_want 1000 133  σ) (G := fun s => F_X8_want 1000 140  s) hI (fun s h => op_want (N := 1000) (by decide) h)
  refine z_aload_n hX dL_law_459 1 rfl ?_
  refine z_callV (j := 133) (st0 := _) (st := _) hX M_X7_want ml_L_63 (by decide) (cell_7 X.1 kd133) rfl (c_X7_want X.1 kd133 k1) rfl (Nat.le_of_ble_eq_true rfl) (Nat.le_of_ble_eq_true rfl) rfl (Nat.le_of_ble_eq_true rfl) dL_law_460 ?_
  refine z_aload_n hX dL_law_463 2 rfl ?_
  refine z_callV (j := 140) (st0 := _) (st := _) hX M_X8_want ml_L_66 (by decide) (cell_8 X.1 kd140) rfl (c_X8_want X.1 kd140 k2) rfl (Nat.le_of_ble_eq_true rfl) (Nat.le_of_ble_eq_true rfl) rfl (Nat.le_of_ble_eq_true rfl) dL_law_464 ?_
  exact z_icmp_eq_t hX 753 (by decide) dL_law_467 rfl (k _ hI2)
theorem law_type (hX : OkC X RL cL_law 4 10 366) (hS : Scr X b L xs) (hL : L ≤ 2048) {i : Nat} (hi : i + 4 ≤ L) (hI : Inv2 σ σ) (k : ∀ σ2, Inv2 σ2 σ2 → Z X σ2 753 (lvL X b i) []) : Z X σ 472 (lvL X b i) [] := by
  obtain ⟨r, σ1, σ2, k1, k2, hI2⟩ := both (F := fun σ => F_X7_type 1000 133 (((xs (ix (nI i + nI 1))).toUInt32 % 65536).toInt32) σ) (G := fun s => F_X8_type 1000 140 (((xs (ix (nI i + nI 1))).toUInt32 % 65536).toInt32) s) hI (fun s h => op_type (N := 1000) h _ (by rw [pk_vc]; exact pk_fc _))
  refine z_aload_n hX dL_law_472 1 rfl ?_
  refine z_aload_n hX dL_law_473 0 rfl ?_
  refine z_iload_n hX dL_law_474 3 rfl ?_
  refine z_iconst (x := nI 1) hX dL_law_475 (by decide) ?_
  refine z_iadd hX dL_law_476 ?_
  refine z_sld hX hS (in_L hL hi (by decide)) dL_law_477 ?_
  refine z_i2c hX dL_law_478 ?_
  refine z_callV (j := 133) (st0 := _) (st := _) hX M_X7_type ml_L_67 (by decide) (cell_7 X.1 kd133) rfl (c_X7_type X.1 kd133 k1) rfl (Nat.le_of_ble_eq_true rfl) (Nat.le_of_ble_eq_true rfl) rfl (Nat.le_of_ble_eq_true rfl) dL_law_479 ?_
  refine z_aload_n hX dL_law_482 2 rfl ?_
  refine z_aload_n hX dL_law_483 0 rfl ?_
  refine z_iload_n hX dL_law_484 3 rfl ?_
  refine z_iconst (x := nI 1) hX dL_law_485 (by decide) ?_
  refine z_iadd hX dL_law_486 ?_
  refine z_sld hX hS (in_L hL hi (by decide)) dL_law_487 ?_
  refine z_i2c hX dL_law_488 ?_
  refine z_callV (j := 140) (st0 := _) (st := _) hX M_X8_type ml_L_71 (by decide) (cell_8 X.1 kd140) rfl (c_X8_type X.1 kd140 k2) rfl (Nat.le_of_ble_eq_true rfl) (Nat.le_of_ble_eq_true rfl) rfl (Nat.le_of_ble_eq_true rfl) dL_law_489 ?_
  exact z_icmp_eq_t hX 753 (by decide) dL_law_492 rfl (k _ hI2)
theorem law_clearText (hX : OkC X RL cL_law 4 10 366) (hS : Scr X b L xs) (hL : L ≤ 2048) {i : Nat} (hi : i + 4 ≤ L) (hI : Inv2 σ σ) (k : ∀ σ2, Inv2 σ2 σ2 → Z X σ2 753 (lvL X b i) []) : Z X σ 497 (lvL X b i) [] := by
  obtain ⟨r, σ1, σ2, k1, k2, hI2⟩ := both (F := fun σ => F_X7_clearText 1000 133  σ) (G := fun s => F_X8_clearText 1000 140  s) hI (fun s h => op_clearText (N := 1000) h)
  refine z_aload_n hX dL_law_497 1 rfl ?_
  refine z_callV (j := 133) (st0 := _) (st := _) hX M_X7_clearText ml_L_72 (by decide) (cell_7 X.1 kd133) rfl (c_X7_clearText X.1 kd133 k1) rfl (Nat.le_of_ble_eq_true rfl) (Nat.le_of_ble_eq_true rfl) rfl (Nat.le_of_ble_eq_true rfl) dL_law_498 ?_
  refine z_aload_n hX dL_law_501 2 rfl ?_
  refine z_callV (j := 140) (st0 := _) (st := _) hX M_X8_clearText ml_L_75 (by decide) (cell_8 X.1 kd140) rfl (c_X8_clearText X.1 kd140 k2) rfl (Nat.le_of_ble_eq_true rfl) (Nat.le_of_ble_eq_true rfl) rfl (Nat.le_of_ble_eq_true rfl) dL_law_502 ?_
  exact z_icmp_eq_t hX 753 (by decide) dL_law_505 rfl (k _ hI2)
theorem law_undo (hX : OkC X RL cL_law 4 10 366) (hS : Scr X b L xs) (hL : L ≤ 2048) {i : Nat} (hi : i + 4 ≤ L) (hI : Inv2 σ σ) (k : ∀ σ2, Inv2 σ2 σ2 → Z X σ2 753 (lvL X b i) []) : Z X σ 510 (lvL X b i) [] := by
  obtain ⟨r, σ1, σ2, k1, k2, hI2⟩ := both (F := fun σ => F_X7_undo 1000 133  σ) (G := fun s => F_X8_undo 1000 140  s) hI (fun s h => op_undo (N := 1000) (by decide) h)
  refine z_aload_n hX dL_law_510 1 rfl ?_
  refine z_callV (j := 133) (st0 := _) (st := _) hX M_X7_undo ml_L_76 (by decide) (cell_7 X.1 kd133) rfl (c_X7_undo X.1 kd133 k1) rfl (Nat.le_of_ble_eq_true rfl) (Nat.le_of_ble_eq_true rfl) rfl (Nat.le_of_ble_eq_true rfl) dL_law_511 ?_
  refine z_aload_n hX dL_law_514 2 rfl ?_
  refine z_callV (j := 140) (st0 := _) (st := _) hX M_X8_undo ml_L_79 (by decide) (cell_8 X.1 kd140) rfl (c_X8_undo X.1 kd140 k2) rfl (Nat.le_of_ble_eq_true rfl) (Nat.le_of_ble_eq_true rfl) rfl (Nat.le_of_ble_eq_true rfl) dL_law_515 ?_
  exact z_icmp_eq_t hX 753 (by decide) dL_law_518 rfl (k _ hI2)
theorem law_keep (hX : OkC X RL cL_law 4 10 366) (hS : Scr X b L xs) (hL : L ≤ 2048) {i : Nat} (hi : i + 4 ≤ L) (hI : Inv2 σ σ) (k : ∀ σ2, Inv2 σ2 σ2 → Z X σ2 753 (lvL X b i) []) : Z X σ 523 (lvL X b i) [] := by
  obtain ⟨r, σ1, σ2, k1, k2, hI2⟩ := both (F := fun σ => F_X7_keep 1000 133  σ) (G := fun s => F_X8_keep 1000 140  s) hI (fun s h => op_keep (N := 1000) (by decide) h)
  refine z_aload_n hX dL_law_523 1 rfl ?_
  refine z_callV (j := 133) (st0 := _) (st := _) hX M_X7_keep ml_L_80 (by decide) (cell_7 X.1 kd133) rfl (c_X7_keep X.1 kd133 k1) rfl (Nat.le_of_ble_eq_true rfl) (Nat.le_of_ble_eq_true rfl) rfl (Nat.le_of_ble_eq_true rfl) dL_law_524 ?_
  refine z_aload_n hX dL_law_527 2 rfl ?_
  refine z_callV (j := 140) (st0 := _) (st := _) hX M_X8_keep ml_L_83 (by decide) (cell_8 X.1 kd140) rfl (c_X8_keep X.1 kd140 k2) rfl (Nat.le_of_ble_eq_true rfl) (Nat.le_of_ble_eq_true rfl) rfl (Nat.le_of_ble_eq_true rfl) dL_law_528 ?_
  exact z_icmp_eq_t hX 753 (by decide) dL_law_531 rfl (k _ hI2)
theorem law_restore (hX : OkC X RL cL_law 4 10 366) (hS : Scr X b L xs) (hL : L ≤ 2048) {i : Nat} (hi : i + 4 ≤ L) (hI : Inv2 σ σ) (k : ∀ σ2, Inv2 σ2 σ2 → Z X σ2 753 (lvL X b i) []) : Z X σ 536 (lvL X b i) [] := by
  obtain ⟨r, σ1, σ2, k1, k2, hI2⟩ := both (F := fun σ => F_X7_restore 1000 133  σ) (G := fun s => F_X8_restore 1000 140  s) hI (fun s h => op_restore (N := 1000) (by decide) h)
  refine z_aload_n hX dL_law_536 1 rfl ?_
  refine z_callV (j := 133) (st0 := _) (st := _) hX M_X7_restore ml_L_84 (by decide) (cell_7 X.1 kd133) rfl (c_X7_restore X.1 kd133 k1) rfl (Nat.le_of_ble_eq_true rfl) (Nat.le_of_ble_eq_true rfl) rfl (Nat.le_of_ble_eq_true rfl) dL_law_537 ?_
  refine z_aload_n hX dL_law_540 2 rfl ?_
  refine z_callV (j := 140) (st0 := _) (st := _) hX M_X8_restore ml_L_87 (by decide) (cell_8 X.1 kd140) rfl (c_X8_restore X.1 kd140 k2) rfl (Nat.le_of_ble_eq_true rfl) (Nat.le_of_ble_eq_true rfl) rfl (Nat.le_of_ble_eq_true rfl) dL_law_541 ?_
  exact z_icmp_eq_t hX 753 (by decide) dL_law_544 rfl (k _ hI2)
theorem law_flier (hX : OkC X RL cL_law 4 10 366) (hS : Scr X b L xs) (hL : L ≤ 2048) {i : Nat} (hi : i + 4 ≤ L) (hI : Inv2 σ σ) (k : ∀ σ2, Inv2 σ2 σ2 → Z X σ2 753 (lvL X b i) []) : Z X σ 549 (lvL X b i) [] := by
  obtain ⟨r, k1, k2⟩ := bothP (F := fun σ => F_X7_flier 1000 133 (xs (ix (nI i + nI 1))) (xs (ix (nI i + nI 2))) σ) (G := fun s => F_X8_flier 1000 140 (xs (ix (nI i + nI 1))) (xs (ix (nI i + nI 2))) s) hI (fun s h => op_flier (N := 1000) (by decide) h _ _)
  refine z_aload_n hX dL_law_549 1 rfl ?_
  refine z_aload_n hX dL_law_550 0 rfl ?_
  refine z_iload_n hX dL_law_551 3 rfl ?_
  refine z_iconst (x := nI 1) hX dL_law_552 (by decide) ?_
  refine z_iadd hX dL_law_553 ?_
  refine z_sld hX hS (in_L hL hi (by decide)) dL_law_554 ?_
  refine z_aload_n hX dL_law_555 0 rfl ?_
  refine z_iload_n hX dL_law_556 3 rfl ?_
  refine z_iconst (x := nI 2) hX dL_law_557 (by decide) ?_
  refine z_iadd hX dL_law_558 ?_
  refine z_sld hX hS (in_L hL hi (by decide)) dL_law_559 ?_
  refine z_callV (j := 133) (st0 := _) (st := _) hX M_X7_flier ml_L_88 (by decide) (cell_7 X.1 kd133) rfl (c_X7_flier X.1 kd133 k1) rfl (Nat.le_of_ble_eq_true rfl) (Nat.le_of_ble_eq_true rfl) rfl (Nat.le_of_ble_eq_true rfl) dL_law_560 ?_
  refine z_aload_n hX dL_law_563 2 rfl ?_
  refine z_aload_n hX dL_law_564 0 rfl ?_
  refine z_iload_n hX dL_law_565 3 rfl ?_
  refine z_iconst (x := nI 1) hX dL_law_566 (by decide) ?_
  refine z_iadd hX dL_law_567 ?_
  refine z_sld hX hS (in_L hL hi (by decide)) dL_law_568 ?_
  refine z_aload_n hX dL_law_569 0 rfl ?_
  refine z_iload_n hX dL_law_570 3 rfl ?_
  refine z_iconst (x := nI 2) hX dL_law_571 (by decide) ?_
  refine z_iadd hX dL_law_572 ?_
  refine z_sld hX hS (in_L hL hi (by decide)) dL_law_573 ?_
  refine z_callV (j := 140) (st0 := _) (st := _) hX M_X8_flier ml_L_91 (by decide) (cell_8 X.1 kd140) rfl (c_X8_flier X.1 kd140 k2) rfl (Nat.le_of_ble_eq_true rfl) (Nat.le_of_ble_eq_true rfl) rfl (Nat.le_of_ble_eq_true rfl) dL_law_574 ?_
  exact z_icmp_eq_t hX 753 (by decide) dL_law_577 rfl (k _ hI)
theorem law_reads (hX : OkC X RL cL_law 4 10 366) (hS : Scr X b L xs) (hL : L ≤ 2048) {i : Nat} (hi : i + 4 ≤ L) (hI : Inv2 σ σ) (k : ∀ σ2, Inv2 σ2 σ2 → Z X σ2 753 (lvL X b i) []) : Z X σ 582 (lvL X b i) [] := by
  obtain ⟨r, σ1, k1, k2, hI2⟩ := bothC (F := fun σ => F_X7_reads 1000 133 (xs (ix (nI i + nI 1))) σ) (G := fun s => F_X8_reads 1000 140 (xs (ix (nI i + nI 1))) s) hI (fun s h => op_reads (N := 1000) (by decide) h _)
  refine z_aload_n hX dL_law_582 1 rfl ?_
  refine z_aload_n hX dL_law_583 0 rfl ?_
  refine z_iload_n hX dL_law_584 3 rfl ?_
  refine z_iconst (x := nI 1) hX dL_law_585 (by decide) ?_
  refine z_iadd hX dL_law_586 ?_
  refine z_sld hX hS (in_L hL hi (by decide)) dL_law_587 ?_
  refine z_callV (j := 133) (st0 := _) (st := _) hX M_X7_reads ml_L_92 (by decide) (cell_7 X.1 kd133) rfl (c_X7_reads X.1 kd133 k1) rfl (Nat.le_of_ble_eq_true rfl) (Nat.le_of_ble_eq_true rfl) rfl (Nat.le_of_ble_eq_true rfl) dL_law_588 ?_
  refine z_aload_n hX dL_law_591 2 rfl ?_
  refine z_aload_n hX dL_law_592 0 rfl ?_
  refine z_iload_n hX dL_law_593 3 rfl ?_
  refine z_iconst (x := nI 1) hX dL_law_594 (by decide) ?_
  refine z_iadd hX dL_law_595 ?_
  refine z_sld hX hS (in_L hL hi (by decide)) dL_law_596 ?_
  refine z_callV (j := 140) (st0 := _) (st := _) hX M_X8_reads ml_L_95 (by decide) (cell_8 X.1 kd140) rfl (c_X8_reads X.1 kd140 k2) rfl (Nat.le_of_ble_eq_true rfl) (Nat.le_of_ble_eq_true rfl) rfl (Nat.le_of_ble_eq_true rfl) dL_law_597 ?_
  exact z_icmp_eq_t hX 753 (by decide) dL_law_600 rfl (k _ hI2)
theorem law_ifTraded (hX : OkC X RL cL_law 4 10 366) (hS : Scr X b L xs) (hL : L ≤ 2048) {i : Nat} (hi : i + 4 ≤ L) (hI : Inv2 σ σ) (k : ∀ σ2, Inv2 σ2 σ2 → Z X σ2 753 (lvL X b i) []) : Z X σ 605 (lvL X b i) [] := by
  obtain ⟨r, σ1, σ2, k1, k2, hI2⟩ := both (F := fun σ => F_X7_ifTraded 1000 133 (xs (ix (nI i + nI 1))) (xs (ix (nI i + nI 2))) σ) (G := fun s => F_X8_ifTraded 1000 140 (xs (ix (nI i + nI 1))) (xs (ix (nI i + nI 2))) s) hI (fun s h => op_ifTraded (N := 1000) (by decide) h _ _)
  refine z_aload_n hX dL_law_605 1 rfl ?_
  refine z_aload_n hX dL_law_606 0 rfl ?_
  refine z_iload_n hX dL_law_607 3 rfl ?_
  refine z_iconst (x := nI 1) hX dL_law_608 (by decide) ?_
  refine z_iadd hX dL_law_609 ?_
  refine z_sld hX hS (in_L hL hi (by decide)) dL_law_610 ?_
  refine z_aload_n hX dL_law_611 0 rfl ?_
  refine z_iload_n hX dL_law_612 3 rfl ?_
  refine z_iconst (x := nI 2) hX dL_law_613 (by decide) ?_
  refine z_iadd hX dL_law_614 ?_
  refine z_sld hX hS (in_L hL hi (by decide)) dL_law_615 ?_
  refine z_callV (j := 133) (st0 := _) (st := _) hX M_X7_ifTraded ml_L_96 (by decide) (cell_7 X.1 kd133) rfl (c_X7_ifTraded X.1 kd133 k1) rfl (Nat.le_of_ble_eq_true rfl) (Nat.le_of_ble_eq_true rfl) rfl (Nat.le_of_ble_eq_true rfl) dL_law_616 ?_
  refine z_aload_n hX dL_law_619 2 rfl ?_
  refine z_aload_n hX dL_law_620 0 rfl ?_
  refine z_iload_n hX dL_law_621 3 rfl ?_
  refine z_iconst (x := nI 1) hX dL_law_622 (by decide) ?_
  refine z_iadd hX dL_law_623 ?_
  refine z_sld hX hS (in_L hL hi (by decide)) dL_law_624 ?_
  refine z_aload_n hX dL_law_625 0 rfl ?_
  refine z_iload_n hX dL_law_626 3 rfl ?_
  refine z_iconst (x := nI 2) hX dL_law_627 (by decide) ?_
  refine z_iadd hX dL_law_628 ?_
  refine z_sld hX hS (in_L hL hi (by decide)) dL_law_629 ?_
  refine z_callV (j := 140) (st0 := _) (st := _) hX M_X8_ifTraded ml_L_99 (by decide) (cell_8 X.1 kd140) rfl (c_X8_ifTraded X.1 kd140 k2) rfl (Nat.le_of_ble_eq_true rfl) (Nat.le_of_ble_eq_true rfl) rfl (Nat.le_of_ble_eq_true rfl) dL_law_630 ?_
  exact z_icmp_eq_t hX 753 (by decide) dL_law_633 rfl (k _ hI2)
theorem law_nextTrade (hX : OkC X RL cL_law 4 10 366) (hS : Scr X b L xs) (hL : L ≤ 2048) {i : Nat} (hi : i + 4 ≤ L) (hI : Inv2 σ σ) (k : ∀ σ2, Inv2 σ2 σ2 → Z X σ2 753 (lvL X b i) []) : Z X σ 638 (lvL X b i) [] := by
  obtain ⟨r, σ1, σ2, k1, k2, hI2⟩ := both (F := fun σ => F_X7_nextTrade 1000 133  σ) (G := fun s => F_X8_nextTrade 1000 140  s) hI (fun s h => op_nextTrade (N := 1000) (by decide) h)
  refine z_aload_n hX dL_law_638 1 rfl ?_
  refine z_callV (j := 133) (st0 := _) (st := _) hX M_X7_nextTrade ml_L_100 (by decide) (cell_7 X.1 kd133) rfl (c_X7_nextTrade X.1 kd133 k1) rfl (Nat.le_of_ble_eq_true rfl) (Nat.le_of_ble_eq_true rfl) rfl (Nat.le_of_ble_eq_true rfl) dL_law_639 ?_
  refine z_aload_n hX dL_law_642 2 rfl ?_
  refine z_callV (j := 140) (st0 := _) (st := _) hX M_X8_nextTrade ml_L_103 (by decide) (cell_8 X.1 kd140) rfl (c_X8_nextTrade X.1 kd140 k2) rfl (Nat.le_of_ble_eq_true rfl) (Nat.le_of_ble_eq_true rfl) rfl (Nat.le_of_ble_eq_true rfl) dL_law_643 ?_
  exact z_icmp_eq_t hX 753 (by decide) dL_law_646 rfl (k _ hI2)
theorem law_spelledIn (hX : OkC X RL cL_law 4 10 366) (hS : Scr X b L xs) (hL : L ≤ 2048) {i : Nat} (hi : i + 4 ≤ L) (hI : Inv2 σ σ) (k : ∀ σ2, Inv2 σ2 σ2 → Z X σ2 753 (lvL X b i) []) : Z X σ 651 (lvL X b i) [] := by
  obtain ⟨r, σ1, σ2, k1, k2, hI2⟩ := both (F := fun σ => F_X7_spelledIn 1000 133  σ) (G := fun s => F_X8_spelledIn 1000 140  s) hI (fun s h => op_spelledIn (N := 1000) (by decide) h)
  refine z_aload_n hX dL_law_651 1 rfl ?_
  refine z_callV (j := 133) (st0 := _) (st := _) hX M_X7_spelledIn ml_L_104 (by decide) (cell_7 X.1 kd133) rfl (c_X7_spelledIn X.1 kd133 k1) rfl (Nat.le_of_ble_eq_true rfl) (Nat.le_of_ble_eq_true rfl) rfl (Nat.le_of_ble_eq_true rfl) dL_law_652 ?_
  refine z_aload_n hX dL_law_655 2 rfl ?_
  refine z_callV (j := 140) (st0 := _) (st := _) hX M_X8_spelledIn ml_L_107 (by decide) (cell_8 X.1 kd140) rfl (c_X8_spelledIn X.1 kd140 k2) rfl (Nat.le_of_ble_eq_true rfl) (Nat.le_of_ble_eq_true rfl) rfl (Nat.le_of_ble_eq_true rfl) dL_law_656 ?_
  exact z_icmp_eq_t hX 753 (by decide) dL_law_659 rfl (k _ hI2)
theorem law_turnOf (hX : OkC X RL cL_law 4 10 366) (hS : Scr X b L xs) (hL : L ≤ 2048) {i : Nat} (hi : i + 4 ≤ L) (hI : Inv2 σ σ) (k : ∀ σ2, Inv2 σ2 σ2 → Z X σ2 753 (lvL X b i) []) : Z X σ 664 (lvL X b i) [] := by
  obtain ⟨r, k1, k2⟩ := bothP (F := fun σ => F_X7_turnOf 1000 133 (xs (ix (nI i + nI 1))) (xs (ix (nI i + nI 2))) σ) (G := fun s => F_X8_turnOf 1000 140 (xs (ix (nI i + nI 1))) (xs (ix (nI i + nI 2))) s) hI (fun s h => op_turnOf (N := 1000) h _ _)
  refine z_aload_n hX dL_law_664 1 rfl ?_
  refine z_aload_n hX dL_law_665 0 rfl ?_
  refine z_iload_n hX dL_law_666 3 rfl ?_
  refine z_iconst (x := nI 1) hX dL_law_667 (by decide) ?_
  refine z_iadd hX dL_law_668 ?_
  refine z_sld hX hS (in_L hL hi (by decide)) dL_law_669 ?_
  refine z_aload_n hX dL_law_670 0 rfl ?_
  refine z_iload_n hX dL_law_671 3 rfl ?_
  refine z_iconst (x := nI 2) hX dL_law_672 (by decide) ?_
  refine z_iadd hX dL_law_673 ?_
  refine z_sld hX hS (in_L hL hi (by decide)) dL_law_674 ?_
  refine z_callV (j := 133) (st0 := _) (st := _) hX M_X7_turnOf ml_L_108 (by decide) (cell_7 X.1 kd133) rfl (c_X7_turnOf X.1 kd133 k1) rfl (Nat.le_of_ble_eq_true rfl) (Nat.le_of_ble_eq_true rfl) rfl (Nat.le_of_ble_eq_true rfl) dL_law_675 ?_
  refine z_aload_n hX dL_law_678 2 rfl ?_
  refine z_aload_n hX dL_law_679 0 rfl ?_
  refine z_iload_n hX dL_law_680 3 rfl ?_
  refine z_iconst (x := nI 1) hX dL_law_681 (by decide) ?_
  refine z_iadd hX dL_law_682 ?_
  refine z_sld hX hS (in_L hL hi (by decide)) dL_law_683 ?_
  refine z_aload_n hX dL_law_684 0 rfl ?_
  refine z_iload_n hX dL_law_685 3 rfl ?_
  refine z_iconst (x := nI 2) hX dL_law_686 (by decide) ?_
  refine z_iadd hX dL_law_687 ?_
  refine z_sld hX hS (in_L hL hi (by decide)) dL_law_688 ?_
  refine z_callV (j := 140) (st0 := _) (st := _) hX M_X8_turnOf ml_L_111 (by decide) (cell_8 X.1 kd140) rfl (c_X8_turnOf X.1 kd140 k2) rfl (Nat.le_of_ble_eq_true rfl) (Nat.le_of_ble_eq_true rfl) rfl (Nat.le_of_ble_eq_true rfl) dL_law_689 ?_
  exact z_icmp_eq_t hX 753 (by decide) dL_law_692 rfl (k _ hI)
theorem law_tangle (hX : OkC X RL cL_law 4 10 366) (hS : Scr X b L xs) (hL : L ≤ 2048) {i : Nat} (hi : i + 4 ≤ L) (hI : Inv2 σ σ) (k : ∀ σ2, Inv2 σ2 σ2 → Z X σ2 753 (lvL X b i) []) : Z X σ 697 (lvL X b i) [] := by
  obtain ⟨r, k1, k2⟩ := bothP (F := fun σ => F_X7_tangle 1000 133 (xs (ix (nI i + nI 1))) (xs (ix (nI i + nI 2))) σ) (G := fun s => F_X8_tangle 1000 140 (xs (ix (nI i + nI 1))) (xs (ix (nI i + nI 2))) s) hI (fun s h => op_tangle (N := 1000) h _ _)
  refine z_aload_n hX dL_law_697 1 rfl ?_
  refine z_aload_n hX dL_law_698 0 rfl ?_
  refine z_iload_n hX dL_law_699 3 rfl ?_
  refine z_iconst (x := nI 1) hX dL_law_700 (by decide) ?_
  refine z_iadd hX dL_law_701 ?_
  refine z_sld hX hS (in_L hL hi (by decide)) dL_law_702 ?_
  refine z_aload_n hX dL_law_703 0 rfl ?_
  refine z_iload_n hX dL_law_704 3 rfl ?_
  refine z_iconst (x := nI 2) hX dL_law_705 (by decide) ?_
  refine z_iadd hX dL_law_706 ?_
  refine z_sld hX hS (in_L hL hi (by decide)) dL_law_707 ?_
  refine z_callV (j := 133) (st0 := _) (st := _) hX M_X7_tangle ml_L_112 (by decide) (cell_7 X.1 kd133) rfl (c_X7_tangle X.1 kd133 k1) rfl (Nat.le_of_ble_eq_true rfl) (Nat.le_of_ble_eq_true rfl) rfl (Nat.le_of_ble_eq_true rfl) dL_law_708 ?_
  refine z_aload_n hX dL_law_711 2 rfl ?_
  refine z_aload_n hX dL_law_712 0 rfl ?_
  refine z_iload_n hX dL_law_713 3 rfl ?_
  refine z_iconst (x := nI 1) hX dL_law_714 (by decide) ?_
  refine z_iadd hX dL_law_715 ?_
  refine z_sld hX hS (in_L hL hi (by decide)) dL_law_716 ?_
  refine z_aload_n hX dL_law_717 0 rfl ?_
  refine z_iload_n hX dL_law_718 3 rfl ?_
  refine z_iconst (x := nI 2) hX dL_law_719 (by decide) ?_
  refine z_iadd hX dL_law_720 ?_
  refine z_sld hX hS (in_L hL hi (by decide)) dL_law_721 ?_
  refine z_callV (j := 140) (st0 := _) (st := _) hX M_X8_tangle ml_L_115 (by decide) (cell_8 X.1 kd140) rfl (c_X8_tangle X.1 kd140 k2) rfl (Nat.le_of_ble_eq_true rfl) (Nat.le_of_ble_eq_true rfl) rfl (Nat.le_of_ble_eq_true rfl) dL_law_722 ?_
  exact z_icmp_eq_t hX 753 (by decide) dL_law_725 rfl (k _ hI)
theorem law_count (hX : OkC X RL cL_law 4 10 366) (hS : Scr X b L xs) (hL : L ≤ 2048) {i : Nat} (hi : i + 4 ≤ L) (hI : Inv2 σ σ) (k : ∀ σ2, Inv2 σ2 σ2 → Z X σ2 753 (lvL X b i) []) : Z X σ 730 (lvL X b i) [] := by
  obtain ⟨r, σ1, σ2, k1, k2, hI2⟩ := both (F := fun σ => F_X7_count 1000 133 (xs (ix (nI i + nI 1))) σ) (G := fun s => F_X8_count 1000 140 (xs (ix (nI i + nI 1))) s) hI (fun s h => op_count (N := 1000) (by decide) h _)
  refine z_aload_n hX dL_law_730 1 rfl ?_
  refine z_aload_n hX dL_law_731 0 rfl ?_
  refine z_iload_n hX dL_law_732 3 rfl ?_
  refine z_iconst (x := nI 1) hX dL_law_733 (by decide) ?_
  refine z_iadd hX dL_law_734 ?_
  refine z_sld hX hS (in_L hL hi (by decide)) dL_law_735 ?_
  refine z_callV (j := 133) (st0 := _) (st := _) hX M_X7_count ml_L_116 (by decide) (cell_7 X.1 kd133) rfl (c_X7_count X.1 kd133 k1) rfl (Nat.le_of_ble_eq_true rfl) (Nat.le_of_ble_eq_true rfl) rfl (Nat.le_of_ble_eq_true rfl) dL_law_736 ?_
  refine z_aload_n hX dL_law_739 2 rfl ?_
  refine z_aload_n hX dL_law_740 0 rfl ?_
  refine z_iload_n hX dL_law_741 3 rfl ?_
  refine z_iconst (x := nI 1) hX dL_law_742 (by decide) ?_
  refine z_iadd hX dL_law_743 ?_
  refine z_sld hX hS (in_L hL hi (by decide)) dL_law_744 ?_
  refine z_callV (j := 140) (st0 := _) (st := _) hX M_X8_count ml_L_119 (by decide) (cell_8 X.1 kd140) rfl (c_X8_count X.1 kd140 k2) rfl (Nat.le_of_ble_eq_true rfl) (Nat.le_of_ble_eq_true rfl) rfl (Nat.le_of_ble_eq_true rfl) dL_law_745 ?_
  exact z_icmp_eq_t hX 753 (by decide) dL_law_748 rfl (k _ hI2)
end LAW
