/-! ===== numbers: everything as nI of a natural number ===== -/
theorem l0 : (0 : Int32) = nI 0 := rfl
theorem l1 : (1 : Int32) = nI 1 := rfl
theorem l2 : (2 : Int32) = nI 2 := rfl
theorem l3 : (3 : Int32) = nI 3 := rfl
theorem l4 : (4 : Int32) = nI 4 := rfl
theorem l5 : (5 : Int32) = nI 5 := rfl
theorem l6 : (6 : Int32) = nI 6 := rfl
theorem l7 : (7 : Int32) = nI 7 := rfl
theorem l8 : (8 : Int32) = nI 8 := rfl
theorem l9 : (9 : Int32) = nI 9 := rfl
theorem l10 : (10 : Int32) = nI 10 := rfl
theorem l11 : (11 : Int32) = nI 11 := rfl
theorem l12 : (12 : Int32) = nI 12 := rfl
theorem l13 : (13 : Int32) = nI 13 := rfl
theorem l31 : (31 : Int32) = nI 31 := rfl
theorem l44 : (44 : Int32) = nI 44 := rfl
theorem l48 : (48 : Int32) = nI 48 := rfl
theorem l49 : (49 : Int32) = nI 49 := rfl
theorem l57 : (57 : Int32) = nI 57 := rfl
theorem l60 : (60 : Int32) = nI 60 := rfl
theorem l84 : (84 : Int32) = nI 84 := rfl
theorem l85 : (85 : Int32) = nI 85 := rfl
theorem l86 : (86 : Int32) = nI 86 := rfl
theorem l97 : (97 : Int32) = nI 97 := rfl
theorem l99 : (99 : Int32) = nI 99 := rfl
theorem l108 : (108 : Int32) = nI 108 := rfl
theorem l120 : (120 : Int32) = nI 120 := rfl
theorem l121 : (121 : Int32) = nI 121 := rfl
theorem l122 : (122 : Int32) = nI 122 := rfl
theorem l123 : (123 : Int32) = nI 123 := rfl
theorem l152 : (152 : Int32) = nI 152 := rfl
theorem l200 : (200 : Int32) = nI 200 := rfl
theorem l456 : (456 : Int32) = nI 456 := rfl
theorem l9999 : (9999 : Int32) = nI 9999 := rfl
theorem ix_n {k : Nat} (h : k < 2147483648) : ix (nI k) = k := nI_clamp h
theorem le_n {a b : Nat} (ha : a < 2147483648) (hb : b < 2147483648) : (nI a ≤ nI b) = (a ≤ b) := propext (nI_leI ha hb)
theorem lt_n {a b : Nat} (ha : a < 2147483648) (hb : b < 2147483648) : (nI a < nI b) = (a < b) := propext (nI_ltI ha hb)
theorem eq_n {a b : Nat} (ha : a < 2147483648) (hb : b < 2147483648) : (nI a = nI b) = (a = b) := propext (nI_eq ha hb)
theorem sub_n {a b : Nat} (h : b ≤ a) : nI a - nI b = nI (a - b) := pk_sub h
theorem addm_n {a b : Nat} (h : b ≤ a) : nI a + -nI b = nI (a - b) := by
  rw [← sub_n h, Int32.sub_eq_add_neg]
theorem div_n {a d : Nat} (ha : a < 2147483648) (h0 : 0 < d) (hd : d < 2147483648) : nI a / nI d = nI (a / d) := pk_div ha h0 hd
theorem rem_n {a d : Nat} (ha : a < 2147483648) (h0 : 0 < d) (hd : d < 2147483648) : nI a - nI a / nI d * nI d = nI (a % d) := pk_rem ha h0 hd
theorem in_n {k n : Nat} (h : k < n) (hn : n < 2147483648) : vp_in (nI k) n = True := eq_true (vp_in_nI h hn)
theorem nne_m1 {a : Nat} (ha : a < 2147483647) : (nI a = -nI 1) = False := by
  refine eq_false fun h => ?_
  have h1 := congrArg Int32.toInt h
  rw [nI_toInt (by omega)] at h1
  have h2 : (-nI 1 : Int32).toInt = -1 := by decide
  omega
theorem gd_True {α : Type} {k : Option α} : gd True k = k := gd_t trivial
theorem bind2_t {α β γ : Type} {a : α} {b : β} {f : α → β → Option γ} : bind2 (some (a, b)) f = f a b := rfl
theorem bd_t {α β : Type} {a : α} {f : α → β} : bd a f = f a := rfl
theorem bind_t {α β : Type} {a : α} {f : α → Option β} : (some a).bind f = f a := rfl
noncomputable def bI (c : Prop) : Int32 := @ite _ c (Classical.propDecidable c) 1 0
theorem bI_t {c : Prop} (h : c) : bI c = 1 := by unfold bI; rw [if_pos h]
theorem bI_f {c : Prop} (h : ¬ c) : bI c = 0 := by unfold bI; rw [if_neg h]
theorem bI_0 {c : Prop} : (bI c = nI 0) = ¬ c := by
  by_cases h : c
  · rw [bI_t h]; exact propext ⟨fun q => absurd q (by decide), fun q => absurd h q⟩
  · rw [bI_f h]; exact propext ⟨fun _ => h, fun _ => rfl⟩
theorem bI_1 {c : Prop} : (bI c = nI 1) = c := by
  by_cases h : c
  · rw [bI_t h]; exact propext ⟨fun _ => h, fun _ => rfl⟩
  · rw [bI_f h]; exact propext ⟨fun q => absurd q (by decide), fun q => absurd q h⟩
theorem bI_01 {c : Prop} : (bI c = nI 0 ∨ bI c = nI 1) = True := by
  rw [bI_0, bI_1]
  exact eq_true (by by_cases h : c; exact Or.inr h; exact Or.inl h)
theorem bI_c {c d : Prop} (h : c ↔ d) : bI c = bI d := by rw [propext h]
theorem wr_s {σ : HP} {j k : Nat} {x : Int32} : wr σ j k x j = upd (σ j) k x := by unfold wr; exact wrA_s
theorem wr_n {σ : HP} {j i k : Nat} {x : Int32} (h : i ≠ j) : wr σ j k x i = σ i := by unfold wr; exact wrA_n h
theorem upd_s {f : Nat → Int32} {k : Nat} {x : Int32} : upd f k x k = x := pk_us
theorem upd_n {f : Nat → Int32} {k j : Nat} {x : Int32} (h : j ≠ k) : upd f k x j = f j := pk_un h
/-! ===== the reference's readings of one flier, for an array cell r ===== -/
section MQ1
variable {N r k : Nat} {σ : HP}
theorem of_n {w : Nat} (hk : k < 12) (hw : w < 6) : F_X8_of N r (nI k) (nI w) σ = some (σ r (12 + 6 * k + w)) := by
  unfold F_X8_of
  simp (disch := omega) only [l12, l6, pk_mul, nI_add, in_n, gd_True, ix_n]
theorem puts_n {w : Nat} {x : Int32} (hk : k < 12) (hw : w < 6) : F_X8_puts N r (nI k) (nI w) x σ = some (wr σ r (12 + 6 * k + w) x) := by
  unfold F_X8_puts
  simp (disch := omega) only [l12, l6, pk_mul, nI_add, in_n, gd_True, ix_n, bd_t]
end MQ1
