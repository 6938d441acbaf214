theorem wrA_s {σ : HP} {j : Nat} {f : Nat → Int32} : wrA σ j f j = f := by unfold wrA; rw [if_pos rfl]
theorem wrA_n {σ : HP} {j i : Nat} {f : Nat → Int32} (h : i ≠ j) : wrA σ j f i = σ i := by unfold wrA; rw [if_neg h]
theorem cellE_arr9 {cy : Nat → ClassId} {ad : Nat → Nat} {σ : HP} {j : Nat} (h : kd j = 9) : cellE cy ad σ j = .inl (cy 0, ln j, .inl (σ j)) := by simp only [cellE, h]
theorem cellE_arr10 {cy : Nat → ClassId} {ad : Nat → Nat} {σ : HP} {j : Nat} (h : kd j = 10) : cellE cy ad σ j = .inl (cy 1, ln j, .inl (σ j)) := by simp only [cellE, h]
theorem cellE_arr11 {cy : Nat → ClassId} {ad : Nat → Nat} {σ : HP} {j : Nat} (h : kd j = 11) : cellE cy ad σ j = .inl (cy 2, ln j, .inl (σ j)) := by simp only [cellE, h]
theorem cellE_arr12 {cy : Nat → ClassId} {ad : Nat → Nat} {σ : HP} {j : Nat} (h : kd j = 12) : cellE cy ad σ j = .inl (cy 3, ln j, .inr (.inr (.inr (.inr (fun k => some (ad (ix (σ j k)))))))) := by simp only [cellE, h]
theorem cellE_st {cy : Nat → ClassId} {ad : Nat → Nat} {σ : HP} {j : Nat} (h : kd j = 4) : ∃ vs : List Value, cellE cy ad σ j = .inr (4, vs) := by simp only [cellE, h]; exact ⟨_, rfl⟩
theorem m_native : Cond.native arraycopyName ∈ wsA := memT 293 (by decide +kernel) (by decide +kernel)
theorem m_acstat : Cond.static arraycopyName ∈ wsA := memT 292 (by decide +kernel) (by decide +kernel)
theorem m_sysini : Cond.initialized "java/lang/System" ∈ wsA := memT 10 (by decide +kernel) (by decide +kernel)
theorem m_matini : Cond.initialized "java/lang/Math" ∈ wsA := memT 11 (by decide +kernel) (by decide +kernel)
theorem m_minstat : Cond.static Lib.Math.min.name ∈ wsA := memT 411 (by decide +kernel) (by decide +kernel)
theorem m_mincode : Cond.code Lib.Math.min.name Lib.Math.min.code 2 (some .int) ∈ wsA := memT 412 (by decide +kernel) (by decide +kernel)
/-! ===== the rules over Z: an instruction, a row ===== -/
section ZR
variable {X : CX} {σ : HP} {pc : Nat} {lv : List (Nat × Value)} {st : List Value} {own : String} {cc : ByteArray} {nl fr lo : Nat}
theorem z_sub {lv' : List (Nat × Value)} (ks : List Nat) (hl : lv_pick lv ks = lv') (k : Z X σ pc lv' st) : Z X σ pc lv st := by
  obtain ⟨w, p, e, R, s, m, args, below, meth, c, nL, cs, sl, Q⟩ := X
  intro ls H locs h hP hS
  exact k ls H locs (lv_sub h ks hl) hP hS
theorem z_iconst (hX : OkC X own cc nl fr lo) {n : Int} {x : Int32} (hdg : decode cc pc = .ok (.iconst n, 1)) (hv : Int32.ofInt n = x) (k : Z X σ (pc + 1) lv (.int x :: st)) : Z X σ pc lv (st) := by
  obtain ⟨w, p, e, R, s, m, args, below, meth, c, nL, cs, sl, Q⟩ := X
  obtain ⟨hx, hb, hml, hnl, hown, hts, hK, hN, hZD, hR1, hR2, hR3, hR4⟩ := hX
  intro ls H locs h hP hS
  exact lv_iconst hx hb hdg hv (k ls H locs h hP hS)
theorem z_bipush (hX : OkC X own cc nl fr lo) {n : Int} {x : Int32} (hdg : decode cc pc = .ok (.bipush n, 2)) (hv : (Int8.ofInt n).toInt32 = x) (k : Z X σ (pc + 2) lv (.int x :: st)) : Z X σ pc lv (st) := by
  obtain ⟨w, p, e, R, s, m, args, below, meth, c, nL, cs, sl, Q⟩ := X
  obtain ⟨hx, hb, hml, hnl, hown, hts, hK, hN, hZD, hR1, hR2, hR3, hR4⟩ := hX
  intro ls H locs h hP hS
  exact lv_bipush hx hb hdg hv (k ls H locs h hP hS)
theorem z_sipush (hX : OkC X own cc nl fr lo) {n : Int} {x : Int32} (hdg : decode cc pc = .ok (.sipush n, 3)) (hv : (Int16.ofInt n).toInt32 = x) (k : Z X σ (pc + 3) lv (.int x :: st)) : Z X σ pc lv (st) := by
  obtain ⟨w, p, e, R, s, m, args, below, meth, c, nL, cs, sl, Q⟩ := X
  obtain ⟨hx, hb, hml, hnl, hown, hts, hK, hN, hZD, hR1, hR2, hR3, hR4⟩ := hX
  intro ls H locs h hP hS
  exact lv_sipush hx hb hdg hv (k ls H locs h hP hS)
theorem z_ldc (hX : OkC X own cc nl fr lo) {idx : Nat} {x : Int32} (hc : Jvm.Cond.constant own idx x ∈ wsA) (hdg : decode cc pc = .ok (.ldc idx, 2)) (k : Z X σ (pc + 2) lv (.int x :: st)) : Z X σ pc lv (st) := by
  obtain ⟨w, p, e, R, s, m, args, below, meth, c, nL, cs, sl, Q⟩ := X
  obtain ⟨hx, hb, hml, hnl, hown, hts, hK, hN, hZD, hR1, hR2, hR3, hR4⟩ := hX
  intro ls H locs h hP hS
  exact lv_ldc hx hb hown (hts _ hc) hdg (k ls H locs h hP hS)
theorem z_iload_n (hX : OkC X own cc nl fr lo) {i : Fin 4} {x : Int32} (hdg : decode cc pc = .ok (.iload_n i, 1)) (pos : Nat) (hp : lv[pos]? = some ((i : Nat), .int x)) (k : Z X σ (pc + 1) lv (.int x :: st)) : Z X σ pc lv (st) := by
  obtain ⟨w, p, e, R, s, m, args, below, meth, c, nL, cs, sl, Q⟩ := X
  obtain ⟨hx, hb, hml, hnl, hown, hts, hK, hN, hZD, hR1, hR2, hR3, hR4⟩ := hX
  intro ls H locs h hP hS
  exact lv_iload_n hx hb hdg rfl (lv_at h pos hp) (k ls H locs h hP hS)
theorem z_iload (hX : OkC X own cc nl fr lo) {i : Nat} {x : Int32} (hdg : decode cc pc = .ok (.iload i, 2)) (pos : Nat) (hp : lv[pos]? = some (i, .int x)) (k : Z X σ (pc + 2) lv (.int x :: st)) : Z X σ pc lv (st) := by
  obtain ⟨w, p, e, R, s, m, args, below, meth, c, nL, cs, sl, Q⟩ := X
  obtain ⟨hx, hb, hml, hnl, hown, hts, hK, hN, hZD, hR1, hR2, hR3, hR4⟩ := hX
  intro ls H locs h hP hS
  exact lv_iload hx hb hdg (lv_at h pos hp) (k ls H locs h hP hS)
theorem z_aload_n (hX : OkC X own cc nl fr lo) {i : Fin 4} {x : Nat} (hdg : decode cc pc = .ok (.aload_n i, 1)) (pos : Nat) (hp : lv[pos]? = some ((i : Nat), .ref x)) (k : Z X σ (pc + 1) lv (.ref x :: st)) : Z X σ pc lv (st) := by
  obtain ⟨w, p, e, R, s, m, args, below, meth, c, nL, cs, sl, Q⟩ := X
  obtain ⟨hx, hb, hml, hnl, hown, hts, hK, hN, hZD, hR1, hR2, hR3, hR4⟩ := hX
  intro ls H locs h hP hS
  exact lv_aload_n hx hb hdg rfl (lv_at h pos hp) (k ls H locs h hP hS)
theorem z_aload (hX : OkC X own cc nl fr lo) {i : Nat} {x : Nat} (hdg : decode cc pc = .ok (.aload i, 2)) (pos : Nat) (hp : lv[pos]? = some (i, .ref x)) (k : Z X σ (pc + 2) lv (.ref x :: st)) : Z X σ pc lv (st) := by
  obtain ⟨w, p, e, R, s, m, args, below, meth, c, nL, cs, sl, Q⟩ := X
  obtain ⟨hx, hb, hml, hnl, hown, hts, hK, hN, hZD, hR1, hR2, hR3, hR4⟩ := hX
  intro ls H locs h hP hS
  exact lv_aload hx hb hdg (lv_at h pos hp) (k ls H locs h hP hS)
def zst (lv : List (Nat × Value)) (i : Nat) (x : Value) : List (Nat × Value) := (i, x) :: lv.filter (fun q => !(q.1 == i) && !(q.1 + 1 == i && q.2.category == 2))
theorem z_istore_n (hX : OkC X own cc nl fr lo) {i : Fin 4} {x : Int32} {lv' : List (Nat × Value)} (hdg : decode cc pc = .ok (.istore_n i, 1)) (hn : (i : Nat) < nl) (hl : zst lv i (.int x) = lv') (k : Z X σ (pc + 1) lv' st) : Z X σ pc lv (.int x :: st) := by
  obtain ⟨w, p, e, R, s, m, args, below, meth, c, nL, cs, sl, Q⟩ := X
  obtain ⟨hx, hb, hml, hnl, hown, hts, hK, hN, hZD, hR1, hR2, hR3, hR4⟩ := hX
  intro ls H locs h hP hS
  exact lv_istore_n hx hb hdg rfl h (by rw [hnl]; exact hn) hl (fun ls' h' => k ls' H locs h' hP hS)
theorem z_istore (hX : OkC X own cc nl fr lo) {i : Nat} {x : Int32} {lv' : List (Nat × Value)} (hdg : decode cc pc = .ok (.istore i, 2)) (hn : i < nl) (hl : zst lv i (.int x) = lv') (k : Z X σ (pc + 2) lv' st) : Z X σ pc lv (.int x :: st) := by
  obtain ⟨w, p, e, R, s, m, args, below, meth, c, nL, cs, sl, Q⟩ := X
  obtain ⟨hx, hb, hml, hnl, hown, hts, hK, hN, hZD, hR1, hR2, hR3, hR4⟩ := hX
  intro ls H locs h hP hS
  exact lv_istore hx hb hdg h (by rw [hnl]; exact hn) hl (fun ls' h' => k ls' H locs h' hP hS)
theorem z_astore_n (hX : OkC X own cc nl fr lo) {i : Fin 4} {x : Nat} {lv' : List (Nat × Value)} (hdg : decode cc pc = .ok (.astore_n i, 1)) (hn : (i : Nat) < nl) (hl : zst lv i (.ref x) = lv') (k : Z X σ (pc + 1) lv' st) : Z X σ pc lv (.ref x :: st) := by
  obtain ⟨w, p, e, R, s, m, args, below, meth, c, nL, cs, sl, Q⟩ := X
  obtain ⟨hx, hb, hml, hnl, hown, hts, hK, hN, hZD, hR1, hR2, hR3, hR4⟩ := hX
  intro ls H locs h hP hS
  exact lv_astore_n hx hb hdg rfl h (by rw [hnl]; exact hn) hl (fun ls' h' => k ls' H locs h' hP hS)
theorem z_astore (hX : OkC X own cc nl fr lo) {i : Nat} {x : Nat} {lv' : List (Nat × Value)} (hdg : decode cc pc = .ok (.astore i, 2)) (hn : i < nl) (hl : zst lv i (.ref x) = lv') (k : Z X σ (pc + 2) lv' st) : Z X σ pc lv (.ref x :: st) := by
  obtain ⟨w, p, e, R, s, m, args, below, meth, c, nL, cs, sl, Q⟩ := X
  obtain ⟨hx, hb, hml, hnl, hown, hts, hK, hN, hZD, hR1, hR2, hR3, hR4⟩ := hX
  intro ls H locs h hP hS
  exact lv_astore hx hb hdg h (by rw [hnl]; exact hn) hl (fun ls' h' => k ls' H locs h' hP hS)
theorem z_iinc (hX : OkC X own cc nl fr lo) {i : Nat} {n : Int} {x y : Int32} {lv' : List (Nat × Value)} (hdg : decode cc pc = .ok (.iinc i n, 3)) (pos : Nat) (hp : lv[pos]? = some (i, .int x)) (hv : x + Int32.ofInt n = y) (hn : i < nl) (hl : zst lv i (.int y) = lv') (k : Z X σ (pc + 3) lv' st) : Z X σ pc lv (st) := by
  obtain ⟨w, p, e, R, s, m, args, below, meth, c, nL, cs, sl, Q⟩ := X
  obtain ⟨hx, hb, hml, hnl, hown, hts, hK, hN, hZD, hR1, hR2, hR3, hR4⟩ := hX
  intro ls H locs h hP hS
  exact lv_iinc hx hb hdg h hp hv (by rw [hnl]; exact hn) hl (fun ls' h' => k ls' H locs h' hP hS)
theorem z_iadd (hX : OkC X own cc nl fr lo) {x y : Int32} (hdg : decode cc pc = .ok (.iadd, 1)) (k : Z X σ (pc + 1) lv (.int (x + y) :: st)) : Z X σ pc lv (.int y :: .int x :: st) := by
  obtain ⟨w, p, e, R, s, m, args, below, meth, c, nL, cs, sl, Q⟩ := X
  obtain ⟨hx, hb, hml, hnl, hown, hts, hK, hN, hZD, hR1, hR2, hR3, hR4⟩ := hX
  intro ls H locs h hP hS
  exact lv_iadd hx hb hdg (k ls H locs h hP hS)
theorem z_isub (hX : OkC X own cc nl fr lo) {x y : Int32} (hdg : decode cc pc = .ok (.isub, 1)) (k : Z X σ (pc + 1) lv (.int (x - y) :: st)) : Z X σ pc lv (.int y :: .int x :: st) := by
  obtain ⟨w, p, e, R, s, m, args, below, meth, c, nL, cs, sl, Q⟩ := X
  obtain ⟨hx, hb, hml, hnl, hown, hts, hK, hN, hZD, hR1, hR2, hR3, hR4⟩ := hX
  intro ls H locs h hP hS
  exact lv_isub hx hb hdg (k ls H locs h hP hS)
theorem z_imul (hX : OkC X own cc nl fr lo) {x y : Int32} (hdg : decode cc pc = .ok (.imul, 1)) (k : Z X σ (pc + 1) lv (.int (x * y) :: st)) : Z X σ pc lv (.int y :: .int x :: st) := by
  obtain ⟨w, p, e, R, s, m, args, below, meth, c, nL, cs, sl, Q⟩ := X
  obtain ⟨hx, hb, hml, hnl, hown, hts, hK, hN, hZD, hR1, hR2, hR3, hR4⟩ := hX
  intro ls H locs h hP hS
  exact lv_imul hx hb hdg (k ls H locs h hP hS)
theorem z_iand (hX : OkC X own cc nl fr lo) {x y : Int32} (hdg : decode cc pc = .ok (.iand, 1)) (k : Z X σ (pc + 1) lv (.int (x &&& y) :: st)) : Z X σ pc lv (.int y :: .int x :: st) := by
  obtain ⟨w, p, e, R, s, m, args, below, meth, c, nL, cs, sl, Q⟩ := X
  obtain ⟨hx, hb, hml, hnl, hown, hts, hK, hN, hZD, hR1, hR2, hR3, hR4⟩ := hX
  intro ls H locs h hP hS
  exact lv_iand hx hb hdg (k ls H locs h hP hS)
theorem z_ior (hX : OkC X own cc nl fr lo) {x y : Int32} (hdg : decode cc pc = .ok (.ior, 1)) (k : Z X σ (pc + 1) lv (.int (x ||| y) :: st)) : Z X σ pc lv (.int y :: .int x :: st) := by
  obtain ⟨w, p, e, R, s, m, args, below, meth, c, nL, cs, sl, Q⟩ := X
  obtain ⟨hx, hb, hml, hnl, hown, hts, hK, hN, hZD, hR1, hR2, hR3, hR4⟩ := hX
  intro ls H locs h hP hS
  exact lv_ior hx hb hdg (k ls H locs h hP hS)
theorem z_ishl (hX : OkC X own cc nl fr lo) {x y : Int32} (hdg : decode cc pc = .ok (.ishl, 1)) (k : Z X σ (pc + 1) lv (.int (x <<< (y &&& 31)) :: st)) : Z X σ pc lv (.int y :: .int x :: st) := by
  obtain ⟨w, p, e, R, s, m, args, below, meth, c, nL, cs, sl, Q⟩ := X
  obtain ⟨hx, hb, hml, hnl, hown, hts, hK, hN, hZD, hR1, hR2, hR3, hR4⟩ := hX
  intro ls H locs h hP hS
  exact lv_ishl hx hb hdg (k ls H locs h hP hS)
theorem z_ishr (hX : OkC X own cc nl fr lo) {x y : Int32} (hdg : decode cc pc = .ok (.ishr, 1)) (k : Z X σ (pc + 1) lv (.int (x >>> (y &&& 31)) :: st)) : Z X σ pc lv (.int y :: .int x :: st) := by
  obtain ⟨w, p, e, R, s, m, args, below, meth, c, nL, cs, sl, Q⟩ := X
  obtain ⟨hx, hb, hml, hnl, hown, hts, hK, hN, hZD, hR1, hR2, hR3, hR4⟩ := hX
  intro ls H locs h hP hS
  exact lv_ishr hx hb hdg (k ls H locs h hP hS)
theorem z_ineg (hX : OkC X own cc nl fr lo) {x : Int32} (hdg : decode cc pc = .ok (.ineg, 1)) (k : Z X σ (pc + 1) lv (.int (-x) :: st)) : Z X σ pc lv (.int x :: st) := by
  obtain ⟨w, p, e, R, s, m, args, below, meth, c, nL, cs, sl, Q⟩ := X
  obtain ⟨hx, hb, hml, hnl, hown, hts, hK, hN, hZD, hR1, hR2, hR3, hR4⟩ := hX
  intro ls H locs h hP hS
  exact lv_ineg hx hb hdg (k ls H locs h hP hS)
theorem z_irem (hX : OkC X own cc nl fr lo) {x y : Int32} (hdg : decode cc pc = .ok (.irem, 1)) (hne : ¬ y = 0) (k : Z X σ (pc + 1) lv (.int (x - x / y * y) :: st)) : Z X σ pc lv (.int y :: .int x :: st) := by
  obtain ⟨w, p, e, R, s, m, args, below, meth, c, nL, cs, sl, Q⟩ := X
  obtain ⟨hx, hb, hml, hnl, hown, hts, hK, hN, hZD, hR1, hR2, hR3, hR4⟩ := hX
  intro ls H locs h hP hS
  exact lv_irem hx hb hdg hne (k ls H locs h hP hS)
theorem z_idiv (hX : OkC X own cc nl fr lo) {x y : Int32} (hdg : decode cc pc = .ok (.idiv, 1)) (hne : ¬ y = 0) (k : Z X σ (pc + 1) lv (.int (x / y) :: st)) : Z X σ pc lv (.int y :: .int x :: st) := by
  obtain ⟨w, p, e, R, s, m, args, below, meth, c, nL, cs, sl, Q⟩ := X
  obtain ⟨hx, hb, hml, hnl, hown, hts, hK, hN, hZD, hR1, hR2, hR3, hR4⟩ := hX
  intro ls H locs h hP hS
  exact lv_idiv hx hb hdg hne (k ls H locs h hP hS)
theorem z_i2c (hX : OkC X own cc nl fr lo) {x : Int32} (hdg : decode cc pc = .ok (.i2c, 1)) (k : Z X σ (pc + 1) lv (.int ((x.toUInt32 % 65536).toInt32) :: st)) : Z X σ pc lv (.int x :: st) := by
  obtain ⟨w, p, e, R, s, m, args, below, meth, c, nL, cs, sl, Q⟩ := X
  obtain ⟨hx, hb, hml, hnl, hown, hts, hK, hN, hZD, hR1, hR2, hR3, hR4⟩ := hX
  intro ls H locs h hP hS
  exact lv_i2c hx hb hdg rfl (k ls H locs h hP hS)
theorem z_dup (hX : OkC X own cc nl fr lo) {a : Value} (ha : a.category = 1) (hdg : decode cc pc = .ok (.dup, 1)) (k : Z X σ (pc + 1) lv (a :: a :: st)) : Z X σ pc lv (a :: st) := by
  obtain ⟨w, p, e, R, s, m, args, below, meth, c, nL, cs, sl, Q⟩ := X
  obtain ⟨hx, hb, hml, hnl, hown, hts, hK, hN, hZD, hR1, hR2, hR3, hR4⟩ := hX
  intro ls H locs h hP hS
  exact lv_dup hx hb hdg ha (k ls H locs h hP hS)
theorem z_dup2 (hX : OkC X own cc nl fr lo) {a b : Value} (ha : a.category = 1) (hb2 : b.category = 1) (hdg : decode cc pc = .ok (.dup2, 1)) (k : Z X σ (pc + 1) lv (a :: b :: a :: b :: st)) : Z X σ pc lv (a :: b :: st) := by
  obtain ⟨w, p, e, R, s, m, args, below, meth, c, nL, cs, sl, Q⟩ := X
  obtain ⟨hx, hb, hml, hnl, hown, hts, hK, hN, hZD, hR1, hR2, hR3, hR4⟩ := hX
  intro ls H locs h hP hS
  exact lv_dup2_11 hx hb hdg ha hb2 (k ls H locs h hP hS)
theorem z_pop (hX : OkC X own cc nl fr lo) {a : Value} (ha : a.category = 1) (hdg : decode cc pc = .ok (.pop, 1)) (k : Z X σ (pc + 1) lv st) : Z X σ pc lv (a :: st) := by
  obtain ⟨w, p, e, R, s, m, args, below, meth, c, nL, cs, sl, Q⟩ := X
  obtain ⟨hx, hb, hml, hnl, hown, hts, hK, hN, hZD, hR1, hR2, hR3, hR4⟩ := hX
  intro ls H locs h hP hS
  exact lv_pop hx hb hdg ha (k ls H locs h hP hS)
theorem z_goto (hX : OkC X own cc nl fr lo) {off : Int} (tgt : Nat) (ht : (pc : Int) + off = (tgt : Int)) (hdg : decode cc pc = .ok (.goto off, 3)) (k : Z X σ tgt lv st) : Z X σ pc lv (st) := by
  obtain ⟨w, p, e, R, s, m, args, below, meth, c, nL, cs, sl, Q⟩ := X
  obtain ⟨hx, hb, hml, hnl, hown, hts, hK, hN, hZD, hR1, hR2, hR3, hR4⟩ := hX
  intro ls H locs h hP hS
  exact lv_goto hx hb hdg ht (k ls H locs h hP hS)
theorem z_if_eq_t (hX : OkC X own cc nl fr lo) {x : Int32} {off : Int} (tgt : Nat) (ht : (pc : Int) + off = (tgt : Int)) (hdg : decode cc pc = .ok (.ifCond .eq off, 3)) (hc : x = 0) (k : Z X σ tgt lv st) : Z X σ pc lv (.int x :: st) := by
  obtain ⟨w, p, e, R, s, m, args, below, meth, c, nL, cs, sl, Q⟩ := X
  obtain ⟨hx, hb, hml, hnl, hown, hts, hK, hN, hZD, hR1, hR2, hR3, hR4⟩ := hX
  intro ls H locs h hP hS
  exact lv_if_eq hx hb hdg ht (fun _ => k ls H locs h hP hS) (fun q => absurd hc (by first | exact q | exact fun h9 => h9 q))
theorem z_if_eq_f (hX : OkC X own cc nl fr lo) {x : Int32} {off : Int} (tgt : Nat) (ht : (pc : Int) + off = (tgt : Int)) (hdg : decode cc pc = .ok (.ifCond .eq off, 3)) (hc : ¬ x = 0) (k : Z X σ (pc + 3) lv st) : Z X σ pc lv (.int x :: st) := by
  obtain ⟨w, p, e, R, s, m, args, below, meth, c, nL, cs, sl, Q⟩ := X
  obtain ⟨hx, hb, hml, hnl, hown, hts, hK, hN, hZD, hR1, hR2, hR3, hR4⟩ := hX
  intro ls H locs h hP hS
  exact lv_if_eq hx hb hdg ht (fun q => absurd q (by first | exact hc | exact fun h9 => h9 hc)) (fun _ => k ls H locs h hP hS)
theorem z_icmp_eq_t (hX : OkC X own cc nl fr lo) {x y : Int32} {off : Int} (tgt : Nat) (ht : (pc : Int) + off = (tgt : Int)) (hdg : decode cc pc = .ok (.if_icmp .eq off, 3)) (hc : x = y) (k : Z X σ tgt lv st) : Z X σ pc lv (.int y :: .int x :: st) := by
  obtain ⟨w, p, e, R, s, m, args, below, meth, c, nL, cs, sl, Q⟩ := X
  obtain ⟨hx, hb, hml, hnl, hown, hts, hK, hN, hZD, hR1, hR2, hR3, hR4⟩ := hX
  intro ls H locs h hP hS
  exact lv_icmp_eq hx hb hdg ht (fun _ => k ls H locs h hP hS) (fun q => absurd hc (by first | exact q | exact fun h9 => h9 q))
theorem z_icmp_eq_f (hX : OkC X own cc nl fr lo) {x y : Int32} {off : Int} (tgt : Nat) (ht : (pc : Int) + off = (tgt : Int)) (hdg : decode cc pc = .ok (.if_icmp .eq off, 3)) (hc : ¬ x = y) (k : Z X σ (pc + 3) lv st) : Z X σ pc lv (.int y :: .int x :: st) := by
  obtain ⟨w, p, e, R, s, m, args, below, meth, c, nL, cs, sl, Q⟩ := X
  obtain ⟨hx, hb, hml, hnl, hown, hts, hK, hN, hZD, hR1, hR2, hR3, hR4⟩ := hX
  intro ls H locs h hP hS
  exact lv_icmp_eq hx hb hdg ht (fun q => absurd q (by first | exact hc | exact fun h9 => h9 hc)) (fun _ => k ls H locs h hP hS)
theorem z_if_ne_t (hX : OkC X own cc nl fr lo) {x : Int32} {off : Int} (tgt : Nat) (ht : (pc : Int) + off = (tgt : Int)) (hdg : decode cc pc = .ok (.ifCond .ne off, 3)) (hc : ¬ x = 0) (k : Z X σ tgt lv st) : Z X σ pc lv (.int x :: st) := by
  obtain ⟨w, p, e, R, s, m, args, below, meth, c, nL, cs, sl, Q⟩ := X
  obtain ⟨hx, hb, hml, hnl, hown, hts, hK, hN, hZD, hR1, hR2, hR3, hR4⟩ := hX
  intro ls H locs h hP hS
  exact lv_if_ne hx hb hdg ht (fun _ => k ls H locs h hP hS) (fun q => absurd hc (by first | exact q | exact fun h9 => h9 q))
theorem z_if_ne_f (hX : OkC X own cc nl fr lo) {x : Int32} {off : Int} (tgt : Nat) (ht : (pc : Int) + off = (tgt : Int)) (hdg : decode cc pc = .ok (.ifCond .ne off, 3)) (hc : x = 0) (k : Z X σ (pc + 3) lv st) : Z X σ pc lv (.int x :: st) := by
  obtain ⟨w, p, e, R, s, m, args, below, meth, c, nL, cs, sl, Q⟩ := X
  obtain ⟨hx, hb, hml, hnl, hown, hts, hK, hN, hZD, hR1, hR2, hR3, hR4⟩ := hX
  intro ls H locs h hP hS
  exact lv_if_ne hx hb hdg ht (fun q => absurd q (by first | exact hc | exact fun h9 => h9 hc)) (fun _ => k ls H locs h hP hS)
theorem z_icmp_ne_t (hX : OkC X own cc nl fr lo) {x y : Int32} {off : Int} (tgt : Nat) (ht : (pc : Int) + off = (tgt : Int)) (hdg : decode cc pc = .ok (.if_icmp .ne off, 3)) (hc : ¬ x = y) (k : Z X σ tgt lv st) : Z X σ pc lv (.int y :: .int x :: st) := by
  obtain ⟨w, p, e, R, s, m, args, below, meth, c, nL, cs, sl, Q⟩ := X
  obtain ⟨hx, hb, hml, hnl, hown, hts, hK, hN, hZD, hR1, hR2, hR3, hR4⟩ := hX
  intro ls H locs h hP hS
  exact lv_icmp_ne hx hb hdg ht (fun _ => k ls H locs h hP hS) (fun q => absurd hc (by first | exact q | exact fun h9 => h9 q))
theorem z_icmp_ne_f (hX : OkC X own cc nl fr lo) {x y : Int32} {off : Int} (tgt : Nat) (ht : (pc : Int) + off = (tgt : Int)) (hdg : decode cc pc = .ok (.if_icmp .ne off, 3)) (hc : x = y) (k : Z X σ (pc + 3) lv st) : Z X σ pc lv (.int y :: .int x :: st) := by
  obtain ⟨w, p, e, R, s, m, args, below, meth, c, nL, cs, sl, Q⟩ := X
  obtain ⟨hx, hb, hml, hnl, hown, hts, hK, hN, hZD, hR1, hR2, hR3, hR4⟩ := hX
  intro ls H locs h hP hS
  exact lv_icmp_ne hx hb hdg ht (fun q => absurd q (by first | exact hc | exact fun h9 => h9 hc)) (fun _ => k ls H locs h hP hS)
theorem z_if_lt_t (hX : OkC X own cc nl fr lo) {x : Int32} {off : Int} (tgt : Nat) (ht : (pc : Int) + off = (tgt : Int)) (hdg : decode cc pc = .ok (.ifCond .lt off, 3)) (hc : x < 0) (k : Z X σ tgt lv st) : Z X σ pc lv (.int x :: st) := by
  obtain ⟨w, p, e, R, s, m, args, below, meth, c, nL, cs, sl, Q⟩ := X
  obtain ⟨hx, hb, hml, hnl, hown, hts, hK, hN, hZD, hR1, hR2, hR3, hR4⟩ := hX
  intro ls H locs h hP hS
  exact lv_if_lt hx hb hdg ht (fun _ => k ls H locs h hP hS) (fun q => absurd hc (by first | exact q | exact fun h9 => h9 q))
theorem z_if_lt_f (hX : OkC X own cc nl fr lo) {x : Int32} {off : Int} (tgt : Nat) (ht : (pc : Int) + off = (tgt : Int)) (hdg : decode cc pc = .ok (.ifCond .lt off, 3)) (hc : ¬ x < 0) (k : Z X σ (pc + 3) lv st) : Z X σ pc lv (.int x :: st) := by
  obtain ⟨w, p, e, R, s, m, args, below, meth, c, nL, cs, sl, Q⟩ := X
  obtain ⟨hx, hb, hml, hnl, hown, hts, hK, hN, hZD, hR1, hR2, hR3, hR4⟩ := hX
  intro ls H locs h hP hS
  exact lv_if_lt hx hb hdg ht (fun q => absurd q (by first | exact hc | exact fun h9 => h9 hc)) (fun _ => k ls H locs h hP hS)
theorem z_icmp_lt_t (hX : OkC X own cc nl fr lo) {x y : Int32} {off : Int} (tgt : Nat) (ht : (pc : Int) + off = (tgt : Int)) (hdg : decode cc pc = .ok (.if_icmp .lt off, 3)) (hc : x < y) (k : Z X σ tgt lv st) : Z X σ pc lv (.int y :: .int x :: st) := by
  obtain ⟨w, p, e, R, s, m, args, below, meth, c, nL, cs, sl, Q⟩ := X
  obtain ⟨hx, hb, hml, hnl, hown, hts, hK, hN, hZD, hR1, hR2, hR3, hR4⟩ := hX
  intro ls H locs h hP hS
  exact lv_icmp_lt hx hb hdg ht (fun _ => k ls H locs h hP hS) (fun q => absurd hc (by first | exact q | exact fun h9 => h9 q))
theorem z_icmp_lt_f (hX : OkC X own cc nl fr lo) {x y : Int32} {off : Int} (tgt : Nat) (ht : (pc : Int) + off = (tgt : Int)) (hdg : decode cc pc = .ok (.if_icmp .lt off, 3)) (hc : ¬ x < y) (k : Z X σ (pc + 3) lv st) : Z X σ pc lv (.int y :: .int x :: st) := by
  obtain ⟨w, p, e, R, s, m, args, below, meth, c, nL, cs, sl, Q⟩ := X
  obtain ⟨hx, hb, hml, hnl, hown, hts, hK, hN, hZD, hR1, hR2, hR3, hR4⟩ := hX
  intro ls H locs h hP hS
  exact lv_icmp_lt hx hb hdg ht (fun q => absurd q (by first | exact hc | exact fun h9 => h9 hc)) (fun _ => k ls H locs h hP hS)
theorem z_if_ge_t (hX : OkC X own cc nl fr lo) {x : Int32} {off : Int} (tgt : Nat) (ht : (pc : Int) + off = (tgt : Int)) (hdg : decode cc pc = .ok (.ifCond .ge off, 3)) (hc : 0 ≤ x) (k : Z X σ tgt lv st) : Z X σ pc lv (.int x :: st) := by
  obtain ⟨w, p, e, R, s, m, args, below, meth, c, nL, cs, sl, Q⟩ := X
  obtain ⟨hx, hb, hml, hnl, hown, hts, hK, hN, hZD, hR1, hR2, hR3, hR4⟩ := hX
  intro ls H locs h hP hS
  exact lv_if_ge hx hb hdg ht (fun _ => k ls H locs h hP hS) (fun q => absurd hc (by first | exact q | exact fun h9 => h9 q))
theorem z_if_ge_f (hX : OkC X own cc nl fr lo) {x : Int32} {off : Int} (tgt : Nat) (ht : (pc : Int) + off = (tgt : Int)) (hdg : decode cc pc = .ok (.ifCond .ge off, 3)) (hc : ¬ 0 ≤ x) (k : Z X σ (pc + 3) lv st) : Z X σ pc lv (.int x :: st) := by
  obtain ⟨w, p, e, R, s, m, args, below, meth, c, nL, cs, sl, Q⟩ := X
  obtain ⟨hx, hb, hml, hnl, hown, hts, hK, hN, hZD, hR1, hR2, hR3, hR4⟩ := hX
  intro ls H locs h hP hS
  exact lv_if_ge hx hb hdg ht (fun q => absurd q (by first | exact hc | exact fun h9 => h9 hc)) (fun _ => k ls H locs h hP hS)
theorem z_icmp_ge_t (hX : OkC X own cc nl fr lo) {x y : Int32} {off : Int} (tgt : Nat) (ht : (pc : Int) + off = (tgt : Int)) (hdg : decode cc pc = .ok (.if_icmp .ge off, 3)) (hc : y ≤ x) (k : Z X σ tgt lv st) : Z X σ pc lv (.int y :: .int x :: st) := by
  obtain ⟨w, p, e, R, s, m, args, below, meth, c, nL, cs, sl, Q⟩ := X
  obtain ⟨hx, hb, hml, hnl, hown, hts, hK, hN, hZD, hR1, hR2, hR3, hR4⟩ := hX
  intro ls H locs h hP hS
  exact lv_icmp_ge hx hb hdg ht (fun _ => k ls H locs h hP hS) (fun q => absurd hc (by first | exact q | exact fun h9 => h9 q))
theorem z_icmp_ge_f (hX : OkC X own cc nl fr lo) {x y : Int32} {off : Int} (tgt : Nat) (ht : (pc : Int) + off = (tgt : Int)) (hdg : decode cc pc = .ok (.if_icmp .ge off, 3)) (hc : ¬ y ≤ x) (k : Z X σ (pc + 3) lv st) : Z X σ pc lv (.int y :: .int x :: st) := by
  obtain ⟨w, p, e, R, s, m, args, below, meth, c, nL, cs, sl, Q⟩ := X
  obtain ⟨hx, hb, hml, hnl, hown, hts, hK, hN, hZD, hR1, hR2, hR3, hR4⟩ := hX
  intro ls H locs h hP hS
  exact lv_icmp_ge hx hb hdg ht (fun q => absurd q (by first | exact hc | exact fun h9 => h9 hc)) (fun _ => k ls H locs h hP hS)
theorem z_if_gt_t (hX : OkC X own cc nl fr lo) {x : Int32} {off : Int} (tgt : Nat) (ht : (pc : Int) + off = (tgt : Int)) (hdg : decode cc pc = .ok (.ifCond .gt off, 3)) (hc : 0 < x) (k : Z X σ tgt lv st) : Z X σ pc lv (.int x :: st) := by
  obtain ⟨w, p, e, R, s, m, args, below, meth, c, nL, cs, sl, Q⟩ := X
  obtain ⟨hx, hb, hml, hnl, hown, hts, hK, hN, hZD, hR1, hR2, hR3, hR4⟩ := hX
  intro ls H locs h hP hS
  exact lv_if_gt hx hb hdg ht (fun _ => k ls H locs h hP hS) (fun q => absurd hc (by first | exact q | exact fun h9 => h9 q))
theorem z_if_gt_f (hX : OkC X own cc nl fr lo) {x : Int32} {off : Int} (tgt : Nat) (ht : (pc : Int) + off = (tgt : Int)) (hdg : decode cc pc = .ok (.ifCond .gt off, 3)) (hc : ¬ 0 < x) (k : Z X σ (pc + 3) lv st) : Z X σ pc lv (.int x :: st) := by
  obtain ⟨w, p, e, R, s, m, args, below, meth, c, nL, cs, sl, Q⟩ := X
  obtain ⟨hx, hb, hml, hnl, hown, hts, hK, hN, hZD, hR1, hR2, hR3, hR4⟩ := hX
  intro ls H locs h hP hS
  exact lv_if_gt hx hb hdg ht (fun q => absurd q (by first | exact hc | exact fun h9 => h9 hc)) (fun _ => k ls H locs h hP hS)
theorem z_icmp_gt_t (hX : OkC X own cc nl fr lo) {x y : Int32} {off : Int} (tgt : Nat) (ht : (pc : Int) + off = (tgt : Int)) (hdg : decode cc pc = .ok (.if_icmp .gt off, 3)) (hc : y < x) (k : Z X σ tgt lv st) : Z X σ pc lv (.int y :: .int x :: st) := by
  obtain ⟨w, p, e, R, s, m, args, below, meth, c, nL, cs, sl, Q⟩ := X
  obtain ⟨hx, hb, hml, hnl, hown, hts, hK, hN, hZD, hR1, hR2, hR3, hR4⟩ := hX
  intro ls H locs h hP hS
  exact lv_icmp_gt hx hb hdg ht (fun _ => k ls H locs h hP hS) (fun q => absurd hc (by first | exact q | exact fun h9 => h9 q))
theorem z_icmp_gt_f (hX : OkC X own cc nl fr lo) {x y : Int32} {off : Int} (tgt : Nat) (ht : (pc : Int) + off = (tgt : Int)) (hdg : decode cc pc = .ok (.if_icmp .gt off, 3)) (hc : ¬ y < x) (k : Z X σ (pc + 3) lv st) : Z X σ pc lv (.int y :: .int x :: st) := by
  obtain ⟨w, p, e, R, s, m, args, below, meth, c, nL, cs, sl, Q⟩ := X
  obtain ⟨hx, hb, hml, hnl, hown, hts, hK, hN, hZD, hR1, hR2, hR3, hR4⟩ := hX
  intro ls H locs h hP hS
  exact lv_icmp_gt hx hb hdg ht (fun q => absurd q (by first | exact hc | exact fun h9 => h9 hc)) (fun _ => k ls H locs h hP hS)
theorem z_if_le_t (hX : OkC X own cc nl fr lo) {x : Int32} {off : Int} (tgt : Nat) (ht : (pc : Int) + off = (tgt : Int)) (hdg : decode cc pc = .ok (.ifCond .le off, 3)) (hc : x ≤ 0) (k : Z X σ tgt lv st) : Z X σ pc lv (.int x :: st) := by
  obtain ⟨w, p, e, R, s, m, args, below, meth, c, nL, cs, sl, Q⟩ := X
  obtain ⟨hx, hb, hml, hnl, hown, hts, hK, hN, hZD, hR1, hR2, hR3, hR4⟩ := hX
  intro ls H locs h hP hS
  exact lv_if_le hx hb hdg ht (fun _ => k ls H locs h hP hS) (fun q => absurd hc (by first | exact q | exact fun h9 => h9 q))
theorem z_if_le_f (hX : OkC X own cc nl fr lo) {x : Int32} {off : Int} (tgt : Nat) (ht : (pc : Int) + off = (tgt : Int)) (hdg : decode cc pc = .ok (.ifCond .le off, 3)) (hc : ¬ x ≤ 0) (k : Z X σ (pc + 3) lv st) : Z X σ pc lv (.int x :: st) := by
  obtain ⟨w, p, e, R, s, m, args, below, meth, c, nL, cs, sl, Q⟩ := X
  obtain ⟨hx, hb, hml, hnl, hown, hts, hK, hN, hZD, hR1, hR2, hR3, hR4⟩ := hX
  intro ls H locs h hP hS
  exact lv_if_le hx hb hdg ht (fun q => absurd q (by first | exact hc | exact fun h9 => h9 hc)) (fun _ => k ls H locs h hP hS)
theorem z_icmp_le_t (hX : OkC X own cc nl fr lo) {x y : Int32} {off : Int} (tgt : Nat) (ht : (pc : Int) + off = (tgt : Int)) (hdg : decode cc pc = .ok (.if_icmp .le off, 3)) (hc : x ≤ y) (k : Z X σ tgt lv st) : Z X σ pc lv (.int y :: .int x :: st) := by
  obtain ⟨w, p, e, R, s, m, args, below, meth, c, nL, cs, sl, Q⟩ := X
  obtain ⟨hx, hb, hml, hnl, hown, hts, hK, hN, hZD, hR1, hR2, hR3, hR4⟩ := hX
  intro ls H locs h hP hS
  exact lv_icmp_le hx hb hdg ht (fun _ => k ls H locs h hP hS) (fun q => absurd hc (by first | exact q | exact fun h9 => h9 q))
theorem z_icmp_le_f (hX : OkC X own cc nl fr lo) {x y : Int32} {off : Int} (tgt : Nat) (ht : (pc : Int) + off = (tgt : Int)) (hdg : decode cc pc = .ok (.if_icmp .le off, 3)) (hc : ¬ x ≤ y) (k : Z X σ (pc + 3) lv st) : Z X σ pc lv (.int y :: .int x :: st) := by
  obtain ⟨w, p, e, R, s, m, args, below, meth, c, nL, cs, sl, Q⟩ := X
  obtain ⟨hx, hb, hml, hnl, hown, hts, hK, hN, hZD, hR1, hR2, hR3, hR4⟩ := hX
  intro ls H locs h hP hS
  exact lv_icmp_le hx hb hdg ht (fun q => absurd q (by first | exact hc | exact fun h9 => h9 hc)) (fun _ => k ls H locs h hP hS)
theorem z_lookup (hX : OkC X own cc nl fr lo) {dflt : Int} {ps : Array (Int × Int)} {len : Nat} {x : Int32} {off : Int} (tgt : Nat) (hp : (ps.toList.zip (ps.toList.drop 1)).all (fun (a, next) => a.1 < next.1) = true) (ho : Op.lookupswitch.offset ps.toList dflt x.toInt = off) (ht : (pc : Int) + off = (tgt : Int)) (hdg : decode cc pc = .ok (.lookupswitch dflt ps, len)) (k : Z X σ tgt lv st) : Z X σ pc lv (.int x :: st) := by
  obtain ⟨w, p, e, R, s, m, args, below, meth, c, nL, cs, sl, Q⟩ := X
  obtain ⟨hx, hb, hml, hnl, hown, hts, hK, hN, hZD, hR1, hR2, hR3, hR4⟩ := hX
  intro ls H locs h hP hS
  exact lv_lookup hx hb hdg hp ho ht (k ls H locs h hP hS)
theorem z_tabOut (hX : OkC X own cc nl fr lo) {dflt a b : Int} {offs : Array Int} {len : Nat} {x : Int32} (tgt : Nat) (hc : x.toInt < a ∨ b < x.toInt) (ht : (pc : Int) + dflt = (tgt : Int)) (hdg : decode cc pc = .ok (.tableswitch dflt a b offs, len)) (k : Z X σ tgt lv st) : Z X σ pc lv (.int x :: st) := by
  obtain ⟨w, p, e, R, s, m, args, below, meth, c, nL, cs, sl, Q⟩ := X
  obtain ⟨hx, hb, hml, hnl, hown, hts, hK, hN, hZD, hR1, hR2, hR3, hR4⟩ := hX
  intro ls H locs h hP hS
  exact lv_tableOut hx hb hdg hc ht (k ls H locs h hP hS)
theorem z_tabIn (hX : OkC X own cc nl fr lo) {dflt a b : Int} {offs : Array Int} {len : Nat} {x : Int32} {off : Int} (tgt : Nat) (h1 : ¬ x.toInt < a) (h2 : ¬ b < x.toInt) (ho : offs[(x.toInt - a).toNat]? = some off) (ht : (pc : Int) + off = (tgt : Int)) (hdg : decode cc pc = .ok (.tableswitch dflt a b offs, len)) (k : Z X σ tgt lv st) : Z X σ pc lv (.int x :: st) := by
  obtain ⟨w, p, e, R, s, m, args, below, meth, c, nL, cs, sl, Q⟩ := X
  obtain ⟨hx, hb, hml, hnl, hown, hts, hK, hN, hZD, hR1, hR2, hR3, hR4⟩ := hX
  intro ls H locs h hP hS
  exact lv_tableIn hx hb hdg h1 h2 ho ht (k ls H locs h hP hS)
theorem z_get (hX : OkC X own cc nl fr lo) {ref C : String} {T : u_T} {N ci idx j : Nat} (hin : ∀ x ∈ u_ws C T N, x ∈ wsA) (hj : j < 150) {fs : List Value} (hcell : cellE (wcy X.1) (wad X.1) σ j = .inr (ci, fs)) (hc : zcl[ci]? = some (C, T, N)) (f : Nat) (hk : f < N) (hlink : Cond.fieldLink own idx ref (T f).2.1 (T f).2.2.1 ∈ wsA) (href : (T f).1 = ref) {x : Value} (hv : fs[f]? = some x) (hdg : decode cc pc = .ok (.getfield idx, 3)) (k : Z X σ (pc + 3) lv (x :: st)) : Z X σ pc lv (rf X.1 j :: st) := by
  obtain ⟨w, p, e, R, s, m, args, below, meth, c, nL, cs, sl, Q⟩ := X
  obtain ⟨hx, hb, hml, hnl, hown, hts, hK, hN, hZD, hR1, hR2, hR3, hR4⟩ := hX
  intro ls H locs h hP hS
  exact va_get hx hb hts hin hown hK hP j (by rw [zw_get hj, hcell]) hc f hk (hts _ hlink) (fun x h9 => by rw [← href]; exact h9) hv hdg (k ls H locs h hP hS)
theorem z_put (hX : OkC X own cc nl fr lo) {ref C : String} {T : u_T} {N ci idx j : Nat} (hin : ∀ x ∈ u_ws C T N, x ∈ wsA) (ty0 : Nat → FieldType) (hty : ∀ k, k < N → parseFieldDescriptor (T k).2.2.1 = some (ty0 k)) (hnm : ∀ a, a < N → ∀ b, b < N → a ≠ b → (T a).2.1 ≠ (T b).2.1) (hj : j < 150) {fs : List Value} (hcell : cellE (wcy X.1) (wad X.1) σ j = .inr (ci, fs)) (hc : zcl[ci]? = some (C, T, N)) (f : Nat) (hk : f < N) (hlink : Cond.fieldLink own idx ref (T f).2.1 (T f).2.2.1 ∈ wsA) (href : (T f).1 = ref) (hfin : (T f).2.2.2 = false) {ty : FieldType} (hd : parseFieldDescriptor (T f).2.2.1 = some ty) {x : Int32} (hn : narrow ty (.int x) = .int x) (hfit : fits ty (.int x) = true) (hl : f < fs.length) (hcell2 : cellE (wcy X.1) (wad X.1) (wr σ j f x) j = .inr (ci, fs.set f (.int x))) (hdg : decode cc pc = .ok (.putfield idx, 3)) (k : Z X (wr σ j f x) (pc + 3) lv st) : Z X σ pc lv (.int x :: rf X.1 j :: st) := by
  obtain ⟨w, p, e, R, s, m, args, below, meth, c, nL, cs, sl, Q⟩ := X
  obtain ⟨hx, hb, hml, hnl, hown, hts, hK, hN, hZD, hR1, hR2, hR3, hR4⟩ := hX
  intro ls H locs h hP hS
  refine va_put hx hb hts hin ty0 hty hnm hown hK hP (hZD σ) hS j (by rw [zw_get hj, hcell]) hc f hk (hts _ hlink) (fun x h9 => by rw [← href]; exact h9) hfin hd hn hfit hl hdg (fun H1 locs1 hP1 _ hS1 => ?_)
  rw [zw_set hj hcell2] at hP1
  exact k ls H1 locs1 h hP1 hS1
theorem z_iald (hX : OkC X own cc nl fr lo) {j n : Nat} {i : Int32} (hj : kd j = 9) (hn : ln j = n) (hi : vp_in i n) (hdg : decode cc pc = .ok (.iaload, 1)) (k : Z X σ (pc + 1) lv (.int (σ j (ix i)) :: st)) : Z X σ pc lv (.int i :: rf X.1 j :: st) := by
  obtain ⟨w, p, e, R, s, m, args, below, meth, c, nL, cs, sl, Q⟩ := X
  obtain ⟨hx, hb, hml, hnl, hown, hts, hK, hN, hZD, hR1, hR2, hR3, hR4⟩ := hX
  intro ls H locs h hP hS
  exact va_iald hx hb hK hP j 0 (n := n) (f := σ j) (by rw [zw_get (kd_lt hj (by decide)), cellE_arr9 hj, hn]) rfl hi hdg (k ls H locs h hP hS)
theorem z_cald (hX : OkC X own cc nl fr lo) {j n : Nat} {i : Int32} (hj : kd j = 10) (hn : ln j = n) (hi : vp_in i n) (hdg : decode cc pc = .ok (.caload, 1)) (k : Z X σ (pc + 1) lv (.int (σ j (ix i)) :: st)) : Z X σ pc lv (.int i :: rf X.1 j :: st) := by
  obtain ⟨w, p, e, R, s, m, args, below, meth, c, nL, cs, sl, Q⟩ := X
  obtain ⟨hx, hb, hml, hnl, hown, hts, hK, hN, hZD, hR1, hR2, hR3, hR4⟩ := hX
  intro ls H locs h hP hS
  exact va_cald hx hb hK hP j 1 (n := n) (f := σ j) (by rw [zw_get (kd_lt hj (by decide)), cellE_arr10 hj, hn]) rfl hi hdg (k ls H locs h hP hS)
theorem z_zald (hX : OkC X own cc nl fr lo) {j n : Nat} {i : Int32} (hj : kd j = 11) (hn : ln j = n) (hi : vp_in i n) (hdg : decode cc pc = .ok (.baload, 1)) (k : Z X σ (pc + 1) lv (.int (σ j (ix i)) :: st)) : Z X σ pc lv (.int i :: rf X.1 j :: st) := by
  obtain ⟨w, p, e, R, s, m, args, below, meth, c, nL, cs, sl, Q⟩ := X
  obtain ⟨hx, hb, hml, hnl, hown, hts, hK, hN, hZD, hR1, hR2, hR3, hR4⟩ := hX
  intro ls H locs h hP hS
  exact va_zald hx hb hK hP j 2 (n := n) (f := σ j) (by rw [zw_get (kd_lt hj (by decide)), cellE_arr11 hj, hn]) rfl hi hdg (k ls H locs h hP hS)
theorem z_iast (hX : OkC X own cc nl fr lo) {j n : Nat} {i x : Int32} (hj : kd j = 9) (hn : ln j = n) (hi : vp_in i n) (hdg : decode cc pc = .ok (.iastore, 1)) (k : Z X (wr σ j (ix i) (x)) (pc + 1) lv st) : Z X σ pc lv (.int x :: .int i :: rf X.1 j :: st) := by
  obtain ⟨w, p, e, R, s, m, args, below, meth, c, nL, cs, sl, Q⟩ := X
  obtain ⟨hx, hb, hml, hnl, hown, hts, hK, hN, hZD, hR1, hR2, hR3, hR4⟩ := hX
  intro ls H locs h hP hS
  refine va_iast hx hb hK hP (hZD σ) hS j 0 (n := n) (f := σ j) (by rw [zw_get (kd_lt hj (by decide)), cellE_arr9 hj, hn]) rfl hi hdg (fun H1 locs1 hP1 _ hS1 => ?_)
  rw [zw_set (f := upd (σ j) (ix i) (x)) (kd_lt hj (by decide)) (by rw [cellE_arr9 hj, hn, wrA_s])] at hP1
  exact k ls H1 locs1 h hP1 hS1
theorem z_cast (hX : OkC X own cc nl fr lo) {j n : Nat} {i x : Int32} (hj : kd j = 10) (hn : ln j = n) (hi : vp_in i n) (hdg : decode cc pc = .ok (.castore, 1)) (k : Z X (wr σ j (ix i) (vp_nar .char x)) (pc + 1) lv st) : Z X σ pc lv (.int x :: .int i :: rf X.1 j :: st) := by
  obtain ⟨w, p, e, R, s, m, args, below, meth, c, nL, cs, sl, Q⟩ := X
  obtain ⟨hx, hb, hml, hnl, hown, hts, hK, hN, hZD, hR1, hR2, hR3, hR4⟩ := hX
  intro ls H locs h hP hS
  refine va_cast hx hb hK hP (hZD σ) hS j 1 (n := n) (f := σ j) (by rw [zw_get (kd_lt hj (by decide)), cellE_arr10 hj, hn]) rfl hi hdg (fun H1 locs1 hP1 _ hS1 => ?_)
  rw [zw_set (f := upd (σ j) (ix i) (vp_nar .char x)) (kd_lt hj (by decide)) (by rw [cellE_arr10 hj, hn, wrA_s])] at hP1
  exact k ls H1 locs1 h hP1 hS1
theorem z_zast (hX : OkC X own cc nl fr lo) {j n : Nat} {i x : Int32} (hj : kd j = 11) (hn : ln j = n) (hi : vp_in i n) (hdg : decode cc pc = .ok (.bastore, 1)) (k : Z X (wr σ j (ix i) (vp_nar .boolean x)) (pc + 1) lv st) : Z X σ pc lv (.int x :: .int i :: rf X.1 j :: st) := by
  obtain ⟨w, p, e, R, s, m, args, below, meth, c, nL, cs, sl, Q⟩ := X
  obtain ⟨hx, hb, hml, hnl, hown, hts, hK, hN, hZD, hR1, hR2, hR3, hR4⟩ := hX
  intro ls H locs h hP hS
  refine va_zast hx hb hK hP (hZD σ) hS j 2 (n := n) (f := σ j) (by rw [zw_get (kd_lt hj (by decide)), cellE_arr11 hj, hn]) rfl hi hdg (fun H1 locs1 hP1 _ hS1 => ?_)
  rw [zw_set (f := upd (σ j) (ix i) (vp_nar .boolean x)) (kd_lt hj (by decide)) (by rw [cellE_arr11 hj, hn, wrA_s])] at hP1
  exact k ls H1 locs1 h hP1 hS1
theorem z_aald (hX : OkC X own cc nl fr lo) {j n : Nat} {i : Int32} (hj : kd j = 12) (hn : ln j = n) (hi : vp_in i n) (hdg : decode cc pc = .ok (.aaload, 1)) (k : Z X σ (pc + 1) lv (rf X.1 (ix (σ j (ix i))) :: st)) : Z X σ pc lv (.int i :: rf X.1 j :: st) := by
  obtain ⟨w, p, e, R, s, m, args, below, meth, c, nL, cs, sl, Q⟩ := X
  obtain ⟨hx, hb, hml, hnl, hown, hts, hK, hN, hZD, hR1, hR2, hR3, hR4⟩ := hX
  intro ls H locs h hP hS
  exact va_aldq hx hb hK hP j 3 (n := n) (f := fun k9 => some (w.2.2.2.1 (ix (σ j k9)))) (by rw [zw_get (kd_lt hj (by decide)), cellE_arr12 hj, hn]) rfl hi hdg (k ls H locs h hP hS)
theorem z_aast (hX : OkC X own cc nl fr lo) {j n q : Nat} {i : Int32} (hj : kd j = 12) (hn : ln j = n) (hq : kd q = 4) (hi : vp_in i n) (hdg : decode cc pc = .ok (.aastore, 1)) (k : Z X (wr σ j (ix i) (nI q)) (pc + 1) lv st) : Z X σ pc lv (rf X.1 q :: .int i :: rf X.1 j :: st) := by
  obtain ⟨w, p, e, R, s, m, args, below, meth, c, nL, cs, sl, Q⟩ := X
  obtain ⟨hx, hb, hml, hnl, hown, hts, hK, hN, hZD, hR1, hR2, hR3, hR4⟩ := hX
  intro ls H locs h hP hS
  obtain ⟨vs9, hvs9⟩ := cellE_st (cy := w.2.2.1) (ad := w.2.2.2.1) (σ := σ) hq
  refine va_astq hx hb hK hP (hZD σ) hS j 3 q 4 (n := n) (r := (RX4, TX4, 10)) (by rw [zw_get (kd_lt hj (by decide)), cellE_arr12 hj, hn]) rfl (by rw [zw_get (kd_lt hq (by decide)), hvs9]) rfl hi hdg (fun H1 locs1 hP1 _ hS1 => ?_)
  rw [zw_set (f := upd (σ j) (ix i) (nI q)) (kd_lt hj (by decide)) (by
    rw [cellE_arr12 hj, hn, wrA_s]
    refine congrArg (fun f => (Sum.inl (w.2.2.1 3, n, Sum.inr (Sum.inr (Sum.inr (Sum.inr f)))) : va_E)) ?_
    funext x
    by_cases hx9 : x = ix i
    · subst hx9
      simp only [upd, va_up, if_true]
      rw [show ix (nI q) = q from nI_clamp (Nat.lt_trans (kd_lt hq (by decide)) (by decide))]
    · simp only [upd, va_up, if_neg hx9])] at hP1
  exact k ls H1 locs1 h hP1 hS1
theorem z_copyI (hX : OkC X own cc nl fr lo) {idx j0 j1 n0 n1 : Nat} {sp dp n : Int32} (hlink : Cond.methodLink own idx arraycopyName ∈ wsA) (hj0 : kd j0 = 9) (hj1 : kd j1 = 9) (hn0 : ln j0 = n0) (hn1 : ln j1 = n1) (h1 : ¬ sp < 0) (h2 : ¬ dp < 0) (h3 : ¬ n < 0) (h4 : ix sp + ix n ≤ n0) (h5 : ix dp + ix n ≤ n1) (hfit : ∀ i, i < ix n → fits .int (.int (σ j0 (ix sp + i))) = true) (hfr : 1 ≤ fr) (hlo : (st.map fun v => v.category).sum + 18 ≤ lo) (hdg : decode cc pc = .ok (.invokestatic idx, 3)) (k : Z X (wrA σ j1 (va_cpy (σ j0) (σ j1) (ix sp) (ix dp) (ix n))) (pc + 3) lv st) : Z X σ pc lv (.int n :: .int dp :: rf X.1 j1 :: .int sp :: rf X.1 j0 :: st) := by
  obtain ⟨w, p, e, R, s, m, args, below, meth, c, nL, cs, sl, Q⟩ := X
  obtain ⟨hx, hb, hml, hnl, hown, hts, hK, hN, hZD, hR1, hR2, hR3, hR4⟩ := hX
  intro ls H locs h hP hS
  subst hR1; subst hR2
  refine va_copyi hx hb (hml.trans h.1.symm) hown (hts _ hlink) (hts _ m_native) (hts _ m_acstat) (hts _ m_sysini) hK hP (hZD σ) hS j0 j1 0 0 (n0 := n0) (n1 := n1) (f := σ j0) (g := σ j1) (by rw [zw_get (kd_lt hj0 (by decide)), cellE_arr9 hj0, hn0]) (by rw [zw_get (kd_lt hj1 (by decide)), cellE_arr9 hj1, hn1]) rfl rfl rfl h1 h2 h3 h4 h5 hfit hfr (by show _ + (nativeFrameWords "java/lang/System" "arraycopy" 5 + 11) ≤ R.locals; rw [show nativeFrameWords "java/lang/System" "arraycopy" 5 = 7 from by decide +kernel]; exact hlo) hdg (fun H1 locs1 hP1 _ hS1 => ?_)
  rw [zw_set (f := va_cpy (σ j0) (σ j1) (ix sp) (ix dp) (ix n)) (kd_lt hj1 (by decide)) (by rw [cellE_arr9 hj1, hn1, wrA_s])] at hP1
  exact k ls H1 locs1 h hP1 hS1
theorem z_copyC (hX : OkC X own cc nl fr lo) {idx j0 j1 n0 n1 : Nat} {sp dp n : Int32} (hlink : Cond.methodLink own idx arraycopyName ∈ wsA) (hj0 : kd j0 = 10) (hj1 : kd j1 = 10) (hn0 : ln j0 = n0) (hn1 : ln j1 = n1) (h1 : ¬ sp < 0) (h2 : ¬ dp < 0) (h3 : ¬ n < 0) (h4 : ix sp + ix n ≤ n0) (h5 : ix dp + ix n ≤ n1) (hfit : ∀ i, i < ix n → fits .char (.int (σ j0 (ix sp + i))) = true) (hfr : 1 ≤ fr) (hlo : (st.map fun v => v.category).sum + 18 ≤ lo) (hdg : decode cc pc = .ok (.invokestatic idx, 3)) (k : Z X (wrA σ j1 (va_cpy (σ j0) (σ j1) (ix sp) (ix dp) (ix n))) (pc + 3) lv st) : Z X σ pc lv (.int n :: .int dp :: rf X.1 j1 :: .int sp :: rf X.1 j0 :: st) := by
  obtain ⟨w, p, e, R, s, m, args, below, meth, c, nL, cs, sl, Q⟩ := X
  obtain ⟨hx, hb, hml, hnl, hown, hts, hK, hN, hZD, hR1, hR2, hR3, hR4⟩ := hX
  intro ls H locs h hP hS
  subst hR1; subst hR2
  refine va_copyi hx hb (hml.trans h.1.symm) hown (hts _ hlink) (hts _ m_native) (hts _ m_acstat) (hts _ m_sysini) hK hP (hZD σ) hS j0 j1 1 1 (n0 := n0) (n1 := n1) (f := σ j0) (g := σ j1) (by rw [zw_get (kd_lt hj0 (by decide)), cellE_arr10 hj0, hn0]) (by rw [zw_get (kd_lt hj1 (by decide)), cellE_arr10 hj1, hn1]) rfl rfl rfl h1 h2 h3 h4 h5 hfit hfr (by show _ + (nativeFrameWords "java/lang/System" "arraycopy" 5 + 11) ≤ R.locals; rw [show nativeFrameWords "java/lang/System" "arraycopy" 5 = 7 from by decide +kernel]; exact hlo) hdg (fun H1 locs1 hP1 _ hS1 => ?_)
  rw [zw_set (f := va_cpy (σ j0) (σ j1) (ix sp) (ix dp) (ix n)) (kd_lt hj1 (by decide)) (by rw [cellE_arr10 hj1, hn1, wrA_s])] at hP1
  exact k ls H1 locs1 h hP1 hS1
theorem z_min (hX : OkC X own cc nl fr lo) {idx : Nat} {x y : Int32} (hlink : Cond.methodLink own idx Lib.Math.min.name ∈ wsA) (hfr : 1 ≤ fr) (hlo : (st.map fun v => v.category).sum + 13 ≤ lo) (hdg : decode cc pc = .ok (.invokestatic idx, 3)) (k : Z X σ (pc + 3) lv (.int (if y < x then y else x) :: st)) : Z X σ pc lv (.int y :: .int x :: st) := by
  obtain ⟨w, p, e, R, s, m, args, below, meth, c, nL, cs, sl, Q⟩ := X
  obtain ⟨hx, hb, hml, hnl, hown, hts, hK, hN, hZD, hR1, hR2, hR3, hR4⟩ := hX
  intro ls H locs h hP hS
  subst hR1; subst hR2
  exact va_mmin hx hb (hml.trans h.1.symm) hown (hts _ hlink) (hts _ m_minstat) (hts _ m_matini) (hts _ m_mincode) hfr hlo hR3 hR4 hdg (k ls H locs h hP hS)
theorem z_top {x e : Int32} (hx : x = e) (k : Z X σ pc lv (.int x :: st)) : Z X σ pc lv (.int e :: st) := hx ▸ k
theorem z_topr {q e : Nat} (hx : q = e) (k : Z X σ pc lv (rf X.1 q :: st)) : Z X σ pc lv (rf X.1 e :: st) := hx ▸ k
theorem z_ms {σ0 σ1 : HP} (hs : σ1 = σ0) (k : Z X σ1 pc lv st) : Z X σ0 pc lv st := hs ▸ k
end ZR
/-! what a reading of the code is made of -/
noncomputable def gd {α : Type} (c : Prop) (k : Option α) : Option α := @ite _ c (Classical.propDecidable c) k none
def bd {α β : Type} (a : α) (f : α → β) : β := f a
def bind2 {α β γ : Type} (o : Option (α × β)) (f : α → β → Option γ) : Option γ := o.bind (fun q => f q.1 q.2)
theorem gd_some {α : Type} {c : Prop} {k : Option α} {r : α} (h : gd c k = some r) : c ∧ k = some r := by
  unfold gd at h
  split at h
  · exact ⟨by assumption, h⟩
  · cases h
theorem gd_t {α : Type} {c : Prop} {k : Option α} (h : c) : gd c k = k := by unfold gd; rw [if_pos h]
theorem bd_some {α β : Type} {a : α} {f : α → Option β} {r : β} (h : bd a f = some r) : ∃ x, x = a ∧ f x = some r := ⟨a, rfl, h⟩
theorem bind_some {α β : Type} {o : Option α} {f : α → Option β} {r : β} (h : o.bind f = some r) : ∃ x, o = some x ∧ f x = some r := by
  cases o with
  | none => cases h
  | some x => exact ⟨x, rfl, h⟩
theorem bind2_some {α β γ : Type} {o : Option (α × β)} {f : α → β → Option γ} {r : γ} (h : bind2 o f = some r) : ∃ x y, o = some (x, y) ∧ f x y = some r := by
  cases o with
  | none => cases h
  | some q => exact ⟨q.1, q.2, rfl, h⟩
theorem ite_or {α : Type} {c : Prop} [Decidable c] {a b : Option α} {r : α} (h : (if c then a else b) = some r) : (c ∧ a = some r) ∨ (¬ c ∧ b = some r) := by
  split at h
  · exact Or.inl ⟨by assumption, h⟩
  · exact Or.inr ⟨by assumption, h⟩
theorem nb01 {r : Int32} (h : r = 0 ∨ r = 1) : narrow .boolean (.int r) = .int r := by rcases h with rfl | rfl <;> rfl
