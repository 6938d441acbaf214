/-! ===== ends, contracts, calls over Z ===== -/
theorem wsA_good {c : Cond} (h : c ∈ wsA) : c ∈ wsA ∧ ((c.onTables && c.keeps) = true ∨ ∃ ty, c = .arrayClass ty) := ⟨h, good_of_word (List.mem_filter.mp h).2⟩
theorem wsA_in {y : MethodName} {bytes : ByteArray} {n : Nat} {ret : Option FieldType} (h : Cond.code y bytes n ret ∈ wsA) : GoodIn wsA (ZMw y bytes n ret) := fun c hc => by
  rcases List.mem_cons.mp hc with rfl | q
  · exact wsA_good h
  · exact wsA_good q
def MthB (y : MethodName) (bytes : ByteArray) (n : Nat) (ret : Option FieldType) (np : Nat) : Prop :=
  Cond.code y bytes n ret ∈ wsA ∧ Cond.initialized y.cls ∈ wsA ∧ (y.cls ≠ "java/lang/invoke/MethodHandle" ∧ y.cls ≠ "java/lang/invoke/VarHandle") ∧ (parseMethodDescriptor y.desc).map (fun d => d.parameters.length) = some np
def MthV (y : MethodName) (bytes : ByteArray) (n : Nat) (ret : Option FieldType) (np : Nat) : Prop := MthB y bytes n ret np ∧ Cond.instanceMethod y ∈ wsA ∧ Cond.selects y.cls y y ∈ wsA
def MthS (y : MethodName) (bytes : ByteArray) (n : Nat) (ret : Option FieldType) (np : Nat) : Prop := MthB y bytes n ret np ∧ Cond.static y ∈ wsA
theorem ZN_same {u U : State} (h : u.vm = U.vm) (q : ZN u) : ZN U := ⟨va_Nw.same rfl h q.1, va_Nw.same rfl h q.2⟩
theorem ZN_warm {s U : State} (hW : s.WarmedH U.vm) (q : ZN s) : ZN U := ⟨va_Nw.warmM hW q.1, va_Nw.warmM hW q.2⟩
theorem z_blind {w : WP} {av : List Value} {σ : HP} : FrameBlind (va_Pc av (fun U => ZP w σ U.heap ∧ va_K (wD w) zcl (ztys (wcy w)) U ∧ ZN U ∧ ZD w)) := fun a U g mk q =>
  ⟨q.1, q.2.1, va_K.moved (u := U) (U := U.calling g mk a) (Vm.Alike.refl U.vm) q.2.2.1, ZN_same (u := U) (U := U.calling g mk a) rfl q.2.2.2.1, q.2.2.2.2⟩
section ZC
variable {X : CX} {σ : HP} {pc : Nat} {lv : List (Nat × Value)} {st : List Value} {own : String} {cc : ByteArray} {nl fr lo : Nat} {ret : Option FieldType} {v : Option Value} {σe : HP}
theorem z_iret {r : Int32} (hR : OkX X own cc nl fr lo (some .int) (some (.int r)) σ) (hdg : decode cc pc = .ok (.ireturn, 1)) : Z X σ pc lv [.int r] := by
  obtain ⟨w, p, e, R, s, m, args, below, meth, c, nL, cs, sl, Q⟩ := X
  obtain ⟨⟨hx, hb, hml, hnl, hown, hts, hK, hN, hZD, hR1, hR2, hR3, hR4⟩, hlk, hret, hQ⟩ := hR
  intro ls H locs h hP hS
  subst hQ
  exact W.iret hx hb hret (fun t ht hW => ⟨rfl, by rw [ht]; exact hP, hS.F ht⟩) hS.2.2 hdg hlk
theorem z_zret {r : Int32} {ty : FieldType} (hR : OkX X own cc nl fr lo (some ty) (some (.int r)) σ) (hn : narrow ty (.int r) = .int r) (hdg : decode cc pc = .ok (.ireturn, 1)) : Z X σ pc lv [.int r] := by
  obtain ⟨w, p, e, R, s, m, args, below, meth, c, nL, cs, sl, Q⟩ := X
  obtain ⟨⟨hx, hb, hml, hnl, hown, hts, hK, hN, hZD, hR1, hR2, hR3, hR4⟩, hlk, hret, hQ⟩ := hR
  intro ls H locs h hP hS
  subst hQ
  exact W.zret hx hb hret hn (fun t ht hW => ⟨rfl, by rw [ht]; exact hP, hS.F ht⟩) hS.2.2 hdg hlk
theorem z_vret (hR : OkX X own cc nl fr lo none none σ) (hdg : decode cc pc = .ok (.return_, 1)) : Z X σ pc lv [] := by
  obtain ⟨w, p, e, R, s, m, args, below, meth, c, nL, cs, sl, Q⟩ := X
  obtain ⟨⟨hx, hb, hml, hnl, hown, hts, hK, hN, hZD, hR1, hR2, hR3, hR4⟩, hlk, hret, hQ⟩ := hR
  intro ls H locs h hP hS
  subst hQ
  exact W.vret hx hb hret (fun t ht hW => ⟨rfl, by rw [ht]; exact hP, hS.F ht⟩) hS.2.2 hdg hlk
theorem z_met (w : WP) {y : MethodName} {n : Nat} {av : List Value} {σ' : HP} (hy : plainName y.cls = true) (hav : (lg_sl av).length ≤ n) (body : ∀ X : CX, X.1 = w → OkX X y.cls cc n fr lo ret v σ' → Z X σ 0 (lv_args 0 av) []) : Ct w y cc n ret fr lo av σ v σ' := by
  refine Met.ofW (cc := cc) (maxL := n) (ret := ret) hy rfl ?_
  intro p e s m args below meth c s₁ B hml hv
  obtain ⟨rfl, hP, hK, hN, hD⟩ := hv
  have hts := atoms_spec (ws := ZMw y cc n ret) B.pre
  have K := body (w, p, e, rmF fr lo, s, m, av.toArray, below, meth, c, n, 0, 0, MQ below (QV w v σ') av.toArray s 0 0 (wA w)) rfl ⟨⟨B.exec, B.bytes, hml, rfl, findClass_of_methodNamed B.named, fun x hx => hts x (List.mem_cons_of_mem _ hx), hK, hN, hD, rfl, rfl, Nat.le_refl _, Nat.le_refl _⟩, B.notSynchronized, B.returns, rfl⟩
  rw [lg_entry_eq]
  exact K _ _ _ (lv_entry av hav) hP va_S.rf
/-- behind a call -/
theorem z_back {w : WP} {p : Program} {e : Env} {R : Room} {s : State} {m : MethodId} {args : Array Value} {below : List Frame} {meth : Method} {c : Code} {H : Heap} {locs : List Loc} {Q : State → Prop} {ls : Array Slot} {nL cs sl : Nat} {st0 : List Value} {a : Array Value} {v2 : Option Value} {σ2 : HP}
    (hr : va_Run p w.1 e R s m args below meth c H locs cs sl 0 0 (F0 m pc ls st0) st (QV w v2 σ2 a) (wA w)) (hS : va_S (wA w) s.heap H locs) (h : lv_has ls nL lv) (k : Z (w, p, e, R, s, m, args, below, meth, c, nL, cs, sl, Q) σ2 (pc + 3) lv (v2.toList ++ st)) : W p w.1 e R s m args below meth c H locs cs sl Q (F0 m pc ls st0) := by
  intro T hT X
  obtain ⟨v, st₀, t, T', L, h0, X', hL, e1, e2, ⟨hv, hP2, hz, hk⟩, stp⟩ := hr T hT X
  cases hv
  rw [h0] at hz hk
  obtain ⟨t2, a1, b1⟩ := k ls T'.heap (locs ++ L) h (by rw [e1]; exact hP2)
    ⟨Nat.le_trans hS.1 (by rw [e1]; exact hz), fun q h1 h2 => by rw [e1, hk q (Nat.lt_of_lt_of_le h1 hS.1) h2]; exact hS.2.1 q h1 h2, fun q hq => by
      rcases List.mem_append.mp hq with h | h
      · exact hS.2.2 q h
      · exact hL q h⟩ T' rfl X'
  exact ⟨t2, stp t2 a1, b1⟩
theorem z_callV (hX : OkC X own cc nl fr lo) {y : MethodName} {bytes : ByteArray} {n np idx j ci fr2 lo2 N : Nat} {ret2 : Option FieldType} {T : u_T} {fs : List Value} {As : List Value} {v2 : Option Value} {σ2 : HP} {st0 : List Value}
    (hM : MthV y bytes n ret2 np) (hlink : Cond.methodLink own idx y ∈ wsA) (hj : j < 150) (hcell : cellE (wcy X.1) (wad X.1) σ j = .inr (ci, fs)) (hc : zcl[ci]? = some (y.cls, T, N)) (hC : Ct X.1 y bytes n ret2 fr2 lo2 (rf X.1 j :: As) σ v2 σ2) (hn : As.length = np) (hfr : fr2 + 1 ≤ fr) (hlo : 8 + (n + 11) + lo2 ≤ lo)
    (hst0 : st0 = As.reverse ++ rf X.1 j :: st) (hW : (st.map fun v => v.category).sum ≤ 8) (hdg : decode cc pc = .ok (.invokevirtual idx, 3)) (k : Z X σ2 (pc + 3) lv (v2.toList ++ st)) : Z X σ pc lv st0 := by
  obtain ⟨w, p, e, R, s, m, args, below, meth, c, nL, cs, sl, Q⟩ := X
  obtain ⟨hx, hb, hml, hnl, hown, hts, hK, hN, hZD, hR1, hR2, hR3, hR4⟩ := hX
  obtain ⟨⟨hcode, hini, hMH, hdesc⟩, hinst, hsel⟩ := hM
  intro ls H locs h hP hS
  subst hR1; subst hR2
  refine z_back (va_runV (y := y) (C := y.cls) (As := As) (rest := st) (g := F0 m pc ls st0) (mc := 0) (ms := 0) ⟨hx, hb, hml, hown, hts⟩ hC
    ⟨⟨rfl, rfl, hfr, hlo, pay_in hts (wsA_in hcode), List.mem_cons_self, hts _ hcode, hts _ hini, hMH, fun sig hs => by rw [hs] at hdesc; exact (Option.some.inj hdesc).symm, hts _ hlink⟩, hts _ hinst, hts _ hsel⟩
    ⟨z_blind, va_recv hK hP hc (by rw [zw_get hj, hcell]), fun U hU hW => ⟨rfl, by rw [hU]; exact hP, va_K.moved hW.alike hK, ZN_warm hW hN, hZD⟩⟩ rfl hn h.1 hst0 (lv_room hW) hdg ⟨hR3, hR4⟩) hS h k
theorem z_callS (hX : OkC X own cc nl fr lo) {y : MethodName} {bytes : ByteArray} {n np idx fr2 lo2 : Nat} {ret2 : Option FieldType} {As : List Value} {v2 : Option Value} {σ2 : HP} {st0 : List Value}
    (hM : MthS y bytes n ret2 np) (hlink : Cond.methodLink own idx y ∈ wsA) (hC : Ct X.1 y bytes n ret2 fr2 lo2 As σ v2 σ2) (hn : As.length = np) (hfr : fr2 + 1 ≤ fr) (hlo : 8 + (n + 11) + lo2 ≤ lo)
    (hst0 : st0 = As.reverse ++ st) (hW : (st.map fun v => v.category).sum ≤ 8) (hdg : decode cc pc = .ok (.invokestatic idx, 3)) (k : Z X σ2 (pc + 3) lv (v2.toList ++ st)) : Z X σ pc lv st0 := by
  obtain ⟨w, p, e, R, s, m, args, below, meth, c, nL, cs, sl, Q⟩ := X
  obtain ⟨hx, hb, hml, hnl, hown, hts, hK, hN, hZD, hR1, hR2, hR3, hR4⟩ := hX
  obtain ⟨⟨hcode, hini, hMH, hdesc⟩, hstat⟩ := hM
  intro ls H locs h hP hS
  subst hR1; subst hR2
  refine z_back (va_runS (y := y) (As := As) (rest := st) (g := F0 m pc ls st0) (mc := 0) (ms := 0) ⟨hx, hb, hml, hown, hts⟩ hC
    ⟨⟨rfl, rfl, hfr, hlo, pay_in hts (wsA_in hcode), List.mem_cons_self, hts _ hcode, hts _ hini, hMH, fun sig hs => by rw [hs] at hdesc; exact (Option.some.inj hdesc).symm, hts _ hlink⟩, hts _ hstat⟩
    ⟨z_blind, fun U hU hW => ⟨rfl, by rw [hU]; exact hP, va_K.moved hW.alike hK, ZN_warm hW hN, hZD⟩⟩ rfl hn h.1 hst0 (lv_room hW) hdg ⟨hR3, hR4⟩) hS h k
theorem z_callN (hX : OkC X own cc nl fr lo) {y : MethodName} {host : String} {bytes : ByteArray} {n np idx fr2 lo2 : Nat} {ret2 : Option FieldType} {As : List Value} {v2 : Option Value} {σ2 : HP} {st0 : List Value}
    (hM : MthS y bytes n ret2 np) (hlink : ∀ U : State, ZN U → va_Nw (.methodLinkNest own idx y host) U) (hC : Ct X.1 y bytes n ret2 fr2 lo2 As σ v2 σ2) (hn : As.length = np) (hfr : fr2 + 1 ≤ fr) (hlo : 8 + (n + 11) + lo2 ≤ lo)
    (hst0 : st0 = As.reverse ++ st) (hW : (st.map fun v => v.category).sum ≤ 8) (hdg : decode cc pc = .ok (.invokestatic idx, 3)) (k : Z X σ2 (pc + 3) lv (v2.toList ++ st)) : Z X σ pc lv st0 := by
  obtain ⟨w, p, e, R, s, m, args, below, meth, c, nL, cs, sl, Q⟩ := X
  obtain ⟨hx, hb, hml, hnl, hown, hts, hK, hN, hZD, hR1, hR2, hR3, hR4⟩ := hX
  obtain ⟨⟨hcode, hini, hMH, hdesc⟩, hstat⟩ := hM
  intro ls H locs h hP hS
  subst hR1; subst hR2
  refine z_back (va_runSN (y := y) (As := As) (rest := st) (g := F0 m pc ls st0) (mc := 0) (ms := 0) ⟨hx, hb, hml, hown, hts⟩ hC
    ⟨⟨⟨rfl, rfl, hfr, hlo, pay_in hts (wsA_in hcode), List.mem_cons_self⟩, hts _ hcode, hts _ hini, hMH, fun sig hs => by rw [hs] at hdesc; exact (Option.some.inj hdesc).symm, va_Nw.use rfl (hlink s hN)⟩, hts _ hstat, trivial⟩
    ⟨z_blind, fun U hU hW => ⟨rfl, by rw [hU]; exact hP, va_K.moved hW.alike hK, ZN_warm hW hN, hZD⟩⟩ rfl hn h.1 hst0 (lv_room hW) hdg ⟨hR3, hR4⟩) hS h k
end ZC
