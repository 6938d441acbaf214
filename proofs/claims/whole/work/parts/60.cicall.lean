/-! a constructor is called: the whole world goes through -/
theorem ci_blind {D : va_G} {cy : Nat → ClassId} {sz : Nat} {av : List Value} {ws : va_W} : FrameBlind (va_Pc av (CiPre D cy sz ws)) := fun a U g mk q =>
  ⟨q.1, q.2.1, q.2.2.1, va_K.moved (u := U) (U := U.calling g mk a) (Vm.Alike.refl U.vm) q.2.2.2.1, q.2.2.2.2⟩
def CtM (y : MethodName) (bytes : ByteArray) (n : Nat) : Prop := MthB y bytes n none 0 ∧ y.name = "<init>" ∧ Cond.instanceMethod y ∈ wsA
theorem ci_back {p : Program} {l : Launch} {e : Env} {R : Room} {s : State} {m : MethodId} {args : Array Value} {below : List Frame} {meth : Method} {c : Code} {H : Heap} {locs : List Loc} {Q : State → Prop} {ls : Array Slot} {cs sl mc ms pc sz : Nat} {st st0 : List Value} {a : Array Value} {D : va_G} {Pw : va_W → Prop}
    (hr : va_Run p l e R s m args below meth c H locs cs sl mc ms (F0 m pc ls st0) st (CiPost D sz Pw a) (fun q => sz ≤ q)) (hS : va_S (fun q => sz ≤ q) s.heap H locs)
    (k : ∀ (W1 : va_W) (H1 : Heap) (locs1 : List Loc), Pw W1 → va_P D zcl W1 H1 → va_D (fun q => sz ≤ q) W1 → va_S (fun q => sz ≤ q) s.heap H1 locs1 → W p l e R s m args below meth c H1 locs1 (cs + mc) (sl + ms) Q (F0 m (pc + 3) ls st)) : W p l e R s m args below meth c H locs cs sl Q (F0 m pc ls st0) := by
  intro T hT X
  obtain ⟨v, st₀, t, T', L, h0, X', hL, e1, e2, ⟨hv, ⟨W1, hw, hP1, hD1⟩, hz, hk⟩, stp⟩ := hr T hT X
  cases hv
  rw [h0] at hz hk
  obtain ⟨t2, a1, b1⟩ := k W1 T'.heap (locs ++ L) hw (by rw [e1]; exact hP1) hD1
    ⟨Nat.le_trans hS.1 (by rw [e1]; exact hz), fun q h1 h2 => by rw [e1, hk q (Nat.lt_of_lt_of_le h1 hS.1) h2]; exact hS.2.1 q h1 h2, fun q hq => by
      rcases List.mem_append.mp hq with h | h
      · exact hS.2.2 q h
      · exact hL q h⟩ T' rfl X'
  exact ⟨t2, stp t2 a1, b1⟩
section CIC
variable {p : Program} {l : Launch} {e : Env} {R : Room} {s : State} {m : MethodId} {args : Array Value} {below : List Frame} {meth : Method} {c : Code} {H : Heap} {locs : List Loc} {Q : State → Prop} {ls : Array Slot} {cs sl mc ms pc sz nL fr lo : Nat} {st : List Value} {D : va_G} {Pw : va_W → Prop} {cc : ByteArray}
/-- a nest mate's -/
theorem ci_callN (hx : p.tables.exec = Jvm.exec) (hb : c.code = cc) (hml : c.maxLocals = nL) {own : String} (hown : s.vm.findClass own = some m.cls) (hts : ∀ x ∈ wsA, x.before args s = true) {y : MethodName} {bytes : ByteArray} {n idx b : Nat} {host : String} {Pr : State → Prop} (hM : CtM y bytes n) (hlink : va_Nw (.methodLinkNest own idx y host) s)
    (hC : Met l y (ZMw y bytes n none) { frames := fr, cells := mc, slots := ms, locals := lo } (va_Pc [.ref b] Pr) (CiPost D sz Pw) mc ms (fun q => sz ≤ q)) (hfr : fr + 1 ≤ R.frames) (hlo : 8 + (n + 11) + lo ≤ R.locals) (hmc : cs + mc ≤ R.cells) (hms : sl + ms ≤ R.slots)
    (hbl : FrameBlind (va_Pc [.ref b] Pr)) (hpre : ∀ U : State, U.heap = H → s.WarmedH U.vm → Pr U) (hls : ls.size = nL) (hW : (st.map fun v => v.category).sum ≤ 8) (hS : va_S (fun q => sz ≤ q) s.heap H locs) (hdg : decode cc pc = .ok (.invokespecial idx, 3))
    (k : ∀ (W1 : va_W) (H1 : Heap) (locs1 : List Loc), Pw W1 → va_P D zcl W1 H1 → va_D (fun q => sz ≤ q) W1 → va_S (fun q => sz ≤ q) s.heap H1 locs1 → W p l e R s m args below meth c H1 locs1 (cs + mc) (sl + ms) Q (F0 m (pc + 3) ls st)) : W p l e R s m args below meth c H locs cs sl Q (F0 m pc ls (.ref b :: st)) := by
  obtain ⟨⟨hcode, hini, hMH, hdesc⟩, hnm, hinst⟩ := hM
  refine ci_back (va_runIN (y := y) (b := b) (As := []) (rest := st) (g := F0 m pc ls (.ref b :: st)) (mc := mc) (ms := ms) (n := 0) ⟨hx, hb, hml, hown, hts⟩ hC
    ⟨⟨⟨rfl, rfl, hfr, hlo, pay_in hts (wsA_in hcode), List.mem_cons_self⟩, hts _ hcode, hts _ hini, hMH, fun sig hs => by rw [hs] at hdesc; exact (Option.some.inj hdesc).symm, va_Nw.use rfl hlink⟩, hnm, hts _ hinst⟩
    ⟨hbl, fun U hU hW => ⟨rfl, hpre U hU hW⟩⟩ rfl rfl hls rfl (lv_room hW) hdg ⟨hmc, hms⟩) hS k
theorem ci_callI (hx : p.tables.exec = Jvm.exec) (hb : c.code = cc) (hml : c.maxLocals = nL) {own : String} (hown : s.vm.findClass own = some m.cls) (hts : ∀ x ∈ wsA, x.before args s = true) {y : MethodName} {bytes : ByteArray} {n idx b : Nat} {Pr : State → Prop} (hM : CtM y bytes n) (hlink : Cond.methodLink own idx y ∈ wsA)
    (hC : Met l y (ZMw y bytes n none) { frames := fr, cells := mc, slots := ms, locals := lo } (va_Pc [.ref b] Pr) (CiPost D sz Pw) mc ms (fun q => sz ≤ q)) (hfr : fr + 1 ≤ R.frames) (hlo : 8 + (n + 11) + lo ≤ R.locals) (hmc : cs + mc ≤ R.cells) (hms : sl + ms ≤ R.slots)
    (hbl : FrameBlind (va_Pc [.ref b] Pr)) (hpre : ∀ U : State, U.heap = H → s.WarmedH U.vm → Pr U) (hls : ls.size = nL) (hW : (st.map fun v => v.category).sum ≤ 8) (hS : va_S (fun q => sz ≤ q) s.heap H locs) (hdg : decode cc pc = .ok (.invokespecial idx, 3))
    (k : ∀ (W1 : va_W) (H1 : Heap) (locs1 : List Loc), Pw W1 → va_P D zcl W1 H1 → va_D (fun q => sz ≤ q) W1 → va_S (fun q => sz ≤ q) s.heap H1 locs1 → W p l e R s m args below meth c H1 locs1 (cs + mc) (sl + ms) Q (F0 m (pc + 3) ls st)) : W p l e R s m args below meth c H locs cs sl Q (F0 m pc ls (.ref b :: st)) := by
  obtain ⟨⟨hcode, hini, hMH, hdesc⟩, hnm, hinst⟩ := hM
  refine ci_back (va_runI (y := y) (b := b) (As := []) (rest := st) (g := F0 m pc ls (.ref b :: st)) (mc := mc) (ms := ms) (n := 0) ⟨hx, hb, hml, hown, hts⟩ hC
    ⟨⟨rfl, rfl, hfr, hlo, pay_in hts (wsA_in hcode), List.mem_cons_self, hts _ hcode, hts _ hini, hMH, fun sig hs => by rw [hs] at hdesc; exact (Option.some.inj hdesc).symm, hts _ hlink⟩, hnm, hts _ hinst⟩
    ⟨hbl, fun U hU hW => ⟨rfl, hpre U hU hW⟩⟩ rfl rfl hls rfl (lv_room hW) hdg ⟨hmc, hms⟩) hS k
end CIC
