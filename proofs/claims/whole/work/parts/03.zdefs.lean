/-! ===== the layout: 150 cells by number (seven states of 19 cells, the object's own, the reference's), what each holds out of one function of numbers ===== -/
abbrev HP : Type := Nat → Nat → Int32
abbrev ix (x : Int32) : Nat := x.toNatClampNeg
def wrA (σ : HP) (j : Nat) (f : Nat → Int32) : HP := fun i => if i = j then f else σ i
def wr (σ : HP) (j k : Nat) (x : Int32) : HP := wrA σ j (upd (σ j) k x)
def kdL : List Nat := [4, 3, 9, 9, 9, 9, 9, 9, 1, 9, 9, 9, 5, 9, 9, 9, 9, 6, 10, 4, 3, 9, 9, 9, 9, 9, 9, 1, 9, 9, 9, 5, 9, 9, 9, 9, 6, 10, 4, 3, 9, 9, 9, 9, 9, 9, 1, 9, 9, 9, 5, 9, 9, 9, 9, 6, 10, 4, 3, 9, 9, 9, 9, 9, 9, 1, 9, 9, 9, 5, 9, 9, 9, 9, 6, 10, 4, 3, 9, 9, 9, 9, 9, 9, 1, 9, 9, 9, 5, 9, 9, 9, 9, 6, 10, 4, 3, 9, 9, 9, 9, 9, 9, 1, 9, 9, 9, 5, 9, 9, 9, 9, 6, 10, 4, 3, 9, 9, 9, 9, 9, 9, 1, 9, 9, 9, 5, 9, 9, 9, 9, 6, 10, 7, 12, 10, 2, 9, 0, 9, 8, 9, 9, 9, 9, 10, 11, 9, 9, 9]
def lnL : List Nat := [0, 0, 12, 12, 12, 12, 12, 12, 0, 8, 8, 8, 0, 8, 8, 8, 8, 0, 12, 0, 0, 12, 12, 12, 12, 12, 12, 0, 8, 8, 8, 0, 8, 8, 8, 8, 0, 12, 0, 0, 12, 12, 12, 12, 12, 12, 0, 8, 8, 8, 0, 8, 8, 8, 8, 0, 12, 0, 0, 12, 12, 12, 12, 12, 12, 0, 8, 8, 8, 0, 8, 8, 8, 8, 0, 12, 0, 0, 12, 12, 12, 12, 12, 12, 0, 8, 8, 8, 0, 8, 8, 8, 8, 0, 12, 0, 0, 12, 12, 12, 12, 12, 12, 0, 8, 8, 8, 0, 8, 8, 8, 8, 0, 12, 0, 0, 12, 12, 12, 12, 12, 12, 0, 8, 8, 8, 0, 8, 8, 8, 8, 0, 12, 0, 4, 60, 0, 12, 0, 12, 0, 152, 152, 608, 152, 60, 12, 12, 12, 152]
def kd (j : Nat) : Nat := kdL.getD j 99
def ln (j : Nat) : Nat := lnL.getD j 0
theorem kd_lt {j k : Nat} (h : kd j = k) (hk : k < 99) : j < 150 := by
  rcases Nat.lt_or_ge j 150 with q | q
  · exact q
  · exfalso
    have h2 : kd j = 99 := by
      unfold kd
      rw [List.getD_eq_getElem?_getD, List.getElem?_eq_none (by show 150 ≤ j; exact q)]
      rfl
    omega
abbrev zcl : List vw_C := [(RX0, TX0, 4), (RX1, TX1, 4), (RX2, TX2, 2), (RX3, TX3, 8), (RX4, TX4, 10), (RX5, TX5, 6), (RX6, TX6, 2), (RX7, TX7, 10), (RX8, TX8, 12)]
abbrev ztys (cy : Nat → ClassId) : List (ClassId × FieldType) := [(cy 0, .int), (cy 1, .char), (cy 2, .boolean), (cy 3, .object RX4)]
def cellE (cy : Nat → ClassId) (ad : Nat → Nat) (σ : HP) (j : Nat) : va_E := match kd j with
  | 0 => .inr (0, [.ref (ad (j + 1)), .int (σ j 1), .int (σ j 2), .int (σ j 3)])
  | 1 => .inr (1, [.ref (ad (j + 1)), .ref (ad (j + 2)), .ref (ad (j + 3)), .int (σ j 3)])
  | 2 => .inr (2, [.ref (ad (j + 1)), .int (σ j 1)])
  | 3 => .inr (3, [.ref (ad (j + 1)), .ref (ad (j + 2)), .ref (ad (j + 3)), .ref (ad (j + 4)), .ref (ad (j + 5)), .ref (ad (j + 6)), .int (σ j 6), .int (σ j 7)])
  | 4 => .inr (4, [.ref (ad (j + 1)), .ref (ad (j + 8)), .ref (ad (j + 12)), .ref (ad (j + 17)), .int (σ j 4), .int (σ j 5), .int (σ j 6), .int (σ j 7), .int (σ j 8), .int (σ j 9)])
  | 5 => .inr (5, [.ref (ad (j + 1)), .ref (ad (j + 2)), .ref (ad (j + 3)), .ref (ad (j + 4)), .int (σ j 4), .int (σ j 5)])
  | 6 => .inr (6, [.ref (ad (j + 1)), .int (σ j 1)])
  | 7 => .inr (7, [.ref (ad (0)), .ref (ad (19)), .ref (ad (38)), .ref (ad (134)), .ref (ad (135)), .ref (ad (136)), .ref (ad (138)), .int (σ j 7), .int (σ j 8), .int (σ j 9)])
  | 8 => .inr (8, [.ref (ad (j + 1)), .ref (ad (j + 2)), .ref (ad (j + 3)), .int (σ j 3), .ref (ad (j + 4)), .int (σ j 5), .ref (ad (j + 5)), .int (σ j 7), .ref (ad (j + 6)), .ref (ad (j + 7)), .ref (ad (j + 8)), .ref (ad (j + 9))])
  | 9 => .inl (cy 0, ln j, .inl (σ j))
  | 10 => .inl (cy 1, ln j, .inl (σ j))
  | 11 => .inl (cy 2, ln j, .inl (σ j))
  | _ => .inl (cy 3, ln j, .inr (.inr (.inr (.inr (fun k => some (ad (ix (σ j k))))))))
theorem cellE_cong {cy : Nat → ClassId} {ad : Nat → Nat} {σ σ' : HP} {j : Nat} (h : σ' j = σ j) : cellE cy ad σ' j = cellE cy ad σ j := by simp only [cellE, h]
def zw (cy : Nat → ClassId) (ad : Nat → Nat) (σ : HP) : va_W := (List.range 150).map (fun j => (ad j, cellE cy ad σ j))
theorem zw_get {cy : Nat → ClassId} {ad : Nat → Nat} {σ : HP} {j : Nat} (h : j < 150) : (zw cy ad σ)[j]? = some (ad j, cellE cy ad σ j) := by simp [zw, h]
theorem zw_set {cy : Nat → ClassId} {ad : Nat → Nat} {σ : HP} {j : Nat} {f : Nat → Int32} {c : va_E} (h : j < 150) (hc : cellE cy ad (wrA σ j f) j = c) : (zw cy ad σ).set j (ad j, c) = zw cy ad (wrA σ j f) := by
  apply List.ext_getElem?
  intro i
  by_cases hi : i < 150
  · rw [zw_get hi, List.getElem?_set]
    by_cases hij : j = i
    · subst hij
      rw [if_pos rfl, if_pos (by simpa [zw] using h), hc]
    · rw [if_neg hij, zw_get hi]
      exact congrArg (fun e => some (ad i, e)) (cellE_cong (by unfold wrA; rw [if_neg (fun q => hij q.symm)])).symm
  · rw [List.getElem?_eq_none (by simp [zw]; omega), List.getElem?_eq_none (by simp [zw]; omega)]
/-- what a world is given by: the launch, the tables' numbers, the array classes, the cells' addresses, which addresses may change -/
abbrev WP : Type := Launch × va_G × (Nat → ClassId) × (Nat → Nat) × (Nat → Prop)
abbrev wD (w : WP) : va_G := w.2.1
abbrev wcy (w : WP) : Nat → ClassId := w.2.2.1
abbrev wad (w : WP) : Nat → Nat := w.2.2.2.1
abbrev wA (w : WP) : Nat → Prop := w.2.2.2.2
abbrev rf (w : WP) (j : Nat) : Value := .ref (w.2.2.2.1 j)
def ZP (w : WP) (σ : HP) (H : Heap) : Prop := va_P (wD w) zcl (zw (wcy w) (wad w) σ) H
def ZD (w : WP) : Prop := ∀ σ : HP, va_D (wA w) (zw (wcy w) (wad w) σ)
def wsA : List Cond := lw_tbl.filter goodWord
theorem memA {c : Cond} (h : c ∈ lw_tbl) (g : goodWord c = true) : c ∈ wsA := List.mem_filter.mpr ⟨h, g⟩
theorem memT {c : Cond} (i : Nat) (h : tables_1[i]? = some c) (g : goodWord c = true) : c ∈ wsA := memA (List.mem_append_right _ (List.mem_of_getElem? h)) g
theorem memP {c : Cond} (i : Nat) (h : (k2_sels lw_privs)[i]? = some c) (g : goodWord c = true) : c ∈ wsA := memA (List.mem_append_left _ (List.mem_of_getElem? h)) g
def ZN (U : State) : Prop := va_Nw (.methodLinkNest RX3 59 yX7_sideOf RX7) U ∧ va_Nw (.methodLinkNest RX4 131 yX7_asNumber RX7) U
abbrev rmF (fr lo : Nat) : Room := { frames := fr, cells := 0, slots := 0, locals := lo }
def QV (w : WP) (v : Option Value) (σ' : HP) : Array Value → State → Outcome → State → Prop := fun _ st oc t => oc = .returned v ∧ ZP w σ' t.heap ∧ va_F (wA w) st t
abbrev CX : Type := WP × Program × Env × Room × State × MethodId × Array Value × List Frame × Method × Code × Nat × Nat × Nat × (State → Prop)
def OkC (X : CX) (own : String) (cc : ByteArray) (nl fr lo : Nat) : Prop := match X with
  | (w, p, e, R, s, m, args, below, meth, c, nL, cs, sl, Q) => p.tables.exec = Jvm.exec ∧ c.code = cc ∧ c.maxLocals = nL ∧ nL = nl ∧ s.vm.findClass own = some m.cls ∧ (∀ x ∈ wsA, x.before args s = true) ∧ va_K (wD w) zcl (ztys (wcy w)) s ∧ ZN s ∧ ZD w ∧ R.frames = fr ∧ R.locals = lo ∧ cs ≤ R.cells ∧ sl ≤ R.slots
def OkX (X : CX) (own : String) (cc : ByteArray) (nl fr lo : Nat) (ret : Option FieldType) (v : Option Value) (σ' : HP) : Prop := OkC X own cc nl fr lo ∧ match X with
  | (w, p, e, R, s, m, args, below, meth, c, nL, cs, sl, Q) => meth.locks = false ∧ meth.sig.returnType = ret ∧ Q = MQ below (QV w v σ') args s cs sl (wA w)
def Z (X : CX) (σ : HP) (pc : Nat) (lv : List (Nat × Value)) (st : List Value) : Prop := match X with
  | (w, p, e, R, s, m, args, below, meth, c, nL, cs, sl, Q) => ∀ (ls : Array Slot) (H : Heap) (locs : List Loc), lv_has ls nL lv → ZP w σ H → va_S (wA w) s.heap H locs → W p w.1 e R s m args below meth c H locs cs sl Q (F0 m pc ls st)
abbrev ZMw (y : MethodName) (cc : ByteArray) (n : Nat) (ret : Option FieldType) : List Cond := .code y cc n ret :: wsA
def Ct (w : WP) (y : MethodName) (cc : ByteArray) (n : Nat) (ret : Option FieldType) (fr lo : Nat) (av : List Value) (σ : HP) (v : Option Value) (σ' : HP) : Prop :=
  Met w.1 y (ZMw y cc n ret) (rmF fr lo) (va_Pc av (fun U => ZP w σ U.heap ∧ va_K (wD w) zcl (ztys (wcy w)) U ∧ ZN U ∧ ZD w)) (QV w v σ') 0 0 (wA w)

