/-! ===== the calls, one by one: both answer alike, and Inv2 holds again ===== -/
theorem RecE.rf {σ s : HP} : RecE σ σ s s := ⟨fun _ _ => rfl, fun _ _ => rfl, fun _ _ _ => rfl, fun _ _ => rfl⟩
theorem Res.fin {σ σ1 σ' s s1 s' : HP} {o1 o2 : Option (Int32 × HP)} (r : Int32) (h1 : o1 = some (r, σ')) (h2 : o2 = some (r, s')) (hI : Inv2 σ1 s1) (hR : RecE σ σ1 s s1) (hc : ∀ j, 38 ≤ j → (j < 136 ∨ 140 ≤ j) → σ' j = σ1 j) (hm : ∀ j, (j < 141 ∨ j = 143 ∨ j = 144 ∨ j = 145) → s' j = s1 j) (hS : SR σ' 0 (s' 141) 9999) : Res o1 o2 σ s :=
  ⟨r, σ', s', h1, h2, hI.upd (fun j j1 j2 => hc j j1 (Or.inl j2)) (hm 140 (by omega)) (hm 143 (by omega)) (hm 144 (by omega)) (hm 145 (by omega)) hS,
   fun j hj => by rw [hc j (by omega) (Or.inr hj)]; exact hR.1 j (by omega), fun j hj => by rw [hm j (by omega)]; exact hR.2.2.1 j (by omega) (by omega)⟩
/-- a state beside a record: as before -/
theorem now_rec {σ σ1 s s1 : HP} {n e t g l mi : Nat} (h : SRx σ 0 (s 141) n e t g l mi) (hR : RecE σ σ1 s s1) : SRx σ1 0 (s1 141) n e t g l mi := h.frame (fun j j1 j2 => hR.1 j (by omega)) (fun i _ => by rw [hR.2.2.1 141 (by decide) (by decide)])
def wi (a lo hi : Int32) : Int32 := if a < lo then 0 else if hi < a then 0 else 1
theorem cwi (N : Nat) (σ : HP) (a lo hi : Int32) : F_X7_isWithin N a lo hi σ = some (wi a lo hi) := by unfold F_X7_isWithin wi; split; rfl; split <;> rfl
theorem mwi (N : Nat) (σ : HP) (a lo hi : Int32) : F_X8_in N a lo hi σ = some (wi a lo hi) := by unfold F_X8_in wi; split; rfl; split <;> rfl
theorem clet (N : Nat) (σ : HP) (a : Int32) : F_X7_isLetter N a σ = some (wi a 97 122) := by unfold F_X7_isLetter wi; split; rfl; split <;> rfl
theorem wi_or (a lo hi : Int32) : (wi a lo hi = 0) ∨ (wi a lo hi = 1 ∧ lo ≤ a ∧ a ≤ hi) := by
  unfold wi
  by_cases c : a < lo
  · rw [if_pos c]; exact Or.inl rfl
  · rw [if_neg c]
    by_cases d : hi < a
    · rw [if_pos d]; exact Or.inl rfl
    · rw [if_neg d]; exact Or.inr ⟨rfl, Int32.not_lt.mp c, Int32.not_lt.mp d⟩
theorem wi_bn {a : Int32} {lo hi : Nat} (hh : hi < 2147483648) (h1 : nI lo ≤ a) (h2 : a ≤ nI hi) (hl : lo ≤ hi) : bn a lo hi := by
  have h0 : ¬ a < 0 := by
    rw [Int32.le_iff_toInt_le, nI_toInt (by omega)] at h1
    rw [Int32.lt_iff_toInt_lt]
    show ¬ a.toInt < 0
    omega
  obtain ⟨j, hj, e⟩ := nI_of h0
  rw [e, le_n (by omega) (by omega)] at h1 h2
  exact ⟨j, h1, h2, e⟩
theorem n10 : ¬ (1 : Int32) = 0 := by decide
section OPS
variable {N : Nat} {σ s : HP}
theorem place_c (q : Nat) {n : Nat} (hn : n ≤ 12) (h6 : σ q 6 = nI n) (a : Int32) : (F_X3_hasPlace N q a σ = some 0 ∧ ¬ ∃ k, k < n ∧ a = nI k) ∨ (F_X3_hasPlace N q a σ = some 1 ∧ ∃ k, k < n ∧ a = nI k) := by
  unfold F_X3_hasPlace
  rw [h6]
  rcases pk_ix a (n := n) (by omega) with c | c | ⟨k, hk, c⟩
  · rw [if_pos c]
    exact Or.inl ⟨rfl, fun ⟨k, hk, e⟩ => by rw [e, l0, lt_n (by omega) (by omega)] at c; omega⟩
  · left
    refine ⟨?_, fun ⟨k, hk, e⟩ => by rw [e, le_n (by omega) (by omega)] at c; omega⟩
    by_cases d : a < 0
    · rw [if_pos d]
    · rw [if_neg d, if_pos c]
  · right
    rw [c, if_neg (by rw [l0, lt_n (by omega) (by omega)]; omega), if_neg (by rw [le_n (by omega) (by omega)]; omega)]
    exact ⟨rfl, k, hk, rfl⟩
theorem place_m {n : Nat} (hn : n ≤ 12) (h0 : s 141 0 = nI n) (a : Int32) : (F_X8_isPlace N 140 a s = some 0 ∧ ¬ ∃ k, k < n ∧ a = nI k) ∨ (F_X8_isPlace N 140 a s = some 1 ∧ ∃ k, k < n ∧ a = nI k) := by
  unfold F_X8_isPlace
  rw [mwi, bind_t, show s (140 + 1) (ix 0) = nI n from h0]
  unfold wi
  rcases pk_ix a (n := n) (by omega) with c | c | ⟨k, hk, c⟩
  · rw [if_pos c, gd_t (Or.inl rfl)]
    exact Or.inl ⟨rfl, fun ⟨k, hk, e⟩ => by rw [e, l0, lt_n (by omega) (by omega)] at c; omega⟩
  · left
    refine ⟨?_, fun ⟨k, hk, e⟩ => by rw [e, le_n (by omega) (by omega)] at c; omega⟩
    by_cases d : a < 0
    · rw [if_pos d]; exact gd_t (Or.inl rfl)
    · rw [if_neg d, if_pos (by rw [Int32.lt_iff_toInt_lt, pred_I (by omega)]; rw [Int32.le_iff_toInt_le, nI_toInt (by omega)] at c; omega)]
      exact gd_t (Or.inl rfl)
  · right
    rw [c, if_neg (by rw [l0, lt_n (by omega) (by omega)]; omega), if_neg (by rw [Int32.lt_iff_toInt_lt, pred_I (by omega), nI_toInt (by omega)]; omega)]
    exact ⟨gd_t (Or.inr rfl), k, hk, rfl⟩
theorem pair_c (q : Nat) {n : Nat} (hn : n ≤ 12) (h6 : σ q 6 = nI n) (a : Int32) : (F_X3_hasPairAt N q a σ = some 0 ∧ ¬ ∃ k, k + 1 < n ∧ a = nI k) ∨ (F_X3_hasPairAt N q a σ = some 1 ∧ ∃ k, k + 1 < n ∧ a = nI k) := by
  unfold F_X3_hasPairAt
  rw [h6]
  by_cases c0 : a < 0
  · rw [if_pos c0]
    exact Or.inl ⟨rfl, fun ⟨k, hk, e⟩ => by rw [e, l0, lt_n (by omega) (by omega)] at c0; omega⟩
  · obtain ⟨k, hk, e⟩ := nI_of c0
    rw [if_neg c0, e]
    by_cases c : nI n - 1 ≤ nI k
    · rw [if_pos c]
      rw [Int32.le_iff_toInt_le, pred_I (by omega), nI_toInt hk] at c
      exact Or.inl ⟨rfl, fun ⟨k', hk', e'⟩ => by rw [eq_n (by omega) (by omega)] at e'; omega⟩
    · rw [if_neg c]
      rw [Int32.le_iff_toInt_le, pred_I (by omega), nI_toInt hk] at c
      exact Or.inr ⟨rfl, k, by omega, rfl⟩
theorem pair_m {n : Nat} (hn : n ≤ 12) (h0 : s 141 0 = nI n) (a : Int32) : (F_X8_in N a 0 (s 141 0 - 2) s = some 0 ∧ ¬ ∃ k, k + 1 < n ∧ a = nI k) ∨ (F_X8_in N a 0 (s 141 0 - 2) s = some 1 ∧ ∃ k, k + 1 < n ∧ a = nI k) := by
  rw [mwi, h0]
  unfold wi
  have h2 : (nI n - 2 : Int32).toInt = (n : Int) - 2 := by
    have h1 : (nI n).toInt = n := nI_toInt (by omega)
    have h2 : (2 : Int32).toInt = 2 := rfl
    rw [toI_sub (by omega) (by omega)]
    omega
  by_cases c0 : a < 0
  · rw [if_pos c0]
    exact Or.inl ⟨rfl, fun ⟨k, hk, e⟩ => by rw [e, l0, lt_n (by omega) (by omega)] at c0; omega⟩
  · obtain ⟨k, hk, e⟩ := nI_of c0
    rw [if_neg c0, e]
    by_cases c : nI n - 2 < nI k
    · rw [if_pos c]
      rw [Int32.lt_iff_toInt_lt, h2, nI_toInt hk] at c
      exact Or.inl ⟨rfl, fun ⟨k', hk', e'⟩ => by rw [eq_n (by omega) (by omega)] at e'; omega⟩
    · rw [if_neg c]
      rw [Int32.lt_iff_toInt_lt, h2, nI_toInt hk] at c
      exact Or.inr ⟨rfl, k, by omega, rfl⟩
theorem cwind_n (a b : Int32) : F_X7_isWind N a b σ = some (if wi a 0 3 = 0 then 0 else if wi b 0 5 = 0 then 0 else 1) := by
  unfold F_X7_isWind
  rw [cwi, bind_t, cwi, bind_t]
  split
  · rfl
  · split <;> rfl
theorem mwind_n (a b : Int32) : F_X8_isWind N a b s = some (if wi a 0 3 = 0 then 0 else if wi b 0 5 = 0 then 0 else 1) := by
  unfold F_X8_isWind
  rw [mwi, bind_t, mwi, bind_t]
  split
  · rfl
  · split <;> rfl
theorem wind_or (a b : Int32) : (if wi a 0 3 = 0 then (0 : Int32) else if wi b 0 5 = 0 then 0 else 1) = 0 ∨ ((if wi a 0 3 = 0 then (0 : Int32) else if wi b 0 5 = 0 then 0 else 1) = 1 ∧ bn a 0 3 ∧ bn b 0 5) := by
  rcases wi_or a 0 3 with c | ⟨c, c1, c2⟩
  · rw [if_pos c]; exact Or.inl rfl
  · rw [if_neg (by rw [c]; decide)]
    rcases wi_or b 0 5 with d | ⟨d, d1, d2⟩
    · rw [if_pos d]; exact Or.inl rfl
    · rw [if_neg (by rw [d]; decide)]
      exact Or.inr ⟨rfl, wi_bn (by decide) c1 c2 (by decide), wi_bn (by decide) d1 d2 (by decide)⟩
/-! setTangle -/
theorem op_setTangle (hN : 700 ≤ N) (h : Inv2 σ s) (a : Int32) : Res (F_X7_setTangle N 133 a σ) (F_X8_setTangle N 140 a s) σ s := by
  obtain ⟨-, -, -, ⟨n, e, t, g, l, mi, hmi, hx⟩, -⟩ := id h
  unfold F_X7_setTangle F_X8_setTangle
  rw [cwi, mwi, bind_t, bind_t]
  rcases wi_or a 1 9 with c | ⟨c, c1, c2⟩
  · rw [c, if_pos rfl, if_pos rfl]; exact Res.same h _
  · rw [c, if_neg n10, if_neg n10, bd_t, bd_t, show s (140 + 1) (ix 5) = s 141 5 from rfl, hx.2.2.2.2.2.2.2.2.2.1]
    by_cases d : s 141 5 = a
    · rw [if_pos d, if_pos d]; exact Res.same h _
    · rw [if_neg d, if_neg d]
      obtain ⟨σ1, s1, r1, r2, r3, r4⟩ := record_n hN h
      have hx1 := now_rec hx r4
      rw [r1, bind_t, r2, bind_t, bd_t, bd_t]
      refine Res.fin (s 141 5) rfl rfl r3 r4 (fun j j1 j2 => wr_n (by omega)) (fun j j1 => wr_n (by omega)) ⟨n, e, t, g, l, mi, hmi, ?_⟩
      have hm : ∀ i, i ≠ 5 → (wr s1 (140 + 1) (ix 5) a) 141 i = s1 141 i := fun i hi => by
        show (wr s1 141 5 a) 141 i = _
        rw [wr_s, upd_n hi]
      have hc : ∀ j, j ≠ 0 → (wr σ1 0 8 a) j = σ1 j := fun j hj => wr_n hj
      obtain ⟨x1, x2, x3, x4, x5⟩ := hx1
      refine ⟨x1.congr (fun j j1 j2 => hc j (by omega)) (hm 0 (by decide)) (hm 10 (by decide)) (fun i i1 i2 => hm i (by omega)), x2.congr (fun j j1 j2 => hc j (by omega)) (hm 6 (by decide)) (fun i i1 i2 => hm i (by omega)), x3.congr (fun j j1 j2 => hc j (by omega)) (hm 9 (by decide)) (hm 11 (by decide)) (fun i i1 i2 => hm i (by omega)), x4.congr (fun j j1 j2 => hc j (by omega)) (hm 7 (by decide)) (fun i i1 i2 => hm i (by omega)), ?_⟩
      obtain ⟨y1, y2, y3, y4, y5, y6, y7, y8, y9, y10, y11⟩ := x5
      have h5 : (wr s1 (140 + 1) (ix 5) a) 141 5 = a := by
        show (wr s1 141 5 a) 141 5 = _
        rw [wr_s, upd_s]
      refine ⟨by rw [hm 1 (by decide)]; exact y1, by rw [wr_s, upd_n (by decide)]; exact y2, by rw [wr_s, upd_n (by decide), hm 2 (by decide)]; exact y3, by rw [wr_s, upd_n (by decide), hm 3 (by decide)]; exact y4, by rw [wr_s, upd_n (by decide), hm 4 (by decide)]; exact y5, by rw [wr_s, upd_s, h5], by rw [wr_s, upd_n (by decide), hm 8 (by decide)]; exact y7, by rw [hm 2 (by decide)]; exact y8, by rw [hm 3 (by decide)]; exact y9, by rw [hm 4 (by decide)]; exact y10, by rw [h5]; exact wi_bn (by decide) c1 c2 (by decide)⟩
/-! wind -/
theorem op_wind (hN : 700 ≤ N) (h : Inv2 σ s) (a b : Int32) : Res (F_X7_wind N 133 a b σ) (F_X8_wind N 140 a b s) σ s := by
  obtain ⟨-, -, -, ⟨n, e, t, g, l, mi, hmi, hx⟩, -⟩ := id h
  unfold F_X7_wind F_X8_wind
  rw [cwind_n, mwind_n, bind_t, bind_t]
  rcases wind_or a b with c | ⟨c, c1, c2⟩
  · rw [c, if_pos rfl, if_pos rfl]; exact Res.same h _
  · rw [c, if_neg n10, if_neg n10, show s (140 + 1) (ix 2) = s 141 2 from rfl, show s (140 + 1) (ix 3) = s 141 3 from rfl, hx.2.2.2.2.2.2.1, hx.2.2.2.2.2.2.2.1]
    have key : Res (J_X7_wind_36 N 133 a b σ) (J_X8_wind_34 N 140 a b s) σ s := by
      obtain ⟨σ1, s1, r1, r2, r3, r4⟩ := record_n hN h
      have hx1 := now_rec hx r4
      unfold J_X7_wind_36 J_X8_wind_34
      obtain ⟨c', g', σ', s', b1, b2, b3, b4, b5, b6, b7⟩ := wind_n (N := N) (r := 141) (by omega) (by decide) hx1 c1 c2
      rw [r1, bind_t, r2, bind_t, b2, bind2_t, show F_X8_blows N 140 (140 + 1) a b s1 = some (nI c', s') from b3, bind2_t]
      exact Res.fin (nI c') rfl rfl r3 r4 (fun j j1 j2 => b5 j (by omega)) (fun j j1 => b6 j (by omega) (by omega)) ⟨n, e, t, g', l, mi, hmi, b4⟩
    by_cases d : s 141 2 = a
    · rw [if_pos d, if_pos d]
      by_cases d2 : s 141 3 = b
      · rw [if_pos d2, if_pos d2]; exact Res.same h _
      · rw [if_neg d2, if_neg d2]; exact key
    · rw [if_neg d, if_neg d]; exact key
/-! trade -/
theorem op_trade (hN : 700 ≤ N) (h : Inv2 σ s) (a : Int32) : Res (F_X7_trade N 133 a σ) (F_X8_trade N 140 a s) σ s := by
  obtain ⟨-, -, -, ⟨n, e, t, g, l, mi, hmi, hx⟩, -⟩ := id h
  have hn := hx.1.1
  unfold F_X7_trade F_X8_trade
  rw [show (140 + 1 : Nat) = 141 from rfl, show (0 + 1 : Nat) = 1 from rfl, show ix 0 = 0 from rfl, show ix 1 = 1 from rfl]
  rcases pair_c (N := N) (σ := σ) 1 hn hx.1.2.2.2.2.2.1 a with ⟨p1, p2⟩ | ⟨p1, k, hk, rfl⟩
  · rcases pair_m (N := N) hn hx.1.2.2.2.1 a with ⟨q1, q2⟩ | ⟨q1, q2⟩
    · rw [p1, q1, bind_t, bind_t, if_pos rfl, if_pos rfl]; exact Res.same h _
    · exact absurd q2 p2
  · rcases pair_m (N := N) hn hx.1.2.2.2.1 (nI k) with ⟨q1, q2⟩ | ⟨q1, q2⟩
    · exact absurd ⟨k, hk, rfl⟩ q2
    · rw [p1, q1, bind_t, bind_t, if_neg n10, if_neg n10, cPair_n hx.1 hk, bind_t, isTangled_n (by omega), bind_t, nI_1, isTangled_n (by omega), bind_t, hx.2.2.2.2.2.1, hx.2.2.2.2.1]
      by_cases f1 : tgM (s 141) k
      · rw [bI_f (fun z => z.1 f1), if_pos rfl, bI_t f1, if_neg (by decide)]; exact Res.same h _
      · rw [bI_f f1, if_pos rfl]
        by_cases f2 : tgM (s 141) (k + 1)
        · rw [bI_f (fun z => z.2 f2), if_pos rfl, bI_t f2, if_neg (by decide)]; exact Res.same h _
        · rw [bI_t ⟨f1, f2⟩, if_neg (by decide), bI_f f2, if_pos rfl]
          by_cases m9 : mi = 9999
          · rw [if_neg (by rw [l9999, lt_n (by omega) (by omega)]; omega), if_pos (by rw [m9]; rfl)]; exact Res.same h _
          · rw [if_pos (by rw [l9999, lt_n (by omega) (by omega)]; omega), if_neg (by rw [l9999, eq_n (by omega) (by omega)]; exact m9)]
            obtain ⟨σ1, s1, r1, r2, r3, r4⟩ := record_n hN h
            have hx1 := now_rec hx r4
            have hs1 : s1 141 = s 141 := r4.2.2.1 141 (by decide) (by decide)
            obtain ⟨v, t', g', σ', s', b0, b1, b2, b3, b4, b5, b6⟩ := trade_n (N := N) (r := 141) (by omega) (by decide) (by omega) hx1 hk (by rw [hs1]; exact f1) (by rw [hs1]; exact f2)
            rw [r1, bind_t, r2, bind_t, b1, bind2_t, b2, bind2_t]
            unfold F_X7_asNumber
            have hS : SR σ' 0 (s' 141) 9999 := ⟨n, e, t', g', l, mi + 1, by omega, b3⟩
            rcases b0 with rfl | rfl
            · rw [if_pos rfl, bind_t, if_pos rfl]
              exact Res.fin 0 rfl rfl r3 r4 (fun j j1 j2 => b4 j (by omega)) (fun j j1 => b5 j (by omega) (by omega)) hS
            · rw [if_neg (by decide), bind_t, if_neg (by decide)]
              exact Res.fin 1 rfl rfl r3 r4 (fun j j1 j2 => b4 j (by omega)) (fun j j1 => b5 j (by omega) (by omega)) hS
/-! pass -/
theorem pass_l {n e l x : Nat} (hN : 700 ≤ N) (hx0 : x ≤ 60) : ∀ (d k m m' c t g mi : Nat) (σ s : HP), k + d = x → d < m → d < m' → mi + d ≤ 9999 → SRx σ 0 (s 141) n e t g l mi →
    ∃ v t' g' σ' s', L_X7_pass_39 N m 133 (nI x) (nI c) (nI k) σ = some (v, σ') ∧ L_X8_pass_38 N m' 140 (nI x) (nI c) (nI k) s = some (v, s') ∧ SRx σ' 0 (s' 141) n e t' g' l (mi + d) ∧ FrC 0 σ σ' ∧ FrM 141 s s' := by
  intro d
  induction d with
  | zero =>
    intro k m m' c t g mi σ s hk hm hm' hmi h
    obtain ⟨m, rfl⟩ : ∃ z, m = z + 1 := ⟨m - 1, by omega⟩
    obtain ⟨m', rfl⟩ : ∃ z, m' = z + 1 := ⟨m' - 1, by omega⟩
    rw [L_X7_pass_39, L_X8_pass_38, if_pos (by rw [le_n (by omega) (by omega)]; omega), if_pos (by rw [le_n (by omega) (by omega)]; omega)]
    exact ⟨nI c, t, g, σ, s, rfl, rfl, h, FrC.rf, fun _ _ _ => rfl⟩
  | succ d ih =>
    intro k m m' c t g mi σ s hk hm hm' hmi h
    obtain ⟨m, rfl⟩ : ∃ z, m = z + 1 := ⟨m - 1, by omega⟩
    obtain ⟨m', rfl⟩ : ∃ z, m' = z + 1 := ⟨m' - 1, by omega⟩
    obtain ⟨c', t1, g1, σ1, s1, a1, a2, a3, a4, a5, a6, a7⟩ := minute_n (N := N) (r := 141) (by omega) (by decide) (by omega) h
    rw [L_X7_pass_39, L_X8_pass_38, if_neg (by rw [le_n (by omega) (by omega)]; omega), if_neg (by rw [le_n (by omega) (by omega)]; omega), a2, bind2_t, show F_X8_minute N 140 (140 + 1) s = some (nI c', s1) from a3, bind2_t, bd_t, bd_t, nI_1, nI_add]
    obtain ⟨v, t', g', σ', s', b1, b2, b3, b4, b5⟩ := ih (k + 1) m m' (c + c') t1 g1 (mi + 1) σ1 s1 (by omega) (by omega) (by omega) (by omega) a4
    exact ⟨v, t', g', σ', s', b1, b2, by rw [show mi + (d + 1) = mi + 1 + d by omega]; exact b3, a5.trans b4, fun j j1 j2 => by rw [b5 j j1 j2, a6 j j1 j2]⟩
theorem op_pass (hN : 700 ≤ N) (h : Inv2 σ s) (a : Int32) : Res (F_X7_pass N 133 a σ) (F_X8_pass N 140 a s) σ s := by
  obtain ⟨-, -, -, ⟨n, e, t, g, l, mi, hmi, hx⟩, -⟩ := id h
  unfold F_X7_pass F_X8_pass
  rw [cwi, mwi, bind_t, bind_t]
  rcases wi_or a 1 60 with c | ⟨c, c1, c2⟩
  · rw [c, if_pos rfl, if_pos rfl]; exact Res.same h _
  · obtain ⟨x, x1, x2, rfl⟩ := wi_bn (lo := 1) (hi := 60) (by decide) c1 c2 (by decide)
    rw [c, if_neg n10, if_neg n10, show s (140 + 1) (ix 1) = s 141 1 from rfl, hx.2.2.2.2.2.1, hx.2.2.2.2.1, nI_add]
    by_cases d : mi + x ≤ 9999
    · rw [if_pos (by rw [l9999, le_n (by omega) (by omega)]; exact d), if_pos (by rw [l9999, le_n (by omega) (by omega)]; exact d)]
      obtain ⟨σ1, s1, r1, r2, r3, r4⟩ := record_n hN h
      have hx1 := now_rec hx r4
      obtain ⟨v, t', g', σ', s', b1, b2, b3, b4, b5⟩ := pass_l (N := N) hN x2 x 0 N N 0 t g mi σ1 s1 (by omega) (by omega) (by omega) d hx1
      rw [r1, bind_t, r2, bind_t]
      exact Res.fin v b1 b2 r3 r4 (fun j j1 j2 => b4 j (by omega)) (fun j j1 => b5 j (by omega) (by omega)) ⟨n, e, t', g', l, mi + x, d, b3⟩
    · rw [if_neg (by rw [l9999, le_n (by omega) (by omega)]; exact d), if_neg (by rw [l9999, le_n (by omega) (by omega)]; exact d)]
      exact Res.same h _
end OPS
