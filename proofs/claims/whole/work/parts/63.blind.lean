theorem Z7_same {u U : State} (h : u.vm = U.vm) (q : Z7 u) : Z7 U := ⟨va_Nw.same rfl h q.1, va_Nw.same rfl h q.2.1, va_Nw.same rfl h q.2.2.1, va_AO.moved (h ▸ Vm.Alike.refl u.vm) q.2.2.2.1, Z4_same h q.2.2.2.2⟩
theorem ci_blind7 {D : va_G} {cy : Nat → ClassId} {sz : Nat} {av : List Value} {ws : va_W} : FrameBlind (va_Pc av (CiPre7 D cy sz ws)) := fun a U g mk q =>
  ⟨q.1, ⟨q.2.1.1, q.2.1.2.1, va_K.moved (u := U) (U := U.calling g mk a) (Vm.Alike.refl U.vm) q.2.1.2.2.1, q.2.1.2.2.2⟩, Z7_same (u := U) (U := U.calling g mk a) rfl q.2.2⟩
