/-! arrays of int arrays: what the tables say of their class, as a fact of the start; the rows of a new one -/
def vwO (U : State) : Prop := (Cond.arrayOver (.array .int)).before #[] U = true
theorem vwO.use {A : Array Value} {U : State} (h : vwO U) : (Cond.arrayOver (.array .int)).before A U = true := h
theorem vwO.of {A : Array Value} {U : State} (h : (Cond.arrayOver (.array .int)).before A U = true) : vwO U := h
theorem vwO.moved {u U : State} (hvm : u.vm.Alike U.vm) (h : vwO u) : vwO U := by
  have h1 : (Cond.arrayOver (.array .int)).before #[] (u.setVm U.vm) = true := by rw [Cond.arrayOver_setVmC hvm]; exact h
  exact h1
theorem vwO.call {U : State} {g : JFrame} {mk : MethodId} {a : Array Value} (h : vwO U) : vwO (U.calling g mk a) := vwO.moved (u := U) (U := U.calling g mk a) (Vm.Alike.refl U.vm) h
theorem vw_rows8 (r : Nat → Nat) (f : Nat → va_E) (e : va_E) : va_pl ([] ++ (List.range 8).map r) (vr_up f ((List.range 8).map r) e) = [(r 0, e), (r 1, e), (r 2, e), (r 3, e), (r 4, e), (r 5, e), (r 6, e), (r 7, e)] := by
  unfold va_pl
  rw [List.nil_append, List.map_congr_left (g := fun a => (a, e)) (fun a ha => by rw [vr_up_in ha])]
  rfl
theorem vw_gg : "[" ++ (FieldType.array .int).toString = "[[I" := by decide +kernel
