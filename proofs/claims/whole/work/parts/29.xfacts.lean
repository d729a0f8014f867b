/-! the facts of the start that a throw rests on, beside the words -/
def xZ (C n d : String) (A : Nat → Prop) (U : State) (H : Heap) : Prop :=
  ∃ (c : ClassId) (k : Class) (i : Nat) (f : Field) (a : Nat) (cell : Cell) (v : Value), U.vm.findClass C = some c ∧ U.fieldFound? C n d = some (c, k, i, f) ∧ f.isStatic = true ∧ k.statics = some a ∧ H[a]? = some cell ∧ cell.vm.isStatics = true ∧ cell.cls = c ∧ f.slot < cell.slots.size ∧ k.staticTypes[f.slot]? = some f.type ∧ cell.slots[f.slot]? = some v ∧ v.isRef = true ∧ ¬ A a
theorem xZ.moved {C n d : String} {A : Nat → Prop} {u U : State} {H : Heap} (hvm : u.vm.Alike U.vm) (h : xZ C n d A u H) : xZ C n d A U H := by
  obtain ⟨c, k, i, f, a, cell, v, h0, h1, h2, h3, h4, h5, h6, h7, h8, h9⟩ := h
  obtain ⟨k', hi', he⟩ := State.fieldFound?_setVm hvm h1
  exact ⟨c, k', i, f, a, cell, v, by rw [hvm.findClass]; exact h0, hi', h2, by rw [he]; exact h3, h4, h5, h6, h7, by rw [he]; exact h8, h9⟩
theorem xZ.kept {C n d : String} {A : Nat → Prop} {U : State} {H H1 : Heap} (h : xZ C n d A U H) (hq : ∀ a : Nat, a < H.size → ¬ A a → H1[a]? = H[a]?) : xZ C n d A U H1 := by
  obtain ⟨c, k, i, f, a, cell, v, h0, h1, h2, h3, h4, h5, h6, h7, h8, h9, hr, hA⟩ := h
  exact ⟨c, k, i, f, a, cell, v, h0, h1, h2, h3, by rw [hq a (Array.getElem?_eq_some_iff.mp h4).1 hA]; exact h4, h5, h6, h7, h8, h9, hr, hA⟩
theorem xZ.narrow {C n d : String} {A B : Nat → Prop} {U : State} {H : Heap} (h : xZ C n d A U H) (hAB : ∀ q, B q → A q) : xZ C n d B U H := by
  obtain ⟨c, k, i, f, a, cell, v, h0, h1, h2, h3, h4, h5, h6, h7, h8, h9, hr, hA⟩ := h
  exact ⟨c, k, i, f, a, cell, v, h0, h1, h2, h3, h4, h5, h6, h7, h8, h9, hr, fun z => hA (hAB a z)⟩
theorem xZ.of {args : Array Value} {s : State} {C n d : String} {A : Nat → Prop} (hl : (Cond.laysStatic C n d).before args s = true) (h : (Cond.isRef (.static C n d)).before args s = true) (hA : ∀ a : Nat, a < s.heap.size → ¬ A a) : xZ C n d A s s.heap := by
  obtain ⟨c, k, i, f, a, cell, hc, hi, hst, ha, hcell, hs, hcls, hlt, hty⟩ := Cond.laysStatic_spec hl
  cases hv : (Term.static C n d).eval args s none [] s with
  | none => simp [Cond.before, Cond.holds, Cond.value, hv] at h
  | some w =>
    obtain ⟨hst', a', cell', ha', hcell', -, hslot⟩ := Term.static_spec hi hv
    cases ha.symm.trans ha'
    cases hcell.symm.trans hcell'
    have hw : w.isRef = true := by
      simp only [Cond.before, Cond.holds, Cond.value, hv] at h
      cases w <;> simp_all [Value.isRef]
    exact ⟨c, k, i, f, a, cell, w, hc, hi, hst, ha, hcell, hs, hcls, hlt, hty, hslot, hw, hA a (Array.getElem?_eq_some_iff.mp hcell).1⟩
theorem xZ.lays {args : Array Value} {s : State} {C n d : String} {A : Nat → Prop} (h : xZ C n d A s s.heap) : (Cond.laysStatic C n d).before args s = true := by
  obtain ⟨c, k, i, f, a, cell, v, h0, h1, h2, h3, h4, h5, h6, h7, h8, h9, hr, hA⟩ := h
  simp [Cond.before, Cond.holds, Cond.value, h0, h1, h2, h3, h4, h5, h6, h7, h8]
theorem xZ.isRef {args : Array Value} {s : State} {C n d : String} {A : Nat → Prop} (h : xZ C n d A s s.heap) : (Cond.isRef (.static C n d)).before args s = true := by
  obtain ⟨c, k, i, f, a, cell, v, h0, h1, h2, h3, h4, h5, h6, h7, h8, h9, hr, hA⟩ := h
  have he : (Term.static C n d).eval args s none [] s = some v := by simp [Term.eval, State.fieldNamed?, h1, h2, h3, h4, h5, h9]
  simp only [Cond.before, Cond.holds, Cond.value, he]
  cases v <;> simp_all [Value.isRef]
def xXW : List Cond := [.castable "java/lang/IllegalArgumentException" "java/lang/IllegalArgumentException", .castable "java/lang/IllegalStateException" "java/lang/IllegalStateException", .declares ⟨"java/lang/RuntimeException", "<init>", "(Ljava/lang/String;)V"⟩, .declares ⟨"java/lang/Exception", "<init>", "(Ljava/lang/String;)V"⟩, .declares ⟨"java/lang/Throwable", "<init>", "(Ljava/lang/String;)V"⟩]
def xSW : List (Nat × String) := [(78, "p is no prime up to 32003"), (83, "n is not 1 .. 4"), (85, "order is not 0 or 1"), (91, "e is no monomial of the variables"), (103, "the polynomial in hand is 0"), (108, "there are 8 generators"), (127, "d is not 0 .. HIGHEST"), (174, "there is no basis"), (176, "the polynomial in hand is above the basis' degree")]
/-- words that hold at a start -/
def vwX (U : State) : Prop := ∀ w ∈ xXW, va_Nw w U
def vwR (U : State) : Prop := ∀ q ∈ xSW, ∃ a, vk_R "SpaceBasis" q.1 q.2 a U
theorem vwX.warm {s U : State} (hW : s.WarmedH U.vm) (h : vwX s) : vwX U :=
  List.forall_mem_cons.mpr ⟨va_Nw.warmC hW (h _ (by decide)), List.forall_mem_cons.mpr ⟨va_Nw.warmC hW (h _ (by decide)), List.forall_mem_cons.mpr ⟨va_Nw.warmD hW (h _ (by decide)), List.forall_mem_cons.mpr ⟨va_Nw.warmD hW (h _ (by decide)), List.forall_mem_cons.mpr ⟨va_Nw.warmD hW (h _ (by decide)), fun _ h => absurd h List.not_mem_nil⟩⟩⟩⟩⟩
theorem vwX.same {s U : State} (e : s.vm = U.vm) (h : vwX s) : vwX U :=
  List.forall_mem_cons.mpr ⟨va_Nw.same rfl e (h _ (by decide)), List.forall_mem_cons.mpr ⟨va_Nw.same rfl e (h _ (by decide)), List.forall_mem_cons.mpr ⟨va_Nw.same rfl e (h _ (by decide)), List.forall_mem_cons.mpr ⟨va_Nw.same rfl e (h _ (by decide)), List.forall_mem_cons.mpr ⟨va_Nw.same rfl e (h _ (by decide)), fun _ h => absurd h List.not_mem_nil⟩⟩⟩⟩⟩
theorem vwR.warm {s U : State} (hW : s.WarmedH U.vm) (h : vwR s) : vwR U := fun q hq => by
  obtain ⟨a, ha⟩ := h q hq
  exact ⟨a, ha.warm hW⟩
theorem vwR.same {s U : State} (e : s.vm = U.vm) (h : vwR s) : vwR U := fun q hq => by
  obtain ⟨a, ha⟩ := h q hq
  exact ⟨a, vk_R.same e.symm ha⟩
/-- both statics of Throwable, as they are at a start -/
def vwTh (A : Nat → Prop) (U : State) (H : Heap) : Prop := xZ "java/lang/Throwable" "UNASSIGNED_STACK" "[Ljava/lang/StackTraceElement;" A U H ∧ xZ "java/lang/Throwable" "SUPPRESSED_SENTINEL" "Ljava/util/List;" A U H
theorem vwTh.call {A : Nat → Prop} {U : State} {g : JFrame} {mk : MethodId} {a : Array Value} (h : vwTh A U U.heap) : vwTh A (U.calling g mk a) (U.calling g mk a).heap :=
  ⟨xZ.moved (u := U) (U := U.calling g mk a) (Vm.Alike.refl U.vm) h.1, xZ.moved (u := U) (U := U.calling g mk a) (Vm.Alike.refl U.vm) h.2⟩
theorem vwTh.give {A B : Nat → Prop} {s U : State} {H : Heap} {locs : List Loc} (h : vwTh A s s.heap) (hS : va_S A s.heap H locs) (hF : ∀ q, B q → A q) (hW : s.WarmedH U.vm) (hU : U.heap = H) : vwTh B U U.heap := by
  rw [hU]
  exact ⟨((h.1.kept (fun a h1 h2 => hS.2.1 a h1 h2)).moved hW.alike).narrow hF, ((h.2.kept (fun a h1 h2 => hS.2.1 a h1 h2)).moved hW.alike).narrow hF⟩
def xEX : List Cond := xXW ++ [.laysStatic "java/lang/Throwable" "UNASSIGNED_STACK" "[Ljava/lang/StackTraceElement;", .laysStatic "java/lang/Throwable" "SUPPRESSED_SENTINEL" "Ljava/util/List;", .isRef (.static "java/lang/Throwable" "UNASSIGNED_STACK" "[Ljava/lang/StackTraceElement;"), .isRef (.static "java/lang/Throwable" "SUPPRESSED_SENTINEL" "Ljava/util/List;")]
theorem xEX_holds {args : Array Value} {s : State} {A : Nat → Prop} (hX : vwX s) (hT : vwTh A s s.heap) : ∀ w ∈ xEX, w.before args s = true := fun w hw => by
  rcases List.mem_append.mp hw with h | h
  · have h1 := hX w h
    have h2 : w.onTables = true := by
      have : xXW.all (fun w => w.onTables) = true := by decide
      exact List.all_eq_true.mp this w h
    exact va_Nw.use h2 h1
  · simp only [List.mem_cons, List.not_mem_nil, or_false] at h
    rcases h with rfl | rfl | rfl | rfl
    · exact hT.1.lays
    · exact hT.2.lays
    · exact hT.1.isRef
    · exact hT.2.isRef
set_option maxRecDepth 100000 in
theorem x_in_1 : (Bundle.ownAtoms "SpaceBasis" 80 "java/lang/IllegalArgumentException" ["java/lang/RuntimeException", "java/lang/Exception"]).all (fun a => decide (a ∈ vwWS) || decide (a ∈ xEX)) = true := by decide +kernel
set_option maxRecDepth 100000 in
theorem x_in_2 : (Bundle.ownAtoms "SpaceBasis" 110 "java/lang/IllegalStateException" ["java/lang/RuntimeException", "java/lang/Exception"]).all (fun a => decide (a ∈ vwWS) || decide (a ∈ xEX)) = true := by decide +kernel
theorem x_at_1 {args : Array Value} {s : State} {A : Nat → Prop} (hts : ∀ w ∈ vwWS, w.before args s = true) (hX : vwX s) (hT : vwTh A s s.heap) : ∀ a ∈ Bundle.ownAtoms "SpaceBasis" 80 "java/lang/IllegalArgumentException" ["java/lang/RuntimeException", "java/lang/Exception"], a.before args s = true := fun a ha => by
  have h := List.all_eq_true.mp x_in_1 a ha
  rw [Bool.or_eq_true, decide_eq_true_eq, decide_eq_true_eq] at h
  rcases h with h | h
  · exact hts a h
  · exact xEX_holds hX hT a h
theorem x_at_2 {args : Array Value} {s : State} {A : Nat → Prop} (hts : ∀ w ∈ vwWS, w.before args s = true) (hX : vwX s) (hT : vwTh A s s.heap) : ∀ a ∈ Bundle.ownAtoms "SpaceBasis" 110 "java/lang/IllegalStateException" ["java/lang/RuntimeException", "java/lang/Exception"], a.before args s = true := fun a ha => by
  have h := List.all_eq_true.mp x_in_2 a ha
  rw [Bool.or_eq_true, decide_eq_true_eq, decide_eq_true_eq] at h
  rcases h with h | h
  · exact hts a h
  · exact xEX_holds hX hT a h
