abbrev b_mn_unit : ByteArray := prog_5_method_10_code
def y_mn_unit : MethodName := ⟨"SpaceBasis$Monomials", "unit", "(I)I"⟩
def w_mn_unit : List Cond := Cond.code y_mn_unit b_mn_unit 1 (some .int) :: vwWS
theorem d_mn_unit_0 : decode b_mn_unit 0 = .ok (.iconst 1, 1) := by decide +kernel
theorem d_mn_unit_1 : decode b_mn_unit 1 = .ok (.bipush 24, 2) := by decide +kernel
theorem d_mn_unit_3 : decode b_mn_unit 3 = .ok (.bipush 8, 2) := by decide +kernel
theorem d_mn_unit_5 : decode b_mn_unit 5 = .ok (.iload_n 0, 1) := by decide +kernel
theorem d_mn_unit_6 : decode b_mn_unit 6 = .ok (.imul, 1) := by decide +kernel
theorem d_mn_unit_7 : decode b_mn_unit 7 = .ok (.isub, 1) := by decide +kernel
theorem d_mn_unit_8 : decode b_mn_unit 8 = .ok (.ishl, 1) := by decide +kernel
theorem d_mn_unit_9 : decode b_mn_unit 9 = .ok (.ireturn, 1) := by decide +kernel
/-- SpaceBasis$Monomials.unit(I)I -/
def vc_mn_unit (p0 : Int32) (Q : Int32 → Prop) : Prop :=
  Q (1 <<< ((24 - (8 * p0)) &&& 31))
abbrev at_mn_unit (dC : Nat → ClassId) (dI : Nat → Nat → Nat) (cs : Nat → ClassId) (A : Nat → Prop) (ad : Nat → Nat)  (u : Unit) (t : State) : Prop := match u with
  | _ => va_P (dC, dI) vwCl [] t.heap ∧ va_D A []
set_option maxHeartbeats 4000000 in
set_option maxRecDepth 100000 in
theorem c_mn_unit (l : Launch) (dC : Nat → ClassId) (dI : Nat → Nat → Nat) (cs : Nat → ClassId) (ad : Nat → Nat)  (sz : Nat) (p0 : Int32) (Q : Int32 → Prop) (hv : vc_mn_unit p0 Q) : Met l y_mn_unit w_mn_unit ({ frames := 0, cells := 0, slots := 0, locals := 0 }) (va_Pc [.int p0] (fun U => U.heap.size = sz ∧ va_P (dC, dI) vwCl [] U.heap ∧ vwK dC dI cs U ∧ va_D (fun _ => True) [])) (va_Qi (fun (r : Int32) (u : Unit) => Q r) (at_mn_unit dC dI cs (va_A [] sz) ad ) (va_A [] sz)) 0 0 (va_A [] sz) := by
  unfold vc_mn_unit at hv
  refine Met.ofW (cc := b_mn_unit) (maxL := 1) (ret := (some .int)) (by decide) rfl ?_
  intro p e s m args below meth c s₁ B hml hpc
  obtain ⟨rfl, hsz, hP, ⟨hK, hN⟩, hD0⟩ := hpc
  have hx := B.exec
  have hb := B.bytes
  have hr := B.returns
  have hts : ∀ w ∈ vwWS, w.before _ s = true := fun w h => atoms_spec (ws := w_mn_unit) B.pre w (List.mem_cons_of_mem _ h)
  have hown : s.vm.findClass "SpaceBasis$Monomials" = some m.cls := findClass_of_methodNamed B.named
  have hlocks := B.notSynchronized
  subst hsz
  have hD := hD0.self (sz := s.heap.size)
  generalize hAe : va_A [] s.heap.size = A at hD ⊢
  have hA : ∀ q : Nat, s.heap.size ≤ q → A q := fun q h => by rw [← hAe]; exact Or.inr h
  have hS : va_S A s.heap s.heap [] := va_S.rf
  have hl := lv_entry ([.int p0]) (n := 1) (Nat.le_of_ble_eq_true rfl)
  rw [lg_entry_eq]
  generalize (lg_sl ([.int p0]) ++ List.replicate (1 - (lg_sl ([.int p0])).length) Slot.unset).toArray = ls at hl ⊢
  have hl : lv_has ls 1 [(0, .int p0)] := hl
  refine lv_iconst (v := 1) hx hb d_mn_unit_0 (by decide) ?_
  refine lv_bipush (v := 24) hx hb d_mn_unit_1 (by decide) ?_
  refine lv_bipush (v := 8) hx hb d_mn_unit_3 (by decide) ?_
  refine lv_iload_n hx hb d_mn_unit_5 rfl (lv_at hl 0 rfl) ?_
  refine lv_imul hx hb d_mn_unit_6 ?_
  refine lv_isub hx hb d_mn_unit_7 ?_
  refine lv_ishl hx hb d_mn_unit_8 ?_
  have hP9 := hP.sub (ws' := []) [] rfl
  have hD9 := hD.sub (ws' := []) [] (by decide) rfl
  exact W.iret (v := (1 <<< ((24 - (8 * p0)) &&& 31))) hx hb hr (fun t ht hW => ⟨⟨(1 <<< ((24 - (8 * p0)) &&& 31)), (), rfl, hv, by rw [ht]; exact hP9, hD9⟩, hS.F ht⟩) hS.2.2 d_mn_unit_9
abbrev b_mn_exponentIn : ByteArray := prog_5_method_11_code
def y_mn_exponentIn : MethodName := ⟨"SpaceBasis$Monomials", "exponentIn", "(II)I"⟩
def w_mn_exponentIn : List Cond := Cond.code y_mn_exponentIn b_mn_exponentIn 2 (some .int) :: vwWS
theorem d_mn_exponentIn_0 : decode b_mn_exponentIn 0 = .ok (.iload_n 0, 1) := by decide +kernel
theorem d_mn_exponentIn_1 : decode b_mn_exponentIn 1 = .ok (.bipush 24, 2) := by decide +kernel
theorem d_mn_exponentIn_3 : decode b_mn_exponentIn 3 = .ok (.bipush 8, 2) := by decide +kernel
theorem d_mn_exponentIn_5 : decode b_mn_exponentIn 5 = .ok (.iload_n 1, 1) := by decide +kernel
theorem d_mn_exponentIn_6 : decode b_mn_exponentIn 6 = .ok (.imul, 1) := by decide +kernel
theorem d_mn_exponentIn_7 : decode b_mn_exponentIn 7 = .ok (.isub, 1) := by decide +kernel
theorem d_mn_exponentIn_8 : decode b_mn_exponentIn 8 = .ok (.iushr, 1) := by decide +kernel
theorem d_mn_exponentIn_9 : decode b_mn_exponentIn 9 = .ok (.sipush 255, 3) := by decide +kernel
theorem d_mn_exponentIn_12 : decode b_mn_exponentIn 12 = .ok (.iand, 1) := by decide +kernel
theorem d_mn_exponentIn_13 : decode b_mn_exponentIn 13 = .ok (.ireturn, 1) := by decide +kernel
/-- SpaceBasis$Monomials.exponentIn(II)I -/
def vc_mn_exponentIn (p0 : Int32) (p1 : Int32) (Q : Int32 → Prop) : Prop :=
  Q (((p0 : Int32).toUInt32 >>> (((24 - (8 * p1)) : Int32).toUInt32 &&& Int32.toUInt32 31)).toInt32 &&& 255)
abbrev at_mn_exponentIn (dC : Nat → ClassId) (dI : Nat → Nat → Nat) (cs : Nat → ClassId) (A : Nat → Prop) (ad : Nat → Nat)  (u : Unit) (t : State) : Prop := match u with
  | _ => va_P (dC, dI) vwCl [] t.heap ∧ va_D A []
set_option maxHeartbeats 4000000 in
set_option maxRecDepth 100000 in
theorem c_mn_exponentIn (l : Launch) (dC : Nat → ClassId) (dI : Nat → Nat → Nat) (cs : Nat → ClassId) (ad : Nat → Nat)  (sz : Nat) (p0 : Int32) (p1 : Int32) (Q : Int32 → Prop) (hv : vc_mn_exponentIn p0 p1 Q) : Met l y_mn_exponentIn w_mn_exponentIn ({ frames := 0, cells := 0, slots := 0, locals := 0 }) (va_Pc [.int p0, .int p1] (fun U => U.heap.size = sz ∧ va_P (dC, dI) vwCl [] U.heap ∧ vwK dC dI cs U ∧ va_D (fun _ => True) [])) (va_Qi (fun (r : Int32) (u : Unit) => Q r) (at_mn_exponentIn dC dI cs (va_A [] sz) ad ) (va_A [] sz)) 0 0 (va_A [] sz) := by
  unfold vc_mn_exponentIn at hv
  refine Met.ofW (cc := b_mn_exponentIn) (maxL := 2) (ret := (some .int)) (by decide) rfl ?_
  intro p e s m args below meth c s₁ B hml hpc
  obtain ⟨rfl, hsz, hP, ⟨hK, hN⟩, hD0⟩ := hpc
  have hx := B.exec
  have hb := B.bytes
  have hr := B.returns
  have hts : ∀ w ∈ vwWS, w.before _ s = true := fun w h => atoms_spec (ws := w_mn_exponentIn) B.pre w (List.mem_cons_of_mem _ h)
  have hown : s.vm.findClass "SpaceBasis$Monomials" = some m.cls := findClass_of_methodNamed B.named
  have hlocks := B.notSynchronized
  subst hsz
  have hD := hD0.self (sz := s.heap.size)
  generalize hAe : va_A [] s.heap.size = A at hD ⊢
  have hA : ∀ q : Nat, s.heap.size ≤ q → A q := fun q h => by rw [← hAe]; exact Or.inr h
  have hS : va_S A s.heap s.heap [] := va_S.rf
  have hl := lv_entry ([.int p0, .int p1]) (n := 2) (Nat.le_of_ble_eq_true rfl)
  rw [lg_entry_eq]
  generalize (lg_sl ([.int p0, .int p1]) ++ List.replicate (2 - (lg_sl ([.int p0, .int p1])).length) Slot.unset).toArray = ls at hl ⊢
  have hl : lv_has ls 2 [(0, .int p0), (1, .int p1)] := hl
  refine lv_iload_n hx hb d_mn_exponentIn_0 rfl (lv_at hl 0 rfl) ?_
  refine lv_bipush (v := 24) hx hb d_mn_exponentIn_1 (by decide) ?_
  refine lv_bipush (v := 8) hx hb d_mn_exponentIn_3 (by decide) ?_
  refine lv_iload_n hx hb d_mn_exponentIn_5 rfl (lv_at hl 1 rfl) ?_
  refine lv_imul hx hb d_mn_exponentIn_6 ?_
  refine lv_isub hx hb d_mn_exponentIn_7 ?_
  refine lv_iushr (v := ((p0 : Int32).toUInt32 >>> (((24 - (8 * p1)) : Int32).toUInt32 &&& Int32.toUInt32 31)).toInt32) hx hb d_mn_exponentIn_8 rfl ?_
  refine lv_sipush (v := 255) hx hb d_mn_exponentIn_9 (by decide) ?_
  refine lv_iand hx hb d_mn_exponentIn_12 ?_
  have hP9 := hP.sub (ws' := []) [] rfl
  have hD9 := hD.sub (ws' := []) [] (by decide) rfl
  exact W.iret (v := (((p0 : Int32).toUInt32 >>> (((24 - (8 * p1)) : Int32).toUInt32 &&& Int32.toUInt32 31)).toInt32 &&& 255)) hx hb hr (fun t ht hW => ⟨⟨(((p0 : Int32).toUInt32 >>> (((24 - (8 * p1)) : Int32).toUInt32 &&& Int32.toUInt32 31)).toInt32 &&& 255), (), rfl, hv, by rw [ht]; exact hP9, hD9⟩, hS.F ht⟩) hS.2.2 d_mn_exponentIn_13
abbrev b_mn_append : ByteArray := prog_5_method_4_code
def y_mn_append : MethodName := ⟨"SpaceBasis$Monomials", "append", "(II)V"⟩
def w_mn_append : List Cond := Cond.code y_mn_append b_mn_append 3 none :: vwWS
theorem d_mn_append_0 : decode b_mn_append 0 = .ok (.aload_n 0, 1) := by decide +kernel
theorem d_mn_append_1 : decode b_mn_append 1 = .ok (.getfield 37, 3) := by decide +kernel
theorem d_mn_append_4 : decode b_mn_append 4 = .ok (.bipush 126, 2) := by decide +kernel
theorem d_mn_append_6 : decode b_mn_append 6 = .ok (.if_icmp .ge 33, 3) := by decide +kernel
theorem d_mn_append_9 : decode b_mn_append 9 = .ok (.aload_n 0, 1) := by decide +kernel
theorem d_mn_append_10 : decode b_mn_append 10 = .ok (.getfield 9, 3) := by decide +kernel
theorem d_mn_append_13 : decode b_mn_append 13 = .ok (.aload_n 0, 1) := by decide +kernel
theorem d_mn_append_14 : decode b_mn_append 14 = .ok (.getfield 37, 3) := by decide +kernel
theorem d_mn_append_17 : decode b_mn_append 17 = .ok (.iload_n 1, 1) := by decide +kernel
theorem d_mn_append_18 : decode b_mn_append 18 = .ok (.iastore, 1) := by decide +kernel
theorem d_mn_append_19 : decode b_mn_append 19 = .ok (.aload_n 0, 1) := by decide +kernel
theorem d_mn_append_20 : decode b_mn_append 20 = .ok (.getfield 15, 3) := by decide +kernel
theorem d_mn_append_23 : decode b_mn_append 23 = .ok (.aload_n 0, 1) := by decide +kernel
theorem d_mn_append_24 : decode b_mn_append 24 = .ok (.getfield 37, 3) := by decide +kernel
theorem d_mn_append_27 : decode b_mn_append 27 = .ok (.iload_n 2, 1) := by decide +kernel
theorem d_mn_append_28 : decode b_mn_append 28 = .ok (.iastore, 1) := by decide +kernel
theorem d_mn_append_29 : decode b_mn_append 29 = .ok (.aload_n 0, 1) := by decide +kernel
theorem d_mn_append_30 : decode b_mn_append 30 = .ok (.dup, 1) := by decide +kernel
theorem d_mn_append_31 : decode b_mn_append 31 = .ok (.getfield 37, 3) := by decide +kernel
theorem d_mn_append_34 : decode b_mn_append 34 = .ok (.iconst 1, 1) := by decide +kernel
theorem d_mn_append_35 : decode b_mn_append 35 = .ok (.iadd, 1) := by decide +kernel
theorem d_mn_append_36 : decode b_mn_append 36 = .ok (.putfield 37, 3) := by decide +kernel
theorem d_mn_append_39 : decode b_mn_append 39 = .ok (.return_, 1) := by decide +kernel
/-- SpaceBasis$Monomials.append(II)V -/
def vc_mn_append (mn_variables : Int32) (mn_order : Int32) (mn_highest : Int32) (mn_count : Int32) (mn_codes : Nat → Int32) (mn_degrees : Nat → Int32) (p0 : Int32) (p1 : Int32) (Q : Int32 → (Nat → Int32) → (Nat → Int32) → Prop) : Prop :=
  (((126 ≤ mn_count) → (Q mn_count mn_codes mn_degrees)) ∧ ((¬ (126 ≤ mn_count)) → (vp_in mn_count 126 ∧ ∀ mn_codes_3 : Nat → Int32, mn_codes_3 = upd mn_codes mn_count.toNatClampNeg p0 → vp_in mn_count 126 ∧ ∀ mn_degrees_5 : Nat → Int32, mn_degrees_5 = upd mn_degrees mn_count.toNatClampNeg p1 → ∀ y_7 : Int32, y_7 = (mn_count + 1) → Q y_7 mn_codes_3 mn_degrees_5)))
abbrev at_mn_append (dC : Nat → ClassId) (dI : Nat → Nat → Nat) (cs : Nat → ClassId) (A : Nat → Prop) (ad : Nat → Nat) (mn_variables : Int32) (mn_order : Int32) (mn_highest : Int32) (u : Int32 × (Nat → Int32) × (Nat → Int32)) (t : State) : Prop := match u with
  | (mn_count, mn_codes, mn_degrees) => va_P (dC, dI) vwCl [((ad 4), .inr (2, [.ref (ad 5), .ref (ad 6), .ref (ad 7), .ref (ad 8), .int mn_variables, .int mn_order, .int mn_highest, .int mn_count])), ((ad 5), .inl (cs 0, 126, .inl mn_codes)), ((ad 6), .inl (cs 0, 126, .inl mn_degrees))] t.heap ∧ va_D A [((ad 4), .inr (2, [.ref (ad 5), .ref (ad 6), .ref (ad 7), .ref (ad 8), .int mn_variables, .int mn_order, .int mn_highest, .int mn_count])), ((ad 5), .inl (cs 0, 126, .inl mn_codes)), ((ad 6), .inl (cs 0, 126, .inl mn_degrees))]
set_option maxHeartbeats 4000000 in
set_option maxRecDepth 100000 in
theorem c_mn_append (l : Launch) (dC : Nat → ClassId) (dI : Nat → Nat → Nat) (cs : Nat → ClassId) (ad : Nat → Nat)  (sz : Nat) (mn_variables : Int32) (mn_order : Int32) (mn_highest : Int32) (mn_count : Int32) (mn_codes : Nat → Int32) (mn_degrees : Nat → Int32) (p0 : Int32) (p1 : Int32) (Q : Int32 → (Nat → Int32) → (Nat → Int32) → Prop) (hv : vc_mn_append mn_variables mn_order mn_highest mn_count mn_codes mn_degrees p0 p1 Q) : Met l y_mn_append w_mn_append ({ frames := 0, cells := 0, slots := 0, locals := 0 }) (va_Pc [.ref (ad 4), .int p0, .int p1] (fun U => U.heap.size = sz ∧ va_P (dC, dI) vwCl [((ad 4), .inr (2, [.ref (ad 5), .ref (ad 6), .ref (ad 7), .ref (ad 8), .int mn_variables, .int mn_order, .int mn_highest, .int mn_count])), ((ad 5), .inl (cs 0, 126, .inl mn_codes)), ((ad 6), .inl (cs 0, 126, .inl mn_degrees))] U.heap ∧ vwK dC dI cs U ∧ va_D (fun _ => True) [((ad 4), .inr (2, [.ref (ad 5), .ref (ad 6), .ref (ad 7), .ref (ad 8), .int mn_variables, .int mn_order, .int mn_highest, .int mn_count])), ((ad 5), .inl (cs 0, 126, .inl mn_codes)), ((ad 6), .inl (cs 0, 126, .inl mn_degrees))])) (va_Qv (fun (u : Int32 × (Nat → Int32) × (Nat → Int32)) => Q u.1 u.2.1 u.2.2) (at_mn_append dC dI cs (va_A [((ad 4), .inr (2, [.ref (ad 5), .ref (ad 6), .ref (ad 7), .ref (ad 8), .int mn_variables, .int mn_order, .int mn_highest, .int mn_count])), ((ad 5), .inl (cs 0, 126, .inl mn_codes)), ((ad 6), .inl (cs 0, 126, .inl mn_degrees))] sz) ad mn_variables mn_order mn_highest) (va_A [((ad 4), .inr (2, [.ref (ad 5), .ref (ad 6), .ref (ad 7), .ref (ad 8), .int mn_variables, .int mn_order, .int mn_highest, .int mn_count])), ((ad 5), .inl (cs 0, 126, .inl mn_codes)), ((ad 6), .inl (cs 0, 126, .inl mn_degrees))] sz)) 0 0 (va_A [((ad 4), .inr (2, [.ref (ad 5), .ref (ad 6), .ref (ad 7), .ref (ad 8), .int mn_variables, .int mn_order, .int mn_highest, .int mn_count])), ((ad 5), .inl (cs 0, 126, .inl mn_codes)), ((ad 6), .inl (cs 0, 126, .inl mn_degrees))] sz) := by
  unfold vc_mn_append at hv
  refine Met.ofW (cc := b_mn_append) (maxL := 3) (ret := none) (by decide) rfl ?_
  intro p e s m args below meth c s₁ B hml hpc
  obtain ⟨rfl, hsz, hP, ⟨hK, hN⟩, hD0⟩ := hpc
  have hx := B.exec
  have hb := B.bytes
  have hr := B.returns
  have hts : ∀ w ∈ vwWS, w.before _ s = true := fun w h => atoms_spec (ws := w_mn_append) B.pre w (List.mem_cons_of_mem _ h)
  have hown : s.vm.findClass "SpaceBasis$Monomials" = some m.cls := findClass_of_methodNamed B.named
  have hlocks := B.notSynchronized
  subst hsz
  have hD := hD0.self (sz := s.heap.size)
  generalize hAe : va_A [((ad 4), .inr (2, [.ref (ad 5), .ref (ad 6), .ref (ad 7), .ref (ad 8), .int mn_variables, .int mn_order, .int mn_highest, .int mn_count])), ((ad 5), .inl (cs 0, 126, .inl mn_codes)), ((ad 6), .inl (cs 0, 126, .inl mn_degrees))] s.heap.size = A at hD ⊢
  have hA : ∀ q : Nat, s.heap.size ≤ q → A q := fun q h => by rw [← hAe]; exact Or.inr h
  have hS : va_S A s.heap s.heap [] := va_S.rf
  have hl := lv_entry ([.ref (ad 4), .int p0, .int p1]) (n := 3) (Nat.le_of_ble_eq_true rfl)
  rw [lg_entry_eq]
  generalize (lg_sl ([.ref (ad 4), .int p0, .int p1]) ++ List.replicate (3 - (lg_sl ([.ref (ad 4), .int p0, .int p1])).length) Slot.unset).toArray = ls at hl ⊢
  have hl : lv_has ls 3 [(0, .ref (ad 4)), (1, .int p0), (2, .int p1)] := hl
  refine lv_aload_n hx hb d_mn_append_0 rfl (lv_at hl 0 rfl) ?_
  refine va_get (D := (dC, dI)) (ci := 2) (v := .int mn_count) (C := R_mn) (T := F_mn) (N := 8) hx hb hts in_mn hown hK hP 0 rfl rfl 7 (by decide) (hts _ kw_79) (fun _ h9 => h9) rfl d_mn_append_1 ?_
  refine lv_bipush (v := 126) hx hb d_mn_append_4 (by decide) ?_
  refine lv_icmp_ge (tgt := 39) hx hb d_mn_append_6 (by decide) (fun c_1 => ?_) (fun c_1 => ?_)
  · have hv := hv.1 c_1
    have hP9 := hP.sub (ws' := [((ad 4), .inr (2, [.ref (ad 5), .ref (ad 6), .ref (ad 7), .ref (ad 8), .int mn_variables, .int mn_order, .int mn_highest, .int mn_count])), ((ad 5), .inl (cs 0, 126, .inl mn_codes)), ((ad 6), .inl (cs 0, 126, .inl mn_degrees))]) [0, 1, 2] rfl
    have hD9 := hD.sub (ws' := [((ad 4), .inr (2, [.ref (ad 5), .ref (ad 6), .ref (ad 7), .ref (ad 8), .int mn_variables, .int mn_order, .int mn_highest, .int mn_count])), ((ad 5), .inl (cs 0, 126, .inl mn_codes)), ((ad 6), .inl (cs 0, 126, .inl mn_degrees))]) [0, 1, 2] (by decide) rfl
    exact W.vret hx hb hr (fun t ht hW => ⟨⟨(mn_count, mn_codes, mn_degrees), rfl, hv, by rw [ht]; exact hP9, hD9⟩, hS.F ht⟩) hS.2.2 d_mn_append_39
  · have hv := hv.2 c_1
    refine lv_aload_n hx hb d_mn_append_9 rfl (lv_at hl 0 rfl) ?_
    refine va_get (D := (dC, dI)) (ci := 2) (v := .ref (ad 5)) (C := R_mn) (T := F_mn) (N := 8) hx hb hts in_mn hown hK hP 0 rfl rfl 0 (by decide) (hts _ kw_72) (fun _ h9 => h9) rfl d_mn_append_10 ?_
    refine lv_aload_n hx hb d_mn_append_13 rfl (lv_at hl 0 rfl) ?_
    refine va_get (D := (dC, dI)) (ci := 2) (v := .int mn_count) (C := R_mn) (T := F_mn) (N := 8) hx hb hts in_mn hown hK hP 0 rfl rfl 7 (by decide) (hts _ kw_79) (fun _ h9 => h9) rfl d_mn_append_14 ?_
    refine lv_iload_n hx hb d_mn_append_17 rfl (lv_at hl 1 rfl) ?_
    obtain ⟨hi_2, hv⟩ := hv
    refine va_iast hx hb hK hP hD hS 1 0 rfl rfl hi_2 d_mn_append_18 (fun H locs hP hD hS => ?_)
    have hP : va_P (dC, dI) vwCl [((ad 4), .inr (2, [.ref (ad 5), .ref (ad 6), .ref (ad 7), .ref (ad 8), .int mn_variables, .int mn_order, .int mn_highest, .int mn_count])), ((ad 5), .inl (cs 0, 126, .inl (upd mn_codes mn_count.toNatClampNeg p0))), ((ad 6), .inl (cs 0, 126, .inl mn_degrees))] H := hP
    have hD : va_D A [((ad 4), .inr (2, [.ref (ad 5), .ref (ad 6), .ref (ad 7), .ref (ad 8), .int mn_variables, .int mn_order, .int mn_highest, .int mn_count])), ((ad 5), .inl (cs 0, 126, .inl (upd mn_codes mn_count.toNatClampNeg p0))), ((ad 6), .inl (cs 0, 126, .inl mn_degrees))] := hD
    generalize emn_codes_3 : upd mn_codes mn_count.toNatClampNeg p0 = mn_codes_3 at hP hD
    have hv := hv mn_codes_3 emn_codes_3.symm
    refine lv_aload_n hx hb d_mn_append_19 rfl (lv_at hl 0 rfl) ?_
    refine va_get (D := (dC, dI)) (ci := 2) (v := .ref (ad 6)) (C := R_mn) (T := F_mn) (N := 8) hx hb hts in_mn hown hK hP 0 rfl rfl 1 (by decide) (hts _ kw_73) (fun _ h9 => h9) rfl d_mn_append_20 ?_
    refine lv_aload_n hx hb d_mn_append_23 rfl (lv_at hl 0 rfl) ?_
    refine va_get (D := (dC, dI)) (ci := 2) (v := .int mn_count) (C := R_mn) (T := F_mn) (N := 8) hx hb hts in_mn hown hK hP 0 rfl rfl 7 (by decide) (hts _ kw_79) (fun _ h9 => h9) rfl d_mn_append_24 ?_
    refine lv_iload_n hx hb d_mn_append_27 rfl (lv_at hl 2 rfl) ?_
    obtain ⟨hi_4, hv⟩ := hv
    refine va_iast hx hb hK hP hD hS 2 0 rfl rfl hi_4 d_mn_append_28 (fun H locs hP hD hS => ?_)
    have hP : va_P (dC, dI) vwCl [((ad 4), .inr (2, [.ref (ad 5), .ref (ad 6), .ref (ad 7), .ref (ad 8), .int mn_variables, .int mn_order, .int mn_highest, .int mn_count])), ((ad 5), .inl (cs 0, 126, .inl mn_codes_3)), ((ad 6), .inl (cs 0, 126, .inl (upd mn_degrees mn_count.toNatClampNeg p1)))] H := hP
    have hD : va_D A [((ad 4), .inr (2, [.ref (ad 5), .ref (ad 6), .ref (ad 7), .ref (ad 8), .int mn_variables, .int mn_order, .int mn_highest, .int mn_count])), ((ad 5), .inl (cs 0, 126, .inl mn_codes_3)), ((ad 6), .inl (cs 0, 126, .inl (upd mn_degrees mn_count.toNatClampNeg p1)))] := hD
    generalize emn_degrees_5 : upd mn_degrees mn_count.toNatClampNeg p1 = mn_degrees_5 at hP hD
    have hv := hv mn_degrees_5 emn_degrees_5.symm
    refine lv_aload_n hx hb d_mn_append_29 rfl (lv_at hl 0 rfl) ?_
    refine lv_dup hx hb d_mn_append_30 rfl ?_
    refine va_get (D := (dC, dI)) (ci := 2) (v := .int mn_count) (C := R_mn) (T := F_mn) (N := 8) hx hb hts in_mn hown hK hP 0 rfl rfl 7 (by decide) (hts _ kw_79) (fun _ h9 => h9) rfl d_mn_append_31 ?_
    refine lv_iconst (v := 1) hx hb d_mn_append_34 (by decide) ?_
    refine lv_iadd hx hb d_mn_append_35 ?_
    refine lv_topi (fun y_7 ey_7 => ?_)
    have hv := hv y_7 ey_7
    refine va_put (D := (dC, dI)) (ci := 2) (v := .int y_7) (ty := .int) (C := R_mn) (T := F_mn) (N := 8) hx hb hts in_mn t_mn t_mn_ok n_mn hown hK hP hD hS 0 rfl rfl 7 (by decide) (hts _ kw_79) (fun _ h9 => h9) rfl (by decide +kernel) rfl rfl (Nat.le_of_ble_eq_true rfl) d_mn_append_36 (fun H locs hP hD hS => ?_)
    have hP : va_P (dC, dI) vwCl [((ad 4), .inr (2, [.ref (ad 5), .ref (ad 6), .ref (ad 7), .ref (ad 8), .int mn_variables, .int mn_order, .int mn_highest, .int y_7])), ((ad 5), .inl (cs 0, 126, .inl mn_codes_3)), ((ad 6), .inl (cs 0, 126, .inl mn_degrees_5))] H := hP
    have hD : va_D A [((ad 4), .inr (2, [.ref (ad 5), .ref (ad 6), .ref (ad 7), .ref (ad 8), .int mn_variables, .int mn_order, .int mn_highest, .int y_7])), ((ad 5), .inl (cs 0, 126, .inl mn_codes_3)), ((ad 6), .inl (cs 0, 126, .inl mn_degrees_5))] := hD
    have hP9 := hP.sub (ws' := [((ad 4), .inr (2, [.ref (ad 5), .ref (ad 6), .ref (ad 7), .ref (ad 8), .int mn_variables, .int mn_order, .int mn_highest, .int y_7])), ((ad 5), .inl (cs 0, 126, .inl mn_codes_3)), ((ad 6), .inl (cs 0, 126, .inl mn_degrees_5))]) [0, 1, 2] rfl
    have hD9 := hD.sub (ws' := [((ad 4), .inr (2, [.ref (ad 5), .ref (ad 6), .ref (ad 7), .ref (ad 8), .int mn_variables, .int mn_order, .int mn_highest, .int y_7])), ((ad 5), .inl (cs 0, 126, .inl mn_codes_3)), ((ad 6), .inl (cs 0, 126, .inl mn_degrees_5))]) [0, 1, 2] (by decide) rfl
    exact W.vret hx hb hr (fun t ht hW => ⟨⟨(y_7, mn_codes_3, mn_degrees_5), rfl, hv, by rw [ht]; exact hP9, hD9⟩, hS.F ht⟩) hS.2.2 d_mn_append_39
abbrev b_mn_placeOf : ByteArray := prog_5_method_5_code
def y_mn_placeOf : MethodName := ⟨"SpaceBasis$Monomials", "placeOf", "(I)I"⟩
def w_mn_placeOf : List Cond := Cond.code y_mn_placeOf b_mn_placeOf 5 (some .int) :: vwWS
theorem d_mn_placeOf_0 : decode b_mn_placeOf 0 = .ok (.iconst 0, 1) := by decide +kernel
theorem d_mn_placeOf_1 : decode b_mn_placeOf 1 = .ok (.istore_n 2, 1) := by decide +kernel
theorem d_mn_placeOf_2 : decode b_mn_placeOf 2 = .ok (.iconst 0, 1) := by decide +kernel
theorem d_mn_placeOf_3 : decode b_mn_placeOf 3 = .ok (.istore_n 3, 1) := by decide +kernel
theorem d_mn_placeOf_4 : decode b_mn_placeOf 4 = .ok (.iload_n 3, 1) := by decide +kernel
theorem d_mn_placeOf_5 : decode b_mn_placeOf 5 = .ok (.iconst 4, 1) := by decide +kernel
theorem d_mn_placeOf_6 : decode b_mn_placeOf 6 = .ok (.if_icmp .ge 36, 3) := by decide +kernel
theorem d_mn_placeOf_9 : decode b_mn_placeOf 9 = .ok (.iload_n 1, 1) := by decide +kernel
theorem d_mn_placeOf_10 : decode b_mn_placeOf 10 = .ok (.iload_n 3, 1) := by decide +kernel
theorem d_mn_placeOf_11 : decode b_mn_placeOf 11 = .ok (.invokestatic 55, 3) := by decide +kernel
theorem d_mn_placeOf_14 : decode b_mn_placeOf 14 = .ok (.istore 4, 2) := by decide +kernel
theorem d_mn_placeOf_16 : decode b_mn_placeOf 16 = .ok (.iload_n 3, 1) := by decide +kernel
theorem d_mn_placeOf_17 : decode b_mn_placeOf 17 = .ok (.aload_n 0, 1) := by decide +kernel
theorem d_mn_placeOf_18 : decode b_mn_placeOf 18 = .ok (.getfield 24, 3) := by decide +kernel
theorem d_mn_placeOf_21 : decode b_mn_placeOf 21 = .ok (.if_icmp .lt 10, 3) := by decide +kernel
theorem d_mn_placeOf_24 : decode b_mn_placeOf 24 = .ok (.iload 4, 2) := by decide +kernel
theorem d_mn_placeOf_26 : decode b_mn_placeOf 26 = .ok (.ifCond .eq 5, 3) := by decide +kernel
theorem d_mn_placeOf_29 : decode b_mn_placeOf 29 = .ok (.iconst (-1), 1) := by decide +kernel
theorem d_mn_placeOf_30 : decode b_mn_placeOf 30 = .ok (.ireturn, 1) := by decide +kernel
theorem d_mn_placeOf_31 : decode b_mn_placeOf 31 = .ok (.iload_n 2, 1) := by decide +kernel
theorem d_mn_placeOf_32 : decode b_mn_placeOf 32 = .ok (.iload 4, 2) := by decide +kernel
theorem d_mn_placeOf_34 : decode b_mn_placeOf 34 = .ok (.iadd, 1) := by decide +kernel
theorem d_mn_placeOf_35 : decode b_mn_placeOf 35 = .ok (.istore_n 2, 1) := by decide +kernel
theorem d_mn_placeOf_36 : decode b_mn_placeOf 36 = .ok (.iinc 3 1, 3) := by decide +kernel
theorem d_mn_placeOf_39 : decode b_mn_placeOf 39 = .ok (.goto (-35), 3) := by decide +kernel
theorem d_mn_placeOf_42 : decode b_mn_placeOf 42 = .ok (.iload_n 2, 1) := by decide +kernel
theorem d_mn_placeOf_43 : decode b_mn_placeOf 43 = .ok (.aload_n 0, 1) := by decide +kernel
theorem d_mn_placeOf_44 : decode b_mn_placeOf 44 = .ok (.getfield 34, 3) := by decide +kernel
theorem d_mn_placeOf_47 : decode b_mn_placeOf 47 = .ok (.if_icmp .le 5, 3) := by decide +kernel
theorem d_mn_placeOf_50 : decode b_mn_placeOf 50 = .ok (.iconst (-1), 1) := by decide +kernel
theorem d_mn_placeOf_51 : decode b_mn_placeOf 51 = .ok (.ireturn, 1) := by decide +kernel
theorem d_mn_placeOf_52 : decode b_mn_placeOf 52 = .ok (.aload_n 0, 1) := by decide +kernel
theorem d_mn_placeOf_53 : decode b_mn_placeOf 53 = .ok (.getfield 18, 3) := by decide +kernel
theorem d_mn_placeOf_56 : decode b_mn_placeOf 56 = .ok (.iload_n 2, 1) := by decide +kernel
theorem d_mn_placeOf_57 : decode b_mn_placeOf 57 = .ok (.iaload, 1) := by decide +kernel
theorem d_mn_placeOf_58 : decode b_mn_placeOf 58 = .ok (.istore_n 3, 1) := by decide +kernel
theorem d_mn_placeOf_59 : decode b_mn_placeOf 59 = .ok (.iload_n 3, 1) := by decide +kernel
theorem d_mn_placeOf_60 : decode b_mn_placeOf 60 = .ok (.aload_n 0, 1) := by decide +kernel
theorem d_mn_placeOf_61 : decode b_mn_placeOf 61 = .ok (.getfield 18, 3) := by decide +kernel
theorem d_mn_placeOf_64 : decode b_mn_placeOf 64 = .ok (.iload_n 2, 1) := by decide +kernel
theorem d_mn_placeOf_65 : decode b_mn_placeOf 65 = .ok (.iconst 1, 1) := by decide +kernel
theorem d_mn_placeOf_66 : decode b_mn_placeOf 66 = .ok (.iadd, 1) := by decide +kernel
theorem d_mn_placeOf_67 : decode b_mn_placeOf 67 = .ok (.iaload, 1) := by decide +kernel
theorem d_mn_placeOf_68 : decode b_mn_placeOf 68 = .ok (.if_icmp .ge 21, 3) := by decide +kernel
theorem d_mn_placeOf_71 : decode b_mn_placeOf 71 = .ok (.aload_n 0, 1) := by decide +kernel
theorem d_mn_placeOf_72 : decode b_mn_placeOf 72 = .ok (.getfield 9, 3) := by decide +kernel
theorem d_mn_placeOf_75 : decode b_mn_placeOf 75 = .ok (.iload_n 3, 1) := by decide +kernel
theorem d_mn_placeOf_76 : decode b_mn_placeOf 76 = .ok (.iaload, 1) := by decide +kernel
theorem d_mn_placeOf_77 : decode b_mn_placeOf 77 = .ok (.iload_n 1, 1) := by decide +kernel
theorem d_mn_placeOf_78 : decode b_mn_placeOf 78 = .ok (.if_icmp .ne 5, 3) := by decide +kernel
theorem d_mn_placeOf_81 : decode b_mn_placeOf 81 = .ok (.iload_n 3, 1) := by decide +kernel
theorem d_mn_placeOf_82 : decode b_mn_placeOf 82 = .ok (.ireturn, 1) := by decide +kernel
theorem d_mn_placeOf_83 : decode b_mn_placeOf 83 = .ok (.iinc 3 1, 3) := by decide +kernel
theorem d_mn_placeOf_86 : decode b_mn_placeOf 86 = .ok (.goto (-27), 3) := by decide +kernel
theorem d_mn_placeOf_89 : decode b_mn_placeOf 89 = .ok (.iconst (-1), 1) := by decide +kernel
theorem d_mn_placeOf_90 : decode b_mn_placeOf 90 = .ok (.ireturn, 1) := by decide +kernel
/-- SpaceBasis$Monomials.placeOf(I)I -/
def vc_mn_placeOf (mn_variables : Int32) (mn_order : Int32) (mn_highest : Int32) (mn_count : Int32) (mn_codes : Nat → Int32) (mn_firstOfDegree : Nat → Int32) (p0 : Int32) (Q : Int32 → Prop) : Prop :=
  ∃ (I4_3 : Int32 → Int32 → Prop) (mu4_4 : Int32 → Int32 → Nat), I4_3 0 0 ∧ ∀ (x2_1 : Int32) (x3_2 : Int32), I4_3 x2_1 x3_2 → ((((4 ≤ x3_2) → ((((x2_1 ≤ mn_highest) → (vp_in x2_1 32 ∧ ∀ x3_8 : Int32, x3_8 = (mn_firstOfDegree x2_1.toNatClampNeg) → ∃ (I59_10 : Int32 → Prop) (mu59_11 : Int32 → Nat), I59_10 x3_8 ∧ ∀ (x3_9 : Int32), I59_10 x3_9 → (vp_in (x2_1 + 1) 32 ∧ ((((mn_firstOfDegree ((x2_1 + 1)).toNatClampNeg) ≤ x3_9) → (Q (-1))) ∧ ((¬ ((mn_firstOfDegree ((x2_1 + 1)).toNatClampNeg) ≤ x3_9)) → (vp_in x3_9 126 ∧ (((¬ ((mn_codes x3_9.toNatClampNeg) = p0)) → (∀ x3_16 : Int32, x3_16 = x3_9 + 1 → (I59_10 x3_16 ∧ mu59_11 x3_16 < mu59_11 x3_9))) ∧ (((mn_codes x3_9.toNatClampNeg) = p0) → (Q x3_9))))))))) ∧ ((¬ (x2_1 ≤ mn_highest)) → (Q (-1)))))) ∧ ((¬ (4 ≤ x3_2)) → (vc_mn_exponentIn p0 x3_2 (fun (r_17 : Int32) => (((x3_2 < mn_variables) → (∀ x2_19 : Int32, x2_19 = (x2_1 + r_17) → ∀ x3_20 : Int32, x3_20 = x3_2 + 1 → (I4_3 x2_19 x3_20 ∧ mu4_4 x2_19 x3_20 < mu4_4 x2_1 x3_2))) ∧ ((¬ (x3_2 < mn_variables)) → ((((r_17 = 0) → (∀ x2_22 : Int32, x2_22 = (x2_1 + r_17) → ∀ x3_23 : Int32, x3_23 = x3_2 + 1 → (I4_3 x2_22 x3_23 ∧ mu4_4 x2_22 x3_23 < mu4_4 x2_1 x3_2))) ∧ ((¬ (r_17 = 0)) → (Q (-1))))))))))))
abbrev at_mn_placeOf (dC : Nat → ClassId) (dI : Nat → Nat → Nat) (cs : Nat → ClassId) (A : Nat → Prop) (ad : Nat → Nat) (mn_variables : Int32) (mn_order : Int32) (mn_highest : Int32) (mn_count : Int32) (mn_codes : Nat → Int32) (mn_firstOfDegree : Nat → Int32) (u : Unit) (t : State) : Prop := match u with
  | _ => va_P (dC, dI) vwCl [((ad 4), .inr (2, [.ref (ad 5), .ref (ad 6), .ref (ad 7), .ref (ad 8), .int mn_variables, .int mn_order, .int mn_highest, .int mn_count])), ((ad 5), .inl (cs 0, 126, .inl mn_codes)), ((ad 7), .inl (cs 0, 32, .inl mn_firstOfDegree))] t.heap ∧ va_D A [((ad 4), .inr (2, [.ref (ad 5), .ref (ad 6), .ref (ad 7), .ref (ad 8), .int mn_variables, .int mn_order, .int mn_highest, .int mn_count])), ((ad 5), .inl (cs 0, 126, .inl mn_codes)), ((ad 7), .inl (cs 0, 32, .inl mn_firstOfDegree))]
set_option maxHeartbeats 4000000 in
set_option maxRecDepth 100000 in
theorem c_mn_placeOf (l : Launch) (dC : Nat → ClassId) (dI : Nat → Nat → Nat) (cs : Nat → ClassId) (ad : Nat → Nat)  (sz : Nat) (mn_variables : Int32) (mn_order : Int32) (mn_highest : Int32) (mn_count : Int32) (mn_codes : Nat → Int32) (mn_firstOfDegree : Nat → Int32) (p0 : Int32) (Q : Int32 → Prop) (hv : vc_mn_placeOf mn_variables mn_order mn_highest mn_count mn_codes mn_firstOfDegree p0 Q) : Met l y_mn_placeOf w_mn_placeOf ({ frames := 1, cells := 0, slots := 0, locals := 21 }) (va_Pc [.ref (ad 4), .int p0] (fun U => U.heap.size = sz ∧ va_P (dC, dI) vwCl [((ad 4), .inr (2, [.ref (ad 5), .ref (ad 6), .ref (ad 7), .ref (ad 8), .int mn_variables, .int mn_order, .int mn_highest, .int mn_count])), ((ad 5), .inl (cs 0, 126, .inl mn_codes)), ((ad 7), .inl (cs 0, 32, .inl mn_firstOfDegree))] U.heap ∧ vwK dC dI cs U ∧ va_D (fun _ => True) [((ad 4), .inr (2, [.ref (ad 5), .ref (ad 6), .ref (ad 7), .ref (ad 8), .int mn_variables, .int mn_order, .int mn_highest, .int mn_count])), ((ad 5), .inl (cs 0, 126, .inl mn_codes)), ((ad 7), .inl (cs 0, 32, .inl mn_firstOfDegree))])) (va_Qi (fun (r : Int32) (u : Unit) => Q r) (at_mn_placeOf dC dI cs (va_A [((ad 4), .inr (2, [.ref (ad 5), .ref (ad 6), .ref (ad 7), .ref (ad 8), .int mn_variables, .int mn_order, .int mn_highest, .int mn_count])), ((ad 5), .inl (cs 0, 126, .inl mn_codes)), ((ad 7), .inl (cs 0, 32, .inl mn_firstOfDegree))] sz) ad mn_variables mn_order mn_highest mn_count mn_codes mn_firstOfDegree) (va_A [((ad 4), .inr (2, [.ref (ad 5), .ref (ad 6), .ref (ad 7), .ref (ad 8), .int mn_variables, .int mn_order, .int mn_highest, .int mn_count])), ((ad 5), .inl (cs 0, 126, .inl mn_codes)), ((ad 7), .inl (cs 0, 32, .inl mn_firstOfDegree))] sz)) 0 0 (va_A [((ad 4), .inr (2, [.ref (ad 5), .ref (ad 6), .ref (ad 7), .ref (ad 8), .int mn_variables, .int mn_order, .int mn_highest, .int mn_count])), ((ad 5), .inl (cs 0, 126, .inl mn_codes)), ((ad 7), .inl (cs 0, 32, .inl mn_firstOfDegree))] sz) := by
  unfold vc_mn_placeOf at hv
  refine Met.ofW (cc := b_mn_placeOf) (maxL := 5) (ret := (some .int)) (by decide) rfl ?_
  intro p e s m args below meth c s₁ B hml hpc
  obtain ⟨rfl, hsz, hP, ⟨hK, hN⟩, hD0⟩ := hpc
  have hx := B.exec
  have hb := B.bytes
  have hr := B.returns
  have hts : ∀ w ∈ vwWS, w.before _ s = true := fun w h => atoms_spec (ws := w_mn_placeOf) B.pre w (List.mem_cons_of_mem _ h)
  have hown : s.vm.findClass "SpaceBasis$Monomials" = some m.cls := findClass_of_methodNamed B.named
  have hlocks := B.notSynchronized
  subst hsz
  have hD := hD0.self (sz := s.heap.size)
  generalize hAe : va_A [((ad 4), .inr (2, [.ref (ad 5), .ref (ad 6), .ref (ad 7), .ref (ad 8), .int mn_variables, .int mn_order, .int mn_highest, .int mn_count])), ((ad 5), .inl (cs 0, 126, .inl mn_codes)), ((ad 7), .inl (cs 0, 32, .inl mn_firstOfDegree))] s.heap.size = A at hD ⊢
  have hA : ∀ q : Nat, s.heap.size ≤ q → A q := fun q h => by rw [← hAe]; exact Or.inr h
  have hS : va_S A s.heap s.heap [] := va_S.rf
  have hl := lv_entry ([.ref (ad 4), .int p0]) (n := 5) (Nat.le_of_ble_eq_true rfl)
  rw [lg_entry_eq]
  generalize (lg_sl ([.ref (ad 4), .int p0]) ++ List.replicate (5 - (lg_sl ([.ref (ad 4), .int p0])).length) Slot.unset).toArray = ls at hl ⊢
  have hl : lv_has ls 5 [(0, .ref (ad 4)), (1, .int p0)] := hl
  refine lv_iconst (v := 0) hx hb d_mn_placeOf_0 (by decide) ?_
  refine lv_istore_n (lv' := [(2, .int 0), (0, .ref (ad 4)), (1, .int p0)]) hx hb d_mn_placeOf_1 rfl hl (by decide) rfl (fun ls hl => ?_)
  refine lv_iconst (v := 0) hx hb d_mn_placeOf_2 (by decide) ?_
  refine lv_istore_n (lv' := [(3, .int 0), (2, .int 0), (0, .ref (ad 4)), (1, .int p0)]) hx hb d_mn_placeOf_3 rfl hl (by decide) rfl (fun ls hl => ?_)
  obtain ⟨I4_3, mu4_4, hi0, hv⟩ := hv
  have hP := hP.sub (ws' := [((ad 4), .inr (2, [.ref (ad 5), .ref (ad 6), .ref (ad 7), .ref (ad 8), .int mn_variables, .int mn_order, .int mn_highest, .int mn_count])), ((ad 5), .inl (cs 0, 126, .inl mn_codes)), ((ad 7), .inl (cs 0, 32, .inl mn_firstOfDegree))]) [0, 1, 2] rfl
  have hD := hD.sub (ws' := [((ad 4), .inr (2, [.ref (ad 5), .ref (ad 6), .ref (ad 7), .ref (ad 8), .int mn_variables, .int mn_order, .int mn_highest, .int mn_count])), ((ad 5), .inl (cs 0, 126, .inl mn_codes)), ((ad 7), .inl (cs 0, 32, .inl mn_firstOfDegree))]) [0, 1, 2] (by decide) rfl
  have hl := lv_sub (l' := [(0, .ref (ad 4)), (1, .int p0), (2, .int 0), (3, .int 0)]) hl [2, 3, 1, 0] rfl
  have loop4 : ∀ (nn : Nat) (x2_1 : Int32) (x3_2 : Int32), mu4_4 x2_1 x3_2 < nn → I4_3 x2_1 x3_2 → ∀ (H : Heap) (locs : List Loc) (ls : Array Slot), va_P (dC, dI) vwCl [((ad 4), .inr (2, [.ref (ad 5), .ref (ad 6), .ref (ad 7), .ref (ad 8), .int mn_variables, .int mn_order, .int mn_highest, .int mn_count])), ((ad 5), .inl (cs 0, 126, .inl mn_codes)), ((ad 7), .inl (cs 0, 32, .inl mn_firstOfDegree))] H → va_D A [((ad 4), .inr (2, [.ref (ad 5), .ref (ad 6), .ref (ad 7), .ref (ad 8), .int mn_variables, .int mn_order, .int mn_highest, .int mn_count])), ((ad 5), .inl (cs 0, 126, .inl mn_codes)), ((ad 7), .inl (cs 0, 32, .inl mn_firstOfDegree))] → va_S A s.heap H locs → lv_has ls 5 [(0, .ref (ad 4)), (1, .int p0), (2, .int x2_1), (3, .int x3_2)] → W p l e (headSpec w_mn_placeOf { frames := 1, cells := 0, slots := 0, locals := 21 }).room s m ([.ref (ad 4), .int p0] : List Value).toArray below meth c H locs 0 0 (MQ below (va_Qi (fun (r : Int32) (u : Unit) => Q r) (at_mn_placeOf dC dI cs A ad mn_variables mn_order mn_highest mn_count mn_codes mn_firstOfDegree) A) ([.ref (ad 4), .int p0] : List Value).toArray s 0 0 A) (F0 m 4 ls []) := by
    intro nn
    induction nn with
    | zero => intro x2_1 x3_2 hlt; exact absurd hlt (Nat.not_lt_zero _)
    | succ nn ih4 =>
      intro x2_1 x3_2 hlt4 hI H locs ls hP hD hS hl
      have hv := hv x2_1 x3_2 hI
      refine lv_iload_n hx hb d_mn_placeOf_4 rfl (lv_at hl 3 rfl) ?_
      refine lv_iconst (v := 4) hx hb d_mn_placeOf_5 (by decide) ?_
      refine lv_icmp_ge (tgt := 42) hx hb d_mn_placeOf_6 (by decide) (fun c_5 => ?_) (fun c_5 => ?_)
      · have hv := hv.1 c_5
        refine lv_iload_n hx hb d_mn_placeOf_42 rfl (lv_at hl 2 rfl) ?_
        refine lv_aload_n hx hb d_mn_placeOf_43 rfl (lv_at hl 0 rfl) ?_
        refine va_get (D := (dC, dI)) (ci := 2) (v := .int mn_highest) (C := R_mn) (T := F_mn) (N := 8) hx hb hts in_mn hown hK hP 0 rfl rfl 6 (by decide) (hts _ kw_78) (fun _ h9 => h9) rfl d_mn_placeOf_44 ?_
        refine lv_icmp_le (tgt := 52) hx hb d_mn_placeOf_47 (by decide) (fun c_6 => ?_) (fun c_6 => ?_)
        · have hv := hv.1 c_6
          refine lv_aload_n hx hb d_mn_placeOf_52 rfl (lv_at hl 0 rfl) ?_
          refine va_get (D := (dC, dI)) (ci := 2) (v := .ref (ad 7)) (C := R_mn) (T := F_mn) (N := 8) hx hb hts in_mn hown hK hP 0 rfl rfl 2 (by decide) (hts _ kw_74) (fun _ h9 => h9) rfl d_mn_placeOf_53 ?_
          refine lv_iload_n hx hb d_mn_placeOf_56 rfl (lv_at hl 2 rfl) ?_
          obtain ⟨hi_7, hv⟩ := hv
          refine va_iald hx hb hK hP 2 0 rfl rfl hi_7 d_mn_placeOf_57 ?_
          refine lv_topi (fun x3_8 ex3_8 => ?_)
          have hv := hv x3_8 ex3_8
          refine lv_istore_n (lv' := [(3, .int x3_8), (0, .ref (ad 4)), (1, .int p0), (2, .int x2_1)]) hx hb d_mn_placeOf_58 rfl hl (by decide) rfl (fun ls hl => ?_)
          obtain ⟨I59_10, mu59_11, hi0, hv⟩ := hv
          have hP := hP.sub (ws' := [((ad 4), .inr (2, [.ref (ad 5), .ref (ad 6), .ref (ad 7), .ref (ad 8), .int mn_variables, .int mn_order, .int mn_highest, .int mn_count])), ((ad 5), .inl (cs 0, 126, .inl mn_codes)), ((ad 7), .inl (cs 0, 32, .inl mn_firstOfDegree))]) [0, 1, 2] rfl
          have hD := hD.sub (ws' := [((ad 4), .inr (2, [.ref (ad 5), .ref (ad 6), .ref (ad 7), .ref (ad 8), .int mn_variables, .int mn_order, .int mn_highest, .int mn_count])), ((ad 5), .inl (cs 0, 126, .inl mn_codes)), ((ad 7), .inl (cs 0, 32, .inl mn_firstOfDegree))]) [0, 1, 2] (by decide) rfl
          have hl := lv_sub (l' := [(0, .ref (ad 4)), (1, .int p0), (2, .int x2_1), (3, .int x3_8)]) hl [1, 2, 3, 0] rfl
          have loop59 : ∀ (nn : Nat) (x3_9 : Int32), mu59_11 x3_9 < nn → I59_10 x3_9 → ∀ (H : Heap) (locs : List Loc) (ls : Array Slot), va_P (dC, dI) vwCl [((ad 4), .inr (2, [.ref (ad 5), .ref (ad 6), .ref (ad 7), .ref (ad 8), .int mn_variables, .int mn_order, .int mn_highest, .int mn_count])), ((ad 5), .inl (cs 0, 126, .inl mn_codes)), ((ad 7), .inl (cs 0, 32, .inl mn_firstOfDegree))] H → va_D A [((ad 4), .inr (2, [.ref (ad 5), .ref (ad 6), .ref (ad 7), .ref (ad 8), .int mn_variables, .int mn_order, .int mn_highest, .int mn_count])), ((ad 5), .inl (cs 0, 126, .inl mn_codes)), ((ad 7), .inl (cs 0, 32, .inl mn_firstOfDegree))] → va_S A s.heap H locs → lv_has ls 5 [(0, .ref (ad 4)), (1, .int p0), (2, .int x2_1), (3, .int x3_9)] → W p l e (headSpec w_mn_placeOf { frames := 1, cells := 0, slots := 0, locals := 21 }).room s m ([.ref (ad 4), .int p0] : List Value).toArray below meth c H locs 0 0 (MQ below (va_Qi (fun (r : Int32) (u : Unit) => Q r) (at_mn_placeOf dC dI cs A ad mn_variables mn_order mn_highest mn_count mn_codes mn_firstOfDegree) A) ([.ref (ad 4), .int p0] : List Value).toArray s 0 0 A) (F0 m 59 ls []) := by
            intro nn
            induction nn with
            | zero => intro x3_9 hlt; exact absurd hlt (Nat.not_lt_zero _)
            | succ nn ih59 =>
              intro x3_9 hlt59 hI H locs ls hP hD hS hl
              have hv := hv x3_9 hI
              refine lv_iload_n hx hb d_mn_placeOf_59 rfl (lv_at hl 3 rfl) ?_
              refine lv_aload_n hx hb d_mn_placeOf_60 rfl (lv_at hl 0 rfl) ?_
              refine va_get (D := (dC, dI)) (ci := 2) (v := .ref (ad 7)) (C := R_mn) (T := F_mn) (N := 8) hx hb hts in_mn hown hK hP 0 rfl rfl 2 (by decide) (hts _ kw_74) (fun _ h9 => h9) rfl d_mn_placeOf_61 ?_
              refine lv_iload_n hx hb d_mn_placeOf_64 rfl (lv_at hl 2 rfl) ?_
              refine lv_iconst (v := 1) hx hb d_mn_placeOf_65 (by decide) ?_
              refine lv_iadd hx hb d_mn_placeOf_66 ?_
              obtain ⟨hi_12, hv⟩ := hv
              refine va_iald hx hb hK hP 2 0 rfl rfl hi_12 d_mn_placeOf_67 ?_
              refine lv_icmp_ge (tgt := 89) hx hb d_mn_placeOf_68 (by decide) (fun c_13 => ?_) (fun c_13 => ?_)
              · have hv := hv.1 c_13
                refine lv_iconst (v := (-1)) hx hb d_mn_placeOf_89 (by decide) ?_
                have hP9 := hP.sub (ws' := [((ad 4), .inr (2, [.ref (ad 5), .ref (ad 6), .ref (ad 7), .ref (ad 8), .int mn_variables, .int mn_order, .int mn_highest, .int mn_count])), ((ad 5), .inl (cs 0, 126, .inl mn_codes)), ((ad 7), .inl (cs 0, 32, .inl mn_firstOfDegree))]) [0, 1, 2] rfl
                have hD9 := hD.sub (ws' := [((ad 4), .inr (2, [.ref (ad 5), .ref (ad 6), .ref (ad 7), .ref (ad 8), .int mn_variables, .int mn_order, .int mn_highest, .int mn_count])), ((ad 5), .inl (cs 0, 126, .inl mn_codes)), ((ad 7), .inl (cs 0, 32, .inl mn_firstOfDegree))]) [0, 1, 2] (by decide) rfl
                exact W.iret (v := (-1)) hx hb hr (fun t ht hW => ⟨⟨(-1), (), rfl, hv, by rw [ht]; exact hP9, hD9⟩, hS.F ht⟩) hS.2.2 d_mn_placeOf_90
              · have hv := hv.2 c_13
                refine lv_aload_n hx hb d_mn_placeOf_71 rfl (lv_at hl 0 rfl) ?_
                refine va_get (D := (dC, dI)) (ci := 2) (v := .ref (ad 5)) (C := R_mn) (T := F_mn) (N := 8) hx hb hts in_mn hown hK hP 0 rfl rfl 0 (by decide) (hts _ kw_72) (fun _ h9 => h9) rfl d_mn_placeOf_72 ?_
                refine lv_iload_n hx hb d_mn_placeOf_75 rfl (lv_at hl 3 rfl) ?_
                obtain ⟨hi_14, hv⟩ := hv
                refine va_iald hx hb hK hP 1 0 rfl rfl hi_14 d_mn_placeOf_76 ?_
                refine lv_iload_n hx hb d_mn_placeOf_77 rfl (lv_at hl 1 rfl) ?_
                refine lv_icmp_ne (tgt := 83) hx hb d_mn_placeOf_78 (by decide) (fun c_15 => ?_) (fun c_15 => ?_)
                · have hv := hv.1 c_15
                  obtain ⟨x3_16, ex3_16⟩ : ∃ y : Int32, y = x3_9 + 1 := ⟨_, rfl⟩
                  have hv := hv x3_16 ex3_16
                  refine lv_iinc (v := x3_16) (lv' := [(3, .int x3_16), (0, .ref (ad 4)), (1, .int p0), (2, .int x2_1)]) hx hb d_mn_placeOf_83 hl (k := 3) rfl (by rw [ex3_16]; rfl) (by decide) rfl (fun ls hl => ?_)
                  refine lv_goto (tgt := 59) hx hb d_mn_placeOf_86 (by decide) ?_
                  exact ih59 x3_16 (Nat.lt_of_lt_of_le hv.2 (Nat.le_of_lt_succ hlt59)) hv.1 _ _ _ (hP.sub [0, 1, 2] rfl) (hD.sub [0, 1, 2] (by decide) rfl) hS (lv_sub hl [1, 2, 3, 0] rfl)
                · have hv := hv.2 c_15
                  refine lv_iload_n hx hb d_mn_placeOf_81 rfl (lv_at hl 3 rfl) ?_
                  have hP9 := hP.sub (ws' := [((ad 4), .inr (2, [.ref (ad 5), .ref (ad 6), .ref (ad 7), .ref (ad 8), .int mn_variables, .int mn_order, .int mn_highest, .int mn_count])), ((ad 5), .inl (cs 0, 126, .inl mn_codes)), ((ad 7), .inl (cs 0, 32, .inl mn_firstOfDegree))]) [0, 1, 2] rfl
                  have hD9 := hD.sub (ws' := [((ad 4), .inr (2, [.ref (ad 5), .ref (ad 6), .ref (ad 7), .ref (ad 8), .int mn_variables, .int mn_order, .int mn_highest, .int mn_count])), ((ad 5), .inl (cs 0, 126, .inl mn_codes)), ((ad 7), .inl (cs 0, 32, .inl mn_firstOfDegree))]) [0, 1, 2] (by decide) rfl
                  exact W.iret (v := x3_9) hx hb hr (fun t ht hW => ⟨⟨x3_9, (), rfl, hv, by rw [ht]; exact hP9, hD9⟩, hS.F ht⟩) hS.2.2 d_mn_placeOf_82
          exact loop59 _ x3_8 (Nat.lt_succ_self _) hi0 _ _ _ hP hD hS hl
        · have hv := hv.2 c_6
          refine lv_iconst (v := (-1)) hx hb d_mn_placeOf_50 (by decide) ?_
          have hP9 := hP.sub (ws' := [((ad 4), .inr (2, [.ref (ad 5), .ref (ad 6), .ref (ad 7), .ref (ad 8), .int mn_variables, .int mn_order, .int mn_highest, .int mn_count])), ((ad 5), .inl (cs 0, 126, .inl mn_codes)), ((ad 7), .inl (cs 0, 32, .inl mn_firstOfDegree))]) [0, 1, 2] rfl
          have hD9 := hD.sub (ws' := [((ad 4), .inr (2, [.ref (ad 5), .ref (ad 6), .ref (ad 7), .ref (ad 8), .int mn_variables, .int mn_order, .int mn_highest, .int mn_count])), ((ad 5), .inl (cs 0, 126, .inl mn_codes)), ((ad 7), .inl (cs 0, 32, .inl mn_firstOfDegree))]) [0, 1, 2] (by decide) rfl
          exact W.iret (v := (-1)) hx hb hr (fun t ht hW => ⟨⟨(-1), (), rfl, hv, by rw [ht]; exact hP9, hD9⟩, hS.F ht⟩) hS.2.2 d_mn_placeOf_51
      · have hv := hv.2 c_5
        refine lv_iload_n hx hb d_mn_placeOf_9 rfl (lv_at hl 1 rfl) ?_
        refine lv_iload_n hx hb d_mn_placeOf_10 rfl (lv_at hl 3 rfl) ?_
        have hPc := hP.sub (ws' := []) [] rfl
        have hDc := hD.sub (ws' := []) [] (by decide) rfl
        have hFc := va_free (wc := []) hD hS hA [] rfl
        refine va_calli (va_runS (As := [.int p0, .int x3_2]) (rest := []) ⟨hx, hb, hml, hown, hts⟩ (c_mn_exponentIn l dC dI cs ad  H.size p0 x3_2 _ hv) (va_cwS 2 hts (gd_S kw_242 kw_243 kw_34 kw_244) rfl rfl rfl (by decide +kernel) ⟨Nat.le_of_ble_eq_true rfl, Nat.le_of_ble_eq_true rfl⟩) ⟨fun a U g mk q => by obtain ⟨q0, q1, qP, qK, qD⟩ := q; exact ⟨q0, q1, qP, qK.call, qD⟩, fun U hU hW => ⟨rfl, by rw [hU], by rw [hU]; exact hPc, vwK.warm hW ⟨hK, hN⟩, hDc.weaken (fun _ _ _ _ => trivial)⟩⟩ rfl rfl hl.1 rfl (lv_room (Nat.le_of_ble_eq_true rfl)) d_mn_placeOf_11 ⟨Nat.zero_le _, Nat.zero_le _⟩) hS (fun q _ h => hFc q h) hFc (fun r_17 _u t H1 locs1 ht hvm hw hB hz1 hk1 hS => ?_)
        obtain ⟨hP1, hD1⟩ := hB
        rw [ht] at hP1
        obtain ⟨hP, hD⟩ := va_join (wr := [((ad 4), .inr (2, [.ref (ad 5), .ref (ad 6), .ref (ad 7), .ref (ad 8), .int mn_variables, .int mn_order, .int mn_highest, .int mn_count])), ((ad 5), .inl (cs 0, 126, .inl mn_codes)), ((ad 7), .inl (cs 0, 32, .inl mn_firstOfDegree))]) (w1 := []) hP hD [] [0, 1, 2] rfl rfl (by decide) (by decide) hk1 hFc hP1 hD1
        generalize H1 = H at hP hS ⊢
        generalize locs1 = locs at hS ⊢
        have hP : va_P (dC, dI) vwCl [((ad 4), .inr (2, [.ref (ad 5), .ref (ad 6), .ref (ad 7), .ref (ad 8), .int mn_variables, .int mn_order, .int mn_highest, .int mn_count])), ((ad 5), .inl (cs 0, 126, .inl mn_codes)), ((ad 7), .inl (cs 0, 32, .inl mn_firstOfDegree))] H := hP
        have hD : va_D A [((ad 4), .inr (2, [.ref (ad 5), .ref (ad 6), .ref (ad 7), .ref (ad 8), .int mn_variables, .int mn_order, .int mn_highest, .int mn_count])), ((ad 5), .inl (cs 0, 126, .inl mn_codes)), ((ad 7), .inl (cs 0, 32, .inl mn_firstOfDegree))] := hD
        have hv := hw
        try dsimp only at hv
        refine lv_istore (lv' := [(4, .int r_17), (0, .ref (ad 4)), (1, .int p0), (2, .int x2_1), (3, .int x3_2)]) hx hb d_mn_placeOf_14 hl (by decide) rfl (fun ls hl => ?_)
        refine lv_iload_n hx hb d_mn_placeOf_16 rfl (lv_at hl 4 rfl) ?_
        refine lv_aload_n hx hb d_mn_placeOf_17 rfl (lv_at hl 1 rfl) ?_
        refine va_get (D := (dC, dI)) (ci := 2) (v := .int mn_variables) (C := R_mn) (T := F_mn) (N := 8) hx hb hts in_mn hown hK hP 0 rfl rfl 4 (by decide) (hts _ kw_76) (fun _ h9 => h9) rfl d_mn_placeOf_18 ?_
        refine lv_icmp_lt (tgt := 31) hx hb d_mn_placeOf_21 (by decide) (fun c_18 => ?_) (fun c_18 => ?_)
        · have hv := hv.1 c_18
          refine lv_iload_n hx hb d_mn_placeOf_31 rfl (lv_at hl 3 rfl) ?_
          refine lv_iload hx hb d_mn_placeOf_32 (lv_at hl 0 rfl) ?_
          refine lv_iadd hx hb d_mn_placeOf_34 ?_
          refine lv_topi (fun x2_19 ex2_19 => ?_)
          have hv := hv x2_19 ex2_19
          refine lv_istore_n (lv' := [(2, .int x2_19), (4, .int r_17), (0, .ref (ad 4)), (1, .int p0), (3, .int x3_2)]) hx hb d_mn_placeOf_35 rfl hl (by decide) rfl (fun ls hl => ?_)
          obtain ⟨x3_20, ex3_20⟩ : ∃ y : Int32, y = x3_2 + 1 := ⟨_, rfl⟩
          have hv := hv x3_20 ex3_20
          refine lv_iinc (v := x3_20) (lv' := [(3, .int x3_20), (2, .int x2_19), (4, .int r_17), (0, .ref (ad 4)), (1, .int p0)]) hx hb d_mn_placeOf_36 hl (k := 4) rfl (by rw [ex3_20]; rfl) (by decide) rfl (fun ls hl => ?_)
          refine lv_goto (tgt := 4) hx hb d_mn_placeOf_39 (by decide) ?_
          exact ih4 x2_19 x3_20 (Nat.lt_of_lt_of_le hv.2 (Nat.le_of_lt_succ hlt4)) hv.1 _ _ _ (hP.sub [0, 1, 2] rfl) (hD.sub [0, 1, 2] (by decide) rfl) hS (lv_sub hl [3, 4, 1, 0] rfl)
        · have hv := hv.2 c_18
          refine lv_iload hx hb d_mn_placeOf_24 (lv_at hl 0 rfl) ?_
          refine lv_if_eq (tgt := 31) hx hb d_mn_placeOf_26 (by decide) (fun c_21 => ?_) (fun c_21 => ?_)
          · have hv := hv.1 c_21
            refine lv_iload_n hx hb d_mn_placeOf_31 rfl (lv_at hl 3 rfl) ?_
            refine lv_iload hx hb d_mn_placeOf_32 (lv_at hl 0 rfl) ?_
            refine lv_iadd hx hb d_mn_placeOf_34 ?_
            refine lv_topi (fun x2_22 ex2_22 => ?_)
            have hv := hv x2_22 ex2_22
            refine lv_istore_n (lv' := [(2, .int x2_22), (4, .int r_17), (0, .ref (ad 4)), (1, .int p0), (3, .int x3_2)]) hx hb d_mn_placeOf_35 rfl hl (by decide) rfl (fun ls hl => ?_)
            obtain ⟨x3_23, ex3_23⟩ : ∃ y : Int32, y = x3_2 + 1 := ⟨_, rfl⟩
            have hv := hv x3_23 ex3_23
            refine lv_iinc (v := x3_23) (lv' := [(3, .int x3_23), (2, .int x2_22), (4, .int r_17), (0, .ref (ad 4)), (1, .int p0)]) hx hb d_mn_placeOf_36 hl (k := 4) rfl (by rw [ex3_23]; rfl) (by decide) rfl (fun ls hl => ?_)
            refine lv_goto (tgt := 4) hx hb d_mn_placeOf_39 (by decide) ?_
            exact ih4 x2_22 x3_23 (Nat.lt_of_lt_of_le hv.2 (Nat.le_of_lt_succ hlt4)) hv.1 _ _ _ (hP.sub [0, 1, 2] rfl) (hD.sub [0, 1, 2] (by decide) rfl) hS (lv_sub hl [3, 4, 1, 0] rfl)
          · have hv := hv.2 c_21
            refine lv_iconst (v := (-1)) hx hb d_mn_placeOf_29 (by decide) ?_
            have hP9 := hP.sub (ws' := [((ad 4), .inr (2, [.ref (ad 5), .ref (ad 6), .ref (ad 7), .ref (ad 8), .int mn_variables, .int mn_order, .int mn_highest, .int mn_count])), ((ad 5), .inl (cs 0, 126, .inl mn_codes)), ((ad 7), .inl (cs 0, 32, .inl mn_firstOfDegree))]) [0, 1, 2] rfl
            have hD9 := hD.sub (ws' := [((ad 4), .inr (2, [.ref (ad 5), .ref (ad 6), .ref (ad 7), .ref (ad 8), .int mn_variables, .int mn_order, .int mn_highest, .int mn_count])), ((ad 5), .inl (cs 0, 126, .inl mn_codes)), ((ad 7), .inl (cs 0, 32, .inl mn_firstOfDegree))]) [0, 1, 2] (by decide) rfl
            exact W.iret (v := (-1)) hx hb hr (fun t ht hW => ⟨⟨(-1), (), rfl, hv, by rw [ht]; exact hP9, hD9⟩, hS.F ht⟩) hS.2.2 d_mn_placeOf_30
  exact loop4 _ 0 0 (Nat.lt_succ_self _) hi0 _ _ _ hP hD hS hl
abbrev b_mn_timesVariable : ByteArray := prog_5_method_6_code
def y_mn_timesVariable : MethodName := ⟨"SpaceBasis$Monomials", "timesVariable", "(II)I"⟩
def w_mn_timesVariable : List Cond := Cond.code y_mn_timesVariable b_mn_timesVariable 3 (some .int) :: vwWS
theorem d_mn_timesVariable_0 : decode b_mn_timesVariable 0 = .ok (.aload_n 0, 1) := by decide +kernel
theorem d_mn_timesVariable_1 : decode b_mn_timesVariable 1 = .ok (.getfield 21, 3) := by decide +kernel
theorem d_mn_timesVariable_4 : decode b_mn_timesVariable 4 = .ok (.iload_n 2, 1) := by decide +kernel
theorem d_mn_timesVariable_5 : decode b_mn_timesVariable 5 = .ok (.bipush 126, 2) := by decide +kernel
theorem d_mn_timesVariable_7 : decode b_mn_timesVariable 7 = .ok (.imul, 1) := by decide +kernel
theorem d_mn_timesVariable_8 : decode b_mn_timesVariable 8 = .ok (.iload_n 1, 1) := by decide +kernel
theorem d_mn_timesVariable_9 : decode b_mn_timesVariable 9 = .ok (.iadd, 1) := by decide +kernel
theorem d_mn_timesVariable_10 : decode b_mn_timesVariable 10 = .ok (.iaload, 1) := by decide +kernel
theorem d_mn_timesVariable_11 : decode b_mn_timesVariable 11 = .ok (.ireturn, 1) := by decide +kernel
/-- SpaceBasis$Monomials.timesVariable(II)I -/
def vc_mn_timesVariable (mn_variables : Int32) (mn_order : Int32) (mn_highest : Int32) (mn_count : Int32) (mn_products : Nat → Int32) (p0 : Int32) (p1 : Int32) (Q : Int32 → Prop) : Prop :=
  vp_in ((p1 * 126) + p0) 504 ∧ Q (mn_products (((p1 * 126) + p0)).toNatClampNeg)
abbrev at_mn_timesVariable (dC : Nat → ClassId) (dI : Nat → Nat → Nat) (cs : Nat → ClassId) (A : Nat → Prop) (ad : Nat → Nat) (mn_variables : Int32) (mn_order : Int32) (mn_highest : Int32) (mn_count : Int32) (mn_products : Nat → Int32) (u : Unit) (t : State) : Prop := match u with
  | _ => va_P (dC, dI) vwCl [((ad 4), .inr (2, [.ref (ad 5), .ref (ad 6), .ref (ad 7), .ref (ad 8), .int mn_variables, .int mn_order, .int mn_highest, .int mn_count])), ((ad 8), .inl (cs 0, 504, .inl mn_products))] t.heap ∧ va_D A [((ad 4), .inr (2, [.ref (ad 5), .ref (ad 6), .ref (ad 7), .ref (ad 8), .int mn_variables, .int mn_order, .int mn_highest, .int mn_count])), ((ad 8), .inl (cs 0, 504, .inl mn_products))]
set_option maxHeartbeats 4000000 in
set_option maxRecDepth 100000 in
theorem c_mn_timesVariable (l : Launch) (dC : Nat → ClassId) (dI : Nat → Nat → Nat) (cs : Nat → ClassId) (ad : Nat → Nat)  (sz : Nat) (mn_variables : Int32) (mn_order : Int32) (mn_highest : Int32) (mn_count : Int32) (mn_products : Nat → Int32) (p0 : Int32) (p1 : Int32) (Q : Int32 → Prop) (hv : vc_mn_timesVariable mn_variables mn_order mn_highest mn_count mn_products p0 p1 Q) : Met l y_mn_timesVariable w_mn_timesVariable ({ frames := 0, cells := 0, slots := 0, locals := 0 }) (va_Pc [.ref (ad 4), .int p0, .int p1] (fun U => U.heap.size = sz ∧ va_P (dC, dI) vwCl [((ad 4), .inr (2, [.ref (ad 5), .ref (ad 6), .ref (ad 7), .ref (ad 8), .int mn_variables, .int mn_order, .int mn_highest, .int mn_count])), ((ad 8), .inl (cs 0, 504, .inl mn_products))] U.heap ∧ vwK dC dI cs U ∧ va_D (fun _ => True) [((ad 4), .inr (2, [.ref (ad 5), .ref (ad 6), .ref (ad 7), .ref (ad 8), .int mn_variables, .int mn_order, .int mn_highest, .int mn_count])), ((ad 8), .inl (cs 0, 504, .inl mn_products))])) (va_Qi (fun (r : Int32) (u : Unit) => Q r) (at_mn_timesVariable dC dI cs (va_A [((ad 4), .inr (2, [.ref (ad 5), .ref (ad 6), .ref (ad 7), .ref (ad 8), .int mn_variables, .int mn_order, .int mn_highest, .int mn_count])), ((ad 8), .inl (cs 0, 504, .inl mn_products))] sz) ad mn_variables mn_order mn_highest mn_count mn_products) (va_A [((ad 4), .inr (2, [.ref (ad 5), .ref (ad 6), .ref (ad 7), .ref (ad 8), .int mn_variables, .int mn_order, .int mn_highest, .int mn_count])), ((ad 8), .inl (cs 0, 504, .inl mn_products))] sz)) 0 0 (va_A [((ad 4), .inr (2, [.ref (ad 5), .ref (ad 6), .ref (ad 7), .ref (ad 8), .int mn_variables, .int mn_order, .int mn_highest, .int mn_count])), ((ad 8), .inl (cs 0, 504, .inl mn_products))] sz) := by
  unfold vc_mn_timesVariable at hv
  refine Met.ofW (cc := b_mn_timesVariable) (maxL := 3) (ret := (some .int)) (by decide) rfl ?_
  intro p e s m args below meth c s₁ B hml hpc
  obtain ⟨rfl, hsz, hP, ⟨hK, hN⟩, hD0⟩ := hpc
  have hx := B.exec
  have hb := B.bytes
  have hr := B.returns
  have hts : ∀ w ∈ vwWS, w.before _ s = true := fun w h => atoms_spec (ws := w_mn_timesVariable) B.pre w (List.mem_cons_of_mem _ h)
  have hown : s.vm.findClass "SpaceBasis$Monomials" = some m.cls := findClass_of_methodNamed B.named
  have hlocks := B.notSynchronized
  subst hsz
  have hD := hD0.self (sz := s.heap.size)
  generalize hAe : va_A [((ad 4), .inr (2, [.ref (ad 5), .ref (ad 6), .ref (ad 7), .ref (ad 8), .int mn_variables, .int mn_order, .int mn_highest, .int mn_count])), ((ad 8), .inl (cs 0, 504, .inl mn_products))] s.heap.size = A at hD ⊢
  have hA : ∀ q : Nat, s.heap.size ≤ q → A q := fun q h => by rw [← hAe]; exact Or.inr h
  have hS : va_S A s.heap s.heap [] := va_S.rf
  have hl := lv_entry ([.ref (ad 4), .int p0, .int p1]) (n := 3) (Nat.le_of_ble_eq_true rfl)
  rw [lg_entry_eq]
  generalize (lg_sl ([.ref (ad 4), .int p0, .int p1]) ++ List.replicate (3 - (lg_sl ([.ref (ad 4), .int p0, .int p1])).length) Slot.unset).toArray = ls at hl ⊢
  have hl : lv_has ls 3 [(0, .ref (ad 4)), (1, .int p0), (2, .int p1)] := hl
  refine lv_aload_n hx hb d_mn_timesVariable_0 rfl (lv_at hl 0 rfl) ?_
  refine va_get (D := (dC, dI)) (ci := 2) (v := .ref (ad 8)) (C := R_mn) (T := F_mn) (N := 8) hx hb hts in_mn hown hK hP 0 rfl rfl 3 (by decide) (hts _ kw_75) (fun _ h9 => h9) rfl d_mn_timesVariable_1 ?_
  refine lv_iload_n hx hb d_mn_timesVariable_4 rfl (lv_at hl 2 rfl) ?_
  refine lv_bipush (v := 126) hx hb d_mn_timesVariable_5 (by decide) ?_
  refine lv_imul hx hb d_mn_timesVariable_7 ?_
  refine lv_iload_n hx hb d_mn_timesVariable_8 rfl (lv_at hl 1 rfl) ?_
  refine lv_iadd hx hb d_mn_timesVariable_9 ?_
  obtain ⟨hi_1, hv⟩ := hv
  refine va_iald hx hb hK hP 1 0 rfl rfl hi_1 d_mn_timesVariable_10 ?_
  have hP9 := hP.sub (ws' := [((ad 4), .inr (2, [.ref (ad 5), .ref (ad 6), .ref (ad 7), .ref (ad 8), .int mn_variables, .int mn_order, .int mn_highest, .int mn_count])), ((ad 8), .inl (cs 0, 504, .inl mn_products))]) [0, 1] rfl
  have hD9 := hD.sub (ws' := [((ad 4), .inr (2, [.ref (ad 5), .ref (ad 6), .ref (ad 7), .ref (ad 8), .int mn_variables, .int mn_order, .int mn_highest, .int mn_count])), ((ad 8), .inl (cs 0, 504, .inl mn_products))]) [0, 1] (by decide) rfl
  exact W.iret (v := (mn_products (((p1 * 126) + p0)).toNatClampNeg)) hx hb hr (fun t ht hW => ⟨⟨(mn_products (((p1 * 126) + p0)).toNatClampNeg), (), rfl, hv, by rw [ht]; exact hP9, hD9⟩, hS.F ht⟩) hS.2.2 d_mn_timesVariable_11
abbrev b_mn_byVariable : ByteArray := prog_5_method_7_code
def y_mn_byVariable : MethodName := ⟨"SpaceBasis$Monomials", "byVariable", "(II)I"⟩
def w_mn_byVariable : List Cond := Cond.code y_mn_byVariable b_mn_byVariable 4 (some .int) :: vwWS
theorem d_mn_byVariable_0 : decode b_mn_byVariable 0 = .ok (.aload_n 0, 1) := by decide +kernel
theorem d_mn_byVariable_1 : decode b_mn_byVariable 1 = .ok (.getfield 9, 3) := by decide +kernel
theorem d_mn_byVariable_4 : decode b_mn_byVariable 4 = .ok (.iload_n 1, 1) := by decide +kernel
theorem d_mn_byVariable_5 : decode b_mn_byVariable 5 = .ok (.iaload, 1) := by decide +kernel
theorem d_mn_byVariable_6 : decode b_mn_byVariable 6 = .ok (.istore_n 3, 1) := by decide +kernel
theorem d_mn_byVariable_7 : decode b_mn_byVariable 7 = .ok (.iload_n 3, 1) := by decide +kernel
theorem d_mn_byVariable_8 : decode b_mn_byVariable 8 = .ok (.iload_n 2, 1) := by decide +kernel
theorem d_mn_byVariable_9 : decode b_mn_byVariable 9 = .ok (.invokestatic 55, 3) := by decide +kernel
theorem d_mn_byVariable_12 : decode b_mn_byVariable 12 = .ok (.ifCond .ne 7, 3) := by decide +kernel
theorem d_mn_byVariable_15 : decode b_mn_byVariable 15 = .ok (.iconst (-1), 1) := by decide +kernel
theorem d_mn_byVariable_16 : decode b_mn_byVariable 16 = .ok (.goto 13, 3) := by decide +kernel
theorem d_mn_byVariable_19 : decode b_mn_byVariable 19 = .ok (.aload_n 0, 1) := by decide +kernel
theorem d_mn_byVariable_20 : decode b_mn_byVariable 20 = .ok (.iload_n 3, 1) := by decide +kernel
theorem d_mn_byVariable_21 : decode b_mn_byVariable 21 = .ok (.iload_n 2, 1) := by decide +kernel
theorem d_mn_byVariable_22 : decode b_mn_byVariable 22 = .ok (.invokestatic 44, 3) := by decide +kernel
theorem d_mn_byVariable_25 : decode b_mn_byVariable 25 = .ok (.isub, 1) := by decide +kernel
theorem d_mn_byVariable_26 : decode b_mn_byVariable 26 = .ok (.invokevirtual 48, 3) := by decide +kernel
theorem d_mn_byVariable_29 : decode b_mn_byVariable 29 = .ok (.ireturn, 1) := by decide +kernel
/-- SpaceBasis$Monomials.byVariable(II)I -/
def vc_mn_byVariable (mn_variables : Int32) (mn_order : Int32) (mn_highest : Int32) (mn_count : Int32) (mn_codes : Nat → Int32) (mn_firstOfDegree : Nat → Int32) (p0 : Int32) (p1 : Int32) (Q : Int32 → Prop) : Prop :=
  vp_in p0 126 ∧ ∀ x3_2 : Int32, x3_2 = (mn_codes p0.toNatClampNeg) → vc_mn_exponentIn x3_2 p1 (fun (r_3 : Int32) => (((¬ (r_3 = 0)) → (vc_mn_unit p1 (fun (r_5 : Int32) => vc_mn_placeOf mn_variables mn_order mn_highest mn_count mn_codes mn_firstOfDegree (x3_2 - r_5) (fun (r_6 : Int32) => Q r_6)))) ∧ ((r_3 = 0) → (Q (-1)))))
abbrev at_mn_byVariable (dC : Nat → ClassId) (dI : Nat → Nat → Nat) (cs : Nat → ClassId) (A : Nat → Prop) (ad : Nat → Nat) (mn_variables : Int32) (mn_order : Int32) (mn_highest : Int32) (mn_count : Int32) (mn_codes : Nat → Int32) (mn_firstOfDegree : Nat → Int32) (u : Unit) (t : State) : Prop := match u with
  | _ => va_P (dC, dI) vwCl [((ad 4), .inr (2, [.ref (ad 5), .ref (ad 6), .ref (ad 7), .ref (ad 8), .int mn_variables, .int mn_order, .int mn_highest, .int mn_count])), ((ad 5), .inl (cs 0, 126, .inl mn_codes)), ((ad 7), .inl (cs 0, 32, .inl mn_firstOfDegree))] t.heap ∧ va_D A [((ad 4), .inr (2, [.ref (ad 5), .ref (ad 6), .ref (ad 7), .ref (ad 8), .int mn_variables, .int mn_order, .int mn_highest, .int mn_count])), ((ad 5), .inl (cs 0, 126, .inl mn_codes)), ((ad 7), .inl (cs 0, 32, .inl mn_firstOfDegree))]
set_option maxHeartbeats 4000000 in
set_option maxRecDepth 100000 in
theorem c_mn_byVariable (l : Launch) (dC : Nat → ClassId) (dI : Nat → Nat → Nat) (cs : Nat → ClassId) (ad : Nat → Nat)  (sz : Nat) (mn_variables : Int32) (mn_order : Int32) (mn_highest : Int32) (mn_count : Int32) (mn_codes : Nat → Int32) (mn_firstOfDegree : Nat → Int32) (p0 : Int32) (p1 : Int32) (Q : Int32 → Prop) (hv : vc_mn_byVariable mn_variables mn_order mn_highest mn_count mn_codes mn_firstOfDegree p0 p1 Q) : Met l y_mn_byVariable w_mn_byVariable ({ frames := 2, cells := 0, slots := 0, locals := 45 }) (va_Pc [.ref (ad 4), .int p0, .int p1] (fun U => U.heap.size = sz ∧ va_P (dC, dI) vwCl [((ad 4), .inr (2, [.ref (ad 5), .ref (ad 6), .ref (ad 7), .ref (ad 8), .int mn_variables, .int mn_order, .int mn_highest, .int mn_count])), ((ad 5), .inl (cs 0, 126, .inl mn_codes)), ((ad 7), .inl (cs 0, 32, .inl mn_firstOfDegree))] U.heap ∧ vwK dC dI cs U ∧ va_D (fun _ => True) [((ad 4), .inr (2, [.ref (ad 5), .ref (ad 6), .ref (ad 7), .ref (ad 8), .int mn_variables, .int mn_order, .int mn_highest, .int mn_count])), ((ad 5), .inl (cs 0, 126, .inl mn_codes)), ((ad 7), .inl (cs 0, 32, .inl mn_firstOfDegree))])) (va_Qi (fun (r : Int32) (u : Unit) => Q r) (at_mn_byVariable dC dI cs (va_A [((ad 4), .inr (2, [.ref (ad 5), .ref (ad 6), .ref (ad 7), .ref (ad 8), .int mn_variables, .int mn_order, .int mn_highest, .int mn_count])), ((ad 5), .inl (cs 0, 126, .inl mn_codes)), ((ad 7), .inl (cs 0, 32, .inl mn_firstOfDegree))] sz) ad mn_variables mn_order mn_highest mn_count mn_codes mn_firstOfDegree) (va_A [((ad 4), .inr (2, [.ref (ad 5), .ref (ad 6), .ref (ad 7), .ref (ad 8), .int mn_variables, .int mn_order, .int mn_highest, .int mn_count])), ((ad 5), .inl (cs 0, 126, .inl mn_codes)), ((ad 7), .inl (cs 0, 32, .inl mn_firstOfDegree))] sz)) 0 0 (va_A [((ad 4), .inr (2, [.ref (ad 5), .ref (ad 6), .ref (ad 7), .ref (ad 8), .int mn_variables, .int mn_order, .int mn_highest, .int mn_count])), ((ad 5), .inl (cs 0, 126, .inl mn_codes)), ((ad 7), .inl (cs 0, 32, .inl mn_firstOfDegree))] sz) := by
  unfold vc_mn_byVariable at hv
  refine Met.ofW (cc := b_mn_byVariable) (maxL := 4) (ret := (some .int)) (by decide) rfl ?_
  intro p e s m args below meth c s₁ B hml hpc
  obtain ⟨rfl, hsz, hP, ⟨hK, hN⟩, hD0⟩ := hpc
  have hx := B.exec
  have hb := B.bytes
  have hr := B.returns
  have hts : ∀ w ∈ vwWS, w.before _ s = true := fun w h => atoms_spec (ws := w_mn_byVariable) B.pre w (List.mem_cons_of_mem _ h)
  have hown : s.vm.findClass "SpaceBasis$Monomials" = some m.cls := findClass_of_methodNamed B.named
  have hlocks := B.notSynchronized
  subst hsz
  have hD := hD0.self (sz := s.heap.size)
  generalize hAe : va_A [((ad 4), .inr (2, [.ref (ad 5), .ref (ad 6), .ref (ad 7), .ref (ad 8), .int mn_variables, .int mn_order, .int mn_highest, .int mn_count])), ((ad 5), .inl (cs 0, 126, .inl mn_codes)), ((ad 7), .inl (cs 0, 32, .inl mn_firstOfDegree))] s.heap.size = A at hD ⊢
  have hA : ∀ q : Nat, s.heap.size ≤ q → A q := fun q h => by rw [← hAe]; exact Or.inr h
  have hS : va_S A s.heap s.heap [] := va_S.rf
  have hl := lv_entry ([.ref (ad 4), .int p0, .int p1]) (n := 4) (Nat.le_of_ble_eq_true rfl)
  rw [lg_entry_eq]
  generalize (lg_sl ([.ref (ad 4), .int p0, .int p1]) ++ List.replicate (4 - (lg_sl ([.ref (ad 4), .int p0, .int p1])).length) Slot.unset).toArray = ls at hl ⊢
  have hl : lv_has ls 4 [(0, .ref (ad 4)), (1, .int p0), (2, .int p1)] := hl
  refine lv_aload_n hx hb d_mn_byVariable_0 rfl (lv_at hl 0 rfl) ?_
  refine va_get (D := (dC, dI)) (ci := 2) (v := .ref (ad 5)) (C := R_mn) (T := F_mn) (N := 8) hx hb hts in_mn hown hK hP 0 rfl rfl 0 (by decide) (hts _ kw_72) (fun _ h9 => h9) rfl d_mn_byVariable_1 ?_
  refine lv_iload_n hx hb d_mn_byVariable_4 rfl (lv_at hl 1 rfl) ?_
  obtain ⟨hi_1, hv⟩ := hv
  refine va_iald hx hb hK hP 1 0 rfl rfl hi_1 d_mn_byVariable_5 ?_
  refine lv_topi (fun x3_2 ex3_2 => ?_)
  have hv := hv x3_2 ex3_2
  refine lv_istore_n (lv' := [(3, .int x3_2), (0, .ref (ad 4)), (1, .int p0), (2, .int p1)]) hx hb d_mn_byVariable_6 rfl hl (by decide) rfl (fun ls hl => ?_)
  refine lv_iload_n hx hb d_mn_byVariable_7 rfl (lv_at hl 0 rfl) ?_
  refine lv_iload_n hx hb d_mn_byVariable_8 rfl (lv_at hl 3 rfl) ?_
  have hPc := hP.sub (ws' := []) [] rfl
  have hDc := hD.sub (ws' := []) [] (by decide) rfl
  have hFc := va_free (wc := []) hD hS hA [] rfl
  refine va_calli (va_runS (As := [.int x3_2, .int p1]) (rest := []) ⟨hx, hb, hml, hown, hts⟩ (c_mn_exponentIn l dC dI cs ad  s.heap.size x3_2 p1 _ hv) (va_cwS 2 hts (gd_S kw_242 kw_243 kw_34 kw_244) rfl rfl rfl (by decide +kernel) ⟨Nat.le_of_ble_eq_true rfl, Nat.le_of_ble_eq_true rfl⟩) ⟨fun a U g mk q => by obtain ⟨q0, q1, qP, qK, qD⟩ := q; exact ⟨q0, q1, qP, qK.call, qD⟩, fun U hU hW => ⟨rfl, by rw [hU], by rw [hU]; exact hPc, vwK.warm hW ⟨hK, hN⟩, hDc.weaken (fun _ _ _ _ => trivial)⟩⟩ rfl rfl hl.1 rfl (lv_room (Nat.le_of_ble_eq_true rfl)) d_mn_byVariable_9 ⟨Nat.zero_le _, Nat.zero_le _⟩) hS (fun q _ h => hFc q h) hFc (fun r_3 _u t H1 locs1 ht hvm hw hB hz1 hk1 hS => ?_)
  obtain ⟨hP1, hD1⟩ := hB
  rw [ht] at hP1
  obtain ⟨hP, hD⟩ := va_join (wr := [((ad 4), .inr (2, [.ref (ad 5), .ref (ad 6), .ref (ad 7), .ref (ad 8), .int mn_variables, .int mn_order, .int mn_highest, .int mn_count])), ((ad 5), .inl (cs 0, 126, .inl mn_codes)), ((ad 7), .inl (cs 0, 32, .inl mn_firstOfDegree))]) (w1 := []) hP hD [] [0, 1, 2] rfl rfl (by decide) (by decide) hk1 hFc hP1 hD1
  generalize H1 = H at hP hS ⊢
  generalize locs1 = locs at hS ⊢
  have hP : va_P (dC, dI) vwCl [((ad 4), .inr (2, [.ref (ad 5), .ref (ad 6), .ref (ad 7), .ref (ad 8), .int mn_variables, .int mn_order, .int mn_highest, .int mn_count])), ((ad 5), .inl (cs 0, 126, .inl mn_codes)), ((ad 7), .inl (cs 0, 32, .inl mn_firstOfDegree))] H := hP
  have hD : va_D A [((ad 4), .inr (2, [.ref (ad 5), .ref (ad 6), .ref (ad 7), .ref (ad 8), .int mn_variables, .int mn_order, .int mn_highest, .int mn_count])), ((ad 5), .inl (cs 0, 126, .inl mn_codes)), ((ad 7), .inl (cs 0, 32, .inl mn_firstOfDegree))] := hD
  have hv := hw
  try dsimp only at hv
  refine lv_if_ne (tgt := 19) hx hb d_mn_byVariable_12 (by decide) (fun c_4 => ?_) (fun c_4 => ?_)
  · have hv := hv.1 c_4
    refine lv_aload_n hx hb d_mn_byVariable_19 rfl (lv_at hl 1 rfl) ?_
    refine lv_iload_n hx hb d_mn_byVariable_20 rfl (lv_at hl 0 rfl) ?_
    refine lv_iload_n hx hb d_mn_byVariable_21 rfl (lv_at hl 3 rfl) ?_
    have hPc := hP.sub (ws' := []) [] rfl
    have hDc := hD.sub (ws' := []) [] (by decide) rfl
    have hFc := va_free (wc := []) hD hS hA [] rfl
    refine va_calli (va_runS (As := [.int p1]) (rest := [.int x3_2, .ref (ad 4)]) ⟨hx, hb, hml, hown, hts⟩ (c_mn_unit l dC dI cs ad  H.size p1 _ hv) (va_cwS 1 hts (gd_S kw_232 kw_233 kw_34 kw_234) rfl rfl rfl (by decide +kernel) ⟨Nat.le_of_ble_eq_true rfl, Nat.le_of_ble_eq_true rfl⟩) ⟨fun a U g mk q => by obtain ⟨q0, q1, qP, qK, qD⟩ := q; exact ⟨q0, q1, qP, qK.call, qD⟩, fun U hU hW => ⟨rfl, by rw [hU], by rw [hU]; exact hPc, vwK.warm hW ⟨hK, hN⟩, hDc.weaken (fun _ _ _ _ => trivial)⟩⟩ rfl rfl hl.1 rfl (lv_room (Nat.le_of_ble_eq_true rfl)) d_mn_byVariable_22 ⟨Nat.zero_le _, Nat.zero_le _⟩) hS (fun q _ h => hFc q h) hFc (fun r_5 _u t H1 locs1 ht hvm hw hB hz1 hk1 hS => ?_)
    obtain ⟨hP1, hD1⟩ := hB
    rw [ht] at hP1
    obtain ⟨hP, hD⟩ := va_join (wr := [((ad 4), .inr (2, [.ref (ad 5), .ref (ad 6), .ref (ad 7), .ref (ad 8), .int mn_variables, .int mn_order, .int mn_highest, .int mn_count])), ((ad 5), .inl (cs 0, 126, .inl mn_codes)), ((ad 7), .inl (cs 0, 32, .inl mn_firstOfDegree))]) (w1 := []) hP hD [] [0, 1, 2] rfl rfl (by decide) (by decide) hk1 hFc hP1 hD1
    generalize H1 = H at hP hS ⊢
    generalize locs1 = locs at hS ⊢
    have hP : va_P (dC, dI) vwCl [((ad 4), .inr (2, [.ref (ad 5), .ref (ad 6), .ref (ad 7), .ref (ad 8), .int mn_variables, .int mn_order, .int mn_highest, .int mn_count])), ((ad 5), .inl (cs 0, 126, .inl mn_codes)), ((ad 7), .inl (cs 0, 32, .inl mn_firstOfDegree))] H := hP
    have hD : va_D A [((ad 4), .inr (2, [.ref (ad 5), .ref (ad 6), .ref (ad 7), .ref (ad 8), .int mn_variables, .int mn_order, .int mn_highest, .int mn_count])), ((ad 5), .inl (cs 0, 126, .inl mn_codes)), ((ad 7), .inl (cs 0, 32, .inl mn_firstOfDegree))] := hD
    have hv := hw
    try dsimp only at hv
    refine lv_isub hx hb d_mn_byVariable_25 ?_
    have hPc := hP.sub (ws' := [((ad 4), .inr (2, [.ref (ad 5), .ref (ad 6), .ref (ad 7), .ref (ad 8), .int mn_variables, .int mn_order, .int mn_highest, .int mn_count])), ((ad 5), .inl (cs 0, 126, .inl mn_codes)), ((ad 7), .inl (cs 0, 32, .inl mn_firstOfDegree))]) [0, 1, 2] rfl
    have hDc := hD.sub (ws' := [((ad 4), .inr (2, [.ref (ad 5), .ref (ad 6), .ref (ad 7), .ref (ad 8), .int mn_variables, .int mn_order, .int mn_highest, .int mn_count])), ((ad 5), .inl (cs 0, 126, .inl mn_codes)), ((ad 7), .inl (cs 0, 32, .inl mn_firstOfDegree))]) [0, 1, 2] (by decide) rfl
    have hFc := va_free (wc := [((ad 4), .inr (2, [.ref (ad 5), .ref (ad 6), .ref (ad 7), .ref (ad 8), .int mn_variables, .int mn_order, .int mn_highest, .int mn_count])), ((ad 5), .inl (cs 0, 126, .inl mn_codes)), ((ad 7), .inl (cs 0, 32, .inl mn_firstOfDegree))]) hD hS hA [0, 1, 2] rfl
    refine va_calli (va_runV (As := [.int (x3_2 - r_5)]) (rest := []) ⟨hx, hb, hml, hown, hts⟩ (c_mn_placeOf l dC dI cs ad  H.size mn_variables mn_order mn_highest mn_count mn_codes mn_firstOfDegree (x3_2 - r_5) _ hv) (cwV 1 hts (gd_V kw_238 kw_239 kw_240 kw_34 kw_241) rfl rfl rfl (by decide +kernel) ⟨Nat.le_of_ble_eq_true rfl, Nat.le_of_ble_eq_true rfl⟩) ⟨fun a U g mk q => by obtain ⟨q0, q1, qP, qK, qD⟩ := q; exact ⟨q0, q1, qP, qK.call, qD⟩, va_recv hK hPc (ci := 2) (q0 := 0) rfl rfl, fun U hU hW => ⟨rfl, by rw [hU], by rw [hU]; exact hPc, vwK.warm hW ⟨hK, hN⟩, hDc.weaken (fun _ _ _ _ => trivial)⟩⟩ rfl rfl hl.1 rfl (lv_room (Nat.le_of_ble_eq_true rfl)) d_mn_byVariable_26 ⟨Nat.zero_le _, Nat.zero_le _⟩) hS (fun q _ h => hFc q h) hFc (fun r_6 _u t H1 locs1 ht hvm hw hB hz1 hk1 hS => ?_)
    obtain ⟨hP1, hD1⟩ := hB
    rw [ht] at hP1
    obtain ⟨hP, hD⟩ := va_join (wr := []) (w1 := [((ad 4), .inr (2, [.ref (ad 5), .ref (ad 6), .ref (ad 7), .ref (ad 8), .int mn_variables, .int mn_order, .int mn_highest, .int mn_count])), ((ad 5), .inl (cs 0, 126, .inl mn_codes)), ((ad 7), .inl (cs 0, 32, .inl mn_firstOfDegree))]) hP hD [0, 1, 2] [] rfl rfl (by decide) (by decide) hk1 hFc hP1 hD1
    generalize H1 = H at hP hS ⊢
    generalize locs1 = locs at hS ⊢
    have hP : va_P (dC, dI) vwCl [((ad 4), .inr (2, [.ref (ad 5), .ref (ad 6), .ref (ad 7), .ref (ad 8), .int mn_variables, .int mn_order, .int mn_highest, .int mn_count])), ((ad 5), .inl (cs 0, 126, .inl mn_codes)), ((ad 7), .inl (cs 0, 32, .inl mn_firstOfDegree))] H := hP
    have hD : va_D A [((ad 4), .inr (2, [.ref (ad 5), .ref (ad 6), .ref (ad 7), .ref (ad 8), .int mn_variables, .int mn_order, .int mn_highest, .int mn_count])), ((ad 5), .inl (cs 0, 126, .inl mn_codes)), ((ad 7), .inl (cs 0, 32, .inl mn_firstOfDegree))] := hD
    have hv := hw
    try dsimp only at hv
    have hP9 := hP.sub (ws' := [((ad 4), .inr (2, [.ref (ad 5), .ref (ad 6), .ref (ad 7), .ref (ad 8), .int mn_variables, .int mn_order, .int mn_highest, .int mn_count])), ((ad 5), .inl (cs 0, 126, .inl mn_codes)), ((ad 7), .inl (cs 0, 32, .inl mn_firstOfDegree))]) [0, 1, 2] rfl
    have hD9 := hD.sub (ws' := [((ad 4), .inr (2, [.ref (ad 5), .ref (ad 6), .ref (ad 7), .ref (ad 8), .int mn_variables, .int mn_order, .int mn_highest, .int mn_count])), ((ad 5), .inl (cs 0, 126, .inl mn_codes)), ((ad 7), .inl (cs 0, 32, .inl mn_firstOfDegree))]) [0, 1, 2] (by decide) rfl
    exact W.iret (v := r_6) hx hb hr (fun t ht hW => ⟨⟨r_6, (), rfl, hv, by rw [ht]; exact hP9, hD9⟩, hS.F ht⟩) hS.2.2 d_mn_byVariable_29
  · have hv := hv.2 c_4
    refine lv_iconst (v := (-1)) hx hb d_mn_byVariable_15 (by decide) ?_
    refine lv_goto (tgt := 29) hx hb d_mn_byVariable_16 (by decide) ?_
    have hP9 := hP.sub (ws' := [((ad 4), .inr (2, [.ref (ad 5), .ref (ad 6), .ref (ad 7), .ref (ad 8), .int mn_variables, .int mn_order, .int mn_highest, .int mn_count])), ((ad 5), .inl (cs 0, 126, .inl mn_codes)), ((ad 7), .inl (cs 0, 32, .inl mn_firstOfDegree))]) [0, 1, 2] rfl
    have hD9 := hD.sub (ws' := [((ad 4), .inr (2, [.ref (ad 5), .ref (ad 6), .ref (ad 7), .ref (ad 8), .int mn_variables, .int mn_order, .int mn_highest, .int mn_count])), ((ad 5), .inl (cs 0, 126, .inl mn_codes)), ((ad 7), .inl (cs 0, 32, .inl mn_firstOfDegree))]) [0, 1, 2] (by decide) rfl
    exact W.iret (v := (-1)) hx hb hr (fun t ht hW => ⟨⟨(-1), (), rfl, hv, by rw [ht]; exact hP9, hD9⟩, hS.F ht⟩) hS.2.2 d_mn_byVariable_29
abbrev b_mn_degreeOfLeastCommonMultiple : ByteArray := prog_5_method_8_code
def y_mn_degreeOfLeastCommonMultiple : MethodName := ⟨"SpaceBasis$Monomials", "degreeOfLeastCommonMultiple", "(II)I"⟩
def w_mn_degreeOfLeastCommonMultiple : List Cond := Cond.code y_mn_degreeOfLeastCommonMultiple b_mn_degreeOfLeastCommonMultiple 5 (some .int) :: vwWS
theorem d_mn_degreeOfLeastCommonMultiple_0 : decode b_mn_degreeOfLeastCommonMultiple 0 = .ok (.iconst 0, 1) := by decide +kernel
theorem d_mn_degreeOfLeastCommonMultiple_1 : decode b_mn_degreeOfLeastCommonMultiple 1 = .ok (.istore_n 3, 1) := by decide +kernel
theorem d_mn_degreeOfLeastCommonMultiple_2 : decode b_mn_degreeOfLeastCommonMultiple 2 = .ok (.iconst 0, 1) := by decide +kernel
theorem d_mn_degreeOfLeastCommonMultiple_3 : decode b_mn_degreeOfLeastCommonMultiple 3 = .ok (.istore 4, 2) := by decide +kernel
theorem d_mn_degreeOfLeastCommonMultiple_5 : decode b_mn_degreeOfLeastCommonMultiple 5 = .ok (.iload 4, 2) := by decide +kernel
theorem d_mn_degreeOfLeastCommonMultiple_7 : decode b_mn_degreeOfLeastCommonMultiple 7 = .ok (.aload_n 0, 1) := by decide +kernel
theorem d_mn_degreeOfLeastCommonMultiple_8 : decode b_mn_degreeOfLeastCommonMultiple 8 = .ok (.getfield 24, 3) := by decide +kernel
theorem d_mn_degreeOfLeastCommonMultiple_11 : decode b_mn_degreeOfLeastCommonMultiple 11 = .ok (.if_icmp .ge 37, 3) := by decide +kernel
theorem d_mn_degreeOfLeastCommonMultiple_14 : decode b_mn_degreeOfLeastCommonMultiple 14 = .ok (.iload_n 3, 1) := by decide +kernel
theorem d_mn_degreeOfLeastCommonMultiple_15 : decode b_mn_degreeOfLeastCommonMultiple 15 = .ok (.aload_n 0, 1) := by decide +kernel
theorem d_mn_degreeOfLeastCommonMultiple_16 : decode b_mn_degreeOfLeastCommonMultiple 16 = .ok (.getfield 9, 3) := by decide +kernel
theorem d_mn_degreeOfLeastCommonMultiple_19 : decode b_mn_degreeOfLeastCommonMultiple 19 = .ok (.iload_n 1, 1) := by decide +kernel
theorem d_mn_degreeOfLeastCommonMultiple_20 : decode b_mn_degreeOfLeastCommonMultiple 20 = .ok (.iaload, 1) := by decide +kernel
theorem d_mn_degreeOfLeastCommonMultiple_21 : decode b_mn_degreeOfLeastCommonMultiple 21 = .ok (.iload 4, 2) := by decide +kernel
theorem d_mn_degreeOfLeastCommonMultiple_23 : decode b_mn_degreeOfLeastCommonMultiple 23 = .ok (.invokestatic 55, 3) := by decide +kernel
theorem d_mn_degreeOfLeastCommonMultiple_26 : decode b_mn_degreeOfLeastCommonMultiple 26 = .ok (.aload_n 0, 1) := by decide +kernel
theorem d_mn_degreeOfLeastCommonMultiple_27 : decode b_mn_degreeOfLeastCommonMultiple 27 = .ok (.getfield 9, 3) := by decide +kernel
theorem d_mn_degreeOfLeastCommonMultiple_30 : decode b_mn_degreeOfLeastCommonMultiple 30 = .ok (.iload_n 2, 1) := by decide +kernel
theorem d_mn_degreeOfLeastCommonMultiple_31 : decode b_mn_degreeOfLeastCommonMultiple 31 = .ok (.iaload, 1) := by decide +kernel
theorem d_mn_degreeOfLeastCommonMultiple_32 : decode b_mn_degreeOfLeastCommonMultiple 32 = .ok (.iload 4, 2) := by decide +kernel
theorem d_mn_degreeOfLeastCommonMultiple_34 : decode b_mn_degreeOfLeastCommonMultiple 34 = .ok (.invokestatic 55, 3) := by decide +kernel
theorem d_mn_degreeOfLeastCommonMultiple_37 : decode b_mn_degreeOfLeastCommonMultiple 37 = .ok (.invokestatic 59, 3) := by decide +kernel
theorem d_mn_degreeOfLeastCommonMultiple_40 : decode b_mn_degreeOfLeastCommonMultiple 40 = .ok (.iadd, 1) := by decide +kernel
theorem d_mn_degreeOfLeastCommonMultiple_41 : decode b_mn_degreeOfLeastCommonMultiple 41 = .ok (.istore_n 3, 1) := by decide +kernel
theorem d_mn_degreeOfLeastCommonMultiple_42 : decode b_mn_degreeOfLeastCommonMultiple 42 = .ok (.iinc 4 1, 3) := by decide +kernel
theorem d_mn_degreeOfLeastCommonMultiple_45 : decode b_mn_degreeOfLeastCommonMultiple 45 = .ok (.goto (-40), 3) := by decide +kernel
theorem d_mn_degreeOfLeastCommonMultiple_48 : decode b_mn_degreeOfLeastCommonMultiple 48 = .ok (.iload_n 3, 1) := by decide +kernel
theorem d_mn_degreeOfLeastCommonMultiple_49 : decode b_mn_degreeOfLeastCommonMultiple 49 = .ok (.ireturn, 1) := by decide +kernel
/-- SpaceBasis$Monomials.degreeOfLeastCommonMultiple(II)I -/
def vc_mn_degreeOfLeastCommonMultiple (mn_variables : Int32) (mn_order : Int32) (mn_highest : Int32) (mn_count : Int32) (mn_codes : Nat → Int32) (p0 : Int32) (p1 : Int32) (Q : Int32 → Prop) : Prop :=
  ∃ (I5_3 : Int32 → Int32 → Prop) (mu5_4 : Int32 → Int32 → Nat), I5_3 0 0 ∧ ∀ (x3_1 : Int32) (x4_2 : Int32), I5_3 x3_1 x4_2 → ((((mn_variables ≤ x4_2) → (Q x3_1)) ∧ ((¬ (mn_variables ≤ x4_2)) → (vp_in p0 126 ∧ vc_mn_exponentIn (mn_codes p0.toNatClampNeg) x4_2 (fun (r_7 : Int32) => vp_in p1 126 ∧ vc_mn_exponentIn (mn_codes p1.toNatClampNeg) x4_2 (fun (r_9 : Int32) => ∀ x3_10 : Int32, x3_10 = (x3_1 + (if r_7 < r_9 then r_9 else r_7)) → ∀ x4_11 : Int32, x4_11 = x4_2 + 1 → (I5_3 x3_10 x4_11 ∧ mu5_4 x3_10 x4_11 < mu5_4 x3_1 x4_2)))))))
abbrev at_mn_degreeOfLeastCommonMultiple (dC : Nat → ClassId) (dI : Nat → Nat → Nat) (cs : Nat → ClassId) (A : Nat → Prop) (ad : Nat → Nat) (mn_variables : Int32) (mn_order : Int32) (mn_highest : Int32) (mn_count : Int32) (mn_codes : Nat → Int32) (u : Unit) (t : State) : Prop := match u with
  | _ => va_P (dC, dI) vwCl [((ad 4), .inr (2, [.ref (ad 5), .ref (ad 6), .ref (ad 7), .ref (ad 8), .int mn_variables, .int mn_order, .int mn_highest, .int mn_count])), ((ad 5), .inl (cs 0, 126, .inl mn_codes))] t.heap ∧ va_D A [((ad 4), .inr (2, [.ref (ad 5), .ref (ad 6), .ref (ad 7), .ref (ad 8), .int mn_variables, .int mn_order, .int mn_highest, .int mn_count])), ((ad 5), .inl (cs 0, 126, .inl mn_codes))]
set_option maxHeartbeats 4000000 in
set_option maxRecDepth 100000 in
theorem c_mn_degreeOfLeastCommonMultiple (l : Launch) (dC : Nat → ClassId) (dI : Nat → Nat → Nat) (cs : Nat → ClassId) (ad : Nat → Nat)  (sz : Nat) (mn_variables : Int32) (mn_order : Int32) (mn_highest : Int32) (mn_count : Int32) (mn_codes : Nat → Int32) (p0 : Int32) (p1 : Int32) (Q : Int32 → Prop) (hv : vc_mn_degreeOfLeastCommonMultiple mn_variables mn_order mn_highest mn_count mn_codes p0 p1 Q) : Met l y_mn_degreeOfLeastCommonMultiple w_mn_degreeOfLeastCommonMultiple ({ frames := 1, cells := 0, slots := 0, locals := 32 }) (va_Pc [.ref (ad 4), .int p0, .int p1] (fun U => U.heap.size = sz ∧ va_P (dC, dI) vwCl [((ad 4), .inr (2, [.ref (ad 5), .ref (ad 6), .ref (ad 7), .ref (ad 8), .int mn_variables, .int mn_order, .int mn_highest, .int mn_count])), ((ad 5), .inl (cs 0, 126, .inl mn_codes))] U.heap ∧ vwK dC dI cs U ∧ va_D (fun _ => True) [((ad 4), .inr (2, [.ref (ad 5), .ref (ad 6), .ref (ad 7), .ref (ad 8), .int mn_variables, .int mn_order, .int mn_highest, .int mn_count])), ((ad 5), .inl (cs 0, 126, .inl mn_codes))])) (va_Qi (fun (r : Int32) (u : Unit) => Q r) (at_mn_degreeOfLeastCommonMultiple dC dI cs (va_A [((ad 4), .inr (2, [.ref (ad 5), .ref (ad 6), .ref (ad 7), .ref (ad 8), .int mn_variables, .int mn_order, .int mn_highest, .int mn_count])), ((ad 5), .inl (cs 0, 126, .inl mn_codes))] sz) ad mn_variables mn_order mn_highest mn_count mn_codes) (va_A [((ad 4), .inr (2, [.ref (ad 5), .ref (ad 6), .ref (ad 7), .ref (ad 8), .int mn_variables, .int mn_order, .int mn_highest, .int mn_count])), ((ad 5), .inl (cs 0, 126, .inl mn_codes))] sz)) 0 0 (va_A [((ad 4), .inr (2, [.ref (ad 5), .ref (ad 6), .ref (ad 7), .ref (ad 8), .int mn_variables, .int mn_order, .int mn_highest, .int mn_count])), ((ad 5), .inl (cs 0, 126, .inl mn_codes))] sz) := by
  unfold vc_mn_degreeOfLeastCommonMultiple at hv
  refine Met.ofW (cc := b_mn_degreeOfLeastCommonMultiple) (maxL := 5) (ret := (some .int)) (by decide) rfl ?_
  intro p e s m args below meth c s₁ B hml hpc
  obtain ⟨rfl, hsz, hP, ⟨hK, hN⟩, hD0⟩ := hpc
  have hx := B.exec
  have hb := B.bytes
  have hr := B.returns
  have hts : ∀ w ∈ vwWS, w.before _ s = true := fun w h => atoms_spec (ws := w_mn_degreeOfLeastCommonMultiple) B.pre w (List.mem_cons_of_mem _ h)
  have hown : s.vm.findClass "SpaceBasis$Monomials" = some m.cls := findClass_of_methodNamed B.named
  have hlocks := B.notSynchronized
  subst hsz
  have hD := hD0.self (sz := s.heap.size)
  generalize hAe : va_A [((ad 4), .inr (2, [.ref (ad 5), .ref (ad 6), .ref (ad 7), .ref (ad 8), .int mn_variables, .int mn_order, .int mn_highest, .int mn_count])), ((ad 5), .inl (cs 0, 126, .inl mn_codes))] s.heap.size = A at hD ⊢
  have hA : ∀ q : Nat, s.heap.size ≤ q → A q := fun q h => by rw [← hAe]; exact Or.inr h
  have hS : va_S A s.heap s.heap [] := va_S.rf
  have hl := lv_entry ([.ref (ad 4), .int p0, .int p1]) (n := 5) (Nat.le_of_ble_eq_true rfl)
  rw [lg_entry_eq]
  generalize (lg_sl ([.ref (ad 4), .int p0, .int p1]) ++ List.replicate (5 - (lg_sl ([.ref (ad 4), .int p0, .int p1])).length) Slot.unset).toArray = ls at hl ⊢
  have hl : lv_has ls 5 [(0, .ref (ad 4)), (1, .int p0), (2, .int p1)] := hl
  refine lv_iconst (v := 0) hx hb d_mn_degreeOfLeastCommonMultiple_0 (by decide) ?_
  refine lv_istore_n (lv' := [(3, .int 0), (0, .ref (ad 4)), (1, .int p0), (2, .int p1)]) hx hb d_mn_degreeOfLeastCommonMultiple_1 rfl hl (by decide) rfl (fun ls hl => ?_)
  refine lv_iconst (v := 0) hx hb d_mn_degreeOfLeastCommonMultiple_2 (by decide) ?_
  refine lv_istore (lv' := [(4, .int 0), (3, .int 0), (0, .ref (ad 4)), (1, .int p0), (2, .int p1)]) hx hb d_mn_degreeOfLeastCommonMultiple_3 hl (by decide) rfl (fun ls hl => ?_)
  obtain ⟨I5_3, mu5_4, hi0, hv⟩ := hv
  have hP := hP.sub (ws' := [((ad 4), .inr (2, [.ref (ad 5), .ref (ad 6), .ref (ad 7), .ref (ad 8), .int mn_variables, .int mn_order, .int mn_highest, .int mn_count])), ((ad 5), .inl (cs 0, 126, .inl mn_codes))]) [0, 1] rfl
  have hD := hD.sub (ws' := [((ad 4), .inr (2, [.ref (ad 5), .ref (ad 6), .ref (ad 7), .ref (ad 8), .int mn_variables, .int mn_order, .int mn_highest, .int mn_count])), ((ad 5), .inl (cs 0, 126, .inl mn_codes))]) [0, 1] (by decide) rfl
  have hl := lv_sub (l' := [(0, .ref (ad 4)), (1, .int p0), (2, .int p1), (3, .int 0), (4, .int 0)]) hl [2, 3, 4, 1, 0] rfl
  have loop5 : ∀ (nn : Nat) (x3_1 : Int32) (x4_2 : Int32), mu5_4 x3_1 x4_2 < nn → I5_3 x3_1 x4_2 → ∀ (H : Heap) (locs : List Loc) (ls : Array Slot), va_P (dC, dI) vwCl [((ad 4), .inr (2, [.ref (ad 5), .ref (ad 6), .ref (ad 7), .ref (ad 8), .int mn_variables, .int mn_order, .int mn_highest, .int mn_count])), ((ad 5), .inl (cs 0, 126, .inl mn_codes))] H → va_D A [((ad 4), .inr (2, [.ref (ad 5), .ref (ad 6), .ref (ad 7), .ref (ad 8), .int mn_variables, .int mn_order, .int mn_highest, .int mn_count])), ((ad 5), .inl (cs 0, 126, .inl mn_codes))] → va_S A s.heap H locs → lv_has ls 5 [(0, .ref (ad 4)), (1, .int p0), (2, .int p1), (3, .int x3_1), (4, .int x4_2)] → W p l e (headSpec w_mn_degreeOfLeastCommonMultiple { frames := 1, cells := 0, slots := 0, locals := 32 }).room s m ([.ref (ad 4), .int p0, .int p1] : List Value).toArray below meth c H locs 0 0 (MQ below (va_Qi (fun (r : Int32) (u : Unit) => Q r) (at_mn_degreeOfLeastCommonMultiple dC dI cs A ad mn_variables mn_order mn_highest mn_count mn_codes) A) ([.ref (ad 4), .int p0, .int p1] : List Value).toArray s 0 0 A) (F0 m 5 ls []) := by
    intro nn
    induction nn with
    | zero => intro x3_1 x4_2 hlt; exact absurd hlt (Nat.not_lt_zero _)
    | succ nn ih5 =>
      intro x3_1 x4_2 hlt5 hI H locs ls hP hD hS hl
      have hv := hv x3_1 x4_2 hI
      refine lv_iload hx hb d_mn_degreeOfLeastCommonMultiple_5 (lv_at hl 4 rfl) ?_
      refine lv_aload_n hx hb d_mn_degreeOfLeastCommonMultiple_7 rfl (lv_at hl 0 rfl) ?_
      refine va_get (D := (dC, dI)) (ci := 2) (v := .int mn_variables) (C := R_mn) (T := F_mn) (N := 8) hx hb hts in_mn hown hK hP 0 rfl rfl 4 (by decide) (hts _ kw_76) (fun _ h9 => h9) rfl d_mn_degreeOfLeastCommonMultiple_8 ?_
      refine lv_icmp_ge (tgt := 48) hx hb d_mn_degreeOfLeastCommonMultiple_11 (by decide) (fun c_5 => ?_) (fun c_5 => ?_)
      · have hv := hv.1 c_5
        refine lv_iload_n hx hb d_mn_degreeOfLeastCommonMultiple_48 rfl (lv_at hl 3 rfl) ?_
        have hP9 := hP.sub (ws' := [((ad 4), .inr (2, [.ref (ad 5), .ref (ad 6), .ref (ad 7), .ref (ad 8), .int mn_variables, .int mn_order, .int mn_highest, .int mn_count])), ((ad 5), .inl (cs 0, 126, .inl mn_codes))]) [0, 1] rfl
        have hD9 := hD.sub (ws' := [((ad 4), .inr (2, [.ref (ad 5), .ref (ad 6), .ref (ad 7), .ref (ad 8), .int mn_variables, .int mn_order, .int mn_highest, .int mn_count])), ((ad 5), .inl (cs 0, 126, .inl mn_codes))]) [0, 1] (by decide) rfl
        exact W.iret (v := x3_1) hx hb hr (fun t ht hW => ⟨⟨x3_1, (), rfl, hv, by rw [ht]; exact hP9, hD9⟩, hS.F ht⟩) hS.2.2 d_mn_degreeOfLeastCommonMultiple_49
      · have hv := hv.2 c_5
        refine lv_iload_n hx hb d_mn_degreeOfLeastCommonMultiple_14 rfl (lv_at hl 3 rfl) ?_
        refine lv_aload_n hx hb d_mn_degreeOfLeastCommonMultiple_15 rfl (lv_at hl 0 rfl) ?_
        refine va_get (D := (dC, dI)) (ci := 2) (v := .ref (ad 5)) (C := R_mn) (T := F_mn) (N := 8) hx hb hts in_mn hown hK hP 0 rfl rfl 0 (by decide) (hts _ kw_72) (fun _ h9 => h9) rfl d_mn_degreeOfLeastCommonMultiple_16 ?_
        refine lv_iload_n hx hb d_mn_degreeOfLeastCommonMultiple_19 rfl (lv_at hl 1 rfl) ?_
        obtain ⟨hi_6, hv⟩ := hv
        refine va_iald hx hb hK hP 1 0 rfl rfl hi_6 d_mn_degreeOfLeastCommonMultiple_20 ?_
        refine lv_iload hx hb d_mn_degreeOfLeastCommonMultiple_21 (lv_at hl 4 rfl) ?_
        have hPc := hP.sub (ws' := []) [] rfl
        have hDc := hD.sub (ws' := []) [] (by decide) rfl
        have hFc := va_free (wc := []) hD hS hA [] rfl
        refine va_calli (va_runS (As := [.int (mn_codes p0.toNatClampNeg), .int x4_2]) (rest := [.int x3_1]) ⟨hx, hb, hml, hown, hts⟩ (c_mn_exponentIn l dC dI cs ad  H.size (mn_codes p0.toNatClampNeg) x4_2 _ hv) (va_cwS 2 hts (gd_S kw_242 kw_243 kw_34 kw_244) rfl rfl rfl (by decide +kernel) ⟨Nat.le_of_ble_eq_true rfl, Nat.le_of_ble_eq_true rfl⟩) ⟨fun a U g mk q => by obtain ⟨q0, q1, qP, qK, qD⟩ := q; exact ⟨q0, q1, qP, qK.call, qD⟩, fun U hU hW => ⟨rfl, by rw [hU], by rw [hU]; exact hPc, vwK.warm hW ⟨hK, hN⟩, hDc.weaken (fun _ _ _ _ => trivial)⟩⟩ rfl rfl hl.1 rfl (lv_room (Nat.le_of_ble_eq_true rfl)) d_mn_degreeOfLeastCommonMultiple_23 ⟨Nat.zero_le _, Nat.zero_le _⟩) hS (fun q _ h => hFc q h) hFc (fun r_7 _u t H1 locs1 ht hvm hw hB hz1 hk1 hS => ?_)
        obtain ⟨hP1, hD1⟩ := hB
        rw [ht] at hP1
        obtain ⟨hP, hD⟩ := va_join (wr := [((ad 4), .inr (2, [.ref (ad 5), .ref (ad 6), .ref (ad 7), .ref (ad 8), .int mn_variables, .int mn_order, .int mn_highest, .int mn_count])), ((ad 5), .inl (cs 0, 126, .inl mn_codes))]) (w1 := []) hP hD [] [0, 1] rfl rfl (by decide) (by decide) hk1 hFc hP1 hD1
        generalize H1 = H at hP hS ⊢
        generalize locs1 = locs at hS ⊢
        have hP : va_P (dC, dI) vwCl [((ad 4), .inr (2, [.ref (ad 5), .ref (ad 6), .ref (ad 7), .ref (ad 8), .int mn_variables, .int mn_order, .int mn_highest, .int mn_count])), ((ad 5), .inl (cs 0, 126, .inl mn_codes))] H := hP
        have hD : va_D A [((ad 4), .inr (2, [.ref (ad 5), .ref (ad 6), .ref (ad 7), .ref (ad 8), .int mn_variables, .int mn_order, .int mn_highest, .int mn_count])), ((ad 5), .inl (cs 0, 126, .inl mn_codes))] := hD
        have hv := hw
        try dsimp only at hv
        refine lv_aload_n hx hb d_mn_degreeOfLeastCommonMultiple_26 rfl (lv_at hl 0 rfl) ?_
        refine va_get (D := (dC, dI)) (ci := 2) (v := .ref (ad 5)) (C := R_mn) (T := F_mn) (N := 8) hx hb hts in_mn hown hK hP 0 rfl rfl 0 (by decide) (hts _ kw_72) (fun _ h9 => h9) rfl d_mn_degreeOfLeastCommonMultiple_27 ?_
        refine lv_iload_n hx hb d_mn_degreeOfLeastCommonMultiple_30 rfl (lv_at hl 2 rfl) ?_
        obtain ⟨hi_8, hv⟩ := hv
        refine va_iald hx hb hK hP 1 0 rfl rfl hi_8 d_mn_degreeOfLeastCommonMultiple_31 ?_
        refine lv_iload hx hb d_mn_degreeOfLeastCommonMultiple_32 (lv_at hl 4 rfl) ?_
        have hPc := hP.sub (ws' := []) [] rfl
        have hDc := hD.sub (ws' := []) [] (by decide) rfl
        have hFc := va_free (wc := []) hD hS hA [] rfl
        refine va_calli (va_runS (As := [.int (mn_codes p1.toNatClampNeg), .int x4_2]) (rest := [.int r_7, .int x3_1]) ⟨hx, hb, hml, hown, hts⟩ (c_mn_exponentIn l dC dI cs ad  H.size (mn_codes p1.toNatClampNeg) x4_2 _ hv) (va_cwS 2 hts (gd_S kw_242 kw_243 kw_34 kw_244) rfl rfl rfl (by decide +kernel) ⟨Nat.le_of_ble_eq_true rfl, Nat.le_of_ble_eq_true rfl⟩) ⟨fun a U g mk q => by obtain ⟨q0, q1, qP, qK, qD⟩ := q; exact ⟨q0, q1, qP, qK.call, qD⟩, fun U hU hW => ⟨rfl, by rw [hU], by rw [hU]; exact hPc, vwK.warm hW ⟨hK, hN⟩, hDc.weaken (fun _ _ _ _ => trivial)⟩⟩ rfl rfl hl.1 rfl (lv_room (Nat.le_of_ble_eq_true rfl)) d_mn_degreeOfLeastCommonMultiple_34 ⟨Nat.zero_le _, Nat.zero_le _⟩) hS (fun q _ h => hFc q h) hFc (fun r_9 _u t H1 locs1 ht hvm hw hB hz1 hk1 hS => ?_)
        obtain ⟨hP1, hD1⟩ := hB
        rw [ht] at hP1
        obtain ⟨hP, hD⟩ := va_join (wr := [((ad 4), .inr (2, [.ref (ad 5), .ref (ad 6), .ref (ad 7), .ref (ad 8), .int mn_variables, .int mn_order, .int mn_highest, .int mn_count])), ((ad 5), .inl (cs 0, 126, .inl mn_codes))]) (w1 := []) hP hD [] [0, 1] rfl rfl (by decide) (by decide) hk1 hFc hP1 hD1
        generalize H1 = H at hP hS ⊢
        generalize locs1 = locs at hS ⊢
        have hP : va_P (dC, dI) vwCl [((ad 4), .inr (2, [.ref (ad 5), .ref (ad 6), .ref (ad 7), .ref (ad 8), .int mn_variables, .int mn_order, .int mn_highest, .int mn_count])), ((ad 5), .inl (cs 0, 126, .inl mn_codes))] H := hP
        have hD : va_D A [((ad 4), .inr (2, [.ref (ad 5), .ref (ad 6), .ref (ad 7), .ref (ad 8), .int mn_variables, .int mn_order, .int mn_highest, .int mn_count])), ((ad 5), .inl (cs 0, 126, .inl mn_codes))] := hD
        have hv := hw
        try dsimp only at hv
        refine va_mmax hx hb (by rw [hml]; exact hl.1.symm) hown (hts _ kw_551) (hts _ kw_334) (hts _ kw_46) (hts _ kw_335) (Nat.le_of_ble_eq_true rfl) (Nat.le_of_ble_eq_true rfl) (Nat.zero_le _) (Nat.zero_le _) d_mn_degreeOfLeastCommonMultiple_37 ?_
        refine lv_iadd hx hb d_mn_degreeOfLeastCommonMultiple_40 ?_
        refine lv_topi (fun x3_10 ex3_10 => ?_)
        have hv := hv x3_10 ex3_10
        refine lv_istore_n (lv' := [(3, .int x3_10), (0, .ref (ad 4)), (1, .int p0), (2, .int p1), (4, .int x4_2)]) hx hb d_mn_degreeOfLeastCommonMultiple_41 rfl hl (by decide) rfl (fun ls hl => ?_)
        obtain ⟨x4_11, ex4_11⟩ : ∃ y : Int32, y = x4_2 + 1 := ⟨_, rfl⟩
        have hv := hv x4_11 ex4_11
        refine lv_iinc (v := x4_11) (lv' := [(4, .int x4_11), (3, .int x3_10), (0, .ref (ad 4)), (1, .int p0), (2, .int p1)]) hx hb d_mn_degreeOfLeastCommonMultiple_42 hl (k := 4) rfl (by rw [ex4_11]; rfl) (by decide) rfl (fun ls hl => ?_)
        refine lv_goto (tgt := 5) hx hb d_mn_degreeOfLeastCommonMultiple_45 (by decide) ?_
        exact ih5 x3_10 x4_11 (Nat.lt_of_lt_of_le hv.2 (Nat.le_of_lt_succ hlt5)) hv.1 _ _ _ (hP.sub [0, 1] rfl) (hD.sub [0, 1] (by decide) rfl) hS (lv_sub hl [2, 3, 4, 1, 0] rfl)
  exact loop5 _ 0 0 (Nat.lt_succ_self _) hi0 _ _ _ hP hD hS hl
abbrev b_mn_variablesIn : ByteArray := prog_5_method_9_code
def y_mn_variablesIn : MethodName := ⟨"SpaceBasis$Monomials", "variablesIn", "(I)I"⟩
def w_mn_variablesIn : List Cond := Cond.code y_mn_variablesIn b_mn_variablesIn 4 (some .int) :: vwWS
theorem d_mn_variablesIn_0 : decode b_mn_variablesIn 0 = .ok (.iconst 0, 1) := by decide +kernel
theorem d_mn_variablesIn_1 : decode b_mn_variablesIn 1 = .ok (.istore_n 2, 1) := by decide +kernel
theorem d_mn_variablesIn_2 : decode b_mn_variablesIn 2 = .ok (.iconst 0, 1) := by decide +kernel
theorem d_mn_variablesIn_3 : decode b_mn_variablesIn 3 = .ok (.istore_n 3, 1) := by decide +kernel
theorem d_mn_variablesIn_4 : decode b_mn_variablesIn 4 = .ok (.iload_n 3, 1) := by decide +kernel
theorem d_mn_variablesIn_5 : decode b_mn_variablesIn 5 = .ok (.aload_n 0, 1) := by decide +kernel
theorem d_mn_variablesIn_6 : decode b_mn_variablesIn 6 = .ok (.getfield 24, 3) := by decide +kernel
theorem d_mn_variablesIn_9 : decode b_mn_variablesIn 9 = .ok (.if_icmp .ge 28, 3) := by decide +kernel
theorem d_mn_variablesIn_12 : decode b_mn_variablesIn 12 = .ok (.aload_n 0, 1) := by decide +kernel
theorem d_mn_variablesIn_13 : decode b_mn_variablesIn 13 = .ok (.getfield 9, 3) := by decide +kernel
theorem d_mn_variablesIn_16 : decode b_mn_variablesIn 16 = .ok (.iload_n 1, 1) := by decide +kernel
theorem d_mn_variablesIn_17 : decode b_mn_variablesIn 17 = .ok (.iaload, 1) := by decide +kernel
theorem d_mn_variablesIn_18 : decode b_mn_variablesIn 18 = .ok (.iload_n 3, 1) := by decide +kernel
theorem d_mn_variablesIn_19 : decode b_mn_variablesIn 19 = .ok (.invokestatic 55, 3) := by decide +kernel
theorem d_mn_variablesIn_22 : decode b_mn_variablesIn 22 = .ok (.ifCond .eq 9, 3) := by decide +kernel
theorem d_mn_variablesIn_25 : decode b_mn_variablesIn 25 = .ok (.iload_n 2, 1) := by decide +kernel
theorem d_mn_variablesIn_26 : decode b_mn_variablesIn 26 = .ok (.iconst 1, 1) := by decide +kernel
theorem d_mn_variablesIn_27 : decode b_mn_variablesIn 27 = .ok (.iload_n 3, 1) := by decide +kernel
theorem d_mn_variablesIn_28 : decode b_mn_variablesIn 28 = .ok (.ishl, 1) := by decide +kernel
theorem d_mn_variablesIn_29 : decode b_mn_variablesIn 29 = .ok (.ior, 1) := by decide +kernel
theorem d_mn_variablesIn_30 : decode b_mn_variablesIn 30 = .ok (.istore_n 2, 1) := by decide +kernel
theorem d_mn_variablesIn_31 : decode b_mn_variablesIn 31 = .ok (.iinc 3 1, 3) := by decide +kernel
theorem d_mn_variablesIn_34 : decode b_mn_variablesIn 34 = .ok (.goto (-30), 3) := by decide +kernel
theorem d_mn_variablesIn_37 : decode b_mn_variablesIn 37 = .ok (.iload_n 2, 1) := by decide +kernel
theorem d_mn_variablesIn_38 : decode b_mn_variablesIn 38 = .ok (.ireturn, 1) := by decide +kernel
/-- SpaceBasis$Monomials.variablesIn(I)I -/
def vc_mn_variablesIn (mn_variables : Int32) (mn_order : Int32) (mn_highest : Int32) (mn_count : Int32) (mn_codes : Nat → Int32) (p0 : Int32) (Q : Int32 → Prop) : Prop :=
  ∃ (I4_3 : Int32 → Int32 → Prop) (mu4_4 : Int32 → Int32 → Nat), I4_3 0 0 ∧ ∀ (x2_1 : Int32) (x3_2 : Int32), I4_3 x2_1 x3_2 → ((((mn_variables ≤ x3_2) → (Q x2_1)) ∧ ((¬ (mn_variables ≤ x3_2)) → (vp_in p0 126 ∧ vc_mn_exponentIn (mn_codes p0.toNatClampNeg) x3_2 (fun (r_7 : Int32) => (((r_7 = 0) → (∀ x3_9 : Int32, x3_9 = x3_2 + 1 → (I4_3 x2_1 x3_9 ∧ mu4_4 x2_1 x3_9 < mu4_4 x2_1 x3_2))) ∧ ((¬ (r_7 = 0)) → (∀ x2_10 : Int32, x2_10 = (x2_1 ||| (1 <<< (x3_2 &&& 31))) → ∀ x3_11 : Int32, x3_11 = x3_2 + 1 → (I4_3 x2_10 x3_11 ∧ mu4_4 x2_10 x3_11 < mu4_4 x2_1 x3_2)))))))))
abbrev at_mn_variablesIn (dC : Nat → ClassId) (dI : Nat → Nat → Nat) (cs : Nat → ClassId) (A : Nat → Prop) (ad : Nat → Nat) (mn_variables : Int32) (mn_order : Int32) (mn_highest : Int32) (mn_count : Int32) (mn_codes : Nat → Int32) (u : Unit) (t : State) : Prop := match u with
  | _ => va_P (dC, dI) vwCl [((ad 4), .inr (2, [.ref (ad 5), .ref (ad 6), .ref (ad 7), .ref (ad 8), .int mn_variables, .int mn_order, .int mn_highest, .int mn_count])), ((ad 5), .inl (cs 0, 126, .inl mn_codes))] t.heap ∧ va_D A [((ad 4), .inr (2, [.ref (ad 5), .ref (ad 6), .ref (ad 7), .ref (ad 8), .int mn_variables, .int mn_order, .int mn_highest, .int mn_count])), ((ad 5), .inl (cs 0, 126, .inl mn_codes))]
set_option maxHeartbeats 4000000 in
set_option maxRecDepth 100000 in
theorem c_mn_variablesIn (l : Launch) (dC : Nat → ClassId) (dI : Nat → Nat → Nat) (cs : Nat → ClassId) (ad : Nat → Nat)  (sz : Nat) (mn_variables : Int32) (mn_order : Int32) (mn_highest : Int32) (mn_count : Int32) (mn_codes : Nat → Int32) (p0 : Int32) (Q : Int32 → Prop) (hv : vc_mn_variablesIn mn_variables mn_order mn_highest mn_count mn_codes p0 Q) : Met l y_mn_variablesIn w_mn_variablesIn ({ frames := 1, cells := 0, slots := 0, locals := 21 }) (va_Pc [.ref (ad 4), .int p0] (fun U => U.heap.size = sz ∧ va_P (dC, dI) vwCl [((ad 4), .inr (2, [.ref (ad 5), .ref (ad 6), .ref (ad 7), .ref (ad 8), .int mn_variables, .int mn_order, .int mn_highest, .int mn_count])), ((ad 5), .inl (cs 0, 126, .inl mn_codes))] U.heap ∧ vwK dC dI cs U ∧ va_D (fun _ => True) [((ad 4), .inr (2, [.ref (ad 5), .ref (ad 6), .ref (ad 7), .ref (ad 8), .int mn_variables, .int mn_order, .int mn_highest, .int mn_count])), ((ad 5), .inl (cs 0, 126, .inl mn_codes))])) (va_Qi (fun (r : Int32) (u : Unit) => Q r) (at_mn_variablesIn dC dI cs (va_A [((ad 4), .inr (2, [.ref (ad 5), .ref (ad 6), .ref (ad 7), .ref (ad 8), .int mn_variables, .int mn_order, .int mn_highest, .int mn_count])), ((ad 5), .inl (cs 0, 126, .inl mn_codes))] sz) ad mn_variables mn_order mn_highest mn_count mn_codes) (va_A [((ad 4), .inr (2, [.ref (ad 5), .ref (ad 6), .ref (ad 7), .ref (ad 8), .int mn_variables, .int mn_order, .int mn_highest, .int mn_count])), ((ad 5), .inl (cs 0, 126, .inl mn_codes))] sz)) 0 0 (va_A [((ad 4), .inr (2, [.ref (ad 5), .ref (ad 6), .ref (ad 7), .ref (ad 8), .int mn_variables, .int mn_order, .int mn_highest, .int mn_count])), ((ad 5), .inl (cs 0, 126, .inl mn_codes))] sz) := by
  unfold vc_mn_variablesIn at hv
  refine Met.ofW (cc := b_mn_variablesIn) (maxL := 4) (ret := (some .int)) (by decide) rfl ?_
  intro p e s m args below meth c s₁ B hml hpc
  obtain ⟨rfl, hsz, hP, ⟨hK, hN⟩, hD0⟩ := hpc
  have hx := B.exec
  have hb := B.bytes
  have hr := B.returns
  have hts : ∀ w ∈ vwWS, w.before _ s = true := fun w h => atoms_spec (ws := w_mn_variablesIn) B.pre w (List.mem_cons_of_mem _ h)
  have hown : s.vm.findClass "SpaceBasis$Monomials" = some m.cls := findClass_of_methodNamed B.named
  have hlocks := B.notSynchronized
  subst hsz
  have hD := hD0.self (sz := s.heap.size)
  generalize hAe : va_A [((ad 4), .inr (2, [.ref (ad 5), .ref (ad 6), .ref (ad 7), .ref (ad 8), .int mn_variables, .int mn_order, .int mn_highest, .int mn_count])), ((ad 5), .inl (cs 0, 126, .inl mn_codes))] s.heap.size = A at hD ⊢
  have hA : ∀ q : Nat, s.heap.size ≤ q → A q := fun q h => by rw [← hAe]; exact Or.inr h
  have hS : va_S A s.heap s.heap [] := va_S.rf
  have hl := lv_entry ([.ref (ad 4), .int p0]) (n := 4) (Nat.le_of_ble_eq_true rfl)
  rw [lg_entry_eq]
  generalize (lg_sl ([.ref (ad 4), .int p0]) ++ List.replicate (4 - (lg_sl ([.ref (ad 4), .int p0])).length) Slot.unset).toArray = ls at hl ⊢
  have hl : lv_has ls 4 [(0, .ref (ad 4)), (1, .int p0)] := hl
  refine lv_iconst (v := 0) hx hb d_mn_variablesIn_0 (by decide) ?_
  refine lv_istore_n (lv' := [(2, .int 0), (0, .ref (ad 4)), (1, .int p0)]) hx hb d_mn_variablesIn_1 rfl hl (by decide) rfl (fun ls hl => ?_)
  refine lv_iconst (v := 0) hx hb d_mn_variablesIn_2 (by decide) ?_
  refine lv_istore_n (lv' := [(3, .int 0), (2, .int 0), (0, .ref (ad 4)), (1, .int p0)]) hx hb d_mn_variablesIn_3 rfl hl (by decide) rfl (fun ls hl => ?_)
  obtain ⟨I4_3, mu4_4, hi0, hv⟩ := hv
  have hP := hP.sub (ws' := [((ad 4), .inr (2, [.ref (ad 5), .ref (ad 6), .ref (ad 7), .ref (ad 8), .int mn_variables, .int mn_order, .int mn_highest, .int mn_count])), ((ad 5), .inl (cs 0, 126, .inl mn_codes))]) [0, 1] rfl
  have hD := hD.sub (ws' := [((ad 4), .inr (2, [.ref (ad 5), .ref (ad 6), .ref (ad 7), .ref (ad 8), .int mn_variables, .int mn_order, .int mn_highest, .int mn_count])), ((ad 5), .inl (cs 0, 126, .inl mn_codes))]) [0, 1] (by decide) rfl
  have hl := lv_sub (l' := [(0, .ref (ad 4)), (1, .int p0), (2, .int 0), (3, .int 0)]) hl [2, 3, 1, 0] rfl
  have loop4 : ∀ (nn : Nat) (x2_1 : Int32) (x3_2 : Int32), mu4_4 x2_1 x3_2 < nn → I4_3 x2_1 x3_2 → ∀ (H : Heap) (locs : List Loc) (ls : Array Slot), va_P (dC, dI) vwCl [((ad 4), .inr (2, [.ref (ad 5), .ref (ad 6), .ref (ad 7), .ref (ad 8), .int mn_variables, .int mn_order, .int mn_highest, .int mn_count])), ((ad 5), .inl (cs 0, 126, .inl mn_codes))] H → va_D A [((ad 4), .inr (2, [.ref (ad 5), .ref (ad 6), .ref (ad 7), .ref (ad 8), .int mn_variables, .int mn_order, .int mn_highest, .int mn_count])), ((ad 5), .inl (cs 0, 126, .inl mn_codes))] → va_S A s.heap H locs → lv_has ls 4 [(0, .ref (ad 4)), (1, .int p0), (2, .int x2_1), (3, .int x3_2)] → W p l e (headSpec w_mn_variablesIn { frames := 1, cells := 0, slots := 0, locals := 21 }).room s m ([.ref (ad 4), .int p0] : List Value).toArray below meth c H locs 0 0 (MQ below (va_Qi (fun (r : Int32) (u : Unit) => Q r) (at_mn_variablesIn dC dI cs A ad mn_variables mn_order mn_highest mn_count mn_codes) A) ([.ref (ad 4), .int p0] : List Value).toArray s 0 0 A) (F0 m 4 ls []) := by
    intro nn
    induction nn with
    | zero => intro x2_1 x3_2 hlt; exact absurd hlt (Nat.not_lt_zero _)
    | succ nn ih4 =>
      intro x2_1 x3_2 hlt4 hI H locs ls hP hD hS hl
      have hv := hv x2_1 x3_2 hI
      refine lv_iload_n hx hb d_mn_variablesIn_4 rfl (lv_at hl 3 rfl) ?_
      refine lv_aload_n hx hb d_mn_variablesIn_5 rfl (lv_at hl 0 rfl) ?_
      refine va_get (D := (dC, dI)) (ci := 2) (v := .int mn_variables) (C := R_mn) (T := F_mn) (N := 8) hx hb hts in_mn hown hK hP 0 rfl rfl 4 (by decide) (hts _ kw_76) (fun _ h9 => h9) rfl d_mn_variablesIn_6 ?_
      refine lv_icmp_ge (tgt := 37) hx hb d_mn_variablesIn_9 (by decide) (fun c_5 => ?_) (fun c_5 => ?_)
      · have hv := hv.1 c_5
        refine lv_iload_n hx hb d_mn_variablesIn_37 rfl (lv_at hl 2 rfl) ?_
        have hP9 := hP.sub (ws' := [((ad 4), .inr (2, [.ref (ad 5), .ref (ad 6), .ref (ad 7), .ref (ad 8), .int mn_variables, .int mn_order, .int mn_highest, .int mn_count])), ((ad 5), .inl (cs 0, 126, .inl mn_codes))]) [0, 1] rfl
        have hD9 := hD.sub (ws' := [((ad 4), .inr (2, [.ref (ad 5), .ref (ad 6), .ref (ad 7), .ref (ad 8), .int mn_variables, .int mn_order, .int mn_highest, .int mn_count])), ((ad 5), .inl (cs 0, 126, .inl mn_codes))]) [0, 1] (by decide) rfl
        exact W.iret (v := x2_1) hx hb hr (fun t ht hW => ⟨⟨x2_1, (), rfl, hv, by rw [ht]; exact hP9, hD9⟩, hS.F ht⟩) hS.2.2 d_mn_variablesIn_38
      · have hv := hv.2 c_5
        refine lv_aload_n hx hb d_mn_variablesIn_12 rfl (lv_at hl 0 rfl) ?_
        refine va_get (D := (dC, dI)) (ci := 2) (v := .ref (ad 5)) (C := R_mn) (T := F_mn) (N := 8) hx hb hts in_mn hown hK hP 0 rfl rfl 0 (by decide) (hts _ kw_72) (fun _ h9 => h9) rfl d_mn_variablesIn_13 ?_
        refine lv_iload_n hx hb d_mn_variablesIn_16 rfl (lv_at hl 1 rfl) ?_
        obtain ⟨hi_6, hv⟩ := hv
        refine va_iald hx hb hK hP 1 0 rfl rfl hi_6 d_mn_variablesIn_17 ?_
        refine lv_iload_n hx hb d_mn_variablesIn_18 rfl (lv_at hl 3 rfl) ?_
        have hPc := hP.sub (ws' := []) [] rfl
        have hDc := hD.sub (ws' := []) [] (by decide) rfl
        have hFc := va_free (wc := []) hD hS hA [] rfl
        refine va_calli (va_runS (As := [.int (mn_codes p0.toNatClampNeg), .int x3_2]) (rest := []) ⟨hx, hb, hml, hown, hts⟩ (c_mn_exponentIn l dC dI cs ad  H.size (mn_codes p0.toNatClampNeg) x3_2 _ hv) (va_cwS 2 hts (gd_S kw_242 kw_243 kw_34 kw_244) rfl rfl rfl (by decide +kernel) ⟨Nat.le_of_ble_eq_true rfl, Nat.le_of_ble_eq_true rfl⟩) ⟨fun a U g mk q => by obtain ⟨q0, q1, qP, qK, qD⟩ := q; exact ⟨q0, q1, qP, qK.call, qD⟩, fun U hU hW => ⟨rfl, by rw [hU], by rw [hU]; exact hPc, vwK.warm hW ⟨hK, hN⟩, hDc.weaken (fun _ _ _ _ => trivial)⟩⟩ rfl rfl hl.1 rfl (lv_room (Nat.le_of_ble_eq_true rfl)) d_mn_variablesIn_19 ⟨Nat.zero_le _, Nat.zero_le _⟩) hS (fun q _ h => hFc q h) hFc (fun r_7 _u t H1 locs1 ht hvm hw hB hz1 hk1 hS => ?_)
        obtain ⟨hP1, hD1⟩ := hB
        rw [ht] at hP1
        obtain ⟨hP, hD⟩ := va_join (wr := [((ad 4), .inr (2, [.ref (ad 5), .ref (ad 6), .ref (ad 7), .ref (ad 8), .int mn_variables, .int mn_order, .int mn_highest, .int mn_count])), ((ad 5), .inl (cs 0, 126, .inl mn_codes))]) (w1 := []) hP hD [] [0, 1] rfl rfl (by decide) (by decide) hk1 hFc hP1 hD1
        generalize H1 = H at hP hS ⊢
        generalize locs1 = locs at hS ⊢
        have hP : va_P (dC, dI) vwCl [((ad 4), .inr (2, [.ref (ad 5), .ref (ad 6), .ref (ad 7), .ref (ad 8), .int mn_variables, .int mn_order, .int mn_highest, .int mn_count])), ((ad 5), .inl (cs 0, 126, .inl mn_codes))] H := hP
        have hD : va_D A [((ad 4), .inr (2, [.ref (ad 5), .ref (ad 6), .ref (ad 7), .ref (ad 8), .int mn_variables, .int mn_order, .int mn_highest, .int mn_count])), ((ad 5), .inl (cs 0, 126, .inl mn_codes))] := hD
        have hv := hw
        try dsimp only at hv
        refine lv_if_eq (tgt := 31) hx hb d_mn_variablesIn_22 (by decide) (fun c_8 => ?_) (fun c_8 => ?_)
        · have hv := hv.1 c_8
          obtain ⟨x3_9, ex3_9⟩ : ∃ y : Int32, y = x3_2 + 1 := ⟨_, rfl⟩
          have hv := hv x3_9 ex3_9
          refine lv_iinc (v := x3_9) (lv' := [(3, .int x3_9), (0, .ref (ad 4)), (1, .int p0), (2, .int x2_1)]) hx hb d_mn_variablesIn_31 hl (k := 3) rfl (by rw [ex3_9]; rfl) (by decide) rfl (fun ls hl => ?_)
          refine lv_goto (tgt := 4) hx hb d_mn_variablesIn_34 (by decide) ?_
          exact ih4 x2_1 x3_9 (Nat.lt_of_lt_of_le hv.2 (Nat.le_of_lt_succ hlt4)) hv.1 _ _ _ (hP.sub [0, 1] rfl) (hD.sub [0, 1] (by decide) rfl) hS (lv_sub hl [1, 2, 3, 0] rfl)
        · have hv := hv.2 c_8
          refine lv_iload_n hx hb d_mn_variablesIn_25 rfl (lv_at hl 2 rfl) ?_
          refine lv_iconst (v := 1) hx hb d_mn_variablesIn_26 (by decide) ?_
          refine lv_iload_n hx hb d_mn_variablesIn_27 rfl (lv_at hl 3 rfl) ?_
          refine lv_ishl hx hb d_mn_variablesIn_28 ?_
          refine lv_ior hx hb d_mn_variablesIn_29 ?_
          refine lv_topi (fun x2_10 ex2_10 => ?_)
          have hv := hv x2_10 ex2_10
          refine lv_istore_n (lv' := [(2, .int x2_10), (0, .ref (ad 4)), (1, .int p0), (3, .int x3_2)]) hx hb d_mn_variablesIn_30 rfl hl (by decide) rfl (fun ls hl => ?_)
          obtain ⟨x3_11, ex3_11⟩ : ∃ y : Int32, y = x3_2 + 1 := ⟨_, rfl⟩
          have hv := hv x3_11 ex3_11
          refine lv_iinc (v := x3_11) (lv' := [(3, .int x3_11), (2, .int x2_10), (0, .ref (ad 4)), (1, .int p0)]) hx hb d_mn_variablesIn_31 hl (k := 3) rfl (by rw [ex3_11]; rfl) (by decide) rfl (fun ls hl => ?_)
          refine lv_goto (tgt := 4) hx hb d_mn_variablesIn_34 (by decide) ?_
          exact ih4 x2_10 x3_11 (Nat.lt_of_lt_of_le hv.2 (Nat.le_of_lt_succ hlt4)) hv.1 _ _ _ (hP.sub [0, 1] rfl) (hD.sub [0, 1] (by decide) rfl) hS (lv_sub hl [2, 3, 1, 0] rfl)
  exact loop4 _ 0 0 (Nat.lt_succ_self _) hi0 _ _ _ hP hD hS hl
