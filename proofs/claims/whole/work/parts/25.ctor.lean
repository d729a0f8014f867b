abbrev b_mo_init : ByteArray := prog_4_method_1_code
def y_mo_init : MethodName := ⟨"SpaceBasis$Modulus", "<init>", "()V"⟩
def w_mo_init : List Cond := Cond.code y_mo_init b_mo_init 1 none :: vwWS
theorem d_mo_init_0 : decode b_mo_init 0 = .ok (.aload_n 0, 1) := by decide +kernel
theorem d_mo_init_1 : decode b_mo_init 1 = .ok (.invokespecial 3, 3) := by decide +kernel
theorem d_mo_init_4 : decode b_mo_init 4 = .ok (.aload_n 0, 1) := by decide +kernel
theorem d_mo_init_5 : decode b_mo_init 5 = .ok (.bipush 7, 2) := by decide +kernel
theorem d_mo_init_7 : decode b_mo_init 7 = .ok (.putfield 9, 3) := by decide +kernel
theorem d_mo_init_10 : decode b_mo_init 10 = .ok (.return_, 1) := by decide +kernel
/-- new SpaceBasis$Modulus -/
abbrev at_mo_init (dC : Nat → ClassId) (dI : Nat → Nat → Nat) (cs : Nat → ClassId) (A : Nat → Prop) (h0 : Nat) (u : Unit) (t : State) : Prop := match u with
  | _ => va_P (dC, dI) vwCl [(h0, .inr (1, [.int 7]))] t.heap ∧ va_D A [(h0, .inr (1, [.int 7]))]
set_option maxHeartbeats 4000000 in
set_option maxRecDepth 100000 in
theorem c_mo_init (l : Launch) (dC : Nat → ClassId) (dI : Nat → Nat → Nat) (cs : Nat → ClassId) (h0 : Nat) (sz : Nat) : Met l y_mo_init w_mo_init ({ frames := 1, cells := 0, slots := 0, locals := 12 }) (va_Pc [.ref h0] (fun U => U.heap.size = sz ∧ va_P (dC, dI) vwCl [(h0, .inr (1, [.int 0]))] U.heap ∧ vwK dC dI cs U ∧ va_D (fun _ => True) [(h0, .inr (1, [.int 0]))])) (va_Qv (fun (_ : Unit) => True) (at_mo_init dC dI cs (va_A [(h0, .inr (1, [.int 0]))] sz) h0) (va_A [(h0, .inr (1, [.int 0]))] sz)) 0 0 (va_A [(h0, .inr (1, [.int 0]))] sz) := by
  refine Met.ofW (cc := b_mo_init) (maxL := 1) (ret := none) (by decide) rfl ?_
  intro p e s m args below meth c s₁ B hml hpc
  obtain ⟨rfl, hsz, hP, ⟨hK, hN⟩, hD0⟩ := hpc
  have hx := B.exec
  have hb := B.bytes
  have hr := B.returns
  have hts : ∀ w ∈ vwWS, w.before _ s = true := fun w h => atoms_spec (ws := w_mo_init) B.pre w (List.mem_cons_of_mem _ h)
  have hown : s.vm.findClass "SpaceBasis$Modulus" = some m.cls := findClass_of_methodNamed B.named
  have hlocks := B.notSynchronized
  have hin : meth.name = "<init>" := (name_of_methodNamed B.named B.method).1
  subst hsz
  have hD := hD0.self (sz := s.heap.size)
  generalize hAe : va_A [(h0, .inr (1, [.int 0]))] s.heap.size = A at hD ⊢
  have hA : ∀ q : Nat, s.heap.size ≤ q → A q := fun q h => by rw [← hAe]; exact Or.inr h
  have hS : va_S A s.heap s.heap [] := va_S.rf
  have hl := lv_entry ([.ref h0]) (n := 1) (Nat.le_of_ble_eq_true rfl)
  rw [lg_entry_eq]
  generalize (lg_sl ([.ref h0]) ++ List.replicate (1 - (lg_sl ([.ref h0])).length) Slot.unset).toArray = ls at hl ⊢
  have hl : lv_has ls 1 [(0, .ref h0)] := hl
  refine lv_aload_n hx hb d_mo_init_0 rfl (lv_at hl 0 rfl) ?_
  refine W.objInit hx hb hown (hts _ kw_62) (hts _ kw_56) (hts _ kw_57) rfl (by rw [hml]; exact hl.1) rfl d_mo_init_1 (Nat.le_of_ble_eq_true rfl) (Nat.le_of_ble_eq_true rfl) ?_
  refine W.eq (g2 := F0 m 4 ls []) rfl ?_
  refine lv_aload_n hx hb d_mo_init_4 rfl (lv_at hl 0 rfl) ?_
  refine lv_bipush (v := 7) hx hb d_mo_init_5 (by decide) ?_
  refine va_put (D := (dC, dI)) (ci := 1) (v := .int 7) (ty := .int) (C := R_mo) (T := F_mo) (N := 1) hx hb hts in_mo t_mo t_mo_ok n_mo hown hK hP hD hS 0 rfl rfl 0 (by decide) (hts _ kw_63) (fun _ h9 => h9) rfl (by decide +kernel) rfl rfl (Nat.le_of_ble_eq_true rfl) d_mo_init_7 (fun H locs hP hD hS => ?_)
  have hP : va_P (dC, dI) vwCl [(h0, .inr (1, [.int 7]))] H := hP
  have hD : va_D A [(h0, .inr (1, [.int 7]))] := hD
  have hP9 := hP.sub (ws' := [(h0, .inr (1, [.int 7]))]) [0] rfl
  have hD9 := hD.sub (ws' := [(h0, .inr (1, [.int 7]))]) [0] (by decide) rfl
  refine W.widen (k := 0) (n := 0) (Nat.le_of_ble_eq_true rfl) (Nat.le_of_ble_eq_true rfl) ?_
  exact W.vret hx hb hr (fun t ht hW => ⟨⟨(), rfl, trivial, by rw [ht]; exact hP9, hD9⟩, hS.F ht⟩) hS.2.2 d_mo_init_10
abbrev b_mn_init : ByteArray := prog_5_method_1_code
def y_mn_init : MethodName := ⟨"SpaceBasis$Monomials", "<init>", "()V"⟩
def w_mn_init : List Cond := Cond.code y_mn_init b_mn_init 1 none :: vwWS
theorem d_mn_init_0 : decode b_mn_init 0 = .ok (.aload_n 0, 1) := by decide +kernel
theorem d_mn_init_1 : decode b_mn_init 1 = .ok (.invokespecial 3, 3) := by decide +kernel
theorem d_mn_init_4 : decode b_mn_init 4 = .ok (.aload_n 0, 1) := by decide +kernel
theorem d_mn_init_5 : decode b_mn_init 5 = .ok (.bipush 126, 2) := by decide +kernel
theorem d_mn_init_7 : decode b_mn_init 7 = .ok (.newarray .int, 2) := by decide +kernel
theorem d_mn_init_9 : decode b_mn_init 9 = .ok (.putfield 9, 3) := by decide +kernel
theorem d_mn_init_12 : decode b_mn_init 12 = .ok (.aload_n 0, 1) := by decide +kernel
theorem d_mn_init_13 : decode b_mn_init 13 = .ok (.bipush 126, 2) := by decide +kernel
theorem d_mn_init_15 : decode b_mn_init 15 = .ok (.newarray .int, 2) := by decide +kernel
theorem d_mn_init_17 : decode b_mn_init 17 = .ok (.putfield 15, 3) := by decide +kernel
theorem d_mn_init_20 : decode b_mn_init 20 = .ok (.aload_n 0, 1) := by decide +kernel
theorem d_mn_init_21 : decode b_mn_init 21 = .ok (.bipush 32, 2) := by decide +kernel
theorem d_mn_init_23 : decode b_mn_init 23 = .ok (.newarray .int, 2) := by decide +kernel
theorem d_mn_init_25 : decode b_mn_init 25 = .ok (.putfield 18, 3) := by decide +kernel
theorem d_mn_init_28 : decode b_mn_init 28 = .ok (.aload_n 0, 1) := by decide +kernel
theorem d_mn_init_29 : decode b_mn_init 29 = .ok (.sipush 504, 3) := by decide +kernel
theorem d_mn_init_32 : decode b_mn_init 32 = .ok (.newarray .int, 2) := by decide +kernel
theorem d_mn_init_34 : decode b_mn_init 34 = .ok (.putfield 21, 3) := by decide +kernel
theorem d_mn_init_37 : decode b_mn_init 37 = .ok (.return_, 1) := by decide +kernel
/-- new SpaceBasis$Monomials -/
abbrev at_mn_init (dC : Nat → ClassId) (dI : Nat → Nat → Nat) (cs : Nat → ClassId) (A : Nat → Prop) (h0 : Nat) (u : Nat × Nat × Nat × Nat) (t : State) : Prop := match u with
  | (q7, q15, q23, q32) => va_P (dC, dI) vwCl [(h0, .inr (2, [.ref q7, .ref q15, .ref q23, .ref q32, .int 0, .int 0, .int 0, .int 0])), (q7, .inl (cs 0, 126, .inl (fun _ => 0))), (q15, .inl (cs 0, 126, .inl (fun _ => 0))), (q23, .inl (cs 0, 32, .inl (fun _ => 0))), (q32, .inl (cs 0, 504, .inl (fun _ => 0)))] t.heap ∧ va_D A [(h0, .inr (2, [.ref q7, .ref q15, .ref q23, .ref q32, .int 0, .int 0, .int 0, .int 0])), (q7, .inl (cs 0, 126, .inl (fun _ => 0))), (q15, .inl (cs 0, 126, .inl (fun _ => 0))), (q23, .inl (cs 0, 32, .inl (fun _ => 0))), (q32, .inl (cs 0, 504, .inl (fun _ => 0)))]
set_option maxHeartbeats 4000000 in
set_option maxRecDepth 100000 in
theorem c_mn_init (l : Launch) (dC : Nat → ClassId) (dI : Nat → Nat → Nat) (cs : Nat → ClassId) (h0 : Nat) (sz : Nat) : Met l y_mn_init w_mn_init ({ frames := 1, cells := 4, slots := 788, locals := 12 }) (va_Pc [.ref h0] (fun U => U.heap.size = sz ∧ va_P (dC, dI) vwCl [(h0, .inr (2, [.null, .null, .null, .null, .int 0, .int 0, .int 0, .int 0]))] U.heap ∧ vwK dC dI cs U ∧ va_D (fun _ => True) [(h0, .inr (2, [.null, .null, .null, .null, .int 0, .int 0, .int 0, .int 0]))])) (va_Qv (fun (_ : Nat × Nat × Nat × Nat) => True) (at_mn_init dC dI cs (va_A [(h0, .inr (2, [.null, .null, .null, .null, .int 0, .int 0, .int 0, .int 0]))] sz) h0) (va_A [(h0, .inr (2, [.null, .null, .null, .null, .int 0, .int 0, .int 0, .int 0]))] sz)) 4 788 (va_A [(h0, .inr (2, [.null, .null, .null, .null, .int 0, .int 0, .int 0, .int 0]))] sz) := by
  refine Met.ofW (cc := b_mn_init) (maxL := 1) (ret := none) (by decide) rfl ?_
  intro p e s m args below meth c s₁ B hml hpc
  obtain ⟨rfl, hsz, hP, ⟨hK, hN⟩, hD0⟩ := hpc
  have hx := B.exec
  have hb := B.bytes
  have hr := B.returns
  have hts : ∀ w ∈ vwWS, w.before _ s = true := fun w h => atoms_spec (ws := w_mn_init) B.pre w (List.mem_cons_of_mem _ h)
  have hown : s.vm.findClass "SpaceBasis$Monomials" = some m.cls := findClass_of_methodNamed B.named
  have hlocks := B.notSynchronized
  have hin : meth.name = "<init>" := (name_of_methodNamed B.named B.method).1
  subst hsz
  have hD := hD0.self (sz := s.heap.size)
  generalize hAe : va_A [(h0, .inr (2, [.null, .null, .null, .null, .int 0, .int 0, .int 0, .int 0]))] s.heap.size = A at hD ⊢
  have hA : ∀ q : Nat, s.heap.size ≤ q → A q := fun q h => by rw [← hAe]; exact Or.inr h
  have hS : va_S A s.heap s.heap [] := va_S.rf
  have hl := lv_entry ([.ref h0]) (n := 1) (Nat.le_of_ble_eq_true rfl)
  rw [lg_entry_eq]
  generalize (lg_sl ([.ref h0]) ++ List.replicate (1 - (lg_sl ([.ref h0])).length) Slot.unset).toArray = ls at hl ⊢
  have hl : lv_has ls 1 [(0, .ref h0)] := hl
  refine lv_aload_n hx hb d_mn_init_0 rfl (lv_at hl 0 rfl) ?_
  refine W.objInit hx hb hown (hts _ kw_71) (hts _ kw_56) (hts _ kw_57) rfl (by rw [hml]; exact hl.1) rfl d_mn_init_1 (Nat.le_of_ble_eq_true rfl) (Nat.le_of_ble_eq_true rfl) ?_
  refine W.eq (g2 := F0 m 4 ls []) rfl ?_
  refine lv_aload_n hx hb d_mn_init_4 rfl (lv_at hl 0 rfl) ?_
  refine lv_bipush (v := 126) hx hb d_mn_init_5 (by decide) ?_
  refine va_newa (atype := .int) (N' := 126) hx hb (hts _ kw_97) rfl hK hP hD hS hA (a0 := (126, .inl (fun _ => 0))) (fun _ => rfl) (by decide) rfl (by decide) (Nat.le_of_ble_eq_true rfl) (Nat.le_of_ble_eq_true rfl) d_mn_init_7 (fun q7 cA H hK2 hP hD hS => ?_)
  have e1 : s.vm.findClass ("[" ++ (FieldType.int).toString) = some cA := (hK2.2 4 _ rfl).2
  have e2 : s.vm.findClass ("[" ++ (FieldType.int).toString) = some (cs 0) := (hK2.2 0 _ rfl).2
  obtain rfl : cA = cs 0 := Option.some.inj (e1.symm.trans e2)
  have hP : va_P (dC, dI) vwCl [(h0, .inr (2, [.null, .null, .null, .null, .int 0, .int 0, .int 0, .int 0])), (q7, .inl (cs 0, 126, .inl (fun _ => 0)))] H := hP
  have hD : va_D A [(h0, .inr (2, [.null, .null, .null, .null, .int 0, .int 0, .int 0, .int 0])), (q7, .inl (cs 0, 126, .inl (fun _ => 0)))] := hD
  refine W.widen (k := 1) (n := 126) (by omega) (by omega) ?_
  refine va_putF (D := (dC, dI)) (ci := 2) (v := .ref q7) (ty := (.array .int)) (C := R_mn) (T := F_mn) (N := 8) hx hb hts in_mn t_mn t_mn_ok n_mn hown hK hP hD hS 0 rfl rfl 0 (by decide) (hts _ kw_72) (fun _ h9 => h9) rfl hin rfl (by decide +kernel) rfl rfl (Nat.le_of_ble_eq_true rfl) d_mn_init_9 (fun H locs hP hD hS => ?_)
  have hP : va_P (dC, dI) vwCl [(h0, .inr (2, [.ref q7, .null, .null, .null, .int 0, .int 0, .int 0, .int 0])), (q7, .inl (cs 0, 126, .inl (fun _ => 0)))] H := hP
  have hD : va_D A [(h0, .inr (2, [.ref q7, .null, .null, .null, .int 0, .int 0, .int 0, .int 0])), (q7, .inl (cs 0, 126, .inl (fun _ => 0)))] := hD
  refine lv_aload_n hx hb d_mn_init_12 rfl (lv_at hl 0 rfl) ?_
  refine lv_bipush (v := 126) hx hb d_mn_init_13 (by decide) ?_
  refine va_newa (atype := .int) (N' := 126) hx hb (hts _ kw_97) rfl hK hP hD hS hA (a0 := (126, .inl (fun _ => 0))) (fun _ => rfl) (by decide) rfl (by decide) (Nat.le_of_ble_eq_true rfl) (Nat.le_of_ble_eq_true rfl) d_mn_init_15 (fun q15 cA H hK2 hP hD hS => ?_)
  have e1 : s.vm.findClass ("[" ++ (FieldType.int).toString) = some cA := (hK2.2 4 _ rfl).2
  have e2 : s.vm.findClass ("[" ++ (FieldType.int).toString) = some (cs 0) := (hK2.2 0 _ rfl).2
  obtain rfl : cA = cs 0 := Option.some.inj (e1.symm.trans e2)
  have hP : va_P (dC, dI) vwCl [(h0, .inr (2, [.ref q7, .null, .null, .null, .int 0, .int 0, .int 0, .int 0])), (q7, .inl (cs 0, 126, .inl (fun _ => 0))), (q15, .inl (cs 0, 126, .inl (fun _ => 0)))] H := hP
  have hD : va_D A [(h0, .inr (2, [.ref q7, .null, .null, .null, .int 0, .int 0, .int 0, .int 0])), (q7, .inl (cs 0, 126, .inl (fun _ => 0))), (q15, .inl (cs 0, 126, .inl (fun _ => 0)))] := hD
  refine W.widen (k := 2) (n := 252) (by omega) (by omega) ?_
  refine va_putF (D := (dC, dI)) (ci := 2) (v := .ref q15) (ty := (.array .int)) (C := R_mn) (T := F_mn) (N := 8) hx hb hts in_mn t_mn t_mn_ok n_mn hown hK hP hD hS 0 rfl rfl 1 (by decide) (hts _ kw_73) (fun _ h9 => h9) rfl hin rfl (by decide +kernel) rfl rfl (Nat.le_of_ble_eq_true rfl) d_mn_init_17 (fun H locs hP hD hS => ?_)
  have hP : va_P (dC, dI) vwCl [(h0, .inr (2, [.ref q7, .ref q15, .null, .null, .int 0, .int 0, .int 0, .int 0])), (q7, .inl (cs 0, 126, .inl (fun _ => 0))), (q15, .inl (cs 0, 126, .inl (fun _ => 0)))] H := hP
  have hD : va_D A [(h0, .inr (2, [.ref q7, .ref q15, .null, .null, .int 0, .int 0, .int 0, .int 0])), (q7, .inl (cs 0, 126, .inl (fun _ => 0))), (q15, .inl (cs 0, 126, .inl (fun _ => 0)))] := hD
  refine lv_aload_n hx hb d_mn_init_20 rfl (lv_at hl 0 rfl) ?_
  refine lv_bipush (v := 32) hx hb d_mn_init_21 (by decide) ?_
  refine va_newa (atype := .int) (N' := 32) hx hb (hts _ kw_97) rfl hK hP hD hS hA (a0 := (32, .inl (fun _ => 0))) (fun _ => rfl) (by decide) rfl (by decide) (Nat.le_of_ble_eq_true rfl) (Nat.le_of_ble_eq_true rfl) d_mn_init_23 (fun q23 cA H hK2 hP hD hS => ?_)
  have e1 : s.vm.findClass ("[" ++ (FieldType.int).toString) = some cA := (hK2.2 4 _ rfl).2
  have e2 : s.vm.findClass ("[" ++ (FieldType.int).toString) = some (cs 0) := (hK2.2 0 _ rfl).2
  obtain rfl : cA = cs 0 := Option.some.inj (e1.symm.trans e2)
  have hP : va_P (dC, dI) vwCl [(h0, .inr (2, [.ref q7, .ref q15, .null, .null, .int 0, .int 0, .int 0, .int 0])), (q7, .inl (cs 0, 126, .inl (fun _ => 0))), (q15, .inl (cs 0, 126, .inl (fun _ => 0))), (q23, .inl (cs 0, 32, .inl (fun _ => 0)))] H := hP
  have hD : va_D A [(h0, .inr (2, [.ref q7, .ref q15, .null, .null, .int 0, .int 0, .int 0, .int 0])), (q7, .inl (cs 0, 126, .inl (fun _ => 0))), (q15, .inl (cs 0, 126, .inl (fun _ => 0))), (q23, .inl (cs 0, 32, .inl (fun _ => 0)))] := hD
  refine W.widen (k := 3) (n := 284) (by omega) (by omega) ?_
  refine va_putF (D := (dC, dI)) (ci := 2) (v := .ref q23) (ty := (.array .int)) (C := R_mn) (T := F_mn) (N := 8) hx hb hts in_mn t_mn t_mn_ok n_mn hown hK hP hD hS 0 rfl rfl 2 (by decide) (hts _ kw_74) (fun _ h9 => h9) rfl hin rfl (by decide +kernel) rfl rfl (Nat.le_of_ble_eq_true rfl) d_mn_init_25 (fun H locs hP hD hS => ?_)
  have hP : va_P (dC, dI) vwCl [(h0, .inr (2, [.ref q7, .ref q15, .ref q23, .null, .int 0, .int 0, .int 0, .int 0])), (q7, .inl (cs 0, 126, .inl (fun _ => 0))), (q15, .inl (cs 0, 126, .inl (fun _ => 0))), (q23, .inl (cs 0, 32, .inl (fun _ => 0)))] H := hP
  have hD : va_D A [(h0, .inr (2, [.ref q7, .ref q15, .ref q23, .null, .int 0, .int 0, .int 0, .int 0])), (q7, .inl (cs 0, 126, .inl (fun _ => 0))), (q15, .inl (cs 0, 126, .inl (fun _ => 0))), (q23, .inl (cs 0, 32, .inl (fun _ => 0)))] := hD
  refine lv_aload_n hx hb d_mn_init_28 rfl (lv_at hl 0 rfl) ?_
  refine lv_sipush (v := 504) hx hb d_mn_init_29 (by decide) ?_
  refine va_newa (atype := .int) (N' := 504) hx hb (hts _ kw_97) rfl hK hP hD hS hA (a0 := (504, .inl (fun _ => 0))) (fun _ => rfl) (by decide) rfl (by decide) (Nat.le_of_ble_eq_true rfl) (Nat.le_of_ble_eq_true rfl) d_mn_init_32 (fun q32 cA H hK2 hP hD hS => ?_)
  have e1 : s.vm.findClass ("[" ++ (FieldType.int).toString) = some cA := (hK2.2 4 _ rfl).2
  have e2 : s.vm.findClass ("[" ++ (FieldType.int).toString) = some (cs 0) := (hK2.2 0 _ rfl).2
  obtain rfl : cA = cs 0 := Option.some.inj (e1.symm.trans e2)
  have hP : va_P (dC, dI) vwCl [(h0, .inr (2, [.ref q7, .ref q15, .ref q23, .null, .int 0, .int 0, .int 0, .int 0])), (q7, .inl (cs 0, 126, .inl (fun _ => 0))), (q15, .inl (cs 0, 126, .inl (fun _ => 0))), (q23, .inl (cs 0, 32, .inl (fun _ => 0))), (q32, .inl (cs 0, 504, .inl (fun _ => 0)))] H := hP
  have hD : va_D A [(h0, .inr (2, [.ref q7, .ref q15, .ref q23, .null, .int 0, .int 0, .int 0, .int 0])), (q7, .inl (cs 0, 126, .inl (fun _ => 0))), (q15, .inl (cs 0, 126, .inl (fun _ => 0))), (q23, .inl (cs 0, 32, .inl (fun _ => 0))), (q32, .inl (cs 0, 504, .inl (fun _ => 0)))] := hD
  refine W.widen (k := 4) (n := 788) (by omega) (by omega) ?_
  refine va_putF (D := (dC, dI)) (ci := 2) (v := .ref q32) (ty := (.array .int)) (C := R_mn) (T := F_mn) (N := 8) hx hb hts in_mn t_mn t_mn_ok n_mn hown hK hP hD hS 0 rfl rfl 3 (by decide) (hts _ kw_75) (fun _ h9 => h9) rfl hin rfl (by decide +kernel) rfl rfl (Nat.le_of_ble_eq_true rfl) d_mn_init_34 (fun H locs hP hD hS => ?_)
  have hP : va_P (dC, dI) vwCl [(h0, .inr (2, [.ref q7, .ref q15, .ref q23, .ref q32, .int 0, .int 0, .int 0, .int 0])), (q7, .inl (cs 0, 126, .inl (fun _ => 0))), (q15, .inl (cs 0, 126, .inl (fun _ => 0))), (q23, .inl (cs 0, 32, .inl (fun _ => 0))), (q32, .inl (cs 0, 504, .inl (fun _ => 0)))] H := hP
  have hD : va_D A [(h0, .inr (2, [.ref q7, .ref q15, .ref q23, .ref q32, .int 0, .int 0, .int 0, .int 0])), (q7, .inl (cs 0, 126, .inl (fun _ => 0))), (q15, .inl (cs 0, 126, .inl (fun _ => 0))), (q23, .inl (cs 0, 32, .inl (fun _ => 0))), (q32, .inl (cs 0, 504, .inl (fun _ => 0)))] := hD
  have hP9 := hP.sub (ws' := [(h0, .inr (2, [.ref q7, .ref q15, .ref q23, .ref q32, .int 0, .int 0, .int 0, .int 0])), (q7, .inl (cs 0, 126, .inl (fun _ => 0))), (q15, .inl (cs 0, 126, .inl (fun _ => 0))), (q23, .inl (cs 0, 32, .inl (fun _ => 0))), (q32, .inl (cs 0, 504, .inl (fun _ => 0)))]) [0, 1, 2, 3, 4] rfl
  have hD9 := hD.sub (ws' := [(h0, .inr (2, [.ref q7, .ref q15, .ref q23, .ref q32, .int 0, .int 0, .int 0, .int 0])), (q7, .inl (cs 0, 126, .inl (fun _ => 0))), (q15, .inl (cs 0, 126, .inl (fun _ => 0))), (q23, .inl (cs 0, 32, .inl (fun _ => 0))), (q32, .inl (cs 0, 504, .inl (fun _ => 0)))]) [0, 1, 2, 3, 4] (by decide) rfl
  refine W.widen (k := 4) (n := 788) (Nat.le_of_ble_eq_true rfl) (Nat.le_of_ble_eq_true rfl) ?_
  exact W.vret hx hb hr (fun t ht hW => ⟨⟨(q7, q15, q23, q32), rfl, trivial, by rw [ht]; exact hP9, hD9⟩, hS.F ht⟩) hS.2.2 d_mn_init_37
abbrev b_og_init : ByteArray := prog_6_method_1_code
def y_og_init : MethodName := ⟨"SpaceBasis$Origins", "<init>", "()V"⟩
def w_og_init : List Cond := Cond.code y_og_init b_og_init 1 none :: vwWS
theorem d_og_init_0 : decode b_og_init 0 = .ok (.aload_n 0, 1) := by decide +kernel
theorem d_og_init_1 : decode b_og_init 1 = .ok (.invokespecial 3, 3) := by decide +kernel
theorem d_og_init_4 : decode b_og_init 4 = .ok (.aload_n 0, 1) := by decide +kernel
theorem d_og_init_5 : decode b_og_init 5 = .ok (.bipush 126, 2) := by decide +kernel
theorem d_og_init_7 : decode b_og_init 7 = .ok (.newarray .int, 2) := by decide +kernel
theorem d_og_init_9 : decode b_og_init 9 = .ok (.putfield 9, 3) := by decide +kernel
theorem d_og_init_12 : decode b_og_init 12 = .ok (.aload_n 0, 1) := by decide +kernel
theorem d_og_init_13 : decode b_og_init 13 = .ok (.bipush 126, 2) := by decide +kernel
theorem d_og_init_15 : decode b_og_init 15 = .ok (.newarray .int, 2) := by decide +kernel
theorem d_og_init_17 : decode b_og_init 17 = .ok (.putfield 15, 3) := by decide +kernel
theorem d_og_init_20 : decode b_og_init 20 = .ok (.aload_n 0, 1) := by decide +kernel
theorem d_og_init_21 : decode b_og_init 21 = .ok (.bipush 126, 2) := by decide +kernel
theorem d_og_init_23 : decode b_og_init 23 = .ok (.newarray .int, 2) := by decide +kernel
theorem d_og_init_25 : decode b_og_init 25 = .ok (.putfield 18, 3) := by decide +kernel
theorem d_og_init_28 : decode b_og_init 28 = .ok (.aload_n 0, 1) := by decide +kernel
theorem d_og_init_29 : decode b_og_init 29 = .ok (.sipush 8001, 3) := by decide +kernel
theorem d_og_init_32 : decode b_og_init 32 = .ok (.newarray .int, 2) := by decide +kernel
theorem d_og_init_34 : decode b_og_init 34 = .ok (.putfield 21, 3) := by decide +kernel
theorem d_og_init_37 : decode b_og_init 37 = .ok (.return_, 1) := by decide +kernel
/-- new SpaceBasis$Origins -/
abbrev at_og_init (dC : Nat → ClassId) (dI : Nat → Nat → Nat) (cs : Nat → ClassId) (A : Nat → Prop) (h0 : Nat) (u : Nat × Nat × Nat × Nat) (t : State) : Prop := match u with
  | (q7, q15, q23, q32) => va_P (dC, dI) vwCl [(h0, .inr (5, [.ref q7, .ref q15, .ref q23, .ref q32])), (q7, .inl (cs 0, 126, .inl (fun _ => 0))), (q15, .inl (cs 0, 126, .inl (fun _ => 0))), (q23, .inl (cs 0, 126, .inl (fun _ => 0))), (q32, .inl (cs 0, 8001, .inl (fun _ => 0)))] t.heap ∧ va_D A [(h0, .inr (5, [.ref q7, .ref q15, .ref q23, .ref q32])), (q7, .inl (cs 0, 126, .inl (fun _ => 0))), (q15, .inl (cs 0, 126, .inl (fun _ => 0))), (q23, .inl (cs 0, 126, .inl (fun _ => 0))), (q32, .inl (cs 0, 8001, .inl (fun _ => 0)))]
set_option maxHeartbeats 4000000 in
set_option maxRecDepth 100000 in
theorem c_og_init (l : Launch) (dC : Nat → ClassId) (dI : Nat → Nat → Nat) (cs : Nat → ClassId) (h0 : Nat) (sz : Nat) : Met l y_og_init w_og_init ({ frames := 1, cells := 4, slots := 8379, locals := 12 }) (va_Pc [.ref h0] (fun U => U.heap.size = sz ∧ va_P (dC, dI) vwCl [(h0, .inr (5, [.null, .null, .null, .null]))] U.heap ∧ vwK dC dI cs U ∧ va_D (fun _ => True) [(h0, .inr (5, [.null, .null, .null, .null]))])) (va_Qv (fun (_ : Nat × Nat × Nat × Nat) => True) (at_og_init dC dI cs (va_A [(h0, .inr (5, [.null, .null, .null, .null]))] sz) h0) (va_A [(h0, .inr (5, [.null, .null, .null, .null]))] sz)) 4 8379 (va_A [(h0, .inr (5, [.null, .null, .null, .null]))] sz) := by
  refine Met.ofW (cc := b_og_init) (maxL := 1) (ret := none) (by decide) rfl ?_
  intro p e s m args below meth c s₁ B hml hpc
  obtain ⟨rfl, hsz, hP, ⟨hK, hN⟩, hD0⟩ := hpc
  have hx := B.exec
  have hb := B.bytes
  have hr := B.returns
  have hts : ∀ w ∈ vwWS, w.before _ s = true := fun w h => atoms_spec (ws := w_og_init) B.pre w (List.mem_cons_of_mem _ h)
  have hown : s.vm.findClass "SpaceBasis$Origins" = some m.cls := findClass_of_methodNamed B.named
  have hlocks := B.notSynchronized
  have hin : meth.name = "<init>" := (name_of_methodNamed B.named B.method).1
  subst hsz
  have hD := hD0.self (sz := s.heap.size)
  generalize hAe : va_A [(h0, .inr (5, [.null, .null, .null, .null]))] s.heap.size = A at hD ⊢
  have hA : ∀ q : Nat, s.heap.size ≤ q → A q := fun q h => by rw [← hAe]; exact Or.inr h
  have hS : va_S A s.heap s.heap [] := va_S.rf
  have hl := lv_entry ([.ref h0]) (n := 1) (Nat.le_of_ble_eq_true rfl)
  rw [lg_entry_eq]
  generalize (lg_sl ([.ref h0]) ++ List.replicate (1 - (lg_sl ([.ref h0])).length) Slot.unset).toArray = ls at hl ⊢
  have hl : lv_has ls 1 [(0, .ref h0)] := hl
  refine lv_aload_n hx hb d_og_init_0 rfl (lv_at hl 0 rfl) ?_
  refine W.objInit hx hb hown (hts _ kw_124) (hts _ kw_56) (hts _ kw_57) rfl (by rw [hml]; exact hl.1) rfl d_og_init_1 (Nat.le_of_ble_eq_true rfl) (Nat.le_of_ble_eq_true rfl) ?_
  refine W.eq (g2 := F0 m 4 ls []) rfl ?_
  refine lv_aload_n hx hb d_og_init_4 rfl (lv_at hl 0 rfl) ?_
  refine lv_bipush (v := 126) hx hb d_og_init_5 (by decide) ?_
  refine va_newa (atype := .int) (N' := 126) hx hb (hts _ kw_97) rfl hK hP hD hS hA (a0 := (126, .inl (fun _ => 0))) (fun _ => rfl) (by decide) rfl (by decide) (Nat.le_of_ble_eq_true rfl) (Nat.le_of_ble_eq_true rfl) d_og_init_7 (fun q7 cA H hK2 hP hD hS => ?_)
  have e1 : s.vm.findClass ("[" ++ (FieldType.int).toString) = some cA := (hK2.2 4 _ rfl).2
  have e2 : s.vm.findClass ("[" ++ (FieldType.int).toString) = some (cs 0) := (hK2.2 0 _ rfl).2
  obtain rfl : cA = cs 0 := Option.some.inj (e1.symm.trans e2)
  have hP : va_P (dC, dI) vwCl [(h0, .inr (5, [.null, .null, .null, .null])), (q7, .inl (cs 0, 126, .inl (fun _ => 0)))] H := hP
  have hD : va_D A [(h0, .inr (5, [.null, .null, .null, .null])), (q7, .inl (cs 0, 126, .inl (fun _ => 0)))] := hD
  refine W.widen (k := 1) (n := 126) (by omega) (by omega) ?_
  refine va_putF (D := (dC, dI)) (ci := 5) (v := .ref q7) (ty := (.array .int)) (C := R_og) (T := F_og) (N := 4) hx hb hts in_og t_og t_og_ok n_og hown hK hP hD hS 0 rfl rfl 0 (by decide) (hts _ kw_125) (fun _ h9 => h9) rfl hin rfl (by decide +kernel) rfl rfl (Nat.le_of_ble_eq_true rfl) d_og_init_9 (fun H locs hP hD hS => ?_)
  have hP : va_P (dC, dI) vwCl [(h0, .inr (5, [.ref q7, .null, .null, .null])), (q7, .inl (cs 0, 126, .inl (fun _ => 0)))] H := hP
  have hD : va_D A [(h0, .inr (5, [.ref q7, .null, .null, .null])), (q7, .inl (cs 0, 126, .inl (fun _ => 0)))] := hD
  refine lv_aload_n hx hb d_og_init_12 rfl (lv_at hl 0 rfl) ?_
  refine lv_bipush (v := 126) hx hb d_og_init_13 (by decide) ?_
  refine va_newa (atype := .int) (N' := 126) hx hb (hts _ kw_97) rfl hK hP hD hS hA (a0 := (126, .inl (fun _ => 0))) (fun _ => rfl) (by decide) rfl (by decide) (Nat.le_of_ble_eq_true rfl) (Nat.le_of_ble_eq_true rfl) d_og_init_15 (fun q15 cA H hK2 hP hD hS => ?_)
  have e1 : s.vm.findClass ("[" ++ (FieldType.int).toString) = some cA := (hK2.2 4 _ rfl).2
  have e2 : s.vm.findClass ("[" ++ (FieldType.int).toString) = some (cs 0) := (hK2.2 0 _ rfl).2
  obtain rfl : cA = cs 0 := Option.some.inj (e1.symm.trans e2)
  have hP : va_P (dC, dI) vwCl [(h0, .inr (5, [.ref q7, .null, .null, .null])), (q7, .inl (cs 0, 126, .inl (fun _ => 0))), (q15, .inl (cs 0, 126, .inl (fun _ => 0)))] H := hP
  have hD : va_D A [(h0, .inr (5, [.ref q7, .null, .null, .null])), (q7, .inl (cs 0, 126, .inl (fun _ => 0))), (q15, .inl (cs 0, 126, .inl (fun _ => 0)))] := hD
  refine W.widen (k := 2) (n := 252) (by omega) (by omega) ?_
  refine va_putF (D := (dC, dI)) (ci := 5) (v := .ref q15) (ty := (.array .int)) (C := R_og) (T := F_og) (N := 4) hx hb hts in_og t_og t_og_ok n_og hown hK hP hD hS 0 rfl rfl 1 (by decide) (hts _ kw_126) (fun _ h9 => h9) rfl hin rfl (by decide +kernel) rfl rfl (Nat.le_of_ble_eq_true rfl) d_og_init_17 (fun H locs hP hD hS => ?_)
  have hP : va_P (dC, dI) vwCl [(h0, .inr (5, [.ref q7, .ref q15, .null, .null])), (q7, .inl (cs 0, 126, .inl (fun _ => 0))), (q15, .inl (cs 0, 126, .inl (fun _ => 0)))] H := hP
  have hD : va_D A [(h0, .inr (5, [.ref q7, .ref q15, .null, .null])), (q7, .inl (cs 0, 126, .inl (fun _ => 0))), (q15, .inl (cs 0, 126, .inl (fun _ => 0)))] := hD
  refine lv_aload_n hx hb d_og_init_20 rfl (lv_at hl 0 rfl) ?_
  refine lv_bipush (v := 126) hx hb d_og_init_21 (by decide) ?_
  refine va_newa (atype := .int) (N' := 126) hx hb (hts _ kw_97) rfl hK hP hD hS hA (a0 := (126, .inl (fun _ => 0))) (fun _ => rfl) (by decide) rfl (by decide) (Nat.le_of_ble_eq_true rfl) (Nat.le_of_ble_eq_true rfl) d_og_init_23 (fun q23 cA H hK2 hP hD hS => ?_)
  have e1 : s.vm.findClass ("[" ++ (FieldType.int).toString) = some cA := (hK2.2 4 _ rfl).2
  have e2 : s.vm.findClass ("[" ++ (FieldType.int).toString) = some (cs 0) := (hK2.2 0 _ rfl).2
  obtain rfl : cA = cs 0 := Option.some.inj (e1.symm.trans e2)
  have hP : va_P (dC, dI) vwCl [(h0, .inr (5, [.ref q7, .ref q15, .null, .null])), (q7, .inl (cs 0, 126, .inl (fun _ => 0))), (q15, .inl (cs 0, 126, .inl (fun _ => 0))), (q23, .inl (cs 0, 126, .inl (fun _ => 0)))] H := hP
  have hD : va_D A [(h0, .inr (5, [.ref q7, .ref q15, .null, .null])), (q7, .inl (cs 0, 126, .inl (fun _ => 0))), (q15, .inl (cs 0, 126, .inl (fun _ => 0))), (q23, .inl (cs 0, 126, .inl (fun _ => 0)))] := hD
  refine W.widen (k := 3) (n := 378) (by omega) (by omega) ?_
  refine va_putF (D := (dC, dI)) (ci := 5) (v := .ref q23) (ty := (.array .int)) (C := R_og) (T := F_og) (N := 4) hx hb hts in_og t_og t_og_ok n_og hown hK hP hD hS 0 rfl rfl 2 (by decide) (hts _ kw_127) (fun _ h9 => h9) rfl hin rfl (by decide +kernel) rfl rfl (Nat.le_of_ble_eq_true rfl) d_og_init_25 (fun H locs hP hD hS => ?_)
  have hP : va_P (dC, dI) vwCl [(h0, .inr (5, [.ref q7, .ref q15, .ref q23, .null])), (q7, .inl (cs 0, 126, .inl (fun _ => 0))), (q15, .inl (cs 0, 126, .inl (fun _ => 0))), (q23, .inl (cs 0, 126, .inl (fun _ => 0)))] H := hP
  have hD : va_D A [(h0, .inr (5, [.ref q7, .ref q15, .ref q23, .null])), (q7, .inl (cs 0, 126, .inl (fun _ => 0))), (q15, .inl (cs 0, 126, .inl (fun _ => 0))), (q23, .inl (cs 0, 126, .inl (fun _ => 0)))] := hD
  refine lv_aload_n hx hb d_og_init_28 rfl (lv_at hl 0 rfl) ?_
  refine lv_sipush (v := 8001) hx hb d_og_init_29 (by decide) ?_
  refine va_newa (atype := .int) (N' := 8001) hx hb (hts _ kw_97) rfl hK hP hD hS hA (a0 := (8001, .inl (fun _ => 0))) (fun _ => rfl) (by decide) rfl (by decide) (Nat.le_of_ble_eq_true rfl) (Nat.le_of_ble_eq_true rfl) d_og_init_32 (fun q32 cA H hK2 hP hD hS => ?_)
  have e1 : s.vm.findClass ("[" ++ (FieldType.int).toString) = some cA := (hK2.2 4 _ rfl).2
  have e2 : s.vm.findClass ("[" ++ (FieldType.int).toString) = some (cs 0) := (hK2.2 0 _ rfl).2
  obtain rfl : cA = cs 0 := Option.some.inj (e1.symm.trans e2)
  have hP : va_P (dC, dI) vwCl [(h0, .inr (5, [.ref q7, .ref q15, .ref q23, .null])), (q7, .inl (cs 0, 126, .inl (fun _ => 0))), (q15, .inl (cs 0, 126, .inl (fun _ => 0))), (q23, .inl (cs 0, 126, .inl (fun _ => 0))), (q32, .inl (cs 0, 8001, .inl (fun _ => 0)))] H := hP
  have hD : va_D A [(h0, .inr (5, [.ref q7, .ref q15, .ref q23, .null])), (q7, .inl (cs 0, 126, .inl (fun _ => 0))), (q15, .inl (cs 0, 126, .inl (fun _ => 0))), (q23, .inl (cs 0, 126, .inl (fun _ => 0))), (q32, .inl (cs 0, 8001, .inl (fun _ => 0)))] := hD
  refine W.widen (k := 4) (n := 8379) (by omega) (by omega) ?_
  refine va_putF (D := (dC, dI)) (ci := 5) (v := .ref q32) (ty := (.array .int)) (C := R_og) (T := F_og) (N := 4) hx hb hts in_og t_og t_og_ok n_og hown hK hP hD hS 0 rfl rfl 3 (by decide) (hts _ kw_128) (fun _ h9 => h9) rfl hin rfl (by decide +kernel) rfl rfl (Nat.le_of_ble_eq_true rfl) d_og_init_34 (fun H locs hP hD hS => ?_)
  have hP : va_P (dC, dI) vwCl [(h0, .inr (5, [.ref q7, .ref q15, .ref q23, .ref q32])), (q7, .inl (cs 0, 126, .inl (fun _ => 0))), (q15, .inl (cs 0, 126, .inl (fun _ => 0))), (q23, .inl (cs 0, 126, .inl (fun _ => 0))), (q32, .inl (cs 0, 8001, .inl (fun _ => 0)))] H := hP
  have hD : va_D A [(h0, .inr (5, [.ref q7, .ref q15, .ref q23, .ref q32])), (q7, .inl (cs 0, 126, .inl (fun _ => 0))), (q15, .inl (cs 0, 126, .inl (fun _ => 0))), (q23, .inl (cs 0, 126, .inl (fun _ => 0))), (q32, .inl (cs 0, 8001, .inl (fun _ => 0)))] := hD
  have hP9 := hP.sub (ws' := [(h0, .inr (5, [.ref q7, .ref q15, .ref q23, .ref q32])), (q7, .inl (cs 0, 126, .inl (fun _ => 0))), (q15, .inl (cs 0, 126, .inl (fun _ => 0))), (q23, .inl (cs 0, 126, .inl (fun _ => 0))), (q32, .inl (cs 0, 8001, .inl (fun _ => 0)))]) [0, 1, 2, 3, 4] rfl
  have hD9 := hD.sub (ws' := [(h0, .inr (5, [.ref q7, .ref q15, .ref q23, .ref q32])), (q7, .inl (cs 0, 126, .inl (fun _ => 0))), (q15, .inl (cs 0, 126, .inl (fun _ => 0))), (q23, .inl (cs 0, 126, .inl (fun _ => 0))), (q32, .inl (cs 0, 8001, .inl (fun _ => 0)))]) [0, 1, 2, 3, 4] (by decide) rfl
  refine W.widen (k := 4) (n := 8379) (Nat.le_of_ble_eq_true rfl) (Nat.le_of_ble_eq_true rfl) ?_
  exact W.vret hx hb hr (fun t ht hW => ⟨⟨(q7, q15, q23, q32), rfl, trivial, by rw [ht]; exact hP9, hD9⟩, hS.F ht⟩) hS.2.2 d_og_init_37
abbrev b_sp_init : ByteArray := prog_8_method_1_code
def y_sp_init : MethodName := ⟨"SpaceBasis$Space", "<init>", "(LSpaceBasis$Modulus;LSpaceBasis$Monomials;)V"⟩
def w_sp_init : List Cond := Cond.code y_sp_init b_sp_init 3 none :: vwWS
theorem d_sp_init_0 : decode b_sp_init 0 = .ok (.aload_n 0, 1) := by decide +kernel
theorem d_sp_init_1 : decode b_sp_init 1 = .ok (.invokespecial 3, 3) := by decide +kernel
theorem d_sp_init_4 : decode b_sp_init 4 = .ok (.aload_n 0, 1) := by decide +kernel
theorem d_sp_init_5 : decode b_sp_init 5 = .ok (.new 9, 3) := by decide +kernel
theorem d_sp_init_8 : decode b_sp_init 8 = .ok (.dup, 1) := by decide +kernel
theorem d_sp_init_9 : decode b_sp_init 9 = .ok (.invokespecial 11, 3) := by decide +kernel
theorem d_sp_init_12 : decode b_sp_init 12 = .ok (.putfield 12, 3) := by decide +kernel
theorem d_sp_init_15 : decode b_sp_init 15 = .ok (.aload_n 0, 1) := by decide +kernel
theorem d_sp_init_16 : decode b_sp_init 16 = .ok (.sipush 8001, 3) := by decide +kernel
theorem d_sp_init_19 : decode b_sp_init 19 = .ok (.newarray .int, 2) := by decide +kernel
theorem d_sp_init_21 : decode b_sp_init 21 = .ok (.putfield 18, 3) := by decide +kernel
theorem d_sp_init_24 : decode b_sp_init 24 = .ok (.aload_n 0, 1) := by decide +kernel
theorem d_sp_init_25 : decode b_sp_init 25 = .ok (.bipush 126, 2) := by decide +kernel
theorem d_sp_init_27 : decode b_sp_init 27 = .ok (.newarray .int, 2) := by decide +kernel
theorem d_sp_init_29 : decode b_sp_init 29 = .ok (.putfield 22, 3) := by decide +kernel
theorem d_sp_init_32 : decode b_sp_init 32 = .ok (.aload_n 0, 1) := by decide +kernel
theorem d_sp_init_33 : decode b_sp_init 33 = .ok (.bipush 126, 2) := by decide +kernel
theorem d_sp_init_35 : decode b_sp_init 35 = .ok (.newarray .int, 2) := by decide +kernel
theorem d_sp_init_37 : decode b_sp_init 37 = .ok (.putfield 25, 3) := by decide +kernel
theorem d_sp_init_40 : decode b_sp_init 40 = .ok (.aload_n 0, 1) := by decide +kernel
theorem d_sp_init_41 : decode b_sp_init 41 = .ok (.bipush 126, 2) := by decide +kernel
theorem d_sp_init_43 : decode b_sp_init 43 = .ok (.newarray .int, 2) := by decide +kernel
theorem d_sp_init_45 : decode b_sp_init 45 = .ok (.putfield 28, 3) := by decide +kernel
theorem d_sp_init_48 : decode b_sp_init 48 = .ok (.aload_n 0, 1) := by decide +kernel
theorem d_sp_init_49 : decode b_sp_init 49 = .ok (.bipush 126, 2) := by decide +kernel
theorem d_sp_init_51 : decode b_sp_init 51 = .ok (.newarray .int, 2) := by decide +kernel
theorem d_sp_init_53 : decode b_sp_init 53 = .ok (.putfield 31, 3) := by decide +kernel
theorem d_sp_init_56 : decode b_sp_init 56 = .ok (.aload_n 0, 1) := by decide +kernel
theorem d_sp_init_57 : decode b_sp_init 57 = .ok (.iconst (-1), 1) := by decide +kernel
theorem d_sp_init_58 : decode b_sp_init 58 = .ok (.putfield 34, 3) := by decide +kernel
theorem d_sp_init_61 : decode b_sp_init 61 = .ok (.aload_n 0, 1) := by decide +kernel
theorem d_sp_init_62 : decode b_sp_init 62 = .ok (.aload_n 1, 1) := by decide +kernel
theorem d_sp_init_63 : decode b_sp_init 63 = .ok (.putfield 38, 3) := by decide +kernel
theorem d_sp_init_66 : decode b_sp_init 66 = .ok (.aload_n 0, 1) := by decide +kernel
theorem d_sp_init_67 : decode b_sp_init 67 = .ok (.aload_n 2, 1) := by decide +kernel
theorem d_sp_init_68 : decode b_sp_init 68 = .ok (.putfield 42, 3) := by decide +kernel
theorem d_sp_init_71 : decode b_sp_init 71 = .ok (.return_, 1) := by decide +kernel
/-- new SpaceBasis$Space -/
abbrev at_sp_init (dC : Nat → ClassId) (dI : Nat → Nat → Nat) (cs : Nat → ClassId) (A : Nat → Prop) (h0 : Nat) (a1 : Nat) (a2 : Nat) (u : Nat × Nat × Nat × Nat × Nat × Nat × Nat × Nat × Nat × Nat) (t : State) : Prop := match u with
  | (q5, q7_9, q15_9, q23_9, q32_9, q19, q27, q35, q43, q51) => va_P (dC, dI) vwCl [(h0, .inr (4, [.ref a1, .ref a2, .ref q5, .ref q19, .ref q27, .ref q35, .ref q43, .ref q51, .int (-1), .int 0, .int 0])), (q5, .inr (5, [.ref q7_9, .ref q15_9, .ref q23_9, .ref q32_9])), (q7_9, .inl (cs 0, 126, .inl (fun _ => 0))), (q15_9, .inl (cs 0, 126, .inl (fun _ => 0))), (q23_9, .inl (cs 0, 126, .inl (fun _ => 0))), (q32_9, .inl (cs 0, 8001, .inl (fun _ => 0))), (q19, .inl (cs 0, 8001, .inl (fun _ => 0))), (q27, .inl (cs 0, 126, .inl (fun _ => 0))), (q35, .inl (cs 0, 126, .inl (fun _ => 0))), (q43, .inl (cs 0, 126, .inl (fun _ => 0))), (q51, .inl (cs 0, 126, .inl (fun _ => 0)))] t.heap ∧ va_D A [(h0, .inr (4, [.ref a1, .ref a2, .ref q5, .ref q19, .ref q27, .ref q35, .ref q43, .ref q51, .int (-1), .int 0, .int 0])), (q5, .inr (5, [.ref q7_9, .ref q15_9, .ref q23_9, .ref q32_9])), (q7_9, .inl (cs 0, 126, .inl (fun _ => 0))), (q15_9, .inl (cs 0, 126, .inl (fun _ => 0))), (q23_9, .inl (cs 0, 126, .inl (fun _ => 0))), (q32_9, .inl (cs 0, 8001, .inl (fun _ => 0))), (q19, .inl (cs 0, 8001, .inl (fun _ => 0))), (q27, .inl (cs 0, 126, .inl (fun _ => 0))), (q35, .inl (cs 0, 126, .inl (fun _ => 0))), (q43, .inl (cs 0, 126, .inl (fun _ => 0))), (q51, .inl (cs 0, 126, .inl (fun _ => 0)))]
set_option maxHeartbeats 4000000 in
set_option maxRecDepth 100000 in
theorem c_sp_init (l : Launch) (dC : Nat → ClassId) (dI : Nat → Nat → Nat) (cs : Nat → ClassId) (h0 : Nat) (a1 : Nat) (a2 : Nat) (sz : Nat) : Met l y_sp_init w_sp_init ({ frames := 2, cells := 10, slots := 16888, locals := 32 }) (va_Pc [.ref h0, .ref a1, .ref a2] (fun U => U.heap.size = sz ∧ va_P (dC, dI) vwCl [(h0, .inr (4, [.null, .null, .null, .null, .null, .null, .null, .null, .int 0, .int 0, .int 0]))] U.heap ∧ vwK dC dI cs U ∧ va_D (fun _ => True) [(h0, .inr (4, [.null, .null, .null, .null, .null, .null, .null, .null, .int 0, .int 0, .int 0]))])) (va_Qv (fun (_ : Nat × Nat × Nat × Nat × Nat × Nat × Nat × Nat × Nat × Nat) => True) (at_sp_init dC dI cs (va_A [(h0, .inr (4, [.null, .null, .null, .null, .null, .null, .null, .null, .int 0, .int 0, .int 0]))] sz) h0 a1 a2) (va_A [(h0, .inr (4, [.null, .null, .null, .null, .null, .null, .null, .null, .int 0, .int 0, .int 0]))] sz)) 10 16888 (va_A [(h0, .inr (4, [.null, .null, .null, .null, .null, .null, .null, .null, .int 0, .int 0, .int 0]))] sz) := by
  refine Met.ofW (cc := b_sp_init) (maxL := 3) (ret := none) (by decide) rfl ?_
  intro p e s m args below meth c s₁ B hml hpc
  obtain ⟨rfl, hsz, hP, ⟨hK, hN⟩, hD0⟩ := hpc
  have hx := B.exec
  have hb := B.bytes
  have hr := B.returns
  have hts : ∀ w ∈ vwWS, w.before _ s = true := fun w h => atoms_spec (ws := w_sp_init) B.pre w (List.mem_cons_of_mem _ h)
  have hown : s.vm.findClass "SpaceBasis$Space" = some m.cls := findClass_of_methodNamed B.named
  have hlocks := B.notSynchronized
  have hin : meth.name = "<init>" := (name_of_methodNamed B.named B.method).1
  subst hsz
  have hD := hD0.self (sz := s.heap.size)
  generalize hAe : va_A [(h0, .inr (4, [.null, .null, .null, .null, .null, .null, .null, .null, .int 0, .int 0, .int 0]))] s.heap.size = A at hD ⊢
  have hA : ∀ q : Nat, s.heap.size ≤ q → A q := fun q h => by rw [← hAe]; exact Or.inr h
  have hS : va_S A s.heap s.heap [] := va_S.rf
  have hl := lv_entry ([.ref h0, .ref a1, .ref a2]) (n := 3) (Nat.le_of_ble_eq_true rfl)
  rw [lg_entry_eq]
  generalize (lg_sl ([.ref h0, .ref a1, .ref a2]) ++ List.replicate (3 - (lg_sl ([.ref h0, .ref a1, .ref a2])).length) Slot.unset).toArray = ls at hl ⊢
  have hl : lv_has ls 3 [(0, .ref h0), (1, .ref a1), (2, .ref a2)] := hl
  refine lv_aload_n hx hb d_sp_init_0 rfl (lv_at hl 0 rfl) ?_
  refine W.objInit hx hb hown (hts _ kw_119) (hts _ kw_56) (hts _ kw_57) rfl (by rw [hml]; exact hl.1) rfl d_sp_init_1 (Nat.le_of_ble_eq_true rfl) (Nat.le_of_ble_eq_true rfl) ?_
  refine W.eq (g2 := F0 m 4 ls []) rfl ?_
  refine lv_aload_n hx hb d_sp_init_4 rfl (lv_at hl 0 rfl) ?_
  refine va_new (ci := 5) (fs := [.null, .null, .null, .null]) (C := R_og) (T := F_og) (N := 4) hx hb hts in_og t_og t_og_ok hown (hts _ kw_120) (hts _ kw_121) (hts _ kw_37) hK hP hD hS hA rfl (fun j hj => by rcases (show j = 0 ∨ j = 1 ∨ j = 2 ∨ j = 3 by omega) with rfl | rfl | rfl | rfl <;> rfl) (Nat.le_of_ble_eq_true rfl) (Nat.le_of_ble_eq_true rfl) d_sp_init_5 (fun q5 H hP hD hS => ?_)
  have hP : va_P (dC, dI) vwCl [(h0, .inr (4, [.null, .null, .null, .null, .null, .null, .null, .null, .int 0, .int 0, .int 0])), (q5, .inr (5, [.null, .null, .null, .null]))] H := hP
  have hD : va_D A [(h0, .inr (4, [.null, .null, .null, .null, .null, .null, .null, .null, .int 0, .int 0, .int 0])), (q5, .inr (5, [.null, .null, .null, .null]))] := hD
  refine W.widen (k := 1) (n := 4) (by omega) (by omega) ?_
  refine lv_dup hx hb d_sp_init_8 rfl ?_
  have hPc := hP.sub (ws' := [(q5, .inr (5, [.null, .null, .null, .null]))]) [1] rfl
  have hDc := hD.sub (ws' := [(q5, .inr (5, [.null, .null, .null, .null]))]) [1] (by decide) rfl
  have hFc := va_free (wc := [(q5, .inr (5, [.null, .null, .null, .null]))]) hD hS hA [1] rfl
  refine va_callv (va_runIN (As := []) (rest := [.ref q5, .ref h0]) ⟨hx, hb, hml, hown, hts⟩ (c_og_init l dC dI cs q5  H.size) ⟨va_cnB 0 hts (gd_c kw_123) rfl rfl rfl (hN _ kn_20) (hts _ kw_37) (by decide +kernel) ⟨Nat.le_of_ble_eq_true rfl, Nat.le_of_ble_eq_true rfl⟩, rfl, hts _ kw_122⟩ ⟨fun a U g mk q => by obtain ⟨q0, q1, qP, qK, qD⟩ := q; exact ⟨q0, q1, qP, qK.call, qD⟩, fun U hU hW => ⟨rfl, by rw [hU], by rw [hU]; exact hPc, vwK.warm hW ⟨hK, hN⟩, hDc.weaken (fun _ _ _ _ => trivial)⟩⟩ rfl rfl hl.1 rfl (lv_room (Nat.le_of_ble_eq_true rfl)) d_sp_init_9 ⟨Nat.le_of_ble_eq_true rfl, Nat.le_of_ble_eq_true rfl⟩) hS (fun q _ h => hFc q h) hFc (fun u t H1 locs1 ht hvm hw hB hz1 hk1 hS => ?_)
  obtain ⟨q7_9, q15_9, q23_9, q32_9⟩ := u
  obtain ⟨hP1, hD1⟩ := hB
  rw [ht] at hP1
  obtain ⟨hP, hD⟩ := va_join (wr := [(h0, .inr (4, [.null, .null, .null, .null, .null, .null, .null, .null, .int 0, .int 0, .int 0]))]) (w1 := [(q5, .inr (5, [.ref q7_9, .ref q15_9, .ref q23_9, .ref q32_9])), (q7_9, .inl (cs 0, 126, .inl (fun _ => 0))), (q15_9, .inl (cs 0, 126, .inl (fun _ => 0))), (q23_9, .inl (cs 0, 126, .inl (fun _ => 0))), (q32_9, .inl (cs 0, 8001, .inl (fun _ => 0)))]) hP hD [1] [0] rfl rfl (by decide) (by decide) hk1 hFc hP1 hD1
  generalize H1 = H at hP hS ⊢
  generalize locs1 = locs at hS ⊢
  have hP : va_P (dC, dI) vwCl [(h0, .inr (4, [.null, .null, .null, .null, .null, .null, .null, .null, .int 0, .int 0, .int 0])), (q5, .inr (5, [.ref q7_9, .ref q15_9, .ref q23_9, .ref q32_9])), (q7_9, .inl (cs 0, 126, .inl (fun _ => 0))), (q15_9, .inl (cs 0, 126, .inl (fun _ => 0))), (q23_9, .inl (cs 0, 126, .inl (fun _ => 0))), (q32_9, .inl (cs 0, 8001, .inl (fun _ => 0)))] H := hP
  have hD : va_D A [(h0, .inr (4, [.null, .null, .null, .null, .null, .null, .null, .null, .int 0, .int 0, .int 0])), (q5, .inr (5, [.ref q7_9, .ref q15_9, .ref q23_9, .ref q32_9])), (q7_9, .inl (cs 0, 126, .inl (fun _ => 0))), (q15_9, .inl (cs 0, 126, .inl (fun _ => 0))), (q23_9, .inl (cs 0, 126, .inl (fun _ => 0))), (q32_9, .inl (cs 0, 8001, .inl (fun _ => 0)))] := hD
  refine W.widen (k := 5) (n := 8383) (by omega) (by omega) ?_
  refine va_putF (D := (dC, dI)) (ci := 4) (v := .ref q5) (ty := (.object "SpaceBasis$Origins")) (C := R_sp) (T := F_sp) (N := 11) hx hb hts in_sp t_sp t_sp_ok n_sp hown hK hP hD hS 0 rfl rfl 2 (by decide) (hts _ kw_140) (fun _ h9 => h9) rfl hin rfl (by decide +kernel) rfl rfl (Nat.le_of_ble_eq_true rfl) d_sp_init_12 (fun H locs hP hD hS => ?_)
  have hP : va_P (dC, dI) vwCl [(h0, .inr (4, [.null, .null, .ref q5, .null, .null, .null, .null, .null, .int 0, .int 0, .int 0])), (q5, .inr (5, [.ref q7_9, .ref q15_9, .ref q23_9, .ref q32_9])), (q7_9, .inl (cs 0, 126, .inl (fun _ => 0))), (q15_9, .inl (cs 0, 126, .inl (fun _ => 0))), (q23_9, .inl (cs 0, 126, .inl (fun _ => 0))), (q32_9, .inl (cs 0, 8001, .inl (fun _ => 0)))] H := hP
  have hD : va_D A [(h0, .inr (4, [.null, .null, .ref q5, .null, .null, .null, .null, .null, .int 0, .int 0, .int 0])), (q5, .inr (5, [.ref q7_9, .ref q15_9, .ref q23_9, .ref q32_9])), (q7_9, .inl (cs 0, 126, .inl (fun _ => 0))), (q15_9, .inl (cs 0, 126, .inl (fun _ => 0))), (q23_9, .inl (cs 0, 126, .inl (fun _ => 0))), (q32_9, .inl (cs 0, 8001, .inl (fun _ => 0)))] := hD
  refine lv_aload_n hx hb d_sp_init_15 rfl (lv_at hl 0 rfl) ?_
  refine lv_sipush (v := 8001) hx hb d_sp_init_16 (by decide) ?_
  refine va_newa (atype := .int) (N' := 8001) hx hb (hts _ kw_97) rfl hK hP hD hS hA (a0 := (8001, .inl (fun _ => 0))) (fun _ => rfl) (by decide) rfl (by decide) (Nat.le_of_ble_eq_true rfl) (Nat.le_of_ble_eq_true rfl) d_sp_init_19 (fun q19 cA H hK2 hP hD hS => ?_)
  have e1 : s.vm.findClass ("[" ++ (FieldType.int).toString) = some cA := (hK2.2 4 _ rfl).2
  have e2 : s.vm.findClass ("[" ++ (FieldType.int).toString) = some (cs 0) := (hK2.2 0 _ rfl).2
  obtain rfl : cA = cs 0 := Option.some.inj (e1.symm.trans e2)
  have hP : va_P (dC, dI) vwCl [(h0, .inr (4, [.null, .null, .ref q5, .null, .null, .null, .null, .null, .int 0, .int 0, .int 0])), (q5, .inr (5, [.ref q7_9, .ref q15_9, .ref q23_9, .ref q32_9])), (q7_9, .inl (cs 0, 126, .inl (fun _ => 0))), (q15_9, .inl (cs 0, 126, .inl (fun _ => 0))), (q23_9, .inl (cs 0, 126, .inl (fun _ => 0))), (q32_9, .inl (cs 0, 8001, .inl (fun _ => 0))), (q19, .inl (cs 0, 8001, .inl (fun _ => 0)))] H := hP
  have hD : va_D A [(h0, .inr (4, [.null, .null, .ref q5, .null, .null, .null, .null, .null, .int 0, .int 0, .int 0])), (q5, .inr (5, [.ref q7_9, .ref q15_9, .ref q23_9, .ref q32_9])), (q7_9, .inl (cs 0, 126, .inl (fun _ => 0))), (q15_9, .inl (cs 0, 126, .inl (fun _ => 0))), (q23_9, .inl (cs 0, 126, .inl (fun _ => 0))), (q32_9, .inl (cs 0, 8001, .inl (fun _ => 0))), (q19, .inl (cs 0, 8001, .inl (fun _ => 0)))] := hD
  refine W.widen (k := 6) (n := 16384) (by omega) (by omega) ?_
  refine va_putF (D := (dC, dI)) (ci := 4) (v := .ref q19) (ty := (.array .int)) (C := R_sp) (T := F_sp) (N := 11) hx hb hts in_sp t_sp t_sp_ok n_sp hown hK hP hD hS 0 rfl rfl 3 (by decide) (hts _ kw_141) (fun _ h9 => h9) rfl hin rfl (by decide +kernel) rfl rfl (Nat.le_of_ble_eq_true rfl) d_sp_init_21 (fun H locs hP hD hS => ?_)
  have hP : va_P (dC, dI) vwCl [(h0, .inr (4, [.null, .null, .ref q5, .ref q19, .null, .null, .null, .null, .int 0, .int 0, .int 0])), (q5, .inr (5, [.ref q7_9, .ref q15_9, .ref q23_9, .ref q32_9])), (q7_9, .inl (cs 0, 126, .inl (fun _ => 0))), (q15_9, .inl (cs 0, 126, .inl (fun _ => 0))), (q23_9, .inl (cs 0, 126, .inl (fun _ => 0))), (q32_9, .inl (cs 0, 8001, .inl (fun _ => 0))), (q19, .inl (cs 0, 8001, .inl (fun _ => 0)))] H := hP
  have hD : va_D A [(h0, .inr (4, [.null, .null, .ref q5, .ref q19, .null, .null, .null, .null, .int 0, .int 0, .int 0])), (q5, .inr (5, [.ref q7_9, .ref q15_9, .ref q23_9, .ref q32_9])), (q7_9, .inl (cs 0, 126, .inl (fun _ => 0))), (q15_9, .inl (cs 0, 126, .inl (fun _ => 0))), (q23_9, .inl (cs 0, 126, .inl (fun _ => 0))), (q32_9, .inl (cs 0, 8001, .inl (fun _ => 0))), (q19, .inl (cs 0, 8001, .inl (fun _ => 0)))] := hD
  refine lv_aload_n hx hb d_sp_init_24 rfl (lv_at hl 0 rfl) ?_
  refine lv_bipush (v := 126) hx hb d_sp_init_25 (by decide) ?_
  refine va_newa (atype := .int) (N' := 126) hx hb (hts _ kw_97) rfl hK hP hD hS hA (a0 := (126, .inl (fun _ => 0))) (fun _ => rfl) (by decide) rfl (by decide) (Nat.le_of_ble_eq_true rfl) (Nat.le_of_ble_eq_true rfl) d_sp_init_27 (fun q27 cA H hK2 hP hD hS => ?_)
  have e1 : s.vm.findClass ("[" ++ (FieldType.int).toString) = some cA := (hK2.2 4 _ rfl).2
  have e2 : s.vm.findClass ("[" ++ (FieldType.int).toString) = some (cs 0) := (hK2.2 0 _ rfl).2
  obtain rfl : cA = cs 0 := Option.some.inj (e1.symm.trans e2)
  have hP : va_P (dC, dI) vwCl [(h0, .inr (4, [.null, .null, .ref q5, .ref q19, .null, .null, .null, .null, .int 0, .int 0, .int 0])), (q5, .inr (5, [.ref q7_9, .ref q15_9, .ref q23_9, .ref q32_9])), (q7_9, .inl (cs 0, 126, .inl (fun _ => 0))), (q15_9, .inl (cs 0, 126, .inl (fun _ => 0))), (q23_9, .inl (cs 0, 126, .inl (fun _ => 0))), (q32_9, .inl (cs 0, 8001, .inl (fun _ => 0))), (q19, .inl (cs 0, 8001, .inl (fun _ => 0))), (q27, .inl (cs 0, 126, .inl (fun _ => 0)))] H := hP
  have hD : va_D A [(h0, .inr (4, [.null, .null, .ref q5, .ref q19, .null, .null, .null, .null, .int 0, .int 0, .int 0])), (q5, .inr (5, [.ref q7_9, .ref q15_9, .ref q23_9, .ref q32_9])), (q7_9, .inl (cs 0, 126, .inl (fun _ => 0))), (q15_9, .inl (cs 0, 126, .inl (fun _ => 0))), (q23_9, .inl (cs 0, 126, .inl (fun _ => 0))), (q32_9, .inl (cs 0, 8001, .inl (fun _ => 0))), (q19, .inl (cs 0, 8001, .inl (fun _ => 0))), (q27, .inl (cs 0, 126, .inl (fun _ => 0)))] := hD
  refine W.widen (k := 7) (n := 16510) (by omega) (by omega) ?_
  refine va_putF (D := (dC, dI)) (ci := 4) (v := .ref q27) (ty := (.array .int)) (C := R_sp) (T := F_sp) (N := 11) hx hb hts in_sp t_sp t_sp_ok n_sp hown hK hP hD hS 0 rfl rfl 4 (by decide) (hts _ kw_142) (fun _ h9 => h9) rfl hin rfl (by decide +kernel) rfl rfl (Nat.le_of_ble_eq_true rfl) d_sp_init_29 (fun H locs hP hD hS => ?_)
  have hP : va_P (dC, dI) vwCl [(h0, .inr (4, [.null, .null, .ref q5, .ref q19, .ref q27, .null, .null, .null, .int 0, .int 0, .int 0])), (q5, .inr (5, [.ref q7_9, .ref q15_9, .ref q23_9, .ref q32_9])), (q7_9, .inl (cs 0, 126, .inl (fun _ => 0))), (q15_9, .inl (cs 0, 126, .inl (fun _ => 0))), (q23_9, .inl (cs 0, 126, .inl (fun _ => 0))), (q32_9, .inl (cs 0, 8001, .inl (fun _ => 0))), (q19, .inl (cs 0, 8001, .inl (fun _ => 0))), (q27, .inl (cs 0, 126, .inl (fun _ => 0)))] H := hP
  have hD : va_D A [(h0, .inr (4, [.null, .null, .ref q5, .ref q19, .ref q27, .null, .null, .null, .int 0, .int 0, .int 0])), (q5, .inr (5, [.ref q7_9, .ref q15_9, .ref q23_9, .ref q32_9])), (q7_9, .inl (cs 0, 126, .inl (fun _ => 0))), (q15_9, .inl (cs 0, 126, .inl (fun _ => 0))), (q23_9, .inl (cs 0, 126, .inl (fun _ => 0))), (q32_9, .inl (cs 0, 8001, .inl (fun _ => 0))), (q19, .inl (cs 0, 8001, .inl (fun _ => 0))), (q27, .inl (cs 0, 126, .inl (fun _ => 0)))] := hD
  refine lv_aload_n hx hb d_sp_init_32 rfl (lv_at hl 0 rfl) ?_
  refine lv_bipush (v := 126) hx hb d_sp_init_33 (by decide) ?_
  refine va_newa (atype := .int) (N' := 126) hx hb (hts _ kw_97) rfl hK hP hD hS hA (a0 := (126, .inl (fun _ => 0))) (fun _ => rfl) (by decide) rfl (by decide) (Nat.le_of_ble_eq_true rfl) (Nat.le_of_ble_eq_true rfl) d_sp_init_35 (fun q35 cA H hK2 hP hD hS => ?_)
  have e1 : s.vm.findClass ("[" ++ (FieldType.int).toString) = some cA := (hK2.2 4 _ rfl).2
  have e2 : s.vm.findClass ("[" ++ (FieldType.int).toString) = some (cs 0) := (hK2.2 0 _ rfl).2
  obtain rfl : cA = cs 0 := Option.some.inj (e1.symm.trans e2)
  have hP : va_P (dC, dI) vwCl [(h0, .inr (4, [.null, .null, .ref q5, .ref q19, .ref q27, .null, .null, .null, .int 0, .int 0, .int 0])), (q5, .inr (5, [.ref q7_9, .ref q15_9, .ref q23_9, .ref q32_9])), (q7_9, .inl (cs 0, 126, .inl (fun _ => 0))), (q15_9, .inl (cs 0, 126, .inl (fun _ => 0))), (q23_9, .inl (cs 0, 126, .inl (fun _ => 0))), (q32_9, .inl (cs 0, 8001, .inl (fun _ => 0))), (q19, .inl (cs 0, 8001, .inl (fun _ => 0))), (q27, .inl (cs 0, 126, .inl (fun _ => 0))), (q35, .inl (cs 0, 126, .inl (fun _ => 0)))] H := hP
  have hD : va_D A [(h0, .inr (4, [.null, .null, .ref q5, .ref q19, .ref q27, .null, .null, .null, .int 0, .int 0, .int 0])), (q5, .inr (5, [.ref q7_9, .ref q15_9, .ref q23_9, .ref q32_9])), (q7_9, .inl (cs 0, 126, .inl (fun _ => 0))), (q15_9, .inl (cs 0, 126, .inl (fun _ => 0))), (q23_9, .inl (cs 0, 126, .inl (fun _ => 0))), (q32_9, .inl (cs 0, 8001, .inl (fun _ => 0))), (q19, .inl (cs 0, 8001, .inl (fun _ => 0))), (q27, .inl (cs 0, 126, .inl (fun _ => 0))), (q35, .inl (cs 0, 126, .inl (fun _ => 0)))] := hD
  refine W.widen (k := 8) (n := 16636) (by omega) (by omega) ?_
  refine va_putF (D := (dC, dI)) (ci := 4) (v := .ref q35) (ty := (.array .int)) (C := R_sp) (T := F_sp) (N := 11) hx hb hts in_sp t_sp t_sp_ok n_sp hown hK hP hD hS 0 rfl rfl 5 (by decide) (hts _ kw_143) (fun _ h9 => h9) rfl hin rfl (by decide +kernel) rfl rfl (Nat.le_of_ble_eq_true rfl) d_sp_init_37 (fun H locs hP hD hS => ?_)
  have hP : va_P (dC, dI) vwCl [(h0, .inr (4, [.null, .null, .ref q5, .ref q19, .ref q27, .ref q35, .null, .null, .int 0, .int 0, .int 0])), (q5, .inr (5, [.ref q7_9, .ref q15_9, .ref q23_9, .ref q32_9])), (q7_9, .inl (cs 0, 126, .inl (fun _ => 0))), (q15_9, .inl (cs 0, 126, .inl (fun _ => 0))), (q23_9, .inl (cs 0, 126, .inl (fun _ => 0))), (q32_9, .inl (cs 0, 8001, .inl (fun _ => 0))), (q19, .inl (cs 0, 8001, .inl (fun _ => 0))), (q27, .inl (cs 0, 126, .inl (fun _ => 0))), (q35, .inl (cs 0, 126, .inl (fun _ => 0)))] H := hP
  have hD : va_D A [(h0, .inr (4, [.null, .null, .ref q5, .ref q19, .ref q27, .ref q35, .null, .null, .int 0, .int 0, .int 0])), (q5, .inr (5, [.ref q7_9, .ref q15_9, .ref q23_9, .ref q32_9])), (q7_9, .inl (cs 0, 126, .inl (fun _ => 0))), (q15_9, .inl (cs 0, 126, .inl (fun _ => 0))), (q23_9, .inl (cs 0, 126, .inl (fun _ => 0))), (q32_9, .inl (cs 0, 8001, .inl (fun _ => 0))), (q19, .inl (cs 0, 8001, .inl (fun _ => 0))), (q27, .inl (cs 0, 126, .inl (fun _ => 0))), (q35, .inl (cs 0, 126, .inl (fun _ => 0)))] := hD
  refine lv_aload_n hx hb d_sp_init_40 rfl (lv_at hl 0 rfl) ?_
  refine lv_bipush (v := 126) hx hb d_sp_init_41 (by decide) ?_
  refine va_newa (atype := .int) (N' := 126) hx hb (hts _ kw_97) rfl hK hP hD hS hA (a0 := (126, .inl (fun _ => 0))) (fun _ => rfl) (by decide) rfl (by decide) (Nat.le_of_ble_eq_true rfl) (Nat.le_of_ble_eq_true rfl) d_sp_init_43 (fun q43 cA H hK2 hP hD hS => ?_)
  have e1 : s.vm.findClass ("[" ++ (FieldType.int).toString) = some cA := (hK2.2 4 _ rfl).2
  have e2 : s.vm.findClass ("[" ++ (FieldType.int).toString) = some (cs 0) := (hK2.2 0 _ rfl).2
  obtain rfl : cA = cs 0 := Option.some.inj (e1.symm.trans e2)
  have hP : va_P (dC, dI) vwCl [(h0, .inr (4, [.null, .null, .ref q5, .ref q19, .ref q27, .ref q35, .null, .null, .int 0, .int 0, .int 0])), (q5, .inr (5, [.ref q7_9, .ref q15_9, .ref q23_9, .ref q32_9])), (q7_9, .inl (cs 0, 126, .inl (fun _ => 0))), (q15_9, .inl (cs 0, 126, .inl (fun _ => 0))), (q23_9, .inl (cs 0, 126, .inl (fun _ => 0))), (q32_9, .inl (cs 0, 8001, .inl (fun _ => 0))), (q19, .inl (cs 0, 8001, .inl (fun _ => 0))), (q27, .inl (cs 0, 126, .inl (fun _ => 0))), (q35, .inl (cs 0, 126, .inl (fun _ => 0))), (q43, .inl (cs 0, 126, .inl (fun _ => 0)))] H := hP
  have hD : va_D A [(h0, .inr (4, [.null, .null, .ref q5, .ref q19, .ref q27, .ref q35, .null, .null, .int 0, .int 0, .int 0])), (q5, .inr (5, [.ref q7_9, .ref q15_9, .ref q23_9, .ref q32_9])), (q7_9, .inl (cs 0, 126, .inl (fun _ => 0))), (q15_9, .inl (cs 0, 126, .inl (fun _ => 0))), (q23_9, .inl (cs 0, 126, .inl (fun _ => 0))), (q32_9, .inl (cs 0, 8001, .inl (fun _ => 0))), (q19, .inl (cs 0, 8001, .inl (fun _ => 0))), (q27, .inl (cs 0, 126, .inl (fun _ => 0))), (q35, .inl (cs 0, 126, .inl (fun _ => 0))), (q43, .inl (cs 0, 126, .inl (fun _ => 0)))] := hD
  refine W.widen (k := 9) (n := 16762) (by omega) (by omega) ?_
  refine va_putF (D := (dC, dI)) (ci := 4) (v := .ref q43) (ty := (.array .int)) (C := R_sp) (T := F_sp) (N := 11) hx hb hts in_sp t_sp t_sp_ok n_sp hown hK hP hD hS 0 rfl rfl 6 (by decide) (hts _ kw_144) (fun _ h9 => h9) rfl hin rfl (by decide +kernel) rfl rfl (Nat.le_of_ble_eq_true rfl) d_sp_init_45 (fun H locs hP hD hS => ?_)
  have hP : va_P (dC, dI) vwCl [(h0, .inr (4, [.null, .null, .ref q5, .ref q19, .ref q27, .ref q35, .ref q43, .null, .int 0, .int 0, .int 0])), (q5, .inr (5, [.ref q7_9, .ref q15_9, .ref q23_9, .ref q32_9])), (q7_9, .inl (cs 0, 126, .inl (fun _ => 0))), (q15_9, .inl (cs 0, 126, .inl (fun _ => 0))), (q23_9, .inl (cs 0, 126, .inl (fun _ => 0))), (q32_9, .inl (cs 0, 8001, .inl (fun _ => 0))), (q19, .inl (cs 0, 8001, .inl (fun _ => 0))), (q27, .inl (cs 0, 126, .inl (fun _ => 0))), (q35, .inl (cs 0, 126, .inl (fun _ => 0))), (q43, .inl (cs 0, 126, .inl (fun _ => 0)))] H := hP
  have hD : va_D A [(h0, .inr (4, [.null, .null, .ref q5, .ref q19, .ref q27, .ref q35, .ref q43, .null, .int 0, .int 0, .int 0])), (q5, .inr (5, [.ref q7_9, .ref q15_9, .ref q23_9, .ref q32_9])), (q7_9, .inl (cs 0, 126, .inl (fun _ => 0))), (q15_9, .inl (cs 0, 126, .inl (fun _ => 0))), (q23_9, .inl (cs 0, 126, .inl (fun _ => 0))), (q32_9, .inl (cs 0, 8001, .inl (fun _ => 0))), (q19, .inl (cs 0, 8001, .inl (fun _ => 0))), (q27, .inl (cs 0, 126, .inl (fun _ => 0))), (q35, .inl (cs 0, 126, .inl (fun _ => 0))), (q43, .inl (cs 0, 126, .inl (fun _ => 0)))] := hD
  refine lv_aload_n hx hb d_sp_init_48 rfl (lv_at hl 0 rfl) ?_
  refine lv_bipush (v := 126) hx hb d_sp_init_49 (by decide) ?_
  refine va_newa (atype := .int) (N' := 126) hx hb (hts _ kw_97) rfl hK hP hD hS hA (a0 := (126, .inl (fun _ => 0))) (fun _ => rfl) (by decide) rfl (by decide) (Nat.le_of_ble_eq_true rfl) (Nat.le_of_ble_eq_true rfl) d_sp_init_51 (fun q51 cA H hK2 hP hD hS => ?_)
  have e1 : s.vm.findClass ("[" ++ (FieldType.int).toString) = some cA := (hK2.2 4 _ rfl).2
  have e2 : s.vm.findClass ("[" ++ (FieldType.int).toString) = some (cs 0) := (hK2.2 0 _ rfl).2
  obtain rfl : cA = cs 0 := Option.some.inj (e1.symm.trans e2)
  have hP : va_P (dC, dI) vwCl [(h0, .inr (4, [.null, .null, .ref q5, .ref q19, .ref q27, .ref q35, .ref q43, .null, .int 0, .int 0, .int 0])), (q5, .inr (5, [.ref q7_9, .ref q15_9, .ref q23_9, .ref q32_9])), (q7_9, .inl (cs 0, 126, .inl (fun _ => 0))), (q15_9, .inl (cs 0, 126, .inl (fun _ => 0))), (q23_9, .inl (cs 0, 126, .inl (fun _ => 0))), (q32_9, .inl (cs 0, 8001, .inl (fun _ => 0))), (q19, .inl (cs 0, 8001, .inl (fun _ => 0))), (q27, .inl (cs 0, 126, .inl (fun _ => 0))), (q35, .inl (cs 0, 126, .inl (fun _ => 0))), (q43, .inl (cs 0, 126, .inl (fun _ => 0))), (q51, .inl (cs 0, 126, .inl (fun _ => 0)))] H := hP
  have hD : va_D A [(h0, .inr (4, [.null, .null, .ref q5, .ref q19, .ref q27, .ref q35, .ref q43, .null, .int 0, .int 0, .int 0])), (q5, .inr (5, [.ref q7_9, .ref q15_9, .ref q23_9, .ref q32_9])), (q7_9, .inl (cs 0, 126, .inl (fun _ => 0))), (q15_9, .inl (cs 0, 126, .inl (fun _ => 0))), (q23_9, .inl (cs 0, 126, .inl (fun _ => 0))), (q32_9, .inl (cs 0, 8001, .inl (fun _ => 0))), (q19, .inl (cs 0, 8001, .inl (fun _ => 0))), (q27, .inl (cs 0, 126, .inl (fun _ => 0))), (q35, .inl (cs 0, 126, .inl (fun _ => 0))), (q43, .inl (cs 0, 126, .inl (fun _ => 0))), (q51, .inl (cs 0, 126, .inl (fun _ => 0)))] := hD
  refine W.widen (k := 10) (n := 16888) (by omega) (by omega) ?_
  refine va_putF (D := (dC, dI)) (ci := 4) (v := .ref q51) (ty := (.array .int)) (C := R_sp) (T := F_sp) (N := 11) hx hb hts in_sp t_sp t_sp_ok n_sp hown hK hP hD hS 0 rfl rfl 7 (by decide) (hts _ kw_145) (fun _ h9 => h9) rfl hin rfl (by decide +kernel) rfl rfl (Nat.le_of_ble_eq_true rfl) d_sp_init_53 (fun H locs hP hD hS => ?_)
  have hP : va_P (dC, dI) vwCl [(h0, .inr (4, [.null, .null, .ref q5, .ref q19, .ref q27, .ref q35, .ref q43, .ref q51, .int 0, .int 0, .int 0])), (q5, .inr (5, [.ref q7_9, .ref q15_9, .ref q23_9, .ref q32_9])), (q7_9, .inl (cs 0, 126, .inl (fun _ => 0))), (q15_9, .inl (cs 0, 126, .inl (fun _ => 0))), (q23_9, .inl (cs 0, 126, .inl (fun _ => 0))), (q32_9, .inl (cs 0, 8001, .inl (fun _ => 0))), (q19, .inl (cs 0, 8001, .inl (fun _ => 0))), (q27, .inl (cs 0, 126, .inl (fun _ => 0))), (q35, .inl (cs 0, 126, .inl (fun _ => 0))), (q43, .inl (cs 0, 126, .inl (fun _ => 0))), (q51, .inl (cs 0, 126, .inl (fun _ => 0)))] H := hP
  have hD : va_D A [(h0, .inr (4, [.null, .null, .ref q5, .ref q19, .ref q27, .ref q35, .ref q43, .ref q51, .int 0, .int 0, .int 0])), (q5, .inr (5, [.ref q7_9, .ref q15_9, .ref q23_9, .ref q32_9])), (q7_9, .inl (cs 0, 126, .inl (fun _ => 0))), (q15_9, .inl (cs 0, 126, .inl (fun _ => 0))), (q23_9, .inl (cs 0, 126, .inl (fun _ => 0))), (q32_9, .inl (cs 0, 8001, .inl (fun _ => 0))), (q19, .inl (cs 0, 8001, .inl (fun _ => 0))), (q27, .inl (cs 0, 126, .inl (fun _ => 0))), (q35, .inl (cs 0, 126, .inl (fun _ => 0))), (q43, .inl (cs 0, 126, .inl (fun _ => 0))), (q51, .inl (cs 0, 126, .inl (fun _ => 0)))] := hD
  refine lv_aload_n hx hb d_sp_init_56 rfl (lv_at hl 0 rfl) ?_
  refine lv_iconst (v := (-1)) hx hb d_sp_init_57 (by decide) ?_
  refine va_put (D := (dC, dI)) (ci := 4) (v := .int (-1)) (ty := .int) (C := R_sp) (T := F_sp) (N := 11) hx hb hts in_sp t_sp t_sp_ok n_sp hown hK hP hD hS 0 rfl rfl 8 (by decide) (hts _ kw_146) (fun _ h9 => h9) rfl (by decide +kernel) rfl rfl (Nat.le_of_ble_eq_true rfl) d_sp_init_58 (fun H locs hP hD hS => ?_)
  have hP : va_P (dC, dI) vwCl [(h0, .inr (4, [.null, .null, .ref q5, .ref q19, .ref q27, .ref q35, .ref q43, .ref q51, .int (-1), .int 0, .int 0])), (q5, .inr (5, [.ref q7_9, .ref q15_9, .ref q23_9, .ref q32_9])), (q7_9, .inl (cs 0, 126, .inl (fun _ => 0))), (q15_9, .inl (cs 0, 126, .inl (fun _ => 0))), (q23_9, .inl (cs 0, 126, .inl (fun _ => 0))), (q32_9, .inl (cs 0, 8001, .inl (fun _ => 0))), (q19, .inl (cs 0, 8001, .inl (fun _ => 0))), (q27, .inl (cs 0, 126, .inl (fun _ => 0))), (q35, .inl (cs 0, 126, .inl (fun _ => 0))), (q43, .inl (cs 0, 126, .inl (fun _ => 0))), (q51, .inl (cs 0, 126, .inl (fun _ => 0)))] H := hP
  have hD : va_D A [(h0, .inr (4, [.null, .null, .ref q5, .ref q19, .ref q27, .ref q35, .ref q43, .ref q51, .int (-1), .int 0, .int 0])), (q5, .inr (5, [.ref q7_9, .ref q15_9, .ref q23_9, .ref q32_9])), (q7_9, .inl (cs 0, 126, .inl (fun _ => 0))), (q15_9, .inl (cs 0, 126, .inl (fun _ => 0))), (q23_9, .inl (cs 0, 126, .inl (fun _ => 0))), (q32_9, .inl (cs 0, 8001, .inl (fun _ => 0))), (q19, .inl (cs 0, 8001, .inl (fun _ => 0))), (q27, .inl (cs 0, 126, .inl (fun _ => 0))), (q35, .inl (cs 0, 126, .inl (fun _ => 0))), (q43, .inl (cs 0, 126, .inl (fun _ => 0))), (q51, .inl (cs 0, 126, .inl (fun _ => 0)))] := hD
  refine lv_aload_n hx hb d_sp_init_61 rfl (lv_at hl 0 rfl) ?_
  refine lv_aload_n hx hb d_sp_init_62 rfl (lv_at hl 1 rfl) ?_
  refine va_putF (D := (dC, dI)) (ci := 4) (v := .ref a1) (ty := (.object "SpaceBasis$Modulus")) (C := R_sp) (T := F_sp) (N := 11) hx hb hts in_sp t_sp t_sp_ok n_sp hown hK hP hD hS 0 rfl rfl 0 (by decide) (hts _ kw_138) (fun _ h9 => h9) rfl hin rfl (by decide +kernel) rfl rfl (Nat.le_of_ble_eq_true rfl) d_sp_init_63 (fun H locs hP hD hS => ?_)
  have hP : va_P (dC, dI) vwCl [(h0, .inr (4, [.ref a1, .null, .ref q5, .ref q19, .ref q27, .ref q35, .ref q43, .ref q51, .int (-1), .int 0, .int 0])), (q5, .inr (5, [.ref q7_9, .ref q15_9, .ref q23_9, .ref q32_9])), (q7_9, .inl (cs 0, 126, .inl (fun _ => 0))), (q15_9, .inl (cs 0, 126, .inl (fun _ => 0))), (q23_9, .inl (cs 0, 126, .inl (fun _ => 0))), (q32_9, .inl (cs 0, 8001, .inl (fun _ => 0))), (q19, .inl (cs 0, 8001, .inl (fun _ => 0))), (q27, .inl (cs 0, 126, .inl (fun _ => 0))), (q35, .inl (cs 0, 126, .inl (fun _ => 0))), (q43, .inl (cs 0, 126, .inl (fun _ => 0))), (q51, .inl (cs 0, 126, .inl (fun _ => 0)))] H := hP
  have hD : va_D A [(h0, .inr (4, [.ref a1, .null, .ref q5, .ref q19, .ref q27, .ref q35, .ref q43, .ref q51, .int (-1), .int 0, .int 0])), (q5, .inr (5, [.ref q7_9, .ref q15_9, .ref q23_9, .ref q32_9])), (q7_9, .inl (cs 0, 126, .inl (fun _ => 0))), (q15_9, .inl (cs 0, 126, .inl (fun _ => 0))), (q23_9, .inl (cs 0, 126, .inl (fun _ => 0))), (q32_9, .inl (cs 0, 8001, .inl (fun _ => 0))), (q19, .inl (cs 0, 8001, .inl (fun _ => 0))), (q27, .inl (cs 0, 126, .inl (fun _ => 0))), (q35, .inl (cs 0, 126, .inl (fun _ => 0))), (q43, .inl (cs 0, 126, .inl (fun _ => 0))), (q51, .inl (cs 0, 126, .inl (fun _ => 0)))] := hD
  refine lv_aload_n hx hb d_sp_init_66 rfl (lv_at hl 0 rfl) ?_
  refine lv_aload_n hx hb d_sp_init_67 rfl (lv_at hl 2 rfl) ?_
  refine va_putF (D := (dC, dI)) (ci := 4) (v := .ref a2) (ty := (.object "SpaceBasis$Monomials")) (C := R_sp) (T := F_sp) (N := 11) hx hb hts in_sp t_sp t_sp_ok n_sp hown hK hP hD hS 0 rfl rfl 1 (by decide) (hts _ kw_139) (fun _ h9 => h9) rfl hin rfl (by decide +kernel) rfl rfl (Nat.le_of_ble_eq_true rfl) d_sp_init_68 (fun H locs hP hD hS => ?_)
  have hP : va_P (dC, dI) vwCl [(h0, .inr (4, [.ref a1, .ref a2, .ref q5, .ref q19, .ref q27, .ref q35, .ref q43, .ref q51, .int (-1), .int 0, .int 0])), (q5, .inr (5, [.ref q7_9, .ref q15_9, .ref q23_9, .ref q32_9])), (q7_9, .inl (cs 0, 126, .inl (fun _ => 0))), (q15_9, .inl (cs 0, 126, .inl (fun _ => 0))), (q23_9, .inl (cs 0, 126, .inl (fun _ => 0))), (q32_9, .inl (cs 0, 8001, .inl (fun _ => 0))), (q19, .inl (cs 0, 8001, .inl (fun _ => 0))), (q27, .inl (cs 0, 126, .inl (fun _ => 0))), (q35, .inl (cs 0, 126, .inl (fun _ => 0))), (q43, .inl (cs 0, 126, .inl (fun _ => 0))), (q51, .inl (cs 0, 126, .inl (fun _ => 0)))] H := hP
  have hD : va_D A [(h0, .inr (4, [.ref a1, .ref a2, .ref q5, .ref q19, .ref q27, .ref q35, .ref q43, .ref q51, .int (-1), .int 0, .int 0])), (q5, .inr (5, [.ref q7_9, .ref q15_9, .ref q23_9, .ref q32_9])), (q7_9, .inl (cs 0, 126, .inl (fun _ => 0))), (q15_9, .inl (cs 0, 126, .inl (fun _ => 0))), (q23_9, .inl (cs 0, 126, .inl (fun _ => 0))), (q32_9, .inl (cs 0, 8001, .inl (fun _ => 0))), (q19, .inl (cs 0, 8001, .inl (fun _ => 0))), (q27, .inl (cs 0, 126, .inl (fun _ => 0))), (q35, .inl (cs 0, 126, .inl (fun _ => 0))), (q43, .inl (cs 0, 126, .inl (fun _ => 0))), (q51, .inl (cs 0, 126, .inl (fun _ => 0)))] := hD
  have hP9 := hP.sub (ws' := [(h0, .inr (4, [.ref a1, .ref a2, .ref q5, .ref q19, .ref q27, .ref q35, .ref q43, .ref q51, .int (-1), .int 0, .int 0])), (q5, .inr (5, [.ref q7_9, .ref q15_9, .ref q23_9, .ref q32_9])), (q7_9, .inl (cs 0, 126, .inl (fun _ => 0))), (q15_9, .inl (cs 0, 126, .inl (fun _ => 0))), (q23_9, .inl (cs 0, 126, .inl (fun _ => 0))), (q32_9, .inl (cs 0, 8001, .inl (fun _ => 0))), (q19, .inl (cs 0, 8001, .inl (fun _ => 0))), (q27, .inl (cs 0, 126, .inl (fun _ => 0))), (q35, .inl (cs 0, 126, .inl (fun _ => 0))), (q43, .inl (cs 0, 126, .inl (fun _ => 0))), (q51, .inl (cs 0, 126, .inl (fun _ => 0)))]) [0, 1, 2, 3, 4, 5, 6, 7, 8, 9, 10] rfl
  have hD9 := hD.sub (ws' := [(h0, .inr (4, [.ref a1, .ref a2, .ref q5, .ref q19, .ref q27, .ref q35, .ref q43, .ref q51, .int (-1), .int 0, .int 0])), (q5, .inr (5, [.ref q7_9, .ref q15_9, .ref q23_9, .ref q32_9])), (q7_9, .inl (cs 0, 126, .inl (fun _ => 0))), (q15_9, .inl (cs 0, 126, .inl (fun _ => 0))), (q23_9, .inl (cs 0, 126, .inl (fun _ => 0))), (q32_9, .inl (cs 0, 8001, .inl (fun _ => 0))), (q19, .inl (cs 0, 8001, .inl (fun _ => 0))), (q27, .inl (cs 0, 126, .inl (fun _ => 0))), (q35, .inl (cs 0, 126, .inl (fun _ => 0))), (q43, .inl (cs 0, 126, .inl (fun _ => 0))), (q51, .inl (cs 0, 126, .inl (fun _ => 0)))]) [0, 1, 2, 3, 4, 5, 6, 7, 8, 9, 10] (by decide) rfl
  refine W.widen (k := 10) (n := 16888) (Nat.le_of_ble_eq_true rfl) (Nat.le_of_ble_eq_true rfl) ?_
  exact W.vret hx hb hr (fun t ht hW => ⟨⟨(q5, q7_9, q15_9, q23_9, q32_9, q19, q27, q35, q43, q51), rfl, trivial, by rw [ht]; exact hP9, hD9⟩, hS.F ht⟩) hS.2.2 d_sp_init_71
abbrev b_me_init : ByteArray := prog_3_method_1_code
def y_me_init : MethodName := ⟨"SpaceBasis$Members", "<init>", "(LSpaceBasis$Monomials;LSpaceBasis$Space;)V"⟩
def w_me_init : List Cond := Cond.code y_me_init b_me_init 3 none :: vwWS
theorem d_me_init_0 : decode b_me_init 0 = .ok (.aload_n 0, 1) := by decide +kernel
theorem d_me_init_1 : decode b_me_init 1 = .ok (.invokespecial 3, 3) := by decide +kernel
theorem d_me_init_4 : decode b_me_init 4 = .ok (.aload_n 0, 1) := by decide +kernel
theorem d_me_init_5 : decode b_me_init 5 = .ok (.sipush 8001, 3) := by decide +kernel
theorem d_me_init_8 : decode b_me_init 8 = .ok (.newarray .int, 2) := by decide +kernel
theorem d_me_init_10 : decode b_me_init 10 = .ok (.putfield 9, 3) := by decide +kernel
theorem d_me_init_13 : decode b_me_init 13 = .ok (.aload_n 0, 1) := by decide +kernel
theorem d_me_init_14 : decode b_me_init 14 = .ok (.bipush 126, 2) := by decide +kernel
theorem d_me_init_16 : decode b_me_init 16 = .ok (.newarray .int, 2) := by decide +kernel
theorem d_me_init_18 : decode b_me_init 18 = .ok (.putfield 15, 3) := by decide +kernel
theorem d_me_init_21 : decode b_me_init 21 = .ok (.aload_n 0, 1) := by decide +kernel
theorem d_me_init_22 : decode b_me_init 22 = .ok (.bipush 126, 2) := by decide +kernel
theorem d_me_init_24 : decode b_me_init 24 = .ok (.newarray .int, 2) := by decide +kernel
theorem d_me_init_26 : decode b_me_init 26 = .ok (.putfield 18, 3) := by decide +kernel
theorem d_me_init_29 : decode b_me_init 29 = .ok (.aload_n 0, 1) := by decide +kernel
theorem d_me_init_30 : decode b_me_init 30 = .ok (.aload_n 1, 1) := by decide +kernel
theorem d_me_init_31 : decode b_me_init 31 = .ok (.putfield 21, 3) := by decide +kernel
theorem d_me_init_34 : decode b_me_init 34 = .ok (.aload_n 0, 1) := by decide +kernel
theorem d_me_init_35 : decode b_me_init 35 = .ok (.aload_n 2, 1) := by decide +kernel
theorem d_me_init_36 : decode b_me_init 36 = .ok (.putfield 25, 3) := by decide +kernel
theorem d_me_init_39 : decode b_me_init 39 = .ok (.return_, 1) := by decide +kernel
/-- new SpaceBasis$Members -/
abbrev at_me_init (dC : Nat → ClassId) (dI : Nat → Nat → Nat) (cs : Nat → ClassId) (A : Nat → Prop) (h0 : Nat) (a1 : Nat) (a2 : Nat) (u : Nat × Nat × Nat) (t : State) : Prop := match u with
  | (q8, q16, q24) => va_P (dC, dI) vwCl [(h0, .inr (6, [.ref a1, .ref a2, .ref q8, .ref q16, .ref q24, .int 0, .int 0])), (q8, .inl (cs 0, 8001, .inl (fun _ => 0))), (q16, .inl (cs 0, 126, .inl (fun _ => 0))), (q24, .inl (cs 0, 126, .inl (fun _ => 0)))] t.heap ∧ va_D A [(h0, .inr (6, [.ref a1, .ref a2, .ref q8, .ref q16, .ref q24, .int 0, .int 0])), (q8, .inl (cs 0, 8001, .inl (fun _ => 0))), (q16, .inl (cs 0, 126, .inl (fun _ => 0))), (q24, .inl (cs 0, 126, .inl (fun _ => 0)))]
set_option maxHeartbeats 4000000 in
set_option maxRecDepth 100000 in
theorem c_me_init (l : Launch) (dC : Nat → ClassId) (dI : Nat → Nat → Nat) (cs : Nat → ClassId) (h0 : Nat) (a1 : Nat) (a2 : Nat) (sz : Nat) : Met l y_me_init w_me_init ({ frames := 1, cells := 3, slots := 8253, locals := 12 }) (va_Pc [.ref h0, .ref a1, .ref a2] (fun U => U.heap.size = sz ∧ va_P (dC, dI) vwCl [(h0, .inr (6, [.null, .null, .null, .null, .null, .int 0, .int 0]))] U.heap ∧ vwK dC dI cs U ∧ va_D (fun _ => True) [(h0, .inr (6, [.null, .null, .null, .null, .null, .int 0, .int 0]))])) (va_Qv (fun (_ : Nat × Nat × Nat) => True) (at_me_init dC dI cs (va_A [(h0, .inr (6, [.null, .null, .null, .null, .null, .int 0, .int 0]))] sz) h0 a1 a2) (va_A [(h0, .inr (6, [.null, .null, .null, .null, .null, .int 0, .int 0]))] sz)) 3 8253 (va_A [(h0, .inr (6, [.null, .null, .null, .null, .null, .int 0, .int 0]))] sz) := by
  refine Met.ofW (cc := b_me_init) (maxL := 3) (ret := none) (by decide) rfl ?_
  intro p e s m args below meth c s₁ B hml hpc
  obtain ⟨rfl, hsz, hP, ⟨hK, hN⟩, hD0⟩ := hpc
  have hx := B.exec
  have hb := B.bytes
  have hr := B.returns
  have hts : ∀ w ∈ vwWS, w.before _ s = true := fun w h => atoms_spec (ws := w_me_init) B.pre w (List.mem_cons_of_mem _ h)
  have hown : s.vm.findClass "SpaceBasis$Members" = some m.cls := findClass_of_methodNamed B.named
  have hlocks := B.notSynchronized
  have hin : meth.name = "<init>" := (name_of_methodNamed B.named B.method).1
  subst hsz
  have hD := hD0.self (sz := s.heap.size)
  generalize hAe : va_A [(h0, .inr (6, [.null, .null, .null, .null, .null, .int 0, .int 0]))] s.heap.size = A at hD ⊢
  have hA : ∀ q : Nat, s.heap.size ≤ q → A q := fun q h => by rw [← hAe]; exact Or.inr h
  have hS : va_S A s.heap s.heap [] := va_S.rf
  have hl := lv_entry ([.ref h0, .ref a1, .ref a2]) (n := 3) (Nat.le_of_ble_eq_true rfl)
  rw [lg_entry_eq]
  generalize (lg_sl ([.ref h0, .ref a1, .ref a2]) ++ List.replicate (3 - (lg_sl ([.ref h0, .ref a1, .ref a2])).length) Slot.unset).toArray = ls at hl ⊢
  have hl : lv_has ls 3 [(0, .ref h0), (1, .ref a1), (2, .ref a2)] := hl
  refine lv_aload_n hx hb d_me_init_0 rfl (lv_at hl 0 rfl) ?_
  refine W.objInit hx hb hown (hts _ kw_177) (hts _ kw_56) (hts _ kw_57) rfl (by rw [hml]; exact hl.1) rfl d_me_init_1 (Nat.le_of_ble_eq_true rfl) (Nat.le_of_ble_eq_true rfl) ?_
  refine W.eq (g2 := F0 m 4 ls []) rfl ?_
  refine lv_aload_n hx hb d_me_init_4 rfl (lv_at hl 0 rfl) ?_
  refine lv_sipush (v := 8001) hx hb d_me_init_5 (by decide) ?_
  refine va_newa (atype := .int) (N' := 8001) hx hb (hts _ kw_97) rfl hK hP hD hS hA (a0 := (8001, .inl (fun _ => 0))) (fun _ => rfl) (by decide) rfl (by decide) (Nat.le_of_ble_eq_true rfl) (Nat.le_of_ble_eq_true rfl) d_me_init_8 (fun q8 cA H hK2 hP hD hS => ?_)
  have e1 : s.vm.findClass ("[" ++ (FieldType.int).toString) = some cA := (hK2.2 4 _ rfl).2
  have e2 : s.vm.findClass ("[" ++ (FieldType.int).toString) = some (cs 0) := (hK2.2 0 _ rfl).2
  obtain rfl : cA = cs 0 := Option.some.inj (e1.symm.trans e2)
  have hP : va_P (dC, dI) vwCl [(h0, .inr (6, [.null, .null, .null, .null, .null, .int 0, .int 0])), (q8, .inl (cs 0, 8001, .inl (fun _ => 0)))] H := hP
  have hD : va_D A [(h0, .inr (6, [.null, .null, .null, .null, .null, .int 0, .int 0])), (q8, .inl (cs 0, 8001, .inl (fun _ => 0)))] := hD
  refine W.widen (k := 1) (n := 8001) (by omega) (by omega) ?_
  refine va_putF (D := (dC, dI)) (ci := 6) (v := .ref q8) (ty := (.array .int)) (C := R_me) (T := F_me) (N := 7) hx hb hts in_me t_me t_me_ok n_me hown hK hP hD hS 0 rfl rfl 2 (by decide) (hts _ kw_180) (fun _ h9 => h9) rfl hin rfl (by decide +kernel) rfl rfl (Nat.le_of_ble_eq_true rfl) d_me_init_10 (fun H locs hP hD hS => ?_)
  have hP : va_P (dC, dI) vwCl [(h0, .inr (6, [.null, .null, .ref q8, .null, .null, .int 0, .int 0])), (q8, .inl (cs 0, 8001, .inl (fun _ => 0)))] H := hP
  have hD : va_D A [(h0, .inr (6, [.null, .null, .ref q8, .null, .null, .int 0, .int 0])), (q8, .inl (cs 0, 8001, .inl (fun _ => 0)))] := hD
  refine lv_aload_n hx hb d_me_init_13 rfl (lv_at hl 0 rfl) ?_
  refine lv_bipush (v := 126) hx hb d_me_init_14 (by decide) ?_
  refine va_newa (atype := .int) (N' := 126) hx hb (hts _ kw_97) rfl hK hP hD hS hA (a0 := (126, .inl (fun _ => 0))) (fun _ => rfl) (by decide) rfl (by decide) (Nat.le_of_ble_eq_true rfl) (Nat.le_of_ble_eq_true rfl) d_me_init_16 (fun q16 cA H hK2 hP hD hS => ?_)
  have e1 : s.vm.findClass ("[" ++ (FieldType.int).toString) = some cA := (hK2.2 4 _ rfl).2
  have e2 : s.vm.findClass ("[" ++ (FieldType.int).toString) = some (cs 0) := (hK2.2 0 _ rfl).2
  obtain rfl : cA = cs 0 := Option.some.inj (e1.symm.trans e2)
  have hP : va_P (dC, dI) vwCl [(h0, .inr (6, [.null, .null, .ref q8, .null, .null, .int 0, .int 0])), (q8, .inl (cs 0, 8001, .inl (fun _ => 0))), (q16, .inl (cs 0, 126, .inl (fun _ => 0)))] H := hP
  have hD : va_D A [(h0, .inr (6, [.null, .null, .ref q8, .null, .null, .int 0, .int 0])), (q8, .inl (cs 0, 8001, .inl (fun _ => 0))), (q16, .inl (cs 0, 126, .inl (fun _ => 0)))] := hD
  refine W.widen (k := 2) (n := 8127) (by omega) (by omega) ?_
  refine va_putF (D := (dC, dI)) (ci := 6) (v := .ref q16) (ty := (.array .int)) (C := R_me) (T := F_me) (N := 7) hx hb hts in_me t_me t_me_ok n_me hown hK hP hD hS 0 rfl rfl 3 (by decide) (hts _ kw_181) (fun _ h9 => h9) rfl hin rfl (by decide +kernel) rfl rfl (Nat.le_of_ble_eq_true rfl) d_me_init_18 (fun H locs hP hD hS => ?_)
  have hP : va_P (dC, dI) vwCl [(h0, .inr (6, [.null, .null, .ref q8, .ref q16, .null, .int 0, .int 0])), (q8, .inl (cs 0, 8001, .inl (fun _ => 0))), (q16, .inl (cs 0, 126, .inl (fun _ => 0)))] H := hP
  have hD : va_D A [(h0, .inr (6, [.null, .null, .ref q8, .ref q16, .null, .int 0, .int 0])), (q8, .inl (cs 0, 8001, .inl (fun _ => 0))), (q16, .inl (cs 0, 126, .inl (fun _ => 0)))] := hD
  refine lv_aload_n hx hb d_me_init_21 rfl (lv_at hl 0 rfl) ?_
  refine lv_bipush (v := 126) hx hb d_me_init_22 (by decide) ?_
  refine va_newa (atype := .int) (N' := 126) hx hb (hts _ kw_97) rfl hK hP hD hS hA (a0 := (126, .inl (fun _ => 0))) (fun _ => rfl) (by decide) rfl (by decide) (Nat.le_of_ble_eq_true rfl) (Nat.le_of_ble_eq_true rfl) d_me_init_24 (fun q24 cA H hK2 hP hD hS => ?_)
  have e1 : s.vm.findClass ("[" ++ (FieldType.int).toString) = some cA := (hK2.2 4 _ rfl).2
  have e2 : s.vm.findClass ("[" ++ (FieldType.int).toString) = some (cs 0) := (hK2.2 0 _ rfl).2
  obtain rfl : cA = cs 0 := Option.some.inj (e1.symm.trans e2)
  have hP : va_P (dC, dI) vwCl [(h0, .inr (6, [.null, .null, .ref q8, .ref q16, .null, .int 0, .int 0])), (q8, .inl (cs 0, 8001, .inl (fun _ => 0))), (q16, .inl (cs 0, 126, .inl (fun _ => 0))), (q24, .inl (cs 0, 126, .inl (fun _ => 0)))] H := hP
  have hD : va_D A [(h0, .inr (6, [.null, .null, .ref q8, .ref q16, .null, .int 0, .int 0])), (q8, .inl (cs 0, 8001, .inl (fun _ => 0))), (q16, .inl (cs 0, 126, .inl (fun _ => 0))), (q24, .inl (cs 0, 126, .inl (fun _ => 0)))] := hD
  refine W.widen (k := 3) (n := 8253) (by omega) (by omega) ?_
  refine va_putF (D := (dC, dI)) (ci := 6) (v := .ref q24) (ty := (.array .int)) (C := R_me) (T := F_me) (N := 7) hx hb hts in_me t_me t_me_ok n_me hown hK hP hD hS 0 rfl rfl 4 (by decide) (hts _ kw_182) (fun _ h9 => h9) rfl hin rfl (by decide +kernel) rfl rfl (Nat.le_of_ble_eq_true rfl) d_me_init_26 (fun H locs hP hD hS => ?_)
  have hP : va_P (dC, dI) vwCl [(h0, .inr (6, [.null, .null, .ref q8, .ref q16, .ref q24, .int 0, .int 0])), (q8, .inl (cs 0, 8001, .inl (fun _ => 0))), (q16, .inl (cs 0, 126, .inl (fun _ => 0))), (q24, .inl (cs 0, 126, .inl (fun _ => 0)))] H := hP
  have hD : va_D A [(h0, .inr (6, [.null, .null, .ref q8, .ref q16, .ref q24, .int 0, .int 0])), (q8, .inl (cs 0, 8001, .inl (fun _ => 0))), (q16, .inl (cs 0, 126, .inl (fun _ => 0))), (q24, .inl (cs 0, 126, .inl (fun _ => 0)))] := hD
  refine lv_aload_n hx hb d_me_init_29 rfl (lv_at hl 0 rfl) ?_
  refine lv_aload_n hx hb d_me_init_30 rfl (lv_at hl 1 rfl) ?_
  refine va_putF (D := (dC, dI)) (ci := 6) (v := .ref a1) (ty := (.object "SpaceBasis$Monomials")) (C := R_me) (T := F_me) (N := 7) hx hb hts in_me t_me t_me_ok n_me hown hK hP hD hS 0 rfl rfl 0 (by decide) (hts _ kw_178) (fun _ h9 => h9) rfl hin rfl (by decide +kernel) rfl rfl (Nat.le_of_ble_eq_true rfl) d_me_init_31 (fun H locs hP hD hS => ?_)
  have hP : va_P (dC, dI) vwCl [(h0, .inr (6, [.ref a1, .null, .ref q8, .ref q16, .ref q24, .int 0, .int 0])), (q8, .inl (cs 0, 8001, .inl (fun _ => 0))), (q16, .inl (cs 0, 126, .inl (fun _ => 0))), (q24, .inl (cs 0, 126, .inl (fun _ => 0)))] H := hP
  have hD : va_D A [(h0, .inr (6, [.ref a1, .null, .ref q8, .ref q16, .ref q24, .int 0, .int 0])), (q8, .inl (cs 0, 8001, .inl (fun _ => 0))), (q16, .inl (cs 0, 126, .inl (fun _ => 0))), (q24, .inl (cs 0, 126, .inl (fun _ => 0)))] := hD
  refine lv_aload_n hx hb d_me_init_34 rfl (lv_at hl 0 rfl) ?_
  refine lv_aload_n hx hb d_me_init_35 rfl (lv_at hl 2 rfl) ?_
  refine va_putF (D := (dC, dI)) (ci := 6) (v := .ref a2) (ty := (.object "SpaceBasis$Space")) (C := R_me) (T := F_me) (N := 7) hx hb hts in_me t_me t_me_ok n_me hown hK hP hD hS 0 rfl rfl 1 (by decide) (hts _ kw_179) (fun _ h9 => h9) rfl hin rfl (by decide +kernel) rfl rfl (Nat.le_of_ble_eq_true rfl) d_me_init_36 (fun H locs hP hD hS => ?_)
  have hP : va_P (dC, dI) vwCl [(h0, .inr (6, [.ref a1, .ref a2, .ref q8, .ref q16, .ref q24, .int 0, .int 0])), (q8, .inl (cs 0, 8001, .inl (fun _ => 0))), (q16, .inl (cs 0, 126, .inl (fun _ => 0))), (q24, .inl (cs 0, 126, .inl (fun _ => 0)))] H := hP
  have hD : va_D A [(h0, .inr (6, [.ref a1, .ref a2, .ref q8, .ref q16, .ref q24, .int 0, .int 0])), (q8, .inl (cs 0, 8001, .inl (fun _ => 0))), (q16, .inl (cs 0, 126, .inl (fun _ => 0))), (q24, .inl (cs 0, 126, .inl (fun _ => 0)))] := hD
  have hP9 := hP.sub (ws' := [(h0, .inr (6, [.ref a1, .ref a2, .ref q8, .ref q16, .ref q24, .int 0, .int 0])), (q8, .inl (cs 0, 8001, .inl (fun _ => 0))), (q16, .inl (cs 0, 126, .inl (fun _ => 0))), (q24, .inl (cs 0, 126, .inl (fun _ => 0)))]) [0, 1, 2, 3] rfl
  have hD9 := hD.sub (ws' := [(h0, .inr (6, [.ref a1, .ref a2, .ref q8, .ref q16, .ref q24, .int 0, .int 0])), (q8, .inl (cs 0, 8001, .inl (fun _ => 0))), (q16, .inl (cs 0, 126, .inl (fun _ => 0))), (q24, .inl (cs 0, 126, .inl (fun _ => 0)))]) [0, 1, 2, 3] (by decide) rfl
  refine W.widen (k := 3) (n := 8253) (Nat.le_of_ble_eq_true rfl) (Nat.le_of_ble_eq_true rfl) ?_
  exact W.vret hx hb hr (fun t ht hW => ⟨⟨(q8, q16, q24), rfl, trivial, by rw [ht]; exact hP9, hD9⟩, hS.F ht⟩) hS.2.2 d_me_init_39
abbrev b_pr_init : ByteArray := prog_7_method_1_code
def y_pr_init : MethodName := ⟨"SpaceBasis$Proof", "<init>", "(LSpaceBasis$Modulus;LSpaceBasis$Generators;LSpaceBasis$Space;)V"⟩
def w_pr_init : List Cond := Cond.code y_pr_init b_pr_init 4 none :: vwWS
theorem d_pr_init_0 : decode b_pr_init 0 = .ok (.aload_n 0, 1) := by decide +kernel
theorem d_pr_init_1 : decode b_pr_init 1 = .ok (.invokespecial 3, 3) := by decide +kernel
theorem d_pr_init_4 : decode b_pr_init 4 = .ok (.aload_n 0, 1) := by decide +kernel
theorem d_pr_init_5 : decode b_pr_init 5 = .ok (.bipush 126, 2) := by decide +kernel
theorem d_pr_init_7 : decode b_pr_init 7 = .ok (.newarray .int, 2) := by decide +kernel
theorem d_pr_init_9 : decode b_pr_init 9 = .ok (.putfield 9, 3) := by decide +kernel
theorem d_pr_init_12 : decode b_pr_init 12 = .ok (.aload_n 0, 1) := by decide +kernel
theorem d_pr_init_13 : decode b_pr_init 13 = .ok (.aload_n 1, 1) := by decide +kernel
theorem d_pr_init_14 : decode b_pr_init 14 = .ok (.putfield 15, 3) := by decide +kernel
theorem d_pr_init_17 : decode b_pr_init 17 = .ok (.aload_n 0, 1) := by decide +kernel
theorem d_pr_init_18 : decode b_pr_init 18 = .ok (.aload_n 2, 1) := by decide +kernel
theorem d_pr_init_19 : decode b_pr_init 19 = .ok (.putfield 19, 3) := by decide +kernel
theorem d_pr_init_22 : decode b_pr_init 22 = .ok (.aload_n 0, 1) := by decide +kernel
theorem d_pr_init_23 : decode b_pr_init 23 = .ok (.aload_n 3, 1) := by decide +kernel
theorem d_pr_init_24 : decode b_pr_init 24 = .ok (.putfield 23, 3) := by decide +kernel
theorem d_pr_init_27 : decode b_pr_init 27 = .ok (.return_, 1) := by decide +kernel
/-- new SpaceBasis$Proof -/
abbrev at_pr_init (dC : Nat → ClassId) (dI : Nat → Nat → Nat) (cs : Nat → ClassId) (A : Nat → Prop) (h0 : Nat) (a1 : Nat) (a2 : Nat) (a3 : Nat) (u : Nat) (t : State) : Prop := match u with
  | q7 => va_P (dC, dI) vwCl [(h0, .inr (7, [.ref a1, .ref a2, .ref a3, .ref q7, .int 0])), (q7, .inl (cs 0, 126, .inl (fun _ => 0)))] t.heap ∧ va_D A [(h0, .inr (7, [.ref a1, .ref a2, .ref a3, .ref q7, .int 0])), (q7, .inl (cs 0, 126, .inl (fun _ => 0)))]
set_option maxHeartbeats 4000000 in
set_option maxRecDepth 100000 in
theorem c_pr_init (l : Launch) (dC : Nat → ClassId) (dI : Nat → Nat → Nat) (cs : Nat → ClassId) (h0 : Nat) (a1 : Nat) (a2 : Nat) (a3 : Nat) (sz : Nat) : Met l y_pr_init w_pr_init ({ frames := 1, cells := 1, slots := 126, locals := 12 }) (va_Pc [.ref h0, .ref a1, .ref a2, .ref a3] (fun U => U.heap.size = sz ∧ va_P (dC, dI) vwCl [(h0, .inr (7, [.null, .null, .null, .null, .int 0]))] U.heap ∧ vwK dC dI cs U ∧ va_D (fun _ => True) [(h0, .inr (7, [.null, .null, .null, .null, .int 0]))])) (va_Qv (fun (_ : Nat) => True) (at_pr_init dC dI cs (va_A [(h0, .inr (7, [.null, .null, .null, .null, .int 0]))] sz) h0 a1 a2 a3) (va_A [(h0, .inr (7, [.null, .null, .null, .null, .int 0]))] sz)) 1 126 (va_A [(h0, .inr (7, [.null, .null, .null, .null, .int 0]))] sz) := by
  refine Met.ofW (cc := b_pr_init) (maxL := 4) (ret := none) (by decide) rfl ?_
  intro p e s m args below meth c s₁ B hml hpc
  obtain ⟨rfl, hsz, hP, ⟨hK, hN⟩, hD0⟩ := hpc
  have hx := B.exec
  have hb := B.bytes
  have hr := B.returns
  have hts : ∀ w ∈ vwWS, w.before _ s = true := fun w h => atoms_spec (ws := w_pr_init) B.pre w (List.mem_cons_of_mem _ h)
  have hown : s.vm.findClass "SpaceBasis$Proof" = some m.cls := findClass_of_methodNamed B.named
  have hlocks := B.notSynchronized
  have hin : meth.name = "<init>" := (name_of_methodNamed B.named B.method).1
  subst hsz
  have hD := hD0.self (sz := s.heap.size)
  generalize hAe : va_A [(h0, .inr (7, [.null, .null, .null, .null, .int 0]))] s.heap.size = A at hD ⊢
  have hA : ∀ q : Nat, s.heap.size ≤ q → A q := fun q h => by rw [← hAe]; exact Or.inr h
  have hS : va_S A s.heap s.heap [] := va_S.rf
  have hl := lv_entry ([.ref h0, .ref a1, .ref a2, .ref a3]) (n := 4) (Nat.le_of_ble_eq_true rfl)
  rw [lg_entry_eq]
  generalize (lg_sl ([.ref h0, .ref a1, .ref a2, .ref a3]) ++ List.replicate (4 - (lg_sl ([.ref h0, .ref a1, .ref a2, .ref a3])).length) Slot.unset).toArray = ls at hl ⊢
  have hl : lv_has ls 4 [(0, .ref h0), (1, .ref a1), (2, .ref a2), (3, .ref a3)] := hl
  refine lv_aload_n hx hb d_pr_init_0 rfl (lv_at hl 0 rfl) ?_
  refine W.objInit hx hb hown (hts _ kw_205) (hts _ kw_56) (hts _ kw_57) rfl (by rw [hml]; exact hl.1) rfl d_pr_init_1 (Nat.le_of_ble_eq_true rfl) (Nat.le_of_ble_eq_true rfl) ?_
  refine W.eq (g2 := F0 m 4 ls []) rfl ?_
  refine lv_aload_n hx hb d_pr_init_4 rfl (lv_at hl 0 rfl) ?_
  refine lv_bipush (v := 126) hx hb d_pr_init_5 (by decide) ?_
  refine va_newa (atype := .int) (N' := 126) hx hb (hts _ kw_97) rfl hK hP hD hS hA (a0 := (126, .inl (fun _ => 0))) (fun _ => rfl) (by decide) rfl (by decide) (Nat.le_of_ble_eq_true rfl) (Nat.le_of_ble_eq_true rfl) d_pr_init_7 (fun q7 cA H hK2 hP hD hS => ?_)
  have e1 : s.vm.findClass ("[" ++ (FieldType.int).toString) = some cA := (hK2.2 4 _ rfl).2
  have e2 : s.vm.findClass ("[" ++ (FieldType.int).toString) = some (cs 0) := (hK2.2 0 _ rfl).2
  obtain rfl : cA = cs 0 := Option.some.inj (e1.symm.trans e2)
  have hP : va_P (dC, dI) vwCl [(h0, .inr (7, [.null, .null, .null, .null, .int 0])), (q7, .inl (cs 0, 126, .inl (fun _ => 0)))] H := hP
  have hD : va_D A [(h0, .inr (7, [.null, .null, .null, .null, .int 0])), (q7, .inl (cs 0, 126, .inl (fun _ => 0)))] := hD
  refine W.widen (k := 1) (n := 126) (by omega) (by omega) ?_
  refine va_putF (D := (dC, dI)) (ci := 7) (v := .ref q7) (ty := (.array .int)) (C := R_pr) (T := F_pr) (N := 5) hx hb hts in_pr t_pr t_pr_ok n_pr hown hK hP hD hS 0 rfl rfl 3 (by decide) (hts _ kw_209) (fun _ h9 => h9) rfl hin rfl (by decide +kernel) rfl rfl (Nat.le_of_ble_eq_true rfl) d_pr_init_9 (fun H locs hP hD hS => ?_)
  have hP : va_P (dC, dI) vwCl [(h0, .inr (7, [.null, .null, .null, .ref q7, .int 0])), (q7, .inl (cs 0, 126, .inl (fun _ => 0)))] H := hP
  have hD : va_D A [(h0, .inr (7, [.null, .null, .null, .ref q7, .int 0])), (q7, .inl (cs 0, 126, .inl (fun _ => 0)))] := hD
  refine lv_aload_n hx hb d_pr_init_12 rfl (lv_at hl 0 rfl) ?_
  refine lv_aload_n hx hb d_pr_init_13 rfl (lv_at hl 1 rfl) ?_
  refine va_putF (D := (dC, dI)) (ci := 7) (v := .ref a1) (ty := (.object "SpaceBasis$Modulus")) (C := R_pr) (T := F_pr) (N := 5) hx hb hts in_pr t_pr t_pr_ok n_pr hown hK hP hD hS 0 rfl rfl 0 (by decide) (hts _ kw_206) (fun _ h9 => h9) rfl hin rfl (by decide +kernel) rfl rfl (Nat.le_of_ble_eq_true rfl) d_pr_init_14 (fun H locs hP hD hS => ?_)
  have hP : va_P (dC, dI) vwCl [(h0, .inr (7, [.ref a1, .null, .null, .ref q7, .int 0])), (q7, .inl (cs 0, 126, .inl (fun _ => 0)))] H := hP
  have hD : va_D A [(h0, .inr (7, [.ref a1, .null, .null, .ref q7, .int 0])), (q7, .inl (cs 0, 126, .inl (fun _ => 0)))] := hD
  refine lv_aload_n hx hb d_pr_init_17 rfl (lv_at hl 0 rfl) ?_
  refine lv_aload_n hx hb d_pr_init_18 rfl (lv_at hl 2 rfl) ?_
  refine va_putF (D := (dC, dI)) (ci := 7) (v := .ref a2) (ty := (.object "SpaceBasis$Generators")) (C := R_pr) (T := F_pr) (N := 5) hx hb hts in_pr t_pr t_pr_ok n_pr hown hK hP hD hS 0 rfl rfl 1 (by decide) (hts _ kw_207) (fun _ h9 => h9) rfl hin rfl (by decide +kernel) rfl rfl (Nat.le_of_ble_eq_true rfl) d_pr_init_19 (fun H locs hP hD hS => ?_)
  have hP : va_P (dC, dI) vwCl [(h0, .inr (7, [.ref a1, .ref a2, .null, .ref q7, .int 0])), (q7, .inl (cs 0, 126, .inl (fun _ => 0)))] H := hP
  have hD : va_D A [(h0, .inr (7, [.ref a1, .ref a2, .null, .ref q7, .int 0])), (q7, .inl (cs 0, 126, .inl (fun _ => 0)))] := hD
  refine lv_aload_n hx hb d_pr_init_22 rfl (lv_at hl 0 rfl) ?_
  refine lv_aload_n hx hb d_pr_init_23 rfl (lv_at hl 3 rfl) ?_
  refine va_putF (D := (dC, dI)) (ci := 7) (v := .ref a3) (ty := (.object "SpaceBasis$Space")) (C := R_pr) (T := F_pr) (N := 5) hx hb hts in_pr t_pr t_pr_ok n_pr hown hK hP hD hS 0 rfl rfl 2 (by decide) (hts _ kw_208) (fun _ h9 => h9) rfl hin rfl (by decide +kernel) rfl rfl (Nat.le_of_ble_eq_true rfl) d_pr_init_24 (fun H locs hP hD hS => ?_)
  have hP : va_P (dC, dI) vwCl [(h0, .inr (7, [.ref a1, .ref a2, .ref a3, .ref q7, .int 0])), (q7, .inl (cs 0, 126, .inl (fun _ => 0)))] H := hP
  have hD : va_D A [(h0, .inr (7, [.ref a1, .ref a2, .ref a3, .ref q7, .int 0])), (q7, .inl (cs 0, 126, .inl (fun _ => 0)))] := hD
  have hP9 := hP.sub (ws' := [(h0, .inr (7, [.ref a1, .ref a2, .ref a3, .ref q7, .int 0])), (q7, .inl (cs 0, 126, .inl (fun _ => 0)))]) [0, 1] rfl
  have hD9 := hD.sub (ws' := [(h0, .inr (7, [.ref a1, .ref a2, .ref a3, .ref q7, .int 0])), (q7, .inl (cs 0, 126, .inl (fun _ => 0)))]) [0, 1] (by decide) rfl
  refine W.widen (k := 1) (n := 126) (Nat.le_of_ble_eq_true rfl) (Nat.le_of_ble_eq_true rfl) ?_
  exact W.vret hx hb hr (fun t ht hW => ⟨⟨q7, rfl, trivial, by rw [ht]; exact hP9, hD9⟩, hS.F ht⟩) hS.2.2 d_pr_init_27
