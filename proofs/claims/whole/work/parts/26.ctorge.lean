abbrev b_ge_init : ByteArray := prog_2_method_1_code
def y_ge_init : MethodName := ⟨"SpaceBasis$Generators", "<init>", "()V"⟩
def w_ge_init : List Cond := Cond.code y_ge_init b_ge_init 1 none :: vwWS
theorem d_ge_init_0 : decode b_ge_init 0 = .ok (.aload_n 0, 1) := by decide +kernel
theorem d_ge_init_1 : decode b_ge_init 1 = .ok (.invokespecial 3, 3) := by decide +kernel
theorem d_ge_init_4 : decode b_ge_init 4 = .ok (.aload_n 0, 1) := by decide +kernel
theorem d_ge_init_5 : decode b_ge_init 5 = .ok (.bipush 8, 2) := by decide +kernel
theorem d_ge_init_7 : decode b_ge_init 7 = .ok (.bipush 126, 2) := by decide +kernel
theorem d_ge_init_9 : decode b_ge_init 9 = .ok (.multianewarray 9 2, 4) := by decide +kernel
theorem d_ge_init_13 : decode b_ge_init 13 = .ok (.putfield 11, 3) := by decide +kernel
theorem d_ge_init_16 : decode b_ge_init 16 = .ok (.aload_n 0, 1) := by decide +kernel
theorem d_ge_init_17 : decode b_ge_init 17 = .ok (.bipush 8, 2) := by decide +kernel
theorem d_ge_init_19 : decode b_ge_init 19 = .ok (.newarray .int, 2) := by decide +kernel
theorem d_ge_init_21 : decode b_ge_init 21 = .ok (.putfield 16, 3) := by decide +kernel
theorem d_ge_init_24 : decode b_ge_init 24 = .ok (.return_, 1) := by decide +kernel
/-- new SpaceBasis$Generators -/
abbrev at_ge_init (dC : Nat → ClassId) (dI : Nat → Nat → Nat) (cs : Nat → ClassId) (A : Nat → Prop) (h0 : Nat) (u : Nat × (Nat → Nat) × Nat) (t : State) : Prop := match u with
  | (q9, r9, q19) => va_P (dC, dI) vwCl [(h0, .inr (3, [.ref q9, .ref q19, .int 0])), (q9, .inl (cs 1, 8, .inr (.inr (.inr (.inr (fun i => if i < 8 then some (r9 i) else none)))))), (r9 0, .inl (cs 0, 126, .inl (fun _ => 0))), (r9 1, .inl (cs 0, 126, .inl (fun _ => 0))), (r9 2, .inl (cs 0, 126, .inl (fun _ => 0))), (r9 3, .inl (cs 0, 126, .inl (fun _ => 0))), (r9 4, .inl (cs 0, 126, .inl (fun _ => 0))), (r9 5, .inl (cs 0, 126, .inl (fun _ => 0))), (r9 6, .inl (cs 0, 126, .inl (fun _ => 0))), (r9 7, .inl (cs 0, 126, .inl (fun _ => 0))), (q19, .inl (cs 0, 8, .inl (fun _ => 0)))] t.heap ∧ va_D A [(h0, .inr (3, [.ref q9, .ref q19, .int 0])), (q9, .inl (cs 1, 8, .inr (.inr (.inr (.inr (fun i => if i < 8 then some (r9 i) else none)))))), (r9 0, .inl (cs 0, 126, .inl (fun _ => 0))), (r9 1, .inl (cs 0, 126, .inl (fun _ => 0))), (r9 2, .inl (cs 0, 126, .inl (fun _ => 0))), (r9 3, .inl (cs 0, 126, .inl (fun _ => 0))), (r9 4, .inl (cs 0, 126, .inl (fun _ => 0))), (r9 5, .inl (cs 0, 126, .inl (fun _ => 0))), (r9 6, .inl (cs 0, 126, .inl (fun _ => 0))), (r9 7, .inl (cs 0, 126, .inl (fun _ => 0))), (q19, .inl (cs 0, 8, .inl (fun _ => 0)))]
set_option maxHeartbeats 4000000 in
set_option maxRecDepth 100000 in
theorem c_ge_init (l : Launch) (dC : Nat → ClassId) (dI : Nat → Nat → Nat) (cs : Nat → ClassId) (h0 : Nat) (sz : Nat) : Met l y_ge_init w_ge_init ({ frames := 1, cells := 10, slots := 1024, locals := 12 }) (va_Pc [.ref h0] (fun U => U.heap.size = sz ∧ va_P (dC, dI) vwCl [(h0, .inr (3, [.null, .null, .int 0]))] U.heap ∧ vwK dC dI cs U ∧ va_D (fun _ => True) [(h0, .inr (3, [.null, .null, .int 0]))] ∧ vwO U)) (va_Qv (fun (_ : Nat × (Nat → Nat) × Nat) => True) (at_ge_init dC dI cs (va_A [(h0, .inr (3, [.null, .null, .int 0]))] sz) h0) (va_A [(h0, .inr (3, [.null, .null, .int 0]))] sz)) 10 1024 (va_A [(h0, .inr (3, [.null, .null, .int 0]))] sz) := by
  refine Met.ofW (cc := b_ge_init) (maxL := 1) (ret := none) (by decide) rfl ?_
  intro p e s m args below meth c s₁ B hml hpc
  obtain ⟨rfl, hsz, hP, ⟨hK, hN⟩, hD0, hO⟩ := hpc
  have hx := B.exec
  have hb := B.bytes
  have hr := B.returns
  have hts : ∀ w ∈ vwWS, w.before _ s = true := fun w h => atoms_spec (ws := w_ge_init) B.pre w (List.mem_cons_of_mem _ h)
  have hown : s.vm.findClass "SpaceBasis$Generators" = some m.cls := findClass_of_methodNamed B.named
  have hlocks := B.notSynchronized
  have hin : meth.name = "<init>" := (name_of_methodNamed B.named B.method).1
  subst hsz
  have hD := hD0.self (sz := s.heap.size)
  generalize hAe : va_A [(h0, .inr (3, [.null, .null, .int 0]))] s.heap.size = A at hD ⊢
  have hA : ∀ q : Nat, s.heap.size ≤ q → A q := fun q h => by rw [← hAe]; exact Or.inr h
  have hS : va_S A s.heap s.heap [] := va_S.rf
  have hl := lv_entry ([.ref h0]) (n := 1) (Nat.le_of_ble_eq_true rfl)
  rw [lg_entry_eq]
  generalize (lg_sl ([.ref h0]) ++ List.replicate (1 - (lg_sl ([.ref h0])).length) Slot.unset).toArray = ls at hl ⊢
  have hl : lv_has ls 1 [(0, .ref h0)] := hl
  refine lv_aload_n hx hb d_ge_init_0 rfl (lv_at hl 0 rfl) ?_
  refine W.objInit hx hb hown (hts _ kw_102) (hts _ kw_56) (hts _ kw_57) rfl (by rw [hml]; exact hl.1) rfl d_ge_init_1 (Nat.le_of_ble_eq_true rfl) (Nat.le_of_ble_eq_true rfl) ?_
  refine W.eq (g2 := F0 m 4 ls []) rfl ?_
  refine lv_aload_n hx hb d_ge_init_4 rfl (lv_at hl 0 rfl) ?_
  refine lv_bipush (v := 8) hx hb d_ge_init_5 (by decide) ?_
  refine lv_bipush (v := 126) hx hb d_ge_init_7 (by decide) ?_
  refine va_mna (X := [(h0, .inr (3, [.null, .null, .int 0]))]) (L := []) (f := fun _ => .inr (0, [])) (ty := .int) (cy := cs 0) (N' := 8) (K' := 126) (z := (126, .inl (fun _ => 0))) hx hb hown (by rw [vw_gg]; exact hts _ kw_103) (vwO.use hO) (hts _ kw_97) (hK.2 0 _ rfl).2 hK hP hD hS hA (by decide) (by decide) rfl rfl (by decide) (by decide) (by decide) rfl rfl (Nat.le_of_ble_eq_true rfl) (Nat.le_of_ble_eq_true rfl) (fun c9 => by show ({ cls := c9, slots := Array.replicate 126 (.int 0), vm := .none } : Cell) = _; rw [arrV_new]; rfl) d_ge_init_9 (fun q9 r9 cA H _ _ hK2 hP hD hS => ?_)
  rw [vw_rows8] at hP hD
  have e1 : s.vm.findClass ("[" ++ (FieldType.array .int).toString) = some cA := (hK2.2 4 _ rfl).2
  have e2 : s.vm.findClass ("[" ++ (FieldType.array .int).toString) = some (cs 1) := (hK2.2 1 _ rfl).2
  obtain rfl : cA = cs 1 := Option.some.inj (e1.symm.trans e2)
  have hP : va_P (dC, dI) vwCl [(h0, .inr (3, [.null, .null, .int 0])), (q9, .inl (cs 1, 8, .inr (.inr (.inr (.inr (fun i => if i < 8 then some (r9 i) else none)))))), (r9 0, .inl (cs 0, 126, .inl (fun _ => 0))), (r9 1, .inl (cs 0, 126, .inl (fun _ => 0))), (r9 2, .inl (cs 0, 126, .inl (fun _ => 0))), (r9 3, .inl (cs 0, 126, .inl (fun _ => 0))), (r9 4, .inl (cs 0, 126, .inl (fun _ => 0))), (r9 5, .inl (cs 0, 126, .inl (fun _ => 0))), (r9 6, .inl (cs 0, 126, .inl (fun _ => 0))), (r9 7, .inl (cs 0, 126, .inl (fun _ => 0)))] H := hP
  have hD : va_D A [(h0, .inr (3, [.null, .null, .int 0])), (q9, .inl (cs 1, 8, .inr (.inr (.inr (.inr (fun i => if i < 8 then some (r9 i) else none)))))), (r9 0, .inl (cs 0, 126, .inl (fun _ => 0))), (r9 1, .inl (cs 0, 126, .inl (fun _ => 0))), (r9 2, .inl (cs 0, 126, .inl (fun _ => 0))), (r9 3, .inl (cs 0, 126, .inl (fun _ => 0))), (r9 4, .inl (cs 0, 126, .inl (fun _ => 0))), (r9 5, .inl (cs 0, 126, .inl (fun _ => 0))), (r9 6, .inl (cs 0, 126, .inl (fun _ => 0))), (r9 7, .inl (cs 0, 126, .inl (fun _ => 0)))] := hD
  refine W.widen (k := 9) (n := 1016) (by omega) (by omega) ?_
  refine va_putF (D := (dC, dI)) (ci := 3) (v := .ref q9) (ty := (.array (.array .int))) (C := R_ge) (T := F_ge) (N := 3) hx hb hts in_ge t_ge t_ge_ok n_ge hown hK hP hD hS 0 rfl rfl 0 (by decide) (hts _ kw_104) (fun _ h9 => h9) rfl hin rfl (by decide +kernel) rfl rfl (Nat.le_of_ble_eq_true rfl) d_ge_init_13 (fun H locs hP hD hS => ?_)
  have hP : va_P (dC, dI) vwCl [(h0, .inr (3, [.ref q9, .null, .int 0])), (q9, .inl (cs 1, 8, .inr (.inr (.inr (.inr (fun i => if i < 8 then some (r9 i) else none)))))), (r9 0, .inl (cs 0, 126, .inl (fun _ => 0))), (r9 1, .inl (cs 0, 126, .inl (fun _ => 0))), (r9 2, .inl (cs 0, 126, .inl (fun _ => 0))), (r9 3, .inl (cs 0, 126, .inl (fun _ => 0))), (r9 4, .inl (cs 0, 126, .inl (fun _ => 0))), (r9 5, .inl (cs 0, 126, .inl (fun _ => 0))), (r9 6, .inl (cs 0, 126, .inl (fun _ => 0))), (r9 7, .inl (cs 0, 126, .inl (fun _ => 0)))] H := hP
  have hD : va_D A [(h0, .inr (3, [.ref q9, .null, .int 0])), (q9, .inl (cs 1, 8, .inr (.inr (.inr (.inr (fun i => if i < 8 then some (r9 i) else none)))))), (r9 0, .inl (cs 0, 126, .inl (fun _ => 0))), (r9 1, .inl (cs 0, 126, .inl (fun _ => 0))), (r9 2, .inl (cs 0, 126, .inl (fun _ => 0))), (r9 3, .inl (cs 0, 126, .inl (fun _ => 0))), (r9 4, .inl (cs 0, 126, .inl (fun _ => 0))), (r9 5, .inl (cs 0, 126, .inl (fun _ => 0))), (r9 6, .inl (cs 0, 126, .inl (fun _ => 0))), (r9 7, .inl (cs 0, 126, .inl (fun _ => 0)))] := hD
  refine lv_aload_n hx hb d_ge_init_16 rfl (lv_at hl 0 rfl) ?_
  refine lv_bipush (v := 8) hx hb d_ge_init_17 (by decide) ?_
  refine va_newa (atype := .int) (N' := 8) hx hb (hts _ kw_97) rfl hK hP hD hS hA (a0 := (8, .inl (fun _ => 0))) (fun _ => rfl) (by decide) rfl (by decide) (Nat.le_of_ble_eq_true rfl) (Nat.le_of_ble_eq_true rfl) d_ge_init_19 (fun q19 cA H hK2 hP hD hS => ?_)
  have e1 : s.vm.findClass ("[" ++ (FieldType.int).toString) = some cA := (hK2.2 4 _ rfl).2
  have e2 : s.vm.findClass ("[" ++ (FieldType.int).toString) = some (cs 0) := (hK2.2 0 _ rfl).2
  obtain rfl : cA = cs 0 := Option.some.inj (e1.symm.trans e2)
  have hP : va_P (dC, dI) vwCl [(h0, .inr (3, [.ref q9, .null, .int 0])), (q9, .inl (cs 1, 8, .inr (.inr (.inr (.inr (fun i => if i < 8 then some (r9 i) else none)))))), (r9 0, .inl (cs 0, 126, .inl (fun _ => 0))), (r9 1, .inl (cs 0, 126, .inl (fun _ => 0))), (r9 2, .inl (cs 0, 126, .inl (fun _ => 0))), (r9 3, .inl (cs 0, 126, .inl (fun _ => 0))), (r9 4, .inl (cs 0, 126, .inl (fun _ => 0))), (r9 5, .inl (cs 0, 126, .inl (fun _ => 0))), (r9 6, .inl (cs 0, 126, .inl (fun _ => 0))), (r9 7, .inl (cs 0, 126, .inl (fun _ => 0))), (q19, .inl (cs 0, 8, .inl (fun _ => 0)))] H := hP
  have hD : va_D A [(h0, .inr (3, [.ref q9, .null, .int 0])), (q9, .inl (cs 1, 8, .inr (.inr (.inr (.inr (fun i => if i < 8 then some (r9 i) else none)))))), (r9 0, .inl (cs 0, 126, .inl (fun _ => 0))), (r9 1, .inl (cs 0, 126, .inl (fun _ => 0))), (r9 2, .inl (cs 0, 126, .inl (fun _ => 0))), (r9 3, .inl (cs 0, 126, .inl (fun _ => 0))), (r9 4, .inl (cs 0, 126, .inl (fun _ => 0))), (r9 5, .inl (cs 0, 126, .inl (fun _ => 0))), (r9 6, .inl (cs 0, 126, .inl (fun _ => 0))), (r9 7, .inl (cs 0, 126, .inl (fun _ => 0))), (q19, .inl (cs 0, 8, .inl (fun _ => 0)))] := hD
  refine W.widen (k := 10) (n := 1024) (by omega) (by omega) ?_
  refine va_putF (D := (dC, dI)) (ci := 3) (v := .ref q19) (ty := (.array .int)) (C := R_ge) (T := F_ge) (N := 3) hx hb hts in_ge t_ge t_ge_ok n_ge hown hK hP hD hS 0 rfl rfl 1 (by decide) (hts _ kw_105) (fun _ h9 => h9) rfl hin rfl (by decide +kernel) rfl rfl (Nat.le_of_ble_eq_true rfl) d_ge_init_21 (fun H locs hP hD hS => ?_)
  have hP : va_P (dC, dI) vwCl [(h0, .inr (3, [.ref q9, .ref q19, .int 0])), (q9, .inl (cs 1, 8, .inr (.inr (.inr (.inr (fun i => if i < 8 then some (r9 i) else none)))))), (r9 0, .inl (cs 0, 126, .inl (fun _ => 0))), (r9 1, .inl (cs 0, 126, .inl (fun _ => 0))), (r9 2, .inl (cs 0, 126, .inl (fun _ => 0))), (r9 3, .inl (cs 0, 126, .inl (fun _ => 0))), (r9 4, .inl (cs 0, 126, .inl (fun _ => 0))), (r9 5, .inl (cs 0, 126, .inl (fun _ => 0))), (r9 6, .inl (cs 0, 126, .inl (fun _ => 0))), (r9 7, .inl (cs 0, 126, .inl (fun _ => 0))), (q19, .inl (cs 0, 8, .inl (fun _ => 0)))] H := hP
  have hD : va_D A [(h0, .inr (3, [.ref q9, .ref q19, .int 0])), (q9, .inl (cs 1, 8, .inr (.inr (.inr (.inr (fun i => if i < 8 then some (r9 i) else none)))))), (r9 0, .inl (cs 0, 126, .inl (fun _ => 0))), (r9 1, .inl (cs 0, 126, .inl (fun _ => 0))), (r9 2, .inl (cs 0, 126, .inl (fun _ => 0))), (r9 3, .inl (cs 0, 126, .inl (fun _ => 0))), (r9 4, .inl (cs 0, 126, .inl (fun _ => 0))), (r9 5, .inl (cs 0, 126, .inl (fun _ => 0))), (r9 6, .inl (cs 0, 126, .inl (fun _ => 0))), (r9 7, .inl (cs 0, 126, .inl (fun _ => 0))), (q19, .inl (cs 0, 8, .inl (fun _ => 0)))] := hD
  have hP9 := hP.sub (ws' := [(h0, .inr (3, [.ref q9, .ref q19, .int 0])), (q9, .inl (cs 1, 8, .inr (.inr (.inr (.inr (fun i => if i < 8 then some (r9 i) else none)))))), (r9 0, .inl (cs 0, 126, .inl (fun _ => 0))), (r9 1, .inl (cs 0, 126, .inl (fun _ => 0))), (r9 2, .inl (cs 0, 126, .inl (fun _ => 0))), (r9 3, .inl (cs 0, 126, .inl (fun _ => 0))), (r9 4, .inl (cs 0, 126, .inl (fun _ => 0))), (r9 5, .inl (cs 0, 126, .inl (fun _ => 0))), (r9 6, .inl (cs 0, 126, .inl (fun _ => 0))), (r9 7, .inl (cs 0, 126, .inl (fun _ => 0))), (q19, .inl (cs 0, 8, .inl (fun _ => 0)))]) [0, 1, 2, 3, 4, 5, 6, 7, 8, 9, 10] rfl
  have hD9 := hD.sub (ws' := [(h0, .inr (3, [.ref q9, .ref q19, .int 0])), (q9, .inl (cs 1, 8, .inr (.inr (.inr (.inr (fun i => if i < 8 then some (r9 i) else none)))))), (r9 0, .inl (cs 0, 126, .inl (fun _ => 0))), (r9 1, .inl (cs 0, 126, .inl (fun _ => 0))), (r9 2, .inl (cs 0, 126, .inl (fun _ => 0))), (r9 3, .inl (cs 0, 126, .inl (fun _ => 0))), (r9 4, .inl (cs 0, 126, .inl (fun _ => 0))), (r9 5, .inl (cs 0, 126, .inl (fun _ => 0))), (r9 6, .inl (cs 0, 126, .inl (fun _ => 0))), (r9 7, .inl (cs 0, 126, .inl (fun _ => 0))), (q19, .inl (cs 0, 8, .inl (fun _ => 0)))]) [0, 1, 2, 3, 4, 5, 6, 7, 8, 9, 10] (by decide) rfl
  refine W.widen (k := 10) (n := 1024) (Nat.le_of_ble_eq_true rfl) (Nat.le_of_ble_eq_true rfl) ?_
  exact W.vret hx hb hr (fun t ht hW => ⟨⟨(q9, r9, q19), rfl, trivial, by rw [ht]; exact hP9, hD9⟩, hS.F ht⟩) hS.2.2 d_ge_init_24
