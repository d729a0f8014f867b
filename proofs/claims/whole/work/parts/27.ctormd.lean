abbrev b_md_init : ByteArray := prog_10_method_1_code
def y_md_init : MethodName := ⟨"SpaceBasisModel", "<init>", "()V"⟩
def w_md_init : List Cond := Cond.code y_md_init b_md_init 1 none :: vwWS
theorem d_md_init_0 : decode b_md_init 0 = .ok (.aload_n 0, 1) := by decide +kernel
theorem d_md_init_1 : decode b_md_init 1 = .ok (.invokespecial 1, 3) := by decide +kernel
theorem d_md_init_4 : decode b_md_init 4 = .ok (.aload_n 0, 1) := by decide +kernel
theorem d_md_init_5 : decode b_md_init 5 = .ok (.iconst 0, 1) := by decide +kernel
theorem d_md_init_6 : decode b_md_init 6 = .ok (.putfield 7, 3) := by decide +kernel
theorem d_md_init_9 : decode b_md_init 9 = .ok (.aload_n 0, 1) := by decide +kernel
theorem d_md_init_10 : decode b_md_init 10 = .ok (.bipush 7, 2) := by decide +kernel
theorem d_md_init_12 : decode b_md_init 12 = .ok (.putfield 13, 3) := by decide +kernel
theorem d_md_init_15 : decode b_md_init 15 = .ok (.aload_n 0, 1) := by decide +kernel
theorem d_md_init_16 : decode b_md_init 16 = .ok (.iconst 2, 1) := by decide +kernel
theorem d_md_init_17 : decode b_md_init 17 = .ok (.putfield 16, 3) := by decide +kernel
theorem d_md_init_20 : decode b_md_init 20 = .ok (.aload_n 0, 1) := by decide +kernel
theorem d_md_init_21 : decode b_md_init 21 = .ok (.iconst 0, 1) := by decide +kernel
theorem d_md_init_22 : decode b_md_init 22 = .ok (.putfield 19, 3) := by decide +kernel
theorem d_md_init_25 : decode b_md_init 25 = .ok (.aload_n 0, 1) := by decide +kernel
theorem d_md_init_26 : decode b_md_init 26 = .ok (.iconst 0, 1) := by decide +kernel
theorem d_md_init_27 : decode b_md_init 27 = .ok (.putfield 22, 3) := by decide +kernel
theorem d_md_init_30 : decode b_md_init 30 = .ok (.aload_n 0, 1) := by decide +kernel
theorem d_md_init_31 : decode b_md_init 31 = .ok (.bipush 126, 2) := by decide +kernel
theorem d_md_init_33 : decode b_md_init 33 = .ok (.newarray .int, 2) := by decide +kernel
theorem d_md_init_35 : decode b_md_init 35 = .ok (.putfield 25, 3) := by decide +kernel
theorem d_md_init_38 : decode b_md_init 38 = .ok (.aload_n 0, 1) := by decide +kernel
theorem d_md_init_39 : decode b_md_init 39 = .ok (.bipush 126, 2) := by decide +kernel
theorem d_md_init_41 : decode b_md_init 41 = .ok (.newarray .int, 2) := by decide +kernel
theorem d_md_init_43 : decode b_md_init 43 = .ok (.putfield 29, 3) := by decide +kernel
theorem d_md_init_46 : decode b_md_init 46 = .ok (.aload_n 0, 1) := by decide +kernel
theorem d_md_init_47 : decode b_md_init 47 = .ok (.iconst 0, 1) := by decide +kernel
theorem d_md_init_48 : decode b_md_init 48 = .ok (.putfield 32, 3) := by decide +kernel
theorem d_md_init_51 : decode b_md_init 51 = .ok (.aload_n 0, 1) := by decide +kernel
theorem d_md_init_52 : decode b_md_init 52 = .ok (.sipush 1008, 3) := by decide +kernel
theorem d_md_init_55 : decode b_md_init 55 = .ok (.newarray .int, 2) := by decide +kernel
theorem d_md_init_57 : decode b_md_init 57 = .ok (.putfield 35, 3) := by decide +kernel
theorem d_md_init_60 : decode b_md_init 60 = .ok (.aload_n 0, 1) := by decide +kernel
theorem d_md_init_61 : decode b_md_init 61 = .ok (.bipush 126, 2) := by decide +kernel
theorem d_md_init_63 : decode b_md_init 63 = .ok (.newarray .int, 2) := by decide +kernel
theorem d_md_init_65 : decode b_md_init 65 = .ok (.putfield 38, 3) := by decide +kernel
theorem d_md_init_68 : decode b_md_init 68 = .ok (.aload_n 0, 1) := by decide +kernel
theorem d_md_init_69 : decode b_md_init 69 = .ok (.iconst 0, 1) := by decide +kernel
theorem d_md_init_70 : decode b_md_init 70 = .ok (.putfield 41, 3) := by decide +kernel
theorem d_md_init_73 : decode b_md_init 73 = .ok (.aload_n 0, 1) := by decide +kernel
theorem d_md_init_74 : decode b_md_init 74 = .ok (.iconst 0, 1) := by decide +kernel
theorem d_md_init_75 : decode b_md_init 75 = .ok (.putfield 45, 3) := by decide +kernel
theorem d_md_init_78 : decode b_md_init 78 = .ok (.aload_n 0, 1) := by decide +kernel
theorem d_md_init_79 : decode b_md_init 79 = .ok (.bipush 126, 2) := by decide +kernel
theorem d_md_init_81 : decode b_md_init 81 = .ok (.newarray .boolean, 2) := by decide +kernel
theorem d_md_init_83 : decode b_md_init 83 = .ok (.putfield 48, 3) := by decide +kernel
theorem d_md_init_86 : decode b_md_init 86 = .ok (.aload_n 0, 1) := by decide +kernel
theorem d_md_init_87 : decode b_md_init 87 = .ok (.sipush 15876, 3) := by decide +kernel
theorem d_md_init_90 : decode b_md_init 90 = .ok (.newarray .int, 2) := by decide +kernel
theorem d_md_init_92 : decode b_md_init 92 = .ok (.putfield 52, 3) := by decide +kernel
theorem d_md_init_95 : decode b_md_init 95 = .ok (.aload_n 0, 1) := by decide +kernel
theorem d_md_init_96 : decode b_md_init 96 = .ok (.bipush 126, 2) := by decide +kernel
theorem d_md_init_98 : decode b_md_init 98 = .ok (.newarray .int, 2) := by decide +kernel
theorem d_md_init_100 : decode b_md_init 100 = .ok (.putfield 55, 3) := by decide +kernel
theorem d_md_init_103 : decode b_md_init 103 = .ok (.aload_n 0, 1) := by decide +kernel
theorem d_md_init_104 : decode b_md_init 104 = .ok (.bipush 126, 2) := by decide +kernel
theorem d_md_init_106 : decode b_md_init 106 = .ok (.newarray .int, 2) := by decide +kernel
theorem d_md_init_108 : decode b_md_init 108 = .ok (.putfield 58, 3) := by decide +kernel
theorem d_md_init_111 : decode b_md_init 111 = .ok (.aload_n 0, 1) := by decide +kernel
theorem d_md_init_112 : decode b_md_init 112 = .ok (.iconst 0, 1) := by decide +kernel
theorem d_md_init_113 : decode b_md_init 113 = .ok (.putfield 61, 3) := by decide +kernel
theorem d_md_init_116 : decode b_md_init 116 = .ok (.aload_n 0, 1) := by decide +kernel
theorem d_md_init_117 : decode b_md_init 117 = .ok (.iconst 0, 1) := by decide +kernel
theorem d_md_init_118 : decode b_md_init 118 = .ok (.putfield 64, 3) := by decide +kernel
theorem d_md_init_121 : decode b_md_init 121 = .ok (.aload_n 0, 1) := by decide +kernel
theorem d_md_init_122 : decode b_md_init 122 = .ok (.bipush 7, 2) := by decide +kernel
theorem d_md_init_124 : decode b_md_init 124 = .ok (.iconst 2, 1) := by decide +kernel
theorem d_md_init_125 : decode b_md_init 125 = .ok (.iconst 0, 1) := by decide +kernel
theorem d_md_init_126 : decode b_md_init 126 = .ok (.invokevirtual 67, 3) := by decide +kernel
theorem d_md_init_129 : decode b_md_init 129 = .ok (.return_, 1) := by decide +kernel
/-- new SpaceBasisModel: all its cells -/
abbrev at_md_init (dC : Nat → ClassId) (dI : Nat → Nat → Nat) (cs : Nat → ClassId) (A : Nat → Prop) (h0 : Nat) (u : (Nat → Nat) × Int32 × Int32 × Int32 × Int32 × Int32 × Int32 × (Nat → Int32) × (Nat → Int32) × (Nat → Int32)) (t : State) : Prop := match u with
  | (ad, md_p, md_n, md_order, md_monomials, md_generators, md_found, md_mono, md_degree, md_hand) => ad 0 = h0 ∧ va_P (dC, dI) vwCl [((ad 0), .inr (8, [.int 0, .int md_p, .int md_n, .int md_order, .int md_monomials, .ref (ad 1), .ref (ad 2), .int md_generators, .ref (ad 3), .ref (ad 4), .int md_found, .int 0, .ref (ad 5), .ref (ad 6), .ref (ad 7), .ref (ad 8), .int 0, .int 0])), ((ad 1), .inl (cs 0, 126, .inl md_mono)), ((ad 2), .inl (cs 0, 126, .inl md_degree)), ((ad 3), .inl (cs 0, 1008, .inl (fun _ => 0))), ((ad 4), .inl (cs 0, 126, .inl md_hand)), ((ad 5), .inl (cs 2, 126, .inl (fun _ => 0))), ((ad 6), .inl (cs 0, 15876, .inl (fun _ => 0))), ((ad 7), .inl (cs 0, 126, .inl (fun _ => 0))), ((ad 8), .inl (cs 0, 126, .inl (fun _ => 0)))] t.heap ∧ va_D A [((ad 0), .inr (8, [.int 0, .int md_p, .int md_n, .int md_order, .int md_monomials, .ref (ad 1), .ref (ad 2), .int md_generators, .ref (ad 3), .ref (ad 4), .int md_found, .int 0, .ref (ad 5), .ref (ad 6), .ref (ad 7), .ref (ad 8), .int 0, .int 0])), ((ad 1), .inl (cs 0, 126, .inl md_mono)), ((ad 2), .inl (cs 0, 126, .inl md_degree)), ((ad 3), .inl (cs 0, 1008, .inl (fun _ => 0))), ((ad 4), .inl (cs 0, 126, .inl md_hand)), ((ad 5), .inl (cs 2, 126, .inl (fun _ => 0))), ((ad 6), .inl (cs 0, 15876, .inl (fun _ => 0))), ((ad 7), .inl (cs 0, 126, .inl (fun _ => 0))), ((ad 8), .inl (cs 0, 126, .inl (fun _ => 0)))]
def vc_md_init (Q : Int32 → Int32 → Int32 → Int32 → Int32 → Int32 → (Nat → Int32) → (Nat → Int32) → (Nat → Int32) → Prop) : Prop := vc_md_fresh 0 7 2 0 0 0 0 0 0 0 (fun _ => 0) (fun _ => 0) (fun _ => 0) 7 2 0 (fun (md_p_1 : Int32) (md_n_2 : Int32) (md_order_3 : Int32) (md_monomials_4 : Int32) (md_generators_5 : Int32) (md_found_6 : Int32) (md_mono_7 : Nat → Int32) (md_degree_8 : Nat → Int32) (md_hand_9 : Nat → Int32) => Q md_p_1 md_n_2 md_order_3 md_monomials_4 md_generators_5 md_found_6 md_mono_7 md_degree_8 md_hand_9)
set_option maxHeartbeats 8000000 in
set_option maxRecDepth 100000 in
theorem c_md_init (l : Launch) (dC : Nat → ClassId) (dI : Nat → Nat → Nat) (cs : Nat → ClassId) (h0 : Nat) (sz : Nat) (Q : Int32 → Int32 → Int32 → Int32 → Int32 → Int32 → (Nat → Int32) → (Nat → Int32) → (Nat → Int32) → Prop) (hv : vc_md_init Q) : Met l y_md_init w_md_init ({ frames := 5, cells := 8, slots := 17640, locals := 115 }) (va_Pc [.ref h0] (fun U => U.heap.size = sz ∧ va_P (dC, dI) vwCl [(h0, .inr (8, [.int 0, .int 0, .int 0, .int 0, .int 0, .null, .null, .int 0, .null, .null, .int 0, .int 0, .null, .null, .null, .null, .int 0, .int 0]))] U.heap ∧ vwK dC dI cs U ∧ va_D (fun _ => True) [(h0, .inr (8, [.int 0, .int 0, .int 0, .int 0, .int 0, .null, .null, .int 0, .null, .null, .int 0, .int 0, .null, .null, .null, .null, .int 0, .int 0]))])) (va_Qv (fun (u : (Nat → Nat) × Int32 × Int32 × Int32 × Int32 × Int32 × Int32 × (Nat → Int32) × (Nat → Int32) × (Nat → Int32)) => Q u.2.1 u.2.2.1 u.2.2.2.1 u.2.2.2.2.1 u.2.2.2.2.2.1 u.2.2.2.2.2.2.1 u.2.2.2.2.2.2.2.1 u.2.2.2.2.2.2.2.2.1 u.2.2.2.2.2.2.2.2.2) (at_md_init dC dI cs (va_A [(h0, .inr (8, [.int 0, .int 0, .int 0, .int 0, .int 0, .null, .null, .int 0, .null, .null, .int 0, .int 0, .null, .null, .null, .null, .int 0, .int 0]))] sz) h0) (va_A [(h0, .inr (8, [.int 0, .int 0, .int 0, .int 0, .int 0, .null, .null, .int 0, .null, .null, .int 0, .int 0, .null, .null, .null, .null, .int 0, .int 0]))] sz)) 8 17640 (va_A [(h0, .inr (8, [.int 0, .int 0, .int 0, .int 0, .int 0, .null, .null, .int 0, .null, .null, .int 0, .int 0, .null, .null, .null, .null, .int 0, .int 0]))] sz) := by
  unfold vc_md_init at hv
  refine Met.ofW (cc := b_md_init) (maxL := 1) (ret := none) (by decide) rfl ?_
  intro p e s m args below meth c s₁ B hml hpc
  obtain ⟨rfl, hsz, hP, ⟨hK, hN⟩, hD0⟩ := hpc
  have hx := B.exec
  have hb := B.bytes
  have hr := B.returns
  have hts : ∀ w ∈ vwWS, w.before _ s = true := fun w h => atoms_spec (ws := w_md_init) B.pre w (List.mem_cons_of_mem _ h)
  have hown : s.vm.findClass "SpaceBasisModel" = some m.cls := findClass_of_methodNamed B.named
  have hlocks := B.notSynchronized
  have hin : meth.name = "<init>" := (name_of_methodNamed B.named B.method).1
  subst hsz
  have hD := hD0.self (sz := s.heap.size)
  generalize hAe : va_A [(h0, .inr (8, [.int 0, .int 0, .int 0, .int 0, .int 0, .null, .null, .int 0, .null, .null, .int 0, .int 0, .null, .null, .null, .null, .int 0, .int 0]))] s.heap.size = A at hD ⊢
  have hA : ∀ q : Nat, s.heap.size ≤ q → A q := fun q h => by rw [← hAe]; exact Or.inr h
  have hS : va_S A s.heap s.heap [] := va_S.rf
  clear hAe
  have hl := lv_entry ([.ref h0]) (n := 1) (Nat.le_of_ble_eq_true rfl)
  rw [lg_entry_eq]
  generalize (lg_sl ([.ref h0]) ++ List.replicate (1 - (lg_sl ([.ref h0])).length) Slot.unset).toArray = ls at hl ⊢
  have hl : lv_has ls 1 [(0, .ref h0)] := hl
  refine lv_aload_n hx hb d_md_init_0 rfl (lv_at hl 0 rfl) ?_
  refine W.objInit hx hb hown (hts _ kw_599) (hts _ kw_56) (hts _ kw_57) rfl (by rw [hml]; exact hl.1) rfl d_md_init_1 (Nat.le_of_ble_eq_true rfl) (Nat.le_of_ble_eq_true rfl) ?_
  refine W.eq (g2 := F0 m 4 ls []) rfl ?_
  refine lv_aload_n hx hb d_md_init_4 rfl (lv_at hl 0 rfl) ?_
  refine lv_iconst (v := 0) hx hb d_md_init_5 (by decide) ?_
  refine va_put (D := (dC, dI)) (ci := 8) (v := .int 0) (ty := .int) (C := R_md) (T := F_md) (N := 18) hx hb hts in_md t_md t_md_ok n_md hown hK hP hD hS 0 rfl rfl 0 (by decide) (hts _ kw_618) (fun _ h9 => h9) rfl (by decide +kernel) rfl rfl (Nat.le_of_ble_eq_true rfl) d_md_init_6 (fun H locs hP hD hS => ?_)
  have hP : va_P (dC, dI) vwCl [(h0, .inr (8, [.int 0, .int 0, .int 0, .int 0, .int 0, .null, .null, .int 0, .null, .null, .int 0, .int 0, .null, .null, .null, .null, .int 0, .int 0]))] H := hP
  have hD : va_D A [(h0, .inr (8, [.int 0, .int 0, .int 0, .int 0, .int 0, .null, .null, .int 0, .null, .null, .int 0, .int 0, .null, .null, .null, .null, .int 0, .int 0]))] := hD
  refine lv_aload_n hx hb d_md_init_9 rfl (lv_at hl 0 rfl) ?_
  refine lv_bipush (v := 7) hx hb d_md_init_10 (by decide) ?_
  refine va_put (D := (dC, dI)) (ci := 8) (v := .int 7) (ty := .int) (C := R_md) (T := F_md) (N := 18) hx hb hts in_md t_md t_md_ok n_md hown hK hP hD hS 0 rfl rfl 1 (by decide) (hts _ kw_619) (fun _ h9 => h9) rfl (by decide +kernel) rfl rfl (Nat.le_of_ble_eq_true rfl) d_md_init_12 (fun H locs hP hD hS => ?_)
  have hP : va_P (dC, dI) vwCl [(h0, .inr (8, [.int 0, .int 7, .int 0, .int 0, .int 0, .null, .null, .int 0, .null, .null, .int 0, .int 0, .null, .null, .null, .null, .int 0, .int 0]))] H := hP
  have hD : va_D A [(h0, .inr (8, [.int 0, .int 7, .int 0, .int 0, .int 0, .null, .null, .int 0, .null, .null, .int 0, .int 0, .null, .null, .null, .null, .int 0, .int 0]))] := hD
  refine lv_aload_n hx hb d_md_init_15 rfl (lv_at hl 0 rfl) ?_
  refine lv_iconst (v := 2) hx hb d_md_init_16 (by decide) ?_
  refine va_put (D := (dC, dI)) (ci := 8) (v := .int 2) (ty := .int) (C := R_md) (T := F_md) (N := 18) hx hb hts in_md t_md t_md_ok n_md hown hK hP hD hS 0 rfl rfl 2 (by decide) (hts _ kw_620) (fun _ h9 => h9) rfl (by decide +kernel) rfl rfl (Nat.le_of_ble_eq_true rfl) d_md_init_17 (fun H locs hP hD hS => ?_)
  have hP : va_P (dC, dI) vwCl [(h0, .inr (8, [.int 0, .int 7, .int 2, .int 0, .int 0, .null, .null, .int 0, .null, .null, .int 0, .int 0, .null, .null, .null, .null, .int 0, .int 0]))] H := hP
  have hD : va_D A [(h0, .inr (8, [.int 0, .int 7, .int 2, .int 0, .int 0, .null, .null, .int 0, .null, .null, .int 0, .int 0, .null, .null, .null, .null, .int 0, .int 0]))] := hD
  refine lv_aload_n hx hb d_md_init_20 rfl (lv_at hl 0 rfl) ?_
  refine lv_iconst (v := 0) hx hb d_md_init_21 (by decide) ?_
  refine va_put (D := (dC, dI)) (ci := 8) (v := .int 0) (ty := .int) (C := R_md) (T := F_md) (N := 18) hx hb hts in_md t_md t_md_ok n_md hown hK hP hD hS 0 rfl rfl 3 (by decide) (hts _ kw_621) (fun _ h9 => h9) rfl (by decide +kernel) rfl rfl (Nat.le_of_ble_eq_true rfl) d_md_init_22 (fun H locs hP hD hS => ?_)
  have hP : va_P (dC, dI) vwCl [(h0, .inr (8, [.int 0, .int 7, .int 2, .int 0, .int 0, .null, .null, .int 0, .null, .null, .int 0, .int 0, .null, .null, .null, .null, .int 0, .int 0]))] H := hP
  have hD : va_D A [(h0, .inr (8, [.int 0, .int 7, .int 2, .int 0, .int 0, .null, .null, .int 0, .null, .null, .int 0, .int 0, .null, .null, .null, .null, .int 0, .int 0]))] := hD
  refine lv_aload_n hx hb d_md_init_25 rfl (lv_at hl 0 rfl) ?_
  refine lv_iconst (v := 0) hx hb d_md_init_26 (by decide) ?_
  refine va_put (D := (dC, dI)) (ci := 8) (v := .int 0) (ty := .int) (C := R_md) (T := F_md) (N := 18) hx hb hts in_md t_md t_md_ok n_md hown hK hP hD hS 0 rfl rfl 4 (by decide) (hts _ kw_622) (fun _ h9 => h9) rfl (by decide +kernel) rfl rfl (Nat.le_of_ble_eq_true rfl) d_md_init_27 (fun H locs hP hD hS => ?_)
  have hP : va_P (dC, dI) vwCl [(h0, .inr (8, [.int 0, .int 7, .int 2, .int 0, .int 0, .null, .null, .int 0, .null, .null, .int 0, .int 0, .null, .null, .null, .null, .int 0, .int 0]))] H := hP
  have hD : va_D A [(h0, .inr (8, [.int 0, .int 7, .int 2, .int 0, .int 0, .null, .null, .int 0, .null, .null, .int 0, .int 0, .null, .null, .null, .null, .int 0, .int 0]))] := hD
  refine lv_aload_n hx hb d_md_init_30 rfl (lv_at hl 0 rfl) ?_
  refine lv_bipush (v := 126) hx hb d_md_init_31 (by decide) ?_
  refine va_newa (atype := .int) (N' := 126) hx hb (hts _ kw_97) rfl hK hP hD hS hA (a0 := (126, .inl (fun _ => 0))) (fun _ => rfl) (by decide) rfl (by decide) (Nat.le_of_ble_eq_true rfl) (Nat.le_of_ble_eq_true rfl) d_md_init_33 (fun q33 cA H hK2 hP hD hS => ?_)
  have e1 : s.vm.findClass ("[" ++ (FieldType.int).toString) = some cA := (hK2.2 4 _ rfl).2
  have e2 : s.vm.findClass ("[" ++ (FieldType.int).toString) = some (cs 0) := (hK2.2 0 _ rfl).2
  obtain rfl : cA = cs 0 := Option.some.inj (e1.symm.trans e2)
  have hP : va_P (dC, dI) vwCl [(h0, .inr (8, [.int 0, .int 7, .int 2, .int 0, .int 0, .null, .null, .int 0, .null, .null, .int 0, .int 0, .null, .null, .null, .null, .int 0, .int 0])), (q33, .inl (cs 0, 126, .inl (fun _ => 0)))] H := hP
  have hD : va_D A [(h0, .inr (8, [.int 0, .int 7, .int 2, .int 0, .int 0, .null, .null, .int 0, .null, .null, .int 0, .int 0, .null, .null, .null, .null, .int 0, .int 0])), (q33, .inl (cs 0, 126, .inl (fun _ => 0)))] := hD
  refine W.widen (k := 1) (n := 126) (by omega) (by omega) ?_
  refine va_putF (D := (dC, dI)) (ci := 8) (v := .ref q33) (ty := (.array .int)) (C := R_md) (T := F_md) (N := 18) hx hb hts in_md t_md t_md_ok n_md hown hK hP hD hS 0 rfl rfl 5 (by decide) (hts _ kw_623) (fun _ h9 => h9) rfl hin rfl (by decide +kernel) rfl rfl (Nat.le_of_ble_eq_true rfl) d_md_init_35 (fun H locs hP hD hS => ?_)
  have hP : va_P (dC, dI) vwCl [(h0, .inr (8, [.int 0, .int 7, .int 2, .int 0, .int 0, .ref q33, .null, .int 0, .null, .null, .int 0, .int 0, .null, .null, .null, .null, .int 0, .int 0])), (q33, .inl (cs 0, 126, .inl (fun _ => 0)))] H := hP
  have hD : va_D A [(h0, .inr (8, [.int 0, .int 7, .int 2, .int 0, .int 0, .ref q33, .null, .int 0, .null, .null, .int 0, .int 0, .null, .null, .null, .null, .int 0, .int 0])), (q33, .inl (cs 0, 126, .inl (fun _ => 0)))] := hD
  refine lv_aload_n hx hb d_md_init_38 rfl (lv_at hl 0 rfl) ?_
  refine lv_bipush (v := 126) hx hb d_md_init_39 (by decide) ?_
  refine va_newa (atype := .int) (N' := 126) hx hb (hts _ kw_97) rfl hK hP hD hS hA (a0 := (126, .inl (fun _ => 0))) (fun _ => rfl) (by decide) rfl (by decide) (Nat.le_of_ble_eq_true rfl) (Nat.le_of_ble_eq_true rfl) d_md_init_41 (fun q41 cA H hK2 hP hD hS => ?_)
  have e1 : s.vm.findClass ("[" ++ (FieldType.int).toString) = some cA := (hK2.2 4 _ rfl).2
  have e2 : s.vm.findClass ("[" ++ (FieldType.int).toString) = some (cs 0) := (hK2.2 0 _ rfl).2
  obtain rfl : cA = cs 0 := Option.some.inj (e1.symm.trans e2)
  have hP : va_P (dC, dI) vwCl [(h0, .inr (8, [.int 0, .int 7, .int 2, .int 0, .int 0, .ref q33, .null, .int 0, .null, .null, .int 0, .int 0, .null, .null, .null, .null, .int 0, .int 0])), (q33, .inl (cs 0, 126, .inl (fun _ => 0))), (q41, .inl (cs 0, 126, .inl (fun _ => 0)))] H := hP
  have hD : va_D A [(h0, .inr (8, [.int 0, .int 7, .int 2, .int 0, .int 0, .ref q33, .null, .int 0, .null, .null, .int 0, .int 0, .null, .null, .null, .null, .int 0, .int 0])), (q33, .inl (cs 0, 126, .inl (fun _ => 0))), (q41, .inl (cs 0, 126, .inl (fun _ => 0)))] := hD
  refine W.widen (k := 2) (n := 252) (by omega) (by omega) ?_
  refine va_putF (D := (dC, dI)) (ci := 8) (v := .ref q41) (ty := (.array .int)) (C := R_md) (T := F_md) (N := 18) hx hb hts in_md t_md t_md_ok n_md hown hK hP hD hS 0 rfl rfl 6 (by decide) (hts _ kw_624) (fun _ h9 => h9) rfl hin rfl (by decide +kernel) rfl rfl (Nat.le_of_ble_eq_true rfl) d_md_init_43 (fun H locs hP hD hS => ?_)
  have hP : va_P (dC, dI) vwCl [(h0, .inr (8, [.int 0, .int 7, .int 2, .int 0, .int 0, .ref q33, .ref q41, .int 0, .null, .null, .int 0, .int 0, .null, .null, .null, .null, .int 0, .int 0])), (q33, .inl (cs 0, 126, .inl (fun _ => 0))), (q41, .inl (cs 0, 126, .inl (fun _ => 0)))] H := hP
  have hD : va_D A [(h0, .inr (8, [.int 0, .int 7, .int 2, .int 0, .int 0, .ref q33, .ref q41, .int 0, .null, .null, .int 0, .int 0, .null, .null, .null, .null, .int 0, .int 0])), (q33, .inl (cs 0, 126, .inl (fun _ => 0))), (q41, .inl (cs 0, 126, .inl (fun _ => 0)))] := hD
  refine lv_aload_n hx hb d_md_init_46 rfl (lv_at hl 0 rfl) ?_
  refine lv_iconst (v := 0) hx hb d_md_init_47 (by decide) ?_
  refine va_put (D := (dC, dI)) (ci := 8) (v := .int 0) (ty := .int) (C := R_md) (T := F_md) (N := 18) hx hb hts in_md t_md t_md_ok n_md hown hK hP hD hS 0 rfl rfl 7 (by decide) (hts _ kw_625) (fun _ h9 => h9) rfl (by decide +kernel) rfl rfl (Nat.le_of_ble_eq_true rfl) d_md_init_48 (fun H locs hP hD hS => ?_)
  have hP : va_P (dC, dI) vwCl [(h0, .inr (8, [.int 0, .int 7, .int 2, .int 0, .int 0, .ref q33, .ref q41, .int 0, .null, .null, .int 0, .int 0, .null, .null, .null, .null, .int 0, .int 0])), (q33, .inl (cs 0, 126, .inl (fun _ => 0))), (q41, .inl (cs 0, 126, .inl (fun _ => 0)))] H := hP
  have hD : va_D A [(h0, .inr (8, [.int 0, .int 7, .int 2, .int 0, .int 0, .ref q33, .ref q41, .int 0, .null, .null, .int 0, .int 0, .null, .null, .null, .null, .int 0, .int 0])), (q33, .inl (cs 0, 126, .inl (fun _ => 0))), (q41, .inl (cs 0, 126, .inl (fun _ => 0)))] := hD
  refine lv_aload_n hx hb d_md_init_51 rfl (lv_at hl 0 rfl) ?_
  refine lv_sipush (v := 1008) hx hb d_md_init_52 (by decide) ?_
  refine va_newa (atype := .int) (N' := 1008) hx hb (hts _ kw_97) rfl hK hP hD hS hA (a0 := (1008, .inl (fun _ => 0))) (fun _ => rfl) (by decide) rfl (by decide) (Nat.le_of_ble_eq_true rfl) (Nat.le_of_ble_eq_true rfl) d_md_init_55 (fun q55 cA H hK2 hP hD hS => ?_)
  have e1 : s.vm.findClass ("[" ++ (FieldType.int).toString) = some cA := (hK2.2 4 _ rfl).2
  have e2 : s.vm.findClass ("[" ++ (FieldType.int).toString) = some (cs 0) := (hK2.2 0 _ rfl).2
  obtain rfl : cA = cs 0 := Option.some.inj (e1.symm.trans e2)
  have hP : va_P (dC, dI) vwCl [(h0, .inr (8, [.int 0, .int 7, .int 2, .int 0, .int 0, .ref q33, .ref q41, .int 0, .null, .null, .int 0, .int 0, .null, .null, .null, .null, .int 0, .int 0])), (q33, .inl (cs 0, 126, .inl (fun _ => 0))), (q41, .inl (cs 0, 126, .inl (fun _ => 0))), (q55, .inl (cs 0, 1008, .inl (fun _ => 0)))] H := hP
  have hD : va_D A [(h0, .inr (8, [.int 0, .int 7, .int 2, .int 0, .int 0, .ref q33, .ref q41, .int 0, .null, .null, .int 0, .int 0, .null, .null, .null, .null, .int 0, .int 0])), (q33, .inl (cs 0, 126, .inl (fun _ => 0))), (q41, .inl (cs 0, 126, .inl (fun _ => 0))), (q55, .inl (cs 0, 1008, .inl (fun _ => 0)))] := hD
  refine W.widen (k := 3) (n := 1260) (by omega) (by omega) ?_
  refine va_putF (D := (dC, dI)) (ci := 8) (v := .ref q55) (ty := (.array .int)) (C := R_md) (T := F_md) (N := 18) hx hb hts in_md t_md t_md_ok n_md hown hK hP hD hS 0 rfl rfl 8 (by decide) (hts _ kw_626) (fun _ h9 => h9) rfl hin rfl (by decide +kernel) rfl rfl (Nat.le_of_ble_eq_true rfl) d_md_init_57 (fun H locs hP hD hS => ?_)
  have hP : va_P (dC, dI) vwCl [(h0, .inr (8, [.int 0, .int 7, .int 2, .int 0, .int 0, .ref q33, .ref q41, .int 0, .ref q55, .null, .int 0, .int 0, .null, .null, .null, .null, .int 0, .int 0])), (q33, .inl (cs 0, 126, .inl (fun _ => 0))), (q41, .inl (cs 0, 126, .inl (fun _ => 0))), (q55, .inl (cs 0, 1008, .inl (fun _ => 0)))] H := hP
  have hD : va_D A [(h0, .inr (8, [.int 0, .int 7, .int 2, .int 0, .int 0, .ref q33, .ref q41, .int 0, .ref q55, .null, .int 0, .int 0, .null, .null, .null, .null, .int 0, .int 0])), (q33, .inl (cs 0, 126, .inl (fun _ => 0))), (q41, .inl (cs 0, 126, .inl (fun _ => 0))), (q55, .inl (cs 0, 1008, .inl (fun _ => 0)))] := hD
  refine lv_aload_n hx hb d_md_init_60 rfl (lv_at hl 0 rfl) ?_
  refine lv_bipush (v := 126) hx hb d_md_init_61 (by decide) ?_
  refine va_newa (atype := .int) (N' := 126) hx hb (hts _ kw_97) rfl hK hP hD hS hA (a0 := (126, .inl (fun _ => 0))) (fun _ => rfl) (by decide) rfl (by decide) (Nat.le_of_ble_eq_true rfl) (Nat.le_of_ble_eq_true rfl) d_md_init_63 (fun q63 cA H hK2 hP hD hS => ?_)
  have e1 : s.vm.findClass ("[" ++ (FieldType.int).toString) = some cA := (hK2.2 4 _ rfl).2
  have e2 : s.vm.findClass ("[" ++ (FieldType.int).toString) = some (cs 0) := (hK2.2 0 _ rfl).2
  obtain rfl : cA = cs 0 := Option.some.inj (e1.symm.trans e2)
  have hP : va_P (dC, dI) vwCl [(h0, .inr (8, [.int 0, .int 7, .int 2, .int 0, .int 0, .ref q33, .ref q41, .int 0, .ref q55, .null, .int 0, .int 0, .null, .null, .null, .null, .int 0, .int 0])), (q33, .inl (cs 0, 126, .inl (fun _ => 0))), (q41, .inl (cs 0, 126, .inl (fun _ => 0))), (q55, .inl (cs 0, 1008, .inl (fun _ => 0))), (q63, .inl (cs 0, 126, .inl (fun _ => 0)))] H := hP
  have hD : va_D A [(h0, .inr (8, [.int 0, .int 7, .int 2, .int 0, .int 0, .ref q33, .ref q41, .int 0, .ref q55, .null, .int 0, .int 0, .null, .null, .null, .null, .int 0, .int 0])), (q33, .inl (cs 0, 126, .inl (fun _ => 0))), (q41, .inl (cs 0, 126, .inl (fun _ => 0))), (q55, .inl (cs 0, 1008, .inl (fun _ => 0))), (q63, .inl (cs 0, 126, .inl (fun _ => 0)))] := hD
  refine W.widen (k := 4) (n := 1386) (by omega) (by omega) ?_
  refine va_putF (D := (dC, dI)) (ci := 8) (v := .ref q63) (ty := (.array .int)) (C := R_md) (T := F_md) (N := 18) hx hb hts in_md t_md t_md_ok n_md hown hK hP hD hS 0 rfl rfl 9 (by decide) (hts _ kw_627) (fun _ h9 => h9) rfl hin rfl (by decide +kernel) rfl rfl (Nat.le_of_ble_eq_true rfl) d_md_init_65 (fun H locs hP hD hS => ?_)
  have hP : va_P (dC, dI) vwCl [(h0, .inr (8, [.int 0, .int 7, .int 2, .int 0, .int 0, .ref q33, .ref q41, .int 0, .ref q55, .ref q63, .int 0, .int 0, .null, .null, .null, .null, .int 0, .int 0])), (q33, .inl (cs 0, 126, .inl (fun _ => 0))), (q41, .inl (cs 0, 126, .inl (fun _ => 0))), (q55, .inl (cs 0, 1008, .inl (fun _ => 0))), (q63, .inl (cs 0, 126, .inl (fun _ => 0)))] H := hP
  have hD : va_D A [(h0, .inr (8, [.int 0, .int 7, .int 2, .int 0, .int 0, .ref q33, .ref q41, .int 0, .ref q55, .ref q63, .int 0, .int 0, .null, .null, .null, .null, .int 0, .int 0])), (q33, .inl (cs 0, 126, .inl (fun _ => 0))), (q41, .inl (cs 0, 126, .inl (fun _ => 0))), (q55, .inl (cs 0, 1008, .inl (fun _ => 0))), (q63, .inl (cs 0, 126, .inl (fun _ => 0)))] := hD
  refine lv_aload_n hx hb d_md_init_68 rfl (lv_at hl 0 rfl) ?_
  refine lv_iconst (v := 0) hx hb d_md_init_69 (by decide) ?_
  refine va_put (D := (dC, dI)) (ci := 8) (v := .int 0) (ty := .boolean) (C := R_md) (T := F_md) (N := 18) hx hb hts in_md t_md t_md_ok n_md hown hK hP hD hS 0 rfl rfl 10 (by decide) (hts _ kw_628) (fun _ h9 => h9) rfl (by decide +kernel) rfl rfl (Nat.le_of_ble_eq_true rfl) d_md_init_70 (fun H locs hP hD hS => ?_)
  have hP : va_P (dC, dI) vwCl [(h0, .inr (8, [.int 0, .int 7, .int 2, .int 0, .int 0, .ref q33, .ref q41, .int 0, .ref q55, .ref q63, .int 0, .int 0, .null, .null, .null, .null, .int 0, .int 0])), (q33, .inl (cs 0, 126, .inl (fun _ => 0))), (q41, .inl (cs 0, 126, .inl (fun _ => 0))), (q55, .inl (cs 0, 1008, .inl (fun _ => 0))), (q63, .inl (cs 0, 126, .inl (fun _ => 0)))] H := hP
  have hD : va_D A [(h0, .inr (8, [.int 0, .int 7, .int 2, .int 0, .int 0, .ref q33, .ref q41, .int 0, .ref q55, .ref q63, .int 0, .int 0, .null, .null, .null, .null, .int 0, .int 0])), (q33, .inl (cs 0, 126, .inl (fun _ => 0))), (q41, .inl (cs 0, 126, .inl (fun _ => 0))), (q55, .inl (cs 0, 1008, .inl (fun _ => 0))), (q63, .inl (cs 0, 126, .inl (fun _ => 0)))] := hD
  refine lv_aload_n hx hb d_md_init_73 rfl (lv_at hl 0 rfl) ?_
  refine lv_iconst (v := 0) hx hb d_md_init_74 (by decide) ?_
  refine va_put (D := (dC, dI)) (ci := 8) (v := .int 0) (ty := .int) (C := R_md) (T := F_md) (N := 18) hx hb hts in_md t_md t_md_ok n_md hown hK hP hD hS 0 rfl rfl 11 (by decide) (hts _ kw_629) (fun _ h9 => h9) rfl (by decide +kernel) rfl rfl (Nat.le_of_ble_eq_true rfl) d_md_init_75 (fun H locs hP hD hS => ?_)
  have hP : va_P (dC, dI) vwCl [(h0, .inr (8, [.int 0, .int 7, .int 2, .int 0, .int 0, .ref q33, .ref q41, .int 0, .ref q55, .ref q63, .int 0, .int 0, .null, .null, .null, .null, .int 0, .int 0])), (q33, .inl (cs 0, 126, .inl (fun _ => 0))), (q41, .inl (cs 0, 126, .inl (fun _ => 0))), (q55, .inl (cs 0, 1008, .inl (fun _ => 0))), (q63, .inl (cs 0, 126, .inl (fun _ => 0)))] H := hP
  have hD : va_D A [(h0, .inr (8, [.int 0, .int 7, .int 2, .int 0, .int 0, .ref q33, .ref q41, .int 0, .ref q55, .ref q63, .int 0, .int 0, .null, .null, .null, .null, .int 0, .int 0])), (q33, .inl (cs 0, 126, .inl (fun _ => 0))), (q41, .inl (cs 0, 126, .inl (fun _ => 0))), (q55, .inl (cs 0, 1008, .inl (fun _ => 0))), (q63, .inl (cs 0, 126, .inl (fun _ => 0)))] := hD
  refine lv_aload_n hx hb d_md_init_78 rfl (lv_at hl 0 rfl) ?_
  refine lv_bipush (v := 126) hx hb d_md_init_79 (by decide) ?_
  refine va_newa (atype := .boolean) (N' := 126) hx hb (hts _ kw_673) rfl hK hP hD hS hA (a0 := (126, .inl (fun _ => 0))) (fun _ => rfl) (by decide) rfl (by decide) (Nat.le_of_ble_eq_true rfl) (Nat.le_of_ble_eq_true rfl) d_md_init_81 (fun q81 cA H hK2 hP hD hS => ?_)
  have e1 : s.vm.findClass ("[" ++ (FieldType.boolean).toString) = some cA := (hK2.2 4 _ rfl).2
  have e2 : s.vm.findClass ("[" ++ (FieldType.boolean).toString) = some (cs 2) := (hK2.2 2 _ rfl).2
  obtain rfl : cA = cs 2 := Option.some.inj (e1.symm.trans e2)
  have hP : va_P (dC, dI) vwCl [(h0, .inr (8, [.int 0, .int 7, .int 2, .int 0, .int 0, .ref q33, .ref q41, .int 0, .ref q55, .ref q63, .int 0, .int 0, .null, .null, .null, .null, .int 0, .int 0])), (q33, .inl (cs 0, 126, .inl (fun _ => 0))), (q41, .inl (cs 0, 126, .inl (fun _ => 0))), (q55, .inl (cs 0, 1008, .inl (fun _ => 0))), (q63, .inl (cs 0, 126, .inl (fun _ => 0))), (q81, .inl (cs 2, 126, .inl (fun _ => 0)))] H := hP
  have hD : va_D A [(h0, .inr (8, [.int 0, .int 7, .int 2, .int 0, .int 0, .ref q33, .ref q41, .int 0, .ref q55, .ref q63, .int 0, .int 0, .null, .null, .null, .null, .int 0, .int 0])), (q33, .inl (cs 0, 126, .inl (fun _ => 0))), (q41, .inl (cs 0, 126, .inl (fun _ => 0))), (q55, .inl (cs 0, 1008, .inl (fun _ => 0))), (q63, .inl (cs 0, 126, .inl (fun _ => 0))), (q81, .inl (cs 2, 126, .inl (fun _ => 0)))] := hD
  refine W.widen (k := 5) (n := 1512) (by omega) (by omega) ?_
  refine va_putF (D := (dC, dI)) (ci := 8) (v := .ref q81) (ty := (.array .boolean)) (C := R_md) (T := F_md) (N := 18) hx hb hts in_md t_md t_md_ok n_md hown hK hP hD hS 0 rfl rfl 12 (by decide) (hts _ kw_630) (fun _ h9 => h9) rfl hin rfl (by decide +kernel) rfl rfl (Nat.le_of_ble_eq_true rfl) d_md_init_83 (fun H locs hP hD hS => ?_)
  have hP : va_P (dC, dI) vwCl [(h0, .inr (8, [.int 0, .int 7, .int 2, .int 0, .int 0, .ref q33, .ref q41, .int 0, .ref q55, .ref q63, .int 0, .int 0, .ref q81, .null, .null, .null, .int 0, .int 0])), (q33, .inl (cs 0, 126, .inl (fun _ => 0))), (q41, .inl (cs 0, 126, .inl (fun _ => 0))), (q55, .inl (cs 0, 1008, .inl (fun _ => 0))), (q63, .inl (cs 0, 126, .inl (fun _ => 0))), (q81, .inl (cs 2, 126, .inl (fun _ => 0)))] H := hP
  have hD : va_D A [(h0, .inr (8, [.int 0, .int 7, .int 2, .int 0, .int 0, .ref q33, .ref q41, .int 0, .ref q55, .ref q63, .int 0, .int 0, .ref q81, .null, .null, .null, .int 0, .int 0])), (q33, .inl (cs 0, 126, .inl (fun _ => 0))), (q41, .inl (cs 0, 126, .inl (fun _ => 0))), (q55, .inl (cs 0, 1008, .inl (fun _ => 0))), (q63, .inl (cs 0, 126, .inl (fun _ => 0))), (q81, .inl (cs 2, 126, .inl (fun _ => 0)))] := hD
  refine lv_aload_n hx hb d_md_init_86 rfl (lv_at hl 0 rfl) ?_
  refine lv_sipush (v := 15876) hx hb d_md_init_87 (by decide) ?_
  refine va_newa (atype := .int) (N' := 15876) hx hb (hts _ kw_97) rfl hK hP hD hS hA (a0 := (15876, .inl (fun _ => 0))) (fun _ => rfl) (by decide) rfl (by decide) (Nat.le_of_ble_eq_true rfl) (Nat.le_of_ble_eq_true rfl) d_md_init_90 (fun q90 cA H hK2 hP hD hS => ?_)
  have e1 : s.vm.findClass ("[" ++ (FieldType.int).toString) = some cA := (hK2.2 4 _ rfl).2
  have e2 : s.vm.findClass ("[" ++ (FieldType.int).toString) = some (cs 0) := (hK2.2 0 _ rfl).2
  obtain rfl : cA = cs 0 := Option.some.inj (e1.symm.trans e2)
  have hP : va_P (dC, dI) vwCl [(h0, .inr (8, [.int 0, .int 7, .int 2, .int 0, .int 0, .ref q33, .ref q41, .int 0, .ref q55, .ref q63, .int 0, .int 0, .ref q81, .null, .null, .null, .int 0, .int 0])), (q33, .inl (cs 0, 126, .inl (fun _ => 0))), (q41, .inl (cs 0, 126, .inl (fun _ => 0))), (q55, .inl (cs 0, 1008, .inl (fun _ => 0))), (q63, .inl (cs 0, 126, .inl (fun _ => 0))), (q81, .inl (cs 2, 126, .inl (fun _ => 0))), (q90, .inl (cs 0, 15876, .inl (fun _ => 0)))] H := hP
  have hD : va_D A [(h0, .inr (8, [.int 0, .int 7, .int 2, .int 0, .int 0, .ref q33, .ref q41, .int 0, .ref q55, .ref q63, .int 0, .int 0, .ref q81, .null, .null, .null, .int 0, .int 0])), (q33, .inl (cs 0, 126, .inl (fun _ => 0))), (q41, .inl (cs 0, 126, .inl (fun _ => 0))), (q55, .inl (cs 0, 1008, .inl (fun _ => 0))), (q63, .inl (cs 0, 126, .inl (fun _ => 0))), (q81, .inl (cs 2, 126, .inl (fun _ => 0))), (q90, .inl (cs 0, 15876, .inl (fun _ => 0)))] := hD
  refine W.widen (k := 6) (n := 17388) (by omega) (by omega) ?_
  refine va_putF (D := (dC, dI)) (ci := 8) (v := .ref q90) (ty := (.array .int)) (C := R_md) (T := F_md) (N := 18) hx hb hts in_md t_md t_md_ok n_md hown hK hP hD hS 0 rfl rfl 13 (by decide) (hts _ kw_631) (fun _ h9 => h9) rfl hin rfl (by decide +kernel) rfl rfl (Nat.le_of_ble_eq_true rfl) d_md_init_92 (fun H locs hP hD hS => ?_)
  have hP : va_P (dC, dI) vwCl [(h0, .inr (8, [.int 0, .int 7, .int 2, .int 0, .int 0, .ref q33, .ref q41, .int 0, .ref q55, .ref q63, .int 0, .int 0, .ref q81, .ref q90, .null, .null, .int 0, .int 0])), (q33, .inl (cs 0, 126, .inl (fun _ => 0))), (q41, .inl (cs 0, 126, .inl (fun _ => 0))), (q55, .inl (cs 0, 1008, .inl (fun _ => 0))), (q63, .inl (cs 0, 126, .inl (fun _ => 0))), (q81, .inl (cs 2, 126, .inl (fun _ => 0))), (q90, .inl (cs 0, 15876, .inl (fun _ => 0)))] H := hP
  have hD : va_D A [(h0, .inr (8, [.int 0, .int 7, .int 2, .int 0, .int 0, .ref q33, .ref q41, .int 0, .ref q55, .ref q63, .int 0, .int 0, .ref q81, .ref q90, .null, .null, .int 0, .int 0])), (q33, .inl (cs 0, 126, .inl (fun _ => 0))), (q41, .inl (cs 0, 126, .inl (fun _ => 0))), (q55, .inl (cs 0, 1008, .inl (fun _ => 0))), (q63, .inl (cs 0, 126, .inl (fun _ => 0))), (q81, .inl (cs 2, 126, .inl (fun _ => 0))), (q90, .inl (cs 0, 15876, .inl (fun _ => 0)))] := hD
  refine lv_aload_n hx hb d_md_init_95 rfl (lv_at hl 0 rfl) ?_
  refine lv_bipush (v := 126) hx hb d_md_init_96 (by decide) ?_
  refine va_newa (atype := .int) (N' := 126) hx hb (hts _ kw_97) rfl hK hP hD hS hA (a0 := (126, .inl (fun _ => 0))) (fun _ => rfl) (by decide) rfl (by decide) (Nat.le_of_ble_eq_true rfl) (Nat.le_of_ble_eq_true rfl) d_md_init_98 (fun q98 cA H hK2 hP hD hS => ?_)
  have e1 : s.vm.findClass ("[" ++ (FieldType.int).toString) = some cA := (hK2.2 4 _ rfl).2
  have e2 : s.vm.findClass ("[" ++ (FieldType.int).toString) = some (cs 0) := (hK2.2 0 _ rfl).2
  obtain rfl : cA = cs 0 := Option.some.inj (e1.symm.trans e2)
  have hP : va_P (dC, dI) vwCl [(h0, .inr (8, [.int 0, .int 7, .int 2, .int 0, .int 0, .ref q33, .ref q41, .int 0, .ref q55, .ref q63, .int 0, .int 0, .ref q81, .ref q90, .null, .null, .int 0, .int 0])), (q33, .inl (cs 0, 126, .inl (fun _ => 0))), (q41, .inl (cs 0, 126, .inl (fun _ => 0))), (q55, .inl (cs 0, 1008, .inl (fun _ => 0))), (q63, .inl (cs 0, 126, .inl (fun _ => 0))), (q81, .inl (cs 2, 126, .inl (fun _ => 0))), (q90, .inl (cs 0, 15876, .inl (fun _ => 0))), (q98, .inl (cs 0, 126, .inl (fun _ => 0)))] H := hP
  have hD : va_D A [(h0, .inr (8, [.int 0, .int 7, .int 2, .int 0, .int 0, .ref q33, .ref q41, .int 0, .ref q55, .ref q63, .int 0, .int 0, .ref q81, .ref q90, .null, .null, .int 0, .int 0])), (q33, .inl (cs 0, 126, .inl (fun _ => 0))), (q41, .inl (cs 0, 126, .inl (fun _ => 0))), (q55, .inl (cs 0, 1008, .inl (fun _ => 0))), (q63, .inl (cs 0, 126, .inl (fun _ => 0))), (q81, .inl (cs 2, 126, .inl (fun _ => 0))), (q90, .inl (cs 0, 15876, .inl (fun _ => 0))), (q98, .inl (cs 0, 126, .inl (fun _ => 0)))] := hD
  refine W.widen (k := 7) (n := 17514) (by omega) (by omega) ?_
  refine va_putF (D := (dC, dI)) (ci := 8) (v := .ref q98) (ty := (.array .int)) (C := R_md) (T := F_md) (N := 18) hx hb hts in_md t_md t_md_ok n_md hown hK hP hD hS 0 rfl rfl 14 (by decide) (hts _ kw_632) (fun _ h9 => h9) rfl hin rfl (by decide +kernel) rfl rfl (Nat.le_of_ble_eq_true rfl) d_md_init_100 (fun H locs hP hD hS => ?_)
  have hP : va_P (dC, dI) vwCl [(h0, .inr (8, [.int 0, .int 7, .int 2, .int 0, .int 0, .ref q33, .ref q41, .int 0, .ref q55, .ref q63, .int 0, .int 0, .ref q81, .ref q90, .ref q98, .null, .int 0, .int 0])), (q33, .inl (cs 0, 126, .inl (fun _ => 0))), (q41, .inl (cs 0, 126, .inl (fun _ => 0))), (q55, .inl (cs 0, 1008, .inl (fun _ => 0))), (q63, .inl (cs 0, 126, .inl (fun _ => 0))), (q81, .inl (cs 2, 126, .inl (fun _ => 0))), (q90, .inl (cs 0, 15876, .inl (fun _ => 0))), (q98, .inl (cs 0, 126, .inl (fun _ => 0)))] H := hP
  have hD : va_D A [(h0, .inr (8, [.int 0, .int 7, .int 2, .int 0, .int 0, .ref q33, .ref q41, .int 0, .ref q55, .ref q63, .int 0, .int 0, .ref q81, .ref q90, .ref q98, .null, .int 0, .int 0])), (q33, .inl (cs 0, 126, .inl (fun _ => 0))), (q41, .inl (cs 0, 126, .inl (fun _ => 0))), (q55, .inl (cs 0, 1008, .inl (fun _ => 0))), (q63, .inl (cs 0, 126, .inl (fun _ => 0))), (q81, .inl (cs 2, 126, .inl (fun _ => 0))), (q90, .inl (cs 0, 15876, .inl (fun _ => 0))), (q98, .inl (cs 0, 126, .inl (fun _ => 0)))] := hD
  refine lv_aload_n hx hb d_md_init_103 rfl (lv_at hl 0 rfl) ?_
  refine lv_bipush (v := 126) hx hb d_md_init_104 (by decide) ?_
  refine va_newa (atype := .int) (N' := 126) hx hb (hts _ kw_97) rfl hK hP hD hS hA (a0 := (126, .inl (fun _ => 0))) (fun _ => rfl) (by decide) rfl (by decide) (Nat.le_of_ble_eq_true rfl) (Nat.le_of_ble_eq_true rfl) d_md_init_106 (fun q106 cA H hK2 hP hD hS => ?_)
  have e1 : s.vm.findClass ("[" ++ (FieldType.int).toString) = some cA := (hK2.2 4 _ rfl).2
  have e2 : s.vm.findClass ("[" ++ (FieldType.int).toString) = some (cs 0) := (hK2.2 0 _ rfl).2
  obtain rfl : cA = cs 0 := Option.some.inj (e1.symm.trans e2)
  have hP : va_P (dC, dI) vwCl [(h0, .inr (8, [.int 0, .int 7, .int 2, .int 0, .int 0, .ref q33, .ref q41, .int 0, .ref q55, .ref q63, .int 0, .int 0, .ref q81, .ref q90, .ref q98, .null, .int 0, .int 0])), (q33, .inl (cs 0, 126, .inl (fun _ => 0))), (q41, .inl (cs 0, 126, .inl (fun _ => 0))), (q55, .inl (cs 0, 1008, .inl (fun _ => 0))), (q63, .inl (cs 0, 126, .inl (fun _ => 0))), (q81, .inl (cs 2, 126, .inl (fun _ => 0))), (q90, .inl (cs 0, 15876, .inl (fun _ => 0))), (q98, .inl (cs 0, 126, .inl (fun _ => 0))), (q106, .inl (cs 0, 126, .inl (fun _ => 0)))] H := hP
  have hD : va_D A [(h0, .inr (8, [.int 0, .int 7, .int 2, .int 0, .int 0, .ref q33, .ref q41, .int 0, .ref q55, .ref q63, .int 0, .int 0, .ref q81, .ref q90, .ref q98, .null, .int 0, .int 0])), (q33, .inl (cs 0, 126, .inl (fun _ => 0))), (q41, .inl (cs 0, 126, .inl (fun _ => 0))), (q55, .inl (cs 0, 1008, .inl (fun _ => 0))), (q63, .inl (cs 0, 126, .inl (fun _ => 0))), (q81, .inl (cs 2, 126, .inl (fun _ => 0))), (q90, .inl (cs 0, 15876, .inl (fun _ => 0))), (q98, .inl (cs 0, 126, .inl (fun _ => 0))), (q106, .inl (cs 0, 126, .inl (fun _ => 0)))] := hD
  refine W.widen (k := 8) (n := 17640) (by omega) (by omega) ?_
  refine va_putF (D := (dC, dI)) (ci := 8) (v := .ref q106) (ty := (.array .int)) (C := R_md) (T := F_md) (N := 18) hx hb hts in_md t_md t_md_ok n_md hown hK hP hD hS 0 rfl rfl 15 (by decide) (hts _ kw_633) (fun _ h9 => h9) rfl hin rfl (by decide +kernel) rfl rfl (Nat.le_of_ble_eq_true rfl) d_md_init_108 (fun H locs hP hD hS => ?_)
  have hP : va_P (dC, dI) vwCl [(h0, .inr (8, [.int 0, .int 7, .int 2, .int 0, .int 0, .ref q33, .ref q41, .int 0, .ref q55, .ref q63, .int 0, .int 0, .ref q81, .ref q90, .ref q98, .ref q106, .int 0, .int 0])), (q33, .inl (cs 0, 126, .inl (fun _ => 0))), (q41, .inl (cs 0, 126, .inl (fun _ => 0))), (q55, .inl (cs 0, 1008, .inl (fun _ => 0))), (q63, .inl (cs 0, 126, .inl (fun _ => 0))), (q81, .inl (cs 2, 126, .inl (fun _ => 0))), (q90, .inl (cs 0, 15876, .inl (fun _ => 0))), (q98, .inl (cs 0, 126, .inl (fun _ => 0))), (q106, .inl (cs 0, 126, .inl (fun _ => 0)))] H := hP
  have hD : va_D A [(h0, .inr (8, [.int 0, .int 7, .int 2, .int 0, .int 0, .ref q33, .ref q41, .int 0, .ref q55, .ref q63, .int 0, .int 0, .ref q81, .ref q90, .ref q98, .ref q106, .int 0, .int 0])), (q33, .inl (cs 0, 126, .inl (fun _ => 0))), (q41, .inl (cs 0, 126, .inl (fun _ => 0))), (q55, .inl (cs 0, 1008, .inl (fun _ => 0))), (q63, .inl (cs 0, 126, .inl (fun _ => 0))), (q81, .inl (cs 2, 126, .inl (fun _ => 0))), (q90, .inl (cs 0, 15876, .inl (fun _ => 0))), (q98, .inl (cs 0, 126, .inl (fun _ => 0))), (q106, .inl (cs 0, 126, .inl (fun _ => 0)))] := hD
  refine lv_aload_n hx hb d_md_init_111 rfl (lv_at hl 0 rfl) ?_
  refine lv_iconst (v := 0) hx hb d_md_init_112 (by decide) ?_
  refine va_put (D := (dC, dI)) (ci := 8) (v := .int 0) (ty := .int) (C := R_md) (T := F_md) (N := 18) hx hb hts in_md t_md t_md_ok n_md hown hK hP hD hS 0 rfl rfl 16 (by decide) (hts _ kw_634) (fun _ h9 => h9) rfl (by decide +kernel) rfl rfl (Nat.le_of_ble_eq_true rfl) d_md_init_113 (fun H locs hP hD hS => ?_)
  have hP : va_P (dC, dI) vwCl [(h0, .inr (8, [.int 0, .int 7, .int 2, .int 0, .int 0, .ref q33, .ref q41, .int 0, .ref q55, .ref q63, .int 0, .int 0, .ref q81, .ref q90, .ref q98, .ref q106, .int 0, .int 0])), (q33, .inl (cs 0, 126, .inl (fun _ => 0))), (q41, .inl (cs 0, 126, .inl (fun _ => 0))), (q55, .inl (cs 0, 1008, .inl (fun _ => 0))), (q63, .inl (cs 0, 126, .inl (fun _ => 0))), (q81, .inl (cs 2, 126, .inl (fun _ => 0))), (q90, .inl (cs 0, 15876, .inl (fun _ => 0))), (q98, .inl (cs 0, 126, .inl (fun _ => 0))), (q106, .inl (cs 0, 126, .inl (fun _ => 0)))] H := hP
  have hD : va_D A [(h0, .inr (8, [.int 0, .int 7, .int 2, .int 0, .int 0, .ref q33, .ref q41, .int 0, .ref q55, .ref q63, .int 0, .int 0, .ref q81, .ref q90, .ref q98, .ref q106, .int 0, .int 0])), (q33, .inl (cs 0, 126, .inl (fun _ => 0))), (q41, .inl (cs 0, 126, .inl (fun _ => 0))), (q55, .inl (cs 0, 1008, .inl (fun _ => 0))), (q63, .inl (cs 0, 126, .inl (fun _ => 0))), (q81, .inl (cs 2, 126, .inl (fun _ => 0))), (q90, .inl (cs 0, 15876, .inl (fun _ => 0))), (q98, .inl (cs 0, 126, .inl (fun _ => 0))), (q106, .inl (cs 0, 126, .inl (fun _ => 0)))] := hD
  refine lv_aload_n hx hb d_md_init_116 rfl (lv_at hl 0 rfl) ?_
  refine lv_iconst (v := 0) hx hb d_md_init_117 (by decide) ?_
  refine va_put (D := (dC, dI)) (ci := 8) (v := .int 0) (ty := .int) (C := R_md) (T := F_md) (N := 18) hx hb hts in_md t_md t_md_ok n_md hown hK hP hD hS 0 rfl rfl 17 (by decide) (hts _ kw_635) (fun _ h9 => h9) rfl (by decide +kernel) rfl rfl (Nat.le_of_ble_eq_true rfl) d_md_init_118 (fun H locs hP hD hS => ?_)
  have hP : va_P (dC, dI) vwCl [(h0, .inr (8, [.int 0, .int 7, .int 2, .int 0, .int 0, .ref q33, .ref q41, .int 0, .ref q55, .ref q63, .int 0, .int 0, .ref q81, .ref q90, .ref q98, .ref q106, .int 0, .int 0])), (q33, .inl (cs 0, 126, .inl (fun _ => 0))), (q41, .inl (cs 0, 126, .inl (fun _ => 0))), (q55, .inl (cs 0, 1008, .inl (fun _ => 0))), (q63, .inl (cs 0, 126, .inl (fun _ => 0))), (q81, .inl (cs 2, 126, .inl (fun _ => 0))), (q90, .inl (cs 0, 15876, .inl (fun _ => 0))), (q98, .inl (cs 0, 126, .inl (fun _ => 0))), (q106, .inl (cs 0, 126, .inl (fun _ => 0)))] H := hP
  have hD : va_D A [(h0, .inr (8, [.int 0, .int 7, .int 2, .int 0, .int 0, .ref q33, .ref q41, .int 0, .ref q55, .ref q63, .int 0, .int 0, .ref q81, .ref q90, .ref q98, .ref q106, .int 0, .int 0])), (q33, .inl (cs 0, 126, .inl (fun _ => 0))), (q41, .inl (cs 0, 126, .inl (fun _ => 0))), (q55, .inl (cs 0, 1008, .inl (fun _ => 0))), (q63, .inl (cs 0, 126, .inl (fun _ => 0))), (q81, .inl (cs 2, 126, .inl (fun _ => 0))), (q90, .inl (cs 0, 15876, .inl (fun _ => 0))), (q98, .inl (cs 0, 126, .inl (fun _ => 0))), (q106, .inl (cs 0, 126, .inl (fun _ => 0)))] := hD
  refine lv_aload_n hx hb d_md_init_121 rfl (lv_at hl 0 rfl) ?_
  refine lv_bipush (v := 7) hx hb d_md_init_122 (by decide) ?_
  refine lv_iconst (v := 2) hx hb d_md_init_124 (by decide) ?_
  refine lv_iconst (v := 0) hx hb d_md_init_125 (by decide) ?_
  have hP := hP.sub (ws' := [(h0, .inr (8, [.int 0, .int 7, .int 2, .int 0, .int 0, .ref q33, .ref q41, .int 0, .ref q55, .ref q63, .int 0, .int 0, .ref q81, .ref q90, .ref q98, .ref q106, .int 0, .int 0])), (q33, .inl (cs 0, 126, .inl (fun _ => 0))), (q41, .inl (cs 0, 126, .inl (fun _ => 0))), (q55, .inl (cs 0, 1008, .inl (fun _ => 0))), (q63, .inl (cs 0, 126, .inl (fun _ => 0))), (q81, .inl (cs 2, 126, .inl (fun _ => 0))), (q90, .inl (cs 0, 15876, .inl (fun _ => 0))), (q98, .inl (cs 0, 126, .inl (fun _ => 0))), (q106, .inl (cs 0, 126, .inl (fun _ => 0)))]) [0, 1, 2, 3, 4, 5, 6, 7, 8] rfl
  have hD := hD.sub (ws' := [(h0, .inr (8, [.int 0, .int 7, .int 2, .int 0, .int 0, .ref q33, .ref q41, .int 0, .ref q55, .ref q63, .int 0, .int 0, .ref q81, .ref q90, .ref q98, .ref q106, .int 0, .int 0])), (q33, .inl (cs 0, 126, .inl (fun _ => 0))), (q41, .inl (cs 0, 126, .inl (fun _ => 0))), (q55, .inl (cs 0, 1008, .inl (fun _ => 0))), (q63, .inl (cs 0, 126, .inl (fun _ => 0))), (q81, .inl (cs 2, 126, .inl (fun _ => 0))), (q90, .inl (cs 0, 15876, .inl (fun _ => 0))), (q98, .inl (cs 0, 126, .inl (fun _ => 0))), (q106, .inl (cs 0, 126, .inl (fun _ => 0)))]) [0, 1, 2, 3, 4, 5, 6, 7, 8] (by decide +kernel) rfl
  obtain ⟨ad, hd0, hd1, hd2, hd3, hd4, hd5, hd6, hd7, hd8⟩ : ∃ ad : Nat → Nat, ad 0 = h0 ∧ ad 1 = q33 ∧ ad 2 = q41 ∧ ad 3 = q55 ∧ ad 4 = q63 ∧ ad 5 = q81 ∧ ad 6 = q90 ∧ ad 7 = q98 ∧ ad 8 = q106 := ⟨fun k => if k = 0 then h0 else if k = 1 then q33 else if k = 2 then q41 else if k = 3 then q55 else if k = 4 then q63 else if k = 5 then q81 else if k = 6 then q90 else if k = 7 then q98 else if k = 8 then q106 else 0, rfl, rfl, rfl, rfl, rfl, rfl, rfl, rfl, rfl⟩
  rw [← hd0, ← hd1, ← hd2, ← hd3, ← hd4, ← hd5, ← hd6, ← hd7, ← hd8] at hP hD
  rw [← hd0] at hl hts ⊢
  have hP : va_P (dC, dI) vwCl [((ad 0), .inr (8, [.int 0, .int 7, .int 2, .int 0, .int 0, .ref (ad 1), .ref (ad 2), .int 0, .ref (ad 3), .ref (ad 4), .int 0, .int 0, .ref (ad 5), .ref (ad 6), .ref (ad 7), .ref (ad 8), .int 0, .int 0])), ((ad 1), .inl (cs 0, 126, .inl (fun _ => 0))), ((ad 2), .inl (cs 0, 126, .inl (fun _ => 0))), ((ad 3), .inl (cs 0, 1008, .inl (fun _ => 0))), ((ad 4), .inl (cs 0, 126, .inl (fun _ => 0))), ((ad 5), .inl (cs 2, 126, .inl (fun _ => 0))), ((ad 6), .inl (cs 0, 15876, .inl (fun _ => 0))), ((ad 7), .inl (cs 0, 126, .inl (fun _ => 0))), ((ad 8), .inl (cs 0, 126, .inl (fun _ => 0)))] H := hP
  have hD : va_D A [((ad 0), .inr (8, [.int 0, .int 7, .int 2, .int 0, .int 0, .ref (ad 1), .ref (ad 2), .int 0, .ref (ad 3), .ref (ad 4), .int 0, .int 0, .ref (ad 5), .ref (ad 6), .ref (ad 7), .ref (ad 8), .int 0, .int 0])), ((ad 1), .inl (cs 0, 126, .inl (fun _ => 0))), ((ad 2), .inl (cs 0, 126, .inl (fun _ => 0))), ((ad 3), .inl (cs 0, 1008, .inl (fun _ => 0))), ((ad 4), .inl (cs 0, 126, .inl (fun _ => 0))), ((ad 5), .inl (cs 2, 126, .inl (fun _ => 0))), ((ad 6), .inl (cs 0, 15876, .inl (fun _ => 0))), ((ad 7), .inl (cs 0, 126, .inl (fun _ => 0))), ((ad 8), .inl (cs 0, 126, .inl (fun _ => 0)))] := hD
  have hPc := hP.sub (ws' := [((ad 0), .inr (8, [.int 0, .int 7, .int 2, .int 0, .int 0, .ref (ad 1), .ref (ad 2), .int 0, .ref (ad 3), .ref (ad 4), .int 0, .int 0, .ref (ad 5), .ref (ad 6), .ref (ad 7), .ref (ad 8), .int 0, .int 0])), ((ad 1), .inl (cs 0, 126, .inl (fun _ => 0))), ((ad 2), .inl (cs 0, 126, .inl (fun _ => 0))), ((ad 4), .inl (cs 0, 126, .inl (fun _ => 0)))]) [0, 1, 2, 4] rfl
  have hDc := hD.sub (ws' := [((ad 0), .inr (8, [.int 0, .int 7, .int 2, .int 0, .int 0, .ref (ad 1), .ref (ad 2), .int 0, .ref (ad 3), .ref (ad 4), .int 0, .int 0, .ref (ad 5), .ref (ad 6), .ref (ad 7), .ref (ad 8), .int 0, .int 0])), ((ad 1), .inl (cs 0, 126, .inl (fun _ => 0))), ((ad 2), .inl (cs 0, 126, .inl (fun _ => 0))), ((ad 4), .inl (cs 0, 126, .inl (fun _ => 0)))]) [0, 1, 2, 4] (by decide +kernel) rfl
  have hFc := va_free (wc := [((ad 0), .inr (8, [.int 0, .int 7, .int 2, .int 0, .int 0, .ref (ad 1), .ref (ad 2), .int 0, .ref (ad 3), .ref (ad 4), .int 0, .int 0, .ref (ad 5), .ref (ad 6), .ref (ad 7), .ref (ad 8), .int 0, .int 0])), ((ad 1), .inl (cs 0, 126, .inl (fun _ => 0))), ((ad 2), .inl (cs 0, 126, .inl (fun _ => 0))), ((ad 4), .inl (cs 0, 126, .inl (fun _ => 0)))]) hD hS hA [0, 1, 2, 4] rfl
  refine va_callv (va_runV (As := [.int 7, .int 2, .int 0]) (rest := []) ⟨hx, hb, hml, hown, hts⟩ (c_md_fresh l dC dI cs ad  H.size 0 7 2 0 0 0 0 0 0 0 (fun _ => 0) (fun _ => 0) (fun _ => 0) 7 2 0 _ hv) (cwV 3 hts (gd_V kw_600 kw_601 kw_17 kw_41 kw_602) rfl rfl rfl (by decide +kernel) ⟨Nat.le_of_ble_eq_true rfl, Nat.le_of_ble_eq_true rfl⟩) ⟨fun a U g mk q => by obtain ⟨q0, q1, qP, qK, qD⟩ := q; exact ⟨q0, q1, qP, qK.call, qD⟩, va_recv hK hPc (ci := 8) (q0 := 0) rfl rfl, fun U hU hW => ⟨rfl, by rw [hU], by rw [hU]; exact hPc, vwK.warm hW ⟨hK, hN⟩, hDc.weaken (fun _ _ _ _ => trivial)⟩⟩ rfl rfl hl.1 rfl (lv_room (Nat.le_of_ble_eq_true rfl)) d_md_init_126 ⟨Nat.le_of_ble_eq_true rfl, Nat.le_of_ble_eq_true rfl⟩) hS (fun q _ h => hFc q h) hFc (fun u t H1 locs1 ht hvm hw hB hz1 hk1 hS => ?_)
  obtain ⟨md_p_1, md_n_2, md_order_3, md_monomials_4, md_generators_5, md_found_6, md_mono_7, md_degree_8, md_hand_9⟩ := u
  obtain ⟨hP1, hD1⟩ := hB
  rw [ht] at hP1
  obtain ⟨hP, hD⟩ := va_join (wr := [((ad 3), .inl (cs 0, 1008, .inl (fun _ => 0))), ((ad 5), .inl (cs 2, 126, .inl (fun _ => 0))), ((ad 6), .inl (cs 0, 15876, .inl (fun _ => 0))), ((ad 7), .inl (cs 0, 126, .inl (fun _ => 0))), ((ad 8), .inl (cs 0, 126, .inl (fun _ => 0)))]) (w1 := [((ad 0), .inr (8, [.int 0, .int md_p_1, .int md_n_2, .int md_order_3, .int md_monomials_4, .ref (ad 1), .ref (ad 2), .int md_generators_5, .ref (ad 3), .ref (ad 4), .int md_found_6, .int 0, .ref (ad 5), .ref (ad 6), .ref (ad 7), .ref (ad 8), .int 0, .int 0])), ((ad 1), .inl (cs 0, 126, .inl md_mono_7)), ((ad 2), .inl (cs 0, 126, .inl md_degree_8)), ((ad 4), .inl (cs 0, 126, .inl md_hand_9))]) hP hD [0, 1, 2, 4] [3, 5, 6, 7, 8] rfl rfl (by decide +kernel) (by decide +kernel) hk1 hFc hP1 hD1
  generalize H1 = H at hP hS ⊢
  generalize locs1 = locs at hS ⊢
  have hP : va_P (dC, dI) vwCl [((ad 3), .inl (cs 0, 1008, .inl (fun _ => 0))), ((ad 5), .inl (cs 2, 126, .inl (fun _ => 0))), ((ad 6), .inl (cs 0, 15876, .inl (fun _ => 0))), ((ad 7), .inl (cs 0, 126, .inl (fun _ => 0))), ((ad 8), .inl (cs 0, 126, .inl (fun _ => 0))), ((ad 0), .inr (8, [.int 0, .int md_p_1, .int md_n_2, .int md_order_3, .int md_monomials_4, .ref (ad 1), .ref (ad 2), .int md_generators_5, .ref (ad 3), .ref (ad 4), .int md_found_6, .int 0, .ref (ad 5), .ref (ad 6), .ref (ad 7), .ref (ad 8), .int 0, .int 0])), ((ad 1), .inl (cs 0, 126, .inl md_mono_7)), ((ad 2), .inl (cs 0, 126, .inl md_degree_8)), ((ad 4), .inl (cs 0, 126, .inl md_hand_9))] H := hP
  have hD : va_D A [((ad 3), .inl (cs 0, 1008, .inl (fun _ => 0))), ((ad 5), .inl (cs 2, 126, .inl (fun _ => 0))), ((ad 6), .inl (cs 0, 15876, .inl (fun _ => 0))), ((ad 7), .inl (cs 0, 126, .inl (fun _ => 0))), ((ad 8), .inl (cs 0, 126, .inl (fun _ => 0))), ((ad 0), .inr (8, [.int 0, .int md_p_1, .int md_n_2, .int md_order_3, .int md_monomials_4, .ref (ad 1), .ref (ad 2), .int md_generators_5, .ref (ad 3), .ref (ad 4), .int md_found_6, .int 0, .ref (ad 5), .ref (ad 6), .ref (ad 7), .ref (ad 8), .int 0, .int 0])), ((ad 1), .inl (cs 0, 126, .inl md_mono_7)), ((ad 2), .inl (cs 0, 126, .inl md_degree_8)), ((ad 4), .inl (cs 0, 126, .inl md_hand_9))] := hD
  have hv := hw
  try dsimp only at hv
  refine W.widen (k := 8) (n := 17640) (by omega) (by omega) ?_
  have hP9 := hP.sub (ws' := [((ad 0), .inr (8, [.int 0, .int md_p_1, .int md_n_2, .int md_order_3, .int md_monomials_4, .ref (ad 1), .ref (ad 2), .int md_generators_5, .ref (ad 3), .ref (ad 4), .int md_found_6, .int 0, .ref (ad 5), .ref (ad 6), .ref (ad 7), .ref (ad 8), .int 0, .int 0])), ((ad 1), .inl (cs 0, 126, .inl md_mono_7)), ((ad 2), .inl (cs 0, 126, .inl md_degree_8)), ((ad 3), .inl (cs 0, 1008, .inl (fun _ => 0))), ((ad 4), .inl (cs 0, 126, .inl md_hand_9)), ((ad 5), .inl (cs 2, 126, .inl (fun _ => 0))), ((ad 6), .inl (cs 0, 15876, .inl (fun _ => 0))), ((ad 7), .inl (cs 0, 126, .inl (fun _ => 0))), ((ad 8), .inl (cs 0, 126, .inl (fun _ => 0)))]) [5, 6, 7, 0, 8, 1, 2, 3, 4] rfl
  have hD9 := hD.sub (ws' := [((ad 0), .inr (8, [.int 0, .int md_p_1, .int md_n_2, .int md_order_3, .int md_monomials_4, .ref (ad 1), .ref (ad 2), .int md_generators_5, .ref (ad 3), .ref (ad 4), .int md_found_6, .int 0, .ref (ad 5), .ref (ad 6), .ref (ad 7), .ref (ad 8), .int 0, .int 0])), ((ad 1), .inl (cs 0, 126, .inl md_mono_7)), ((ad 2), .inl (cs 0, 126, .inl md_degree_8)), ((ad 3), .inl (cs 0, 1008, .inl (fun _ => 0))), ((ad 4), .inl (cs 0, 126, .inl md_hand_9)), ((ad 5), .inl (cs 2, 126, .inl (fun _ => 0))), ((ad 6), .inl (cs 0, 15876, .inl (fun _ => 0))), ((ad 7), .inl (cs 0, 126, .inl (fun _ => 0))), ((ad 8), .inl (cs 0, 126, .inl (fun _ => 0)))]) [5, 6, 7, 0, 8, 1, 2, 3, 4] (by decide +kernel) rfl
  refine W.widen (k := 8) (n := 17640) (Nat.le_of_ble_eq_true rfl) (Nat.le_of_ble_eq_true rfl) ?_
  exact W.vret hx hb hr (fun t ht hW => ⟨⟨(ad, md_p_1, md_n_2, md_order_3, md_monomials_4, md_generators_5, md_found_6, md_mono_7, md_degree_8, md_hand_9), rfl, hv, rfl, by rw [ht]; exact hP9, hD9⟩, hS.F ht⟩) hS.2.2 d_md_init_129
