abbrev b_mn_listDegree : ByteArray := prog_5_method_3_code
def y_mn_listDegree : MethodName := ⟨"SpaceBasis$Monomials", "listDegree", "(IIII)V"⟩
def w_mn_listDegree : List Cond := Cond.code y_mn_listDegree b_mn_listDegree 8 none :: vwWS
theorem d_mn_listDegree_0 : decode b_mn_listDegree 0 = .ok (.aload_n 0, 1) := by decide +kernel
theorem d_mn_listDegree_1 : decode b_mn_listDegree 1 = .ok (.getfield 28, 3) := by decide +kernel
theorem d_mn_listDegree_4 : decode b_mn_listDegree 4 = .ok (.iconst 1, 1) := by decide +kernel
theorem d_mn_listDegree_5 : decode b_mn_listDegree 5 = .ok (.if_icmp .ne 7, 3) := by decide +kernel
theorem d_mn_listDegree_8 : decode b_mn_listDegree 8 = .ok (.iload_n 2, 1) := by decide +kernel
theorem d_mn_listDegree_9 : decode b_mn_listDegree 9 = .ok (.goto 11, 3) := by decide +kernel
theorem d_mn_listDegree_12 : decode b_mn_listDegree 12 = .ok (.aload_n 0, 1) := by decide +kernel
theorem d_mn_listDegree_13 : decode b_mn_listDegree 13 = .ok (.getfield 24, 3) := by decide +kernel
theorem d_mn_listDegree_16 : decode b_mn_listDegree 16 = .ok (.iconst 1, 1) := by decide +kernel
theorem d_mn_listDegree_17 : decode b_mn_listDegree 17 = .ok (.isub, 1) := by decide +kernel
theorem d_mn_listDegree_18 : decode b_mn_listDegree 18 = .ok (.iload_n 2, 1) := by decide +kernel
theorem d_mn_listDegree_19 : decode b_mn_listDegree 19 = .ok (.isub, 1) := by decide +kernel
theorem d_mn_listDegree_20 : decode b_mn_listDegree 20 = .ok (.istore 5, 2) := by decide +kernel
theorem d_mn_listDegree_22 : decode b_mn_listDegree 22 = .ok (.iload_n 2, 1) := by decide +kernel
theorem d_mn_listDegree_23 : decode b_mn_listDegree 23 = .ok (.aload_n 0, 1) := by decide +kernel
theorem d_mn_listDegree_24 : decode b_mn_listDegree 24 = .ok (.getfield 24, 3) := by decide +kernel
theorem d_mn_listDegree_27 : decode b_mn_listDegree 27 = .ok (.iconst 1, 1) := by decide +kernel
theorem d_mn_listDegree_28 : decode b_mn_listDegree 28 = .ok (.isub, 1) := by decide +kernel
theorem d_mn_listDegree_29 : decode b_mn_listDegree 29 = .ok (.if_icmp .lt 19, 3) := by decide +kernel
theorem d_mn_listDegree_32 : decode b_mn_listDegree 32 = .ok (.aload_n 0, 1) := by decide +kernel
theorem d_mn_listDegree_33 : decode b_mn_listDegree 33 = .ok (.iload 4, 2) := by decide +kernel
theorem d_mn_listDegree_35 : decode b_mn_listDegree 35 = .ok (.iload_n 3, 1) := by decide +kernel
theorem d_mn_listDegree_36 : decode b_mn_listDegree 36 = .ok (.iload 5, 2) := by decide +kernel
theorem d_mn_listDegree_38 : decode b_mn_listDegree 38 = .ok (.invokestatic 44, 3) := by decide +kernel
theorem d_mn_listDegree_41 : decode b_mn_listDegree 41 = .ok (.imul, 1) := by decide +kernel
theorem d_mn_listDegree_42 : decode b_mn_listDegree 42 = .ok (.iadd, 1) := by decide +kernel
theorem d_mn_listDegree_43 : decode b_mn_listDegree 43 = .ok (.iload_n 1, 1) := by decide +kernel
theorem d_mn_listDegree_44 : decode b_mn_listDegree 44 = .ok (.invokevirtual 51, 3) := by decide +kernel
theorem d_mn_listDegree_47 : decode b_mn_listDegree 47 = .ok (.return_, 1) := by decide +kernel
theorem d_mn_listDegree_48 : decode b_mn_listDegree 48 = .ok (.iconst 0, 1) := by decide +kernel
theorem d_mn_listDegree_49 : decode b_mn_listDegree 49 = .ok (.istore 6, 2) := by decide +kernel
theorem d_mn_listDegree_51 : decode b_mn_listDegree 51 = .ok (.iload 6, 2) := by decide +kernel
theorem d_mn_listDegree_53 : decode b_mn_listDegree 53 = .ok (.iload_n 3, 1) := by decide +kernel
theorem d_mn_listDegree_54 : decode b_mn_listDegree 54 = .ok (.if_icmp .gt 51, 3) := by decide +kernel
theorem d_mn_listDegree_57 : decode b_mn_listDegree 57 = .ok (.aload_n 0, 1) := by decide +kernel
theorem d_mn_listDegree_58 : decode b_mn_listDegree 58 = .ok (.getfield 28, 3) := by decide +kernel
theorem d_mn_listDegree_61 : decode b_mn_listDegree 61 = .ok (.iconst 1, 1) := by decide +kernel
theorem d_mn_listDegree_62 : decode b_mn_listDegree 62 = .ok (.if_icmp .ne 8, 3) := by decide +kernel
theorem d_mn_listDegree_65 : decode b_mn_listDegree 65 = .ok (.iload 6, 2) := by decide +kernel
theorem d_mn_listDegree_67 : decode b_mn_listDegree 67 = .ok (.goto 7, 3) := by decide +kernel
theorem d_mn_listDegree_70 : decode b_mn_listDegree 70 = .ok (.iload_n 3, 1) := by decide +kernel
theorem d_mn_listDegree_71 : decode b_mn_listDegree 71 = .ok (.iload 6, 2) := by decide +kernel
theorem d_mn_listDegree_73 : decode b_mn_listDegree 73 = .ok (.isub, 1) := by decide +kernel
theorem d_mn_listDegree_74 : decode b_mn_listDegree 74 = .ok (.istore 7, 2) := by decide +kernel
theorem d_mn_listDegree_76 : decode b_mn_listDegree 76 = .ok (.aload_n 0, 1) := by decide +kernel
theorem d_mn_listDegree_77 : decode b_mn_listDegree 77 = .ok (.iload_n 1, 1) := by decide +kernel
theorem d_mn_listDegree_78 : decode b_mn_listDegree 78 = .ok (.iload_n 2, 1) := by decide +kernel
theorem d_mn_listDegree_79 : decode b_mn_listDegree 79 = .ok (.iconst 1, 1) := by decide +kernel
theorem d_mn_listDegree_80 : decode b_mn_listDegree 80 = .ok (.iadd, 1) := by decide +kernel
theorem d_mn_listDegree_81 : decode b_mn_listDegree 81 = .ok (.iload_n 3, 1) := by decide +kernel
theorem d_mn_listDegree_82 : decode b_mn_listDegree 82 = .ok (.iload 7, 2) := by decide +kernel
theorem d_mn_listDegree_84 : decode b_mn_listDegree 84 = .ok (.isub, 1) := by decide +kernel
theorem d_mn_listDegree_85 : decode b_mn_listDegree 85 = .ok (.iload 4, 2) := by decide +kernel
theorem d_mn_listDegree_87 : decode b_mn_listDegree 87 = .ok (.iload 7, 2) := by decide +kernel
theorem d_mn_listDegree_89 : decode b_mn_listDegree 89 = .ok (.iload 5, 2) := by decide +kernel
theorem d_mn_listDegree_91 : decode b_mn_listDegree 91 = .ok (.invokestatic 44, 3) := by decide +kernel
theorem d_mn_listDegree_94 : decode b_mn_listDegree 94 = .ok (.imul, 1) := by decide +kernel
theorem d_mn_listDegree_95 : decode b_mn_listDegree 95 = .ok (.iadd, 1) := by decide +kernel
theorem d_mn_listDegree_96 : decode b_mn_listDegree 96 = .ok (.invokevirtual 40, 3) := by decide +kernel
theorem d_mn_listDegree_99 : decode b_mn_listDegree 99 = .ok (.iinc 6 1, 3) := by decide +kernel
theorem d_mn_listDegree_102 : decode b_mn_listDegree 102 = .ok (.goto (-51), 3) := by decide +kernel
theorem d_mn_listDegree_105 : decode b_mn_listDegree 105 = .ok (.return_, 1) := by decide +kernel
/-- SpaceBasis$Monomials.listDegree(IIII)V -/
def vc_mn_listDegree : Nat → Int32 → Int32 → Int32 → Int32 → (Nat → Int32) → (Nat → Int32) → Int32 → Int32 → Int32 → Int32 → (Int32 → (Nat → Int32) → (Nat → Int32) → Prop) → Prop
  | 0, _, _, _, _, _, _, _, _, _, _, _ => False
  | dd + 1, mn_variables, mn_order, mn_highest, mn_count, mn_codes, mn_degrees, p0, p1, p2, p3, Q =>
  (((¬ (mn_order = 1)) → (∀ x5_2 : Int32, x5_2 = ((mn_variables - 1) - p1) → (((p1 < (mn_variables - 1)) → (∃ (I51_8 : Int32 → Int32 → (Nat → Int32) → (Nat → Int32) → Prop) (mu51_9 : Int32 → Int32 → (Nat → Int32) → (Nat → Int32) → Nat), I51_8 0 mn_count mn_codes mn_degrees ∧ ∀ (x6_4 : Int32) (mn_count_5 : Int32) (mn_codes_6 : Nat → Int32) (mn_degrees_7 : Nat → Int32), I51_8 x6_4 mn_count_5 mn_codes_6 mn_degrees_7 → ((((p2 < x6_4) → (Q mn_count_5 mn_codes_6 mn_degrees_7)) ∧ ((¬ (p2 < x6_4)) → ((((¬ (mn_order = 1)) → (∀ x7_12 : Int32, x7_12 = (p2 - x6_4) → vc_mn_unit x5_2 (fun (r_13 : Int32) => vc_mn_listDegree dd mn_variables mn_order mn_highest mn_count_5 mn_codes_6 mn_degrees_7 p0 (p1 + 1) (p2 - x7_12) (p3 + (x7_12 * r_13)) (fun (mn_count_14 : Int32) (mn_codes_15 : Nat → Int32) (mn_degrees_16 : Nat → Int32) => ∀ x6_17 : Int32, x6_17 = x6_4 + 1 → (I51_8 x6_17 mn_count_14 mn_codes_15 mn_degrees_16 ∧ mu51_9 x6_17 mn_count_14 mn_codes_15 mn_degrees_16 < mu51_9 x6_4 mn_count_5 mn_codes_6 mn_degrees_7))))) ∧ ((mn_order = 1) → (vc_mn_unit x5_2 (fun (r_18 : Int32) => vc_mn_listDegree dd mn_variables mn_order mn_highest mn_count_5 mn_codes_6 mn_degrees_7 p0 (p1 + 1) (p2 - x6_4) (p3 + (x6_4 * r_18)) (fun (mn_count_19 : Int32) (mn_codes_20 : Nat → Int32) (mn_degrees_21 : Nat → Int32) => ∀ x6_22 : Int32, x6_22 = x6_4 + 1 → (I51_8 x6_22 mn_count_19 mn_codes_20 mn_degrees_21 ∧ mu51_9 x6_22 mn_count_19 mn_codes_20 mn_degrees_21 < mu51_9 x6_4 mn_count_5 mn_codes_6 mn_degrees_7)))))))))))) ∧ ((¬ (p1 < (mn_variables - 1))) → (vc_mn_unit x5_2 (fun (r_23 : Int32) => vc_mn_append mn_variables mn_order mn_highest mn_count mn_codes mn_degrees (p3 + (p2 * r_23)) p0 (fun (mn_count_24 : Int32) (mn_codes_25 : Nat → Int32) (mn_degrees_26 : Nat → Int32) => Q mn_count_24 mn_codes_25 mn_degrees_26))))))) ∧ ((mn_order = 1) → ((((p1 < (mn_variables - 1)) → (∃ (I51_32 : Int32 → Int32 → (Nat → Int32) → (Nat → Int32) → Prop) (mu51_33 : Int32 → Int32 → (Nat → Int32) → (Nat → Int32) → Nat), I51_32 0 mn_count mn_codes mn_degrees ∧ ∀ (x6_28 : Int32) (mn_count_29 : Int32) (mn_codes_30 : Nat → Int32) (mn_degrees_31 : Nat → Int32), I51_32 x6_28 mn_count_29 mn_codes_30 mn_degrees_31 → ((((p2 < x6_28) → (Q mn_count_29 mn_codes_30 mn_degrees_31)) ∧ ((¬ (p2 < x6_28)) → ((((¬ (mn_order = 1)) → (∀ x7_36 : Int32, x7_36 = (p2 - x6_28) → vc_mn_unit p1 (fun (r_37 : Int32) => vc_mn_listDegree dd mn_variables mn_order mn_highest mn_count_29 mn_codes_30 mn_degrees_31 p0 (p1 + 1) (p2 - x7_36) (p3 + (x7_36 * r_37)) (fun (mn_count_38 : Int32) (mn_codes_39 : Nat → Int32) (mn_degrees_40 : Nat → Int32) => ∀ x6_41 : Int32, x6_41 = x6_28 + 1 → (I51_32 x6_41 mn_count_38 mn_codes_39 mn_degrees_40 ∧ mu51_33 x6_41 mn_count_38 mn_codes_39 mn_degrees_40 < mu51_33 x6_28 mn_count_29 mn_codes_30 mn_degrees_31))))) ∧ ((mn_order = 1) → (vc_mn_unit p1 (fun (r_42 : Int32) => vc_mn_listDegree dd mn_variables mn_order mn_highest mn_count_29 mn_codes_30 mn_degrees_31 p0 (p1 + 1) (p2 - x6_28) (p3 + (x6_28 * r_42)) (fun (mn_count_43 : Int32) (mn_codes_44 : Nat → Int32) (mn_degrees_45 : Nat → Int32) => ∀ x6_46 : Int32, x6_46 = x6_28 + 1 → (I51_32 x6_46 mn_count_43 mn_codes_44 mn_degrees_45 ∧ mu51_33 x6_46 mn_count_43 mn_codes_44 mn_degrees_45 < mu51_33 x6_28 mn_count_29 mn_codes_30 mn_degrees_31)))))))))))) ∧ ((¬ (p1 < (mn_variables - 1))) → (vc_mn_unit p1 (fun (r_47 : Int32) => vc_mn_append mn_variables mn_order mn_highest mn_count mn_codes mn_degrees (p3 + (p2 * r_47)) p0 (fun (mn_count_48 : Int32) (mn_codes_49 : Nat → Int32) (mn_degrees_50 : Nat → Int32) => Q mn_count_48 mn_codes_49 mn_degrees_50))))))))
abbrev at_mn_listDegree (dC : Nat → ClassId) (dI : Nat → Nat → Nat) (cs : Nat → ClassId) (A : Nat → Prop) (ad : Nat → Nat) (mn_variables : Int32) (mn_order : Int32) (mn_highest : Int32) (u : Int32 × (Nat → Int32) × (Nat → Int32)) (t : State) : Prop := match u with
  | (mn_count, mn_codes, mn_degrees) => va_P (dC, dI) vwCl [((ad 4), .inr (2, [.ref (ad 5), .ref (ad 6), .ref (ad 7), .ref (ad 8), .int mn_variables, .int mn_order, .int mn_highest, .int mn_count])), ((ad 5), .inl (cs 0, 126, .inl mn_codes)), ((ad 6), .inl (cs 0, 126, .inl mn_degrees))] t.heap ∧ va_D A [((ad 4), .inr (2, [.ref (ad 5), .ref (ad 6), .ref (ad 7), .ref (ad 8), .int mn_variables, .int mn_order, .int mn_highest, .int mn_count])), ((ad 5), .inl (cs 0, 126, .inl mn_codes)), ((ad 6), .inl (cs 0, 126, .inl mn_degrees))]
set_option maxHeartbeats 4000000 in
set_option maxRecDepth 100000 in
theorem c_mn_listDegree (l : Launch) (dC : Nat → ClassId) (dI : Nat → Nat → Nat) (cs : Nat → ClassId) (ad : Nat → Nat) : ∀ (dd : Nat) (sz : Nat) (mn_variables : Int32) (mn_order : Int32) (mn_highest : Int32) (mn_count : Int32) (mn_codes : Nat → Int32) (mn_degrees : Nat → Int32) (p0 : Int32) (p1 : Int32) (p2 : Int32) (p3 : Int32) (Q : Int32 → (Nat → Int32) → (Nat → Int32) → Prop) (hv : vc_mn_listDegree dd mn_variables mn_order mn_highest mn_count mn_codes mn_degrees p0 p1 p2 p3 Q), Met l y_mn_listDegree w_mn_listDegree ({ frames := 1 + dd, cells := 0, slots := 0, locals := 22 + 27 * dd }) (va_Pc [.ref (ad 4), .int p0, .int p1, .int p2, .int p3] (fun U => U.heap.size = sz ∧ va_P (dC, dI) vwCl [((ad 4), .inr (2, [.ref (ad 5), .ref (ad 6), .ref (ad 7), .ref (ad 8), .int mn_variables, .int mn_order, .int mn_highest, .int mn_count])), ((ad 5), .inl (cs 0, 126, .inl mn_codes)), ((ad 6), .inl (cs 0, 126, .inl mn_degrees))] U.heap ∧ vwK dC dI cs U ∧ va_D (fun _ => True) [((ad 4), .inr (2, [.ref (ad 5), .ref (ad 6), .ref (ad 7), .ref (ad 8), .int mn_variables, .int mn_order, .int mn_highest, .int mn_count])), ((ad 5), .inl (cs 0, 126, .inl mn_codes)), ((ad 6), .inl (cs 0, 126, .inl mn_degrees))])) (va_Qv (fun (u : Int32 × (Nat → Int32) × (Nat → Int32)) => Q u.1 u.2.1 u.2.2) (at_mn_listDegree dC dI cs (va_A [((ad 4), .inr (2, [.ref (ad 5), .ref (ad 6), .ref (ad 7), .ref (ad 8), .int mn_variables, .int mn_order, .int mn_highest, .int mn_count])), ((ad 5), .inl (cs 0, 126, .inl mn_codes)), ((ad 6), .inl (cs 0, 126, .inl mn_degrees))] sz) ad mn_variables mn_order mn_highest) (va_A [((ad 4), .inr (2, [.ref (ad 5), .ref (ad 6), .ref (ad 7), .ref (ad 8), .int mn_variables, .int mn_order, .int mn_highest, .int mn_count])), ((ad 5), .inl (cs 0, 126, .inl mn_codes)), ((ad 6), .inl (cs 0, 126, .inl mn_degrees))] sz)) 0 0 (va_A [((ad 4), .inr (2, [.ref (ad 5), .ref (ad 6), .ref (ad 7), .ref (ad 8), .int mn_variables, .int mn_order, .int mn_highest, .int mn_count])), ((ad 5), .inl (cs 0, 126, .inl mn_codes)), ((ad 6), .inl (cs 0, 126, .inl mn_degrees))] sz) := by
  intro dd
  induction dd with
  | zero => intro sz mn_variables mn_order mn_highest mn_count mn_codes mn_degrees p0 p1 p2 p3 Q hv; exact False.elim hv
  | succ dd ihd =>
  intro sz mn_variables mn_order mn_highest mn_count mn_codes mn_degrees p0 p1 p2 p3 Q hv
  unfold vc_mn_listDegree at hv
  refine Met.ofW (cc := b_mn_listDegree) (maxL := 8) (ret := none) (by decide) rfl ?_
  intro p e s m args below meth c s₁ B hml hpc
  obtain ⟨rfl, hsz, hP, ⟨hK, hN⟩, hD0⟩ := hpc
  have hx := B.exec
  have hb := B.bytes
  have hr := B.returns
  have hts : ∀ w ∈ vwWS, w.before _ s = true := fun w h => atoms_spec (ws := w_mn_listDegree) B.pre w (List.mem_cons_of_mem _ h)
  have hown : s.vm.findClass "SpaceBasis$Monomials" = some m.cls := findClass_of_methodNamed B.named
  have hlocks := B.notSynchronized
  subst hsz
  have hD := hD0.self (sz := s.heap.size)
  generalize hAe : va_A [((ad 4), .inr (2, [.ref (ad 5), .ref (ad 6), .ref (ad 7), .ref (ad 8), .int mn_variables, .int mn_order, .int mn_highest, .int mn_count])), ((ad 5), .inl (cs 0, 126, .inl mn_codes)), ((ad 6), .inl (cs 0, 126, .inl mn_degrees))] s.heap.size = A at hD ⊢
  have hA : ∀ q : Nat, s.heap.size ≤ q → A q := fun q h => by rw [← hAe]; exact Or.inr h
  have hS : va_S A s.heap s.heap [] := va_S.rf
  have hl := lv_entry ([.ref (ad 4), .int p0, .int p1, .int p2, .int p3]) (n := 8) (Nat.le_of_ble_eq_true rfl)
  rw [lg_entry_eq]
  generalize (lg_sl ([.ref (ad 4), .int p0, .int p1, .int p2, .int p3]) ++ List.replicate (8 - (lg_sl ([.ref (ad 4), .int p0, .int p1, .int p2, .int p3])).length) Slot.unset).toArray = ls at hl ⊢
  have hl : lv_has ls 8 [(0, .ref (ad 4)), (1, .int p0), (2, .int p1), (3, .int p2), (4, .int p3)] := hl
  refine lv_aload_n hx hb d_mn_listDegree_0 rfl (lv_at hl 0 rfl) ?_
  refine va_get (D := (dC, dI)) (ci := 2) (v := .int mn_order) (C := R_mn) (T := F_mn) (N := 8) hx hb hts in_mn hown hK hP 0 rfl rfl 5 (by decide) (hts _ kw_77) (fun _ h9 => h9) rfl d_mn_listDegree_1 ?_
  refine lv_iconst (v := 1) hx hb d_mn_listDegree_4 (by decide) ?_
  refine lv_icmp_ne (tgt := 12) hx hb d_mn_listDegree_5 (by decide) (fun c_1 => ?_) (fun c_1 => ?_)
  · have hv := hv.1 c_1
    refine lv_aload_n hx hb d_mn_listDegree_12 rfl (lv_at hl 0 rfl) ?_
    refine va_get (D := (dC, dI)) (ci := 2) (v := .int mn_variables) (C := R_mn) (T := F_mn) (N := 8) hx hb hts in_mn hown hK hP 0 rfl rfl 4 (by decide) (hts _ kw_76) (fun _ h9 => h9) rfl d_mn_listDegree_13 ?_
    refine lv_iconst (v := 1) hx hb d_mn_listDegree_16 (by decide) ?_
    refine lv_isub hx hb d_mn_listDegree_17 ?_
    refine lv_iload_n hx hb d_mn_listDegree_18 rfl (lv_at hl 2 rfl) ?_
    refine lv_isub hx hb d_mn_listDegree_19 ?_
    refine lv_topi (fun x5_2 ex5_2 => ?_)
    have hv := hv x5_2 ex5_2
    refine lv_istore (lv' := [(5, .int x5_2), (0, .ref (ad 4)), (1, .int p0), (2, .int p1), (3, .int p2), (4, .int p3)]) hx hb d_mn_listDegree_20 hl (by decide) rfl (fun ls hl => ?_)
    refine lv_iload_n hx hb d_mn_listDegree_22 rfl (lv_at hl 3 rfl) ?_
    refine lv_aload_n hx hb d_mn_listDegree_23 rfl (lv_at hl 1 rfl) ?_
    refine va_get (D := (dC, dI)) (ci := 2) (v := .int mn_variables) (C := R_mn) (T := F_mn) (N := 8) hx hb hts in_mn hown hK hP 0 rfl rfl 4 (by decide) (hts _ kw_76) (fun _ h9 => h9) rfl d_mn_listDegree_24 ?_
    refine lv_iconst (v := 1) hx hb d_mn_listDegree_27 (by decide) ?_
    refine lv_isub hx hb d_mn_listDegree_28 ?_
    refine lv_icmp_lt (tgt := 48) hx hb d_mn_listDegree_29 (by decide) (fun c_3 => ?_) (fun c_3 => ?_)
    · have hv := hv.1 c_3
      refine lv_iconst (v := 0) hx hb d_mn_listDegree_48 (by decide) ?_
      refine lv_istore (lv' := [(6, .int 0), (5, .int x5_2), (0, .ref (ad 4)), (1, .int p0), (2, .int p1), (3, .int p2), (4, .int p3)]) hx hb d_mn_listDegree_49 hl (by decide) rfl (fun ls hl => ?_)
      obtain ⟨I51_8, mu51_9, hi0, hv⟩ := hv
      have hP := hP.sub (ws' := [((ad 4), .inr (2, [.ref (ad 5), .ref (ad 6), .ref (ad 7), .ref (ad 8), .int mn_variables, .int mn_order, .int mn_highest, .int mn_count])), ((ad 5), .inl (cs 0, 126, .inl mn_codes)), ((ad 6), .inl (cs 0, 126, .inl mn_degrees))]) [0, 1, 2] rfl
      have hD := hD.sub (ws' := [((ad 4), .inr (2, [.ref (ad 5), .ref (ad 6), .ref (ad 7), .ref (ad 8), .int mn_variables, .int mn_order, .int mn_highest, .int mn_count])), ((ad 5), .inl (cs 0, 126, .inl mn_codes)), ((ad 6), .inl (cs 0, 126, .inl mn_degrees))]) [0, 1, 2] (by decide) rfl
      have hl := lv_sub (l' := [(0, .ref (ad 4)), (1, .int p0), (2, .int p1), (3, .int p2), (4, .int p3), (5, .int x5_2), (6, .int 0)]) hl [2, 3, 4, 5, 6, 1, 0] rfl
      have loop51 : ∀ (nn : Nat) (x6_4 : Int32) (mn_count_5 : Int32) (mn_codes_6 : Nat → Int32) (mn_degrees_7 : Nat → Int32), mu51_9 x6_4 mn_count_5 mn_codes_6 mn_degrees_7 < nn → I51_8 x6_4 mn_count_5 mn_codes_6 mn_degrees_7 → ∀ (H : Heap) (locs : List Loc) (ls : Array Slot), va_P (dC, dI) vwCl [((ad 4), .inr (2, [.ref (ad 5), .ref (ad 6), .ref (ad 7), .ref (ad 8), .int mn_variables, .int mn_order, .int mn_highest, .int mn_count_5])), ((ad 5), .inl (cs 0, 126, .inl mn_codes_6)), ((ad 6), .inl (cs 0, 126, .inl mn_degrees_7))] H → va_D A [((ad 4), .inr (2, [.ref (ad 5), .ref (ad 6), .ref (ad 7), .ref (ad 8), .int mn_variables, .int mn_order, .int mn_highest, .int mn_count_5])), ((ad 5), .inl (cs 0, 126, .inl mn_codes_6)), ((ad 6), .inl (cs 0, 126, .inl mn_degrees_7))] → va_S A s.heap H locs → lv_has ls 8 [(0, .ref (ad 4)), (1, .int p0), (2, .int p1), (3, .int p2), (4, .int p3), (5, .int x5_2), (6, .int x6_4)] → W p l e (headSpec w_mn_listDegree { frames := 1 + (dd + 1), cells := 0, slots := 0, locals := 22 + 27 * (dd + 1) }).room s m ([.ref (ad 4), .int p0, .int p1, .int p2, .int p3] : List Value).toArray below meth c H locs 0 0 (MQ below (va_Qv (fun (u : Int32 × (Nat → Int32) × (Nat → Int32)) => Q u.1 u.2.1 u.2.2) (at_mn_listDegree dC dI cs A ad mn_variables mn_order mn_highest) A) ([.ref (ad 4), .int p0, .int p1, .int p2, .int p3] : List Value).toArray s 0 0 A) (F0 m 51 ls []) := by
        intro nn
        induction nn with
        | zero => intro x6_4 mn_count_5 mn_codes_6 mn_degrees_7 hlt; exact absurd hlt (Nat.not_lt_zero _)
        | succ nn ih51 =>
          intro x6_4 mn_count_5 mn_codes_6 mn_degrees_7 hlt51 hI H locs ls hP hD hS hl
          have hv := hv x6_4 mn_count_5 mn_codes_6 mn_degrees_7 hI
          refine lv_iload hx hb d_mn_listDegree_51 (lv_at hl 6 rfl) ?_
          refine lv_iload_n hx hb d_mn_listDegree_53 rfl (lv_at hl 3 rfl) ?_
          refine lv_icmp_gt (tgt := 105) hx hb d_mn_listDegree_54 (by decide) (fun c_10 => ?_) (fun c_10 => ?_)
          · have hv := hv.1 c_10
            have hP9 := hP.sub (ws' := [((ad 4), .inr (2, [.ref (ad 5), .ref (ad 6), .ref (ad 7), .ref (ad 8), .int mn_variables, .int mn_order, .int mn_highest, .int mn_count_5])), ((ad 5), .inl (cs 0, 126, .inl mn_codes_6)), ((ad 6), .inl (cs 0, 126, .inl mn_degrees_7))]) [0, 1, 2] rfl
            have hD9 := hD.sub (ws' := [((ad 4), .inr (2, [.ref (ad 5), .ref (ad 6), .ref (ad 7), .ref (ad 8), .int mn_variables, .int mn_order, .int mn_highest, .int mn_count_5])), ((ad 5), .inl (cs 0, 126, .inl mn_codes_6)), ((ad 6), .inl (cs 0, 126, .inl mn_degrees_7))]) [0, 1, 2] (by decide) rfl
            exact W.vret hx hb hr (fun t ht hW => ⟨⟨(mn_count_5, mn_codes_6, mn_degrees_7), rfl, hv, by rw [ht]; exact hP9, hD9⟩, hS.F ht⟩) hS.2.2 d_mn_listDegree_105
          · have hv := hv.2 c_10
            refine lv_aload_n hx hb d_mn_listDegree_57 rfl (lv_at hl 0 rfl) ?_
            refine va_get (D := (dC, dI)) (ci := 2) (v := .int mn_order) (C := R_mn) (T := F_mn) (N := 8) hx hb hts in_mn hown hK hP 0 rfl rfl 5 (by decide) (hts _ kw_77) (fun _ h9 => h9) rfl d_mn_listDegree_58 ?_
            refine lv_iconst (v := 1) hx hb d_mn_listDegree_61 (by decide) ?_
            refine lv_icmp_ne (tgt := 70) hx hb d_mn_listDegree_62 (by decide) (fun c_11 => ?_) (fun c_11 => ?_)
            · have hv := hv.1 c_11
              refine lv_iload_n hx hb d_mn_listDegree_70 rfl (lv_at hl 3 rfl) ?_
              refine lv_iload hx hb d_mn_listDegree_71 (lv_at hl 6 rfl) ?_
              refine lv_isub hx hb d_mn_listDegree_73 ?_
              refine lv_topi (fun x7_12 ex7_12 => ?_)
              have hv := hv x7_12 ex7_12
              refine lv_istore (lv' := [(7, .int x7_12), (0, .ref (ad 4)), (1, .int p0), (2, .int p1), (3, .int p2), (4, .int p3), (5, .int x5_2), (6, .int x6_4)]) hx hb d_mn_listDegree_74 hl (by decide) rfl (fun ls hl => ?_)
              refine lv_aload_n hx hb d_mn_listDegree_76 rfl (lv_at hl 1 rfl) ?_
              refine lv_iload_n hx hb d_mn_listDegree_77 rfl (lv_at hl 2 rfl) ?_
              refine lv_iload_n hx hb d_mn_listDegree_78 rfl (lv_at hl 3 rfl) ?_
              refine lv_iconst (v := 1) hx hb d_mn_listDegree_79 (by decide) ?_
              refine lv_iadd hx hb d_mn_listDegree_80 ?_
              refine lv_iload_n hx hb d_mn_listDegree_81 rfl (lv_at hl 4 rfl) ?_
              refine lv_iload hx hb d_mn_listDegree_82 (lv_at hl 0 rfl) ?_
              refine lv_isub hx hb d_mn_listDegree_84 ?_
              refine lv_iload hx hb d_mn_listDegree_85 (lv_at hl 5 rfl) ?_
              refine lv_iload hx hb d_mn_listDegree_87 (lv_at hl 0 rfl) ?_
              refine lv_iload hx hb d_mn_listDegree_89 (lv_at hl 6 rfl) ?_
              have hPc := hP.sub (ws' := []) [] rfl
              have hDc := hD.sub (ws' := []) [] (by decide) rfl
              have hFc := va_free (wc := []) hD hS hA [] rfl
              refine va_calli (va_runS (As := [.int x5_2]) (rest := [.int x7_12, .int p3, .int (p2 - x7_12), .int (p1 + 1), .int p0, .ref (ad 4)]) ⟨hx, hb, hml, hown, hts⟩ (c_mn_unit l dC dI cs ad  H.size x5_2 _ hv) (va_cwS 1 hts (gd_S kw_232 kw_233 kw_34 kw_234) rfl rfl rfl (by decide +kernel) ⟨by show 1 ≤ 1 + (dd + 1); omega, by show 8 + (1 + 11) + 0 ≤ 22 + 27 * (dd + 1); omega⟩) ⟨fun a U g mk q => by obtain ⟨q0, q1, qP, qK, qD⟩ := q; exact ⟨q0, q1, qP, qK.call, qD⟩, fun U hU hW => ⟨rfl, by rw [hU], by rw [hU]; exact hPc, vwK.warm hW ⟨hK, hN⟩, hDc.weaken (fun _ _ _ _ => trivial)⟩⟩ rfl rfl hl.1 rfl (lv_room (Nat.le_of_ble_eq_true rfl)) d_mn_listDegree_91 ⟨Nat.zero_le _, Nat.zero_le _⟩) hS (fun q _ h => hFc q h) hFc (fun r_13 _u t H1 locs1 ht hvm hw hB hz1 hk1 hS => ?_)
              obtain ⟨hP1, hD1⟩ := hB
              rw [ht] at hP1
              obtain ⟨hP, hD⟩ := va_join (wr := [((ad 4), .inr (2, [.ref (ad 5), .ref (ad 6), .ref (ad 7), .ref (ad 8), .int mn_variables, .int mn_order, .int mn_highest, .int mn_count_5])), ((ad 5), .inl (cs 0, 126, .inl mn_codes_6)), ((ad 6), .inl (cs 0, 126, .inl mn_degrees_7))]) (w1 := []) hP hD [] [0, 1, 2] rfl rfl (by decide) (by decide) hk1 hFc hP1 hD1
              generalize H1 = H at hP hS ⊢
              generalize locs1 = locs at hS ⊢
              have hP : va_P (dC, dI) vwCl [((ad 4), .inr (2, [.ref (ad 5), .ref (ad 6), .ref (ad 7), .ref (ad 8), .int mn_variables, .int mn_order, .int mn_highest, .int mn_count_5])), ((ad 5), .inl (cs 0, 126, .inl mn_codes_6)), ((ad 6), .inl (cs 0, 126, .inl mn_degrees_7))] H := hP
              have hD : va_D A [((ad 4), .inr (2, [.ref (ad 5), .ref (ad 6), .ref (ad 7), .ref (ad 8), .int mn_variables, .int mn_order, .int mn_highest, .int mn_count_5])), ((ad 5), .inl (cs 0, 126, .inl mn_codes_6)), ((ad 6), .inl (cs 0, 126, .inl mn_degrees_7))] := hD
              have hv := hw
              try dsimp only at hv
              refine lv_imul hx hb d_mn_listDegree_94 ?_
              refine lv_iadd hx hb d_mn_listDegree_95 ?_
              have hPc := hP.sub (ws' := [((ad 4), .inr (2, [.ref (ad 5), .ref (ad 6), .ref (ad 7), .ref (ad 8), .int mn_variables, .int mn_order, .int mn_highest, .int mn_count_5])), ((ad 5), .inl (cs 0, 126, .inl mn_codes_6)), ((ad 6), .inl (cs 0, 126, .inl mn_degrees_7))]) [0, 1, 2] rfl
              have hDc := hD.sub (ws' := [((ad 4), .inr (2, [.ref (ad 5), .ref (ad 6), .ref (ad 7), .ref (ad 8), .int mn_variables, .int mn_order, .int mn_highest, .int mn_count_5])), ((ad 5), .inl (cs 0, 126, .inl mn_codes_6)), ((ad 6), .inl (cs 0, 126, .inl mn_degrees_7))]) [0, 1, 2] (by decide) rfl
              have hFc := va_free (wc := [((ad 4), .inr (2, [.ref (ad 5), .ref (ad 6), .ref (ad 7), .ref (ad 8), .int mn_variables, .int mn_order, .int mn_highest, .int mn_count_5])), ((ad 5), .inl (cs 0, 126, .inl mn_codes_6)), ((ad 6), .inl (cs 0, 126, .inl mn_degrees_7))]) hD hS hA [0, 1, 2] rfl
              refine va_callv (va_runV (As := [.int p0, .int (p1 + 1), .int (p2 - x7_12), .int (p3 + (x7_12 * r_13))]) (rest := []) ⟨hx, hb, hml, hown, hts⟩ (ihd H.size mn_variables mn_order mn_highest mn_count_5 mn_codes_6 mn_degrees_7 p0 (p1 + 1) (p2 - x7_12) (p3 + (x7_12 * r_13)) _ hv) (cwV 4 hts (gd_V kw_229 kw_230 kw_1 kw_34 kw_231) rfl rfl rfl (by decide +kernel) ⟨by show 1 + dd + 1 ≤ 1 + (dd + 1); omega, by show 8 + (8 + 11) + (22 + 27 * dd) ≤ 22 + 27 * (dd + 1); omega⟩) ⟨fun a U g mk q => by obtain ⟨q0, q1, qP, qK, qD⟩ := q; exact ⟨q0, q1, qP, qK.call, qD⟩, va_recv hK hPc (ci := 2) (q0 := 0) rfl rfl, fun U hU hW => ⟨rfl, by rw [hU], by rw [hU]; exact hPc, vwK.warm hW ⟨hK, hN⟩, hDc.weaken (fun _ _ _ _ => trivial)⟩⟩ rfl rfl hl.1 rfl (lv_room (Nat.le_of_ble_eq_true rfl)) d_mn_listDegree_96 ⟨Nat.zero_le _, Nat.zero_le _⟩) hS (fun q _ h => hFc q h) hFc (fun u t H1 locs1 ht hvm hw hB hz1 hk1 hS => ?_)
              obtain ⟨mn_count_14, mn_codes_15, mn_degrees_16⟩ := u
              obtain ⟨hP1, hD1⟩ := hB
              rw [ht] at hP1
              obtain ⟨hP, hD⟩ := va_join (wr := []) (w1 := [((ad 4), .inr (2, [.ref (ad 5), .ref (ad 6), .ref (ad 7), .ref (ad 8), .int mn_variables, .int mn_order, .int mn_highest, .int mn_count_14])), ((ad 5), .inl (cs 0, 126, .inl mn_codes_15)), ((ad 6), .inl (cs 0, 126, .inl mn_degrees_16))]) hP hD [0, 1, 2] [] rfl rfl (by decide) (by decide) hk1 hFc hP1 hD1
              generalize H1 = H at hP hS ⊢
              generalize locs1 = locs at hS ⊢
              have hP : va_P (dC, dI) vwCl [((ad 4), .inr (2, [.ref (ad 5), .ref (ad 6), .ref (ad 7), .ref (ad 8), .int mn_variables, .int mn_order, .int mn_highest, .int mn_count_14])), ((ad 5), .inl (cs 0, 126, .inl mn_codes_15)), ((ad 6), .inl (cs 0, 126, .inl mn_degrees_16))] H := hP
              have hD : va_D A [((ad 4), .inr (2, [.ref (ad 5), .ref (ad 6), .ref (ad 7), .ref (ad 8), .int mn_variables, .int mn_order, .int mn_highest, .int mn_count_14])), ((ad 5), .inl (cs 0, 126, .inl mn_codes_15)), ((ad 6), .inl (cs 0, 126, .inl mn_degrees_16))] := hD
              have hv := hw
              try dsimp only at hv
              obtain ⟨x6_17, ex6_17⟩ : ∃ y : Int32, y = x6_4 + 1 := ⟨_, rfl⟩
              have hv := hv x6_17 ex6_17
              refine lv_iinc (v := x6_17) (lv' := [(6, .int x6_17), (7, .int x7_12), (0, .ref (ad 4)), (1, .int p0), (2, .int p1), (3, .int p2), (4, .int p3), (5, .int x5_2)]) hx hb d_mn_listDegree_99 hl (k := 7) rfl (by rw [ex6_17]; rfl) (by decide) rfl (fun ls hl => ?_)
              refine lv_goto (tgt := 51) hx hb d_mn_listDegree_102 (by decide) ?_
              exact ih51 x6_17 mn_count_14 mn_codes_15 mn_degrees_16 (Nat.lt_of_lt_of_le hv.2 (Nat.le_of_lt_succ hlt51)) hv.1 _ _ _ (hP.sub [0, 1, 2] rfl) (hD.sub [0, 1, 2] (by decide) rfl) hS (lv_sub hl [2, 3, 4, 5, 6, 7, 0] rfl)
            · have hv := hv.2 c_11
              refine lv_iload hx hb d_mn_listDegree_65 (lv_at hl 6 rfl) ?_
              refine lv_goto (tgt := 74) hx hb d_mn_listDegree_67 (by decide) ?_
              refine lv_istore (lv' := [(7, .int x6_4), (0, .ref (ad 4)), (1, .int p0), (2, .int p1), (3, .int p2), (4, .int p3), (5, .int x5_2), (6, .int x6_4)]) hx hb d_mn_listDegree_74 hl (by decide) rfl (fun ls hl => ?_)
              refine lv_aload_n hx hb d_mn_listDegree_76 rfl (lv_at hl 1 rfl) ?_
              refine lv_iload_n hx hb d_mn_listDegree_77 rfl (lv_at hl 2 rfl) ?_
              refine lv_iload_n hx hb d_mn_listDegree_78 rfl (lv_at hl 3 rfl) ?_
              refine lv_iconst (v := 1) hx hb d_mn_listDegree_79 (by decide) ?_
              refine lv_iadd hx hb d_mn_listDegree_80 ?_
              refine lv_iload_n hx hb d_mn_listDegree_81 rfl (lv_at hl 4 rfl) ?_
              refine lv_iload hx hb d_mn_listDegree_82 (lv_at hl 0 rfl) ?_
              refine lv_isub hx hb d_mn_listDegree_84 ?_
              refine lv_iload hx hb d_mn_listDegree_85 (lv_at hl 5 rfl) ?_
              refine lv_iload hx hb d_mn_listDegree_87 (lv_at hl 0 rfl) ?_
              refine lv_iload hx hb d_mn_listDegree_89 (lv_at hl 6 rfl) ?_
              have hPc := hP.sub (ws' := []) [] rfl
              have hDc := hD.sub (ws' := []) [] (by decide) rfl
              have hFc := va_free (wc := []) hD hS hA [] rfl
              refine va_calli (va_runS (As := [.int x5_2]) (rest := [.int x6_4, .int p3, .int (p2 - x6_4), .int (p1 + 1), .int p0, .ref (ad 4)]) ⟨hx, hb, hml, hown, hts⟩ (c_mn_unit l dC dI cs ad  H.size x5_2 _ hv) (va_cwS 1 hts (gd_S kw_232 kw_233 kw_34 kw_234) rfl rfl rfl (by decide +kernel) ⟨by show 1 ≤ 1 + (dd + 1); omega, by show 8 + (1 + 11) + 0 ≤ 22 + 27 * (dd + 1); omega⟩) ⟨fun a U g mk q => by obtain ⟨q0, q1, qP, qK, qD⟩ := q; exact ⟨q0, q1, qP, qK.call, qD⟩, fun U hU hW => ⟨rfl, by rw [hU], by rw [hU]; exact hPc, vwK.warm hW ⟨hK, hN⟩, hDc.weaken (fun _ _ _ _ => trivial)⟩⟩ rfl rfl hl.1 rfl (lv_room (Nat.le_of_ble_eq_true rfl)) d_mn_listDegree_91 ⟨Nat.zero_le _, Nat.zero_le _⟩) hS (fun q _ h => hFc q h) hFc (fun r_18 _u t H1 locs1 ht hvm hw hB hz1 hk1 hS => ?_)
              obtain ⟨hP1, hD1⟩ := hB
              rw [ht] at hP1
              obtain ⟨hP, hD⟩ := va_join (wr := [((ad 4), .inr (2, [.ref (ad 5), .ref (ad 6), .ref (ad 7), .ref (ad 8), .int mn_variables, .int mn_order, .int mn_highest, .int mn_count_5])), ((ad 5), .inl (cs 0, 126, .inl mn_codes_6)), ((ad 6), .inl (cs 0, 126, .inl mn_degrees_7))]) (w1 := []) hP hD [] [0, 1, 2] rfl rfl (by decide) (by decide) hk1 hFc hP1 hD1
              generalize H1 = H at hP hS ⊢
              generalize locs1 = locs at hS ⊢
              have hP : va_P (dC, dI) vwCl [((ad 4), .inr (2, [.ref (ad 5), .ref (ad 6), .ref (ad 7), .ref (ad 8), .int mn_variables, .int mn_order, .int mn_highest, .int mn_count_5])), ((ad 5), .inl (cs 0, 126, .inl mn_codes_6)), ((ad 6), .inl (cs 0, 126, .inl mn_degrees_7))] H := hP
              have hD : va_D A [((ad 4), .inr (2, [.ref (ad 5), .ref (ad 6), .ref (ad 7), .ref (ad 8), .int mn_variables, .int mn_order, .int mn_highest, .int mn_count_5])), ((ad 5), .inl (cs 0, 126, .inl mn_codes_6)), ((ad 6), .inl (cs 0, 126, .inl mn_degrees_7))] := hD
              have hv := hw
              try dsimp only at hv
              refine lv_imul hx hb d_mn_listDegree_94 ?_
              refine lv_iadd hx hb d_mn_listDegree_95 ?_
              have hPc := hP.sub (ws' := [((ad 4), .inr (2, [.ref (ad 5), .ref (ad 6), .ref (ad 7), .ref (ad 8), .int mn_variables, .int mn_order, .int mn_highest, .int mn_count_5])), ((ad 5), .inl (cs 0, 126, .inl mn_codes_6)), ((ad 6), .inl (cs 0, 126, .inl mn_degrees_7))]) [0, 1, 2] rfl
              have hDc := hD.sub (ws' := [((ad 4), .inr (2, [.ref (ad 5), .ref (ad 6), .ref (ad 7), .ref (ad 8), .int mn_variables, .int mn_order, .int mn_highest, .int mn_count_5])), ((ad 5), .inl (cs 0, 126, .inl mn_codes_6)), ((ad 6), .inl (cs 0, 126, .inl mn_degrees_7))]) [0, 1, 2] (by decide) rfl
              have hFc := va_free (wc := [((ad 4), .inr (2, [.ref (ad 5), .ref (ad 6), .ref (ad 7), .ref (ad 8), .int mn_variables, .int mn_order, .int mn_highest, .int mn_count_5])), ((ad 5), .inl (cs 0, 126, .inl mn_codes_6)), ((ad 6), .inl (cs 0, 126, .inl mn_degrees_7))]) hD hS hA [0, 1, 2] rfl
              refine va_callv (va_runV (As := [.int p0, .int (p1 + 1), .int (p2 - x6_4), .int (p3 + (x6_4 * r_18))]) (rest := []) ⟨hx, hb, hml, hown, hts⟩ (ihd H.size mn_variables mn_order mn_highest mn_count_5 mn_codes_6 mn_degrees_7 p0 (p1 + 1) (p2 - x6_4) (p3 + (x6_4 * r_18)) _ hv) (cwV 4 hts (gd_V kw_229 kw_230 kw_1 kw_34 kw_231) rfl rfl rfl (by decide +kernel) ⟨by show 1 + dd + 1 ≤ 1 + (dd + 1); omega, by show 8 + (8 + 11) + (22 + 27 * dd) ≤ 22 + 27 * (dd + 1); omega⟩) ⟨fun a U g mk q => by obtain ⟨q0, q1, qP, qK, qD⟩ := q; exact ⟨q0, q1, qP, qK.call, qD⟩, va_recv hK hPc (ci := 2) (q0 := 0) rfl rfl, fun U hU hW => ⟨rfl, by rw [hU], by rw [hU]; exact hPc, vwK.warm hW ⟨hK, hN⟩, hDc.weaken (fun _ _ _ _ => trivial)⟩⟩ rfl rfl hl.1 rfl (lv_room (Nat.le_of_ble_eq_true rfl)) d_mn_listDegree_96 ⟨Nat.zero_le _, Nat.zero_le _⟩) hS (fun q _ h => hFc q h) hFc (fun u t H1 locs1 ht hvm hw hB hz1 hk1 hS => ?_)
              obtain ⟨mn_count_19, mn_codes_20, mn_degrees_21⟩ := u
              obtain ⟨hP1, hD1⟩ := hB
              rw [ht] at hP1
              obtain ⟨hP, hD⟩ := va_join (wr := []) (w1 := [((ad 4), .inr (2, [.ref (ad 5), .ref (ad 6), .ref (ad 7), .ref (ad 8), .int mn_variables, .int mn_order, .int mn_highest, .int mn_count_19])), ((ad 5), .inl (cs 0, 126, .inl mn_codes_20)), ((ad 6), .inl (cs 0, 126, .inl mn_degrees_21))]) hP hD [0, 1, 2] [] rfl rfl (by decide) (by decide) hk1 hFc hP1 hD1
              generalize H1 = H at hP hS ⊢
              generalize locs1 = locs at hS ⊢
              have hP : va_P (dC, dI) vwCl [((ad 4), .inr (2, [.ref (ad 5), .ref (ad 6), .ref (ad 7), .ref (ad 8), .int mn_variables, .int mn_order, .int mn_highest, .int mn_count_19])), ((ad 5), .inl (cs 0, 126, .inl mn_codes_20)), ((ad 6), .inl (cs 0, 126, .inl mn_degrees_21))] H := hP
              have hD : va_D A [((ad 4), .inr (2, [.ref (ad 5), .ref (ad 6), .ref (ad 7), .ref (ad 8), .int mn_variables, .int mn_order, .int mn_highest, .int mn_count_19])), ((ad 5), .inl (cs 0, 126, .inl mn_codes_20)), ((ad 6), .inl (cs 0, 126, .inl mn_degrees_21))] := hD
              have hv := hw
              try dsimp only at hv
              obtain ⟨x6_22, ex6_22⟩ : ∃ y : Int32, y = x6_4 + 1 := ⟨_, rfl⟩
              have hv := hv x6_22 ex6_22
              refine lv_iinc (v := x6_22) (lv' := [(6, .int x6_22), (7, .int x6_4), (0, .ref (ad 4)), (1, .int p0), (2, .int p1), (3, .int p2), (4, .int p3), (5, .int x5_2)]) hx hb d_mn_listDegree_99 hl (k := 7) rfl (by rw [ex6_22]; rfl) (by decide) rfl (fun ls hl => ?_)
              refine lv_goto (tgt := 51) hx hb d_mn_listDegree_102 (by decide) ?_
              exact ih51 x6_22 mn_count_19 mn_codes_20 mn_degrees_21 (Nat.lt_of_lt_of_le hv.2 (Nat.le_of_lt_succ hlt51)) hv.1 _ _ _ (hP.sub [0, 1, 2] rfl) (hD.sub [0, 1, 2] (by decide) rfl) hS (lv_sub hl [2, 3, 4, 5, 6, 7, 0] rfl)
      exact loop51 _ 0 mn_count mn_codes mn_degrees (Nat.lt_succ_self _) hi0 _ _ _ hP hD hS hl
    · have hv := hv.2 c_3
      refine lv_aload_n hx hb d_mn_listDegree_32 rfl (lv_at hl 1 rfl) ?_
      refine lv_iload hx hb d_mn_listDegree_33 (lv_at hl 5 rfl) ?_
      refine lv_iload_n hx hb d_mn_listDegree_35 rfl (lv_at hl 4 rfl) ?_
      refine lv_iload hx hb d_mn_listDegree_36 (lv_at hl 0 rfl) ?_
      have hPc := hP.sub (ws' := []) [] rfl
      have hDc := hD.sub (ws' := []) [] (by decide) rfl
      have hFc := va_free (wc := []) hD hS hA [] rfl
      refine va_calli (va_runS (As := [.int x5_2]) (rest := [.int p2, .int p3, .ref (ad 4)]) ⟨hx, hb, hml, hown, hts⟩ (c_mn_unit l dC dI cs ad  s.heap.size x5_2 _ hv) (va_cwS 1 hts (gd_S kw_232 kw_233 kw_34 kw_234) rfl rfl rfl (by decide +kernel) ⟨by show 1 ≤ 1 + (dd + 1); omega, by show 8 + (1 + 11) + 0 ≤ 22 + 27 * (dd + 1); omega⟩) ⟨fun a U g mk q => by obtain ⟨q0, q1, qP, qK, qD⟩ := q; exact ⟨q0, q1, qP, qK.call, qD⟩, fun U hU hW => ⟨rfl, by rw [hU], by rw [hU]; exact hPc, vwK.warm hW ⟨hK, hN⟩, hDc.weaken (fun _ _ _ _ => trivial)⟩⟩ rfl rfl hl.1 rfl (lv_room (Nat.le_of_ble_eq_true rfl)) d_mn_listDegree_38 ⟨Nat.zero_le _, Nat.zero_le _⟩) hS (fun q _ h => hFc q h) hFc (fun r_23 _u t H1 locs1 ht hvm hw hB hz1 hk1 hS => ?_)
      obtain ⟨hP1, hD1⟩ := hB
      rw [ht] at hP1
      obtain ⟨hP, hD⟩ := va_join (wr := [((ad 4), .inr (2, [.ref (ad 5), .ref (ad 6), .ref (ad 7), .ref (ad 8), .int mn_variables, .int mn_order, .int mn_highest, .int mn_count])), ((ad 5), .inl (cs 0, 126, .inl mn_codes)), ((ad 6), .inl (cs 0, 126, .inl mn_degrees))]) (w1 := []) hP hD [] [0, 1, 2] rfl rfl (by decide) (by decide) hk1 hFc hP1 hD1
      generalize H1 = H at hP hS ⊢
      generalize locs1 = locs at hS ⊢
      have hP : va_P (dC, dI) vwCl [((ad 4), .inr (2, [.ref (ad 5), .ref (ad 6), .ref (ad 7), .ref (ad 8), .int mn_variables, .int mn_order, .int mn_highest, .int mn_count])), ((ad 5), .inl (cs 0, 126, .inl mn_codes)), ((ad 6), .inl (cs 0, 126, .inl mn_degrees))] H := hP
      have hD : va_D A [((ad 4), .inr (2, [.ref (ad 5), .ref (ad 6), .ref (ad 7), .ref (ad 8), .int mn_variables, .int mn_order, .int mn_highest, .int mn_count])), ((ad 5), .inl (cs 0, 126, .inl mn_codes)), ((ad 6), .inl (cs 0, 126, .inl mn_degrees))] := hD
      have hv := hw
      try dsimp only at hv
      refine lv_imul hx hb d_mn_listDegree_41 ?_
      refine lv_iadd hx hb d_mn_listDegree_42 ?_
      refine lv_iload_n hx hb d_mn_listDegree_43 rfl (lv_at hl 2 rfl) ?_
      have hPc := hP.sub (ws' := [((ad 4), .inr (2, [.ref (ad 5), .ref (ad 6), .ref (ad 7), .ref (ad 8), .int mn_variables, .int mn_order, .int mn_highest, .int mn_count])), ((ad 5), .inl (cs 0, 126, .inl mn_codes)), ((ad 6), .inl (cs 0, 126, .inl mn_degrees))]) [0, 1, 2] rfl
      have hDc := hD.sub (ws' := [((ad 4), .inr (2, [.ref (ad 5), .ref (ad 6), .ref (ad 7), .ref (ad 8), .int mn_variables, .int mn_order, .int mn_highest, .int mn_count])), ((ad 5), .inl (cs 0, 126, .inl mn_codes)), ((ad 6), .inl (cs 0, 126, .inl mn_degrees))]) [0, 1, 2] (by decide) rfl
      have hFc := va_free (wc := [((ad 4), .inr (2, [.ref (ad 5), .ref (ad 6), .ref (ad 7), .ref (ad 8), .int mn_variables, .int mn_order, .int mn_highest, .int mn_count])), ((ad 5), .inl (cs 0, 126, .inl mn_codes)), ((ad 6), .inl (cs 0, 126, .inl mn_degrees))]) hD hS hA [0, 1, 2] rfl
      refine va_callv (va_runV (As := [.int (p3 + (p2 * r_23)), .int p0]) (rest := []) ⟨hx, hb, hml, hown, hts⟩ (c_mn_append l dC dI cs ad  H.size mn_variables mn_order mn_highest mn_count mn_codes mn_degrees (p3 + (p2 * r_23)) p0 _ hv) (cwV 2 hts (gd_V kw_235 kw_236 kw_2 kw_34 kw_237) rfl rfl rfl (by decide +kernel) ⟨by show 1 ≤ 1 + (dd + 1); omega, by show 8 + (3 + 11) + 0 ≤ 22 + 27 * (dd + 1); omega⟩) ⟨fun a U g mk q => by obtain ⟨q0, q1, qP, qK, qD⟩ := q; exact ⟨q0, q1, qP, qK.call, qD⟩, va_recv hK hPc (ci := 2) (q0 := 0) rfl rfl, fun U hU hW => ⟨rfl, by rw [hU], by rw [hU]; exact hPc, vwK.warm hW ⟨hK, hN⟩, hDc.weaken (fun _ _ _ _ => trivial)⟩⟩ rfl rfl hl.1 rfl (lv_room (Nat.le_of_ble_eq_true rfl)) d_mn_listDegree_44 ⟨Nat.zero_le _, Nat.zero_le _⟩) hS (fun q _ h => hFc q h) hFc (fun u t H1 locs1 ht hvm hw hB hz1 hk1 hS => ?_)
      obtain ⟨mn_count_24, mn_codes_25, mn_degrees_26⟩ := u
      obtain ⟨hP1, hD1⟩ := hB
      rw [ht] at hP1
      obtain ⟨hP, hD⟩ := va_join (wr := []) (w1 := [((ad 4), .inr (2, [.ref (ad 5), .ref (ad 6), .ref (ad 7), .ref (ad 8), .int mn_variables, .int mn_order, .int mn_highest, .int mn_count_24])), ((ad 5), .inl (cs 0, 126, .inl mn_codes_25)), ((ad 6), .inl (cs 0, 126, .inl mn_degrees_26))]) hP hD [0, 1, 2] [] rfl rfl (by decide) (by decide) hk1 hFc hP1 hD1
      generalize H1 = H at hP hS ⊢
      generalize locs1 = locs at hS ⊢
      have hP : va_P (dC, dI) vwCl [((ad 4), .inr (2, [.ref (ad 5), .ref (ad 6), .ref (ad 7), .ref (ad 8), .int mn_variables, .int mn_order, .int mn_highest, .int mn_count_24])), ((ad 5), .inl (cs 0, 126, .inl mn_codes_25)), ((ad 6), .inl (cs 0, 126, .inl mn_degrees_26))] H := hP
      have hD : va_D A [((ad 4), .inr (2, [.ref (ad 5), .ref (ad 6), .ref (ad 7), .ref (ad 8), .int mn_variables, .int mn_order, .int mn_highest, .int mn_count_24])), ((ad 5), .inl (cs 0, 126, .inl mn_codes_25)), ((ad 6), .inl (cs 0, 126, .inl mn_degrees_26))] := hD
      have hv := hw
      try dsimp only at hv
      have hP9 := hP.sub (ws' := [((ad 4), .inr (2, [.ref (ad 5), .ref (ad 6), .ref (ad 7), .ref (ad 8), .int mn_variables, .int mn_order, .int mn_highest, .int mn_count_24])), ((ad 5), .inl (cs 0, 126, .inl mn_codes_25)), ((ad 6), .inl (cs 0, 126, .inl mn_degrees_26))]) [0, 1, 2] rfl
      have hD9 := hD.sub (ws' := [((ad 4), .inr (2, [.ref (ad 5), .ref (ad 6), .ref (ad 7), .ref (ad 8), .int mn_variables, .int mn_order, .int mn_highest, .int mn_count_24])), ((ad 5), .inl (cs 0, 126, .inl mn_codes_25)), ((ad 6), .inl (cs 0, 126, .inl mn_degrees_26))]) [0, 1, 2] (by decide) rfl
      exact W.vret hx hb hr (fun t ht hW => ⟨⟨(mn_count_24, mn_codes_25, mn_degrees_26), rfl, hv, by rw [ht]; exact hP9, hD9⟩, hS.F ht⟩) hS.2.2 d_mn_listDegree_47
  · have hv := hv.2 c_1
    refine lv_iload_n hx hb d_mn_listDegree_8 rfl (lv_at hl 2 rfl) ?_
    refine lv_goto (tgt := 20) hx hb d_mn_listDegree_9 (by decide) ?_
    refine lv_istore (lv' := [(5, .int p1), (0, .ref (ad 4)), (1, .int p0), (2, .int p1), (3, .int p2), (4, .int p3)]) hx hb d_mn_listDegree_20 hl (by decide) rfl (fun ls hl => ?_)
    refine lv_iload_n hx hb d_mn_listDegree_22 rfl (lv_at hl 3 rfl) ?_
    refine lv_aload_n hx hb d_mn_listDegree_23 rfl (lv_at hl 1 rfl) ?_
    refine va_get (D := (dC, dI)) (ci := 2) (v := .int mn_variables) (C := R_mn) (T := F_mn) (N := 8) hx hb hts in_mn hown hK hP 0 rfl rfl 4 (by decide) (hts _ kw_76) (fun _ h9 => h9) rfl d_mn_listDegree_24 ?_
    refine lv_iconst (v := 1) hx hb d_mn_listDegree_27 (by decide) ?_
    refine lv_isub hx hb d_mn_listDegree_28 ?_
    refine lv_icmp_lt (tgt := 48) hx hb d_mn_listDegree_29 (by decide) (fun c_27 => ?_) (fun c_27 => ?_)
    · have hv := hv.1 c_27
      refine lv_iconst (v := 0) hx hb d_mn_listDegree_48 (by decide) ?_
      refine lv_istore (lv' := [(6, .int 0), (5, .int p1), (0, .ref (ad 4)), (1, .int p0), (2, .int p1), (3, .int p2), (4, .int p3)]) hx hb d_mn_listDegree_49 hl (by decide) rfl (fun ls hl => ?_)
      obtain ⟨I51_32, mu51_33, hi0, hv⟩ := hv
      have hP := hP.sub (ws' := [((ad 4), .inr (2, [.ref (ad 5), .ref (ad 6), .ref (ad 7), .ref (ad 8), .int mn_variables, .int mn_order, .int mn_highest, .int mn_count])), ((ad 5), .inl (cs 0, 126, .inl mn_codes)), ((ad 6), .inl (cs 0, 126, .inl mn_degrees))]) [0, 1, 2] rfl
      have hD := hD.sub (ws' := [((ad 4), .inr (2, [.ref (ad 5), .ref (ad 6), .ref (ad 7), .ref (ad 8), .int mn_variables, .int mn_order, .int mn_highest, .int mn_count])), ((ad 5), .inl (cs 0, 126, .inl mn_codes)), ((ad 6), .inl (cs 0, 126, .inl mn_degrees))]) [0, 1, 2] (by decide) rfl
      have hl := lv_sub (l' := [(0, .ref (ad 4)), (1, .int p0), (2, .int p1), (3, .int p2), (4, .int p3), (5, .int p1), (6, .int 0)]) hl [2, 3, 4, 5, 6, 1, 0] rfl
      have loop51 : ∀ (nn : Nat) (x6_28 : Int32) (mn_count_29 : Int32) (mn_codes_30 : Nat → Int32) (mn_degrees_31 : Nat → Int32), mu51_33 x6_28 mn_count_29 mn_codes_30 mn_degrees_31 < nn → I51_32 x6_28 mn_count_29 mn_codes_30 mn_degrees_31 → ∀ (H : Heap) (locs : List Loc) (ls : Array Slot), va_P (dC, dI) vwCl [((ad 4), .inr (2, [.ref (ad 5), .ref (ad 6), .ref (ad 7), .ref (ad 8), .int mn_variables, .int mn_order, .int mn_highest, .int mn_count_29])), ((ad 5), .inl (cs 0, 126, .inl mn_codes_30)), ((ad 6), .inl (cs 0, 126, .inl mn_degrees_31))] H → va_D A [((ad 4), .inr (2, [.ref (ad 5), .ref (ad 6), .ref (ad 7), .ref (ad 8), .int mn_variables, .int mn_order, .int mn_highest, .int mn_count_29])), ((ad 5), .inl (cs 0, 126, .inl mn_codes_30)), ((ad 6), .inl (cs 0, 126, .inl mn_degrees_31))] → va_S A s.heap H locs → lv_has ls 8 [(0, .ref (ad 4)), (1, .int p0), (2, .int p1), (3, .int p2), (4, .int p3), (5, .int p1), (6, .int x6_28)] → W p l e (headSpec w_mn_listDegree { frames := 1 + (dd + 1), cells := 0, slots := 0, locals := 22 + 27 * (dd + 1) }).room s m ([.ref (ad 4), .int p0, .int p1, .int p2, .int p3] : List Value).toArray below meth c H locs 0 0 (MQ below (va_Qv (fun (u : Int32 × (Nat → Int32) × (Nat → Int32)) => Q u.1 u.2.1 u.2.2) (at_mn_listDegree dC dI cs A ad mn_variables mn_order mn_highest) A) ([.ref (ad 4), .int p0, .int p1, .int p2, .int p3] : List Value).toArray s 0 0 A) (F0 m 51 ls []) := by
        intro nn
        induction nn with
        | zero => intro x6_28 mn_count_29 mn_codes_30 mn_degrees_31 hlt; exact absurd hlt (Nat.not_lt_zero _)
        | succ nn ih51 =>
          intro x6_28 mn_count_29 mn_codes_30 mn_degrees_31 hlt51 hI H locs ls hP hD hS hl
          have hv := hv x6_28 mn_count_29 mn_codes_30 mn_degrees_31 hI
          refine lv_iload hx hb d_mn_listDegree_51 (lv_at hl 6 rfl) ?_
          refine lv_iload_n hx hb d_mn_listDegree_53 rfl (lv_at hl 3 rfl) ?_
          refine lv_icmp_gt (tgt := 105) hx hb d_mn_listDegree_54 (by decide) (fun c_34 => ?_) (fun c_34 => ?_)
          · have hv := hv.1 c_34
            have hP9 := hP.sub (ws' := [((ad 4), .inr (2, [.ref (ad 5), .ref (ad 6), .ref (ad 7), .ref (ad 8), .int mn_variables, .int mn_order, .int mn_highest, .int mn_count_29])), ((ad 5), .inl (cs 0, 126, .inl mn_codes_30)), ((ad 6), .inl (cs 0, 126, .inl mn_degrees_31))]) [0, 1, 2] rfl
            have hD9 := hD.sub (ws' := [((ad 4), .inr (2, [.ref (ad 5), .ref (ad 6), .ref (ad 7), .ref (ad 8), .int mn_variables, .int mn_order, .int mn_highest, .int mn_count_29])), ((ad 5), .inl (cs 0, 126, .inl mn_codes_30)), ((ad 6), .inl (cs 0, 126, .inl mn_degrees_31))]) [0, 1, 2] (by decide) rfl
            exact W.vret hx hb hr (fun t ht hW => ⟨⟨(mn_count_29, mn_codes_30, mn_degrees_31), rfl, hv, by rw [ht]; exact hP9, hD9⟩, hS.F ht⟩) hS.2.2 d_mn_listDegree_105
          · have hv := hv.2 c_34
            refine lv_aload_n hx hb d_mn_listDegree_57 rfl (lv_at hl 0 rfl) ?_
            refine va_get (D := (dC, dI)) (ci := 2) (v := .int mn_order) (C := R_mn) (T := F_mn) (N := 8) hx hb hts in_mn hown hK hP 0 rfl rfl 5 (by decide) (hts _ kw_77) (fun _ h9 => h9) rfl d_mn_listDegree_58 ?_
            refine lv_iconst (v := 1) hx hb d_mn_listDegree_61 (by decide) ?_
            refine lv_icmp_ne (tgt := 70) hx hb d_mn_listDegree_62 (by decide) (fun c_35 => ?_) (fun c_35 => ?_)
            · have hv := hv.1 c_35
              refine lv_iload_n hx hb d_mn_listDegree_70 rfl (lv_at hl 3 rfl) ?_
              refine lv_iload hx hb d_mn_listDegree_71 (lv_at hl 6 rfl) ?_
              refine lv_isub hx hb d_mn_listDegree_73 ?_
              refine lv_topi (fun x7_36 ex7_36 => ?_)
              have hv := hv x7_36 ex7_36
              refine lv_istore (lv' := [(7, .int x7_36), (0, .ref (ad 4)), (1, .int p0), (2, .int p1), (3, .int p2), (4, .int p3), (5, .int p1), (6, .int x6_28)]) hx hb d_mn_listDegree_74 hl (by decide) rfl (fun ls hl => ?_)
              refine lv_aload_n hx hb d_mn_listDegree_76 rfl (lv_at hl 1 rfl) ?_
              refine lv_iload_n hx hb d_mn_listDegree_77 rfl (lv_at hl 2 rfl) ?_
              refine lv_iload_n hx hb d_mn_listDegree_78 rfl (lv_at hl 3 rfl) ?_
              refine lv_iconst (v := 1) hx hb d_mn_listDegree_79 (by decide) ?_
              refine lv_iadd hx hb d_mn_listDegree_80 ?_
              refine lv_iload_n hx hb d_mn_listDegree_81 rfl (lv_at hl 4 rfl) ?_
              refine lv_iload hx hb d_mn_listDegree_82 (lv_at hl 0 rfl) ?_
              refine lv_isub hx hb d_mn_listDegree_84 ?_
              refine lv_iload hx hb d_mn_listDegree_85 (lv_at hl 5 rfl) ?_
              refine lv_iload hx hb d_mn_listDegree_87 (lv_at hl 0 rfl) ?_
              refine lv_iload hx hb d_mn_listDegree_89 (lv_at hl 6 rfl) ?_
              have hPc := hP.sub (ws' := []) [] rfl
              have hDc := hD.sub (ws' := []) [] (by decide) rfl
              have hFc := va_free (wc := []) hD hS hA [] rfl
              refine va_calli (va_runS (As := [.int p1]) (rest := [.int x7_36, .int p3, .int (p2 - x7_36), .int (p1 + 1), .int p0, .ref (ad 4)]) ⟨hx, hb, hml, hown, hts⟩ (c_mn_unit l dC dI cs ad  H.size p1 _ hv) (va_cwS 1 hts (gd_S kw_232 kw_233 kw_34 kw_234) rfl rfl rfl (by decide +kernel) ⟨by show 1 ≤ 1 + (dd + 1); omega, by show 8 + (1 + 11) + 0 ≤ 22 + 27 * (dd + 1); omega⟩) ⟨fun a U g mk q => by obtain ⟨q0, q1, qP, qK, qD⟩ := q; exact ⟨q0, q1, qP, qK.call, qD⟩, fun U hU hW => ⟨rfl, by rw [hU], by rw [hU]; exact hPc, vwK.warm hW ⟨hK, hN⟩, hDc.weaken (fun _ _ _ _ => trivial)⟩⟩ rfl rfl hl.1 rfl (lv_room (Nat.le_of_ble_eq_true rfl)) d_mn_listDegree_91 ⟨Nat.zero_le _, Nat.zero_le _⟩) hS (fun q _ h => hFc q h) hFc (fun r_37 _u t H1 locs1 ht hvm hw hB hz1 hk1 hS => ?_)
              obtain ⟨hP1, hD1⟩ := hB
              rw [ht] at hP1
              obtain ⟨hP, hD⟩ := va_join (wr := [((ad 4), .inr (2, [.ref (ad 5), .ref (ad 6), .ref (ad 7), .ref (ad 8), .int mn_variables, .int mn_order, .int mn_highest, .int mn_count_29])), ((ad 5), .inl (cs 0, 126, .inl mn_codes_30)), ((ad 6), .inl (cs 0, 126, .inl mn_degrees_31))]) (w1 := []) hP hD [] [0, 1, 2] rfl rfl (by decide) (by decide) hk1 hFc hP1 hD1
              generalize H1 = H at hP hS ⊢
              generalize locs1 = locs at hS ⊢
              have hP : va_P (dC, dI) vwCl [((ad 4), .inr (2, [.ref (ad 5), .ref (ad 6), .ref (ad 7), .ref (ad 8), .int mn_variables, .int mn_order, .int mn_highest, .int mn_count_29])), ((ad 5), .inl (cs 0, 126, .inl mn_codes_30)), ((ad 6), .inl (cs 0, 126, .inl mn_degrees_31))] H := hP
              have hD : va_D A [((ad 4), .inr (2, [.ref (ad 5), .ref (ad 6), .ref (ad 7), .ref (ad 8), .int mn_variables, .int mn_order, .int mn_highest, .int mn_count_29])), ((ad 5), .inl (cs 0, 126, .inl mn_codes_30)), ((ad 6), .inl (cs 0, 126, .inl mn_degrees_31))] := hD
              have hv := hw
              try dsimp only at hv
              refine lv_imul hx hb d_mn_listDegree_94 ?_
              refine lv_iadd hx hb d_mn_listDegree_95 ?_
              have hPc := hP.sub (ws' := [((ad 4), .inr (2, [.ref (ad 5), .ref (ad 6), .ref (ad 7), .ref (ad 8), .int mn_variables, .int mn_order, .int mn_highest, .int mn_count_29])), ((ad 5), .inl (cs 0, 126, .inl mn_codes_30)), ((ad 6), .inl (cs 0, 126, .inl mn_degrees_31))]) [0, 1, 2] rfl
              have hDc := hD.sub (ws' := [((ad 4), .inr (2, [.ref (ad 5), .ref (ad 6), .ref (ad 7), .ref (ad 8), .int mn_variables, .int mn_order, .int mn_highest, .int mn_count_29])), ((ad 5), .inl (cs 0, 126, .inl mn_codes_30)), ((ad 6), .inl (cs 0, 126, .inl mn_degrees_31))]) [0, 1, 2] (by decide) rfl
              have hFc := va_free (wc := [((ad 4), .inr (2, [.ref (ad 5), .ref (ad 6), .ref (ad 7), .ref (ad 8), .int mn_variables, .int mn_order, .int mn_highest, .int mn_count_29])), ((ad 5), .inl (cs 0, 126, .inl mn_codes_30)), ((ad 6), .inl (cs 0, 126, .inl mn_degrees_31))]) hD hS hA [0, 1, 2] rfl
              refine va_callv (va_runV (As := [.int p0, .int (p1 + 1), .int (p2 - x7_36), .int (p3 + (x7_36 * r_37))]) (rest := []) ⟨hx, hb, hml, hown, hts⟩ (ihd H.size mn_variables mn_order mn_highest mn_count_29 mn_codes_30 mn_degrees_31 p0 (p1 + 1) (p2 - x7_36) (p3 + (x7_36 * r_37)) _ hv) (cwV 4 hts (gd_V kw_229 kw_230 kw_1 kw_34 kw_231) rfl rfl rfl (by decide +kernel) ⟨by show 1 + dd + 1 ≤ 1 + (dd + 1); omega, by show 8 + (8 + 11) + (22 + 27 * dd) ≤ 22 + 27 * (dd + 1); omega⟩) ⟨fun a U g mk q => by obtain ⟨q0, q1, qP, qK, qD⟩ := q; exact ⟨q0, q1, qP, qK.call, qD⟩, va_recv hK hPc (ci := 2) (q0 := 0) rfl rfl, fun U hU hW => ⟨rfl, by rw [hU], by rw [hU]; exact hPc, vwK.warm hW ⟨hK, hN⟩, hDc.weaken (fun _ _ _ _ => trivial)⟩⟩ rfl rfl hl.1 rfl (lv_room (Nat.le_of_ble_eq_true rfl)) d_mn_listDegree_96 ⟨Nat.zero_le _, Nat.zero_le _⟩) hS (fun q _ h => hFc q h) hFc (fun u t H1 locs1 ht hvm hw hB hz1 hk1 hS => ?_)
              obtain ⟨mn_count_38, mn_codes_39, mn_degrees_40⟩ := u
              obtain ⟨hP1, hD1⟩ := hB
              rw [ht] at hP1
              obtain ⟨hP, hD⟩ := va_join (wr := []) (w1 := [((ad 4), .inr (2, [.ref (ad 5), .ref (ad 6), .ref (ad 7), .ref (ad 8), .int mn_variables, .int mn_order, .int mn_highest, .int mn_count_38])), ((ad 5), .inl (cs 0, 126, .inl mn_codes_39)), ((ad 6), .inl (cs 0, 126, .inl mn_degrees_40))]) hP hD [0, 1, 2] [] rfl rfl (by decide) (by decide) hk1 hFc hP1 hD1
              generalize H1 = H at hP hS ⊢
              generalize locs1 = locs at hS ⊢
              have hP : va_P (dC, dI) vwCl [((ad 4), .inr (2, [.ref (ad 5), .ref (ad 6), .ref (ad 7), .ref (ad 8), .int mn_variables, .int mn_order, .int mn_highest, .int mn_count_38])), ((ad 5), .inl (cs 0, 126, .inl mn_codes_39)), ((ad 6), .inl (cs 0, 126, .inl mn_degrees_40))] H := hP
              have hD : va_D A [((ad 4), .inr (2, [.ref (ad 5), .ref (ad 6), .ref (ad 7), .ref (ad 8), .int mn_variables, .int mn_order, .int mn_highest, .int mn_count_38])), ((ad 5), .inl (cs 0, 126, .inl mn_codes_39)), ((ad 6), .inl (cs 0, 126, .inl mn_degrees_40))] := hD
              have hv := hw
              try dsimp only at hv
              obtain ⟨x6_41, ex6_41⟩ : ∃ y : Int32, y = x6_28 + 1 := ⟨_, rfl⟩
              have hv := hv x6_41 ex6_41
              refine lv_iinc (v := x6_41) (lv' := [(6, .int x6_41), (7, .int x7_36), (0, .ref (ad 4)), (1, .int p0), (2, .int p1), (3, .int p2), (4, .int p3), (5, .int p1)]) hx hb d_mn_listDegree_99 hl (k := 7) rfl (by rw [ex6_41]; rfl) (by decide) rfl (fun ls hl => ?_)
              refine lv_goto (tgt := 51) hx hb d_mn_listDegree_102 (by decide) ?_
              exact ih51 x6_41 mn_count_38 mn_codes_39 mn_degrees_40 (Nat.lt_of_lt_of_le hv.2 (Nat.le_of_lt_succ hlt51)) hv.1 _ _ _ (hP.sub [0, 1, 2] rfl) (hD.sub [0, 1, 2] (by decide) rfl) hS (lv_sub hl [2, 3, 4, 5, 6, 7, 0] rfl)
            · have hv := hv.2 c_35
              refine lv_iload hx hb d_mn_listDegree_65 (lv_at hl 6 rfl) ?_
              refine lv_goto (tgt := 74) hx hb d_mn_listDegree_67 (by decide) ?_
              refine lv_istore (lv' := [(7, .int x6_28), (0, .ref (ad 4)), (1, .int p0), (2, .int p1), (3, .int p2), (4, .int p3), (5, .int p1), (6, .int x6_28)]) hx hb d_mn_listDegree_74 hl (by decide) rfl (fun ls hl => ?_)
              refine lv_aload_n hx hb d_mn_listDegree_76 rfl (lv_at hl 1 rfl) ?_
              refine lv_iload_n hx hb d_mn_listDegree_77 rfl (lv_at hl 2 rfl) ?_
              refine lv_iload_n hx hb d_mn_listDegree_78 rfl (lv_at hl 3 rfl) ?_
              refine lv_iconst (v := 1) hx hb d_mn_listDegree_79 (by decide) ?_
              refine lv_iadd hx hb d_mn_listDegree_80 ?_
              refine lv_iload_n hx hb d_mn_listDegree_81 rfl (lv_at hl 4 rfl) ?_
              refine lv_iload hx hb d_mn_listDegree_82 (lv_at hl 0 rfl) ?_
              refine lv_isub hx hb d_mn_listDegree_84 ?_
              refine lv_iload hx hb d_mn_listDegree_85 (lv_at hl 5 rfl) ?_
              refine lv_iload hx hb d_mn_listDegree_87 (lv_at hl 0 rfl) ?_
              refine lv_iload hx hb d_mn_listDegree_89 (lv_at hl 6 rfl) ?_
              have hPc := hP.sub (ws' := []) [] rfl
              have hDc := hD.sub (ws' := []) [] (by decide) rfl
              have hFc := va_free (wc := []) hD hS hA [] rfl
              refine va_calli (va_runS (As := [.int p1]) (rest := [.int x6_28, .int p3, .int (p2 - x6_28), .int (p1 + 1), .int p0, .ref (ad 4)]) ⟨hx, hb, hml, hown, hts⟩ (c_mn_unit l dC dI cs ad  H.size p1 _ hv) (va_cwS 1 hts (gd_S kw_232 kw_233 kw_34 kw_234) rfl rfl rfl (by decide +kernel) ⟨by show 1 ≤ 1 + (dd + 1); omega, by show 8 + (1 + 11) + 0 ≤ 22 + 27 * (dd + 1); omega⟩) ⟨fun a U g mk q => by obtain ⟨q0, q1, qP, qK, qD⟩ := q; exact ⟨q0, q1, qP, qK.call, qD⟩, fun U hU hW => ⟨rfl, by rw [hU], by rw [hU]; exact hPc, vwK.warm hW ⟨hK, hN⟩, hDc.weaken (fun _ _ _ _ => trivial)⟩⟩ rfl rfl hl.1 rfl (lv_room (Nat.le_of_ble_eq_true rfl)) d_mn_listDegree_91 ⟨Nat.zero_le _, Nat.zero_le _⟩) hS (fun q _ h => hFc q h) hFc (fun r_42 _u t H1 locs1 ht hvm hw hB hz1 hk1 hS => ?_)
              obtain ⟨hP1, hD1⟩ := hB
              rw [ht] at hP1
              obtain ⟨hP, hD⟩ := va_join (wr := [((ad 4), .inr (2, [.ref (ad 5), .ref (ad 6), .ref (ad 7), .ref (ad 8), .int mn_variables, .int mn_order, .int mn_highest, .int mn_count_29])), ((ad 5), .inl (cs 0, 126, .inl mn_codes_30)), ((ad 6), .inl (cs 0, 126, .inl mn_degrees_31))]) (w1 := []) hP hD [] [0, 1, 2] rfl rfl (by decide) (by decide) hk1 hFc hP1 hD1
              generalize H1 = H at hP hS ⊢
              generalize locs1 = locs at hS ⊢
              have hP : va_P (dC, dI) vwCl [((ad 4), .inr (2, [.ref (ad 5), .ref (ad 6), .ref (ad 7), .ref (ad 8), .int mn_variables, .int mn_order, .int mn_highest, .int mn_count_29])), ((ad 5), .inl (cs 0, 126, .inl mn_codes_30)), ((ad 6), .inl (cs 0, 126, .inl mn_degrees_31))] H := hP
              have hD : va_D A [((ad 4), .inr (2, [.ref (ad 5), .ref (ad 6), .ref (ad 7), .ref (ad 8), .int mn_variables, .int mn_order, .int mn_highest, .int mn_count_29])), ((ad 5), .inl (cs 0, 126, .inl mn_codes_30)), ((ad 6), .inl (cs 0, 126, .inl mn_degrees_31))] := hD
              have hv := hw
              try dsimp only at hv
              refine lv_imul hx hb d_mn_listDegree_94 ?_
              refine lv_iadd hx hb d_mn_listDegree_95 ?_
              have hPc := hP.sub (ws' := [((ad 4), .inr (2, [.ref (ad 5), .ref (ad 6), .ref (ad 7), .ref (ad 8), .int mn_variables, .int mn_order, .int mn_highest, .int mn_count_29])), ((ad 5), .inl (cs 0, 126, .inl mn_codes_30)), ((ad 6), .inl (cs 0, 126, .inl mn_degrees_31))]) [0, 1, 2] rfl
              have hDc := hD.sub (ws' := [((ad 4), .inr (2, [.ref (ad 5), .ref (ad 6), .ref (ad 7), .ref (ad 8), .int mn_variables, .int mn_order, .int mn_highest, .int mn_count_29])), ((ad 5), .inl (cs 0, 126, .inl mn_codes_30)), ((ad 6), .inl (cs 0, 126, .inl mn_degrees_31))]) [0, 1, 2] (by decide) rfl
              have hFc := va_free (wc := [((ad 4), .inr (2, [.ref (ad 5), .ref (ad 6), .ref (ad 7), .ref (ad 8), .int mn_variables, .int mn_order, .int mn_highest, .int mn_count_29])), ((ad 5), .inl (cs 0, 126, .inl mn_codes_30)), ((ad 6), .inl (cs 0, 126, .inl mn_degrees_31))]) hD hS hA [0, 1, 2] rfl
              refine va_callv (va_runV (As := [.int p0, .int (p1 + 1), .int (p2 - x6_28), .int (p3 + (x6_28 * r_42))]) (rest := []) ⟨hx, hb, hml, hown, hts⟩ (ihd H.size mn_variables mn_order mn_highest mn_count_29 mn_codes_30 mn_degrees_31 p0 (p1 + 1) (p2 - x6_28) (p3 + (x6_28 * r_42)) _ hv) (cwV 4 hts (gd_V kw_229 kw_230 kw_1 kw_34 kw_231) rfl rfl rfl (by decide +kernel) ⟨by show 1 + dd + 1 ≤ 1 + (dd + 1); omega, by show 8 + (8 + 11) + (22 + 27 * dd) ≤ 22 + 27 * (dd + 1); omega⟩) ⟨fun a U g mk q => by obtain ⟨q0, q1, qP, qK, qD⟩ := q; exact ⟨q0, q1, qP, qK.call, qD⟩, va_recv hK hPc (ci := 2) (q0 := 0) rfl rfl, fun U hU hW => ⟨rfl, by rw [hU], by rw [hU]; exact hPc, vwK.warm hW ⟨hK, hN⟩, hDc.weaken (fun _ _ _ _ => trivial)⟩⟩ rfl rfl hl.1 rfl (lv_room (Nat.le_of_ble_eq_true rfl)) d_mn_listDegree_96 ⟨Nat.zero_le _, Nat.zero_le _⟩) hS (fun q _ h => hFc q h) hFc (fun u t H1 locs1 ht hvm hw hB hz1 hk1 hS => ?_)
              obtain ⟨mn_count_43, mn_codes_44, mn_degrees_45⟩ := u
              obtain ⟨hP1, hD1⟩ := hB
              rw [ht] at hP1
              obtain ⟨hP, hD⟩ := va_join (wr := []) (w1 := [((ad 4), .inr (2, [.ref (ad 5), .ref (ad 6), .ref (ad 7), .ref (ad 8), .int mn_variables, .int mn_order, .int mn_highest, .int mn_count_43])), ((ad 5), .inl (cs 0, 126, .inl mn_codes_44)), ((ad 6), .inl (cs 0, 126, .inl mn_degrees_45))]) hP hD [0, 1, 2] [] rfl rfl (by decide) (by decide) hk1 hFc hP1 hD1
              generalize H1 = H at hP hS ⊢
              generalize locs1 = locs at hS ⊢
              have hP : va_P (dC, dI) vwCl [((ad 4), .inr (2, [.ref (ad 5), .ref (ad 6), .ref (ad 7), .ref (ad 8), .int mn_variables, .int mn_order, .int mn_highest, .int mn_count_43])), ((ad 5), .inl (cs 0, 126, .inl mn_codes_44)), ((ad 6), .inl (cs 0, 126, .inl mn_degrees_45))] H := hP
              have hD : va_D A [((ad 4), .inr (2, [.ref (ad 5), .ref (ad 6), .ref (ad 7), .ref (ad 8), .int mn_variables, .int mn_order, .int mn_highest, .int mn_count_43])), ((ad 5), .inl (cs 0, 126, .inl mn_codes_44)), ((ad 6), .inl (cs 0, 126, .inl mn_degrees_45))] := hD
              have hv := hw
              try dsimp only at hv
              obtain ⟨x6_46, ex6_46⟩ : ∃ y : Int32, y = x6_28 + 1 := ⟨_, rfl⟩
              have hv := hv x6_46 ex6_46
              refine lv_iinc (v := x6_46) (lv' := [(6, .int x6_46), (7, .int x6_28), (0, .ref (ad 4)), (1, .int p0), (2, .int p1), (3, .int p2), (4, .int p3), (5, .int p1)]) hx hb d_mn_listDegree_99 hl (k := 7) rfl (by rw [ex6_46]; rfl) (by decide) rfl (fun ls hl => ?_)
              refine lv_goto (tgt := 51) hx hb d_mn_listDegree_102 (by decide) ?_
              exact ih51 x6_46 mn_count_43 mn_codes_44 mn_degrees_45 (Nat.lt_of_lt_of_le hv.2 (Nat.le_of_lt_succ hlt51)) hv.1 _ _ _ (hP.sub [0, 1, 2] rfl) (hD.sub [0, 1, 2] (by decide) rfl) hS (lv_sub hl [2, 3, 4, 5, 6, 7, 0] rfl)
      exact loop51 _ 0 mn_count mn_codes mn_degrees (Nat.lt_succ_self _) hi0 _ _ _ hP hD hS hl
    · have hv := hv.2 c_27
      refine lv_aload_n hx hb d_mn_listDegree_32 rfl (lv_at hl 1 rfl) ?_
      refine lv_iload hx hb d_mn_listDegree_33 (lv_at hl 5 rfl) ?_
      refine lv_iload_n hx hb d_mn_listDegree_35 rfl (lv_at hl 4 rfl) ?_
      refine lv_iload hx hb d_mn_listDegree_36 (lv_at hl 0 rfl) ?_
      have hPc := hP.sub (ws' := []) [] rfl
      have hDc := hD.sub (ws' := []) [] (by decide) rfl
      have hFc := va_free (wc := []) hD hS hA [] rfl
      refine va_calli (va_runS (As := [.int p1]) (rest := [.int p2, .int p3, .ref (ad 4)]) ⟨hx, hb, hml, hown, hts⟩ (c_mn_unit l dC dI cs ad  s.heap.size p1 _ hv) (va_cwS 1 hts (gd_S kw_232 kw_233 kw_34 kw_234) rfl rfl rfl (by decide +kernel) ⟨by show 1 ≤ 1 + (dd + 1); omega, by show 8 + (1 + 11) + 0 ≤ 22 + 27 * (dd + 1); omega⟩) ⟨fun a U g mk q => by obtain ⟨q0, q1, qP, qK, qD⟩ := q; exact ⟨q0, q1, qP, qK.call, qD⟩, fun U hU hW => ⟨rfl, by rw [hU], by rw [hU]; exact hPc, vwK.warm hW ⟨hK, hN⟩, hDc.weaken (fun _ _ _ _ => trivial)⟩⟩ rfl rfl hl.1 rfl (lv_room (Nat.le_of_ble_eq_true rfl)) d_mn_listDegree_38 ⟨Nat.zero_le _, Nat.zero_le _⟩) hS (fun q _ h => hFc q h) hFc (fun r_47 _u t H1 locs1 ht hvm hw hB hz1 hk1 hS => ?_)
      obtain ⟨hP1, hD1⟩ := hB
      rw [ht] at hP1
      obtain ⟨hP, hD⟩ := va_join (wr := [((ad 4), .inr (2, [.ref (ad 5), .ref (ad 6), .ref (ad 7), .ref (ad 8), .int mn_variables, .int mn_order, .int mn_highest, .int mn_count])), ((ad 5), .inl (cs 0, 126, .inl mn_codes)), ((ad 6), .inl (cs 0, 126, .inl mn_degrees))]) (w1 := []) hP hD [] [0, 1, 2] rfl rfl (by decide) (by decide) hk1 hFc hP1 hD1
      generalize H1 = H at hP hS ⊢
      generalize locs1 = locs at hS ⊢
      have hP : va_P (dC, dI) vwCl [((ad 4), .inr (2, [.ref (ad 5), .ref (ad 6), .ref (ad 7), .ref (ad 8), .int mn_variables, .int mn_order, .int mn_highest, .int mn_count])), ((ad 5), .inl (cs 0, 126, .inl mn_codes)), ((ad 6), .inl (cs 0, 126, .inl mn_degrees))] H := hP
      have hD : va_D A [((ad 4), .inr (2, [.ref (ad 5), .ref (ad 6), .ref (ad 7), .ref (ad 8), .int mn_variables, .int mn_order, .int mn_highest, .int mn_count])), ((ad 5), .inl (cs 0, 126, .inl mn_codes)), ((ad 6), .inl (cs 0, 126, .inl mn_degrees))] := hD
      have hv := hw
      try dsimp only at hv
      refine lv_imul hx hb d_mn_listDegree_41 ?_
      refine lv_iadd hx hb d_mn_listDegree_42 ?_
      refine lv_iload_n hx hb d_mn_listDegree_43 rfl (lv_at hl 2 rfl) ?_
      have hPc := hP.sub (ws' := [((ad 4), .inr (2, [.ref (ad 5), .ref (ad 6), .ref (ad 7), .ref (ad 8), .int mn_variables, .int mn_order, .int mn_highest, .int mn_count])), ((ad 5), .inl (cs 0, 126, .inl mn_codes)), ((ad 6), .inl (cs 0, 126, .inl mn_degrees))]) [0, 1, 2] rfl
      have hDc := hD.sub (ws' := [((ad 4), .inr (2, [.ref (ad 5), .ref (ad 6), .ref (ad 7), .ref (ad 8), .int mn_variables, .int mn_order, .int mn_highest, .int mn_count])), ((ad 5), .inl (cs 0, 126, .inl mn_codes)), ((ad 6), .inl (cs 0, 126, .inl mn_degrees))]) [0, 1, 2] (by decide) rfl
      have hFc := va_free (wc := [((ad 4), .inr (2, [.ref (ad 5), .ref (ad 6), .ref (ad 7), .ref (ad 8), .int mn_variables, .int mn_order, .int mn_highest, .int mn_count])), ((ad 5), .inl (cs 0, 126, .inl mn_codes)), ((ad 6), .inl (cs 0, 126, .inl mn_degrees))]) hD hS hA [0, 1, 2] rfl
      refine va_callv (va_runV (As := [.int (p3 + (p2 * r_47)), .int p0]) (rest := []) ⟨hx, hb, hml, hown, hts⟩ (c_mn_append l dC dI cs ad  H.size mn_variables mn_order mn_highest mn_count mn_codes mn_degrees (p3 + (p2 * r_47)) p0 _ hv) (cwV 2 hts (gd_V kw_235 kw_236 kw_2 kw_34 kw_237) rfl rfl rfl (by decide +kernel) ⟨by show 1 ≤ 1 + (dd + 1); omega, by show 8 + (3 + 11) + 0 ≤ 22 + 27 * (dd + 1); omega⟩) ⟨fun a U g mk q => by obtain ⟨q0, q1, qP, qK, qD⟩ := q; exact ⟨q0, q1, qP, qK.call, qD⟩, va_recv hK hPc (ci := 2) (q0 := 0) rfl rfl, fun U hU hW => ⟨rfl, by rw [hU], by rw [hU]; exact hPc, vwK.warm hW ⟨hK, hN⟩, hDc.weaken (fun _ _ _ _ => trivial)⟩⟩ rfl rfl hl.1 rfl (lv_room (Nat.le_of_ble_eq_true rfl)) d_mn_listDegree_44 ⟨Nat.zero_le _, Nat.zero_le _⟩) hS (fun q _ h => hFc q h) hFc (fun u t H1 locs1 ht hvm hw hB hz1 hk1 hS => ?_)
      obtain ⟨mn_count_48, mn_codes_49, mn_degrees_50⟩ := u
      obtain ⟨hP1, hD1⟩ := hB
      rw [ht] at hP1
      obtain ⟨hP, hD⟩ := va_join (wr := []) (w1 := [((ad 4), .inr (2, [.ref (ad 5), .ref (ad 6), .ref (ad 7), .ref (ad 8), .int mn_variables, .int mn_order, .int mn_highest, .int mn_count_48])), ((ad 5), .inl (cs 0, 126, .inl mn_codes_49)), ((ad 6), .inl (cs 0, 126, .inl mn_degrees_50))]) hP hD [0, 1, 2] [] rfl rfl (by decide) (by decide) hk1 hFc hP1 hD1
      generalize H1 = H at hP hS ⊢
      generalize locs1 = locs at hS ⊢
      have hP : va_P (dC, dI) vwCl [((ad 4), .inr (2, [.ref (ad 5), .ref (ad 6), .ref (ad 7), .ref (ad 8), .int mn_variables, .int mn_order, .int mn_highest, .int mn_count_48])), ((ad 5), .inl (cs 0, 126, .inl mn_codes_49)), ((ad 6), .inl (cs 0, 126, .inl mn_degrees_50))] H := hP
      have hD : va_D A [((ad 4), .inr (2, [.ref (ad 5), .ref (ad 6), .ref (ad 7), .ref (ad 8), .int mn_variables, .int mn_order, .int mn_highest, .int mn_count_48])), ((ad 5), .inl (cs 0, 126, .inl mn_codes_49)), ((ad 6), .inl (cs 0, 126, .inl mn_degrees_50))] := hD
      have hv := hw
      try dsimp only at hv
      have hP9 := hP.sub (ws' := [((ad 4), .inr (2, [.ref (ad 5), .ref (ad 6), .ref (ad 7), .ref (ad 8), .int mn_variables, .int mn_order, .int mn_highest, .int mn_count_48])), ((ad 5), .inl (cs 0, 126, .inl mn_codes_49)), ((ad 6), .inl (cs 0, 126, .inl mn_degrees_50))]) [0, 1, 2] rfl
      have hD9 := hD.sub (ws' := [((ad 4), .inr (2, [.ref (ad 5), .ref (ad 6), .ref (ad 7), .ref (ad 8), .int mn_variables, .int mn_order, .int mn_highest, .int mn_count_48])), ((ad 5), .inl (cs 0, 126, .inl mn_codes_49)), ((ad 6), .inl (cs 0, 126, .inl mn_degrees_50))]) [0, 1, 2] (by decide) rfl
      exact W.vret hx hb hr (fun t ht hW => ⟨⟨(mn_count_48, mn_codes_49, mn_degrees_50), rfl, hv, by rw [ht]; exact hP9, hD9⟩, hS.F ht⟩) hS.2.2 d_mn_listDegree_47
abbrev b_mn_list : ByteArray := prog_5_method_2_code
def y_mn_list : MethodName := ⟨"SpaceBasis$Monomials", "list", "(II)V"⟩
def w_mn_list : List Cond := Cond.code y_mn_list b_mn_list 5 none :: vwWS
theorem d_mn_list_0 : decode b_mn_list 0 = .ok (.aload_n 0, 1) := by decide +kernel
theorem d_mn_list_1 : decode b_mn_list 1 = .ok (.iload_n 1, 1) := by decide +kernel
theorem d_mn_list_2 : decode b_mn_list 2 = .ok (.putfield 24, 3) := by decide +kernel
theorem d_mn_list_5 : decode b_mn_list 5 = .ok (.aload_n 0, 1) := by decide +kernel
theorem d_mn_list_6 : decode b_mn_list 6 = .ok (.iload_n 2, 1) := by decide +kernel
theorem d_mn_list_7 : decode b_mn_list 7 = .ok (.putfield 28, 3) := by decide +kernel
theorem d_mn_list_10 : decode b_mn_list 10 = .ok (.aload_n 0, 1) := by decide +kernel
theorem d_mn_list_11 : decode b_mn_list 11 = .ok (.getstatic 31, 3) := by decide +kernel
theorem d_mn_list_14 : decode b_mn_list 14 = .ok (.iload_n 1, 1) := by decide +kernel
theorem d_mn_list_15 : decode b_mn_list 15 = .ok (.iaload, 1) := by decide +kernel
theorem d_mn_list_16 : decode b_mn_list 16 = .ok (.putfield 34, 3) := by decide +kernel
theorem d_mn_list_19 : decode b_mn_list 19 = .ok (.aload_n 0, 1) := by decide +kernel
theorem d_mn_list_20 : decode b_mn_list 20 = .ok (.iconst 0, 1) := by decide +kernel
theorem d_mn_list_21 : decode b_mn_list 21 = .ok (.putfield 37, 3) := by decide +kernel
theorem d_mn_list_24 : decode b_mn_list 24 = .ok (.iconst 0, 1) := by decide +kernel
theorem d_mn_list_25 : decode b_mn_list 25 = .ok (.istore_n 3, 1) := by decide +kernel
theorem d_mn_list_26 : decode b_mn_list 26 = .ok (.iload_n 3, 1) := by decide +kernel
theorem d_mn_list_27 : decode b_mn_list 27 = .ok (.aload_n 0, 1) := by decide +kernel
theorem d_mn_list_28 : decode b_mn_list 28 = .ok (.getfield 34, 3) := by decide +kernel
theorem d_mn_list_31 : decode b_mn_list 31 = .ok (.if_icmp .gt 27, 3) := by decide +kernel
theorem d_mn_list_34 : decode b_mn_list 34 = .ok (.aload_n 0, 1) := by decide +kernel
theorem d_mn_list_35 : decode b_mn_list 35 = .ok (.getfield 18, 3) := by decide +kernel
theorem d_mn_list_38 : decode b_mn_list 38 = .ok (.iload_n 3, 1) := by decide +kernel
theorem d_mn_list_39 : decode b_mn_list 39 = .ok (.aload_n 0, 1) := by decide +kernel
theorem d_mn_list_40 : decode b_mn_list 40 = .ok (.getfield 37, 3) := by decide +kernel
theorem d_mn_list_43 : decode b_mn_list 43 = .ok (.iastore, 1) := by decide +kernel
theorem d_mn_list_44 : decode b_mn_list 44 = .ok (.aload_n 0, 1) := by decide +kernel
theorem d_mn_list_45 : decode b_mn_list 45 = .ok (.iload_n 3, 1) := by decide +kernel
theorem d_mn_list_46 : decode b_mn_list 46 = .ok (.iconst 0, 1) := by decide +kernel
theorem d_mn_list_47 : decode b_mn_list 47 = .ok (.iload_n 3, 1) := by decide +kernel
theorem d_mn_list_48 : decode b_mn_list 48 = .ok (.iconst 0, 1) := by decide +kernel
theorem d_mn_list_49 : decode b_mn_list 49 = .ok (.invokevirtual 40, 3) := by decide +kernel
theorem d_mn_list_52 : decode b_mn_list 52 = .ok (.iinc 3 1, 3) := by decide +kernel
theorem d_mn_list_55 : decode b_mn_list 55 = .ok (.goto (-29), 3) := by decide +kernel
theorem d_mn_list_58 : decode b_mn_list 58 = .ok (.aload_n 0, 1) := by decide +kernel
theorem d_mn_list_59 : decode b_mn_list 59 = .ok (.getfield 18, 3) := by decide +kernel
theorem d_mn_list_62 : decode b_mn_list 62 = .ok (.aload_n 0, 1) := by decide +kernel
theorem d_mn_list_63 : decode b_mn_list 63 = .ok (.getfield 34, 3) := by decide +kernel
theorem d_mn_list_66 : decode b_mn_list 66 = .ok (.iconst 1, 1) := by decide +kernel
theorem d_mn_list_67 : decode b_mn_list 67 = .ok (.iadd, 1) := by decide +kernel
theorem d_mn_list_68 : decode b_mn_list 68 = .ok (.aload_n 0, 1) := by decide +kernel
theorem d_mn_list_69 : decode b_mn_list 69 = .ok (.getfield 37, 3) := by decide +kernel
theorem d_mn_list_72 : decode b_mn_list 72 = .ok (.iastore, 1) := by decide +kernel
theorem d_mn_list_73 : decode b_mn_list 73 = .ok (.iconst 0, 1) := by decide +kernel
theorem d_mn_list_74 : decode b_mn_list 74 = .ok (.istore_n 3, 1) := by decide +kernel
theorem d_mn_list_75 : decode b_mn_list 75 = .ok (.iload_n 3, 1) := by decide +kernel
theorem d_mn_list_76 : decode b_mn_list 76 = .ok (.aload_n 0, 1) := by decide +kernel
theorem d_mn_list_77 : decode b_mn_list 77 = .ok (.getfield 24, 3) := by decide +kernel
theorem d_mn_list_80 : decode b_mn_list 80 = .ok (.if_icmp .ge 55, 3) := by decide +kernel
theorem d_mn_list_83 : decode b_mn_list 83 = .ok (.iconst 0, 1) := by decide +kernel
theorem d_mn_list_84 : decode b_mn_list 84 = .ok (.istore 4, 2) := by decide +kernel
theorem d_mn_list_86 : decode b_mn_list 86 = .ok (.iload 4, 2) := by decide +kernel
theorem d_mn_list_88 : decode b_mn_list 88 = .ok (.aload_n 0, 1) := by decide +kernel
theorem d_mn_list_89 : decode b_mn_list 89 = .ok (.getfield 37, 3) := by decide +kernel
theorem d_mn_list_92 : decode b_mn_list 92 = .ok (.if_icmp .ge 37, 3) := by decide +kernel
theorem d_mn_list_95 : decode b_mn_list 95 = .ok (.aload_n 0, 1) := by decide +kernel
theorem d_mn_list_96 : decode b_mn_list 96 = .ok (.getfield 21, 3) := by decide +kernel
theorem d_mn_list_99 : decode b_mn_list 99 = .ok (.iload_n 3, 1) := by decide +kernel
theorem d_mn_list_100 : decode b_mn_list 100 = .ok (.bipush 126, 2) := by decide +kernel
theorem d_mn_list_102 : decode b_mn_list 102 = .ok (.imul, 1) := by decide +kernel
theorem d_mn_list_103 : decode b_mn_list 103 = .ok (.iload 4, 2) := by decide +kernel
theorem d_mn_list_105 : decode b_mn_list 105 = .ok (.iadd, 1) := by decide +kernel
theorem d_mn_list_106 : decode b_mn_list 106 = .ok (.aload_n 0, 1) := by decide +kernel
theorem d_mn_list_107 : decode b_mn_list 107 = .ok (.aload_n 0, 1) := by decide +kernel
theorem d_mn_list_108 : decode b_mn_list 108 = .ok (.getfield 9, 3) := by decide +kernel
theorem d_mn_list_111 : decode b_mn_list 111 = .ok (.iload 4, 2) := by decide +kernel
theorem d_mn_list_113 : decode b_mn_list 113 = .ok (.iaload, 1) := by decide +kernel
theorem d_mn_list_114 : decode b_mn_list 114 = .ok (.iload_n 3, 1) := by decide +kernel
theorem d_mn_list_115 : decode b_mn_list 115 = .ok (.invokestatic 44, 3) := by decide +kernel
theorem d_mn_list_118 : decode b_mn_list 118 = .ok (.iadd, 1) := by decide +kernel
theorem d_mn_list_119 : decode b_mn_list 119 = .ok (.invokevirtual 48, 3) := by decide +kernel
theorem d_mn_list_122 : decode b_mn_list 122 = .ok (.iastore, 1) := by decide +kernel
theorem d_mn_list_123 : decode b_mn_list 123 = .ok (.iinc 4 1, 3) := by decide +kernel
theorem d_mn_list_126 : decode b_mn_list 126 = .ok (.goto (-40), 3) := by decide +kernel
theorem d_mn_list_129 : decode b_mn_list 129 = .ok (.iinc 3 1, 3) := by decide +kernel
theorem d_mn_list_132 : decode b_mn_list 132 = .ok (.goto (-57), 3) := by decide +kernel
theorem d_mn_list_135 : decode b_mn_list 135 = .ok (.return_, 1) := by decide +kernel
/-- SpaceBasis$Monomials.list(II)V -/
def vc_mn_list (mn_variables : Int32) (mn_order : Int32) (mn_highest : Int32) (mn_count : Int32) (mn_codes : Nat → Int32) (mn_degrees : Nat → Int32) (mn_firstOfDegree : Nat → Int32) (mn_products : Nat → Int32) (p0 : Int32) (p1 : Int32) (Q : Int32 → Int32 → Int32 → Int32 → (Nat → Int32) → (Nat → Int32) → (Nat → Int32) → (Nat → Int32) → Prop) : Prop :=
  vp_in p0 5 ∧ ∀ y_5 : Int32, y_5 = (vwHi p0.toNatClampNeg) → ∃ (I26_12 : Int32 → Int32 → (Nat → Int32) → (Nat → Int32) → (Nat → Int32) → Prop) (mu26_13 : Int32 → Int32 → (Nat → Int32) → (Nat → Int32) → (Nat → Int32) → Nat), I26_12 0 0 mn_codes mn_degrees mn_firstOfDegree ∧ ∀ (x3_7 : Int32) (mn_count_8 : Int32) (mn_codes_9 : Nat → Int32) (mn_degrees_10 : Nat → Int32) (mn_firstOfDegree_11 : Nat → Int32), I26_12 x3_7 mn_count_8 mn_codes_9 mn_degrees_10 mn_firstOfDegree_11 → ((((y_5 < x3_7) → (vp_in (y_5 + 1) 32 ∧ ∀ mn_firstOfDegree_16 : Nat → Int32, mn_firstOfDegree_16 = upd mn_firstOfDegree_11 ((y_5 + 1)).toNatClampNeg mn_count_8 → ∃ (I75_19 : Int32 → (Nat → Int32) → Prop) (mu75_20 : Int32 → (Nat → Int32) → Nat), I75_19 0 mn_products ∧ ∀ (x3_17 : Int32) (mn_products_18 : Nat → Int32), I75_19 x3_17 mn_products_18 → ((((p0 ≤ x3_17) → (Q p0 p1 y_5 mn_count_8 mn_codes_9 mn_degrees_10 mn_firstOfDegree_16 mn_products_18)) ∧ ((¬ (p0 ≤ x3_17)) → (∃ (I86_24 : Int32 → (Nat → Int32) → Prop) (mu86_25 : Int32 → (Nat → Int32) → Nat), I86_24 0 mn_products_18 ∧ ∀ (x4_22 : Int32) (mn_products_23 : Nat → Int32), I86_24 x4_22 mn_products_23 → ((((mn_count_8 ≤ x4_22) → (∀ x3_27 : Int32, x3_27 = x3_17 + 1 → (I75_19 x3_27 mn_products_23 ∧ mu75_20 x3_27 mn_products_23 < mu75_20 x3_17 mn_products_18))) ∧ ((¬ (mn_count_8 ≤ x4_22)) → (vp_in x4_22 126 ∧ vc_mn_unit x3_17 (fun (r_29 : Int32) => vc_mn_placeOf p0 p1 y_5 mn_count_8 mn_codes_9 mn_firstOfDegree_16 ((mn_codes_9 x4_22.toNatClampNeg) + r_29) (fun (r_30 : Int32) => vp_in ((x3_17 * 126) + x4_22) 504 ∧ ∀ mn_products_32 : Nat → Int32, mn_products_32 = upd mn_products_23 (((x3_17 * 126) + x4_22)).toNatClampNeg r_30 → ∀ x4_33 : Int32, x4_33 = x4_22 + 1 → (I86_24 x4_33 mn_products_32 ∧ mu86_25 x4_33 mn_products_32 < mu86_25 x4_22 mn_products_23))))))))))))) ∧ ((¬ (y_5 < x3_7)) → (vp_in x3_7 32 ∧ ∀ mn_firstOfDegree_35 : Nat → Int32, mn_firstOfDegree_35 = upd mn_firstOfDegree_11 x3_7.toNatClampNeg mn_count_8 → vc_mn_listDegree 4 p0 p1 y_5 mn_count_8 mn_codes_9 mn_degrees_10 x3_7 0 x3_7 0 (fun (mn_count_36 : Int32) (mn_codes_37 : Nat → Int32) (mn_degrees_38 : Nat → Int32) => ∀ x3_39 : Int32, x3_39 = x3_7 + 1 → (I26_12 x3_39 mn_count_36 mn_codes_37 mn_degrees_38 mn_firstOfDegree_35 ∧ mu26_13 x3_39 mn_count_36 mn_codes_37 mn_degrees_38 mn_firstOfDegree_35 < mu26_13 x3_7 mn_count_8 mn_codes_9 mn_degrees_10 mn_firstOfDegree_11))))))
abbrev at_mn_list (dC : Nat → ClassId) (dI : Nat → Nat → Nat) (cs : Nat → ClassId) (A : Nat → Prop) (ad : Nat → Nat)  (u : Int32 × Int32 × Int32 × Int32 × (Nat → Int32) × (Nat → Int32) × (Nat → Int32) × (Nat → Int32)) (t : State) : Prop := match u with
  | (mn_variables, mn_order, mn_highest, mn_count, mn_codes, mn_degrees, mn_firstOfDegree, mn_products) => va_P (dC, dI) vwCl [((ad 4), .inr (2, [.ref (ad 5), .ref (ad 6), .ref (ad 7), .ref (ad 8), .int mn_variables, .int mn_order, .int mn_highest, .int mn_count])), ((ad 5), .inl (cs 0, 126, .inl mn_codes)), ((ad 6), .inl (cs 0, 126, .inl mn_degrees)), ((ad 7), .inl (cs 0, 32, .inl mn_firstOfDegree)), ((ad 8), .inl (cs 0, 504, .inl mn_products))] t.heap ∧ va_D A [((ad 4), .inr (2, [.ref (ad 5), .ref (ad 6), .ref (ad 7), .ref (ad 8), .int mn_variables, .int mn_order, .int mn_highest, .int mn_count])), ((ad 5), .inl (cs 0, 126, .inl mn_codes)), ((ad 6), .inl (cs 0, 126, .inl mn_degrees)), ((ad 7), .inl (cs 0, 32, .inl mn_firstOfDegree)), ((ad 8), .inl (cs 0, 504, .inl mn_products))]
set_option maxHeartbeats 4000000 in
set_option maxRecDepth 100000 in
theorem c_mn_list (l : Launch) (dC : Nat → ClassId) (dI : Nat → Nat → Nat) (cs : Nat → ClassId) (ad : Nat → Nat)  (sz : Nat) (mn_variables : Int32) (mn_order : Int32) (mn_highest : Int32) (mn_count : Int32) (mn_codes : Nat → Int32) (mn_degrees : Nat → Int32) (mn_firstOfDegree : Nat → Int32) (mn_products : Nat → Int32) (p0 : Int32) (p1 : Int32) (Q : Int32 → Int32 → Int32 → Int32 → (Nat → Int32) → (Nat → Int32) → (Nat → Int32) → (Nat → Int32) → Prop) (hv : vc_mn_list mn_variables mn_order mn_highest mn_count mn_codes mn_degrees mn_firstOfDegree mn_products p0 p1 Q) : Met l y_mn_list w_mn_list ({ frames := 6, cells := 0, slots := 0, locals := 157 }) (va_Pc [.ref (ad 4), .int p0, .int p1] (fun U => U.heap.size = sz ∧ va_P (dC, dI) vwCl [((ad 4), .inr (2, [.ref (ad 5), .ref (ad 6), .ref (ad 7), .ref (ad 8), .int mn_variables, .int mn_order, .int mn_highest, .int mn_count])), ((ad 5), .inl (cs 0, 126, .inl mn_codes)), ((ad 6), .inl (cs 0, 126, .inl mn_degrees)), ((ad 7), .inl (cs 0, 32, .inl mn_firstOfDegree)), ((ad 8), .inl (cs 0, 504, .inl mn_products))] U.heap ∧ vwK dC dI cs U ∧ va_D (fun _ => True) [((ad 4), .inr (2, [.ref (ad 5), .ref (ad 6), .ref (ad 7), .ref (ad 8), .int mn_variables, .int mn_order, .int mn_highest, .int mn_count])), ((ad 5), .inl (cs 0, 126, .inl mn_codes)), ((ad 6), .inl (cs 0, 126, .inl mn_degrees)), ((ad 7), .inl (cs 0, 32, .inl mn_firstOfDegree)), ((ad 8), .inl (cs 0, 504, .inl mn_products))] ∧ vwE (va_A [((ad 4), .inr (2, [.ref (ad 5), .ref (ad 6), .ref (ad 7), .ref (ad 8), .int mn_variables, .int mn_order, .int mn_highest, .int mn_count])), ((ad 5), .inl (cs 0, 126, .inl mn_codes)), ((ad 6), .inl (cs 0, 126, .inl mn_degrees)), ((ad 7), .inl (cs 0, 32, .inl mn_firstOfDegree)), ((ad 8), .inl (cs 0, 504, .inl mn_products))] sz) U U.heap)) (va_Qv (fun (u : Int32 × Int32 × Int32 × Int32 × (Nat → Int32) × (Nat → Int32) × (Nat → Int32) × (Nat → Int32)) => Q u.1 u.2.1 u.2.2.1 u.2.2.2.1 u.2.2.2.2.1 u.2.2.2.2.2.1 u.2.2.2.2.2.2.1 u.2.2.2.2.2.2.2) (at_mn_list dC dI cs (va_A [((ad 4), .inr (2, [.ref (ad 5), .ref (ad 6), .ref (ad 7), .ref (ad 8), .int mn_variables, .int mn_order, .int mn_highest, .int mn_count])), ((ad 5), .inl (cs 0, 126, .inl mn_codes)), ((ad 6), .inl (cs 0, 126, .inl mn_degrees)), ((ad 7), .inl (cs 0, 32, .inl mn_firstOfDegree)), ((ad 8), .inl (cs 0, 504, .inl mn_products))] sz) ad ) (va_A [((ad 4), .inr (2, [.ref (ad 5), .ref (ad 6), .ref (ad 7), .ref (ad 8), .int mn_variables, .int mn_order, .int mn_highest, .int mn_count])), ((ad 5), .inl (cs 0, 126, .inl mn_codes)), ((ad 6), .inl (cs 0, 126, .inl mn_degrees)), ((ad 7), .inl (cs 0, 32, .inl mn_firstOfDegree)), ((ad 8), .inl (cs 0, 504, .inl mn_products))] sz)) 0 0 (va_A [((ad 4), .inr (2, [.ref (ad 5), .ref (ad 6), .ref (ad 7), .ref (ad 8), .int mn_variables, .int mn_order, .int mn_highest, .int mn_count])), ((ad 5), .inl (cs 0, 126, .inl mn_codes)), ((ad 6), .inl (cs 0, 126, .inl mn_degrees)), ((ad 7), .inl (cs 0, 32, .inl mn_firstOfDegree)), ((ad 8), .inl (cs 0, 504, .inl mn_products))] sz) := by
  unfold vc_mn_list at hv
  refine Met.ofW (cc := b_mn_list) (maxL := 5) (ret := none) (by decide) rfl ?_
  intro p e s m args below meth c s₁ B hml hpc
  obtain ⟨rfl, hsz, hP, ⟨hK, hN⟩, hD0, hE⟩ := hpc
  have hx := B.exec
  have hb := B.bytes
  have hr := B.returns
  have hts : ∀ w ∈ vwWS, w.before _ s = true := fun w h => atoms_spec (ws := w_mn_list) B.pre w (List.mem_cons_of_mem _ h)
  have hown : s.vm.findClass "SpaceBasis$Monomials" = some m.cls := findClass_of_methodNamed B.named
  have hlocks := B.notSynchronized
  subst hsz
  have hD := hD0.self (sz := s.heap.size)
  generalize hAe : va_A [((ad 4), .inr (2, [.ref (ad 5), .ref (ad 6), .ref (ad 7), .ref (ad 8), .int mn_variables, .int mn_order, .int mn_highest, .int mn_count])), ((ad 5), .inl (cs 0, 126, .inl mn_codes)), ((ad 6), .inl (cs 0, 126, .inl mn_degrees)), ((ad 7), .inl (cs 0, 32, .inl mn_firstOfDegree)), ((ad 8), .inl (cs 0, 504, .inl mn_products))] s.heap.size = A at hD hE ⊢
  have hA : ∀ q : Nat, s.heap.size ≤ q → A q := fun q h => by rw [← hAe]; exact Or.inr h
  have hS : va_S A s.heap s.heap [] := va_S.rf
  have hl := lv_entry ([.ref (ad 4), .int p0, .int p1]) (n := 5) (Nat.le_of_ble_eq_true rfl)
  rw [lg_entry_eq]
  generalize (lg_sl ([.ref (ad 4), .int p0, .int p1]) ++ List.replicate (5 - (lg_sl ([.ref (ad 4), .int p0, .int p1])).length) Slot.unset).toArray = ls at hl ⊢
  have hl : lv_has ls 5 [(0, .ref (ad 4)), (1, .int p0), (2, .int p1)] := hl
  refine lv_aload_n hx hb d_mn_list_0 rfl (lv_at hl 0 rfl) ?_
  refine lv_iload_n hx hb d_mn_list_1 rfl (lv_at hl 1 rfl) ?_
  refine va_put (D := (dC, dI)) (ci := 2) (v := .int p0) (ty := .int) (C := R_mn) (T := F_mn) (N := 8) hx hb hts in_mn t_mn t_mn_ok n_mn hown hK hP hD hS 0 rfl rfl 4 (by decide) (hts _ kw_76) (fun _ h9 => h9) rfl (by decide +kernel) rfl rfl (Nat.le_of_ble_eq_true rfl) d_mn_list_2 (fun H locs hP hD hS => ?_)
  have hP : va_P (dC, dI) vwCl [((ad 4), .inr (2, [.ref (ad 5), .ref (ad 6), .ref (ad 7), .ref (ad 8), .int p0, .int mn_order, .int mn_highest, .int mn_count])), ((ad 5), .inl (cs 0, 126, .inl mn_codes)), ((ad 6), .inl (cs 0, 126, .inl mn_degrees)), ((ad 7), .inl (cs 0, 32, .inl mn_firstOfDegree)), ((ad 8), .inl (cs 0, 504, .inl mn_products))] H := hP
  have hD : va_D A [((ad 4), .inr (2, [.ref (ad 5), .ref (ad 6), .ref (ad 7), .ref (ad 8), .int p0, .int mn_order, .int mn_highest, .int mn_count])), ((ad 5), .inl (cs 0, 126, .inl mn_codes)), ((ad 6), .inl (cs 0, 126, .inl mn_degrees)), ((ad 7), .inl (cs 0, 32, .inl mn_firstOfDegree)), ((ad 8), .inl (cs 0, 504, .inl mn_products))] := hD
  refine lv_aload_n hx hb d_mn_list_5 rfl (lv_at hl 0 rfl) ?_
  refine lv_iload_n hx hb d_mn_list_6 rfl (lv_at hl 2 rfl) ?_
  refine va_put (D := (dC, dI)) (ci := 2) (v := .int p1) (ty := .int) (C := R_mn) (T := F_mn) (N := 8) hx hb hts in_mn t_mn t_mn_ok n_mn hown hK hP hD hS 0 rfl rfl 5 (by decide) (hts _ kw_77) (fun _ h9 => h9) rfl (by decide +kernel) rfl rfl (Nat.le_of_ble_eq_true rfl) d_mn_list_7 (fun H locs hP hD hS => ?_)
  have hP : va_P (dC, dI) vwCl [((ad 4), .inr (2, [.ref (ad 5), .ref (ad 6), .ref (ad 7), .ref (ad 8), .int p0, .int p1, .int mn_highest, .int mn_count])), ((ad 5), .inl (cs 0, 126, .inl mn_codes)), ((ad 6), .inl (cs 0, 126, .inl mn_degrees)), ((ad 7), .inl (cs 0, 32, .inl mn_firstOfDegree)), ((ad 8), .inl (cs 0, 504, .inl mn_products))] H := hP
  have hD : va_D A [((ad 4), .inr (2, [.ref (ad 5), .ref (ad 6), .ref (ad 7), .ref (ad 8), .int p0, .int p1, .int mn_highest, .int mn_count])), ((ad 5), .inl (cs 0, 126, .inl mn_codes)), ((ad 6), .inl (cs 0, 126, .inl mn_degrees)), ((ad 7), .inl (cs 0, 32, .inl mn_firstOfDegree)), ((ad 8), .inl (cs 0, 504, .inl mn_products))] := hD
  refine lv_aload_n hx hb d_mn_list_10 rfl (lv_at hl 0 rfl) ?_
  obtain ⟨tH, hZH, hTH⟩ := hE.1
  refine va_getsN hx hb hZH hS hown (va_Nw.use rfl (hN _ kn_39)) (fun _ h9 => h9) d_mn_list_11 ?_
  refine lv_iload_n hx hb d_mn_list_14 rfl (lv_at hl 1 rfl) ?_
  obtain ⟨hi_3, hv⟩ := hv
  refine va_ti (v := .int (vwHi p0.toNatClampNeg)) hx hb hTH hS hi_3 rfl d_mn_list_15 ?_
  refine lv_topi (fun y_5 ey_5 => ?_)
  have hv := hv y_5 ey_5
  refine va_put (D := (dC, dI)) (ci := 2) (v := .int y_5) (ty := .int) (C := R_mn) (T := F_mn) (N := 8) hx hb hts in_mn t_mn t_mn_ok n_mn hown hK hP hD hS 0 rfl rfl 6 (by decide) (hts _ kw_78) (fun _ h9 => h9) rfl (by decide +kernel) rfl rfl (Nat.le_of_ble_eq_true rfl) d_mn_list_16 (fun H locs hP hD hS => ?_)
  have hP : va_P (dC, dI) vwCl [((ad 4), .inr (2, [.ref (ad 5), .ref (ad 6), .ref (ad 7), .ref (ad 8), .int p0, .int p1, .int y_5, .int mn_count])), ((ad 5), .inl (cs 0, 126, .inl mn_codes)), ((ad 6), .inl (cs 0, 126, .inl mn_degrees)), ((ad 7), .inl (cs 0, 32, .inl mn_firstOfDegree)), ((ad 8), .inl (cs 0, 504, .inl mn_products))] H := hP
  have hD : va_D A [((ad 4), .inr (2, [.ref (ad 5), .ref (ad 6), .ref (ad 7), .ref (ad 8), .int p0, .int p1, .int y_5, .int mn_count])), ((ad 5), .inl (cs 0, 126, .inl mn_codes)), ((ad 6), .inl (cs 0, 126, .inl mn_degrees)), ((ad 7), .inl (cs 0, 32, .inl mn_firstOfDegree)), ((ad 8), .inl (cs 0, 504, .inl mn_products))] := hD
  refine lv_aload_n hx hb d_mn_list_19 rfl (lv_at hl 0 rfl) ?_
  refine lv_iconst (v := 0) hx hb d_mn_list_20 (by decide) ?_
  refine va_put (D := (dC, dI)) (ci := 2) (v := .int 0) (ty := .int) (C := R_mn) (T := F_mn) (N := 8) hx hb hts in_mn t_mn t_mn_ok n_mn hown hK hP hD hS 0 rfl rfl 7 (by decide) (hts _ kw_79) (fun _ h9 => h9) rfl (by decide +kernel) rfl rfl (Nat.le_of_ble_eq_true rfl) d_mn_list_21 (fun H locs hP hD hS => ?_)
  have hP : va_P (dC, dI) vwCl [((ad 4), .inr (2, [.ref (ad 5), .ref (ad 6), .ref (ad 7), .ref (ad 8), .int p0, .int p1, .int y_5, .int 0])), ((ad 5), .inl (cs 0, 126, .inl mn_codes)), ((ad 6), .inl (cs 0, 126, .inl mn_degrees)), ((ad 7), .inl (cs 0, 32, .inl mn_firstOfDegree)), ((ad 8), .inl (cs 0, 504, .inl mn_products))] H := hP
  have hD : va_D A [((ad 4), .inr (2, [.ref (ad 5), .ref (ad 6), .ref (ad 7), .ref (ad 8), .int p0, .int p1, .int y_5, .int 0])), ((ad 5), .inl (cs 0, 126, .inl mn_codes)), ((ad 6), .inl (cs 0, 126, .inl mn_degrees)), ((ad 7), .inl (cs 0, 32, .inl mn_firstOfDegree)), ((ad 8), .inl (cs 0, 504, .inl mn_products))] := hD
  refine lv_iconst (v := 0) hx hb d_mn_list_24 (by decide) ?_
  refine lv_istore_n (lv' := [(3, .int 0), (0, .ref (ad 4)), (1, .int p0), (2, .int p1)]) hx hb d_mn_list_25 rfl hl (by decide) rfl (fun ls hl => ?_)
  obtain ⟨I26_12, mu26_13, hi0, hv⟩ := hv
  have hP := hP.sub (ws' := [((ad 4), .inr (2, [.ref (ad 5), .ref (ad 6), .ref (ad 7), .ref (ad 8), .int p0, .int p1, .int y_5, .int 0])), ((ad 5), .inl (cs 0, 126, .inl mn_codes)), ((ad 6), .inl (cs 0, 126, .inl mn_degrees)), ((ad 7), .inl (cs 0, 32, .inl mn_firstOfDegree)), ((ad 8), .inl (cs 0, 504, .inl mn_products))]) [0, 1, 2, 3, 4] rfl
  have hD := hD.sub (ws' := [((ad 4), .inr (2, [.ref (ad 5), .ref (ad 6), .ref (ad 7), .ref (ad 8), .int p0, .int p1, .int y_5, .int 0])), ((ad 5), .inl (cs 0, 126, .inl mn_codes)), ((ad 6), .inl (cs 0, 126, .inl mn_degrees)), ((ad 7), .inl (cs 0, 32, .inl mn_firstOfDegree)), ((ad 8), .inl (cs 0, 504, .inl mn_products))]) [0, 1, 2, 3, 4] (by decide) rfl
  have hl := lv_sub (l' := [(0, .ref (ad 4)), (1, .int p0), (2, .int p1), (3, .int 0)]) hl [1, 2, 3, 0] rfl
  have loop26 : ∀ (nn : Nat) (x3_7 : Int32) (mn_count_8 : Int32) (mn_codes_9 : Nat → Int32) (mn_degrees_10 : Nat → Int32) (mn_firstOfDegree_11 : Nat → Int32), mu26_13 x3_7 mn_count_8 mn_codes_9 mn_degrees_10 mn_firstOfDegree_11 < nn → I26_12 x3_7 mn_count_8 mn_codes_9 mn_degrees_10 mn_firstOfDegree_11 → ∀ (H : Heap) (locs : List Loc) (ls : Array Slot), va_P (dC, dI) vwCl [((ad 4), .inr (2, [.ref (ad 5), .ref (ad 6), .ref (ad 7), .ref (ad 8), .int p0, .int p1, .int y_5, .int mn_count_8])), ((ad 5), .inl (cs 0, 126, .inl mn_codes_9)), ((ad 6), .inl (cs 0, 126, .inl mn_degrees_10)), ((ad 7), .inl (cs 0, 32, .inl mn_firstOfDegree_11)), ((ad 8), .inl (cs 0, 504, .inl mn_products))] H → va_D A [((ad 4), .inr (2, [.ref (ad 5), .ref (ad 6), .ref (ad 7), .ref (ad 8), .int p0, .int p1, .int y_5, .int mn_count_8])), ((ad 5), .inl (cs 0, 126, .inl mn_codes_9)), ((ad 6), .inl (cs 0, 126, .inl mn_degrees_10)), ((ad 7), .inl (cs 0, 32, .inl mn_firstOfDegree_11)), ((ad 8), .inl (cs 0, 504, .inl mn_products))] → va_S A s.heap H locs → lv_has ls 5 [(0, .ref (ad 4)), (1, .int p0), (2, .int p1), (3, .int x3_7)] → W p l e (headSpec w_mn_list { frames := 6, cells := 0, slots := 0, locals := 157 }).room s m ([.ref (ad 4), .int p0, .int p1] : List Value).toArray below meth c H locs 0 0 (MQ below (va_Qv (fun (u : Int32 × Int32 × Int32 × Int32 × (Nat → Int32) × (Nat → Int32) × (Nat → Int32) × (Nat → Int32)) => Q u.1 u.2.1 u.2.2.1 u.2.2.2.1 u.2.2.2.2.1 u.2.2.2.2.2.1 u.2.2.2.2.2.2.1 u.2.2.2.2.2.2.2) (at_mn_list dC dI cs A ad ) A) ([.ref (ad 4), .int p0, .int p1] : List Value).toArray s 0 0 A) (F0 m 26 ls []) := by
    intro nn
    induction nn with
    | zero => intro x3_7 mn_count_8 mn_codes_9 mn_degrees_10 mn_firstOfDegree_11 hlt; exact absurd hlt (Nat.not_lt_zero _)
    | succ nn ih26 =>
      intro x3_7 mn_count_8 mn_codes_9 mn_degrees_10 mn_firstOfDegree_11 hlt26 hI H locs ls hP hD hS hl
      have hv := hv x3_7 mn_count_8 mn_codes_9 mn_degrees_10 mn_firstOfDegree_11 hI
      refine lv_iload_n hx hb d_mn_list_26 rfl (lv_at hl 3 rfl) ?_
      refine lv_aload_n hx hb d_mn_list_27 rfl (lv_at hl 0 rfl) ?_
      refine va_get (D := (dC, dI)) (ci := 2) (v := .int y_5) (C := R_mn) (T := F_mn) (N := 8) hx hb hts in_mn hown hK hP 0 rfl rfl 6 (by decide) (hts _ kw_78) (fun _ h9 => h9) rfl d_mn_list_28 ?_
      refine lv_icmp_gt (tgt := 58) hx hb d_mn_list_31 (by decide) (fun c_14 => ?_) (fun c_14 => ?_)
      · have hv := hv.1 c_14
        refine lv_aload_n hx hb d_mn_list_58 rfl (lv_at hl 0 rfl) ?_
        refine va_get (D := (dC, dI)) (ci := 2) (v := .ref (ad 7)) (C := R_mn) (T := F_mn) (N := 8) hx hb hts in_mn hown hK hP 0 rfl rfl 2 (by decide) (hts _ kw_74) (fun _ h9 => h9) rfl d_mn_list_59 ?_
        refine lv_aload_n hx hb d_mn_list_62 rfl (lv_at hl 0 rfl) ?_
        refine va_get (D := (dC, dI)) (ci := 2) (v := .int y_5) (C := R_mn) (T := F_mn) (N := 8) hx hb hts in_mn hown hK hP 0 rfl rfl 6 (by decide) (hts _ kw_78) (fun _ h9 => h9) rfl d_mn_list_63 ?_
        refine lv_iconst (v := 1) hx hb d_mn_list_66 (by decide) ?_
        refine lv_iadd hx hb d_mn_list_67 ?_
        refine lv_aload_n hx hb d_mn_list_68 rfl (lv_at hl 0 rfl) ?_
        refine va_get (D := (dC, dI)) (ci := 2) (v := .int mn_count_8) (C := R_mn) (T := F_mn) (N := 8) hx hb hts in_mn hown hK hP 0 rfl rfl 7 (by decide) (hts _ kw_79) (fun _ h9 => h9) rfl d_mn_list_69 ?_
        obtain ⟨hi_15, hv⟩ := hv
        refine va_iast hx hb hK hP hD hS 3 0 rfl rfl hi_15 d_mn_list_72 (fun H locs hP hD hS => ?_)
        have hP : va_P (dC, dI) vwCl [((ad 4), .inr (2, [.ref (ad 5), .ref (ad 6), .ref (ad 7), .ref (ad 8), .int p0, .int p1, .int y_5, .int mn_count_8])), ((ad 5), .inl (cs 0, 126, .inl mn_codes_9)), ((ad 6), .inl (cs 0, 126, .inl mn_degrees_10)), ((ad 7), .inl (cs 0, 32, .inl (upd mn_firstOfDegree_11 ((y_5 + 1)).toNatClampNeg mn_count_8))), ((ad 8), .inl (cs 0, 504, .inl mn_products))] H := hP
        have hD : va_D A [((ad 4), .inr (2, [.ref (ad 5), .ref (ad 6), .ref (ad 7), .ref (ad 8), .int p0, .int p1, .int y_5, .int mn_count_8])), ((ad 5), .inl (cs 0, 126, .inl mn_codes_9)), ((ad 6), .inl (cs 0, 126, .inl mn_degrees_10)), ((ad 7), .inl (cs 0, 32, .inl (upd mn_firstOfDegree_11 ((y_5 + 1)).toNatClampNeg mn_count_8))), ((ad 8), .inl (cs 0, 504, .inl mn_products))] := hD
        generalize emn_firstOfDegree_16 : upd mn_firstOfDegree_11 ((y_5 + 1)).toNatClampNeg mn_count_8 = mn_firstOfDegree_16 at hP hD
        have hv := hv mn_firstOfDegree_16 emn_firstOfDegree_16.symm
        refine lv_iconst (v := 0) hx hb d_mn_list_73 (by decide) ?_
        refine lv_istore_n (lv' := [(3, .int 0), (0, .ref (ad 4)), (1, .int p0), (2, .int p1)]) hx hb d_mn_list_74 rfl hl (by decide) rfl (fun ls hl => ?_)
        obtain ⟨I75_19, mu75_20, hi0, hv⟩ := hv
        have hP := hP.sub (ws' := [((ad 4), .inr (2, [.ref (ad 5), .ref (ad 6), .ref (ad 7), .ref (ad 8), .int p0, .int p1, .int y_5, .int mn_count_8])), ((ad 5), .inl (cs 0, 126, .inl mn_codes_9)), ((ad 6), .inl (cs 0, 126, .inl mn_degrees_10)), ((ad 7), .inl (cs 0, 32, .inl mn_firstOfDegree_16)), ((ad 8), .inl (cs 0, 504, .inl mn_products))]) [0, 1, 2, 3, 4] rfl
        have hD := hD.sub (ws' := [((ad 4), .inr (2, [.ref (ad 5), .ref (ad 6), .ref (ad 7), .ref (ad 8), .int p0, .int p1, .int y_5, .int mn_count_8])), ((ad 5), .inl (cs 0, 126, .inl mn_codes_9)), ((ad 6), .inl (cs 0, 126, .inl mn_degrees_10)), ((ad 7), .inl (cs 0, 32, .inl mn_firstOfDegree_16)), ((ad 8), .inl (cs 0, 504, .inl mn_products))]) [0, 1, 2, 3, 4] (by decide) rfl
        have hl := lv_sub (l' := [(0, .ref (ad 4)), (1, .int p0), (2, .int p1), (3, .int 0)]) hl [1, 2, 3, 0] rfl
        have loop75 : ∀ (nn : Nat) (x3_17 : Int32) (mn_products_18 : Nat → Int32), mu75_20 x3_17 mn_products_18 < nn → I75_19 x3_17 mn_products_18 → ∀ (H : Heap) (locs : List Loc) (ls : Array Slot), va_P (dC, dI) vwCl [((ad 4), .inr (2, [.ref (ad 5), .ref (ad 6), .ref (ad 7), .ref (ad 8), .int p0, .int p1, .int y_5, .int mn_count_8])), ((ad 5), .inl (cs 0, 126, .inl mn_codes_9)), ((ad 6), .inl (cs 0, 126, .inl mn_degrees_10)), ((ad 7), .inl (cs 0, 32, .inl mn_firstOfDegree_16)), ((ad 8), .inl (cs 0, 504, .inl mn_products_18))] H → va_D A [((ad 4), .inr (2, [.ref (ad 5), .ref (ad 6), .ref (ad 7), .ref (ad 8), .int p0, .int p1, .int y_5, .int mn_count_8])), ((ad 5), .inl (cs 0, 126, .inl mn_codes_9)), ((ad 6), .inl (cs 0, 126, .inl mn_degrees_10)), ((ad 7), .inl (cs 0, 32, .inl mn_firstOfDegree_16)), ((ad 8), .inl (cs 0, 504, .inl mn_products_18))] → va_S A s.heap H locs → lv_has ls 5 [(0, .ref (ad 4)), (1, .int p0), (2, .int p1), (3, .int x3_17)] → W p l e (headSpec w_mn_list { frames := 6, cells := 0, slots := 0, locals := 157 }).room s m ([.ref (ad 4), .int p0, .int p1] : List Value).toArray below meth c H locs 0 0 (MQ below (va_Qv (fun (u : Int32 × Int32 × Int32 × Int32 × (Nat → Int32) × (Nat → Int32) × (Nat → Int32) × (Nat → Int32)) => Q u.1 u.2.1 u.2.2.1 u.2.2.2.1 u.2.2.2.2.1 u.2.2.2.2.2.1 u.2.2.2.2.2.2.1 u.2.2.2.2.2.2.2) (at_mn_list dC dI cs A ad ) A) ([.ref (ad 4), .int p0, .int p1] : List Value).toArray s 0 0 A) (F0 m 75 ls []) := by
          intro nn
          induction nn with
          | zero => intro x3_17 mn_products_18 hlt; exact absurd hlt (Nat.not_lt_zero _)
          | succ nn ih75 =>
            intro x3_17 mn_products_18 hlt75 hI H locs ls hP hD hS hl
            have hv := hv x3_17 mn_products_18 hI
            refine lv_iload_n hx hb d_mn_list_75 rfl (lv_at hl 3 rfl) ?_
            refine lv_aload_n hx hb d_mn_list_76 rfl (lv_at hl 0 rfl) ?_
            refine va_get (D := (dC, dI)) (ci := 2) (v := .int p0) (C := R_mn) (T := F_mn) (N := 8) hx hb hts in_mn hown hK hP 0 rfl rfl 4 (by decide) (hts _ kw_76) (fun _ h9 => h9) rfl d_mn_list_77 ?_
            refine lv_icmp_ge (tgt := 135) hx hb d_mn_list_80 (by decide) (fun c_21 => ?_) (fun c_21 => ?_)
            · have hv := hv.1 c_21
              have hP9 := hP.sub (ws' := [((ad 4), .inr (2, [.ref (ad 5), .ref (ad 6), .ref (ad 7), .ref (ad 8), .int p0, .int p1, .int y_5, .int mn_count_8])), ((ad 5), .inl (cs 0, 126, .inl mn_codes_9)), ((ad 6), .inl (cs 0, 126, .inl mn_degrees_10)), ((ad 7), .inl (cs 0, 32, .inl mn_firstOfDegree_16)), ((ad 8), .inl (cs 0, 504, .inl mn_products_18))]) [0, 1, 2, 3, 4] rfl
              have hD9 := hD.sub (ws' := [((ad 4), .inr (2, [.ref (ad 5), .ref (ad 6), .ref (ad 7), .ref (ad 8), .int p0, .int p1, .int y_5, .int mn_count_8])), ((ad 5), .inl (cs 0, 126, .inl mn_codes_9)), ((ad 6), .inl (cs 0, 126, .inl mn_degrees_10)), ((ad 7), .inl (cs 0, 32, .inl mn_firstOfDegree_16)), ((ad 8), .inl (cs 0, 504, .inl mn_products_18))]) [0, 1, 2, 3, 4] (by decide) rfl
              exact W.vret hx hb hr (fun t ht hW => ⟨⟨(p0, p1, y_5, mn_count_8, mn_codes_9, mn_degrees_10, mn_firstOfDegree_16, mn_products_18), rfl, hv, by rw [ht]; exact hP9, hD9⟩, hS.F ht⟩) hS.2.2 d_mn_list_135
            · have hv := hv.2 c_21
              refine lv_iconst (v := 0) hx hb d_mn_list_83 (by decide) ?_
              refine lv_istore (lv' := [(4, .int 0), (0, .ref (ad 4)), (1, .int p0), (2, .int p1), (3, .int x3_17)]) hx hb d_mn_list_84 hl (by decide) rfl (fun ls hl => ?_)
              obtain ⟨I86_24, mu86_25, hi0, hv⟩ := hv
              have hP := hP.sub (ws' := [((ad 4), .inr (2, [.ref (ad 5), .ref (ad 6), .ref (ad 7), .ref (ad 8), .int p0, .int p1, .int y_5, .int mn_count_8])), ((ad 5), .inl (cs 0, 126, .inl mn_codes_9)), ((ad 6), .inl (cs 0, 126, .inl mn_degrees_10)), ((ad 7), .inl (cs 0, 32, .inl mn_firstOfDegree_16)), ((ad 8), .inl (cs 0, 504, .inl mn_products_18))]) [0, 1, 2, 3, 4] rfl
              have hD := hD.sub (ws' := [((ad 4), .inr (2, [.ref (ad 5), .ref (ad 6), .ref (ad 7), .ref (ad 8), .int p0, .int p1, .int y_5, .int mn_count_8])), ((ad 5), .inl (cs 0, 126, .inl mn_codes_9)), ((ad 6), .inl (cs 0, 126, .inl mn_degrees_10)), ((ad 7), .inl (cs 0, 32, .inl mn_firstOfDegree_16)), ((ad 8), .inl (cs 0, 504, .inl mn_products_18))]) [0, 1, 2, 3, 4] (by decide) rfl
              have hl := lv_sub (l' := [(0, .ref (ad 4)), (1, .int p0), (2, .int p1), (3, .int x3_17), (4, .int 0)]) hl [1, 2, 3, 4, 0] rfl
              have loop86 : ∀ (nn : Nat) (x4_22 : Int32) (mn_products_23 : Nat → Int32), mu86_25 x4_22 mn_products_23 < nn → I86_24 x4_22 mn_products_23 → ∀ (H : Heap) (locs : List Loc) (ls : Array Slot), va_P (dC, dI) vwCl [((ad 4), .inr (2, [.ref (ad 5), .ref (ad 6), .ref (ad 7), .ref (ad 8), .int p0, .int p1, .int y_5, .int mn_count_8])), ((ad 5), .inl (cs 0, 126, .inl mn_codes_9)), ((ad 6), .inl (cs 0, 126, .inl mn_degrees_10)), ((ad 7), .inl (cs 0, 32, .inl mn_firstOfDegree_16)), ((ad 8), .inl (cs 0, 504, .inl mn_products_23))] H → va_D A [((ad 4), .inr (2, [.ref (ad 5), .ref (ad 6), .ref (ad 7), .ref (ad 8), .int p0, .int p1, .int y_5, .int mn_count_8])), ((ad 5), .inl (cs 0, 126, .inl mn_codes_9)), ((ad 6), .inl (cs 0, 126, .inl mn_degrees_10)), ((ad 7), .inl (cs 0, 32, .inl mn_firstOfDegree_16)), ((ad 8), .inl (cs 0, 504, .inl mn_products_23))] → va_S A s.heap H locs → lv_has ls 5 [(0, .ref (ad 4)), (1, .int p0), (2, .int p1), (3, .int x3_17), (4, .int x4_22)] → W p l e (headSpec w_mn_list { frames := 6, cells := 0, slots := 0, locals := 157 }).room s m ([.ref (ad 4), .int p0, .int p1] : List Value).toArray below meth c H locs 0 0 (MQ below (va_Qv (fun (u : Int32 × Int32 × Int32 × Int32 × (Nat → Int32) × (Nat → Int32) × (Nat → Int32) × (Nat → Int32)) => Q u.1 u.2.1 u.2.2.1 u.2.2.2.1 u.2.2.2.2.1 u.2.2.2.2.2.1 u.2.2.2.2.2.2.1 u.2.2.2.2.2.2.2) (at_mn_list dC dI cs A ad ) A) ([.ref (ad 4), .int p0, .int p1] : List Value).toArray s 0 0 A) (F0 m 86 ls []) := by
                intro nn
                induction nn with
                | zero => intro x4_22 mn_products_23 hlt; exact absurd hlt (Nat.not_lt_zero _)
                | succ nn ih86 =>
                  intro x4_22 mn_products_23 hlt86 hI H locs ls hP hD hS hl
                  have hv := hv x4_22 mn_products_23 hI
                  refine lv_iload hx hb d_mn_list_86 (lv_at hl 4 rfl) ?_
                  refine lv_aload_n hx hb d_mn_list_88 rfl (lv_at hl 0 rfl) ?_
                  refine va_get (D := (dC, dI)) (ci := 2) (v := .int mn_count_8) (C := R_mn) (T := F_mn) (N := 8) hx hb hts in_mn hown hK hP 0 rfl rfl 7 (by decide) (hts _ kw_79) (fun _ h9 => h9) rfl d_mn_list_89 ?_
                  refine lv_icmp_ge (tgt := 129) hx hb d_mn_list_92 (by decide) (fun c_26 => ?_) (fun c_26 => ?_)
                  · have hv := hv.1 c_26
                    obtain ⟨x3_27, ex3_27⟩ : ∃ y : Int32, y = x3_17 + 1 := ⟨_, rfl⟩
                    have hv := hv x3_27 ex3_27
                    refine lv_iinc (v := x3_27) (lv' := [(3, .int x3_27), (0, .ref (ad 4)), (1, .int p0), (2, .int p1), (4, .int x4_22)]) hx hb d_mn_list_129 hl (k := 3) rfl (by rw [ex3_27]; rfl) (by decide) rfl (fun ls hl => ?_)
                    refine lv_goto (tgt := 75) hx hb d_mn_list_132 (by decide) ?_
                    exact ih75 x3_27 mn_products_23 (Nat.lt_of_lt_of_le hv.2 (Nat.le_of_lt_succ hlt75)) hv.1 _ _ _ (hP.sub [0, 1, 2, 3, 4] rfl) (hD.sub [0, 1, 2, 3, 4] (by decide) rfl) hS (lv_sub hl [1, 2, 3, 0] rfl)
                  · have hv := hv.2 c_26
                    refine lv_aload_n hx hb d_mn_list_95 rfl (lv_at hl 0 rfl) ?_
                    refine va_get (D := (dC, dI)) (ci := 2) (v := .ref (ad 8)) (C := R_mn) (T := F_mn) (N := 8) hx hb hts in_mn hown hK hP 0 rfl rfl 3 (by decide) (hts _ kw_75) (fun _ h9 => h9) rfl d_mn_list_96 ?_
                    refine lv_iload_n hx hb d_mn_list_99 rfl (lv_at hl 3 rfl) ?_
                    refine lv_bipush (v := 126) hx hb d_mn_list_100 (by decide) ?_
                    refine lv_imul hx hb d_mn_list_102 ?_
                    refine lv_iload hx hb d_mn_list_103 (lv_at hl 4 rfl) ?_
                    refine lv_iadd hx hb d_mn_list_105 ?_
                    refine lv_aload_n hx hb d_mn_list_106 rfl (lv_at hl 0 rfl) ?_
                    refine lv_aload_n hx hb d_mn_list_107 rfl (lv_at hl 0 rfl) ?_
                    refine va_get (D := (dC, dI)) (ci := 2) (v := .ref (ad 5)) (C := R_mn) (T := F_mn) (N := 8) hx hb hts in_mn hown hK hP 0 rfl rfl 0 (by decide) (hts _ kw_72) (fun _ h9 => h9) rfl d_mn_list_108 ?_
                    refine lv_iload hx hb d_mn_list_111 (lv_at hl 4 rfl) ?_
                    obtain ⟨hi_28, hv⟩ := hv
                    refine va_iald hx hb hK hP 1 0 rfl rfl hi_28 d_mn_list_113 ?_
                    refine lv_iload_n hx hb d_mn_list_114 rfl (lv_at hl 3 rfl) ?_
                    have hPc := hP.sub (ws' := []) [] rfl
                    have hDc := hD.sub (ws' := []) [] (by decide) rfl
                    have hFc := va_free (wc := []) hD hS hA [] rfl
                    refine va_calli (va_runS (As := [.int x3_17]) (rest := [.int (mn_codes_9 x4_22.toNatClampNeg), .ref (ad 4), .int ((x3_17 * 126) + x4_22), .ref (ad 8)]) ⟨hx, hb, hml, hown, hts⟩ (c_mn_unit l dC dI cs ad  H.size x3_17 _ hv) (va_cwS 1 hts (gd_S kw_232 kw_233 kw_34 kw_234) rfl rfl rfl (by decide +kernel) ⟨Nat.le_of_ble_eq_true rfl, Nat.le_of_ble_eq_true rfl⟩) ⟨fun a U g mk q => by obtain ⟨q0, q1, qP, qK, qD⟩ := q; exact ⟨q0, q1, qP, qK.call, qD⟩, fun U hU hW => ⟨rfl, by rw [hU], by rw [hU]; exact hPc, vwK.warm hW ⟨hK, hN⟩, hDc.weaken (fun _ _ _ _ => trivial)⟩⟩ rfl rfl hl.1 rfl (lv_room (Nat.le_of_ble_eq_true rfl)) d_mn_list_115 ⟨Nat.zero_le _, Nat.zero_le _⟩) hS (fun q _ h => hFc q h) hFc (fun r_29 _u t H1 locs1 ht hvm hw hB hz1 hk1 hS => ?_)
                    obtain ⟨hP1, hD1⟩ := hB
                    rw [ht] at hP1
                    obtain ⟨hP, hD⟩ := va_join (wr := [((ad 4), .inr (2, [.ref (ad 5), .ref (ad 6), .ref (ad 7), .ref (ad 8), .int p0, .int p1, .int y_5, .int mn_count_8])), ((ad 5), .inl (cs 0, 126, .inl mn_codes_9)), ((ad 6), .inl (cs 0, 126, .inl mn_degrees_10)), ((ad 7), .inl (cs 0, 32, .inl mn_firstOfDegree_16)), ((ad 8), .inl (cs 0, 504, .inl mn_products_23))]) (w1 := []) hP hD [] [0, 1, 2, 3, 4] rfl rfl (by decide) (by decide) hk1 hFc hP1 hD1
                    generalize H1 = H at hP hS ⊢
                    generalize locs1 = locs at hS ⊢
                    have hP : va_P (dC, dI) vwCl [((ad 4), .inr (2, [.ref (ad 5), .ref (ad 6), .ref (ad 7), .ref (ad 8), .int p0, .int p1, .int y_5, .int mn_count_8])), ((ad 5), .inl (cs 0, 126, .inl mn_codes_9)), ((ad 6), .inl (cs 0, 126, .inl mn_degrees_10)), ((ad 7), .inl (cs 0, 32, .inl mn_firstOfDegree_16)), ((ad 8), .inl (cs 0, 504, .inl mn_products_23))] H := hP
                    have hD : va_D A [((ad 4), .inr (2, [.ref (ad 5), .ref (ad 6), .ref (ad 7), .ref (ad 8), .int p0, .int p1, .int y_5, .int mn_count_8])), ((ad 5), .inl (cs 0, 126, .inl mn_codes_9)), ((ad 6), .inl (cs 0, 126, .inl mn_degrees_10)), ((ad 7), .inl (cs 0, 32, .inl mn_firstOfDegree_16)), ((ad 8), .inl (cs 0, 504, .inl mn_products_23))] := hD
                    have hv := hw
                    try dsimp only at hv
                    refine lv_iadd hx hb d_mn_list_118 ?_
                    have hPc := hP.sub (ws' := [((ad 4), .inr (2, [.ref (ad 5), .ref (ad 6), .ref (ad 7), .ref (ad 8), .int p0, .int p1, .int y_5, .int mn_count_8])), ((ad 5), .inl (cs 0, 126, .inl mn_codes_9)), ((ad 7), .inl (cs 0, 32, .inl mn_firstOfDegree_16))]) [0, 1, 3] rfl
                    have hDc := hD.sub (ws' := [((ad 4), .inr (2, [.ref (ad 5), .ref (ad 6), .ref (ad 7), .ref (ad 8), .int p0, .int p1, .int y_5, .int mn_count_8])), ((ad 5), .inl (cs 0, 126, .inl mn_codes_9)), ((ad 7), .inl (cs 0, 32, .inl mn_firstOfDegree_16))]) [0, 1, 3] (by decide) rfl
                    have hFc := va_free (wc := [((ad 4), .inr (2, [.ref (ad 5), .ref (ad 6), .ref (ad 7), .ref (ad 8), .int p0, .int p1, .int y_5, .int mn_count_8])), ((ad 5), .inl (cs 0, 126, .inl mn_codes_9)), ((ad 7), .inl (cs 0, 32, .inl mn_firstOfDegree_16))]) hD hS hA [0, 1, 3] rfl
                    refine va_calli (va_runV (As := [.int ((mn_codes_9 x4_22.toNatClampNeg) + r_29)]) (rest := [.int ((x3_17 * 126) + x4_22), .ref (ad 8)]) ⟨hx, hb, hml, hown, hts⟩ (c_mn_placeOf l dC dI cs ad  H.size p0 p1 y_5 mn_count_8 mn_codes_9 mn_firstOfDegree_16 ((mn_codes_9 x4_22.toNatClampNeg) + r_29) _ hv) (cwV 1 hts (gd_V kw_238 kw_239 kw_240 kw_34 kw_241) rfl rfl rfl (by decide +kernel) ⟨Nat.le_of_ble_eq_true rfl, Nat.le_of_ble_eq_true rfl⟩) ⟨fun a U g mk q => by obtain ⟨q0, q1, qP, qK, qD⟩ := q; exact ⟨q0, q1, qP, qK.call, qD⟩, va_recv hK hPc (ci := 2) (q0 := 0) rfl rfl, fun U hU hW => ⟨rfl, by rw [hU], by rw [hU]; exact hPc, vwK.warm hW ⟨hK, hN⟩, hDc.weaken (fun _ _ _ _ => trivial)⟩⟩ rfl rfl hl.1 rfl (lv_room (Nat.le_of_ble_eq_true rfl)) d_mn_list_119 ⟨Nat.zero_le _, Nat.zero_le _⟩) hS (fun q _ h => hFc q h) hFc (fun r_30 _u t H1 locs1 ht hvm hw hB hz1 hk1 hS => ?_)
                    obtain ⟨hP1, hD1⟩ := hB
                    rw [ht] at hP1
                    obtain ⟨hP, hD⟩ := va_join (wr := [((ad 6), .inl (cs 0, 126, .inl mn_degrees_10)), ((ad 8), .inl (cs 0, 504, .inl mn_products_23))]) (w1 := [((ad 4), .inr (2, [.ref (ad 5), .ref (ad 6), .ref (ad 7), .ref (ad 8), .int p0, .int p1, .int y_5, .int mn_count_8])), ((ad 5), .inl (cs 0, 126, .inl mn_codes_9)), ((ad 7), .inl (cs 0, 32, .inl mn_firstOfDegree_16))]) hP hD [0, 1, 3] [2, 4] rfl rfl (by decide) (by decide) hk1 hFc hP1 hD1
                    generalize H1 = H at hP hS ⊢
                    generalize locs1 = locs at hS ⊢
                    have hP : va_P (dC, dI) vwCl [((ad 6), .inl (cs 0, 126, .inl mn_degrees_10)), ((ad 8), .inl (cs 0, 504, .inl mn_products_23)), ((ad 4), .inr (2, [.ref (ad 5), .ref (ad 6), .ref (ad 7), .ref (ad 8), .int p0, .int p1, .int y_5, .int mn_count_8])), ((ad 5), .inl (cs 0, 126, .inl mn_codes_9)), ((ad 7), .inl (cs 0, 32, .inl mn_firstOfDegree_16))] H := hP
                    have hD : va_D A [((ad 6), .inl (cs 0, 126, .inl mn_degrees_10)), ((ad 8), .inl (cs 0, 504, .inl mn_products_23)), ((ad 4), .inr (2, [.ref (ad 5), .ref (ad 6), .ref (ad 7), .ref (ad 8), .int p0, .int p1, .int y_5, .int mn_count_8])), ((ad 5), .inl (cs 0, 126, .inl mn_codes_9)), ((ad 7), .inl (cs 0, 32, .inl mn_firstOfDegree_16))] := hD
                    have hv := hw
                    try dsimp only at hv
                    obtain ⟨hi_31, hv⟩ := hv
                    refine va_iast hx hb hK hP hD hS 1 0 rfl rfl hi_31 d_mn_list_122 (fun H locs hP hD hS => ?_)
                    have hP : va_P (dC, dI) vwCl [((ad 6), .inl (cs 0, 126, .inl mn_degrees_10)), ((ad 8), .inl (cs 0, 504, .inl (upd mn_products_23 (((x3_17 * 126) + x4_22)).toNatClampNeg r_30))), ((ad 4), .inr (2, [.ref (ad 5), .ref (ad 6), .ref (ad 7), .ref (ad 8), .int p0, .int p1, .int y_5, .int mn_count_8])), ((ad 5), .inl (cs 0, 126, .inl mn_codes_9)), ((ad 7), .inl (cs 0, 32, .inl mn_firstOfDegree_16))] H := hP
                    have hD : va_D A [((ad 6), .inl (cs 0, 126, .inl mn_degrees_10)), ((ad 8), .inl (cs 0, 504, .inl (upd mn_products_23 (((x3_17 * 126) + x4_22)).toNatClampNeg r_30))), ((ad 4), .inr (2, [.ref (ad 5), .ref (ad 6), .ref (ad 7), .ref (ad 8), .int p0, .int p1, .int y_5, .int mn_count_8])), ((ad 5), .inl (cs 0, 126, .inl mn_codes_9)), ((ad 7), .inl (cs 0, 32, .inl mn_firstOfDegree_16))] := hD
                    generalize emn_products_32 : upd mn_products_23 (((x3_17 * 126) + x4_22)).toNatClampNeg r_30 = mn_products_32 at hP hD
                    have hv := hv mn_products_32 emn_products_32.symm
                    obtain ⟨x4_33, ex4_33⟩ : ∃ y : Int32, y = x4_22 + 1 := ⟨_, rfl⟩
                    have hv := hv x4_33 ex4_33
                    refine lv_iinc (v := x4_33) (lv' := [(4, .int x4_33), (0, .ref (ad 4)), (1, .int p0), (2, .int p1), (3, .int x3_17)]) hx hb d_mn_list_123 hl (k := 4) rfl (by rw [ex4_33]; rfl) (by decide) rfl (fun ls hl => ?_)
                    refine lv_goto (tgt := 86) hx hb d_mn_list_126 (by decide) ?_
                    exact ih86 x4_33 mn_products_32 (Nat.lt_of_lt_of_le hv.2 (Nat.le_of_lt_succ hlt86)) hv.1 _ _ _ (hP.sub [2, 3, 0, 4, 1] rfl) (hD.sub [2, 3, 0, 4, 1] (by decide) rfl) hS (lv_sub hl [1, 2, 3, 4, 0] rfl)
              exact loop86 _ 0 mn_products_18 (Nat.lt_succ_self _) hi0 _ _ _ hP hD hS hl
        exact loop75 _ 0 mn_products (Nat.lt_succ_self _) hi0 _ _ _ hP hD hS hl
      · have hv := hv.2 c_14
        refine lv_aload_n hx hb d_mn_list_34 rfl (lv_at hl 0 rfl) ?_
        refine va_get (D := (dC, dI)) (ci := 2) (v := .ref (ad 7)) (C := R_mn) (T := F_mn) (N := 8) hx hb hts in_mn hown hK hP 0 rfl rfl 2 (by decide) (hts _ kw_74) (fun _ h9 => h9) rfl d_mn_list_35 ?_
        refine lv_iload_n hx hb d_mn_list_38 rfl (lv_at hl 3 rfl) ?_
        refine lv_aload_n hx hb d_mn_list_39 rfl (lv_at hl 0 rfl) ?_
        refine va_get (D := (dC, dI)) (ci := 2) (v := .int mn_count_8) (C := R_mn) (T := F_mn) (N := 8) hx hb hts in_mn hown hK hP 0 rfl rfl 7 (by decide) (hts _ kw_79) (fun _ h9 => h9) rfl d_mn_list_40 ?_
        obtain ⟨hi_34, hv⟩ := hv
        refine va_iast hx hb hK hP hD hS 3 0 rfl rfl hi_34 d_mn_list_43 (fun H locs hP hD hS => ?_)
        have hP : va_P (dC, dI) vwCl [((ad 4), .inr (2, [.ref (ad 5), .ref (ad 6), .ref (ad 7), .ref (ad 8), .int p0, .int p1, .int y_5, .int mn_count_8])), ((ad 5), .inl (cs 0, 126, .inl mn_codes_9)), ((ad 6), .inl (cs 0, 126, .inl mn_degrees_10)), ((ad 7), .inl (cs 0, 32, .inl (upd mn_firstOfDegree_11 x3_7.toNatClampNeg mn_count_8))), ((ad 8), .inl (cs 0, 504, .inl mn_products))] H := hP
        have hD : va_D A [((ad 4), .inr (2, [.ref (ad 5), .ref (ad 6), .ref (ad 7), .ref (ad 8), .int p0, .int p1, .int y_5, .int mn_count_8])), ((ad 5), .inl (cs 0, 126, .inl mn_codes_9)), ((ad 6), .inl (cs 0, 126, .inl mn_degrees_10)), ((ad 7), .inl (cs 0, 32, .inl (upd mn_firstOfDegree_11 x3_7.toNatClampNeg mn_count_8))), ((ad 8), .inl (cs 0, 504, .inl mn_products))] := hD
        generalize emn_firstOfDegree_35 : upd mn_firstOfDegree_11 x3_7.toNatClampNeg mn_count_8 = mn_firstOfDegree_35 at hP hD
        have hv := hv mn_firstOfDegree_35 emn_firstOfDegree_35.symm
        refine lv_aload_n hx hb d_mn_list_44 rfl (lv_at hl 0 rfl) ?_
        refine lv_iload_n hx hb d_mn_list_45 rfl (lv_at hl 3 rfl) ?_
        refine lv_iconst (v := 0) hx hb d_mn_list_46 (by decide) ?_
        refine lv_iload_n hx hb d_mn_list_47 rfl (lv_at hl 3 rfl) ?_
        refine lv_iconst (v := 0) hx hb d_mn_list_48 (by decide) ?_
        have hPc := hP.sub (ws' := [((ad 4), .inr (2, [.ref (ad 5), .ref (ad 6), .ref (ad 7), .ref (ad 8), .int p0, .int p1, .int y_5, .int mn_count_8])), ((ad 5), .inl (cs 0, 126, .inl mn_codes_9)), ((ad 6), .inl (cs 0, 126, .inl mn_degrees_10))]) [0, 1, 2] rfl
        have hDc := hD.sub (ws' := [((ad 4), .inr (2, [.ref (ad 5), .ref (ad 6), .ref (ad 7), .ref (ad 8), .int p0, .int p1, .int y_5, .int mn_count_8])), ((ad 5), .inl (cs 0, 126, .inl mn_codes_9)), ((ad 6), .inl (cs 0, 126, .inl mn_degrees_10))]) [0, 1, 2] (by decide) rfl
        have hFc := va_free (wc := [((ad 4), .inr (2, [.ref (ad 5), .ref (ad 6), .ref (ad 7), .ref (ad 8), .int p0, .int p1, .int y_5, .int mn_count_8])), ((ad 5), .inl (cs 0, 126, .inl mn_codes_9)), ((ad 6), .inl (cs 0, 126, .inl mn_degrees_10))]) hD hS hA [0, 1, 2] rfl
        refine va_callv (va_runV (As := [.int x3_7, .int 0, .int x3_7, .int 0]) (rest := []) ⟨hx, hb, hml, hown, hts⟩ (c_mn_listDegree l dC dI cs ad 4  H.size p0 p1 y_5 mn_count_8 mn_codes_9 mn_degrees_10 x3_7 0 x3_7 0 _ hv) (cwV 4 hts (gd_V kw_229 kw_230 kw_1 kw_34 kw_231) rfl rfl rfl (by decide +kernel) ⟨Nat.le_of_ble_eq_true rfl, Nat.le_of_ble_eq_true rfl⟩) ⟨fun a U g mk q => by obtain ⟨q0, q1, qP, qK, qD⟩ := q; exact ⟨q0, q1, qP, qK.call, qD⟩, va_recv hK hPc (ci := 2) (q0 := 0) rfl rfl, fun U hU hW => ⟨rfl, by rw [hU], by rw [hU]; exact hPc, vwK.warm hW ⟨hK, hN⟩, hDc.weaken (fun _ _ _ _ => trivial)⟩⟩ rfl rfl hl.1 rfl (lv_room (Nat.le_of_ble_eq_true rfl)) d_mn_list_49 ⟨Nat.zero_le _, Nat.zero_le _⟩) hS (fun q _ h => hFc q h) hFc (fun u t H1 locs1 ht hvm hw hB hz1 hk1 hS => ?_)
        obtain ⟨mn_count_36, mn_codes_37, mn_degrees_38⟩ := u
        obtain ⟨hP1, hD1⟩ := hB
        rw [ht] at hP1
        obtain ⟨hP, hD⟩ := va_join (wr := [((ad 7), .inl (cs 0, 32, .inl mn_firstOfDegree_35)), ((ad 8), .inl (cs 0, 504, .inl mn_products))]) (w1 := [((ad 4), .inr (2, [.ref (ad 5), .ref (ad 6), .ref (ad 7), .ref (ad 8), .int p0, .int p1, .int y_5, .int mn_count_36])), ((ad 5), .inl (cs 0, 126, .inl mn_codes_37)), ((ad 6), .inl (cs 0, 126, .inl mn_degrees_38))]) hP hD [0, 1, 2] [3, 4] rfl rfl (by decide) (by decide) hk1 hFc hP1 hD1
        generalize H1 = H at hP hS ⊢
        generalize locs1 = locs at hS ⊢
        have hP : va_P (dC, dI) vwCl [((ad 7), .inl (cs 0, 32, .inl mn_firstOfDegree_35)), ((ad 8), .inl (cs 0, 504, .inl mn_products)), ((ad 4), .inr (2, [.ref (ad 5), .ref (ad 6), .ref (ad 7), .ref (ad 8), .int p0, .int p1, .int y_5, .int mn_count_36])), ((ad 5), .inl (cs 0, 126, .inl mn_codes_37)), ((ad 6), .inl (cs 0, 126, .inl mn_degrees_38))] H := hP
        have hD : va_D A [((ad 7), .inl (cs 0, 32, .inl mn_firstOfDegree_35)), ((ad 8), .inl (cs 0, 504, .inl mn_products)), ((ad 4), .inr (2, [.ref (ad 5), .ref (ad 6), .ref (ad 7), .ref (ad 8), .int p0, .int p1, .int y_5, .int mn_count_36])), ((ad 5), .inl (cs 0, 126, .inl mn_codes_37)), ((ad 6), .inl (cs 0, 126, .inl mn_degrees_38))] := hD
        have hv := hw
        try dsimp only at hv
        obtain ⟨x3_39, ex3_39⟩ : ∃ y : Int32, y = x3_7 + 1 := ⟨_, rfl⟩
        have hv := hv x3_39 ex3_39
        refine lv_iinc (v := x3_39) (lv' := [(3, .int x3_39), (0, .ref (ad 4)), (1, .int p0), (2, .int p1)]) hx hb d_mn_list_52 hl (k := 3) rfl (by rw [ex3_39]; rfl) (by decide) rfl (fun ls hl => ?_)
        refine lv_goto (tgt := 26) hx hb d_mn_list_55 (by decide) ?_
        exact ih26 x3_39 mn_count_36 mn_codes_37 mn_degrees_38 mn_firstOfDegree_35 (Nat.lt_of_lt_of_le hv.2 (Nat.le_of_lt_succ hlt26)) hv.1 _ _ _ (hP.sub [2, 3, 4, 0, 1] rfl) (hD.sub [2, 3, 4, 0, 1] (by decide) rfl) hS (lv_sub hl [1, 2, 3, 0] rfl)
  exact loop26 _ 0 0 mn_codes mn_degrees mn_firstOfDegree (Nat.lt_succ_self _) hi0 _ _ _ hP hD hS hl
abbrev b_x_emptyHand : ByteArray := prog_1_method_16_code
def y_x_emptyHand : MethodName := ⟨"SpaceBasis", "emptyHand", "()V"⟩
def w_x_emptyHand : List Cond := Cond.code y_x_emptyHand b_x_emptyHand 1 none :: vwWS
theorem d_x_emptyHand_0 : decode b_x_emptyHand 0 = .ok (.aload_n 0, 1) := by decide +kernel
theorem d_x_emptyHand_1 : decode b_x_emptyHand 1 = .ok (.getfield 57, 3) := by decide +kernel
theorem d_x_emptyHand_4 : decode b_x_emptyHand 4 = .ok (.iconst 0, 1) := by decide +kernel
theorem d_x_emptyHand_5 : decode b_x_emptyHand 5 = .ok (.invokestatic 198, 3) := by decide +kernel
theorem d_x_emptyHand_8 : decode b_x_emptyHand 8 = .ok (.return_, 1) := by decide +kernel
/-- SpaceBasis.emptyHand()V -/
def vc_x_emptyHand (x_provedCount : Int32) (x_inHand : Nat → Int32) (Q : (Nat → Int32) → Prop) : Prop :=
  vc_Ar_fill 126 x_inHand 0 (fun (x_inHand_1 : Nat → Int32) => Q x_inHand_1)
abbrev at_x_emptyHand (dC : Nat → ClassId) (dI : Nat → Nat → Nat) (cs : Nat → ClassId) (A : Nat → Prop) (ad : Nat → Nat) (x_provedCount : Int32) (u : (Nat → Int32)) (t : State) : Prop := match u with
  | x_inHand => va_P (dC, dI) vwCl [((ad 0), .inr (0, [.ref (ad 3), .ref (ad 4), .ref (ad 9), .ref (ad 12), .ref (ad 23), .ref (ad 27), .ref (ad 1), .ref (ad 2), .int x_provedCount])), ((ad 1), .inl (cs 0, 126, .inl x_inHand))] t.heap ∧ va_D A [((ad 0), .inr (0, [.ref (ad 3), .ref (ad 4), .ref (ad 9), .ref (ad 12), .ref (ad 23), .ref (ad 27), .ref (ad 1), .ref (ad 2), .int x_provedCount])), ((ad 1), .inl (cs 0, 126, .inl x_inHand))]
set_option maxHeartbeats 4000000 in
set_option maxRecDepth 100000 in
theorem c_x_emptyHand (l : Launch) (dC : Nat → ClassId) (dI : Nat → Nat → Nat) (cs : Nat → ClassId) (ad : Nat → Nat)  (sz : Nat) (x_provedCount : Int32) (x_inHand : Nat → Int32) (Q : (Nat → Int32) → Prop) (hv : vc_x_emptyHand x_provedCount x_inHand Q) : Met l y_x_emptyHand w_x_emptyHand ({ frames := 1, cells := 0, slots := 0, locals := 23 }) (va_Pc [.ref (ad 0)] (fun U => U.heap.size = sz ∧ va_P (dC, dI) vwCl [((ad 0), .inr (0, [.ref (ad 3), .ref (ad 4), .ref (ad 9), .ref (ad 12), .ref (ad 23), .ref (ad 27), .ref (ad 1), .ref (ad 2), .int x_provedCount])), ((ad 1), .inl (cs 0, 126, .inl x_inHand))] U.heap ∧ vwK dC dI cs U ∧ va_D (fun _ => True) [((ad 0), .inr (0, [.ref (ad 3), .ref (ad 4), .ref (ad 9), .ref (ad 12), .ref (ad 23), .ref (ad 27), .ref (ad 1), .ref (ad 2), .int x_provedCount])), ((ad 1), .inl (cs 0, 126, .inl x_inHand))])) (va_Qv (fun (u : (Nat → Int32)) => Q u) (at_x_emptyHand dC dI cs (va_A [((ad 0), .inr (0, [.ref (ad 3), .ref (ad 4), .ref (ad 9), .ref (ad 12), .ref (ad 23), .ref (ad 27), .ref (ad 1), .ref (ad 2), .int x_provedCount])), ((ad 1), .inl (cs 0, 126, .inl x_inHand))] sz) ad x_provedCount) (va_A [((ad 0), .inr (0, [.ref (ad 3), .ref (ad 4), .ref (ad 9), .ref (ad 12), .ref (ad 23), .ref (ad 27), .ref (ad 1), .ref (ad 2), .int x_provedCount])), ((ad 1), .inl (cs 0, 126, .inl x_inHand))] sz)) 0 0 (va_A [((ad 0), .inr (0, [.ref (ad 3), .ref (ad 4), .ref (ad 9), .ref (ad 12), .ref (ad 23), .ref (ad 27), .ref (ad 1), .ref (ad 2), .int x_provedCount])), ((ad 1), .inl (cs 0, 126, .inl x_inHand))] sz) := by
  unfold vc_x_emptyHand at hv
  refine Met.ofW (cc := b_x_emptyHand) (maxL := 1) (ret := none) (by decide) rfl ?_
  intro p e s m args below meth c s₁ B hml hpc
  obtain ⟨rfl, hsz, hP, ⟨hK, hN⟩, hD0⟩ := hpc
  have hx := B.exec
  have hb := B.bytes
  have hr := B.returns
  have hts : ∀ w ∈ vwWS, w.before _ s = true := fun w h => atoms_spec (ws := w_x_emptyHand) B.pre w (List.mem_cons_of_mem _ h)
  have hown : s.vm.findClass "SpaceBasis" = some m.cls := findClass_of_methodNamed B.named
  have hlocks := B.notSynchronized
  subst hsz
  have hD := hD0.self (sz := s.heap.size)
  generalize hAe : va_A [((ad 0), .inr (0, [.ref (ad 3), .ref (ad 4), .ref (ad 9), .ref (ad 12), .ref (ad 23), .ref (ad 27), .ref (ad 1), .ref (ad 2), .int x_provedCount])), ((ad 1), .inl (cs 0, 126, .inl x_inHand))] s.heap.size = A at hD ⊢
  have hA : ∀ q : Nat, s.heap.size ≤ q → A q := fun q h => by rw [← hAe]; exact Or.inr h
  have hS : va_S A s.heap s.heap [] := va_S.rf
  have hl := lv_entry ([.ref (ad 0)]) (n := 1) (Nat.le_of_ble_eq_true rfl)
  rw [lg_entry_eq]
  generalize (lg_sl ([.ref (ad 0)]) ++ List.replicate (1 - (lg_sl ([.ref (ad 0)])).length) Slot.unset).toArray = ls at hl ⊢
  have hl : lv_has ls 1 [(0, .ref (ad 0))] := hl
  refine lv_aload_n hx hb d_x_emptyHand_0 rfl (lv_at hl 0 rfl) ?_
  refine va_get (D := (dC, dI)) (ci := 0) (v := .ref (ad 1)) (C := R_x) (T := F_x) (N := 9) hx hb hts in_x hown hK hP 0 rfl rfl 6 (by decide) (hts _ kw_264) (fun _ h9 => h9) rfl d_x_emptyHand_1 ?_
  refine lv_iconst (v := 0) hx hb d_x_emptyHand_4 (by decide) ?_
  have hPc := hP.sub (ws' := [((ad 1), .inl (cs 0, 126, .inl x_inHand))]) [1] rfl
  have hDc := hD.sub (ws' := [((ad 1), .inl (cs 0, 126, .inl x_inHand))]) [1] (by decide) rfl
  have hFc := va_free (wc := [((ad 1), .inl (cs 0, 126, .inl x_inHand))]) hD hS hA [1] rfl
  refine va_callv (va_runS (As := [.ref (ad 1), .int 0]) (rest := []) ⟨hx, hb, hml, hown, hts⟩ (c_Ar_fill l dC dI cs ad (ad 1) s.heap.size 126 x_inHand 0 _ hv) (va_cwS 2 hts (gd_S kw_251 kw_252 kw_40 kw_253) rfl rfl rfl (by decide +kernel) ⟨Nat.le_of_ble_eq_true rfl, Nat.le_of_ble_eq_true rfl⟩) ⟨fun a U g mk q => by obtain ⟨q0, q1, qP, qK, qD⟩ := q; exact ⟨q0, q1, qP, qK.call, qD⟩, fun U hU hW => ⟨rfl, by rw [hU], by rw [hU]; exact hPc, vwK.warm hW ⟨hK, hN⟩, hDc.weaken (fun _ _ _ _ => trivial)⟩⟩ rfl rfl hl.1 rfl (lv_room (Nat.le_of_ble_eq_true rfl)) d_x_emptyHand_5 ⟨Nat.zero_le _, Nat.zero_le _⟩) hS (fun q _ h => hFc q h) hFc (fun x_inHand_1 t H1 locs1 ht hvm hw hB hz1 hk1 hS => ?_)
  obtain ⟨hP1, hD1⟩ := hB
  rw [ht] at hP1
  obtain ⟨hP, hD⟩ := va_join (wr := [((ad 0), .inr (0, [.ref (ad 3), .ref (ad 4), .ref (ad 9), .ref (ad 12), .ref (ad 23), .ref (ad 27), .ref (ad 1), .ref (ad 2), .int x_provedCount]))]) (w1 := [((ad 1), .inl (cs 0, 126, .inl x_inHand_1))]) hP hD [1] [0] rfl rfl (by decide) (by decide) hk1 hFc hP1 hD1
  generalize H1 = H at hP hS ⊢
  generalize locs1 = locs at hS ⊢
  have hP : va_P (dC, dI) vwCl [((ad 0), .inr (0, [.ref (ad 3), .ref (ad 4), .ref (ad 9), .ref (ad 12), .ref (ad 23), .ref (ad 27), .ref (ad 1), .ref (ad 2), .int x_provedCount])), ((ad 1), .inl (cs 0, 126, .inl x_inHand_1))] H := hP
  have hD : va_D A [((ad 0), .inr (0, [.ref (ad 3), .ref (ad 4), .ref (ad 9), .ref (ad 12), .ref (ad 23), .ref (ad 27), .ref (ad 1), .ref (ad 2), .int x_provedCount])), ((ad 1), .inl (cs 0, 126, .inl x_inHand_1))] := hD
  have hv := hw
  try dsimp only at hv
  have hP9 := hP.sub (ws' := [((ad 0), .inr (0, [.ref (ad 3), .ref (ad 4), .ref (ad 9), .ref (ad 12), .ref (ad 23), .ref (ad 27), .ref (ad 1), .ref (ad 2), .int x_provedCount])), ((ad 1), .inl (cs 0, 126, .inl x_inHand_1))]) [0, 1] rfl
  have hD9 := hD.sub (ws' := [((ad 0), .inr (0, [.ref (ad 3), .ref (ad 4), .ref (ad 9), .ref (ad 12), .ref (ad 23), .ref (ad 27), .ref (ad 1), .ref (ad 2), .int x_provedCount])), ((ad 1), .inl (cs 0, 126, .inl x_inHand_1))]) [0, 1] (by decide) rfl
  exact W.vret hx hb hr (fun t ht hW => ⟨⟨x_inHand_1, rfl, hv, by rw [ht]; exact hP9, hD9⟩, hS.F ht⟩) hS.2.2 d_x_emptyHand_8
abbrev b_x_beginAnew : ByteArray := prog_1_method_15_code
def y_x_beginAnew : MethodName := ⟨"SpaceBasis", "beginAnew", "()V"⟩
def w_x_beginAnew : List Cond := Cond.code y_x_beginAnew b_x_beginAnew 1 none :: vwWS
theorem d_x_beginAnew_0 : decode b_x_beginAnew 0 = .ok (.aload_n 0, 1) := by decide +kernel
theorem d_x_beginAnew_1 : decode b_x_beginAnew 1 = .ok (.getfield 26, 3) := by decide +kernel
theorem d_x_beginAnew_4 : decode b_x_beginAnew 4 = .ok (.iconst 0, 1) := by decide +kernel
theorem d_x_beginAnew_5 : decode b_x_beginAnew 5 = .ok (.putfield 105, 3) := by decide +kernel
theorem d_x_beginAnew_8 : decode b_x_beginAnew 8 = .ok (.aload_n 0, 1) := by decide +kernel
theorem d_x_beginAnew_9 : decode b_x_beginAnew 9 = .ok (.invokevirtual 115, 3) := by decide +kernel
theorem d_x_beginAnew_12 : decode b_x_beginAnew 12 = .ok (.aload_n 0, 1) := by decide +kernel
theorem d_x_beginAnew_13 : decode b_x_beginAnew 13 = .ok (.getfield 35, 3) := by decide +kernel
theorem d_x_beginAnew_16 : decode b_x_beginAnew 16 = .ok (.invokevirtual 118, 3) := by decide +kernel
theorem d_x_beginAnew_19 : decode b_x_beginAnew 19 = .ok (.return_, 1) := by decide +kernel
/-- SpaceBasis.beginAnew()V -/
def vc_x_beginAnew (x_provedCount : Int32) (x_inHand : Nat → Int32) (ge_count : Int32) (sp_degree : Int32) (sp_size : Int32) (sp_count : Int32) (Q : (Nat → Int32) → Int32 → Int32 → Int32 → Int32 → Prop) : Prop :=
  vc_x_emptyHand x_provedCount x_inHand (fun (x_inHand_2 : Nat → Int32) => vc_sp_forget sp_degree sp_size sp_count (fun (sp_degree_3 : Int32) (sp_size_4 : Int32) (sp_count_5 : Int32) => Q x_inHand_2 0 sp_degree_3 sp_size_4 sp_count_5))
abbrev at_x_beginAnew (dC : Nat → ClassId) (dI : Nat → Nat → Nat) (cs : Nat → ClassId) (A : Nat → Prop) (ad : Nat → Nat) (x_provedCount : Int32) (u : (Nat → Int32) × Int32 × Int32 × Int32 × Int32) (t : State) : Prop := match u with
  | (x_inHand, ge_count, sp_degree, sp_size, sp_count) => va_P (dC, dI) vwCl [((ad 0), .inr (0, [.ref (ad 3), .ref (ad 4), .ref (ad 9), .ref (ad 12), .ref (ad 23), .ref (ad 27), .ref (ad 1), .ref (ad 2), .int x_provedCount])), ((ad 1), .inl (cs 0, 126, .inl x_inHand)), ((ad 9), .inr (3, [.ref (ad 10), .ref (ad 11), .int ge_count])), ((ad 12), .inr (4, [.ref (ad 3), .ref (ad 4), .ref (ad 18), .ref (ad 13), .ref (ad 14), .ref (ad 15), .ref (ad 16), .ref (ad 17), .int sp_degree, .int sp_size, .int sp_count]))] t.heap ∧ va_D A [((ad 0), .inr (0, [.ref (ad 3), .ref (ad 4), .ref (ad 9), .ref (ad 12), .ref (ad 23), .ref (ad 27), .ref (ad 1), .ref (ad 2), .int x_provedCount])), ((ad 1), .inl (cs 0, 126, .inl x_inHand)), ((ad 9), .inr (3, [.ref (ad 10), .ref (ad 11), .int ge_count])), ((ad 12), .inr (4, [.ref (ad 3), .ref (ad 4), .ref (ad 18), .ref (ad 13), .ref (ad 14), .ref (ad 15), .ref (ad 16), .ref (ad 17), .int sp_degree, .int sp_size, .int sp_count]))]
set_option maxHeartbeats 4000000 in
set_option maxRecDepth 100000 in
theorem c_x_beginAnew (l : Launch) (dC : Nat → ClassId) (dI : Nat → Nat → Nat) (cs : Nat → ClassId) (ad : Nat → Nat)  (sz : Nat) (x_provedCount : Int32) (x_inHand : Nat → Int32) (ge_count : Int32) (sp_degree : Int32) (sp_size : Int32) (sp_count : Int32) (Q : (Nat → Int32) → Int32 → Int32 → Int32 → Int32 → Prop) (hv : vc_x_beginAnew x_provedCount x_inHand ge_count sp_degree sp_size sp_count Q) : Met l y_x_beginAnew w_x_beginAnew ({ frames := 2, cells := 0, slots := 0, locals := 43 }) (va_Pc [.ref (ad 0)] (fun U => U.heap.size = sz ∧ va_P (dC, dI) vwCl [((ad 0), .inr (0, [.ref (ad 3), .ref (ad 4), .ref (ad 9), .ref (ad 12), .ref (ad 23), .ref (ad 27), .ref (ad 1), .ref (ad 2), .int x_provedCount])), ((ad 1), .inl (cs 0, 126, .inl x_inHand)), ((ad 9), .inr (3, [.ref (ad 10), .ref (ad 11), .int ge_count])), ((ad 12), .inr (4, [.ref (ad 3), .ref (ad 4), .ref (ad 18), .ref (ad 13), .ref (ad 14), .ref (ad 15), .ref (ad 16), .ref (ad 17), .int sp_degree, .int sp_size, .int sp_count]))] U.heap ∧ vwK dC dI cs U ∧ va_D (fun _ => True) [((ad 0), .inr (0, [.ref (ad 3), .ref (ad 4), .ref (ad 9), .ref (ad 12), .ref (ad 23), .ref (ad 27), .ref (ad 1), .ref (ad 2), .int x_provedCount])), ((ad 1), .inl (cs 0, 126, .inl x_inHand)), ((ad 9), .inr (3, [.ref (ad 10), .ref (ad 11), .int ge_count])), ((ad 12), .inr (4, [.ref (ad 3), .ref (ad 4), .ref (ad 18), .ref (ad 13), .ref (ad 14), .ref (ad 15), .ref (ad 16), .ref (ad 17), .int sp_degree, .int sp_size, .int sp_count]))])) (va_Qv (fun (u : (Nat → Int32) × Int32 × Int32 × Int32 × Int32) => Q u.1 u.2.1 u.2.2.1 u.2.2.2.1 u.2.2.2.2) (at_x_beginAnew dC dI cs (va_A [((ad 0), .inr (0, [.ref (ad 3), .ref (ad 4), .ref (ad 9), .ref (ad 12), .ref (ad 23), .ref (ad 27), .ref (ad 1), .ref (ad 2), .int x_provedCount])), ((ad 1), .inl (cs 0, 126, .inl x_inHand)), ((ad 9), .inr (3, [.ref (ad 10), .ref (ad 11), .int ge_count])), ((ad 12), .inr (4, [.ref (ad 3), .ref (ad 4), .ref (ad 18), .ref (ad 13), .ref (ad 14), .ref (ad 15), .ref (ad 16), .ref (ad 17), .int sp_degree, .int sp_size, .int sp_count]))] sz) ad x_provedCount) (va_A [((ad 0), .inr (0, [.ref (ad 3), .ref (ad 4), .ref (ad 9), .ref (ad 12), .ref (ad 23), .ref (ad 27), .ref (ad 1), .ref (ad 2), .int x_provedCount])), ((ad 1), .inl (cs 0, 126, .inl x_inHand)), ((ad 9), .inr (3, [.ref (ad 10), .ref (ad 11), .int ge_count])), ((ad 12), .inr (4, [.ref (ad 3), .ref (ad 4), .ref (ad 18), .ref (ad 13), .ref (ad 14), .ref (ad 15), .ref (ad 16), .ref (ad 17), .int sp_degree, .int sp_size, .int sp_count]))] sz)) 0 0 (va_A [((ad 0), .inr (0, [.ref (ad 3), .ref (ad 4), .ref (ad 9), .ref (ad 12), .ref (ad 23), .ref (ad 27), .ref (ad 1), .ref (ad 2), .int x_provedCount])), ((ad 1), .inl (cs 0, 126, .inl x_inHand)), ((ad 9), .inr (3, [.ref (ad 10), .ref (ad 11), .int ge_count])), ((ad 12), .inr (4, [.ref (ad 3), .ref (ad 4), .ref (ad 18), .ref (ad 13), .ref (ad 14), .ref (ad 15), .ref (ad 16), .ref (ad 17), .int sp_degree, .int sp_size, .int sp_count]))] sz) := by
  unfold vc_x_beginAnew at hv
  refine Met.ofW (cc := b_x_beginAnew) (maxL := 1) (ret := none) (by decide) rfl ?_
  intro p e s m args below meth c s₁ B hml hpc
  obtain ⟨rfl, hsz, hP, ⟨hK, hN⟩, hD0⟩ := hpc
  have hx := B.exec
  have hb := B.bytes
  have hr := B.returns
  have hts : ∀ w ∈ vwWS, w.before _ s = true := fun w h => atoms_spec (ws := w_x_beginAnew) B.pre w (List.mem_cons_of_mem _ h)
  have hown : s.vm.findClass "SpaceBasis" = some m.cls := findClass_of_methodNamed B.named
  have hlocks := B.notSynchronized
  subst hsz
  have hD := hD0.self (sz := s.heap.size)
  generalize hAe : va_A [((ad 0), .inr (0, [.ref (ad 3), .ref (ad 4), .ref (ad 9), .ref (ad 12), .ref (ad 23), .ref (ad 27), .ref (ad 1), .ref (ad 2), .int x_provedCount])), ((ad 1), .inl (cs 0, 126, .inl x_inHand)), ((ad 9), .inr (3, [.ref (ad 10), .ref (ad 11), .int ge_count])), ((ad 12), .inr (4, [.ref (ad 3), .ref (ad 4), .ref (ad 18), .ref (ad 13), .ref (ad 14), .ref (ad 15), .ref (ad 16), .ref (ad 17), .int sp_degree, .int sp_size, .int sp_count]))] s.heap.size = A at hD ⊢
  have hA : ∀ q : Nat, s.heap.size ≤ q → A q := fun q h => by rw [← hAe]; exact Or.inr h
  have hS : va_S A s.heap s.heap [] := va_S.rf
  have hl := lv_entry ([.ref (ad 0)]) (n := 1) (Nat.le_of_ble_eq_true rfl)
  rw [lg_entry_eq]
  generalize (lg_sl ([.ref (ad 0)]) ++ List.replicate (1 - (lg_sl ([.ref (ad 0)])).length) Slot.unset).toArray = ls at hl ⊢
  have hl : lv_has ls 1 [(0, .ref (ad 0))] := hl
  refine lv_aload_n hx hb d_x_beginAnew_0 rfl (lv_at hl 0 rfl) ?_
  refine va_get (D := (dC, dI)) (ci := 0) (v := .ref (ad 9)) (C := R_x) (T := F_x) (N := 9) hx hb hts in_x hown hK hP 0 rfl rfl 2 (by decide) (hts _ kw_260) (fun _ h9 => h9) rfl d_x_beginAnew_1 ?_
  refine lv_iconst (v := 0) hx hb d_x_beginAnew_4 (by decide) ?_
  refine va_putN (D := (dC, dI)) (ci := 3) (v := .int 0) (ty := .int) (C := R_ge) (T := F_ge) (N := 3) hx hb hts in_ge t_ge t_ge_ok n_ge hown hK hP hD hS 2 rfl rfl 2 (by decide) (va_Nw.use rfl (hN _ kn_18)) (fun _ h9 => h9) rfl (by decide +kernel) rfl rfl (Nat.le_of_ble_eq_true rfl) d_x_beginAnew_5 (fun H locs hP hD hS => ?_)
  have hP : va_P (dC, dI) vwCl [((ad 0), .inr (0, [.ref (ad 3), .ref (ad 4), .ref (ad 9), .ref (ad 12), .ref (ad 23), .ref (ad 27), .ref (ad 1), .ref (ad 2), .int x_provedCount])), ((ad 1), .inl (cs 0, 126, .inl x_inHand)), ((ad 9), .inr (3, [.ref (ad 10), .ref (ad 11), .int 0])), ((ad 12), .inr (4, [.ref (ad 3), .ref (ad 4), .ref (ad 18), .ref (ad 13), .ref (ad 14), .ref (ad 15), .ref (ad 16), .ref (ad 17), .int sp_degree, .int sp_size, .int sp_count]))] H := hP
  have hD : va_D A [((ad 0), .inr (0, [.ref (ad 3), .ref (ad 4), .ref (ad 9), .ref (ad 12), .ref (ad 23), .ref (ad 27), .ref (ad 1), .ref (ad 2), .int x_provedCount])), ((ad 1), .inl (cs 0, 126, .inl x_inHand)), ((ad 9), .inr (3, [.ref (ad 10), .ref (ad 11), .int 0])), ((ad 12), .inr (4, [.ref (ad 3), .ref (ad 4), .ref (ad 18), .ref (ad 13), .ref (ad 14), .ref (ad 15), .ref (ad 16), .ref (ad 17), .int sp_degree, .int sp_size, .int sp_count]))] := hD
  refine lv_aload_n hx hb d_x_beginAnew_8 rfl (lv_at hl 0 rfl) ?_
  have hPc := hP.sub (ws' := [((ad 0), .inr (0, [.ref (ad 3), .ref (ad 4), .ref (ad 9), .ref (ad 12), .ref (ad 23), .ref (ad 27), .ref (ad 1), .ref (ad 2), .int x_provedCount])), ((ad 1), .inl (cs 0, 126, .inl x_inHand))]) [0, 1] rfl
  have hDc := hD.sub (ws' := [((ad 0), .inr (0, [.ref (ad 3), .ref (ad 4), .ref (ad 9), .ref (ad 12), .ref (ad 23), .ref (ad 27), .ref (ad 1), .ref (ad 2), .int x_provedCount])), ((ad 1), .inl (cs 0, 126, .inl x_inHand))]) [0, 1] (by decide) rfl
  have hFc := va_free (wc := [((ad 0), .inr (0, [.ref (ad 3), .ref (ad 4), .ref (ad 9), .ref (ad 12), .ref (ad 23), .ref (ad 27), .ref (ad 1), .ref (ad 2), .int x_provedCount])), ((ad 1), .inl (cs 0, 126, .inl x_inHand))]) hD hS hA [0, 1] rfl
  refine va_callv (va_runV (As := []) (rest := []) ⟨hx, hb, hml, hown, hts⟩ (c_x_emptyHand l dC dI cs ad  H.size x_provedCount x_inHand _ hv) (cwV 0 hts (gd_V kw_248 kw_249 kw_4 kw_32 kw_250) rfl rfl rfl (by decide +kernel) ⟨Nat.le_of_ble_eq_true rfl, Nat.le_of_ble_eq_true rfl⟩) ⟨fun a U g mk q => by obtain ⟨q0, q1, qP, qK, qD⟩ := q; exact ⟨q0, q1, qP, qK.call, qD⟩, va_recv hK hPc (ci := 0) (q0 := 0) rfl rfl, fun U hU hW => ⟨rfl, by rw [hU], by rw [hU]; exact hPc, vwK.warm hW ⟨hK, hN⟩, hDc.weaken (fun _ _ _ _ => trivial)⟩⟩ rfl rfl hl.1 rfl (lv_room (Nat.le_of_ble_eq_true rfl)) d_x_beginAnew_9 ⟨Nat.zero_le _, Nat.zero_le _⟩) hS (fun q _ h => hFc q h) hFc (fun x_inHand_2 t H1 locs1 ht hvm hw hB hz1 hk1 hS => ?_)
  obtain ⟨hP1, hD1⟩ := hB
  rw [ht] at hP1
  obtain ⟨hP, hD⟩ := va_join (wr := [((ad 9), .inr (3, [.ref (ad 10), .ref (ad 11), .int 0])), ((ad 12), .inr (4, [.ref (ad 3), .ref (ad 4), .ref (ad 18), .ref (ad 13), .ref (ad 14), .ref (ad 15), .ref (ad 16), .ref (ad 17), .int sp_degree, .int sp_size, .int sp_count]))]) (w1 := [((ad 0), .inr (0, [.ref (ad 3), .ref (ad 4), .ref (ad 9), .ref (ad 12), .ref (ad 23), .ref (ad 27), .ref (ad 1), .ref (ad 2), .int x_provedCount])), ((ad 1), .inl (cs 0, 126, .inl x_inHand_2))]) hP hD [0, 1] [2, 3] rfl rfl (by decide) (by decide) hk1 hFc hP1 hD1
  generalize H1 = H at hP hS ⊢
  generalize locs1 = locs at hS ⊢
  have hP : va_P (dC, dI) vwCl [((ad 9), .inr (3, [.ref (ad 10), .ref (ad 11), .int 0])), ((ad 12), .inr (4, [.ref (ad 3), .ref (ad 4), .ref (ad 18), .ref (ad 13), .ref (ad 14), .ref (ad 15), .ref (ad 16), .ref (ad 17), .int sp_degree, .int sp_size, .int sp_count])), ((ad 0), .inr (0, [.ref (ad 3), .ref (ad 4), .ref (ad 9), .ref (ad 12), .ref (ad 23), .ref (ad 27), .ref (ad 1), .ref (ad 2), .int x_provedCount])), ((ad 1), .inl (cs 0, 126, .inl x_inHand_2))] H := hP
  have hD : va_D A [((ad 9), .inr (3, [.ref (ad 10), .ref (ad 11), .int 0])), ((ad 12), .inr (4, [.ref (ad 3), .ref (ad 4), .ref (ad 18), .ref (ad 13), .ref (ad 14), .ref (ad 15), .ref (ad 16), .ref (ad 17), .int sp_degree, .int sp_size, .int sp_count])), ((ad 0), .inr (0, [.ref (ad 3), .ref (ad 4), .ref (ad 9), .ref (ad 12), .ref (ad 23), .ref (ad 27), .ref (ad 1), .ref (ad 2), .int x_provedCount])), ((ad 1), .inl (cs 0, 126, .inl x_inHand_2))] := hD
  have hv := hw
  try dsimp only at hv
  refine lv_aload_n hx hb d_x_beginAnew_12 rfl (lv_at hl 0 rfl) ?_
  refine va_get (D := (dC, dI)) (ci := 0) (v := .ref (ad 12)) (C := R_x) (T := F_x) (N := 9) hx hb hts in_x hown hK hP 2 rfl rfl 3 (by decide) (hts _ kw_261) (fun _ h9 => h9) rfl d_x_beginAnew_13 ?_
  have hPc := hP.sub (ws' := [((ad 12), .inr (4, [.ref (ad 3), .ref (ad 4), .ref (ad 18), .ref (ad 13), .ref (ad 14), .ref (ad 15), .ref (ad 16), .ref (ad 17), .int sp_degree, .int sp_size, .int sp_count]))]) [1] rfl
  have hDc := hD.sub (ws' := [((ad 12), .inr (4, [.ref (ad 3), .ref (ad 4), .ref (ad 18), .ref (ad 13), .ref (ad 14), .ref (ad 15), .ref (ad 16), .ref (ad 17), .int sp_degree, .int sp_size, .int sp_count]))]) [1] (by decide) rfl
  have hFc := va_free (wc := [((ad 12), .inr (4, [.ref (ad 3), .ref (ad 4), .ref (ad 18), .ref (ad 13), .ref (ad 14), .ref (ad 15), .ref (ad 16), .ref (ad 17), .int sp_degree, .int sp_size, .int sp_count]))]) hD hS hA [1] rfl
  refine va_callv (va_runV (As := []) (rest := []) ⟨hx, hb, hml, hown, hts⟩ (c_sp_forget l dC dI cs ad  H.size sp_degree sp_size sp_count _ hv) (cwV 0 hts (gd_V kw_254 kw_255 kw_256 kw_36 kw_257) rfl rfl rfl (by decide +kernel) ⟨Nat.le_of_ble_eq_true rfl, Nat.le_of_ble_eq_true rfl⟩) ⟨fun a U g mk q => by obtain ⟨q0, q1, qP, qK, qD⟩ := q; exact ⟨q0, q1, qP, qK.call, qD⟩, va_recv hK hPc (ci := 4) (q0 := 0) rfl rfl, fun U hU hW => ⟨rfl, by rw [hU], by rw [hU]; exact hPc, vwK.warm hW ⟨hK, hN⟩, hDc.weaken (fun _ _ _ _ => trivial)⟩⟩ rfl rfl hl.1 rfl (lv_room (Nat.le_of_ble_eq_true rfl)) d_x_beginAnew_16 ⟨Nat.zero_le _, Nat.zero_le _⟩) hS (fun q _ h => hFc q h) hFc (fun u t H1 locs1 ht hvm hw hB hz1 hk1 hS => ?_)
  obtain ⟨sp_degree_3, sp_size_4, sp_count_5⟩ := u
  obtain ⟨hP1, hD1⟩ := hB
  rw [ht] at hP1
  obtain ⟨hP, hD⟩ := va_join (wr := [((ad 9), .inr (3, [.ref (ad 10), .ref (ad 11), .int 0])), ((ad 0), .inr (0, [.ref (ad 3), .ref (ad 4), .ref (ad 9), .ref (ad 12), .ref (ad 23), .ref (ad 27), .ref (ad 1), .ref (ad 2), .int x_provedCount])), ((ad 1), .inl (cs 0, 126, .inl x_inHand_2))]) (w1 := [((ad 12), .inr (4, [.ref (ad 3), .ref (ad 4), .ref (ad 18), .ref (ad 13), .ref (ad 14), .ref (ad 15), .ref (ad 16), .ref (ad 17), .int sp_degree_3, .int sp_size_4, .int sp_count_5]))]) hP hD [1] [0, 2, 3] rfl rfl (by decide) (by decide) hk1 hFc hP1 hD1
  generalize H1 = H at hP hS ⊢
  generalize locs1 = locs at hS ⊢
  have hP : va_P (dC, dI) vwCl [((ad 9), .inr (3, [.ref (ad 10), .ref (ad 11), .int 0])), ((ad 0), .inr (0, [.ref (ad 3), .ref (ad 4), .ref (ad 9), .ref (ad 12), .ref (ad 23), .ref (ad 27), .ref (ad 1), .ref (ad 2), .int x_provedCount])), ((ad 1), .inl (cs 0, 126, .inl x_inHand_2)), ((ad 12), .inr (4, [.ref (ad 3), .ref (ad 4), .ref (ad 18), .ref (ad 13), .ref (ad 14), .ref (ad 15), .ref (ad 16), .ref (ad 17), .int sp_degree_3, .int sp_size_4, .int sp_count_5]))] H := hP
  have hD : va_D A [((ad 9), .inr (3, [.ref (ad 10), .ref (ad 11), .int 0])), ((ad 0), .inr (0, [.ref (ad 3), .ref (ad 4), .ref (ad 9), .ref (ad 12), .ref (ad 23), .ref (ad 27), .ref (ad 1), .ref (ad 2), .int x_provedCount])), ((ad 1), .inl (cs 0, 126, .inl x_inHand_2)), ((ad 12), .inr (4, [.ref (ad 3), .ref (ad 4), .ref (ad 18), .ref (ad 13), .ref (ad 14), .ref (ad 15), .ref (ad 16), .ref (ad 17), .int sp_degree_3, .int sp_size_4, .int sp_count_5]))] := hD
  have hv := hw
  try dsimp only at hv
  have hP9 := hP.sub (ws' := [((ad 0), .inr (0, [.ref (ad 3), .ref (ad 4), .ref (ad 9), .ref (ad 12), .ref (ad 23), .ref (ad 27), .ref (ad 1), .ref (ad 2), .int x_provedCount])), ((ad 1), .inl (cs 0, 126, .inl x_inHand_2)), ((ad 9), .inr (3, [.ref (ad 10), .ref (ad 11), .int 0])), ((ad 12), .inr (4, [.ref (ad 3), .ref (ad 4), .ref (ad 18), .ref (ad 13), .ref (ad 14), .ref (ad 15), .ref (ad 16), .ref (ad 17), .int sp_degree_3, .int sp_size_4, .int sp_count_5]))]) [1, 2, 0, 3] rfl
  have hD9 := hD.sub (ws' := [((ad 0), .inr (0, [.ref (ad 3), .ref (ad 4), .ref (ad 9), .ref (ad 12), .ref (ad 23), .ref (ad 27), .ref (ad 1), .ref (ad 2), .int x_provedCount])), ((ad 1), .inl (cs 0, 126, .inl x_inHand_2)), ((ad 9), .inr (3, [.ref (ad 10), .ref (ad 11), .int 0])), ((ad 12), .inr (4, [.ref (ad 3), .ref (ad 4), .ref (ad 18), .ref (ad 13), .ref (ad 14), .ref (ad 15), .ref (ad 16), .ref (ad 17), .int sp_degree_3, .int sp_size_4, .int sp_count_5]))]) [1, 2, 0, 3] (by decide) rfl
  exact W.vret hx hb hr (fun t ht hW => ⟨⟨(x_inHand_2, 0, sp_degree_3, sp_size_4, sp_count_5), rfl, hv, by rw [ht]; exact hP9, hD9⟩, hS.F ht⟩) hS.2.2 d_x_beginAnew_19
abbrev b_x_beginField : ByteArray := prog_1_method_14_code
def y_x_beginField : MethodName := ⟨"SpaceBasis", "beginField", "(III)V"⟩
def w_x_beginField : List Cond := Cond.code y_x_beginField b_x_beginField 4 none :: vwWS
theorem d_x_beginField_0 : decode b_x_beginField 0 = .ok (.aload_n 0, 1) := by decide +kernel
theorem d_x_beginField_1 : decode b_x_beginField 1 = .ok (.getfield 12, 3) := by decide +kernel
theorem d_x_beginField_4 : decode b_x_beginField 4 = .ok (.iload_n 1, 1) := by decide +kernel
theorem d_x_beginField_5 : decode b_x_beginField 5 = .ok (.putfield 191, 3) := by decide +kernel
theorem d_x_beginField_8 : decode b_x_beginField 8 = .ok (.aload_n 0, 1) := by decide +kernel
theorem d_x_beginField_9 : decode b_x_beginField 9 = .ok (.getfield 19, 3) := by decide +kernel
theorem d_x_beginField_12 : decode b_x_beginField 12 = .ok (.iload_n 2, 1) := by decide +kernel
theorem d_x_beginField_13 : decode b_x_beginField 13 = .ok (.iload_n 3, 1) := by decide +kernel
theorem d_x_beginField_14 : decode b_x_beginField 14 = .ok (.invokevirtual 194, 3) := by decide +kernel
theorem d_x_beginField_17 : decode b_x_beginField 17 = .ok (.aload_n 0, 1) := by decide +kernel
theorem d_x_beginField_18 : decode b_x_beginField 18 = .ok (.invokevirtual 121, 3) := by decide +kernel
theorem d_x_beginField_21 : decode b_x_beginField 21 = .ok (.return_, 1) := by decide +kernel
/-- SpaceBasis.beginField(III)V -/
def vc_x_beginField (x_provedCount : Int32) (x_inHand : Nat → Int32) (mo_prime : Int32) (mn_variables : Int32) (mn_order : Int32) (mn_highest : Int32) (mn_count : Int32) (mn_codes : Nat → Int32) (mn_degrees : Nat → Int32) (mn_firstOfDegree : Nat → Int32) (mn_products : Nat → Int32) (ge_count : Int32) (sp_degree : Int32) (sp_size : Int32) (sp_count : Int32) (p0 : Int32) (p1 : Int32) (p2 : Int32) (Q : (Nat → Int32) → Int32 → Int32 → Int32 → Int32 → Int32 → (Nat → Int32) → (Nat → Int32) → (Nat → Int32) → (Nat → Int32) → Int32 → Int32 → Int32 → Int32 → Prop) : Prop :=
  vc_mn_list mn_variables mn_order mn_highest mn_count mn_codes mn_degrees mn_firstOfDegree mn_products p1 p2 (fun (mn_variables_2 : Int32) (mn_order_3 : Int32) (mn_highest_4 : Int32) (mn_count_5 : Int32) (mn_codes_6 : Nat → Int32) (mn_degrees_7 : Nat → Int32) (mn_firstOfDegree_8 : Nat → Int32) (mn_products_9 : Nat → Int32) => vc_x_beginAnew x_provedCount x_inHand ge_count sp_degree sp_size sp_count (fun (x_inHand_10 : Nat → Int32) (ge_count_11 : Int32) (sp_degree_12 : Int32) (sp_size_13 : Int32) (sp_count_14 : Int32) => Q x_inHand_10 p0 mn_variables_2 mn_order_3 mn_highest_4 mn_count_5 mn_codes_6 mn_degrees_7 mn_firstOfDegree_8 mn_products_9 ge_count_11 sp_degree_12 sp_size_13 sp_count_14))
abbrev at_x_beginField (dC : Nat → ClassId) (dI : Nat → Nat → Nat) (cs : Nat → ClassId) (A : Nat → Prop) (ad : Nat → Nat) (x_provedCount : Int32) (u : (Nat → Int32) × Int32 × Int32 × Int32 × Int32 × Int32 × (Nat → Int32) × (Nat → Int32) × (Nat → Int32) × (Nat → Int32) × Int32 × Int32 × Int32 × Int32) (t : State) : Prop := match u with
  | (x_inHand, mo_prime, mn_variables, mn_order, mn_highest, mn_count, mn_codes, mn_degrees, mn_firstOfDegree, mn_products, ge_count, sp_degree, sp_size, sp_count) => va_P (dC, dI) vwCl [((ad 0), .inr (0, [.ref (ad 3), .ref (ad 4), .ref (ad 9), .ref (ad 12), .ref (ad 23), .ref (ad 27), .ref (ad 1), .ref (ad 2), .int x_provedCount])), ((ad 1), .inl (cs 0, 126, .inl x_inHand)), ((ad 3), .inr (1, [.int mo_prime])), ((ad 4), .inr (2, [.ref (ad 5), .ref (ad 6), .ref (ad 7), .ref (ad 8), .int mn_variables, .int mn_order, .int mn_highest, .int mn_count])), ((ad 5), .inl (cs 0, 126, .inl mn_codes)), ((ad 6), .inl (cs 0, 126, .inl mn_degrees)), ((ad 7), .inl (cs 0, 32, .inl mn_firstOfDegree)), ((ad 8), .inl (cs 0, 504, .inl mn_products)), ((ad 9), .inr (3, [.ref (ad 10), .ref (ad 11), .int ge_count])), ((ad 12), .inr (4, [.ref (ad 3), .ref (ad 4), .ref (ad 18), .ref (ad 13), .ref (ad 14), .ref (ad 15), .ref (ad 16), .ref (ad 17), .int sp_degree, .int sp_size, .int sp_count]))] t.heap ∧ va_D A [((ad 0), .inr (0, [.ref (ad 3), .ref (ad 4), .ref (ad 9), .ref (ad 12), .ref (ad 23), .ref (ad 27), .ref (ad 1), .ref (ad 2), .int x_provedCount])), ((ad 1), .inl (cs 0, 126, .inl x_inHand)), ((ad 3), .inr (1, [.int mo_prime])), ((ad 4), .inr (2, [.ref (ad 5), .ref (ad 6), .ref (ad 7), .ref (ad 8), .int mn_variables, .int mn_order, .int mn_highest, .int mn_count])), ((ad 5), .inl (cs 0, 126, .inl mn_codes)), ((ad 6), .inl (cs 0, 126, .inl mn_degrees)), ((ad 7), .inl (cs 0, 32, .inl mn_firstOfDegree)), ((ad 8), .inl (cs 0, 504, .inl mn_products)), ((ad 9), .inr (3, [.ref (ad 10), .ref (ad 11), .int ge_count])), ((ad 12), .inr (4, [.ref (ad 3), .ref (ad 4), .ref (ad 18), .ref (ad 13), .ref (ad 14), .ref (ad 15), .ref (ad 16), .ref (ad 17), .int sp_degree, .int sp_size, .int sp_count]))]
set_option maxHeartbeats 4000000 in
set_option maxRecDepth 100000 in
theorem c_x_beginField (l : Launch) (dC : Nat → ClassId) (dI : Nat → Nat → Nat) (cs : Nat → ClassId) (ad : Nat → Nat)  (sz : Nat) (x_provedCount : Int32) (x_inHand : Nat → Int32) (mo_prime : Int32) (mn_variables : Int32) (mn_order : Int32) (mn_highest : Int32) (mn_count : Int32) (mn_codes : Nat → Int32) (mn_degrees : Nat → Int32) (mn_firstOfDegree : Nat → Int32) (mn_products : Nat → Int32) (ge_count : Int32) (sp_degree : Int32) (sp_size : Int32) (sp_count : Int32) (p0 : Int32) (p1 : Int32) (p2 : Int32) (Q : (Nat → Int32) → Int32 → Int32 → Int32 → Int32 → Int32 → (Nat → Int32) → (Nat → Int32) → (Nat → Int32) → (Nat → Int32) → Int32 → Int32 → Int32 → Int32 → Prop) (hv : vc_x_beginField x_provedCount x_inHand mo_prime mn_variables mn_order mn_highest mn_count mn_codes mn_degrees mn_firstOfDegree mn_products ge_count sp_degree sp_size sp_count p0 p1 p2 Q) : Met l y_x_beginField w_x_beginField ({ frames := 7, cells := 0, slots := 0, locals := 181 }) (va_Pc [.ref (ad 0), .int p0, .int p1, .int p2] (fun U => U.heap.size = sz ∧ va_P (dC, dI) vwCl [((ad 0), .inr (0, [.ref (ad 3), .ref (ad 4), .ref (ad 9), .ref (ad 12), .ref (ad 23), .ref (ad 27), .ref (ad 1), .ref (ad 2), .int x_provedCount])), ((ad 1), .inl (cs 0, 126, .inl x_inHand)), ((ad 3), .inr (1, [.int mo_prime])), ((ad 4), .inr (2, [.ref (ad 5), .ref (ad 6), .ref (ad 7), .ref (ad 8), .int mn_variables, .int mn_order, .int mn_highest, .int mn_count])), ((ad 5), .inl (cs 0, 126, .inl mn_codes)), ((ad 6), .inl (cs 0, 126, .inl mn_degrees)), ((ad 7), .inl (cs 0, 32, .inl mn_firstOfDegree)), ((ad 8), .inl (cs 0, 504, .inl mn_products)), ((ad 9), .inr (3, [.ref (ad 10), .ref (ad 11), .int ge_count])), ((ad 12), .inr (4, [.ref (ad 3), .ref (ad 4), .ref (ad 18), .ref (ad 13), .ref (ad 14), .ref (ad 15), .ref (ad 16), .ref (ad 17), .int sp_degree, .int sp_size, .int sp_count]))] U.heap ∧ vwK dC dI cs U ∧ va_D (fun _ => True) [((ad 0), .inr (0, [.ref (ad 3), .ref (ad 4), .ref (ad 9), .ref (ad 12), .ref (ad 23), .ref (ad 27), .ref (ad 1), .ref (ad 2), .int x_provedCount])), ((ad 1), .inl (cs 0, 126, .inl x_inHand)), ((ad 3), .inr (1, [.int mo_prime])), ((ad 4), .inr (2, [.ref (ad 5), .ref (ad 6), .ref (ad 7), .ref (ad 8), .int mn_variables, .int mn_order, .int mn_highest, .int mn_count])), ((ad 5), .inl (cs 0, 126, .inl mn_codes)), ((ad 6), .inl (cs 0, 126, .inl mn_degrees)), ((ad 7), .inl (cs 0, 32, .inl mn_firstOfDegree)), ((ad 8), .inl (cs 0, 504, .inl mn_products)), ((ad 9), .inr (3, [.ref (ad 10), .ref (ad 11), .int ge_count])), ((ad 12), .inr (4, [.ref (ad 3), .ref (ad 4), .ref (ad 18), .ref (ad 13), .ref (ad 14), .ref (ad 15), .ref (ad 16), .ref (ad 17), .int sp_degree, .int sp_size, .int sp_count]))] ∧ vwE (va_A [((ad 0), .inr (0, [.ref (ad 3), .ref (ad 4), .ref (ad 9), .ref (ad 12), .ref (ad 23), .ref (ad 27), .ref (ad 1), .ref (ad 2), .int x_provedCount])), ((ad 1), .inl (cs 0, 126, .inl x_inHand)), ((ad 3), .inr (1, [.int mo_prime])), ((ad 4), .inr (2, [.ref (ad 5), .ref (ad 6), .ref (ad 7), .ref (ad 8), .int mn_variables, .int mn_order, .int mn_highest, .int mn_count])), ((ad 5), .inl (cs 0, 126, .inl mn_codes)), ((ad 6), .inl (cs 0, 126, .inl mn_degrees)), ((ad 7), .inl (cs 0, 32, .inl mn_firstOfDegree)), ((ad 8), .inl (cs 0, 504, .inl mn_products)), ((ad 9), .inr (3, [.ref (ad 10), .ref (ad 11), .int ge_count])), ((ad 12), .inr (4, [.ref (ad 3), .ref (ad 4), .ref (ad 18), .ref (ad 13), .ref (ad 14), .ref (ad 15), .ref (ad 16), .ref (ad 17), .int sp_degree, .int sp_size, .int sp_count]))] sz) U U.heap)) (va_Qv (fun (u : (Nat → Int32) × Int32 × Int32 × Int32 × Int32 × Int32 × (Nat → Int32) × (Nat → Int32) × (Nat → Int32) × (Nat → Int32) × Int32 × Int32 × Int32 × Int32) => Q u.1 u.2.1 u.2.2.1 u.2.2.2.1 u.2.2.2.2.1 u.2.2.2.2.2.1 u.2.2.2.2.2.2.1 u.2.2.2.2.2.2.2.1 u.2.2.2.2.2.2.2.2.1 u.2.2.2.2.2.2.2.2.2.1 u.2.2.2.2.2.2.2.2.2.2.1 u.2.2.2.2.2.2.2.2.2.2.2.1 u.2.2.2.2.2.2.2.2.2.2.2.2.1 u.2.2.2.2.2.2.2.2.2.2.2.2.2) (at_x_beginField dC dI cs (va_A [((ad 0), .inr (0, [.ref (ad 3), .ref (ad 4), .ref (ad 9), .ref (ad 12), .ref (ad 23), .ref (ad 27), .ref (ad 1), .ref (ad 2), .int x_provedCount])), ((ad 1), .inl (cs 0, 126, .inl x_inHand)), ((ad 3), .inr (1, [.int mo_prime])), ((ad 4), .inr (2, [.ref (ad 5), .ref (ad 6), .ref (ad 7), .ref (ad 8), .int mn_variables, .int mn_order, .int mn_highest, .int mn_count])), ((ad 5), .inl (cs 0, 126, .inl mn_codes)), ((ad 6), .inl (cs 0, 126, .inl mn_degrees)), ((ad 7), .inl (cs 0, 32, .inl mn_firstOfDegree)), ((ad 8), .inl (cs 0, 504, .inl mn_products)), ((ad 9), .inr (3, [.ref (ad 10), .ref (ad 11), .int ge_count])), ((ad 12), .inr (4, [.ref (ad 3), .ref (ad 4), .ref (ad 18), .ref (ad 13), .ref (ad 14), .ref (ad 15), .ref (ad 16), .ref (ad 17), .int sp_degree, .int sp_size, .int sp_count]))] sz) ad x_provedCount) (va_A [((ad 0), .inr (0, [.ref (ad 3), .ref (ad 4), .ref (ad 9), .ref (ad 12), .ref (ad 23), .ref (ad 27), .ref (ad 1), .ref (ad 2), .int x_provedCount])), ((ad 1), .inl (cs 0, 126, .inl x_inHand)), ((ad 3), .inr (1, [.int mo_prime])), ((ad 4), .inr (2, [.ref (ad 5), .ref (ad 6), .ref (ad 7), .ref (ad 8), .int mn_variables, .int mn_order, .int mn_highest, .int mn_count])), ((ad 5), .inl (cs 0, 126, .inl mn_codes)), ((ad 6), .inl (cs 0, 126, .inl mn_degrees)), ((ad 7), .inl (cs 0, 32, .inl mn_firstOfDegree)), ((ad 8), .inl (cs 0, 504, .inl mn_products)), ((ad 9), .inr (3, [.ref (ad 10), .ref (ad 11), .int ge_count])), ((ad 12), .inr (4, [.ref (ad 3), .ref (ad 4), .ref (ad 18), .ref (ad 13), .ref (ad 14), .ref (ad 15), .ref (ad 16), .ref (ad 17), .int sp_degree, .int sp_size, .int sp_count]))] sz)) 0 0 (va_A [((ad 0), .inr (0, [.ref (ad 3), .ref (ad 4), .ref (ad 9), .ref (ad 12), .ref (ad 23), .ref (ad 27), .ref (ad 1), .ref (ad 2), .int x_provedCount])), ((ad 1), .inl (cs 0, 126, .inl x_inHand)), ((ad 3), .inr (1, [.int mo_prime])), ((ad 4), .inr (2, [.ref (ad 5), .ref (ad 6), .ref (ad 7), .ref (ad 8), .int mn_variables, .int mn_order, .int mn_highest, .int mn_count])), ((ad 5), .inl (cs 0, 126, .inl mn_codes)), ((ad 6), .inl (cs 0, 126, .inl mn_degrees)), ((ad 7), .inl (cs 0, 32, .inl mn_firstOfDegree)), ((ad 8), .inl (cs 0, 504, .inl mn_products)), ((ad 9), .inr (3, [.ref (ad 10), .ref (ad 11), .int ge_count])), ((ad 12), .inr (4, [.ref (ad 3), .ref (ad 4), .ref (ad 18), .ref (ad 13), .ref (ad 14), .ref (ad 15), .ref (ad 16), .ref (ad 17), .int sp_degree, .int sp_size, .int sp_count]))] sz) := by
  unfold vc_x_beginField at hv
  refine Met.ofW (cc := b_x_beginField) (maxL := 4) (ret := none) (by decide) rfl ?_
  intro p e s m args below meth c s₁ B hml hpc
  obtain ⟨rfl, hsz, hP, ⟨hK, hN⟩, hD0, hE⟩ := hpc
  have hx := B.exec
  have hb := B.bytes
  have hr := B.returns
  have hts : ∀ w ∈ vwWS, w.before _ s = true := fun w h => atoms_spec (ws := w_x_beginField) B.pre w (List.mem_cons_of_mem _ h)
  have hown : s.vm.findClass "SpaceBasis" = some m.cls := findClass_of_methodNamed B.named
  have hlocks := B.notSynchronized
  subst hsz
  have hD := hD0.self (sz := s.heap.size)
  generalize hAe : va_A [((ad 0), .inr (0, [.ref (ad 3), .ref (ad 4), .ref (ad 9), .ref (ad 12), .ref (ad 23), .ref (ad 27), .ref (ad 1), .ref (ad 2), .int x_provedCount])), ((ad 1), .inl (cs 0, 126, .inl x_inHand)), ((ad 3), .inr (1, [.int mo_prime])), ((ad 4), .inr (2, [.ref (ad 5), .ref (ad 6), .ref (ad 7), .ref (ad 8), .int mn_variables, .int mn_order, .int mn_highest, .int mn_count])), ((ad 5), .inl (cs 0, 126, .inl mn_codes)), ((ad 6), .inl (cs 0, 126, .inl mn_degrees)), ((ad 7), .inl (cs 0, 32, .inl mn_firstOfDegree)), ((ad 8), .inl (cs 0, 504, .inl mn_products)), ((ad 9), .inr (3, [.ref (ad 10), .ref (ad 11), .int ge_count])), ((ad 12), .inr (4, [.ref (ad 3), .ref (ad 4), .ref (ad 18), .ref (ad 13), .ref (ad 14), .ref (ad 15), .ref (ad 16), .ref (ad 17), .int sp_degree, .int sp_size, .int sp_count]))] s.heap.size = A at hD hE ⊢
  have hA : ∀ q : Nat, s.heap.size ≤ q → A q := fun q h => by rw [← hAe]; exact Or.inr h
  have hS : va_S A s.heap s.heap [] := va_S.rf
  have hl := lv_entry ([.ref (ad 0), .int p0, .int p1, .int p2]) (n := 4) (Nat.le_of_ble_eq_true rfl)
  rw [lg_entry_eq]
  generalize (lg_sl ([.ref (ad 0), .int p0, .int p1, .int p2]) ++ List.replicate (4 - (lg_sl ([.ref (ad 0), .int p0, .int p1, .int p2])).length) Slot.unset).toArray = ls at hl ⊢
  have hl : lv_has ls 4 [(0, .ref (ad 0)), (1, .int p0), (2, .int p1), (3, .int p2)] := hl
  refine lv_aload_n hx hb d_x_beginField_0 rfl (lv_at hl 0 rfl) ?_
  refine va_get (D := (dC, dI)) (ci := 0) (v := .ref (ad 3)) (C := R_x) (T := F_x) (N := 9) hx hb hts in_x hown hK hP 0 rfl rfl 0 (by decide) (hts _ kw_258) (fun _ h9 => h9) rfl d_x_beginField_1 ?_
  refine lv_iload_n hx hb d_x_beginField_4 rfl (lv_at hl 1 rfl) ?_
  refine va_putN (D := (dC, dI)) (ci := 1) (v := .int p0) (ty := .int) (C := R_mo) (T := F_mo) (N := 1) hx hb hts in_mo t_mo t_mo_ok n_mo hown hK hP hD hS 2 rfl rfl 0 (by decide) (va_Nw.use rfl (hN _ kn_2)) (fun _ h9 => h9) rfl (by decide +kernel) rfl rfl (Nat.le_of_ble_eq_true rfl) d_x_beginField_5 (fun H locs hP hD hS => ?_)
  have hP : va_P (dC, dI) vwCl [((ad 0), .inr (0, [.ref (ad 3), .ref (ad 4), .ref (ad 9), .ref (ad 12), .ref (ad 23), .ref (ad 27), .ref (ad 1), .ref (ad 2), .int x_provedCount])), ((ad 1), .inl (cs 0, 126, .inl x_inHand)), ((ad 3), .inr (1, [.int p0])), ((ad 4), .inr (2, [.ref (ad 5), .ref (ad 6), .ref (ad 7), .ref (ad 8), .int mn_variables, .int mn_order, .int mn_highest, .int mn_count])), ((ad 5), .inl (cs 0, 126, .inl mn_codes)), ((ad 6), .inl (cs 0, 126, .inl mn_degrees)), ((ad 7), .inl (cs 0, 32, .inl mn_firstOfDegree)), ((ad 8), .inl (cs 0, 504, .inl mn_products)), ((ad 9), .inr (3, [.ref (ad 10), .ref (ad 11), .int ge_count])), ((ad 12), .inr (4, [.ref (ad 3), .ref (ad 4), .ref (ad 18), .ref (ad 13), .ref (ad 14), .ref (ad 15), .ref (ad 16), .ref (ad 17), .int sp_degree, .int sp_size, .int sp_count]))] H := hP
  have hD : va_D A [((ad 0), .inr (0, [.ref (ad 3), .ref (ad 4), .ref (ad 9), .ref (ad 12), .ref (ad 23), .ref (ad 27), .ref (ad 1), .ref (ad 2), .int x_provedCount])), ((ad 1), .inl (cs 0, 126, .inl x_inHand)), ((ad 3), .inr (1, [.int p0])), ((ad 4), .inr (2, [.ref (ad 5), .ref (ad 6), .ref (ad 7), .ref (ad 8), .int mn_variables, .int mn_order, .int mn_highest, .int mn_count])), ((ad 5), .inl (cs 0, 126, .inl mn_codes)), ((ad 6), .inl (cs 0, 126, .inl mn_degrees)), ((ad 7), .inl (cs 0, 32, .inl mn_firstOfDegree)), ((ad 8), .inl (cs 0, 504, .inl mn_products)), ((ad 9), .inr (3, [.ref (ad 10), .ref (ad 11), .int ge_count])), ((ad 12), .inr (4, [.ref (ad 3), .ref (ad 4), .ref (ad 18), .ref (ad 13), .ref (ad 14), .ref (ad 15), .ref (ad 16), .ref (ad 17), .int sp_degree, .int sp_size, .int sp_count]))] := hD
  refine lv_aload_n hx hb d_x_beginField_8 rfl (lv_at hl 0 rfl) ?_
  refine va_get (D := (dC, dI)) (ci := 0) (v := .ref (ad 4)) (C := R_x) (T := F_x) (N := 9) hx hb hts in_x hown hK hP 0 rfl rfl 1 (by decide) (hts _ kw_259) (fun _ h9 => h9) rfl d_x_beginField_9 ?_
  refine lv_iload_n hx hb d_x_beginField_12 rfl (lv_at hl 2 rfl) ?_
  refine lv_iload_n hx hb d_x_beginField_13 rfl (lv_at hl 3 rfl) ?_
  have hPc := hP.sub (ws' := [((ad 4), .inr (2, [.ref (ad 5), .ref (ad 6), .ref (ad 7), .ref (ad 8), .int mn_variables, .int mn_order, .int mn_highest, .int mn_count])), ((ad 5), .inl (cs 0, 126, .inl mn_codes)), ((ad 6), .inl (cs 0, 126, .inl mn_degrees)), ((ad 7), .inl (cs 0, 32, .inl mn_firstOfDegree)), ((ad 8), .inl (cs 0, 504, .inl mn_products))]) [3, 4, 5, 6, 7] rfl
  have hDc := hD.sub (ws' := [((ad 4), .inr (2, [.ref (ad 5), .ref (ad 6), .ref (ad 7), .ref (ad 8), .int mn_variables, .int mn_order, .int mn_highest, .int mn_count])), ((ad 5), .inl (cs 0, 126, .inl mn_codes)), ((ad 6), .inl (cs 0, 126, .inl mn_degrees)), ((ad 7), .inl (cs 0, 32, .inl mn_firstOfDegree)), ((ad 8), .inl (cs 0, 504, .inl mn_products))]) [3, 4, 5, 6, 7] (by decide) rfl
  have hFc := va_free (wc := [((ad 4), .inr (2, [.ref (ad 5), .ref (ad 6), .ref (ad 7), .ref (ad 8), .int mn_variables, .int mn_order, .int mn_highest, .int mn_count])), ((ad 5), .inl (cs 0, 126, .inl mn_codes)), ((ad 6), .inl (cs 0, 126, .inl mn_degrees)), ((ad 7), .inl (cs 0, 32, .inl mn_firstOfDegree)), ((ad 8), .inl (cs 0, 504, .inl mn_products))]) hD hS hA [3, 4, 5, 6, 7] rfl
  refine va_callv (va_runV (As := [.int p1, .int p2]) (rest := []) ⟨hx, hb, hml, hown, hts⟩ (c_mn_list l dC dI cs ad  H.size mn_variables mn_order mn_highest mn_count mn_codes mn_degrees mn_firstOfDegree mn_products p1 p2 _ hv) (cwV 2 hts (gd_V kw_225 kw_226 kw_227 kw_34 kw_228) rfl rfl rfl (by decide +kernel) ⟨Nat.le_of_ble_eq_true rfl, Nat.le_of_ble_eq_true rfl⟩) ⟨fun a U g mk q => by obtain ⟨q0, q1, qP, qK, qD, qE⟩ := q; exact ⟨q0, q1, qP, qK.call, qD, qE.call⟩, va_recv hK hPc (ci := 2) (q0 := 0) rfl rfl, fun U hU hW => ⟨rfl, by rw [hU], by rw [hU]; exact hPc, vwK.warm hW ⟨hK, hN⟩, hDc.weaken (fun _ _ _ _ => trivial), vwE.give hE hS hFc hW hU⟩⟩ rfl rfl hl.1 rfl (lv_room (Nat.le_of_ble_eq_true rfl)) d_x_beginField_14 ⟨Nat.zero_le _, Nat.zero_le _⟩) hS (fun q _ h => hFc q h) hFc (fun u t H1 locs1 ht hvm hw hB hz1 hk1 hS => ?_)
  obtain ⟨mn_variables_2, mn_order_3, mn_highest_4, mn_count_5, mn_codes_6, mn_degrees_7, mn_firstOfDegree_8, mn_products_9⟩ := u
  obtain ⟨hP1, hD1⟩ := hB
  rw [ht] at hP1
  obtain ⟨hP, hD⟩ := va_join (wr := [((ad 0), .inr (0, [.ref (ad 3), .ref (ad 4), .ref (ad 9), .ref (ad 12), .ref (ad 23), .ref (ad 27), .ref (ad 1), .ref (ad 2), .int x_provedCount])), ((ad 1), .inl (cs 0, 126, .inl x_inHand)), ((ad 3), .inr (1, [.int p0])), ((ad 9), .inr (3, [.ref (ad 10), .ref (ad 11), .int ge_count])), ((ad 12), .inr (4, [.ref (ad 3), .ref (ad 4), .ref (ad 18), .ref (ad 13), .ref (ad 14), .ref (ad 15), .ref (ad 16), .ref (ad 17), .int sp_degree, .int sp_size, .int sp_count]))]) (w1 := [((ad 4), .inr (2, [.ref (ad 5), .ref (ad 6), .ref (ad 7), .ref (ad 8), .int mn_variables_2, .int mn_order_3, .int mn_highest_4, .int mn_count_5])), ((ad 5), .inl (cs 0, 126, .inl mn_codes_6)), ((ad 6), .inl (cs 0, 126, .inl mn_degrees_7)), ((ad 7), .inl (cs 0, 32, .inl mn_firstOfDegree_8)), ((ad 8), .inl (cs 0, 504, .inl mn_products_9))]) hP hD [3, 4, 5, 6, 7] [0, 1, 2, 8, 9] rfl rfl (by decide) (by decide) hk1 hFc hP1 hD1
  generalize H1 = H at hP hS ⊢
  generalize locs1 = locs at hS ⊢
  have hP : va_P (dC, dI) vwCl [((ad 0), .inr (0, [.ref (ad 3), .ref (ad 4), .ref (ad 9), .ref (ad 12), .ref (ad 23), .ref (ad 27), .ref (ad 1), .ref (ad 2), .int x_provedCount])), ((ad 1), .inl (cs 0, 126, .inl x_inHand)), ((ad 3), .inr (1, [.int p0])), ((ad 9), .inr (3, [.ref (ad 10), .ref (ad 11), .int ge_count])), ((ad 12), .inr (4, [.ref (ad 3), .ref (ad 4), .ref (ad 18), .ref (ad 13), .ref (ad 14), .ref (ad 15), .ref (ad 16), .ref (ad 17), .int sp_degree, .int sp_size, .int sp_count])), ((ad 4), .inr (2, [.ref (ad 5), .ref (ad 6), .ref (ad 7), .ref (ad 8), .int mn_variables_2, .int mn_order_3, .int mn_highest_4, .int mn_count_5])), ((ad 5), .inl (cs 0, 126, .inl mn_codes_6)), ((ad 6), .inl (cs 0, 126, .inl mn_degrees_7)), ((ad 7), .inl (cs 0, 32, .inl mn_firstOfDegree_8)), ((ad 8), .inl (cs 0, 504, .inl mn_products_9))] H := hP
  have hD : va_D A [((ad 0), .inr (0, [.ref (ad 3), .ref (ad 4), .ref (ad 9), .ref (ad 12), .ref (ad 23), .ref (ad 27), .ref (ad 1), .ref (ad 2), .int x_provedCount])), ((ad 1), .inl (cs 0, 126, .inl x_inHand)), ((ad 3), .inr (1, [.int p0])), ((ad 9), .inr (3, [.ref (ad 10), .ref (ad 11), .int ge_count])), ((ad 12), .inr (4, [.ref (ad 3), .ref (ad 4), .ref (ad 18), .ref (ad 13), .ref (ad 14), .ref (ad 15), .ref (ad 16), .ref (ad 17), .int sp_degree, .int sp_size, .int sp_count])), ((ad 4), .inr (2, [.ref (ad 5), .ref (ad 6), .ref (ad 7), .ref (ad 8), .int mn_variables_2, .int mn_order_3, .int mn_highest_4, .int mn_count_5])), ((ad 5), .inl (cs 0, 126, .inl mn_codes_6)), ((ad 6), .inl (cs 0, 126, .inl mn_degrees_7)), ((ad 7), .inl (cs 0, 32, .inl mn_firstOfDegree_8)), ((ad 8), .inl (cs 0, 504, .inl mn_products_9))] := hD
  have hv := hw
  try dsimp only at hv
  refine lv_aload_n hx hb d_x_beginField_17 rfl (lv_at hl 0 rfl) ?_
  have hPc := hP.sub (ws' := [((ad 0), .inr (0, [.ref (ad 3), .ref (ad 4), .ref (ad 9), .ref (ad 12), .ref (ad 23), .ref (ad 27), .ref (ad 1), .ref (ad 2), .int x_provedCount])), ((ad 1), .inl (cs 0, 126, .inl x_inHand)), ((ad 9), .inr (3, [.ref (ad 10), .ref (ad 11), .int ge_count])), ((ad 12), .inr (4, [.ref (ad 3), .ref (ad 4), .ref (ad 18), .ref (ad 13), .ref (ad 14), .ref (ad 15), .ref (ad 16), .ref (ad 17), .int sp_degree, .int sp_size, .int sp_count]))]) [0, 1, 3, 4] rfl
  have hDc := hD.sub (ws' := [((ad 0), .inr (0, [.ref (ad 3), .ref (ad 4), .ref (ad 9), .ref (ad 12), .ref (ad 23), .ref (ad 27), .ref (ad 1), .ref (ad 2), .int x_provedCount])), ((ad 1), .inl (cs 0, 126, .inl x_inHand)), ((ad 9), .inr (3, [.ref (ad 10), .ref (ad 11), .int ge_count])), ((ad 12), .inr (4, [.ref (ad 3), .ref (ad 4), .ref (ad 18), .ref (ad 13), .ref (ad 14), .ref (ad 15), .ref (ad 16), .ref (ad 17), .int sp_degree, .int sp_size, .int sp_count]))]) [0, 1, 3, 4] (by decide) rfl
  have hFc := va_free (wc := [((ad 0), .inr (0, [.ref (ad 3), .ref (ad 4), .ref (ad 9), .ref (ad 12), .ref (ad 23), .ref (ad 27), .ref (ad 1), .ref (ad 2), .int x_provedCount])), ((ad 1), .inl (cs 0, 126, .inl x_inHand)), ((ad 9), .inr (3, [.ref (ad 10), .ref (ad 11), .int ge_count])), ((ad 12), .inr (4, [.ref (ad 3), .ref (ad 4), .ref (ad 18), .ref (ad 13), .ref (ad 14), .ref (ad 15), .ref (ad 16), .ref (ad 17), .int sp_degree, .int sp_size, .int sp_count]))]) hD hS hA [0, 1, 3, 4] rfl
  refine va_callv (va_runV (As := []) (rest := []) ⟨hx, hb, hml, hown, hts⟩ (c_x_beginAnew l dC dI cs ad  H.size x_provedCount x_inHand ge_count sp_degree sp_size sp_count _ hv) (cwV 0 hts (gd_V kw_245 kw_246 kw_3 kw_32 kw_247) rfl rfl rfl (by decide +kernel) ⟨Nat.le_of_ble_eq_true rfl, Nat.le_of_ble_eq_true rfl⟩) ⟨fun a U g mk q => by obtain ⟨q0, q1, qP, qK, qD⟩ := q; exact ⟨q0, q1, qP, qK.call, qD⟩, va_recv hK hPc (ci := 0) (q0 := 0) rfl rfl, fun U hU hW => ⟨rfl, by rw [hU], by rw [hU]; exact hPc, vwK.warm hW ⟨hK, hN⟩, hDc.weaken (fun _ _ _ _ => trivial)⟩⟩ rfl rfl hl.1 rfl (lv_room (Nat.le_of_ble_eq_true rfl)) d_x_beginField_18 ⟨Nat.zero_le _, Nat.zero_le _⟩) hS (fun q _ h => hFc q h) hFc (fun u t H1 locs1 ht hvm hw hB hz1 hk1 hS => ?_)
  obtain ⟨x_inHand_10, ge_count_11, sp_degree_12, sp_size_13, sp_count_14⟩ := u
  obtain ⟨hP1, hD1⟩ := hB
  rw [ht] at hP1
  obtain ⟨hP, hD⟩ := va_join (wr := [((ad 3), .inr (1, [.int p0])), ((ad 4), .inr (2, [.ref (ad 5), .ref (ad 6), .ref (ad 7), .ref (ad 8), .int mn_variables_2, .int mn_order_3, .int mn_highest_4, .int mn_count_5])), ((ad 5), .inl (cs 0, 126, .inl mn_codes_6)), ((ad 6), .inl (cs 0, 126, .inl mn_degrees_7)), ((ad 7), .inl (cs 0, 32, .inl mn_firstOfDegree_8)), ((ad 8), .inl (cs 0, 504, .inl mn_products_9))]) (w1 := [((ad 0), .inr (0, [.ref (ad 3), .ref (ad 4), .ref (ad 9), .ref (ad 12), .ref (ad 23), .ref (ad 27), .ref (ad 1), .ref (ad 2), .int x_provedCount])), ((ad 1), .inl (cs 0, 126, .inl x_inHand_10)), ((ad 9), .inr (3, [.ref (ad 10), .ref (ad 11), .int ge_count_11])), ((ad 12), .inr (4, [.ref (ad 3), .ref (ad 4), .ref (ad 18), .ref (ad 13), .ref (ad 14), .ref (ad 15), .ref (ad 16), .ref (ad 17), .int sp_degree_12, .int sp_size_13, .int sp_count_14]))]) hP hD [0, 1, 3, 4] [2, 5, 6, 7, 8, 9] rfl rfl (by decide) (by decide) hk1 hFc hP1 hD1
  generalize H1 = H at hP hS ⊢
  generalize locs1 = locs at hS ⊢
  have hP : va_P (dC, dI) vwCl [((ad 3), .inr (1, [.int p0])), ((ad 4), .inr (2, [.ref (ad 5), .ref (ad 6), .ref (ad 7), .ref (ad 8), .int mn_variables_2, .int mn_order_3, .int mn_highest_4, .int mn_count_5])), ((ad 5), .inl (cs 0, 126, .inl mn_codes_6)), ((ad 6), .inl (cs 0, 126, .inl mn_degrees_7)), ((ad 7), .inl (cs 0, 32, .inl mn_firstOfDegree_8)), ((ad 8), .inl (cs 0, 504, .inl mn_products_9)), ((ad 0), .inr (0, [.ref (ad 3), .ref (ad 4), .ref (ad 9), .ref (ad 12), .ref (ad 23), .ref (ad 27), .ref (ad 1), .ref (ad 2), .int x_provedCount])), ((ad 1), .inl (cs 0, 126, .inl x_inHand_10)), ((ad 9), .inr (3, [.ref (ad 10), .ref (ad 11), .int ge_count_11])), ((ad 12), .inr (4, [.ref (ad 3), .ref (ad 4), .ref (ad 18), .ref (ad 13), .ref (ad 14), .ref (ad 15), .ref (ad 16), .ref (ad 17), .int sp_degree_12, .int sp_size_13, .int sp_count_14]))] H := hP
  have hD : va_D A [((ad 3), .inr (1, [.int p0])), ((ad 4), .inr (2, [.ref (ad 5), .ref (ad 6), .ref (ad 7), .ref (ad 8), .int mn_variables_2, .int mn_order_3, .int mn_highest_4, .int mn_count_5])), ((ad 5), .inl (cs 0, 126, .inl mn_codes_6)), ((ad 6), .inl (cs 0, 126, .inl mn_degrees_7)), ((ad 7), .inl (cs 0, 32, .inl mn_firstOfDegree_8)), ((ad 8), .inl (cs 0, 504, .inl mn_products_9)), ((ad 0), .inr (0, [.ref (ad 3), .ref (ad 4), .ref (ad 9), .ref (ad 12), .ref (ad 23), .ref (ad 27), .ref (ad 1), .ref (ad 2), .int x_provedCount])), ((ad 1), .inl (cs 0, 126, .inl x_inHand_10)), ((ad 9), .inr (3, [.ref (ad 10), .ref (ad 11), .int ge_count_11])), ((ad 12), .inr (4, [.ref (ad 3), .ref (ad 4), .ref (ad 18), .ref (ad 13), .ref (ad 14), .ref (ad 15), .ref (ad 16), .ref (ad 17), .int sp_degree_12, .int sp_size_13, .int sp_count_14]))] := hD
  have hv := hw
  try dsimp only at hv
  have hP9 := hP.sub (ws' := [((ad 0), .inr (0, [.ref (ad 3), .ref (ad 4), .ref (ad 9), .ref (ad 12), .ref (ad 23), .ref (ad 27), .ref (ad 1), .ref (ad 2), .int x_provedCount])), ((ad 1), .inl (cs 0, 126, .inl x_inHand_10)), ((ad 3), .inr (1, [.int p0])), ((ad 4), .inr (2, [.ref (ad 5), .ref (ad 6), .ref (ad 7), .ref (ad 8), .int mn_variables_2, .int mn_order_3, .int mn_highest_4, .int mn_count_5])), ((ad 5), .inl (cs 0, 126, .inl mn_codes_6)), ((ad 6), .inl (cs 0, 126, .inl mn_degrees_7)), ((ad 7), .inl (cs 0, 32, .inl mn_firstOfDegree_8)), ((ad 8), .inl (cs 0, 504, .inl mn_products_9)), ((ad 9), .inr (3, [.ref (ad 10), .ref (ad 11), .int ge_count_11])), ((ad 12), .inr (4, [.ref (ad 3), .ref (ad 4), .ref (ad 18), .ref (ad 13), .ref (ad 14), .ref (ad 15), .ref (ad 16), .ref (ad 17), .int sp_degree_12, .int sp_size_13, .int sp_count_14]))]) [6, 7, 0, 1, 2, 3, 4, 5, 8, 9] rfl
  have hD9 := hD.sub (ws' := [((ad 0), .inr (0, [.ref (ad 3), .ref (ad 4), .ref (ad 9), .ref (ad 12), .ref (ad 23), .ref (ad 27), .ref (ad 1), .ref (ad 2), .int x_provedCount])), ((ad 1), .inl (cs 0, 126, .inl x_inHand_10)), ((ad 3), .inr (1, [.int p0])), ((ad 4), .inr (2, [.ref (ad 5), .ref (ad 6), .ref (ad 7), .ref (ad 8), .int mn_variables_2, .int mn_order_3, .int mn_highest_4, .int mn_count_5])), ((ad 5), .inl (cs 0, 126, .inl mn_codes_6)), ((ad 6), .inl (cs 0, 126, .inl mn_degrees_7)), ((ad 7), .inl (cs 0, 32, .inl mn_firstOfDegree_8)), ((ad 8), .inl (cs 0, 504, .inl mn_products_9)), ((ad 9), .inr (3, [.ref (ad 10), .ref (ad 11), .int ge_count_11])), ((ad 12), .inr (4, [.ref (ad 3), .ref (ad 4), .ref (ad 18), .ref (ad 13), .ref (ad 14), .ref (ad 15), .ref (ad 16), .ref (ad 17), .int sp_degree_12, .int sp_size_13, .int sp_count_14]))]) [6, 7, 0, 1, 2, 3, 4, 5, 8, 9] (by decide) rfl
  exact W.vret hx hb hr (fun t ht hW => ⟨⟨(x_inHand_10, p0, mn_variables_2, mn_order_3, mn_highest_4, mn_count_5, mn_codes_6, mn_degrees_7, mn_firstOfDegree_8, mn_products_9, ge_count_11, sp_degree_12, sp_size_13, sp_count_14), rfl, hv, by rw [ht]; exact hP9, hD9⟩, hS.F ht⟩) hS.2.2 d_x_beginField_21
abbrev b_x_hasMember : ByteArray := prog_1_method_17_code
def y_x_hasMember : MethodName := ⟨"SpaceBasis", "hasMember", "(I)Z"⟩
def w_x_hasMember : List Cond := Cond.code y_x_hasMember b_x_hasMember 2 (some .boolean) :: vwWS
theorem d_x_hasMember_0 : decode b_x_hasMember 0 = .ok (.aload_n 0, 1) := by decide +kernel
theorem d_x_hasMember_1 : decode b_x_hasMember 1 = .ok (.getfield 35, 3) := by decide +kernel
theorem d_x_hasMember_4 : decode b_x_hasMember 4 = .ok (.getfield 129, 3) := by decide +kernel
theorem d_x_hasMember_7 : decode b_x_hasMember 7 = .ok (.iconst (-1), 1) := by decide +kernel
theorem d_x_hasMember_8 : decode b_x_hasMember 8 = .ok (.if_icmp .eq 22, 3) := by decide +kernel
theorem d_x_hasMember_11 : decode b_x_hasMember 11 = .ok (.iload_n 1, 1) := by decide +kernel
theorem d_x_hasMember_12 : decode b_x_hasMember 12 = .ok (.ifCond .lt 18, 3) := by decide +kernel
theorem d_x_hasMember_15 : decode b_x_hasMember 15 = .ok (.iload_n 1, 1) := by decide +kernel
theorem d_x_hasMember_16 : decode b_x_hasMember 16 = .ok (.aload_n 0, 1) := by decide +kernel
theorem d_x_hasMember_17 : decode b_x_hasMember 17 = .ok (.getfield 44, 3) := by decide +kernel
theorem d_x_hasMember_20 : decode b_x_hasMember 20 = .ok (.getfield 150, 3) := by decide +kernel
theorem d_x_hasMember_23 : decode b_x_hasMember 23 = .ok (.if_icmp .ge 7, 3) := by decide +kernel
theorem d_x_hasMember_26 : decode b_x_hasMember 26 = .ok (.iconst 1, 1) := by decide +kernel
theorem d_x_hasMember_27 : decode b_x_hasMember 27 = .ok (.goto 4, 3) := by decide +kernel
theorem d_x_hasMember_30 : decode b_x_hasMember 30 = .ok (.iconst 0, 1) := by decide +kernel
theorem d_x_hasMember_31 : decode b_x_hasMember 31 = .ok (.ireturn, 1) := by decide +kernel
/-- SpaceBasis.hasMember(I)Z -/
def vc_x_hasMember (x_provedCount : Int32) (sp_degree : Int32) (sp_size : Int32) (sp_count : Int32) (me_count : Int32) (me_complete : Int32) (p0 : Int32) (Q : Int32 → Prop) : Prop :=
  (((sp_degree = (-1)) → (Q 0)) ∧ ((¬ (sp_degree = (-1))) → ((((p0 < 0) → (Q 0)) ∧ ((¬ (p0 < 0)) → ((((me_count ≤ p0) → (Q 0)) ∧ ((¬ (me_count ≤ p0)) → (Q 1)))))))))
abbrev at_x_hasMember (dC : Nat → ClassId) (dI : Nat → Nat → Nat) (cs : Nat → ClassId) (A : Nat → Prop) (ad : Nat → Nat) (x_provedCount : Int32) (sp_degree : Int32) (sp_size : Int32) (sp_count : Int32) (me_count : Int32) (me_complete : Int32) (u : Unit) (t : State) : Prop := match u with
  | _ => va_P (dC, dI) vwCl [((ad 0), .inr (0, [.ref (ad 3), .ref (ad 4), .ref (ad 9), .ref (ad 12), .ref (ad 23), .ref (ad 27), .ref (ad 1), .ref (ad 2), .int x_provedCount])), ((ad 12), .inr (4, [.ref (ad 3), .ref (ad 4), .ref (ad 18), .ref (ad 13), .ref (ad 14), .ref (ad 15), .ref (ad 16), .ref (ad 17), .int sp_degree, .int sp_size, .int sp_count])), ((ad 23), .inr (6, [.ref (ad 4), .ref (ad 12), .ref (ad 24), .ref (ad 25), .ref (ad 26), .int me_count, .int me_complete]))] t.heap ∧ va_D A [((ad 0), .inr (0, [.ref (ad 3), .ref (ad 4), .ref (ad 9), .ref (ad 12), .ref (ad 23), .ref (ad 27), .ref (ad 1), .ref (ad 2), .int x_provedCount])), ((ad 12), .inr (4, [.ref (ad 3), .ref (ad 4), .ref (ad 18), .ref (ad 13), .ref (ad 14), .ref (ad 15), .ref (ad 16), .ref (ad 17), .int sp_degree, .int sp_size, .int sp_count])), ((ad 23), .inr (6, [.ref (ad 4), .ref (ad 12), .ref (ad 24), .ref (ad 25), .ref (ad 26), .int me_count, .int me_complete]))]
set_option maxHeartbeats 4000000 in
set_option maxRecDepth 100000 in
theorem c_x_hasMember (l : Launch) (dC : Nat → ClassId) (dI : Nat → Nat → Nat) (cs : Nat → ClassId) (ad : Nat → Nat)  (sz : Nat) (x_provedCount : Int32) (sp_degree : Int32) (sp_size : Int32) (sp_count : Int32) (me_count : Int32) (me_complete : Int32) (p0 : Int32) (Q : Int32 → Prop) (hv : vc_x_hasMember x_provedCount sp_degree sp_size sp_count me_count me_complete p0 Q) : Met l y_x_hasMember w_x_hasMember ({ frames := 0, cells := 0, slots := 0, locals := 0 }) (va_Pc [.ref (ad 0), .int p0] (fun U => U.heap.size = sz ∧ va_P (dC, dI) vwCl [((ad 0), .inr (0, [.ref (ad 3), .ref (ad 4), .ref (ad 9), .ref (ad 12), .ref (ad 23), .ref (ad 27), .ref (ad 1), .ref (ad 2), .int x_provedCount])), ((ad 12), .inr (4, [.ref (ad 3), .ref (ad 4), .ref (ad 18), .ref (ad 13), .ref (ad 14), .ref (ad 15), .ref (ad 16), .ref (ad 17), .int sp_degree, .int sp_size, .int sp_count])), ((ad 23), .inr (6, [.ref (ad 4), .ref (ad 12), .ref (ad 24), .ref (ad 25), .ref (ad 26), .int me_count, .int me_complete]))] U.heap ∧ vwK dC dI cs U ∧ va_D (fun _ => True) [((ad 0), .inr (0, [.ref (ad 3), .ref (ad 4), .ref (ad 9), .ref (ad 12), .ref (ad 23), .ref (ad 27), .ref (ad 1), .ref (ad 2), .int x_provedCount])), ((ad 12), .inr (4, [.ref (ad 3), .ref (ad 4), .ref (ad 18), .ref (ad 13), .ref (ad 14), .ref (ad 15), .ref (ad 16), .ref (ad 17), .int sp_degree, .int sp_size, .int sp_count])), ((ad 23), .inr (6, [.ref (ad 4), .ref (ad 12), .ref (ad 24), .ref (ad 25), .ref (ad 26), .int me_count, .int me_complete]))])) (va_Qi (fun (r : Int32) (u : Unit) => Q r) (at_x_hasMember dC dI cs (va_A [((ad 0), .inr (0, [.ref (ad 3), .ref (ad 4), .ref (ad 9), .ref (ad 12), .ref (ad 23), .ref (ad 27), .ref (ad 1), .ref (ad 2), .int x_provedCount])), ((ad 12), .inr (4, [.ref (ad 3), .ref (ad 4), .ref (ad 18), .ref (ad 13), .ref (ad 14), .ref (ad 15), .ref (ad 16), .ref (ad 17), .int sp_degree, .int sp_size, .int sp_count])), ((ad 23), .inr (6, [.ref (ad 4), .ref (ad 12), .ref (ad 24), .ref (ad 25), .ref (ad 26), .int me_count, .int me_complete]))] sz) ad x_provedCount sp_degree sp_size sp_count me_count me_complete) (va_A [((ad 0), .inr (0, [.ref (ad 3), .ref (ad 4), .ref (ad 9), .ref (ad 12), .ref (ad 23), .ref (ad 27), .ref (ad 1), .ref (ad 2), .int x_provedCount])), ((ad 12), .inr (4, [.ref (ad 3), .ref (ad 4), .ref (ad 18), .ref (ad 13), .ref (ad 14), .ref (ad 15), .ref (ad 16), .ref (ad 17), .int sp_degree, .int sp_size, .int sp_count])), ((ad 23), .inr (6, [.ref (ad 4), .ref (ad 12), .ref (ad 24), .ref (ad 25), .ref (ad 26), .int me_count, .int me_complete]))] sz)) 0 0 (va_A [((ad 0), .inr (0, [.ref (ad 3), .ref (ad 4), .ref (ad 9), .ref (ad 12), .ref (ad 23), .ref (ad 27), .ref (ad 1), .ref (ad 2), .int x_provedCount])), ((ad 12), .inr (4, [.ref (ad 3), .ref (ad 4), .ref (ad 18), .ref (ad 13), .ref (ad 14), .ref (ad 15), .ref (ad 16), .ref (ad 17), .int sp_degree, .int sp_size, .int sp_count])), ((ad 23), .inr (6, [.ref (ad 4), .ref (ad 12), .ref (ad 24), .ref (ad 25), .ref (ad 26), .int me_count, .int me_complete]))] sz) := by
  unfold vc_x_hasMember at hv
  refine Met.ofW (cc := b_x_hasMember) (maxL := 2) (ret := (some .boolean)) (by decide) rfl ?_
  intro p e s m args below meth c s₁ B hml hpc
  obtain ⟨rfl, hsz, hP, ⟨hK, hN⟩, hD0⟩ := hpc
  have hx := B.exec
  have hb := B.bytes
  have hr := B.returns
  have hts : ∀ w ∈ vwWS, w.before _ s = true := fun w h => atoms_spec (ws := w_x_hasMember) B.pre w (List.mem_cons_of_mem _ h)
  have hown : s.vm.findClass "SpaceBasis" = some m.cls := findClass_of_methodNamed B.named
  have hlocks := B.notSynchronized
  subst hsz
  have hD := hD0.self (sz := s.heap.size)
  generalize hAe : va_A [((ad 0), .inr (0, [.ref (ad 3), .ref (ad 4), .ref (ad 9), .ref (ad 12), .ref (ad 23), .ref (ad 27), .ref (ad 1), .ref (ad 2), .int x_provedCount])), ((ad 12), .inr (4, [.ref (ad 3), .ref (ad 4), .ref (ad 18), .ref (ad 13), .ref (ad 14), .ref (ad 15), .ref (ad 16), .ref (ad 17), .int sp_degree, .int sp_size, .int sp_count])), ((ad 23), .inr (6, [.ref (ad 4), .ref (ad 12), .ref (ad 24), .ref (ad 25), .ref (ad 26), .int me_count, .int me_complete]))] s.heap.size = A at hD ⊢
  have hA : ∀ q : Nat, s.heap.size ≤ q → A q := fun q h => by rw [← hAe]; exact Or.inr h
  have hS : va_S A s.heap s.heap [] := va_S.rf
  have hl := lv_entry ([.ref (ad 0), .int p0]) (n := 2) (Nat.le_of_ble_eq_true rfl)
  rw [lg_entry_eq]
  generalize (lg_sl ([.ref (ad 0), .int p0]) ++ List.replicate (2 - (lg_sl ([.ref (ad 0), .int p0])).length) Slot.unset).toArray = ls at hl ⊢
  have hl : lv_has ls 2 [(0, .ref (ad 0)), (1, .int p0)] := hl
  refine lv_aload_n hx hb d_x_hasMember_0 rfl (lv_at hl 0 rfl) ?_
  refine va_get (D := (dC, dI)) (ci := 0) (v := .ref (ad 12)) (C := R_x) (T := F_x) (N := 9) hx hb hts in_x hown hK hP 0 rfl rfl 3 (by decide) (hts _ kw_261) (fun _ h9 => h9) rfl d_x_hasMember_1 ?_
  refine va_getN (D := (dC, dI)) (ci := 4) (v := .int sp_degree) (C := R_sp) (T := F_sp) (N := 11) hx hb hts in_sp hown hK hP 1 rfl rfl 8 (by decide) (va_Nw.use rfl (hN _ kn_31)) (fun _ h9 => h9) rfl d_x_hasMember_4 ?_
  refine lv_iconst (v := (-1)) hx hb d_x_hasMember_7 (by decide) ?_
  refine lv_icmp_eq (tgt := 30) hx hb d_x_hasMember_8 (by decide) (fun c_1 => ?_) (fun c_1 => ?_)
  · have hv := hv.1 c_1
    refine lv_iconst (v := 0) hx hb d_x_hasMember_30 (by decide) ?_
    have hP9 := hP.sub (ws' := [((ad 0), .inr (0, [.ref (ad 3), .ref (ad 4), .ref (ad 9), .ref (ad 12), .ref (ad 23), .ref (ad 27), .ref (ad 1), .ref (ad 2), .int x_provedCount])), ((ad 12), .inr (4, [.ref (ad 3), .ref (ad 4), .ref (ad 18), .ref (ad 13), .ref (ad 14), .ref (ad 15), .ref (ad 16), .ref (ad 17), .int sp_degree, .int sp_size, .int sp_count])), ((ad 23), .inr (6, [.ref (ad 4), .ref (ad 12), .ref (ad 24), .ref (ad 25), .ref (ad 26), .int me_count, .int me_complete]))]) [0, 1, 2] rfl
    have hD9 := hD.sub (ws' := [((ad 0), .inr (0, [.ref (ad 3), .ref (ad 4), .ref (ad 9), .ref (ad 12), .ref (ad 23), .ref (ad 27), .ref (ad 1), .ref (ad 2), .int x_provedCount])), ((ad 12), .inr (4, [.ref (ad 3), .ref (ad 4), .ref (ad 18), .ref (ad 13), .ref (ad 14), .ref (ad 15), .ref (ad 16), .ref (ad 17), .int sp_degree, .int sp_size, .int sp_count])), ((ad 23), .inr (6, [.ref (ad 4), .ref (ad 12), .ref (ad 24), .ref (ad 25), .ref (ad 26), .int me_count, .int me_complete]))]) [0, 1, 2] (by decide) rfl
    exact W.zret (v := 0) hx hb hr rfl (fun t ht hW => ⟨⟨0, (), rfl, hv, by rw [ht]; exact hP9, hD9⟩, hS.F ht⟩) hS.2.2 d_x_hasMember_31
  · have hv := hv.2 c_1
    refine lv_iload_n hx hb d_x_hasMember_11 rfl (lv_at hl 1 rfl) ?_
    refine lv_if_lt (tgt := 30) hx hb d_x_hasMember_12 (by decide) (fun c_2 => ?_) (fun c_2 => ?_)
    · have hv := hv.1 c_2
      refine lv_iconst (v := 0) hx hb d_x_hasMember_30 (by decide) ?_
      have hP9 := hP.sub (ws' := [((ad 0), .inr (0, [.ref (ad 3), .ref (ad 4), .ref (ad 9), .ref (ad 12), .ref (ad 23), .ref (ad 27), .ref (ad 1), .ref (ad 2), .int x_provedCount])), ((ad 12), .inr (4, [.ref (ad 3), .ref (ad 4), .ref (ad 18), .ref (ad 13), .ref (ad 14), .ref (ad 15), .ref (ad 16), .ref (ad 17), .int sp_degree, .int sp_size, .int sp_count])), ((ad 23), .inr (6, [.ref (ad 4), .ref (ad 12), .ref (ad 24), .ref (ad 25), .ref (ad 26), .int me_count, .int me_complete]))]) [0, 1, 2] rfl
      have hD9 := hD.sub (ws' := [((ad 0), .inr (0, [.ref (ad 3), .ref (ad 4), .ref (ad 9), .ref (ad 12), .ref (ad 23), .ref (ad 27), .ref (ad 1), .ref (ad 2), .int x_provedCount])), ((ad 12), .inr (4, [.ref (ad 3), .ref (ad 4), .ref (ad 18), .ref (ad 13), .ref (ad 14), .ref (ad 15), .ref (ad 16), .ref (ad 17), .int sp_degree, .int sp_size, .int sp_count])), ((ad 23), .inr (6, [.ref (ad 4), .ref (ad 12), .ref (ad 24), .ref (ad 25), .ref (ad 26), .int me_count, .int me_complete]))]) [0, 1, 2] (by decide) rfl
      exact W.zret (v := 0) hx hb hr rfl (fun t ht hW => ⟨⟨0, (), rfl, hv, by rw [ht]; exact hP9, hD9⟩, hS.F ht⟩) hS.2.2 d_x_hasMember_31
    · have hv := hv.2 c_2
      refine lv_iload_n hx hb d_x_hasMember_15 rfl (lv_at hl 1 rfl) ?_
      refine lv_aload_n hx hb d_x_hasMember_16 rfl (lv_at hl 0 rfl) ?_
      refine va_get (D := (dC, dI)) (ci := 0) (v := .ref (ad 23)) (C := R_x) (T := F_x) (N := 9) hx hb hts in_x hown hK hP 0 rfl rfl 4 (by decide) (hts _ kw_262) (fun _ h9 => h9) rfl d_x_hasMember_17 ?_
      refine va_getN (D := (dC, dI)) (ci := 6) (v := .int me_count) (C := R_me) (T := F_me) (N := 7) hx hb hts in_me hown hK hP 2 rfl rfl 5 (by decide) (va_Nw.use rfl (hN _ kn_37)) (fun _ h9 => h9) rfl d_x_hasMember_20 ?_
      refine lv_icmp_ge (tgt := 30) hx hb d_x_hasMember_23 (by decide) (fun c_3 => ?_) (fun c_3 => ?_)
      · have hv := hv.1 c_3
        refine lv_iconst (v := 0) hx hb d_x_hasMember_30 (by decide) ?_
        have hP9 := hP.sub (ws' := [((ad 0), .inr (0, [.ref (ad 3), .ref (ad 4), .ref (ad 9), .ref (ad 12), .ref (ad 23), .ref (ad 27), .ref (ad 1), .ref (ad 2), .int x_provedCount])), ((ad 12), .inr (4, [.ref (ad 3), .ref (ad 4), .ref (ad 18), .ref (ad 13), .ref (ad 14), .ref (ad 15), .ref (ad 16), .ref (ad 17), .int sp_degree, .int sp_size, .int sp_count])), ((ad 23), .inr (6, [.ref (ad 4), .ref (ad 12), .ref (ad 24), .ref (ad 25), .ref (ad 26), .int me_count, .int me_complete]))]) [0, 1, 2] rfl
        have hD9 := hD.sub (ws' := [((ad 0), .inr (0, [.ref (ad 3), .ref (ad 4), .ref (ad 9), .ref (ad 12), .ref (ad 23), .ref (ad 27), .ref (ad 1), .ref (ad 2), .int x_provedCount])), ((ad 12), .inr (4, [.ref (ad 3), .ref (ad 4), .ref (ad 18), .ref (ad 13), .ref (ad 14), .ref (ad 15), .ref (ad 16), .ref (ad 17), .int sp_degree, .int sp_size, .int sp_count])), ((ad 23), .inr (6, [.ref (ad 4), .ref (ad 12), .ref (ad 24), .ref (ad 25), .ref (ad 26), .int me_count, .int me_complete]))]) [0, 1, 2] (by decide) rfl
        exact W.zret (v := 0) hx hb hr rfl (fun t ht hW => ⟨⟨0, (), rfl, hv, by rw [ht]; exact hP9, hD9⟩, hS.F ht⟩) hS.2.2 d_x_hasMember_31
      · have hv := hv.2 c_3
        refine lv_iconst (v := 1) hx hb d_x_hasMember_26 (by decide) ?_
        refine lv_goto (tgt := 31) hx hb d_x_hasMember_27 (by decide) ?_
        have hP9 := hP.sub (ws' := [((ad 0), .inr (0, [.ref (ad 3), .ref (ad 4), .ref (ad 9), .ref (ad 12), .ref (ad 23), .ref (ad 27), .ref (ad 1), .ref (ad 2), .int x_provedCount])), ((ad 12), .inr (4, [.ref (ad 3), .ref (ad 4), .ref (ad 18), .ref (ad 13), .ref (ad 14), .ref (ad 15), .ref (ad 16), .ref (ad 17), .int sp_degree, .int sp_size, .int sp_count])), ((ad 23), .inr (6, [.ref (ad 4), .ref (ad 12), .ref (ad 24), .ref (ad 25), .ref (ad 26), .int me_count, .int me_complete]))]) [0, 1, 2] rfl
        have hD9 := hD.sub (ws' := [((ad 0), .inr (0, [.ref (ad 3), .ref (ad 4), .ref (ad 9), .ref (ad 12), .ref (ad 23), .ref (ad 27), .ref (ad 1), .ref (ad 2), .int x_provedCount])), ((ad 12), .inr (4, [.ref (ad 3), .ref (ad 4), .ref (ad 18), .ref (ad 13), .ref (ad 14), .ref (ad 15), .ref (ad 16), .ref (ad 17), .int sp_degree, .int sp_size, .int sp_count])), ((ad 23), .inr (6, [.ref (ad 4), .ref (ad 12), .ref (ad 24), .ref (ad 25), .ref (ad 26), .int me_count, .int me_complete]))]) [0, 1, 2] (by decide) rfl
        exact W.zret (v := 1) hx hb hr rfl (fun t ht hW => ⟨⟨1, (), rfl, hv, by rw [ht]; exact hP9, hD9⟩, hS.F ht⟩) hS.2.2 d_x_hasMember_31
abbrev b_x_hand : ByteArray := prog_1_method_4_code
def y_x_hand : MethodName := ⟨"SpaceBasis", "hand", "(I)I"⟩
def w_x_hand : List Cond := Cond.code y_x_hand b_x_hand 3 (some .int) :: vwWS
theorem d_x_hand_0 : decode b_x_hand 0 = .ok (.aload_n 0, 1) := by decide +kernel
theorem d_x_hand_1 : decode b_x_hand 1 = .ok (.getfield 19, 3) := by decide +kernel
theorem d_x_hand_4 : decode b_x_hand 4 = .ok (.iload_n 1, 1) := by decide +kernel
theorem d_x_hand_5 : decode b_x_hand 5 = .ok (.invokevirtual 87, 3) := by decide +kernel
theorem d_x_hand_8 : decode b_x_hand 8 = .ok (.istore_n 2, 1) := by decide +kernel
theorem d_x_hand_9 : decode b_x_hand 9 = .ok (.iload_n 2, 1) := by decide +kernel
theorem d_x_hand_10 : decode b_x_hand 10 = .ok (.iconst (-1), 1) := by decide +kernel
theorem d_x_hand_11 : decode b_x_hand 11 = .ok (.if_icmp .ne 7, 3) := by decide +kernel
theorem d_x_hand_14 : decode b_x_hand 14 = .ok (.iconst 0, 1) := by decide +kernel
theorem d_x_hand_15 : decode b_x_hand 15 = .ok (.goto 9, 3) := by decide +kernel
theorem d_x_hand_18 : decode b_x_hand 18 = .ok (.aload_n 0, 1) := by decide +kernel
theorem d_x_hand_19 : decode b_x_hand 19 = .ok (.getfield 57, 3) := by decide +kernel
theorem d_x_hand_22 : decode b_x_hand 22 = .ok (.iload_n 2, 1) := by decide +kernel
theorem d_x_hand_23 : decode b_x_hand 23 = .ok (.iaload, 1) := by decide +kernel
theorem d_x_hand_24 : decode b_x_hand 24 = .ok (.ireturn, 1) := by decide +kernel
/-- SpaceBasis.hand(I)I -/
def vc_x_hand (x_provedCount : Int32) (x_inHand : Nat → Int32) (mn_variables : Int32) (mn_order : Int32) (mn_highest : Int32) (mn_count : Int32) (mn_codes : Nat → Int32) (mn_firstOfDegree : Nat → Int32) (p0 : Int32) (Q : Int32 → Prop) : Prop :=
  vc_mn_placeOf mn_variables mn_order mn_highest mn_count mn_codes mn_firstOfDegree p0 (fun (r_1 : Int32) => (((¬ (r_1 = (-1))) → (vp_in r_1 126 ∧ Q (x_inHand r_1.toNatClampNeg))) ∧ ((r_1 = (-1)) → (Q 0))))
abbrev at_x_hand (dC : Nat → ClassId) (dI : Nat → Nat → Nat) (cs : Nat → ClassId) (A : Nat → Prop) (ad : Nat → Nat) (x_provedCount : Int32) (x_inHand : Nat → Int32) (mn_variables : Int32) (mn_order : Int32) (mn_highest : Int32) (mn_count : Int32) (mn_codes : Nat → Int32) (mn_firstOfDegree : Nat → Int32) (u : Unit) (t : State) : Prop := match u with
  | _ => va_P (dC, dI) vwCl [((ad 0), .inr (0, [.ref (ad 3), .ref (ad 4), .ref (ad 9), .ref (ad 12), .ref (ad 23), .ref (ad 27), .ref (ad 1), .ref (ad 2), .int x_provedCount])), ((ad 1), .inl (cs 0, 126, .inl x_inHand)), ((ad 4), .inr (2, [.ref (ad 5), .ref (ad 6), .ref (ad 7), .ref (ad 8), .int mn_variables, .int mn_order, .int mn_highest, .int mn_count])), ((ad 5), .inl (cs 0, 126, .inl mn_codes)), ((ad 7), .inl (cs 0, 32, .inl mn_firstOfDegree))] t.heap ∧ va_D A [((ad 0), .inr (0, [.ref (ad 3), .ref (ad 4), .ref (ad 9), .ref (ad 12), .ref (ad 23), .ref (ad 27), .ref (ad 1), .ref (ad 2), .int x_provedCount])), ((ad 1), .inl (cs 0, 126, .inl x_inHand)), ((ad 4), .inr (2, [.ref (ad 5), .ref (ad 6), .ref (ad 7), .ref (ad 8), .int mn_variables, .int mn_order, .int mn_highest, .int mn_count])), ((ad 5), .inl (cs 0, 126, .inl mn_codes)), ((ad 7), .inl (cs 0, 32, .inl mn_firstOfDegree))]
set_option maxHeartbeats 4000000 in
set_option maxRecDepth 100000 in
theorem c_x_hand (l : Launch) (dC : Nat → ClassId) (dI : Nat → Nat → Nat) (cs : Nat → ClassId) (ad : Nat → Nat)  (sz : Nat) (x_provedCount : Int32) (x_inHand : Nat → Int32) (mn_variables : Int32) (mn_order : Int32) (mn_highest : Int32) (mn_count : Int32) (mn_codes : Nat → Int32) (mn_firstOfDegree : Nat → Int32) (p0 : Int32) (Q : Int32 → Prop) (hv : vc_x_hand x_provedCount x_inHand mn_variables mn_order mn_highest mn_count mn_codes mn_firstOfDegree p0 Q) : Met l y_x_hand w_x_hand ({ frames := 2, cells := 0, slots := 0, locals := 45 }) (va_Pc [.ref (ad 0), .int p0] (fun U => U.heap.size = sz ∧ va_P (dC, dI) vwCl [((ad 0), .inr (0, [.ref (ad 3), .ref (ad 4), .ref (ad 9), .ref (ad 12), .ref (ad 23), .ref (ad 27), .ref (ad 1), .ref (ad 2), .int x_provedCount])), ((ad 1), .inl (cs 0, 126, .inl x_inHand)), ((ad 4), .inr (2, [.ref (ad 5), .ref (ad 6), .ref (ad 7), .ref (ad 8), .int mn_variables, .int mn_order, .int mn_highest, .int mn_count])), ((ad 5), .inl (cs 0, 126, .inl mn_codes)), ((ad 7), .inl (cs 0, 32, .inl mn_firstOfDegree))] U.heap ∧ vwK dC dI cs U ∧ va_D (fun _ => True) [((ad 0), .inr (0, [.ref (ad 3), .ref (ad 4), .ref (ad 9), .ref (ad 12), .ref (ad 23), .ref (ad 27), .ref (ad 1), .ref (ad 2), .int x_provedCount])), ((ad 1), .inl (cs 0, 126, .inl x_inHand)), ((ad 4), .inr (2, [.ref (ad 5), .ref (ad 6), .ref (ad 7), .ref (ad 8), .int mn_variables, .int mn_order, .int mn_highest, .int mn_count])), ((ad 5), .inl (cs 0, 126, .inl mn_codes)), ((ad 7), .inl (cs 0, 32, .inl mn_firstOfDegree))])) (va_Qi (fun (r : Int32) (u : Unit) => Q r) (at_x_hand dC dI cs (va_A [((ad 0), .inr (0, [.ref (ad 3), .ref (ad 4), .ref (ad 9), .ref (ad 12), .ref (ad 23), .ref (ad 27), .ref (ad 1), .ref (ad 2), .int x_provedCount])), ((ad 1), .inl (cs 0, 126, .inl x_inHand)), ((ad 4), .inr (2, [.ref (ad 5), .ref (ad 6), .ref (ad 7), .ref (ad 8), .int mn_variables, .int mn_order, .int mn_highest, .int mn_count])), ((ad 5), .inl (cs 0, 126, .inl mn_codes)), ((ad 7), .inl (cs 0, 32, .inl mn_firstOfDegree))] sz) ad x_provedCount x_inHand mn_variables mn_order mn_highest mn_count mn_codes mn_firstOfDegree) (va_A [((ad 0), .inr (0, [.ref (ad 3), .ref (ad 4), .ref (ad 9), .ref (ad 12), .ref (ad 23), .ref (ad 27), .ref (ad 1), .ref (ad 2), .int x_provedCount])), ((ad 1), .inl (cs 0, 126, .inl x_inHand)), ((ad 4), .inr (2, [.ref (ad 5), .ref (ad 6), .ref (ad 7), .ref (ad 8), .int mn_variables, .int mn_order, .int mn_highest, .int mn_count])), ((ad 5), .inl (cs 0, 126, .inl mn_codes)), ((ad 7), .inl (cs 0, 32, .inl mn_firstOfDegree))] sz)) 0 0 (va_A [((ad 0), .inr (0, [.ref (ad 3), .ref (ad 4), .ref (ad 9), .ref (ad 12), .ref (ad 23), .ref (ad 27), .ref (ad 1), .ref (ad 2), .int x_provedCount])), ((ad 1), .inl (cs 0, 126, .inl x_inHand)), ((ad 4), .inr (2, [.ref (ad 5), .ref (ad 6), .ref (ad 7), .ref (ad 8), .int mn_variables, .int mn_order, .int mn_highest, .int mn_count])), ((ad 5), .inl (cs 0, 126, .inl mn_codes)), ((ad 7), .inl (cs 0, 32, .inl mn_firstOfDegree))] sz) := by
  unfold vc_x_hand at hv
  refine Met.ofW (cc := b_x_hand) (maxL := 3) (ret := (some .int)) (by decide) rfl ?_
  intro p e s m args below meth c s₁ B hml hpc
  obtain ⟨rfl, hsz, hP, ⟨hK, hN⟩, hD0⟩ := hpc
  have hx := B.exec
  have hb := B.bytes
  have hr := B.returns
  have hts : ∀ w ∈ vwWS, w.before _ s = true := fun w h => atoms_spec (ws := w_x_hand) B.pre w (List.mem_cons_of_mem _ h)
  have hown : s.vm.findClass "SpaceBasis" = some m.cls := findClass_of_methodNamed B.named
  have hlocks := B.notSynchronized
  subst hsz
  have hD := hD0.self (sz := s.heap.size)
  generalize hAe : va_A [((ad 0), .inr (0, [.ref (ad 3), .ref (ad 4), .ref (ad 9), .ref (ad 12), .ref (ad 23), .ref (ad 27), .ref (ad 1), .ref (ad 2), .int x_provedCount])), ((ad 1), .inl (cs 0, 126, .inl x_inHand)), ((ad 4), .inr (2, [.ref (ad 5), .ref (ad 6), .ref (ad 7), .ref (ad 8), .int mn_variables, .int mn_order, .int mn_highest, .int mn_count])), ((ad 5), .inl (cs 0, 126, .inl mn_codes)), ((ad 7), .inl (cs 0, 32, .inl mn_firstOfDegree))] s.heap.size = A at hD ⊢
  have hA : ∀ q : Nat, s.heap.size ≤ q → A q := fun q h => by rw [← hAe]; exact Or.inr h
  have hS : va_S A s.heap s.heap [] := va_S.rf
  have hl := lv_entry ([.ref (ad 0), .int p0]) (n := 3) (Nat.le_of_ble_eq_true rfl)
  rw [lg_entry_eq]
  generalize (lg_sl ([.ref (ad 0), .int p0]) ++ List.replicate (3 - (lg_sl ([.ref (ad 0), .int p0])).length) Slot.unset).toArray = ls at hl ⊢
  have hl : lv_has ls 3 [(0, .ref (ad 0)), (1, .int p0)] := hl
  refine lv_aload_n hx hb d_x_hand_0 rfl (lv_at hl 0 rfl) ?_
  refine va_get (D := (dC, dI)) (ci := 0) (v := .ref (ad 4)) (C := R_x) (T := F_x) (N := 9) hx hb hts in_x hown hK hP 0 rfl rfl 1 (by decide) (hts _ kw_259) (fun _ h9 => h9) rfl d_x_hand_1 ?_
  refine lv_iload_n hx hb d_x_hand_4 rfl (lv_at hl 1 rfl) ?_
  have hPc := hP.sub (ws' := [((ad 4), .inr (2, [.ref (ad 5), .ref (ad 6), .ref (ad 7), .ref (ad 8), .int mn_variables, .int mn_order, .int mn_highest, .int mn_count])), ((ad 5), .inl (cs 0, 126, .inl mn_codes)), ((ad 7), .inl (cs 0, 32, .inl mn_firstOfDegree))]) [2, 3, 4] rfl
  have hDc := hD.sub (ws' := [((ad 4), .inr (2, [.ref (ad 5), .ref (ad 6), .ref (ad 7), .ref (ad 8), .int mn_variables, .int mn_order, .int mn_highest, .int mn_count])), ((ad 5), .inl (cs 0, 126, .inl mn_codes)), ((ad 7), .inl (cs 0, 32, .inl mn_firstOfDegree))]) [2, 3, 4] (by decide) rfl
  have hFc := va_free (wc := [((ad 4), .inr (2, [.ref (ad 5), .ref (ad 6), .ref (ad 7), .ref (ad 8), .int mn_variables, .int mn_order, .int mn_highest, .int mn_count])), ((ad 5), .inl (cs 0, 126, .inl mn_codes)), ((ad 7), .inl (cs 0, 32, .inl mn_firstOfDegree))]) hD hS hA [2, 3, 4] rfl
  refine va_calli (va_runV (As := [.int p0]) (rest := []) ⟨hx, hb, hml, hown, hts⟩ (c_mn_placeOf l dC dI cs ad  s.heap.size mn_variables mn_order mn_highest mn_count mn_codes mn_firstOfDegree p0 _ hv) (cwV 1 hts (gd_V kw_290 kw_239 kw_240 kw_34 kw_241) rfl rfl rfl (by decide +kernel) ⟨Nat.le_of_ble_eq_true rfl, Nat.le_of_ble_eq_true rfl⟩) ⟨fun a U g mk q => by obtain ⟨q0, q1, qP, qK, qD⟩ := q; exact ⟨q0, q1, qP, qK.call, qD⟩, va_recv hK hPc (ci := 2) (q0 := 0) rfl rfl, fun U hU hW => ⟨rfl, by rw [hU], by rw [hU]; exact hPc, vwK.warm hW ⟨hK, hN⟩, hDc.weaken (fun _ _ _ _ => trivial)⟩⟩ rfl rfl hl.1 rfl (lv_room (Nat.le_of_ble_eq_true rfl)) d_x_hand_5 ⟨Nat.zero_le _, Nat.zero_le _⟩) hS (fun q _ h => hFc q h) hFc (fun r_1 _u t H1 locs1 ht hvm hw hB hz1 hk1 hS => ?_)
  obtain ⟨hP1, hD1⟩ := hB
  rw [ht] at hP1
  obtain ⟨hP, hD⟩ := va_join (wr := [((ad 0), .inr (0, [.ref (ad 3), .ref (ad 4), .ref (ad 9), .ref (ad 12), .ref (ad 23), .ref (ad 27), .ref (ad 1), .ref (ad 2), .int x_provedCount])), ((ad 1), .inl (cs 0, 126, .inl x_inHand))]) (w1 := [((ad 4), .inr (2, [.ref (ad 5), .ref (ad 6), .ref (ad 7), .ref (ad 8), .int mn_variables, .int mn_order, .int mn_highest, .int mn_count])), ((ad 5), .inl (cs 0, 126, .inl mn_codes)), ((ad 7), .inl (cs 0, 32, .inl mn_firstOfDegree))]) hP hD [2, 3, 4] [0, 1] rfl rfl (by decide) (by decide) hk1 hFc hP1 hD1
  generalize H1 = H at hP hS ⊢
  generalize locs1 = locs at hS ⊢
  have hP : va_P (dC, dI) vwCl [((ad 0), .inr (0, [.ref (ad 3), .ref (ad 4), .ref (ad 9), .ref (ad 12), .ref (ad 23), .ref (ad 27), .ref (ad 1), .ref (ad 2), .int x_provedCount])), ((ad 1), .inl (cs 0, 126, .inl x_inHand)), ((ad 4), .inr (2, [.ref (ad 5), .ref (ad 6), .ref (ad 7), .ref (ad 8), .int mn_variables, .int mn_order, .int mn_highest, .int mn_count])), ((ad 5), .inl (cs 0, 126, .inl mn_codes)), ((ad 7), .inl (cs 0, 32, .inl mn_firstOfDegree))] H := hP
  have hD : va_D A [((ad 0), .inr (0, [.ref (ad 3), .ref (ad 4), .ref (ad 9), .ref (ad 12), .ref (ad 23), .ref (ad 27), .ref (ad 1), .ref (ad 2), .int x_provedCount])), ((ad 1), .inl (cs 0, 126, .inl x_inHand)), ((ad 4), .inr (2, [.ref (ad 5), .ref (ad 6), .ref (ad 7), .ref (ad 8), .int mn_variables, .int mn_order, .int mn_highest, .int mn_count])), ((ad 5), .inl (cs 0, 126, .inl mn_codes)), ((ad 7), .inl (cs 0, 32, .inl mn_firstOfDegree))] := hD
  have hv := hw
  try dsimp only at hv
  refine lv_istore_n (lv' := [(2, .int r_1), (0, .ref (ad 0)), (1, .int p0)]) hx hb d_x_hand_8 rfl hl (by decide) rfl (fun ls hl => ?_)
  refine lv_iload_n hx hb d_x_hand_9 rfl (lv_at hl 0 rfl) ?_
  refine lv_iconst (v := (-1)) hx hb d_x_hand_10 (by decide) ?_
  refine lv_icmp_ne (tgt := 18) hx hb d_x_hand_11 (by decide) (fun c_2 => ?_) (fun c_2 => ?_)
  · have hv := hv.1 c_2
    refine lv_aload_n hx hb d_x_hand_18 rfl (lv_at hl 1 rfl) ?_
    refine va_get (D := (dC, dI)) (ci := 0) (v := .ref (ad 1)) (C := R_x) (T := F_x) (N := 9) hx hb hts in_x hown hK hP 0 rfl rfl 6 (by decide) (hts _ kw_264) (fun _ h9 => h9) rfl d_x_hand_19 ?_
    refine lv_iload_n hx hb d_x_hand_22 rfl (lv_at hl 0 rfl) ?_
    obtain ⟨hi_3, hv⟩ := hv
    refine va_iald hx hb hK hP 1 0 rfl rfl hi_3 d_x_hand_23 ?_
    have hP9 := hP.sub (ws' := [((ad 0), .inr (0, [.ref (ad 3), .ref (ad 4), .ref (ad 9), .ref (ad 12), .ref (ad 23), .ref (ad 27), .ref (ad 1), .ref (ad 2), .int x_provedCount])), ((ad 1), .inl (cs 0, 126, .inl x_inHand)), ((ad 4), .inr (2, [.ref (ad 5), .ref (ad 6), .ref (ad 7), .ref (ad 8), .int mn_variables, .int mn_order, .int mn_highest, .int mn_count])), ((ad 5), .inl (cs 0, 126, .inl mn_codes)), ((ad 7), .inl (cs 0, 32, .inl mn_firstOfDegree))]) [0, 1, 2, 3, 4] rfl
    have hD9 := hD.sub (ws' := [((ad 0), .inr (0, [.ref (ad 3), .ref (ad 4), .ref (ad 9), .ref (ad 12), .ref (ad 23), .ref (ad 27), .ref (ad 1), .ref (ad 2), .int x_provedCount])), ((ad 1), .inl (cs 0, 126, .inl x_inHand)), ((ad 4), .inr (2, [.ref (ad 5), .ref (ad 6), .ref (ad 7), .ref (ad 8), .int mn_variables, .int mn_order, .int mn_highest, .int mn_count])), ((ad 5), .inl (cs 0, 126, .inl mn_codes)), ((ad 7), .inl (cs 0, 32, .inl mn_firstOfDegree))]) [0, 1, 2, 3, 4] (by decide) rfl
    exact W.iret (v := (x_inHand r_1.toNatClampNeg)) hx hb hr (fun t ht hW => ⟨⟨(x_inHand r_1.toNatClampNeg), (), rfl, hv, by rw [ht]; exact hP9, hD9⟩, hS.F ht⟩) hS.2.2 d_x_hand_24
  · have hv := hv.2 c_2
    refine lv_iconst (v := 0) hx hb d_x_hand_14 (by decide) ?_
    refine lv_goto (tgt := 24) hx hb d_x_hand_15 (by decide) ?_
    have hP9 := hP.sub (ws' := [((ad 0), .inr (0, [.ref (ad 3), .ref (ad 4), .ref (ad 9), .ref (ad 12), .ref (ad 23), .ref (ad 27), .ref (ad 1), .ref (ad 2), .int x_provedCount])), ((ad 1), .inl (cs 0, 126, .inl x_inHand)), ((ad 4), .inr (2, [.ref (ad 5), .ref (ad 6), .ref (ad 7), .ref (ad 8), .int mn_variables, .int mn_order, .int mn_highest, .int mn_count])), ((ad 5), .inl (cs 0, 126, .inl mn_codes)), ((ad 7), .inl (cs 0, 32, .inl mn_firstOfDegree))]) [0, 1, 2, 3, 4] rfl
    have hD9 := hD.sub (ws' := [((ad 0), .inr (0, [.ref (ad 3), .ref (ad 4), .ref (ad 9), .ref (ad 12), .ref (ad 23), .ref (ad 27), .ref (ad 1), .ref (ad 2), .int x_provedCount])), ((ad 1), .inl (cs 0, 126, .inl x_inHand)), ((ad 4), .inr (2, [.ref (ad 5), .ref (ad 6), .ref (ad 7), .ref (ad 8), .int mn_variables, .int mn_order, .int mn_highest, .int mn_count])), ((ad 5), .inl (cs 0, 126, .inl mn_codes)), ((ad 7), .inl (cs 0, 32, .inl mn_firstOfDegree))]) [0, 1, 2, 3, 4] (by decide) rfl
    exact W.iret (v := 0) hx hb hr (fun t ht hW => ⟨⟨0, (), rfl, hv, by rw [ht]; exact hP9, hD9⟩, hS.F ht⟩) hS.2.2 d_x_hand_24
abbrev b_x_clear : ByteArray := prog_1_method_6_code
def y_x_clear : MethodName := ⟨"SpaceBasis", "clear", "()V"⟩
def w_x_clear : List Cond := Cond.code y_x_clear b_x_clear 1 none :: vwWS
theorem d_x_clear_0 : decode b_x_clear 0 = .ok (.aload_n 0, 1) := by decide +kernel
theorem d_x_clear_1 : decode b_x_clear 1 = .ok (.invokevirtual 121, 3) := by decide +kernel
theorem d_x_clear_4 : decode b_x_clear 4 = .ok (.return_, 1) := by decide +kernel
/-- SpaceBasis.clear()V -/
def vc_x_clear (x_provedCount : Int32) (x_inHand : Nat → Int32) (ge_count : Int32) (sp_degree : Int32) (sp_size : Int32) (sp_count : Int32) (Q : (Nat → Int32) → Int32 → Int32 → Int32 → Int32 → Prop) : Prop :=
  vc_x_beginAnew x_provedCount x_inHand ge_count sp_degree sp_size sp_count (fun (x_inHand_1 : Nat → Int32) (ge_count_2 : Int32) (sp_degree_3 : Int32) (sp_size_4 : Int32) (sp_count_5 : Int32) => Q x_inHand_1 ge_count_2 sp_degree_3 sp_size_4 sp_count_5)
abbrev at_x_clear (dC : Nat → ClassId) (dI : Nat → Nat → Nat) (cs : Nat → ClassId) (A : Nat → Prop) (ad : Nat → Nat) (x_provedCount : Int32) (u : (Nat → Int32) × Int32 × Int32 × Int32 × Int32) (t : State) : Prop := match u with
  | (x_inHand, ge_count, sp_degree, sp_size, sp_count) => va_P (dC, dI) vwCl [((ad 0), .inr (0, [.ref (ad 3), .ref (ad 4), .ref (ad 9), .ref (ad 12), .ref (ad 23), .ref (ad 27), .ref (ad 1), .ref (ad 2), .int x_provedCount])), ((ad 1), .inl (cs 0, 126, .inl x_inHand)), ((ad 9), .inr (3, [.ref (ad 10), .ref (ad 11), .int ge_count])), ((ad 12), .inr (4, [.ref (ad 3), .ref (ad 4), .ref (ad 18), .ref (ad 13), .ref (ad 14), .ref (ad 15), .ref (ad 16), .ref (ad 17), .int sp_degree, .int sp_size, .int sp_count]))] t.heap ∧ va_D A [((ad 0), .inr (0, [.ref (ad 3), .ref (ad 4), .ref (ad 9), .ref (ad 12), .ref (ad 23), .ref (ad 27), .ref (ad 1), .ref (ad 2), .int x_provedCount])), ((ad 1), .inl (cs 0, 126, .inl x_inHand)), ((ad 9), .inr (3, [.ref (ad 10), .ref (ad 11), .int ge_count])), ((ad 12), .inr (4, [.ref (ad 3), .ref (ad 4), .ref (ad 18), .ref (ad 13), .ref (ad 14), .ref (ad 15), .ref (ad 16), .ref (ad 17), .int sp_degree, .int sp_size, .int sp_count]))]
set_option maxHeartbeats 4000000 in
set_option maxRecDepth 100000 in
theorem c_x_clear (l : Launch) (dC : Nat → ClassId) (dI : Nat → Nat → Nat) (cs : Nat → ClassId) (ad : Nat → Nat)  (sz : Nat) (x_provedCount : Int32) (x_inHand : Nat → Int32) (ge_count : Int32) (sp_degree : Int32) (sp_size : Int32) (sp_count : Int32) (Q : (Nat → Int32) → Int32 → Int32 → Int32 → Int32 → Prop) (hv : vc_x_clear x_provedCount x_inHand ge_count sp_degree sp_size sp_count Q) : Met l y_x_clear w_x_clear ({ frames := 3, cells := 0, slots := 0, locals := 63 }) (va_Pc [.ref (ad 0)] (fun U => U.heap.size = sz ∧ va_P (dC, dI) vwCl [((ad 0), .inr (0, [.ref (ad 3), .ref (ad 4), .ref (ad 9), .ref (ad 12), .ref (ad 23), .ref (ad 27), .ref (ad 1), .ref (ad 2), .int x_provedCount])), ((ad 1), .inl (cs 0, 126, .inl x_inHand)), ((ad 9), .inr (3, [.ref (ad 10), .ref (ad 11), .int ge_count])), ((ad 12), .inr (4, [.ref (ad 3), .ref (ad 4), .ref (ad 18), .ref (ad 13), .ref (ad 14), .ref (ad 15), .ref (ad 16), .ref (ad 17), .int sp_degree, .int sp_size, .int sp_count]))] U.heap ∧ vwK dC dI cs U ∧ va_D (fun _ => True) [((ad 0), .inr (0, [.ref (ad 3), .ref (ad 4), .ref (ad 9), .ref (ad 12), .ref (ad 23), .ref (ad 27), .ref (ad 1), .ref (ad 2), .int x_provedCount])), ((ad 1), .inl (cs 0, 126, .inl x_inHand)), ((ad 9), .inr (3, [.ref (ad 10), .ref (ad 11), .int ge_count])), ((ad 12), .inr (4, [.ref (ad 3), .ref (ad 4), .ref (ad 18), .ref (ad 13), .ref (ad 14), .ref (ad 15), .ref (ad 16), .ref (ad 17), .int sp_degree, .int sp_size, .int sp_count]))])) (va_Qv (fun (u : (Nat → Int32) × Int32 × Int32 × Int32 × Int32) => Q u.1 u.2.1 u.2.2.1 u.2.2.2.1 u.2.2.2.2) (at_x_clear dC dI cs (va_A [((ad 0), .inr (0, [.ref (ad 3), .ref (ad 4), .ref (ad 9), .ref (ad 12), .ref (ad 23), .ref (ad 27), .ref (ad 1), .ref (ad 2), .int x_provedCount])), ((ad 1), .inl (cs 0, 126, .inl x_inHand)), ((ad 9), .inr (3, [.ref (ad 10), .ref (ad 11), .int ge_count])), ((ad 12), .inr (4, [.ref (ad 3), .ref (ad 4), .ref (ad 18), .ref (ad 13), .ref (ad 14), .ref (ad 15), .ref (ad 16), .ref (ad 17), .int sp_degree, .int sp_size, .int sp_count]))] sz) ad x_provedCount) (va_A [((ad 0), .inr (0, [.ref (ad 3), .ref (ad 4), .ref (ad 9), .ref (ad 12), .ref (ad 23), .ref (ad 27), .ref (ad 1), .ref (ad 2), .int x_provedCount])), ((ad 1), .inl (cs 0, 126, .inl x_inHand)), ((ad 9), .inr (3, [.ref (ad 10), .ref (ad 11), .int ge_count])), ((ad 12), .inr (4, [.ref (ad 3), .ref (ad 4), .ref (ad 18), .ref (ad 13), .ref (ad 14), .ref (ad 15), .ref (ad 16), .ref (ad 17), .int sp_degree, .int sp_size, .int sp_count]))] sz)) 0 0 (va_A [((ad 0), .inr (0, [.ref (ad 3), .ref (ad 4), .ref (ad 9), .ref (ad 12), .ref (ad 23), .ref (ad 27), .ref (ad 1), .ref (ad 2), .int x_provedCount])), ((ad 1), .inl (cs 0, 126, .inl x_inHand)), ((ad 9), .inr (3, [.ref (ad 10), .ref (ad 11), .int ge_count])), ((ad 12), .inr (4, [.ref (ad 3), .ref (ad 4), .ref (ad 18), .ref (ad 13), .ref (ad 14), .ref (ad 15), .ref (ad 16), .ref (ad 17), .int sp_degree, .int sp_size, .int sp_count]))] sz) := by
  unfold vc_x_clear at hv
  refine Met.ofW (cc := b_x_clear) (maxL := 1) (ret := none) (by decide) rfl ?_
  intro p e s m args below meth c s₁ B hml hpc
  obtain ⟨rfl, hsz, hP, ⟨hK, hN⟩, hD0⟩ := hpc
  have hx := B.exec
  have hb := B.bytes
  have hr := B.returns
  have hts : ∀ w ∈ vwWS, w.before _ s = true := fun w h => atoms_spec (ws := w_x_clear) B.pre w (List.mem_cons_of_mem _ h)
  have hown : s.vm.findClass "SpaceBasis" = some m.cls := findClass_of_methodNamed B.named
  have hlocks := B.notSynchronized
  subst hsz
  have hD := hD0.self (sz := s.heap.size)
  generalize hAe : va_A [((ad 0), .inr (0, [.ref (ad 3), .ref (ad 4), .ref (ad 9), .ref (ad 12), .ref (ad 23), .ref (ad 27), .ref (ad 1), .ref (ad 2), .int x_provedCount])), ((ad 1), .inl (cs 0, 126, .inl x_inHand)), ((ad 9), .inr (3, [.ref (ad 10), .ref (ad 11), .int ge_count])), ((ad 12), .inr (4, [.ref (ad 3), .ref (ad 4), .ref (ad 18), .ref (ad 13), .ref (ad 14), .ref (ad 15), .ref (ad 16), .ref (ad 17), .int sp_degree, .int sp_size, .int sp_count]))] s.heap.size = A at hD ⊢
  have hA : ∀ q : Nat, s.heap.size ≤ q → A q := fun q h => by rw [← hAe]; exact Or.inr h
  have hS : va_S A s.heap s.heap [] := va_S.rf
  have hl := lv_entry ([.ref (ad 0)]) (n := 1) (Nat.le_of_ble_eq_true rfl)
  rw [lg_entry_eq]
  generalize (lg_sl ([.ref (ad 0)]) ++ List.replicate (1 - (lg_sl ([.ref (ad 0)])).length) Slot.unset).toArray = ls at hl ⊢
  have hl : lv_has ls 1 [(0, .ref (ad 0))] := hl
  refine lv_aload_n hx hb d_x_clear_0 rfl (lv_at hl 0 rfl) ?_
  have hPc := hP.sub (ws' := [((ad 0), .inr (0, [.ref (ad 3), .ref (ad 4), .ref (ad 9), .ref (ad 12), .ref (ad 23), .ref (ad 27), .ref (ad 1), .ref (ad 2), .int x_provedCount])), ((ad 1), .inl (cs 0, 126, .inl x_inHand)), ((ad 9), .inr (3, [.ref (ad 10), .ref (ad 11), .int ge_count])), ((ad 12), .inr (4, [.ref (ad 3), .ref (ad 4), .ref (ad 18), .ref (ad 13), .ref (ad 14), .ref (ad 15), .ref (ad 16), .ref (ad 17), .int sp_degree, .int sp_size, .int sp_count]))]) [0, 1, 2, 3] rfl
  have hDc := hD.sub (ws' := [((ad 0), .inr (0, [.ref (ad 3), .ref (ad 4), .ref (ad 9), .ref (ad 12), .ref (ad 23), .ref (ad 27), .ref (ad 1), .ref (ad 2), .int x_provedCount])), ((ad 1), .inl (cs 0, 126, .inl x_inHand)), ((ad 9), .inr (3, [.ref (ad 10), .ref (ad 11), .int ge_count])), ((ad 12), .inr (4, [.ref (ad 3), .ref (ad 4), .ref (ad 18), .ref (ad 13), .ref (ad 14), .ref (ad 15), .ref (ad 16), .ref (ad 17), .int sp_degree, .int sp_size, .int sp_count]))]) [0, 1, 2, 3] (by decide) rfl
  have hFc := va_free (wc := [((ad 0), .inr (0, [.ref (ad 3), .ref (ad 4), .ref (ad 9), .ref (ad 12), .ref (ad 23), .ref (ad 27), .ref (ad 1), .ref (ad 2), .int x_provedCount])), ((ad 1), .inl (cs 0, 126, .inl x_inHand)), ((ad 9), .inr (3, [.ref (ad 10), .ref (ad 11), .int ge_count])), ((ad 12), .inr (4, [.ref (ad 3), .ref (ad 4), .ref (ad 18), .ref (ad 13), .ref (ad 14), .ref (ad 15), .ref (ad 16), .ref (ad 17), .int sp_degree, .int sp_size, .int sp_count]))]) hD hS hA [0, 1, 2, 3] rfl
  refine va_callv (va_runV (As := []) (rest := []) ⟨hx, hb, hml, hown, hts⟩ (c_x_beginAnew l dC dI cs ad  s.heap.size x_provedCount x_inHand ge_count sp_degree sp_size sp_count _ hv) (cwV 0 hts (gd_V kw_245 kw_246 kw_3 kw_32 kw_247) rfl rfl rfl (by decide +kernel) ⟨Nat.le_of_ble_eq_true rfl, Nat.le_of_ble_eq_true rfl⟩) ⟨fun a U g mk q => by obtain ⟨q0, q1, qP, qK, qD⟩ := q; exact ⟨q0, q1, qP, qK.call, qD⟩, va_recv hK hPc (ci := 0) (q0 := 0) rfl rfl, fun U hU hW => ⟨rfl, by rw [hU], by rw [hU]; exact hPc, vwK.warm hW ⟨hK, hN⟩, hDc.weaken (fun _ _ _ _ => trivial)⟩⟩ rfl rfl hl.1 rfl (lv_room (Nat.le_of_ble_eq_true rfl)) d_x_clear_1 ⟨Nat.zero_le _, Nat.zero_le _⟩) hS (fun q _ h => hFc q h) hFc (fun u t H1 locs1 ht hvm hw hB hz1 hk1 hS => ?_)
  obtain ⟨x_inHand_1, ge_count_2, sp_degree_3, sp_size_4, sp_count_5⟩ := u
  obtain ⟨hP1, hD1⟩ := hB
  rw [ht] at hP1
  obtain ⟨hP, hD⟩ := va_join (wr := []) (w1 := [((ad 0), .inr (0, [.ref (ad 3), .ref (ad 4), .ref (ad 9), .ref (ad 12), .ref (ad 23), .ref (ad 27), .ref (ad 1), .ref (ad 2), .int x_provedCount])), ((ad 1), .inl (cs 0, 126, .inl x_inHand_1)), ((ad 9), .inr (3, [.ref (ad 10), .ref (ad 11), .int ge_count_2])), ((ad 12), .inr (4, [.ref (ad 3), .ref (ad 4), .ref (ad 18), .ref (ad 13), .ref (ad 14), .ref (ad 15), .ref (ad 16), .ref (ad 17), .int sp_degree_3, .int sp_size_4, .int sp_count_5]))]) hP hD [0, 1, 2, 3] [] rfl rfl (by decide) (by decide) hk1 hFc hP1 hD1
  generalize H1 = H at hP hS ⊢
  generalize locs1 = locs at hS ⊢
  have hP : va_P (dC, dI) vwCl [((ad 0), .inr (0, [.ref (ad 3), .ref (ad 4), .ref (ad 9), .ref (ad 12), .ref (ad 23), .ref (ad 27), .ref (ad 1), .ref (ad 2), .int x_provedCount])), ((ad 1), .inl (cs 0, 126, .inl x_inHand_1)), ((ad 9), .inr (3, [.ref (ad 10), .ref (ad 11), .int ge_count_2])), ((ad 12), .inr (4, [.ref (ad 3), .ref (ad 4), .ref (ad 18), .ref (ad 13), .ref (ad 14), .ref (ad 15), .ref (ad 16), .ref (ad 17), .int sp_degree_3, .int sp_size_4, .int sp_count_5]))] H := hP
  have hD : va_D A [((ad 0), .inr (0, [.ref (ad 3), .ref (ad 4), .ref (ad 9), .ref (ad 12), .ref (ad 23), .ref (ad 27), .ref (ad 1), .ref (ad 2), .int x_provedCount])), ((ad 1), .inl (cs 0, 126, .inl x_inHand_1)), ((ad 9), .inr (3, [.ref (ad 10), .ref (ad 11), .int ge_count_2])), ((ad 12), .inr (4, [.ref (ad 3), .ref (ad 4), .ref (ad 18), .ref (ad 13), .ref (ad 14), .ref (ad 15), .ref (ad 16), .ref (ad 17), .int sp_degree_3, .int sp_size_4, .int sp_count_5]))] := hD
  have hv := hw
  try dsimp only at hv
  have hP9 := hP.sub (ws' := [((ad 0), .inr (0, [.ref (ad 3), .ref (ad 4), .ref (ad 9), .ref (ad 12), .ref (ad 23), .ref (ad 27), .ref (ad 1), .ref (ad 2), .int x_provedCount])), ((ad 1), .inl (cs 0, 126, .inl x_inHand_1)), ((ad 9), .inr (3, [.ref (ad 10), .ref (ad 11), .int ge_count_2])), ((ad 12), .inr (4, [.ref (ad 3), .ref (ad 4), .ref (ad 18), .ref (ad 13), .ref (ad 14), .ref (ad 15), .ref (ad 16), .ref (ad 17), .int sp_degree_3, .int sp_size_4, .int sp_count_5]))]) [0, 1, 2, 3] rfl
  have hD9 := hD.sub (ws' := [((ad 0), .inr (0, [.ref (ad 3), .ref (ad 4), .ref (ad 9), .ref (ad 12), .ref (ad 23), .ref (ad 27), .ref (ad 1), .ref (ad 2), .int x_provedCount])), ((ad 1), .inl (cs 0, 126, .inl x_inHand_1)), ((ad 9), .inr (3, [.ref (ad 10), .ref (ad 11), .int ge_count_2])), ((ad 12), .inr (4, [.ref (ad 3), .ref (ad 4), .ref (ad 18), .ref (ad 13), .ref (ad 14), .ref (ad 15), .ref (ad 16), .ref (ad 17), .int sp_degree_3, .int sp_size_4, .int sp_count_5]))]) [0, 1, 2, 3] (by decide) rfl
  exact W.vret hx hb hr (fun t ht hW => ⟨⟨(x_inHand_1, ge_count_2, sp_degree_3, sp_size_4, sp_count_5), rfl, hv, by rw [ht]; exact hP9, hD9⟩, hS.F ht⟩) hS.2.2 d_x_clear_4
abbrev b_x_lead : ByteArray := prog_1_method_8_code
def y_x_lead : MethodName := ⟨"SpaceBasis", "lead", "(I)I"⟩
def w_x_lead : List Cond := Cond.code y_x_lead b_x_lead 2 (some .int) :: vwWS
theorem d_x_lead_0 : decode b_x_lead 0 = .ok (.aload_n 0, 1) := by decide +kernel
theorem d_x_lead_1 : decode b_x_lead 1 = .ok (.iload_n 1, 1) := by decide +kernel
theorem d_x_lead_2 : decode b_x_lead 2 = .ok (.invokevirtual 151, 3) := by decide +kernel
theorem d_x_lead_5 : decode b_x_lead 5 = .ok (.ifCond .eq 23, 3) := by decide +kernel
theorem d_x_lead_8 : decode b_x_lead 8 = .ok (.aload_n 0, 1) := by decide +kernel
theorem d_x_lead_9 : decode b_x_lead 9 = .ok (.getfield 19, 3) := by decide +kernel
theorem d_x_lead_12 : decode b_x_lead 12 = .ok (.getfield 154, 3) := by decide +kernel
theorem d_x_lead_15 : decode b_x_lead 15 = .ok (.aload_n 0, 1) := by decide +kernel
theorem d_x_lead_16 : decode b_x_lead 16 = .ok (.getfield 44, 3) := by decide +kernel
theorem d_x_lead_19 : decode b_x_lead 19 = .ok (.getfield 157, 3) := by decide +kernel
theorem d_x_lead_22 : decode b_x_lead 22 = .ok (.iload_n 1, 1) := by decide +kernel
theorem d_x_lead_23 : decode b_x_lead 23 = .ok (.iaload, 1) := by decide +kernel
theorem d_x_lead_24 : decode b_x_lead 24 = .ok (.iaload, 1) := by decide +kernel
theorem d_x_lead_25 : decode b_x_lead 25 = .ok (.goto 4, 3) := by decide +kernel
theorem d_x_lead_28 : decode b_x_lead 28 = .ok (.iconst (-1), 1) := by decide +kernel
theorem d_x_lead_29 : decode b_x_lead 29 = .ok (.ireturn, 1) := by decide +kernel
/-- SpaceBasis.lead(I)I -/
def vc_x_lead (x_provedCount : Int32) (mn_variables : Int32) (mn_order : Int32) (mn_highest : Int32) (mn_count : Int32) (mn_codes : Nat → Int32) (sp_degree : Int32) (sp_size : Int32) (sp_count : Int32) (me_count : Int32) (me_complete : Int32) (me_leads : Nat → Int32) (p0 : Int32) (Q : Int32 → Prop) : Prop :=
  vc_x_hasMember x_provedCount sp_degree sp_size sp_count me_count me_complete p0 (fun (r_1 : Int32) => (((r_1 = 0) → (Q (-1))) ∧ ((¬ (r_1 = 0)) → (vp_in p0 126 ∧ vp_in (me_leads p0.toNatClampNeg) 126 ∧ Q (mn_codes ((me_leads p0.toNatClampNeg)).toNatClampNeg)))))
abbrev at_x_lead (dC : Nat → ClassId) (dI : Nat → Nat → Nat) (cs : Nat → ClassId) (A : Nat → Prop) (ad : Nat → Nat) (x_provedCount : Int32) (mn_variables : Int32) (mn_order : Int32) (mn_highest : Int32) (mn_count : Int32) (mn_codes : Nat → Int32) (sp_degree : Int32) (sp_size : Int32) (sp_count : Int32) (me_count : Int32) (me_complete : Int32) (me_leads : Nat → Int32) (u : Unit) (t : State) : Prop := match u with
  | _ => va_P (dC, dI) vwCl [((ad 0), .inr (0, [.ref (ad 3), .ref (ad 4), .ref (ad 9), .ref (ad 12), .ref (ad 23), .ref (ad 27), .ref (ad 1), .ref (ad 2), .int x_provedCount])), ((ad 4), .inr (2, [.ref (ad 5), .ref (ad 6), .ref (ad 7), .ref (ad 8), .int mn_variables, .int mn_order, .int mn_highest, .int mn_count])), ((ad 5), .inl (cs 0, 126, .inl mn_codes)), ((ad 12), .inr (4, [.ref (ad 3), .ref (ad 4), .ref (ad 18), .ref (ad 13), .ref (ad 14), .ref (ad 15), .ref (ad 16), .ref (ad 17), .int sp_degree, .int sp_size, .int sp_count])), ((ad 23), .inr (6, [.ref (ad 4), .ref (ad 12), .ref (ad 24), .ref (ad 25), .ref (ad 26), .int me_count, .int me_complete])), ((ad 25), .inl (cs 0, 126, .inl me_leads))] t.heap ∧ va_D A [((ad 0), .inr (0, [.ref (ad 3), .ref (ad 4), .ref (ad 9), .ref (ad 12), .ref (ad 23), .ref (ad 27), .ref (ad 1), .ref (ad 2), .int x_provedCount])), ((ad 4), .inr (2, [.ref (ad 5), .ref (ad 6), .ref (ad 7), .ref (ad 8), .int mn_variables, .int mn_order, .int mn_highest, .int mn_count])), ((ad 5), .inl (cs 0, 126, .inl mn_codes)), ((ad 12), .inr (4, [.ref (ad 3), .ref (ad 4), .ref (ad 18), .ref (ad 13), .ref (ad 14), .ref (ad 15), .ref (ad 16), .ref (ad 17), .int sp_degree, .int sp_size, .int sp_count])), ((ad 23), .inr (6, [.ref (ad 4), .ref (ad 12), .ref (ad 24), .ref (ad 25), .ref (ad 26), .int me_count, .int me_complete])), ((ad 25), .inl (cs 0, 126, .inl me_leads))]
set_option maxHeartbeats 4000000 in
set_option maxRecDepth 100000 in
theorem c_x_lead (l : Launch) (dC : Nat → ClassId) (dI : Nat → Nat → Nat) (cs : Nat → ClassId) (ad : Nat → Nat)  (sz : Nat) (x_provedCount : Int32) (mn_variables : Int32) (mn_order : Int32) (mn_highest : Int32) (mn_count : Int32) (mn_codes : Nat → Int32) (sp_degree : Int32) (sp_size : Int32) (sp_count : Int32) (me_count : Int32) (me_complete : Int32) (me_leads : Nat → Int32) (p0 : Int32) (Q : Int32 → Prop) (hv : vc_x_lead x_provedCount mn_variables mn_order mn_highest mn_count mn_codes sp_degree sp_size sp_count me_count me_complete me_leads p0 Q) : Met l y_x_lead w_x_lead ({ frames := 1, cells := 0, slots := 0, locals := 21 }) (va_Pc [.ref (ad 0), .int p0] (fun U => U.heap.size = sz ∧ va_P (dC, dI) vwCl [((ad 0), .inr (0, [.ref (ad 3), .ref (ad 4), .ref (ad 9), .ref (ad 12), .ref (ad 23), .ref (ad 27), .ref (ad 1), .ref (ad 2), .int x_provedCount])), ((ad 4), .inr (2, [.ref (ad 5), .ref (ad 6), .ref (ad 7), .ref (ad 8), .int mn_variables, .int mn_order, .int mn_highest, .int mn_count])), ((ad 5), .inl (cs 0, 126, .inl mn_codes)), ((ad 12), .inr (4, [.ref (ad 3), .ref (ad 4), .ref (ad 18), .ref (ad 13), .ref (ad 14), .ref (ad 15), .ref (ad 16), .ref (ad 17), .int sp_degree, .int sp_size, .int sp_count])), ((ad 23), .inr (6, [.ref (ad 4), .ref (ad 12), .ref (ad 24), .ref (ad 25), .ref (ad 26), .int me_count, .int me_complete])), ((ad 25), .inl (cs 0, 126, .inl me_leads))] U.heap ∧ vwK dC dI cs U ∧ va_D (fun _ => True) [((ad 0), .inr (0, [.ref (ad 3), .ref (ad 4), .ref (ad 9), .ref (ad 12), .ref (ad 23), .ref (ad 27), .ref (ad 1), .ref (ad 2), .int x_provedCount])), ((ad 4), .inr (2, [.ref (ad 5), .ref (ad 6), .ref (ad 7), .ref (ad 8), .int mn_variables, .int mn_order, .int mn_highest, .int mn_count])), ((ad 5), .inl (cs 0, 126, .inl mn_codes)), ((ad 12), .inr (4, [.ref (ad 3), .ref (ad 4), .ref (ad 18), .ref (ad 13), .ref (ad 14), .ref (ad 15), .ref (ad 16), .ref (ad 17), .int sp_degree, .int sp_size, .int sp_count])), ((ad 23), .inr (6, [.ref (ad 4), .ref (ad 12), .ref (ad 24), .ref (ad 25), .ref (ad 26), .int me_count, .int me_complete])), ((ad 25), .inl (cs 0, 126, .inl me_leads))])) (va_Qi (fun (r : Int32) (u : Unit) => Q r) (at_x_lead dC dI cs (va_A [((ad 0), .inr (0, [.ref (ad 3), .ref (ad 4), .ref (ad 9), .ref (ad 12), .ref (ad 23), .ref (ad 27), .ref (ad 1), .ref (ad 2), .int x_provedCount])), ((ad 4), .inr (2, [.ref (ad 5), .ref (ad 6), .ref (ad 7), .ref (ad 8), .int mn_variables, .int mn_order, .int mn_highest, .int mn_count])), ((ad 5), .inl (cs 0, 126, .inl mn_codes)), ((ad 12), .inr (4, [.ref (ad 3), .ref (ad 4), .ref (ad 18), .ref (ad 13), .ref (ad 14), .ref (ad 15), .ref (ad 16), .ref (ad 17), .int sp_degree, .int sp_size, .int sp_count])), ((ad 23), .inr (6, [.ref (ad 4), .ref (ad 12), .ref (ad 24), .ref (ad 25), .ref (ad 26), .int me_count, .int me_complete])), ((ad 25), .inl (cs 0, 126, .inl me_leads))] sz) ad x_provedCount mn_variables mn_order mn_highest mn_count mn_codes sp_degree sp_size sp_count me_count me_complete me_leads) (va_A [((ad 0), .inr (0, [.ref (ad 3), .ref (ad 4), .ref (ad 9), .ref (ad 12), .ref (ad 23), .ref (ad 27), .ref (ad 1), .ref (ad 2), .int x_provedCount])), ((ad 4), .inr (2, [.ref (ad 5), .ref (ad 6), .ref (ad 7), .ref (ad 8), .int mn_variables, .int mn_order, .int mn_highest, .int mn_count])), ((ad 5), .inl (cs 0, 126, .inl mn_codes)), ((ad 12), .inr (4, [.ref (ad 3), .ref (ad 4), .ref (ad 18), .ref (ad 13), .ref (ad 14), .ref (ad 15), .ref (ad 16), .ref (ad 17), .int sp_degree, .int sp_size, .int sp_count])), ((ad 23), .inr (6, [.ref (ad 4), .ref (ad 12), .ref (ad 24), .ref (ad 25), .ref (ad 26), .int me_count, .int me_complete])), ((ad 25), .inl (cs 0, 126, .inl me_leads))] sz)) 0 0 (va_A [((ad 0), .inr (0, [.ref (ad 3), .ref (ad 4), .ref (ad 9), .ref (ad 12), .ref (ad 23), .ref (ad 27), .ref (ad 1), .ref (ad 2), .int x_provedCount])), ((ad 4), .inr (2, [.ref (ad 5), .ref (ad 6), .ref (ad 7), .ref (ad 8), .int mn_variables, .int mn_order, .int mn_highest, .int mn_count])), ((ad 5), .inl (cs 0, 126, .inl mn_codes)), ((ad 12), .inr (4, [.ref (ad 3), .ref (ad 4), .ref (ad 18), .ref (ad 13), .ref (ad 14), .ref (ad 15), .ref (ad 16), .ref (ad 17), .int sp_degree, .int sp_size, .int sp_count])), ((ad 23), .inr (6, [.ref (ad 4), .ref (ad 12), .ref (ad 24), .ref (ad 25), .ref (ad 26), .int me_count, .int me_complete])), ((ad 25), .inl (cs 0, 126, .inl me_leads))] sz) := by
  unfold vc_x_lead at hv
  refine Met.ofW (cc := b_x_lead) (maxL := 2) (ret := (some .int)) (by decide) rfl ?_
  intro p e s m args below meth c s₁ B hml hpc
  obtain ⟨rfl, hsz, hP, ⟨hK, hN⟩, hD0⟩ := hpc
  have hx := B.exec
  have hb := B.bytes
  have hr := B.returns
  have hts : ∀ w ∈ vwWS, w.before _ s = true := fun w h => atoms_spec (ws := w_x_lead) B.pre w (List.mem_cons_of_mem _ h)
  have hown : s.vm.findClass "SpaceBasis" = some m.cls := findClass_of_methodNamed B.named
  have hlocks := B.notSynchronized
  subst hsz
  have hD := hD0.self (sz := s.heap.size)
  generalize hAe : va_A [((ad 0), .inr (0, [.ref (ad 3), .ref (ad 4), .ref (ad 9), .ref (ad 12), .ref (ad 23), .ref (ad 27), .ref (ad 1), .ref (ad 2), .int x_provedCount])), ((ad 4), .inr (2, [.ref (ad 5), .ref (ad 6), .ref (ad 7), .ref (ad 8), .int mn_variables, .int mn_order, .int mn_highest, .int mn_count])), ((ad 5), .inl (cs 0, 126, .inl mn_codes)), ((ad 12), .inr (4, [.ref (ad 3), .ref (ad 4), .ref (ad 18), .ref (ad 13), .ref (ad 14), .ref (ad 15), .ref (ad 16), .ref (ad 17), .int sp_degree, .int sp_size, .int sp_count])), ((ad 23), .inr (6, [.ref (ad 4), .ref (ad 12), .ref (ad 24), .ref (ad 25), .ref (ad 26), .int me_count, .int me_complete])), ((ad 25), .inl (cs 0, 126, .inl me_leads))] s.heap.size = A at hD ⊢
  have hA : ∀ q : Nat, s.heap.size ≤ q → A q := fun q h => by rw [← hAe]; exact Or.inr h
  have hS : va_S A s.heap s.heap [] := va_S.rf
  have hl := lv_entry ([.ref (ad 0), .int p0]) (n := 2) (Nat.le_of_ble_eq_true rfl)
  rw [lg_entry_eq]
  generalize (lg_sl ([.ref (ad 0), .int p0]) ++ List.replicate (2 - (lg_sl ([.ref (ad 0), .int p0])).length) Slot.unset).toArray = ls at hl ⊢
  have hl : lv_has ls 2 [(0, .ref (ad 0)), (1, .int p0)] := hl
  refine lv_aload_n hx hb d_x_lead_0 rfl (lv_at hl 0 rfl) ?_
  refine lv_iload_n hx hb d_x_lead_1 rfl (lv_at hl 1 rfl) ?_
  have hPc := hP.sub (ws' := [((ad 0), .inr (0, [.ref (ad 3), .ref (ad 4), .ref (ad 9), .ref (ad 12), .ref (ad 23), .ref (ad 27), .ref (ad 1), .ref (ad 2), .int x_provedCount])), ((ad 12), .inr (4, [.ref (ad 3), .ref (ad 4), .ref (ad 18), .ref (ad 13), .ref (ad 14), .ref (ad 15), .ref (ad 16), .ref (ad 17), .int sp_degree, .int sp_size, .int sp_count])), ((ad 23), .inr (6, [.ref (ad 4), .ref (ad 12), .ref (ad 24), .ref (ad 25), .ref (ad 26), .int me_count, .int me_complete]))]) [0, 3, 4] rfl
  have hDc := hD.sub (ws' := [((ad 0), .inr (0, [.ref (ad 3), .ref (ad 4), .ref (ad 9), .ref (ad 12), .ref (ad 23), .ref (ad 27), .ref (ad 1), .ref (ad 2), .int x_provedCount])), ((ad 12), .inr (4, [.ref (ad 3), .ref (ad 4), .ref (ad 18), .ref (ad 13), .ref (ad 14), .ref (ad 15), .ref (ad 16), .ref (ad 17), .int sp_degree, .int sp_size, .int sp_count])), ((ad 23), .inr (6, [.ref (ad 4), .ref (ad 12), .ref (ad 24), .ref (ad 25), .ref (ad 26), .int me_count, .int me_complete]))]) [0, 3, 4] (by decide) rfl
  have hFc := va_free (wc := [((ad 0), .inr (0, [.ref (ad 3), .ref (ad 4), .ref (ad 9), .ref (ad 12), .ref (ad 23), .ref (ad 27), .ref (ad 1), .ref (ad 2), .int x_provedCount])), ((ad 12), .inr (4, [.ref (ad 3), .ref (ad 4), .ref (ad 18), .ref (ad 13), .ref (ad 14), .ref (ad 15), .ref (ad 16), .ref (ad 17), .int sp_degree, .int sp_size, .int sp_count])), ((ad 23), .inr (6, [.ref (ad 4), .ref (ad 12), .ref (ad 24), .ref (ad 25), .ref (ad 26), .int me_count, .int me_complete]))]) hD hS hA [0, 3, 4] rfl
  refine va_calli (va_runV (As := [.int p0]) (rest := []) ⟨hx, hb, hml, hown, hts⟩ (c_x_hasMember l dC dI cs ad  s.heap.size x_provedCount sp_degree sp_size sp_count me_count me_complete p0 _ hv) (cwV 1 hts (gd_V kw_299 kw_300 kw_5 kw_32 kw_301) rfl rfl rfl (by decide +kernel) ⟨Nat.le_of_ble_eq_true rfl, Nat.le_of_ble_eq_true rfl⟩) ⟨fun a U g mk q => by obtain ⟨q0, q1, qP, qK, qD⟩ := q; exact ⟨q0, q1, qP, qK.call, qD⟩, va_recv hK hPc (ci := 0) (q0 := 0) rfl rfl, fun U hU hW => ⟨rfl, by rw [hU], by rw [hU]; exact hPc, vwK.warm hW ⟨hK, hN⟩, hDc.weaken (fun _ _ _ _ => trivial)⟩⟩ rfl rfl hl.1 rfl (lv_room (Nat.le_of_ble_eq_true rfl)) d_x_lead_2 ⟨Nat.zero_le _, Nat.zero_le _⟩) hS (fun q _ h => hFc q h) hFc (fun r_1 _u t H1 locs1 ht hvm hw hB hz1 hk1 hS => ?_)
  obtain ⟨hP1, hD1⟩ := hB
  rw [ht] at hP1
  obtain ⟨hP, hD⟩ := va_join (wr := [((ad 4), .inr (2, [.ref (ad 5), .ref (ad 6), .ref (ad 7), .ref (ad 8), .int mn_variables, .int mn_order, .int mn_highest, .int mn_count])), ((ad 5), .inl (cs 0, 126, .inl mn_codes)), ((ad 25), .inl (cs 0, 126, .inl me_leads))]) (w1 := [((ad 0), .inr (0, [.ref (ad 3), .ref (ad 4), .ref (ad 9), .ref (ad 12), .ref (ad 23), .ref (ad 27), .ref (ad 1), .ref (ad 2), .int x_provedCount])), ((ad 12), .inr (4, [.ref (ad 3), .ref (ad 4), .ref (ad 18), .ref (ad 13), .ref (ad 14), .ref (ad 15), .ref (ad 16), .ref (ad 17), .int sp_degree, .int sp_size, .int sp_count])), ((ad 23), .inr (6, [.ref (ad 4), .ref (ad 12), .ref (ad 24), .ref (ad 25), .ref (ad 26), .int me_count, .int me_complete]))]) hP hD [0, 3, 4] [1, 2, 5] rfl rfl (by decide) (by decide) hk1 hFc hP1 hD1
  generalize H1 = H at hP hS ⊢
  generalize locs1 = locs at hS ⊢
  have hP : va_P (dC, dI) vwCl [((ad 4), .inr (2, [.ref (ad 5), .ref (ad 6), .ref (ad 7), .ref (ad 8), .int mn_variables, .int mn_order, .int mn_highest, .int mn_count])), ((ad 5), .inl (cs 0, 126, .inl mn_codes)), ((ad 25), .inl (cs 0, 126, .inl me_leads)), ((ad 0), .inr (0, [.ref (ad 3), .ref (ad 4), .ref (ad 9), .ref (ad 12), .ref (ad 23), .ref (ad 27), .ref (ad 1), .ref (ad 2), .int x_provedCount])), ((ad 12), .inr (4, [.ref (ad 3), .ref (ad 4), .ref (ad 18), .ref (ad 13), .ref (ad 14), .ref (ad 15), .ref (ad 16), .ref (ad 17), .int sp_degree, .int sp_size, .int sp_count])), ((ad 23), .inr (6, [.ref (ad 4), .ref (ad 12), .ref (ad 24), .ref (ad 25), .ref (ad 26), .int me_count, .int me_complete]))] H := hP
  have hD : va_D A [((ad 4), .inr (2, [.ref (ad 5), .ref (ad 6), .ref (ad 7), .ref (ad 8), .int mn_variables, .int mn_order, .int mn_highest, .int mn_count])), ((ad 5), .inl (cs 0, 126, .inl mn_codes)), ((ad 25), .inl (cs 0, 126, .inl me_leads)), ((ad 0), .inr (0, [.ref (ad 3), .ref (ad 4), .ref (ad 9), .ref (ad 12), .ref (ad 23), .ref (ad 27), .ref (ad 1), .ref (ad 2), .int x_provedCount])), ((ad 12), .inr (4, [.ref (ad 3), .ref (ad 4), .ref (ad 18), .ref (ad 13), .ref (ad 14), .ref (ad 15), .ref (ad 16), .ref (ad 17), .int sp_degree, .int sp_size, .int sp_count])), ((ad 23), .inr (6, [.ref (ad 4), .ref (ad 12), .ref (ad 24), .ref (ad 25), .ref (ad 26), .int me_count, .int me_complete]))] := hD
  have hv := hw
  try dsimp only at hv
  refine lv_if_eq (tgt := 28) hx hb d_x_lead_5 (by decide) (fun c_2 => ?_) (fun c_2 => ?_)
  · have hv := hv.1 c_2
    refine lv_iconst (v := (-1)) hx hb d_x_lead_28 (by decide) ?_
    have hP9 := hP.sub (ws' := [((ad 0), .inr (0, [.ref (ad 3), .ref (ad 4), .ref (ad 9), .ref (ad 12), .ref (ad 23), .ref (ad 27), .ref (ad 1), .ref (ad 2), .int x_provedCount])), ((ad 4), .inr (2, [.ref (ad 5), .ref (ad 6), .ref (ad 7), .ref (ad 8), .int mn_variables, .int mn_order, .int mn_highest, .int mn_count])), ((ad 5), .inl (cs 0, 126, .inl mn_codes)), ((ad 12), .inr (4, [.ref (ad 3), .ref (ad 4), .ref (ad 18), .ref (ad 13), .ref (ad 14), .ref (ad 15), .ref (ad 16), .ref (ad 17), .int sp_degree, .int sp_size, .int sp_count])), ((ad 23), .inr (6, [.ref (ad 4), .ref (ad 12), .ref (ad 24), .ref (ad 25), .ref (ad 26), .int me_count, .int me_complete])), ((ad 25), .inl (cs 0, 126, .inl me_leads))]) [3, 0, 1, 4, 5, 2] rfl
    have hD9 := hD.sub (ws' := [((ad 0), .inr (0, [.ref (ad 3), .ref (ad 4), .ref (ad 9), .ref (ad 12), .ref (ad 23), .ref (ad 27), .ref (ad 1), .ref (ad 2), .int x_provedCount])), ((ad 4), .inr (2, [.ref (ad 5), .ref (ad 6), .ref (ad 7), .ref (ad 8), .int mn_variables, .int mn_order, .int mn_highest, .int mn_count])), ((ad 5), .inl (cs 0, 126, .inl mn_codes)), ((ad 12), .inr (4, [.ref (ad 3), .ref (ad 4), .ref (ad 18), .ref (ad 13), .ref (ad 14), .ref (ad 15), .ref (ad 16), .ref (ad 17), .int sp_degree, .int sp_size, .int sp_count])), ((ad 23), .inr (6, [.ref (ad 4), .ref (ad 12), .ref (ad 24), .ref (ad 25), .ref (ad 26), .int me_count, .int me_complete])), ((ad 25), .inl (cs 0, 126, .inl me_leads))]) [3, 0, 1, 4, 5, 2] (by decide) rfl
    exact W.iret (v := (-1)) hx hb hr (fun t ht hW => ⟨⟨(-1), (), rfl, hv, by rw [ht]; exact hP9, hD9⟩, hS.F ht⟩) hS.2.2 d_x_lead_29
  · have hv := hv.2 c_2
    refine lv_aload_n hx hb d_x_lead_8 rfl (lv_at hl 0 rfl) ?_
    refine va_get (D := (dC, dI)) (ci := 0) (v := .ref (ad 4)) (C := R_x) (T := F_x) (N := 9) hx hb hts in_x hown hK hP 3 rfl rfl 1 (by decide) (hts _ kw_259) (fun _ h9 => h9) rfl d_x_lead_9 ?_
    refine va_getN (D := (dC, dI)) (ci := 2) (v := .ref (ad 5)) (C := R_mn) (T := F_mn) (N := 8) hx hb hts in_mn hown hK hP 0 rfl rfl 0 (by decide) (va_Nw.use rfl (hN _ kn_4)) (fun _ h9 => h9) rfl d_x_lead_12 ?_
    refine lv_aload_n hx hb d_x_lead_15 rfl (lv_at hl 0 rfl) ?_
    refine va_get (D := (dC, dI)) (ci := 0) (v := .ref (ad 23)) (C := R_x) (T := F_x) (N := 9) hx hb hts in_x hown hK hP 3 rfl rfl 4 (by decide) (hts _ kw_262) (fun _ h9 => h9) rfl d_x_lead_16 ?_
    refine va_getN (D := (dC, dI)) (ci := 6) (v := .ref (ad 25)) (C := R_me) (T := F_me) (N := 7) hx hb hts in_me hown hK hP 5 rfl rfl 3 (by decide) (va_Nw.use rfl (hN _ kn_36)) (fun _ h9 => h9) rfl d_x_lead_19 ?_
    refine lv_iload_n hx hb d_x_lead_22 rfl (lv_at hl 1 rfl) ?_
    obtain ⟨hi_3, hv⟩ := hv
    refine va_iald hx hb hK hP 2 0 rfl rfl hi_3 d_x_lead_23 ?_
    obtain ⟨hi_4, hv⟩ := hv
    refine va_iald hx hb hK hP 1 0 rfl rfl hi_4 d_x_lead_24 ?_
    refine lv_goto (tgt := 29) hx hb d_x_lead_25 (by decide) ?_
    have hP9 := hP.sub (ws' := [((ad 0), .inr (0, [.ref (ad 3), .ref (ad 4), .ref (ad 9), .ref (ad 12), .ref (ad 23), .ref (ad 27), .ref (ad 1), .ref (ad 2), .int x_provedCount])), ((ad 4), .inr (2, [.ref (ad 5), .ref (ad 6), .ref (ad 7), .ref (ad 8), .int mn_variables, .int mn_order, .int mn_highest, .int mn_count])), ((ad 5), .inl (cs 0, 126, .inl mn_codes)), ((ad 12), .inr (4, [.ref (ad 3), .ref (ad 4), .ref (ad 18), .ref (ad 13), .ref (ad 14), .ref (ad 15), .ref (ad 16), .ref (ad 17), .int sp_degree, .int sp_size, .int sp_count])), ((ad 23), .inr (6, [.ref (ad 4), .ref (ad 12), .ref (ad 24), .ref (ad 25), .ref (ad 26), .int me_count, .int me_complete])), ((ad 25), .inl (cs 0, 126, .inl me_leads))]) [3, 0, 1, 4, 5, 2] rfl
    have hD9 := hD.sub (ws' := [((ad 0), .inr (0, [.ref (ad 3), .ref (ad 4), .ref (ad 9), .ref (ad 12), .ref (ad 23), .ref (ad 27), .ref (ad 1), .ref (ad 2), .int x_provedCount])), ((ad 4), .inr (2, [.ref (ad 5), .ref (ad 6), .ref (ad 7), .ref (ad 8), .int mn_variables, .int mn_order, .int mn_highest, .int mn_count])), ((ad 5), .inl (cs 0, 126, .inl mn_codes)), ((ad 12), .inr (4, [.ref (ad 3), .ref (ad 4), .ref (ad 18), .ref (ad 13), .ref (ad 14), .ref (ad 15), .ref (ad 16), .ref (ad 17), .int sp_degree, .int sp_size, .int sp_count])), ((ad 23), .inr (6, [.ref (ad 4), .ref (ad 12), .ref (ad 24), .ref (ad 25), .ref (ad 26), .int me_count, .int me_complete])), ((ad 25), .inl (cs 0, 126, .inl me_leads))]) [3, 0, 1, 4, 5, 2] (by decide) rfl
    exact W.iret (v := (mn_codes ((me_leads p0.toNatClampNeg)).toNatClampNeg)) hx hb hr (fun t ht hW => ⟨⟨(mn_codes ((me_leads p0.toNatClampNeg)).toNatClampNeg), (), rfl, hv, by rw [ht]; exact hP9, hD9⟩, hS.F ht⟩) hS.2.2 d_x_lead_29
abbrev b_x_member : ByteArray := prog_1_method_9_code
def y_x_member : MethodName := ⟨"SpaceBasis", "member", "(II)I"⟩
def w_x_member : List Cond := Cond.code y_x_member b_x_member 3 (some .int) :: vwWS
theorem d_x_member_0 : decode b_x_member 0 = .ok (.aload_n 0, 1) := by decide +kernel
theorem d_x_member_1 : decode b_x_member 1 = .ok (.iload_n 1, 1) := by decide +kernel
theorem d_x_member_2 : decode b_x_member 2 = .ok (.invokevirtual 151, 3) := by decide +kernel
theorem d_x_member_5 : decode b_x_member 5 = .ok (.ifCond .eq 22, 3) := by decide +kernel
theorem d_x_member_8 : decode b_x_member 8 = .ok (.aload_n 0, 1) := by decide +kernel
theorem d_x_member_9 : decode b_x_member 9 = .ok (.getfield 44, 3) := by decide +kernel
theorem d_x_member_12 : decode b_x_member 12 = .ok (.iload_n 1, 1) := by decide +kernel
theorem d_x_member_13 : decode b_x_member 13 = .ok (.aload_n 0, 1) := by decide +kernel
theorem d_x_member_14 : decode b_x_member 14 = .ok (.getfield 19, 3) := by decide +kernel
theorem d_x_member_17 : decode b_x_member 17 = .ok (.iload_n 2, 1) := by decide +kernel
theorem d_x_member_18 : decode b_x_member 18 = .ok (.invokevirtual 87, 3) := by decide +kernel
theorem d_x_member_21 : decode b_x_member 21 = .ok (.invokevirtual 160, 3) := by decide +kernel
theorem d_x_member_24 : decode b_x_member 24 = .ok (.goto 4, 3) := by decide +kernel
theorem d_x_member_27 : decode b_x_member 27 = .ok (.iconst 0, 1) := by decide +kernel
theorem d_x_member_28 : decode b_x_member 28 = .ok (.ireturn, 1) := by decide +kernel
/-- SpaceBasis.member(II)I -/
def vc_x_member (x_provedCount : Int32) (mn_variables : Int32) (mn_order : Int32) (mn_highest : Int32) (mn_count : Int32) (mn_codes : Nat → Int32) (mn_firstOfDegree : Nat → Int32) (sp_degree : Int32) (sp_size : Int32) (sp_count : Int32) (me_count : Int32) (me_complete : Int32) (me_coefficients : Nat → Int32) (me_leads : Nat → Int32) (p0 : Int32) (p1 : Int32) (Q : Int32 → Prop) : Prop :=
  vc_x_hasMember x_provedCount sp_degree sp_size sp_count me_count me_complete p0 (fun (r_1 : Int32) => (((r_1 = 0) → (Q 0)) ∧ ((¬ (r_1 = 0)) → (vc_mn_placeOf mn_variables mn_order mn_highest mn_count mn_codes mn_firstOfDegree p1 (fun (r_3 : Int32) => vc_me_coefficientAt me_count me_complete me_coefficients me_leads p0 r_3 (fun (r_4 : Int32) => Q r_4))))))
abbrev at_x_member (dC : Nat → ClassId) (dI : Nat → Nat → Nat) (cs : Nat → ClassId) (A : Nat → Prop) (ad : Nat → Nat) (x_provedCount : Int32) (mn_variables : Int32) (mn_order : Int32) (mn_highest : Int32) (mn_count : Int32) (mn_codes : Nat → Int32) (mn_firstOfDegree : Nat → Int32) (sp_degree : Int32) (sp_size : Int32) (sp_count : Int32) (me_count : Int32) (me_complete : Int32) (me_coefficients : Nat → Int32) (me_leads : Nat → Int32) (u : Unit) (t : State) : Prop := match u with
  | _ => va_P (dC, dI) vwCl [((ad 0), .inr (0, [.ref (ad 3), .ref (ad 4), .ref (ad 9), .ref (ad 12), .ref (ad 23), .ref (ad 27), .ref (ad 1), .ref (ad 2), .int x_provedCount])), ((ad 4), .inr (2, [.ref (ad 5), .ref (ad 6), .ref (ad 7), .ref (ad 8), .int mn_variables, .int mn_order, .int mn_highest, .int mn_count])), ((ad 5), .inl (cs 0, 126, .inl mn_codes)), ((ad 7), .inl (cs 0, 32, .inl mn_firstOfDegree)), ((ad 12), .inr (4, [.ref (ad 3), .ref (ad 4), .ref (ad 18), .ref (ad 13), .ref (ad 14), .ref (ad 15), .ref (ad 16), .ref (ad 17), .int sp_degree, .int sp_size, .int sp_count])), ((ad 23), .inr (6, [.ref (ad 4), .ref (ad 12), .ref (ad 24), .ref (ad 25), .ref (ad 26), .int me_count, .int me_complete])), ((ad 24), .inl (cs 0, 8001, .inl me_coefficients)), ((ad 25), .inl (cs 0, 126, .inl me_leads))] t.heap ∧ va_D A [((ad 0), .inr (0, [.ref (ad 3), .ref (ad 4), .ref (ad 9), .ref (ad 12), .ref (ad 23), .ref (ad 27), .ref (ad 1), .ref (ad 2), .int x_provedCount])), ((ad 4), .inr (2, [.ref (ad 5), .ref (ad 6), .ref (ad 7), .ref (ad 8), .int mn_variables, .int mn_order, .int mn_highest, .int mn_count])), ((ad 5), .inl (cs 0, 126, .inl mn_codes)), ((ad 7), .inl (cs 0, 32, .inl mn_firstOfDegree)), ((ad 12), .inr (4, [.ref (ad 3), .ref (ad 4), .ref (ad 18), .ref (ad 13), .ref (ad 14), .ref (ad 15), .ref (ad 16), .ref (ad 17), .int sp_degree, .int sp_size, .int sp_count])), ((ad 23), .inr (6, [.ref (ad 4), .ref (ad 12), .ref (ad 24), .ref (ad 25), .ref (ad 26), .int me_count, .int me_complete])), ((ad 24), .inl (cs 0, 8001, .inl me_coefficients)), ((ad 25), .inl (cs 0, 126, .inl me_leads))]
set_option maxHeartbeats 4000000 in
set_option maxRecDepth 100000 in
theorem c_x_member (l : Launch) (dC : Nat → ClassId) (dI : Nat → Nat → Nat) (cs : Nat → ClassId) (ad : Nat → Nat)  (sz : Nat) (x_provedCount : Int32) (mn_variables : Int32) (mn_order : Int32) (mn_highest : Int32) (mn_count : Int32) (mn_codes : Nat → Int32) (mn_firstOfDegree : Nat → Int32) (sp_degree : Int32) (sp_size : Int32) (sp_count : Int32) (me_count : Int32) (me_complete : Int32) (me_coefficients : Nat → Int32) (me_leads : Nat → Int32) (p0 : Int32) (p1 : Int32) (Q : Int32 → Prop) (hv : vc_x_member x_provedCount mn_variables mn_order mn_highest mn_count mn_codes mn_firstOfDegree sp_degree sp_size sp_count me_count me_complete me_coefficients me_leads p0 p1 Q) : Met l y_x_member w_x_member ({ frames := 2, cells := 0, slots := 0, locals := 45 }) (va_Pc [.ref (ad 0), .int p0, .int p1] (fun U => U.heap.size = sz ∧ va_P (dC, dI) vwCl [((ad 0), .inr (0, [.ref (ad 3), .ref (ad 4), .ref (ad 9), .ref (ad 12), .ref (ad 23), .ref (ad 27), .ref (ad 1), .ref (ad 2), .int x_provedCount])), ((ad 4), .inr (2, [.ref (ad 5), .ref (ad 6), .ref (ad 7), .ref (ad 8), .int mn_variables, .int mn_order, .int mn_highest, .int mn_count])), ((ad 5), .inl (cs 0, 126, .inl mn_codes)), ((ad 7), .inl (cs 0, 32, .inl mn_firstOfDegree)), ((ad 12), .inr (4, [.ref (ad 3), .ref (ad 4), .ref (ad 18), .ref (ad 13), .ref (ad 14), .ref (ad 15), .ref (ad 16), .ref (ad 17), .int sp_degree, .int sp_size, .int sp_count])), ((ad 23), .inr (6, [.ref (ad 4), .ref (ad 12), .ref (ad 24), .ref (ad 25), .ref (ad 26), .int me_count, .int me_complete])), ((ad 24), .inl (cs 0, 8001, .inl me_coefficients)), ((ad 25), .inl (cs 0, 126, .inl me_leads))] U.heap ∧ vwK dC dI cs U ∧ va_D (fun _ => True) [((ad 0), .inr (0, [.ref (ad 3), .ref (ad 4), .ref (ad 9), .ref (ad 12), .ref (ad 23), .ref (ad 27), .ref (ad 1), .ref (ad 2), .int x_provedCount])), ((ad 4), .inr (2, [.ref (ad 5), .ref (ad 6), .ref (ad 7), .ref (ad 8), .int mn_variables, .int mn_order, .int mn_highest, .int mn_count])), ((ad 5), .inl (cs 0, 126, .inl mn_codes)), ((ad 7), .inl (cs 0, 32, .inl mn_firstOfDegree)), ((ad 12), .inr (4, [.ref (ad 3), .ref (ad 4), .ref (ad 18), .ref (ad 13), .ref (ad 14), .ref (ad 15), .ref (ad 16), .ref (ad 17), .int sp_degree, .int sp_size, .int sp_count])), ((ad 23), .inr (6, [.ref (ad 4), .ref (ad 12), .ref (ad 24), .ref (ad 25), .ref (ad 26), .int me_count, .int me_complete])), ((ad 24), .inl (cs 0, 8001, .inl me_coefficients)), ((ad 25), .inl (cs 0, 126, .inl me_leads))])) (va_Qi (fun (r : Int32) (u : Unit) => Q r) (at_x_member dC dI cs (va_A [((ad 0), .inr (0, [.ref (ad 3), .ref (ad 4), .ref (ad 9), .ref (ad 12), .ref (ad 23), .ref (ad 27), .ref (ad 1), .ref (ad 2), .int x_provedCount])), ((ad 4), .inr (2, [.ref (ad 5), .ref (ad 6), .ref (ad 7), .ref (ad 8), .int mn_variables, .int mn_order, .int mn_highest, .int mn_count])), ((ad 5), .inl (cs 0, 126, .inl mn_codes)), ((ad 7), .inl (cs 0, 32, .inl mn_firstOfDegree)), ((ad 12), .inr (4, [.ref (ad 3), .ref (ad 4), .ref (ad 18), .ref (ad 13), .ref (ad 14), .ref (ad 15), .ref (ad 16), .ref (ad 17), .int sp_degree, .int sp_size, .int sp_count])), ((ad 23), .inr (6, [.ref (ad 4), .ref (ad 12), .ref (ad 24), .ref (ad 25), .ref (ad 26), .int me_count, .int me_complete])), ((ad 24), .inl (cs 0, 8001, .inl me_coefficients)), ((ad 25), .inl (cs 0, 126, .inl me_leads))] sz) ad x_provedCount mn_variables mn_order mn_highest mn_count mn_codes mn_firstOfDegree sp_degree sp_size sp_count me_count me_complete me_coefficients me_leads) (va_A [((ad 0), .inr (0, [.ref (ad 3), .ref (ad 4), .ref (ad 9), .ref (ad 12), .ref (ad 23), .ref (ad 27), .ref (ad 1), .ref (ad 2), .int x_provedCount])), ((ad 4), .inr (2, [.ref (ad 5), .ref (ad 6), .ref (ad 7), .ref (ad 8), .int mn_variables, .int mn_order, .int mn_highest, .int mn_count])), ((ad 5), .inl (cs 0, 126, .inl mn_codes)), ((ad 7), .inl (cs 0, 32, .inl mn_firstOfDegree)), ((ad 12), .inr (4, [.ref (ad 3), .ref (ad 4), .ref (ad 18), .ref (ad 13), .ref (ad 14), .ref (ad 15), .ref (ad 16), .ref (ad 17), .int sp_degree, .int sp_size, .int sp_count])), ((ad 23), .inr (6, [.ref (ad 4), .ref (ad 12), .ref (ad 24), .ref (ad 25), .ref (ad 26), .int me_count, .int me_complete])), ((ad 24), .inl (cs 0, 8001, .inl me_coefficients)), ((ad 25), .inl (cs 0, 126, .inl me_leads))] sz)) 0 0 (va_A [((ad 0), .inr (0, [.ref (ad 3), .ref (ad 4), .ref (ad 9), .ref (ad 12), .ref (ad 23), .ref (ad 27), .ref (ad 1), .ref (ad 2), .int x_provedCount])), ((ad 4), .inr (2, [.ref (ad 5), .ref (ad 6), .ref (ad 7), .ref (ad 8), .int mn_variables, .int mn_order, .int mn_highest, .int mn_count])), ((ad 5), .inl (cs 0, 126, .inl mn_codes)), ((ad 7), .inl (cs 0, 32, .inl mn_firstOfDegree)), ((ad 12), .inr (4, [.ref (ad 3), .ref (ad 4), .ref (ad 18), .ref (ad 13), .ref (ad 14), .ref (ad 15), .ref (ad 16), .ref (ad 17), .int sp_degree, .int sp_size, .int sp_count])), ((ad 23), .inr (6, [.ref (ad 4), .ref (ad 12), .ref (ad 24), .ref (ad 25), .ref (ad 26), .int me_count, .int me_complete])), ((ad 24), .inl (cs 0, 8001, .inl me_coefficients)), ((ad 25), .inl (cs 0, 126, .inl me_leads))] sz) := by
  unfold vc_x_member at hv
  refine Met.ofW (cc := b_x_member) (maxL := 3) (ret := (some .int)) (by decide) rfl ?_
  intro p e s m args below meth c s₁ B hml hpc
  obtain ⟨rfl, hsz, hP, ⟨hK, hN⟩, hD0⟩ := hpc
  have hx := B.exec
  have hb := B.bytes
  have hr := B.returns
  have hts : ∀ w ∈ vwWS, w.before _ s = true := fun w h => atoms_spec (ws := w_x_member) B.pre w (List.mem_cons_of_mem _ h)
  have hown : s.vm.findClass "SpaceBasis" = some m.cls := findClass_of_methodNamed B.named
  have hlocks := B.notSynchronized
  subst hsz
  have hD := hD0.self (sz := s.heap.size)
  generalize hAe : va_A [((ad 0), .inr (0, [.ref (ad 3), .ref (ad 4), .ref (ad 9), .ref (ad 12), .ref (ad 23), .ref (ad 27), .ref (ad 1), .ref (ad 2), .int x_provedCount])), ((ad 4), .inr (2, [.ref (ad 5), .ref (ad 6), .ref (ad 7), .ref (ad 8), .int mn_variables, .int mn_order, .int mn_highest, .int mn_count])), ((ad 5), .inl (cs 0, 126, .inl mn_codes)), ((ad 7), .inl (cs 0, 32, .inl mn_firstOfDegree)), ((ad 12), .inr (4, [.ref (ad 3), .ref (ad 4), .ref (ad 18), .ref (ad 13), .ref (ad 14), .ref (ad 15), .ref (ad 16), .ref (ad 17), .int sp_degree, .int sp_size, .int sp_count])), ((ad 23), .inr (6, [.ref (ad 4), .ref (ad 12), .ref (ad 24), .ref (ad 25), .ref (ad 26), .int me_count, .int me_complete])), ((ad 24), .inl (cs 0, 8001, .inl me_coefficients)), ((ad 25), .inl (cs 0, 126, .inl me_leads))] s.heap.size = A at hD ⊢
  have hA : ∀ q : Nat, s.heap.size ≤ q → A q := fun q h => by rw [← hAe]; exact Or.inr h
  have hS : va_S A s.heap s.heap [] := va_S.rf
  have hl := lv_entry ([.ref (ad 0), .int p0, .int p1]) (n := 3) (Nat.le_of_ble_eq_true rfl)
  rw [lg_entry_eq]
  generalize (lg_sl ([.ref (ad 0), .int p0, .int p1]) ++ List.replicate (3 - (lg_sl ([.ref (ad 0), .int p0, .int p1])).length) Slot.unset).toArray = ls at hl ⊢
  have hl : lv_has ls 3 [(0, .ref (ad 0)), (1, .int p0), (2, .int p1)] := hl
  refine lv_aload_n hx hb d_x_member_0 rfl (lv_at hl 0 rfl) ?_
  refine lv_iload_n hx hb d_x_member_1 rfl (lv_at hl 1 rfl) ?_
  have hPc := hP.sub (ws' := [((ad 0), .inr (0, [.ref (ad 3), .ref (ad 4), .ref (ad 9), .ref (ad 12), .ref (ad 23), .ref (ad 27), .ref (ad 1), .ref (ad 2), .int x_provedCount])), ((ad 12), .inr (4, [.ref (ad 3), .ref (ad 4), .ref (ad 18), .ref (ad 13), .ref (ad 14), .ref (ad 15), .ref (ad 16), .ref (ad 17), .int sp_degree, .int sp_size, .int sp_count])), ((ad 23), .inr (6, [.ref (ad 4), .ref (ad 12), .ref (ad 24), .ref (ad 25), .ref (ad 26), .int me_count, .int me_complete]))]) [0, 4, 5] rfl
  have hDc := hD.sub (ws' := [((ad 0), .inr (0, [.ref (ad 3), .ref (ad 4), .ref (ad 9), .ref (ad 12), .ref (ad 23), .ref (ad 27), .ref (ad 1), .ref (ad 2), .int x_provedCount])), ((ad 12), .inr (4, [.ref (ad 3), .ref (ad 4), .ref (ad 18), .ref (ad 13), .ref (ad 14), .ref (ad 15), .ref (ad 16), .ref (ad 17), .int sp_degree, .int sp_size, .int sp_count])), ((ad 23), .inr (6, [.ref (ad 4), .ref (ad 12), .ref (ad 24), .ref (ad 25), .ref (ad 26), .int me_count, .int me_complete]))]) [0, 4, 5] (by decide) rfl
  have hFc := va_free (wc := [((ad 0), .inr (0, [.ref (ad 3), .ref (ad 4), .ref (ad 9), .ref (ad 12), .ref (ad 23), .ref (ad 27), .ref (ad 1), .ref (ad 2), .int x_provedCount])), ((ad 12), .inr (4, [.ref (ad 3), .ref (ad 4), .ref (ad 18), .ref (ad 13), .ref (ad 14), .ref (ad 15), .ref (ad 16), .ref (ad 17), .int sp_degree, .int sp_size, .int sp_count])), ((ad 23), .inr (6, [.ref (ad 4), .ref (ad 12), .ref (ad 24), .ref (ad 25), .ref (ad 26), .int me_count, .int me_complete]))]) hD hS hA [0, 4, 5] rfl
  refine va_calli (va_runV (As := [.int p0]) (rest := []) ⟨hx, hb, hml, hown, hts⟩ (c_x_hasMember l dC dI cs ad  s.heap.size x_provedCount sp_degree sp_size sp_count me_count me_complete p0 _ hv) (cwV 1 hts (gd_V kw_299 kw_300 kw_5 kw_32 kw_301) rfl rfl rfl (by decide +kernel) ⟨Nat.le_of_ble_eq_true rfl, Nat.le_of_ble_eq_true rfl⟩) ⟨fun a U g mk q => by obtain ⟨q0, q1, qP, qK, qD⟩ := q; exact ⟨q0, q1, qP, qK.call, qD⟩, va_recv hK hPc (ci := 0) (q0 := 0) rfl rfl, fun U hU hW => ⟨rfl, by rw [hU], by rw [hU]; exact hPc, vwK.warm hW ⟨hK, hN⟩, hDc.weaken (fun _ _ _ _ => trivial)⟩⟩ rfl rfl hl.1 rfl (lv_room (Nat.le_of_ble_eq_true rfl)) d_x_member_2 ⟨Nat.zero_le _, Nat.zero_le _⟩) hS (fun q _ h => hFc q h) hFc (fun r_1 _u t H1 locs1 ht hvm hw hB hz1 hk1 hS => ?_)
  obtain ⟨hP1, hD1⟩ := hB
  rw [ht] at hP1
  obtain ⟨hP, hD⟩ := va_join (wr := [((ad 4), .inr (2, [.ref (ad 5), .ref (ad 6), .ref (ad 7), .ref (ad 8), .int mn_variables, .int mn_order, .int mn_highest, .int mn_count])), ((ad 5), .inl (cs 0, 126, .inl mn_codes)), ((ad 7), .inl (cs 0, 32, .inl mn_firstOfDegree)), ((ad 24), .inl (cs 0, 8001, .inl me_coefficients)), ((ad 25), .inl (cs 0, 126, .inl me_leads))]) (w1 := [((ad 0), .inr (0, [.ref (ad 3), .ref (ad 4), .ref (ad 9), .ref (ad 12), .ref (ad 23), .ref (ad 27), .ref (ad 1), .ref (ad 2), .int x_provedCount])), ((ad 12), .inr (4, [.ref (ad 3), .ref (ad 4), .ref (ad 18), .ref (ad 13), .ref (ad 14), .ref (ad 15), .ref (ad 16), .ref (ad 17), .int sp_degree, .int sp_size, .int sp_count])), ((ad 23), .inr (6, [.ref (ad 4), .ref (ad 12), .ref (ad 24), .ref (ad 25), .ref (ad 26), .int me_count, .int me_complete]))]) hP hD [0, 4, 5] [1, 2, 3, 6, 7] rfl rfl (by decide) (by decide) hk1 hFc hP1 hD1
  generalize H1 = H at hP hS ⊢
  generalize locs1 = locs at hS ⊢
  have hP : va_P (dC, dI) vwCl [((ad 4), .inr (2, [.ref (ad 5), .ref (ad 6), .ref (ad 7), .ref (ad 8), .int mn_variables, .int mn_order, .int mn_highest, .int mn_count])), ((ad 5), .inl (cs 0, 126, .inl mn_codes)), ((ad 7), .inl (cs 0, 32, .inl mn_firstOfDegree)), ((ad 24), .inl (cs 0, 8001, .inl me_coefficients)), ((ad 25), .inl (cs 0, 126, .inl me_leads)), ((ad 0), .inr (0, [.ref (ad 3), .ref (ad 4), .ref (ad 9), .ref (ad 12), .ref (ad 23), .ref (ad 27), .ref (ad 1), .ref (ad 2), .int x_provedCount])), ((ad 12), .inr (4, [.ref (ad 3), .ref (ad 4), .ref (ad 18), .ref (ad 13), .ref (ad 14), .ref (ad 15), .ref (ad 16), .ref (ad 17), .int sp_degree, .int sp_size, .int sp_count])), ((ad 23), .inr (6, [.ref (ad 4), .ref (ad 12), .ref (ad 24), .ref (ad 25), .ref (ad 26), .int me_count, .int me_complete]))] H := hP
  have hD : va_D A [((ad 4), .inr (2, [.ref (ad 5), .ref (ad 6), .ref (ad 7), .ref (ad 8), .int mn_variables, .int mn_order, .int mn_highest, .int mn_count])), ((ad 5), .inl (cs 0, 126, .inl mn_codes)), ((ad 7), .inl (cs 0, 32, .inl mn_firstOfDegree)), ((ad 24), .inl (cs 0, 8001, .inl me_coefficients)), ((ad 25), .inl (cs 0, 126, .inl me_leads)), ((ad 0), .inr (0, [.ref (ad 3), .ref (ad 4), .ref (ad 9), .ref (ad 12), .ref (ad 23), .ref (ad 27), .ref (ad 1), .ref (ad 2), .int x_provedCount])), ((ad 12), .inr (4, [.ref (ad 3), .ref (ad 4), .ref (ad 18), .ref (ad 13), .ref (ad 14), .ref (ad 15), .ref (ad 16), .ref (ad 17), .int sp_degree, .int sp_size, .int sp_count])), ((ad 23), .inr (6, [.ref (ad 4), .ref (ad 12), .ref (ad 24), .ref (ad 25), .ref (ad 26), .int me_count, .int me_complete]))] := hD
  have hv := hw
  try dsimp only at hv
  refine lv_if_eq (tgt := 27) hx hb d_x_member_5 (by decide) (fun c_2 => ?_) (fun c_2 => ?_)
  · have hv := hv.1 c_2
    refine lv_iconst (v := 0) hx hb d_x_member_27 (by decide) ?_
    have hP9 := hP.sub (ws' := [((ad 0), .inr (0, [.ref (ad 3), .ref (ad 4), .ref (ad 9), .ref (ad 12), .ref (ad 23), .ref (ad 27), .ref (ad 1), .ref (ad 2), .int x_provedCount])), ((ad 4), .inr (2, [.ref (ad 5), .ref (ad 6), .ref (ad 7), .ref (ad 8), .int mn_variables, .int mn_order, .int mn_highest, .int mn_count])), ((ad 5), .inl (cs 0, 126, .inl mn_codes)), ((ad 7), .inl (cs 0, 32, .inl mn_firstOfDegree)), ((ad 12), .inr (4, [.ref (ad 3), .ref (ad 4), .ref (ad 18), .ref (ad 13), .ref (ad 14), .ref (ad 15), .ref (ad 16), .ref (ad 17), .int sp_degree, .int sp_size, .int sp_count])), ((ad 23), .inr (6, [.ref (ad 4), .ref (ad 12), .ref (ad 24), .ref (ad 25), .ref (ad 26), .int me_count, .int me_complete])), ((ad 24), .inl (cs 0, 8001, .inl me_coefficients)), ((ad 25), .inl (cs 0, 126, .inl me_leads))]) [5, 0, 1, 2, 6, 7, 3, 4] rfl
    have hD9 := hD.sub (ws' := [((ad 0), .inr (0, [.ref (ad 3), .ref (ad 4), .ref (ad 9), .ref (ad 12), .ref (ad 23), .ref (ad 27), .ref (ad 1), .ref (ad 2), .int x_provedCount])), ((ad 4), .inr (2, [.ref (ad 5), .ref (ad 6), .ref (ad 7), .ref (ad 8), .int mn_variables, .int mn_order, .int mn_highest, .int mn_count])), ((ad 5), .inl (cs 0, 126, .inl mn_codes)), ((ad 7), .inl (cs 0, 32, .inl mn_firstOfDegree)), ((ad 12), .inr (4, [.ref (ad 3), .ref (ad 4), .ref (ad 18), .ref (ad 13), .ref (ad 14), .ref (ad 15), .ref (ad 16), .ref (ad 17), .int sp_degree, .int sp_size, .int sp_count])), ((ad 23), .inr (6, [.ref (ad 4), .ref (ad 12), .ref (ad 24), .ref (ad 25), .ref (ad 26), .int me_count, .int me_complete])), ((ad 24), .inl (cs 0, 8001, .inl me_coefficients)), ((ad 25), .inl (cs 0, 126, .inl me_leads))]) [5, 0, 1, 2, 6, 7, 3, 4] (by decide) rfl
    exact W.iret (v := 0) hx hb hr (fun t ht hW => ⟨⟨0, (), rfl, hv, by rw [ht]; exact hP9, hD9⟩, hS.F ht⟩) hS.2.2 d_x_member_28
  · have hv := hv.2 c_2
    refine lv_aload_n hx hb d_x_member_8 rfl (lv_at hl 0 rfl) ?_
    refine va_get (D := (dC, dI)) (ci := 0) (v := .ref (ad 23)) (C := R_x) (T := F_x) (N := 9) hx hb hts in_x hown hK hP 5 rfl rfl 4 (by decide) (hts _ kw_262) (fun _ h9 => h9) rfl d_x_member_9 ?_
    refine lv_iload_n hx hb d_x_member_12 rfl (lv_at hl 1 rfl) ?_
    refine lv_aload_n hx hb d_x_member_13 rfl (lv_at hl 0 rfl) ?_
    refine va_get (D := (dC, dI)) (ci := 0) (v := .ref (ad 4)) (C := R_x) (T := F_x) (N := 9) hx hb hts in_x hown hK hP 5 rfl rfl 1 (by decide) (hts _ kw_259) (fun _ h9 => h9) rfl d_x_member_14 ?_
    refine lv_iload_n hx hb d_x_member_17 rfl (lv_at hl 2 rfl) ?_
    have hPc := hP.sub (ws' := [((ad 4), .inr (2, [.ref (ad 5), .ref (ad 6), .ref (ad 7), .ref (ad 8), .int mn_variables, .int mn_order, .int mn_highest, .int mn_count])), ((ad 5), .inl (cs 0, 126, .inl mn_codes)), ((ad 7), .inl (cs 0, 32, .inl mn_firstOfDegree))]) [0, 1, 2] rfl
    have hDc := hD.sub (ws' := [((ad 4), .inr (2, [.ref (ad 5), .ref (ad 6), .ref (ad 7), .ref (ad 8), .int mn_variables, .int mn_order, .int mn_highest, .int mn_count])), ((ad 5), .inl (cs 0, 126, .inl mn_codes)), ((ad 7), .inl (cs 0, 32, .inl mn_firstOfDegree))]) [0, 1, 2] (by decide) rfl
    have hFc := va_free (wc := [((ad 4), .inr (2, [.ref (ad 5), .ref (ad 6), .ref (ad 7), .ref (ad 8), .int mn_variables, .int mn_order, .int mn_highest, .int mn_count])), ((ad 5), .inl (cs 0, 126, .inl mn_codes)), ((ad 7), .inl (cs 0, 32, .inl mn_firstOfDegree))]) hD hS hA [0, 1, 2] rfl
    refine va_calli (va_runV (As := [.int p1]) (rest := [.int p0, .ref (ad 23)]) ⟨hx, hb, hml, hown, hts⟩ (c_mn_placeOf l dC dI cs ad  H.size mn_variables mn_order mn_highest mn_count mn_codes mn_firstOfDegree p1 _ hv) (cwV 1 hts (gd_V kw_290 kw_239 kw_240 kw_34 kw_241) rfl rfl rfl (by decide +kernel) ⟨Nat.le_of_ble_eq_true rfl, Nat.le_of_ble_eq_true rfl⟩) ⟨fun a U g mk q => by obtain ⟨q0, q1, qP, qK, qD⟩ := q; exact ⟨q0, q1, qP, qK.call, qD⟩, va_recv hK hPc (ci := 2) (q0 := 0) rfl rfl, fun U hU hW => ⟨rfl, by rw [hU], by rw [hU]; exact hPc, vwK.warm hW ⟨hK, hN⟩, hDc.weaken (fun _ _ _ _ => trivial)⟩⟩ rfl rfl hl.1 rfl (lv_room (Nat.le_of_ble_eq_true rfl)) d_x_member_18 ⟨Nat.zero_le _, Nat.zero_le _⟩) hS (fun q _ h => hFc q h) hFc (fun r_3 _u t H1 locs1 ht hvm hw hB hz1 hk1 hS => ?_)
    obtain ⟨hP1, hD1⟩ := hB
    rw [ht] at hP1
    obtain ⟨hP, hD⟩ := va_join (wr := [((ad 24), .inl (cs 0, 8001, .inl me_coefficients)), ((ad 25), .inl (cs 0, 126, .inl me_leads)), ((ad 0), .inr (0, [.ref (ad 3), .ref (ad 4), .ref (ad 9), .ref (ad 12), .ref (ad 23), .ref (ad 27), .ref (ad 1), .ref (ad 2), .int x_provedCount])), ((ad 12), .inr (4, [.ref (ad 3), .ref (ad 4), .ref (ad 18), .ref (ad 13), .ref (ad 14), .ref (ad 15), .ref (ad 16), .ref (ad 17), .int sp_degree, .int sp_size, .int sp_count])), ((ad 23), .inr (6, [.ref (ad 4), .ref (ad 12), .ref (ad 24), .ref (ad 25), .ref (ad 26), .int me_count, .int me_complete]))]) (w1 := [((ad 4), .inr (2, [.ref (ad 5), .ref (ad 6), .ref (ad 7), .ref (ad 8), .int mn_variables, .int mn_order, .int mn_highest, .int mn_count])), ((ad 5), .inl (cs 0, 126, .inl mn_codes)), ((ad 7), .inl (cs 0, 32, .inl mn_firstOfDegree))]) hP hD [0, 1, 2] [3, 4, 5, 6, 7] rfl rfl (by decide) (by decide) hk1 hFc hP1 hD1
    generalize H1 = H at hP hS ⊢
    generalize locs1 = locs at hS ⊢
    have hP : va_P (dC, dI) vwCl [((ad 24), .inl (cs 0, 8001, .inl me_coefficients)), ((ad 25), .inl (cs 0, 126, .inl me_leads)), ((ad 0), .inr (0, [.ref (ad 3), .ref (ad 4), .ref (ad 9), .ref (ad 12), .ref (ad 23), .ref (ad 27), .ref (ad 1), .ref (ad 2), .int x_provedCount])), ((ad 12), .inr (4, [.ref (ad 3), .ref (ad 4), .ref (ad 18), .ref (ad 13), .ref (ad 14), .ref (ad 15), .ref (ad 16), .ref (ad 17), .int sp_degree, .int sp_size, .int sp_count])), ((ad 23), .inr (6, [.ref (ad 4), .ref (ad 12), .ref (ad 24), .ref (ad 25), .ref (ad 26), .int me_count, .int me_complete])), ((ad 4), .inr (2, [.ref (ad 5), .ref (ad 6), .ref (ad 7), .ref (ad 8), .int mn_variables, .int mn_order, .int mn_highest, .int mn_count])), ((ad 5), .inl (cs 0, 126, .inl mn_codes)), ((ad 7), .inl (cs 0, 32, .inl mn_firstOfDegree))] H := hP
    have hD : va_D A [((ad 24), .inl (cs 0, 8001, .inl me_coefficients)), ((ad 25), .inl (cs 0, 126, .inl me_leads)), ((ad 0), .inr (0, [.ref (ad 3), .ref (ad 4), .ref (ad 9), .ref (ad 12), .ref (ad 23), .ref (ad 27), .ref (ad 1), .ref (ad 2), .int x_provedCount])), ((ad 12), .inr (4, [.ref (ad 3), .ref (ad 4), .ref (ad 18), .ref (ad 13), .ref (ad 14), .ref (ad 15), .ref (ad 16), .ref (ad 17), .int sp_degree, .int sp_size, .int sp_count])), ((ad 23), .inr (6, [.ref (ad 4), .ref (ad 12), .ref (ad 24), .ref (ad 25), .ref (ad 26), .int me_count, .int me_complete])), ((ad 4), .inr (2, [.ref (ad 5), .ref (ad 6), .ref (ad 7), .ref (ad 8), .int mn_variables, .int mn_order, .int mn_highest, .int mn_count])), ((ad 5), .inl (cs 0, 126, .inl mn_codes)), ((ad 7), .inl (cs 0, 32, .inl mn_firstOfDegree))] := hD
    have hv := hw
    try dsimp only at hv
    have hPc := hP.sub (ws' := [((ad 23), .inr (6, [.ref (ad 4), .ref (ad 12), .ref (ad 24), .ref (ad 25), .ref (ad 26), .int me_count, .int me_complete])), ((ad 24), .inl (cs 0, 8001, .inl me_coefficients)), ((ad 25), .inl (cs 0, 126, .inl me_leads))]) [4, 0, 1] rfl
    have hDc := hD.sub (ws' := [((ad 23), .inr (6, [.ref (ad 4), .ref (ad 12), .ref (ad 24), .ref (ad 25), .ref (ad 26), .int me_count, .int me_complete])), ((ad 24), .inl (cs 0, 8001, .inl me_coefficients)), ((ad 25), .inl (cs 0, 126, .inl me_leads))]) [4, 0, 1] (by decide) rfl
    have hFc := va_free (wc := [((ad 23), .inr (6, [.ref (ad 4), .ref (ad 12), .ref (ad 24), .ref (ad 25), .ref (ad 26), .int me_count, .int me_complete])), ((ad 24), .inl (cs 0, 8001, .inl me_coefficients)), ((ad 25), .inl (cs 0, 126, .inl me_leads))]) hD hS hA [4, 0, 1] rfl
    refine va_calli (va_runV (As := [.int p0, .int r_3]) (rest := []) ⟨hx, hb, hml, hown, hts⟩ (c_me_coefficientAt l dC dI cs ad  H.size me_count me_complete me_coefficients me_leads p0 r_3 _ hv) (cwV 2 hts (gd_V kw_306 kw_307 kw_308 kw_38 kw_309) rfl rfl rfl (by decide +kernel) ⟨Nat.le_of_ble_eq_true rfl, Nat.le_of_ble_eq_true rfl⟩) ⟨fun a U g mk q => by obtain ⟨q0, q1, qP, qK, qD⟩ := q; exact ⟨q0, q1, qP, qK.call, qD⟩, va_recv hK hPc (ci := 6) (q0 := 0) rfl rfl, fun U hU hW => ⟨rfl, by rw [hU], by rw [hU]; exact hPc, vwK.warm hW ⟨hK, hN⟩, hDc.weaken (fun _ _ _ _ => trivial)⟩⟩ rfl rfl hl.1 rfl (lv_room (Nat.le_of_ble_eq_true rfl)) d_x_member_21 ⟨Nat.zero_le _, Nat.zero_le _⟩) hS (fun q _ h => hFc q h) hFc (fun r_4 _u t H1 locs1 ht hvm hw hB hz1 hk1 hS => ?_)
    obtain ⟨hP1, hD1⟩ := hB
    rw [ht] at hP1
    obtain ⟨hP, hD⟩ := va_join (wr := [((ad 0), .inr (0, [.ref (ad 3), .ref (ad 4), .ref (ad 9), .ref (ad 12), .ref (ad 23), .ref (ad 27), .ref (ad 1), .ref (ad 2), .int x_provedCount])), ((ad 12), .inr (4, [.ref (ad 3), .ref (ad 4), .ref (ad 18), .ref (ad 13), .ref (ad 14), .ref (ad 15), .ref (ad 16), .ref (ad 17), .int sp_degree, .int sp_size, .int sp_count])), ((ad 4), .inr (2, [.ref (ad 5), .ref (ad 6), .ref (ad 7), .ref (ad 8), .int mn_variables, .int mn_order, .int mn_highest, .int mn_count])), ((ad 5), .inl (cs 0, 126, .inl mn_codes)), ((ad 7), .inl (cs 0, 32, .inl mn_firstOfDegree))]) (w1 := [((ad 23), .inr (6, [.ref (ad 4), .ref (ad 12), .ref (ad 24), .ref (ad 25), .ref (ad 26), .int me_count, .int me_complete])), ((ad 24), .inl (cs 0, 8001, .inl me_coefficients)), ((ad 25), .inl (cs 0, 126, .inl me_leads))]) hP hD [4, 0, 1] [2, 3, 5, 6, 7] rfl rfl (by decide) (by decide) hk1 hFc hP1 hD1
    generalize H1 = H at hP hS ⊢
    generalize locs1 = locs at hS ⊢
    have hP : va_P (dC, dI) vwCl [((ad 0), .inr (0, [.ref (ad 3), .ref (ad 4), .ref (ad 9), .ref (ad 12), .ref (ad 23), .ref (ad 27), .ref (ad 1), .ref (ad 2), .int x_provedCount])), ((ad 12), .inr (4, [.ref (ad 3), .ref (ad 4), .ref (ad 18), .ref (ad 13), .ref (ad 14), .ref (ad 15), .ref (ad 16), .ref (ad 17), .int sp_degree, .int sp_size, .int sp_count])), ((ad 4), .inr (2, [.ref (ad 5), .ref (ad 6), .ref (ad 7), .ref (ad 8), .int mn_variables, .int mn_order, .int mn_highest, .int mn_count])), ((ad 5), .inl (cs 0, 126, .inl mn_codes)), ((ad 7), .inl (cs 0, 32, .inl mn_firstOfDegree)), ((ad 23), .inr (6, [.ref (ad 4), .ref (ad 12), .ref (ad 24), .ref (ad 25), .ref (ad 26), .int me_count, .int me_complete])), ((ad 24), .inl (cs 0, 8001, .inl me_coefficients)), ((ad 25), .inl (cs 0, 126, .inl me_leads))] H := hP
    have hD : va_D A [((ad 0), .inr (0, [.ref (ad 3), .ref (ad 4), .ref (ad 9), .ref (ad 12), .ref (ad 23), .ref (ad 27), .ref (ad 1), .ref (ad 2), .int x_provedCount])), ((ad 12), .inr (4, [.ref (ad 3), .ref (ad 4), .ref (ad 18), .ref (ad 13), .ref (ad 14), .ref (ad 15), .ref (ad 16), .ref (ad 17), .int sp_degree, .int sp_size, .int sp_count])), ((ad 4), .inr (2, [.ref (ad 5), .ref (ad 6), .ref (ad 7), .ref (ad 8), .int mn_variables, .int mn_order, .int mn_highest, .int mn_count])), ((ad 5), .inl (cs 0, 126, .inl mn_codes)), ((ad 7), .inl (cs 0, 32, .inl mn_firstOfDegree)), ((ad 23), .inr (6, [.ref (ad 4), .ref (ad 12), .ref (ad 24), .ref (ad 25), .ref (ad 26), .int me_count, .int me_complete])), ((ad 24), .inl (cs 0, 8001, .inl me_coefficients)), ((ad 25), .inl (cs 0, 126, .inl me_leads))] := hD
    have hv := hw
    try dsimp only at hv
    refine lv_goto (tgt := 28) hx hb d_x_member_24 (by decide) ?_
    have hP9 := hP.sub (ws' := [((ad 0), .inr (0, [.ref (ad 3), .ref (ad 4), .ref (ad 9), .ref (ad 12), .ref (ad 23), .ref (ad 27), .ref (ad 1), .ref (ad 2), .int x_provedCount])), ((ad 4), .inr (2, [.ref (ad 5), .ref (ad 6), .ref (ad 7), .ref (ad 8), .int mn_variables, .int mn_order, .int mn_highest, .int mn_count])), ((ad 5), .inl (cs 0, 126, .inl mn_codes)), ((ad 7), .inl (cs 0, 32, .inl mn_firstOfDegree)), ((ad 12), .inr (4, [.ref (ad 3), .ref (ad 4), .ref (ad 18), .ref (ad 13), .ref (ad 14), .ref (ad 15), .ref (ad 16), .ref (ad 17), .int sp_degree, .int sp_size, .int sp_count])), ((ad 23), .inr (6, [.ref (ad 4), .ref (ad 12), .ref (ad 24), .ref (ad 25), .ref (ad 26), .int me_count, .int me_complete])), ((ad 24), .inl (cs 0, 8001, .inl me_coefficients)), ((ad 25), .inl (cs 0, 126, .inl me_leads))]) [0, 2, 3, 4, 1, 5, 6, 7] rfl
    have hD9 := hD.sub (ws' := [((ad 0), .inr (0, [.ref (ad 3), .ref (ad 4), .ref (ad 9), .ref (ad 12), .ref (ad 23), .ref (ad 27), .ref (ad 1), .ref (ad 2), .int x_provedCount])), ((ad 4), .inr (2, [.ref (ad 5), .ref (ad 6), .ref (ad 7), .ref (ad 8), .int mn_variables, .int mn_order, .int mn_highest, .int mn_count])), ((ad 5), .inl (cs 0, 126, .inl mn_codes)), ((ad 7), .inl (cs 0, 32, .inl mn_firstOfDegree)), ((ad 12), .inr (4, [.ref (ad 3), .ref (ad 4), .ref (ad 18), .ref (ad 13), .ref (ad 14), .ref (ad 15), .ref (ad 16), .ref (ad 17), .int sp_degree, .int sp_size, .int sp_count])), ((ad 23), .inr (6, [.ref (ad 4), .ref (ad 12), .ref (ad 24), .ref (ad 25), .ref (ad 26), .int me_count, .int me_complete])), ((ad 24), .inl (cs 0, 8001, .inl me_coefficients)), ((ad 25), .inl (cs 0, 126, .inl me_leads))]) [0, 2, 3, 4, 1, 5, 6, 7] (by decide) rfl
    exact W.iret (v := r_4) hx hb hr (fun t ht hW => ⟨⟨r_4, (), rfl, hv, by rw [ht]; exact hP9, hD9⟩, hS.F ht⟩) hS.2.2 d_x_member_28
abbrev b_x_ideal : ByteArray := prog_1_method_10_code
def y_x_ideal : MethodName := ⟨"SpaceBasis", "ideal", "(I)I"⟩
def w_x_ideal : List Cond := Cond.code y_x_ideal b_x_ideal 2 (some .int) :: vwWS
theorem d_x_ideal_0 : decode b_x_ideal 0 = .ok (.aload_n 0, 1) := by decide +kernel
theorem d_x_ideal_1 : decode b_x_ideal 1 = .ok (.getfield 35, 3) := by decide +kernel
theorem d_x_ideal_4 : decode b_x_ideal 4 = .ok (.getfield 129, 3) := by decide +kernel
theorem d_x_ideal_7 : decode b_x_ideal 7 = .ok (.iconst (-1), 1) := by decide +kernel
theorem d_x_ideal_8 : decode b_x_ideal 8 = .ok (.if_icmp .ne 5, 3) := by decide +kernel
theorem d_x_ideal_11 : decode b_x_ideal 11 = .ok (.iconst (-1), 1) := by decide +kernel
theorem d_x_ideal_12 : decode b_x_ideal 12 = .ok (.ireturn, 1) := by decide +kernel
theorem d_x_ideal_13 : decode b_x_ideal 13 = .ok (.iload_n 1, 1) := by decide +kernel
theorem d_x_ideal_14 : decode b_x_ideal 14 = .ok (.tableswitch 84 0 3 #[30, 46, 54, 62], 30) := by decide +kernel
theorem d_x_ideal_44 : decode b_x_ideal 44 = .ok (.aload_n 0, 1) := by decide +kernel
theorem d_x_ideal_45 : decode b_x_ideal 45 = .ok (.getfield 44, 3) := by decide +kernel
theorem d_x_ideal_48 : decode b_x_ideal 48 = .ok (.getfield 164, 3) := by decide +kernel
theorem d_x_ideal_51 : decode b_x_ideal 51 = .ok (.ifCond .eq 7, 3) := by decide +kernel
theorem d_x_ideal_54 : decode b_x_ideal 54 = .ok (.iconst 1, 1) := by decide +kernel
theorem d_x_ideal_55 : decode b_x_ideal 55 = .ok (.goto 4, 3) := by decide +kernel
theorem d_x_ideal_58 : decode b_x_ideal 58 = .ok (.iconst 0, 1) := by decide +kernel
theorem d_x_ideal_59 : decode b_x_ideal 59 = .ok (.ireturn, 1) := by decide +kernel
theorem d_x_ideal_60 : decode b_x_ideal 60 = .ok (.aload_n 0, 1) := by decide +kernel
theorem d_x_ideal_61 : decode b_x_ideal 61 = .ok (.getfield 44, 3) := by decide +kernel
theorem d_x_ideal_64 : decode b_x_ideal 64 = .ok (.getfield 150, 3) := by decide +kernel
theorem d_x_ideal_67 : decode b_x_ideal 67 = .ok (.ireturn, 1) := by decide +kernel
theorem d_x_ideal_68 : decode b_x_ideal 68 = .ok (.aload_n 0, 1) := by decide +kernel
theorem d_x_ideal_69 : decode b_x_ideal 69 = .ok (.getfield 35, 3) := by decide +kernel
theorem d_x_ideal_72 : decode b_x_ideal 72 = .ok (.getfield 129, 3) := by decide +kernel
theorem d_x_ideal_75 : decode b_x_ideal 75 = .ok (.ireturn, 1) := by decide +kernel
theorem d_x_ideal_76 : decode b_x_ideal 76 = .ok (.aload_n 0, 1) := by decide +kernel
theorem d_x_ideal_77 : decode b_x_ideal 77 = .ok (.getfield 44, 3) := by decide +kernel
theorem d_x_ideal_80 : decode b_x_ideal 80 = .ok (.getfield 164, 3) := by decide +kernel
theorem d_x_ideal_83 : decode b_x_ideal 83 = .ok (.ifCond .eq 13, 3) := by decide +kernel
theorem d_x_ideal_86 : decode b_x_ideal 86 = .ok (.aload_n 0, 1) := by decide +kernel
theorem d_x_ideal_87 : decode b_x_ideal 87 = .ok (.getfield 44, 3) := by decide +kernel
theorem d_x_ideal_90 : decode b_x_ideal 90 = .ok (.invokevirtual 168, 3) := by decide +kernel
theorem d_x_ideal_93 : decode b_x_ideal 93 = .ok (.goto 4, 3) := by decide +kernel
theorem d_x_ideal_96 : decode b_x_ideal 96 = .ok (.iconst (-1), 1) := by decide +kernel
theorem d_x_ideal_97 : decode b_x_ideal 97 = .ok (.ireturn, 1) := by decide +kernel
theorem d_x_ideal_98 : decode b_x_ideal 98 = .ok (.iconst (-1), 1) := by decide +kernel
theorem d_x_ideal_99 : decode b_x_ideal 99 = .ok (.ireturn, 1) := by decide +kernel
/-- SpaceBasis.ideal(I)I -/
def vc_x_ideal (x_provedCount : Int32) (mn_variables : Int32) (mn_order : Int32) (mn_highest : Int32) (mn_count : Int32) (mn_codes : Nat → Int32) (sp_degree : Int32) (sp_size : Int32) (sp_count : Int32) (me_count : Int32) (me_complete : Int32) (me_leads : Nat → Int32) (p0 : Int32) (Q : Int32 → Prop) : Prop :=
  (((¬ (sp_degree = (-1))) → (((p0 = 0 → ((((me_complete = 0) → (Q 0)) ∧ ((¬ (me_complete = 0)) → (Q 1))))) ∧ (p0 = 1 → (Q me_count)) ∧ (p0 = 2 → (Q sp_degree)) ∧ (p0 = 3 → ((((me_complete = 0) → (Q (-1))) ∧ ((¬ (me_complete = 0)) → (vc_me_dimension mn_variables mn_order mn_highest mn_count mn_codes me_count me_complete me_leads (fun (r_4 : Int32) => Q r_4)))))) ∧ ((¬ p0 = 0) → (¬ p0 = 1) → (¬ p0 = 2) → (¬ p0 = 3) → (Q (-1)))))) ∧ ((sp_degree = (-1)) → (Q (-1))))
abbrev at_x_ideal (dC : Nat → ClassId) (dI : Nat → Nat → Nat) (cs : Nat → ClassId) (A : Nat → Prop) (ad : Nat → Nat) (x_provedCount : Int32) (mn_variables : Int32) (mn_order : Int32) (mn_highest : Int32) (mn_count : Int32) (mn_codes : Nat → Int32) (sp_degree : Int32) (sp_size : Int32) (sp_count : Int32) (me_count : Int32) (me_complete : Int32) (me_leads : Nat → Int32) (u : Unit) (t : State) : Prop := match u with
  | _ => va_P (dC, dI) vwCl [((ad 0), .inr (0, [.ref (ad 3), .ref (ad 4), .ref (ad 9), .ref (ad 12), .ref (ad 23), .ref (ad 27), .ref (ad 1), .ref (ad 2), .int x_provedCount])), ((ad 4), .inr (2, [.ref (ad 5), .ref (ad 6), .ref (ad 7), .ref (ad 8), .int mn_variables, .int mn_order, .int mn_highest, .int mn_count])), ((ad 5), .inl (cs 0, 126, .inl mn_codes)), ((ad 12), .inr (4, [.ref (ad 3), .ref (ad 4), .ref (ad 18), .ref (ad 13), .ref (ad 14), .ref (ad 15), .ref (ad 16), .ref (ad 17), .int sp_degree, .int sp_size, .int sp_count])), ((ad 23), .inr (6, [.ref (ad 4), .ref (ad 12), .ref (ad 24), .ref (ad 25), .ref (ad 26), .int me_count, .int me_complete])), ((ad 25), .inl (cs 0, 126, .inl me_leads))] t.heap ∧ va_D A [((ad 0), .inr (0, [.ref (ad 3), .ref (ad 4), .ref (ad 9), .ref (ad 12), .ref (ad 23), .ref (ad 27), .ref (ad 1), .ref (ad 2), .int x_provedCount])), ((ad 4), .inr (2, [.ref (ad 5), .ref (ad 6), .ref (ad 7), .ref (ad 8), .int mn_variables, .int mn_order, .int mn_highest, .int mn_count])), ((ad 5), .inl (cs 0, 126, .inl mn_codes)), ((ad 12), .inr (4, [.ref (ad 3), .ref (ad 4), .ref (ad 18), .ref (ad 13), .ref (ad 14), .ref (ad 15), .ref (ad 16), .ref (ad 17), .int sp_degree, .int sp_size, .int sp_count])), ((ad 23), .inr (6, [.ref (ad 4), .ref (ad 12), .ref (ad 24), .ref (ad 25), .ref (ad 26), .int me_count, .int me_complete])), ((ad 25), .inl (cs 0, 126, .inl me_leads))]
set_option maxHeartbeats 4000000 in
set_option maxRecDepth 100000 in
theorem c_x_ideal (l : Launch) (dC : Nat → ClassId) (dI : Nat → Nat → Nat) (cs : Nat → ClassId) (ad : Nat → Nat)  (sz : Nat) (x_provedCount : Int32) (mn_variables : Int32) (mn_order : Int32) (mn_highest : Int32) (mn_count : Int32) (mn_codes : Nat → Int32) (sp_degree : Int32) (sp_size : Int32) (sp_count : Int32) (me_count : Int32) (me_complete : Int32) (me_leads : Nat → Int32) (p0 : Int32) (Q : Int32 → Prop) (hv : vc_x_ideal x_provedCount mn_variables mn_order mn_highest mn_count mn_codes sp_degree sp_size sp_count me_count me_complete me_leads p0 Q) : Met l y_x_ideal w_x_ideal ({ frames := 4, cells := 0, slots := 0, locals := 88 }) (va_Pc [.ref (ad 0), .int p0] (fun U => U.heap.size = sz ∧ va_P (dC, dI) vwCl [((ad 0), .inr (0, [.ref (ad 3), .ref (ad 4), .ref (ad 9), .ref (ad 12), .ref (ad 23), .ref (ad 27), .ref (ad 1), .ref (ad 2), .int x_provedCount])), ((ad 4), .inr (2, [.ref (ad 5), .ref (ad 6), .ref (ad 7), .ref (ad 8), .int mn_variables, .int mn_order, .int mn_highest, .int mn_count])), ((ad 5), .inl (cs 0, 126, .inl mn_codes)), ((ad 12), .inr (4, [.ref (ad 3), .ref (ad 4), .ref (ad 18), .ref (ad 13), .ref (ad 14), .ref (ad 15), .ref (ad 16), .ref (ad 17), .int sp_degree, .int sp_size, .int sp_count])), ((ad 23), .inr (6, [.ref (ad 4), .ref (ad 12), .ref (ad 24), .ref (ad 25), .ref (ad 26), .int me_count, .int me_complete])), ((ad 25), .inl (cs 0, 126, .inl me_leads))] U.heap ∧ vwK dC dI cs U ∧ va_D (fun _ => True) [((ad 0), .inr (0, [.ref (ad 3), .ref (ad 4), .ref (ad 9), .ref (ad 12), .ref (ad 23), .ref (ad 27), .ref (ad 1), .ref (ad 2), .int x_provedCount])), ((ad 4), .inr (2, [.ref (ad 5), .ref (ad 6), .ref (ad 7), .ref (ad 8), .int mn_variables, .int mn_order, .int mn_highest, .int mn_count])), ((ad 5), .inl (cs 0, 126, .inl mn_codes)), ((ad 12), .inr (4, [.ref (ad 3), .ref (ad 4), .ref (ad 18), .ref (ad 13), .ref (ad 14), .ref (ad 15), .ref (ad 16), .ref (ad 17), .int sp_degree, .int sp_size, .int sp_count])), ((ad 23), .inr (6, [.ref (ad 4), .ref (ad 12), .ref (ad 24), .ref (ad 25), .ref (ad 26), .int me_count, .int me_complete])), ((ad 25), .inl (cs 0, 126, .inl me_leads))])) (va_Qi (fun (r : Int32) (u : Unit) => Q r) (at_x_ideal dC dI cs (va_A [((ad 0), .inr (0, [.ref (ad 3), .ref (ad 4), .ref (ad 9), .ref (ad 12), .ref (ad 23), .ref (ad 27), .ref (ad 1), .ref (ad 2), .int x_provedCount])), ((ad 4), .inr (2, [.ref (ad 5), .ref (ad 6), .ref (ad 7), .ref (ad 8), .int mn_variables, .int mn_order, .int mn_highest, .int mn_count])), ((ad 5), .inl (cs 0, 126, .inl mn_codes)), ((ad 12), .inr (4, [.ref (ad 3), .ref (ad 4), .ref (ad 18), .ref (ad 13), .ref (ad 14), .ref (ad 15), .ref (ad 16), .ref (ad 17), .int sp_degree, .int sp_size, .int sp_count])), ((ad 23), .inr (6, [.ref (ad 4), .ref (ad 12), .ref (ad 24), .ref (ad 25), .ref (ad 26), .int me_count, .int me_complete])), ((ad 25), .inl (cs 0, 126, .inl me_leads))] sz) ad x_provedCount mn_variables mn_order mn_highest mn_count mn_codes sp_degree sp_size sp_count me_count me_complete me_leads) (va_A [((ad 0), .inr (0, [.ref (ad 3), .ref (ad 4), .ref (ad 9), .ref (ad 12), .ref (ad 23), .ref (ad 27), .ref (ad 1), .ref (ad 2), .int x_provedCount])), ((ad 4), .inr (2, [.ref (ad 5), .ref (ad 6), .ref (ad 7), .ref (ad 8), .int mn_variables, .int mn_order, .int mn_highest, .int mn_count])), ((ad 5), .inl (cs 0, 126, .inl mn_codes)), ((ad 12), .inr (4, [.ref (ad 3), .ref (ad 4), .ref (ad 18), .ref (ad 13), .ref (ad 14), .ref (ad 15), .ref (ad 16), .ref (ad 17), .int sp_degree, .int sp_size, .int sp_count])), ((ad 23), .inr (6, [.ref (ad 4), .ref (ad 12), .ref (ad 24), .ref (ad 25), .ref (ad 26), .int me_count, .int me_complete])), ((ad 25), .inl (cs 0, 126, .inl me_leads))] sz)) 0 0 (va_A [((ad 0), .inr (0, [.ref (ad 3), .ref (ad 4), .ref (ad 9), .ref (ad 12), .ref (ad 23), .ref (ad 27), .ref (ad 1), .ref (ad 2), .int x_provedCount])), ((ad 4), .inr (2, [.ref (ad 5), .ref (ad 6), .ref (ad 7), .ref (ad 8), .int mn_variables, .int mn_order, .int mn_highest, .int mn_count])), ((ad 5), .inl (cs 0, 126, .inl mn_codes)), ((ad 12), .inr (4, [.ref (ad 3), .ref (ad 4), .ref (ad 18), .ref (ad 13), .ref (ad 14), .ref (ad 15), .ref (ad 16), .ref (ad 17), .int sp_degree, .int sp_size, .int sp_count])), ((ad 23), .inr (6, [.ref (ad 4), .ref (ad 12), .ref (ad 24), .ref (ad 25), .ref (ad 26), .int me_count, .int me_complete])), ((ad 25), .inl (cs 0, 126, .inl me_leads))] sz) := by
  unfold vc_x_ideal at hv
  refine Met.ofW (cc := b_x_ideal) (maxL := 2) (ret := (some .int)) (by decide) rfl ?_
  intro p e s m args below meth c s₁ B hml hpc
  obtain ⟨rfl, hsz, hP, ⟨hK, hN⟩, hD0⟩ := hpc
  have hx := B.exec
  have hb := B.bytes
  have hr := B.returns
  have hts : ∀ w ∈ vwWS, w.before _ s = true := fun w h => atoms_spec (ws := w_x_ideal) B.pre w (List.mem_cons_of_mem _ h)
  have hown : s.vm.findClass "SpaceBasis" = some m.cls := findClass_of_methodNamed B.named
  have hlocks := B.notSynchronized
  subst hsz
  have hD := hD0.self (sz := s.heap.size)
  generalize hAe : va_A [((ad 0), .inr (0, [.ref (ad 3), .ref (ad 4), .ref (ad 9), .ref (ad 12), .ref (ad 23), .ref (ad 27), .ref (ad 1), .ref (ad 2), .int x_provedCount])), ((ad 4), .inr (2, [.ref (ad 5), .ref (ad 6), .ref (ad 7), .ref (ad 8), .int mn_variables, .int mn_order, .int mn_highest, .int mn_count])), ((ad 5), .inl (cs 0, 126, .inl mn_codes)), ((ad 12), .inr (4, [.ref (ad 3), .ref (ad 4), .ref (ad 18), .ref (ad 13), .ref (ad 14), .ref (ad 15), .ref (ad 16), .ref (ad 17), .int sp_degree, .int sp_size, .int sp_count])), ((ad 23), .inr (6, [.ref (ad 4), .ref (ad 12), .ref (ad 24), .ref (ad 25), .ref (ad 26), .int me_count, .int me_complete])), ((ad 25), .inl (cs 0, 126, .inl me_leads))] s.heap.size = A at hD ⊢
  have hA : ∀ q : Nat, s.heap.size ≤ q → A q := fun q h => by rw [← hAe]; exact Or.inr h
  have hS : va_S A s.heap s.heap [] := va_S.rf
  have hl := lv_entry ([.ref (ad 0), .int p0]) (n := 2) (Nat.le_of_ble_eq_true rfl)
  rw [lg_entry_eq]
  generalize (lg_sl ([.ref (ad 0), .int p0]) ++ List.replicate (2 - (lg_sl ([.ref (ad 0), .int p0])).length) Slot.unset).toArray = ls at hl ⊢
  have hl : lv_has ls 2 [(0, .ref (ad 0)), (1, .int p0)] := hl
  refine lv_aload_n hx hb d_x_ideal_0 rfl (lv_at hl 0 rfl) ?_
  refine va_get (D := (dC, dI)) (ci := 0) (v := .ref (ad 12)) (C := R_x) (T := F_x) (N := 9) hx hb hts in_x hown hK hP 0 rfl rfl 3 (by decide) (hts _ kw_261) (fun _ h9 => h9) rfl d_x_ideal_1 ?_
  refine va_getN (D := (dC, dI)) (ci := 4) (v := .int sp_degree) (C := R_sp) (T := F_sp) (N := 11) hx hb hts in_sp hown hK hP 3 rfl rfl 8 (by decide) (va_Nw.use rfl (hN _ kn_31)) (fun _ h9 => h9) rfl d_x_ideal_4 ?_
  refine lv_iconst (v := (-1)) hx hb d_x_ideal_7 (by decide) ?_
  refine lv_icmp_ne (tgt := 13) hx hb d_x_ideal_8 (by decide) (fun c_1 => ?_) (fun c_1 => ?_)
  · have hv := hv.1 c_1
    refine lv_iload_n hx hb d_x_ideal_13 rfl (lv_at hl 1 rfl) ?_
    by_cases hp0_0 : p0 = 0
    · have hv := hv.1 hp0_0
      refine lv_tableIn (off := 30) (tgt := 44) hx hb d_x_ideal_14 (by rw [hp0_0]; decide) (by rw [hp0_0]; decide) (by rw [hp0_0]; rfl) (by decide) ?_
      refine lv_aload_n hx hb d_x_ideal_44 rfl (lv_at hl 0 rfl) ?_
      refine va_get (D := (dC, dI)) (ci := 0) (v := .ref (ad 23)) (C := R_x) (T := F_x) (N := 9) hx hb hts in_x hown hK hP 0 rfl rfl 4 (by decide) (hts _ kw_262) (fun _ h9 => h9) rfl d_x_ideal_45 ?_
      refine va_getN (D := (dC, dI)) (ci := 6) (v := .int me_complete) (C := R_me) (T := F_me) (N := 7) hx hb hts in_me hown hK hP 4 rfl rfl 6 (by decide) (va_Nw.use rfl (hN _ kn_38)) (fun _ h9 => h9) rfl d_x_ideal_48 ?_
      refine lv_if_eq (tgt := 58) hx hb d_x_ideal_51 (by decide) (fun c_2 => ?_) (fun c_2 => ?_)
      · have hv := hv.1 c_2
        refine lv_iconst (v := 0) hx hb d_x_ideal_58 (by decide) ?_
        have hP9 := hP.sub (ws' := [((ad 0), .inr (0, [.ref (ad 3), .ref (ad 4), .ref (ad 9), .ref (ad 12), .ref (ad 23), .ref (ad 27), .ref (ad 1), .ref (ad 2), .int x_provedCount])), ((ad 4), .inr (2, [.ref (ad 5), .ref (ad 6), .ref (ad 7), .ref (ad 8), .int mn_variables, .int mn_order, .int mn_highest, .int mn_count])), ((ad 5), .inl (cs 0, 126, .inl mn_codes)), ((ad 12), .inr (4, [.ref (ad 3), .ref (ad 4), .ref (ad 18), .ref (ad 13), .ref (ad 14), .ref (ad 15), .ref (ad 16), .ref (ad 17), .int sp_degree, .int sp_size, .int sp_count])), ((ad 23), .inr (6, [.ref (ad 4), .ref (ad 12), .ref (ad 24), .ref (ad 25), .ref (ad 26), .int me_count, .int me_complete])), ((ad 25), .inl (cs 0, 126, .inl me_leads))]) [0, 1, 2, 3, 4, 5] rfl
        have hD9 := hD.sub (ws' := [((ad 0), .inr (0, [.ref (ad 3), .ref (ad 4), .ref (ad 9), .ref (ad 12), .ref (ad 23), .ref (ad 27), .ref (ad 1), .ref (ad 2), .int x_provedCount])), ((ad 4), .inr (2, [.ref (ad 5), .ref (ad 6), .ref (ad 7), .ref (ad 8), .int mn_variables, .int mn_order, .int mn_highest, .int mn_count])), ((ad 5), .inl (cs 0, 126, .inl mn_codes)), ((ad 12), .inr (4, [.ref (ad 3), .ref (ad 4), .ref (ad 18), .ref (ad 13), .ref (ad 14), .ref (ad 15), .ref (ad 16), .ref (ad 17), .int sp_degree, .int sp_size, .int sp_count])), ((ad 23), .inr (6, [.ref (ad 4), .ref (ad 12), .ref (ad 24), .ref (ad 25), .ref (ad 26), .int me_count, .int me_complete])), ((ad 25), .inl (cs 0, 126, .inl me_leads))]) [0, 1, 2, 3, 4, 5] (by decide) rfl
        exact W.iret (v := 0) hx hb hr (fun t ht hW => ⟨⟨0, (), rfl, hv, by rw [ht]; exact hP9, hD9⟩, hS.F ht⟩) hS.2.2 d_x_ideal_59
      · have hv := hv.2 c_2
        refine lv_iconst (v := 1) hx hb d_x_ideal_54 (by decide) ?_
        refine lv_goto (tgt := 59) hx hb d_x_ideal_55 (by decide) ?_
        have hP9 := hP.sub (ws' := [((ad 0), .inr (0, [.ref (ad 3), .ref (ad 4), .ref (ad 9), .ref (ad 12), .ref (ad 23), .ref (ad 27), .ref (ad 1), .ref (ad 2), .int x_provedCount])), ((ad 4), .inr (2, [.ref (ad 5), .ref (ad 6), .ref (ad 7), .ref (ad 8), .int mn_variables, .int mn_order, .int mn_highest, .int mn_count])), ((ad 5), .inl (cs 0, 126, .inl mn_codes)), ((ad 12), .inr (4, [.ref (ad 3), .ref (ad 4), .ref (ad 18), .ref (ad 13), .ref (ad 14), .ref (ad 15), .ref (ad 16), .ref (ad 17), .int sp_degree, .int sp_size, .int sp_count])), ((ad 23), .inr (6, [.ref (ad 4), .ref (ad 12), .ref (ad 24), .ref (ad 25), .ref (ad 26), .int me_count, .int me_complete])), ((ad 25), .inl (cs 0, 126, .inl me_leads))]) [0, 1, 2, 3, 4, 5] rfl
        have hD9 := hD.sub (ws' := [((ad 0), .inr (0, [.ref (ad 3), .ref (ad 4), .ref (ad 9), .ref (ad 12), .ref (ad 23), .ref (ad 27), .ref (ad 1), .ref (ad 2), .int x_provedCount])), ((ad 4), .inr (2, [.ref (ad 5), .ref (ad 6), .ref (ad 7), .ref (ad 8), .int mn_variables, .int mn_order, .int mn_highest, .int mn_count])), ((ad 5), .inl (cs 0, 126, .inl mn_codes)), ((ad 12), .inr (4, [.ref (ad 3), .ref (ad 4), .ref (ad 18), .ref (ad 13), .ref (ad 14), .ref (ad 15), .ref (ad 16), .ref (ad 17), .int sp_degree, .int sp_size, .int sp_count])), ((ad 23), .inr (6, [.ref (ad 4), .ref (ad 12), .ref (ad 24), .ref (ad 25), .ref (ad 26), .int me_count, .int me_complete])), ((ad 25), .inl (cs 0, 126, .inl me_leads))]) [0, 1, 2, 3, 4, 5] (by decide) rfl
        exact W.iret (v := 1) hx hb hr (fun t ht hW => ⟨⟨1, (), rfl, hv, by rw [ht]; exact hP9, hD9⟩, hS.F ht⟩) hS.2.2 d_x_ideal_59
    by_cases hp0_1 : p0 = 1
    · have hv := hv.2.1 hp0_1
      refine lv_tableIn (off := 46) (tgt := 60) hx hb d_x_ideal_14 (by rw [hp0_1]; decide) (by rw [hp0_1]; decide) (by rw [hp0_1]; rfl) (by decide) ?_
      refine lv_aload_n hx hb d_x_ideal_60 rfl (lv_at hl 0 rfl) ?_
      refine va_get (D := (dC, dI)) (ci := 0) (v := .ref (ad 23)) (C := R_x) (T := F_x) (N := 9) hx hb hts in_x hown hK hP 0 rfl rfl 4 (by decide) (hts _ kw_262) (fun _ h9 => h9) rfl d_x_ideal_61 ?_
      refine va_getN (D := (dC, dI)) (ci := 6) (v := .int me_count) (C := R_me) (T := F_me) (N := 7) hx hb hts in_me hown hK hP 4 rfl rfl 5 (by decide) (va_Nw.use rfl (hN _ kn_37)) (fun _ h9 => h9) rfl d_x_ideal_64 ?_
      have hP9 := hP.sub (ws' := [((ad 0), .inr (0, [.ref (ad 3), .ref (ad 4), .ref (ad 9), .ref (ad 12), .ref (ad 23), .ref (ad 27), .ref (ad 1), .ref (ad 2), .int x_provedCount])), ((ad 4), .inr (2, [.ref (ad 5), .ref (ad 6), .ref (ad 7), .ref (ad 8), .int mn_variables, .int mn_order, .int mn_highest, .int mn_count])), ((ad 5), .inl (cs 0, 126, .inl mn_codes)), ((ad 12), .inr (4, [.ref (ad 3), .ref (ad 4), .ref (ad 18), .ref (ad 13), .ref (ad 14), .ref (ad 15), .ref (ad 16), .ref (ad 17), .int sp_degree, .int sp_size, .int sp_count])), ((ad 23), .inr (6, [.ref (ad 4), .ref (ad 12), .ref (ad 24), .ref (ad 25), .ref (ad 26), .int me_count, .int me_complete])), ((ad 25), .inl (cs 0, 126, .inl me_leads))]) [0, 1, 2, 3, 4, 5] rfl
      have hD9 := hD.sub (ws' := [((ad 0), .inr (0, [.ref (ad 3), .ref (ad 4), .ref (ad 9), .ref (ad 12), .ref (ad 23), .ref (ad 27), .ref (ad 1), .ref (ad 2), .int x_provedCount])), ((ad 4), .inr (2, [.ref (ad 5), .ref (ad 6), .ref (ad 7), .ref (ad 8), .int mn_variables, .int mn_order, .int mn_highest, .int mn_count])), ((ad 5), .inl (cs 0, 126, .inl mn_codes)), ((ad 12), .inr (4, [.ref (ad 3), .ref (ad 4), .ref (ad 18), .ref (ad 13), .ref (ad 14), .ref (ad 15), .ref (ad 16), .ref (ad 17), .int sp_degree, .int sp_size, .int sp_count])), ((ad 23), .inr (6, [.ref (ad 4), .ref (ad 12), .ref (ad 24), .ref (ad 25), .ref (ad 26), .int me_count, .int me_complete])), ((ad 25), .inl (cs 0, 126, .inl me_leads))]) [0, 1, 2, 3, 4, 5] (by decide) rfl
      exact W.iret (v := me_count) hx hb hr (fun t ht hW => ⟨⟨me_count, (), rfl, hv, by rw [ht]; exact hP9, hD9⟩, hS.F ht⟩) hS.2.2 d_x_ideal_67
    by_cases hp0_2 : p0 = 2
    · have hv := hv.2.2.1 hp0_2
      refine lv_tableIn (off := 54) (tgt := 68) hx hb d_x_ideal_14 (by rw [hp0_2]; decide) (by rw [hp0_2]; decide) (by rw [hp0_2]; rfl) (by decide) ?_
      refine lv_aload_n hx hb d_x_ideal_68 rfl (lv_at hl 0 rfl) ?_
      refine va_get (D := (dC, dI)) (ci := 0) (v := .ref (ad 12)) (C := R_x) (T := F_x) (N := 9) hx hb hts in_x hown hK hP 0 rfl rfl 3 (by decide) (hts _ kw_261) (fun _ h9 => h9) rfl d_x_ideal_69 ?_
      refine va_getN (D := (dC, dI)) (ci := 4) (v := .int sp_degree) (C := R_sp) (T := F_sp) (N := 11) hx hb hts in_sp hown hK hP 3 rfl rfl 8 (by decide) (va_Nw.use rfl (hN _ kn_31)) (fun _ h9 => h9) rfl d_x_ideal_72 ?_
      have hP9 := hP.sub (ws' := [((ad 0), .inr (0, [.ref (ad 3), .ref (ad 4), .ref (ad 9), .ref (ad 12), .ref (ad 23), .ref (ad 27), .ref (ad 1), .ref (ad 2), .int x_provedCount])), ((ad 4), .inr (2, [.ref (ad 5), .ref (ad 6), .ref (ad 7), .ref (ad 8), .int mn_variables, .int mn_order, .int mn_highest, .int mn_count])), ((ad 5), .inl (cs 0, 126, .inl mn_codes)), ((ad 12), .inr (4, [.ref (ad 3), .ref (ad 4), .ref (ad 18), .ref (ad 13), .ref (ad 14), .ref (ad 15), .ref (ad 16), .ref (ad 17), .int sp_degree, .int sp_size, .int sp_count])), ((ad 23), .inr (6, [.ref (ad 4), .ref (ad 12), .ref (ad 24), .ref (ad 25), .ref (ad 26), .int me_count, .int me_complete])), ((ad 25), .inl (cs 0, 126, .inl me_leads))]) [0, 1, 2, 3, 4, 5] rfl
      have hD9 := hD.sub (ws' := [((ad 0), .inr (0, [.ref (ad 3), .ref (ad 4), .ref (ad 9), .ref (ad 12), .ref (ad 23), .ref (ad 27), .ref (ad 1), .ref (ad 2), .int x_provedCount])), ((ad 4), .inr (2, [.ref (ad 5), .ref (ad 6), .ref (ad 7), .ref (ad 8), .int mn_variables, .int mn_order, .int mn_highest, .int mn_count])), ((ad 5), .inl (cs 0, 126, .inl mn_codes)), ((ad 12), .inr (4, [.ref (ad 3), .ref (ad 4), .ref (ad 18), .ref (ad 13), .ref (ad 14), .ref (ad 15), .ref (ad 16), .ref (ad 17), .int sp_degree, .int sp_size, .int sp_count])), ((ad 23), .inr (6, [.ref (ad 4), .ref (ad 12), .ref (ad 24), .ref (ad 25), .ref (ad 26), .int me_count, .int me_complete])), ((ad 25), .inl (cs 0, 126, .inl me_leads))]) [0, 1, 2, 3, 4, 5] (by decide) rfl
      exact W.iret (v := sp_degree) hx hb hr (fun t ht hW => ⟨⟨sp_degree, (), rfl, hv, by rw [ht]; exact hP9, hD9⟩, hS.F ht⟩) hS.2.2 d_x_ideal_75
    by_cases hp0_3 : p0 = 3
    · have hv := hv.2.2.2.1 hp0_3
      refine lv_tableIn (off := 62) (tgt := 76) hx hb d_x_ideal_14 (by rw [hp0_3]; decide) (by rw [hp0_3]; decide) (by rw [hp0_3]; rfl) (by decide) ?_
      refine lv_aload_n hx hb d_x_ideal_76 rfl (lv_at hl 0 rfl) ?_
      refine va_get (D := (dC, dI)) (ci := 0) (v := .ref (ad 23)) (C := R_x) (T := F_x) (N := 9) hx hb hts in_x hown hK hP 0 rfl rfl 4 (by decide) (hts _ kw_262) (fun _ h9 => h9) rfl d_x_ideal_77 ?_
      refine va_getN (D := (dC, dI)) (ci := 6) (v := .int me_complete) (C := R_me) (T := F_me) (N := 7) hx hb hts in_me hown hK hP 4 rfl rfl 6 (by decide) (va_Nw.use rfl (hN _ kn_38)) (fun _ h9 => h9) rfl d_x_ideal_80 ?_
      refine lv_if_eq (tgt := 96) hx hb d_x_ideal_83 (by decide) (fun c_3 => ?_) (fun c_3 => ?_)
      · have hv := hv.1 c_3
        refine lv_iconst (v := (-1)) hx hb d_x_ideal_96 (by decide) ?_
        have hP9 := hP.sub (ws' := [((ad 0), .inr (0, [.ref (ad 3), .ref (ad 4), .ref (ad 9), .ref (ad 12), .ref (ad 23), .ref (ad 27), .ref (ad 1), .ref (ad 2), .int x_provedCount])), ((ad 4), .inr (2, [.ref (ad 5), .ref (ad 6), .ref (ad 7), .ref (ad 8), .int mn_variables, .int mn_order, .int mn_highest, .int mn_count])), ((ad 5), .inl (cs 0, 126, .inl mn_codes)), ((ad 12), .inr (4, [.ref (ad 3), .ref (ad 4), .ref (ad 18), .ref (ad 13), .ref (ad 14), .ref (ad 15), .ref (ad 16), .ref (ad 17), .int sp_degree, .int sp_size, .int sp_count])), ((ad 23), .inr (6, [.ref (ad 4), .ref (ad 12), .ref (ad 24), .ref (ad 25), .ref (ad 26), .int me_count, .int me_complete])), ((ad 25), .inl (cs 0, 126, .inl me_leads))]) [0, 1, 2, 3, 4, 5] rfl
        have hD9 := hD.sub (ws' := [((ad 0), .inr (0, [.ref (ad 3), .ref (ad 4), .ref (ad 9), .ref (ad 12), .ref (ad 23), .ref (ad 27), .ref (ad 1), .ref (ad 2), .int x_provedCount])), ((ad 4), .inr (2, [.ref (ad 5), .ref (ad 6), .ref (ad 7), .ref (ad 8), .int mn_variables, .int mn_order, .int mn_highest, .int mn_count])), ((ad 5), .inl (cs 0, 126, .inl mn_codes)), ((ad 12), .inr (4, [.ref (ad 3), .ref (ad 4), .ref (ad 18), .ref (ad 13), .ref (ad 14), .ref (ad 15), .ref (ad 16), .ref (ad 17), .int sp_degree, .int sp_size, .int sp_count])), ((ad 23), .inr (6, [.ref (ad 4), .ref (ad 12), .ref (ad 24), .ref (ad 25), .ref (ad 26), .int me_count, .int me_complete])), ((ad 25), .inl (cs 0, 126, .inl me_leads))]) [0, 1, 2, 3, 4, 5] (by decide) rfl
        exact W.iret (v := (-1)) hx hb hr (fun t ht hW => ⟨⟨(-1), (), rfl, hv, by rw [ht]; exact hP9, hD9⟩, hS.F ht⟩) hS.2.2 d_x_ideal_97
      · have hv := hv.2 c_3
        refine lv_aload_n hx hb d_x_ideal_86 rfl (lv_at hl 0 rfl) ?_
        refine va_get (D := (dC, dI)) (ci := 0) (v := .ref (ad 23)) (C := R_x) (T := F_x) (N := 9) hx hb hts in_x hown hK hP 0 rfl rfl 4 (by decide) (hts _ kw_262) (fun _ h9 => h9) rfl d_x_ideal_87 ?_
        have hPc := hP.sub (ws' := [((ad 4), .inr (2, [.ref (ad 5), .ref (ad 6), .ref (ad 7), .ref (ad 8), .int mn_variables, .int mn_order, .int mn_highest, .int mn_count])), ((ad 5), .inl (cs 0, 126, .inl mn_codes)), ((ad 23), .inr (6, [.ref (ad 4), .ref (ad 12), .ref (ad 24), .ref (ad 25), .ref (ad 26), .int me_count, .int me_complete])), ((ad 25), .inl (cs 0, 126, .inl me_leads))]) [1, 2, 4, 5] rfl
        have hDc := hD.sub (ws' := [((ad 4), .inr (2, [.ref (ad 5), .ref (ad 6), .ref (ad 7), .ref (ad 8), .int mn_variables, .int mn_order, .int mn_highest, .int mn_count])), ((ad 5), .inl (cs 0, 126, .inl mn_codes)), ((ad 23), .inr (6, [.ref (ad 4), .ref (ad 12), .ref (ad 24), .ref (ad 25), .ref (ad 26), .int me_count, .int me_complete])), ((ad 25), .inl (cs 0, 126, .inl me_leads))]) [1, 2, 4, 5] (by decide) rfl
        have hFc := va_free (wc := [((ad 4), .inr (2, [.ref (ad 5), .ref (ad 6), .ref (ad 7), .ref (ad 8), .int mn_variables, .int mn_order, .int mn_highest, .int mn_count])), ((ad 5), .inl (cs 0, 126, .inl mn_codes)), ((ad 23), .inr (6, [.ref (ad 4), .ref (ad 12), .ref (ad 24), .ref (ad 25), .ref (ad 26), .int me_count, .int me_complete])), ((ad 25), .inl (cs 0, 126, .inl me_leads))]) hD hS hA [1, 2, 4, 5] rfl
        refine va_calli (va_runV (As := []) (rest := []) ⟨hx, hb, hml, hown, hts⟩ (c_me_dimension l dC dI cs ad  s.heap.size mn_variables mn_order mn_highest mn_count mn_codes me_count me_complete me_leads _ hv) (cwV 0 hts (gd_V kw_316 kw_317 kw_318 kw_38 kw_319) rfl rfl rfl (by decide +kernel) ⟨Nat.le_of_ble_eq_true rfl, Nat.le_of_ble_eq_true rfl⟩) ⟨fun a U g mk q => by obtain ⟨q0, q1, qP, qK, qD⟩ := q; exact ⟨q0, q1, qP, qK.call, qD⟩, va_recv hK hPc (ci := 6) (q0 := 2) rfl rfl, fun U hU hW => ⟨rfl, by rw [hU], by rw [hU]; exact hPc, vwK.warm hW ⟨hK, hN⟩, hDc.weaken (fun _ _ _ _ => trivial)⟩⟩ rfl rfl hl.1 rfl (lv_room (Nat.le_of_ble_eq_true rfl)) d_x_ideal_90 ⟨Nat.zero_le _, Nat.zero_le _⟩) hS (fun q _ h => hFc q h) hFc (fun r_4 _u t H1 locs1 ht hvm hw hB hz1 hk1 hS => ?_)
        obtain ⟨hP1, hD1⟩ := hB
        rw [ht] at hP1
        obtain ⟨hP, hD⟩ := va_join (wr := [((ad 0), .inr (0, [.ref (ad 3), .ref (ad 4), .ref (ad 9), .ref (ad 12), .ref (ad 23), .ref (ad 27), .ref (ad 1), .ref (ad 2), .int x_provedCount])), ((ad 12), .inr (4, [.ref (ad 3), .ref (ad 4), .ref (ad 18), .ref (ad 13), .ref (ad 14), .ref (ad 15), .ref (ad 16), .ref (ad 17), .int sp_degree, .int sp_size, .int sp_count]))]) (w1 := [((ad 4), .inr (2, [.ref (ad 5), .ref (ad 6), .ref (ad 7), .ref (ad 8), .int mn_variables, .int mn_order, .int mn_highest, .int mn_count])), ((ad 5), .inl (cs 0, 126, .inl mn_codes)), ((ad 23), .inr (6, [.ref (ad 4), .ref (ad 12), .ref (ad 24), .ref (ad 25), .ref (ad 26), .int me_count, .int me_complete])), ((ad 25), .inl (cs 0, 126, .inl me_leads))]) hP hD [1, 2, 4, 5] [0, 3] rfl rfl (by decide) (by decide) hk1 hFc hP1 hD1
        generalize H1 = H at hP hS ⊢
        generalize locs1 = locs at hS ⊢
        have hP : va_P (dC, dI) vwCl [((ad 0), .inr (0, [.ref (ad 3), .ref (ad 4), .ref (ad 9), .ref (ad 12), .ref (ad 23), .ref (ad 27), .ref (ad 1), .ref (ad 2), .int x_provedCount])), ((ad 12), .inr (4, [.ref (ad 3), .ref (ad 4), .ref (ad 18), .ref (ad 13), .ref (ad 14), .ref (ad 15), .ref (ad 16), .ref (ad 17), .int sp_degree, .int sp_size, .int sp_count])), ((ad 4), .inr (2, [.ref (ad 5), .ref (ad 6), .ref (ad 7), .ref (ad 8), .int mn_variables, .int mn_order, .int mn_highest, .int mn_count])), ((ad 5), .inl (cs 0, 126, .inl mn_codes)), ((ad 23), .inr (6, [.ref (ad 4), .ref (ad 12), .ref (ad 24), .ref (ad 25), .ref (ad 26), .int me_count, .int me_complete])), ((ad 25), .inl (cs 0, 126, .inl me_leads))] H := hP
        have hD : va_D A [((ad 0), .inr (0, [.ref (ad 3), .ref (ad 4), .ref (ad 9), .ref (ad 12), .ref (ad 23), .ref (ad 27), .ref (ad 1), .ref (ad 2), .int x_provedCount])), ((ad 12), .inr (4, [.ref (ad 3), .ref (ad 4), .ref (ad 18), .ref (ad 13), .ref (ad 14), .ref (ad 15), .ref (ad 16), .ref (ad 17), .int sp_degree, .int sp_size, .int sp_count])), ((ad 4), .inr (2, [.ref (ad 5), .ref (ad 6), .ref (ad 7), .ref (ad 8), .int mn_variables, .int mn_order, .int mn_highest, .int mn_count])), ((ad 5), .inl (cs 0, 126, .inl mn_codes)), ((ad 23), .inr (6, [.ref (ad 4), .ref (ad 12), .ref (ad 24), .ref (ad 25), .ref (ad 26), .int me_count, .int me_complete])), ((ad 25), .inl (cs 0, 126, .inl me_leads))] := hD
        have hv := hw
        try dsimp only at hv
        refine lv_goto (tgt := 97) hx hb d_x_ideal_93 (by decide) ?_
        have hP9 := hP.sub (ws' := [((ad 0), .inr (0, [.ref (ad 3), .ref (ad 4), .ref (ad 9), .ref (ad 12), .ref (ad 23), .ref (ad 27), .ref (ad 1), .ref (ad 2), .int x_provedCount])), ((ad 4), .inr (2, [.ref (ad 5), .ref (ad 6), .ref (ad 7), .ref (ad 8), .int mn_variables, .int mn_order, .int mn_highest, .int mn_count])), ((ad 5), .inl (cs 0, 126, .inl mn_codes)), ((ad 12), .inr (4, [.ref (ad 3), .ref (ad 4), .ref (ad 18), .ref (ad 13), .ref (ad 14), .ref (ad 15), .ref (ad 16), .ref (ad 17), .int sp_degree, .int sp_size, .int sp_count])), ((ad 23), .inr (6, [.ref (ad 4), .ref (ad 12), .ref (ad 24), .ref (ad 25), .ref (ad 26), .int me_count, .int me_complete])), ((ad 25), .inl (cs 0, 126, .inl me_leads))]) [0, 2, 3, 1, 4, 5] rfl
        have hD9 := hD.sub (ws' := [((ad 0), .inr (0, [.ref (ad 3), .ref (ad 4), .ref (ad 9), .ref (ad 12), .ref (ad 23), .ref (ad 27), .ref (ad 1), .ref (ad 2), .int x_provedCount])), ((ad 4), .inr (2, [.ref (ad 5), .ref (ad 6), .ref (ad 7), .ref (ad 8), .int mn_variables, .int mn_order, .int mn_highest, .int mn_count])), ((ad 5), .inl (cs 0, 126, .inl mn_codes)), ((ad 12), .inr (4, [.ref (ad 3), .ref (ad 4), .ref (ad 18), .ref (ad 13), .ref (ad 14), .ref (ad 15), .ref (ad 16), .ref (ad 17), .int sp_degree, .int sp_size, .int sp_count])), ((ad 23), .inr (6, [.ref (ad 4), .ref (ad 12), .ref (ad 24), .ref (ad 25), .ref (ad 26), .int me_count, .int me_complete])), ((ad 25), .inl (cs 0, 126, .inl me_leads))]) [0, 2, 3, 1, 4, 5] (by decide) rfl
        exact W.iret (v := r_4) hx hb hr (fun t ht hW => ⟨⟨r_4, (), rfl, hv, by rw [ht]; exact hP9, hD9⟩, hS.F ht⟩) hS.2.2 d_x_ideal_97
    have hv := hv.2.2.2.2 hp0_0 hp0_1 hp0_2 hp0_3
    have nhp0_0 : (p0 : Int32).toInt ≠ 0 := fun q => hp0_0 (Int32.toInt_inj.mp (q.trans (by decide)))
    have nhp0_1 : (p0 : Int32).toInt ≠ 1 := fun q => hp0_1 (Int32.toInt_inj.mp (q.trans (by decide)))
    have nhp0_2 : (p0 : Int32).toInt ≠ 2 := fun q => hp0_2 (Int32.toInt_inj.mp (q.trans (by decide)))
    have nhp0_3 : (p0 : Int32).toInt ≠ 3 := fun q => hp0_3 (Int32.toInt_inj.mp (q.trans (by decide)))
    refine lv_tableOut (tgt := 98) hx hb d_x_ideal_14 (by omega) (by decide) ?_
    refine lv_iconst (v := (-1)) hx hb d_x_ideal_98 (by decide) ?_
    have hP9 := hP.sub (ws' := [((ad 0), .inr (0, [.ref (ad 3), .ref (ad 4), .ref (ad 9), .ref (ad 12), .ref (ad 23), .ref (ad 27), .ref (ad 1), .ref (ad 2), .int x_provedCount])), ((ad 4), .inr (2, [.ref (ad 5), .ref (ad 6), .ref (ad 7), .ref (ad 8), .int mn_variables, .int mn_order, .int mn_highest, .int mn_count])), ((ad 5), .inl (cs 0, 126, .inl mn_codes)), ((ad 12), .inr (4, [.ref (ad 3), .ref (ad 4), .ref (ad 18), .ref (ad 13), .ref (ad 14), .ref (ad 15), .ref (ad 16), .ref (ad 17), .int sp_degree, .int sp_size, .int sp_count])), ((ad 23), .inr (6, [.ref (ad 4), .ref (ad 12), .ref (ad 24), .ref (ad 25), .ref (ad 26), .int me_count, .int me_complete])), ((ad 25), .inl (cs 0, 126, .inl me_leads))]) [0, 1, 2, 3, 4, 5] rfl
    have hD9 := hD.sub (ws' := [((ad 0), .inr (0, [.ref (ad 3), .ref (ad 4), .ref (ad 9), .ref (ad 12), .ref (ad 23), .ref (ad 27), .ref (ad 1), .ref (ad 2), .int x_provedCount])), ((ad 4), .inr (2, [.ref (ad 5), .ref (ad 6), .ref (ad 7), .ref (ad 8), .int mn_variables, .int mn_order, .int mn_highest, .int mn_count])), ((ad 5), .inl (cs 0, 126, .inl mn_codes)), ((ad 12), .inr (4, [.ref (ad 3), .ref (ad 4), .ref (ad 18), .ref (ad 13), .ref (ad 14), .ref (ad 15), .ref (ad 16), .ref (ad 17), .int sp_degree, .int sp_size, .int sp_count])), ((ad 23), .inr (6, [.ref (ad 4), .ref (ad 12), .ref (ad 24), .ref (ad 25), .ref (ad 26), .int me_count, .int me_complete])), ((ad 25), .inl (cs 0, 126, .inl me_leads))]) [0, 1, 2, 3, 4, 5] (by decide) rfl
    exact W.iret (v := (-1)) hx hb hr (fun t ht hW => ⟨⟨(-1), (), rfl, hv, by rw [ht]; exact hP9, hD9⟩, hS.F ht⟩) hS.2.2 d_x_ideal_99
  · have hv := hv.2 c_1
    refine lv_iconst (v := (-1)) hx hb d_x_ideal_11 (by decide) ?_
    have hP9 := hP.sub (ws' := [((ad 0), .inr (0, [.ref (ad 3), .ref (ad 4), .ref (ad 9), .ref (ad 12), .ref (ad 23), .ref (ad 27), .ref (ad 1), .ref (ad 2), .int x_provedCount])), ((ad 4), .inr (2, [.ref (ad 5), .ref (ad 6), .ref (ad 7), .ref (ad 8), .int mn_variables, .int mn_order, .int mn_highest, .int mn_count])), ((ad 5), .inl (cs 0, 126, .inl mn_codes)), ((ad 12), .inr (4, [.ref (ad 3), .ref (ad 4), .ref (ad 18), .ref (ad 13), .ref (ad 14), .ref (ad 15), .ref (ad 16), .ref (ad 17), .int sp_degree, .int sp_size, .int sp_count])), ((ad 23), .inr (6, [.ref (ad 4), .ref (ad 12), .ref (ad 24), .ref (ad 25), .ref (ad 26), .int me_count, .int me_complete])), ((ad 25), .inl (cs 0, 126, .inl me_leads))]) [0, 1, 2, 3, 4, 5] rfl
    have hD9 := hD.sub (ws' := [((ad 0), .inr (0, [.ref (ad 3), .ref (ad 4), .ref (ad 9), .ref (ad 12), .ref (ad 23), .ref (ad 27), .ref (ad 1), .ref (ad 2), .int x_provedCount])), ((ad 4), .inr (2, [.ref (ad 5), .ref (ad 6), .ref (ad 7), .ref (ad 8), .int mn_variables, .int mn_order, .int mn_highest, .int mn_count])), ((ad 5), .inl (cs 0, 126, .inl mn_codes)), ((ad 12), .inr (4, [.ref (ad 3), .ref (ad 4), .ref (ad 18), .ref (ad 13), .ref (ad 14), .ref (ad 15), .ref (ad 16), .ref (ad 17), .int sp_degree, .int sp_size, .int sp_count])), ((ad 23), .inr (6, [.ref (ad 4), .ref (ad 12), .ref (ad 24), .ref (ad 25), .ref (ad 26), .int me_count, .int me_complete])), ((ad 25), .inl (cs 0, 126, .inl me_leads))]) [0, 1, 2, 3, 4, 5] (by decide) rfl
    exact W.iret (v := (-1)) hx hb hr (fun t ht hW => ⟨⟨(-1), (), rfl, hv, by rw [ht]; exact hP9, hD9⟩, hS.F ht⟩) hS.2.2 d_x_ideal_12
abbrev b_x_standard : ByteArray := prog_1_method_11_code
def y_x_standard : MethodName := ⟨"SpaceBasis", "standard", "(I)I"⟩
def w_x_standard : List Cond := Cond.code y_x_standard b_x_standard 2 (some .int) :: vwWS
theorem d_x_standard_0 : decode b_x_standard 0 = .ok (.iload_n 1, 1) := by decide +kernel
theorem d_x_standard_1 : decode b_x_standard 1 = .ok (.ifCond .lt 14, 3) := by decide +kernel
theorem d_x_standard_4 : decode b_x_standard 4 = .ok (.iload_n 1, 1) := by decide +kernel
theorem d_x_standard_5 : decode b_x_standard 5 = .ok (.aload_n 0, 1) := by decide +kernel
theorem d_x_standard_6 : decode b_x_standard 6 = .ok (.getfield 35, 3) := by decide +kernel
theorem d_x_standard_9 : decode b_x_standard 9 = .ok (.getfield 129, 3) := by decide +kernel
theorem d_x_standard_12 : decode b_x_standard 12 = .ok (.if_icmp .le 5, 3) := by decide +kernel
theorem d_x_standard_15 : decode b_x_standard 15 = .ok (.iconst (-1), 1) := by decide +kernel
theorem d_x_standard_16 : decode b_x_standard 16 = .ok (.ireturn, 1) := by decide +kernel
theorem d_x_standard_17 : decode b_x_standard 17 = .ok (.aload_n 0, 1) := by decide +kernel
theorem d_x_standard_18 : decode b_x_standard 18 = .ok (.getfield 35, 3) := by decide +kernel
theorem d_x_standard_21 : decode b_x_standard 21 = .ok (.iload_n 1, 1) := by decide +kernel
theorem d_x_standard_22 : decode b_x_standard 22 = .ok (.invokevirtual 171, 3) := by decide +kernel
theorem d_x_standard_25 : decode b_x_standard 25 = .ok (.ireturn, 1) := by decide +kernel
/-- SpaceBasis.standard(I)I -/
def vc_x_standard (x_provedCount : Int32) (mn_variables : Int32) (mn_order : Int32) (mn_highest : Int32) (mn_count : Int32) (mn_firstOfDegree : Nat → Int32) (sp_degree : Int32) (sp_size : Int32) (sp_count : Int32) (sp_rowOfLead : Nat → Int32) (p0 : Int32) (Q : Int32 → Prop) : Prop :=
  (((p0 < 0) → (Q (-1))) ∧ ((¬ (p0 < 0)) → ((((p0 ≤ sp_degree) → (vc_sp_standardOfDegree mn_variables mn_order mn_highest mn_count mn_firstOfDegree sp_degree sp_size sp_count sp_rowOfLead p0 (fun (r_3 : Int32) => Q r_3))) ∧ ((¬ (p0 ≤ sp_degree)) → (Q (-1)))))))
abbrev at_x_standard (dC : Nat → ClassId) (dI : Nat → Nat → Nat) (cs : Nat → ClassId) (A : Nat → Prop) (ad : Nat → Nat) (x_provedCount : Int32) (mn_variables : Int32) (mn_order : Int32) (mn_highest : Int32) (mn_count : Int32) (mn_firstOfDegree : Nat → Int32) (sp_degree : Int32) (sp_size : Int32) (sp_count : Int32) (sp_rowOfLead : Nat → Int32) (u : Unit) (t : State) : Prop := match u with
  | _ => va_P (dC, dI) vwCl [((ad 0), .inr (0, [.ref (ad 3), .ref (ad 4), .ref (ad 9), .ref (ad 12), .ref (ad 23), .ref (ad 27), .ref (ad 1), .ref (ad 2), .int x_provedCount])), ((ad 4), .inr (2, [.ref (ad 5), .ref (ad 6), .ref (ad 7), .ref (ad 8), .int mn_variables, .int mn_order, .int mn_highest, .int mn_count])), ((ad 7), .inl (cs 0, 32, .inl mn_firstOfDegree)), ((ad 12), .inr (4, [.ref (ad 3), .ref (ad 4), .ref (ad 18), .ref (ad 13), .ref (ad 14), .ref (ad 15), .ref (ad 16), .ref (ad 17), .int sp_degree, .int sp_size, .int sp_count])), ((ad 15), .inl (cs 0, 126, .inl sp_rowOfLead))] t.heap ∧ va_D A [((ad 0), .inr (0, [.ref (ad 3), .ref (ad 4), .ref (ad 9), .ref (ad 12), .ref (ad 23), .ref (ad 27), .ref (ad 1), .ref (ad 2), .int x_provedCount])), ((ad 4), .inr (2, [.ref (ad 5), .ref (ad 6), .ref (ad 7), .ref (ad 8), .int mn_variables, .int mn_order, .int mn_highest, .int mn_count])), ((ad 7), .inl (cs 0, 32, .inl mn_firstOfDegree)), ((ad 12), .inr (4, [.ref (ad 3), .ref (ad 4), .ref (ad 18), .ref (ad 13), .ref (ad 14), .ref (ad 15), .ref (ad 16), .ref (ad 17), .int sp_degree, .int sp_size, .int sp_count])), ((ad 15), .inl (cs 0, 126, .inl sp_rowOfLead))]
set_option maxHeartbeats 4000000 in
set_option maxRecDepth 100000 in
theorem c_x_standard (l : Launch) (dC : Nat → ClassId) (dI : Nat → Nat → Nat) (cs : Nat → ClassId) (ad : Nat → Nat)  (sz : Nat) (x_provedCount : Int32) (mn_variables : Int32) (mn_order : Int32) (mn_highest : Int32) (mn_count : Int32) (mn_firstOfDegree : Nat → Int32) (sp_degree : Int32) (sp_size : Int32) (sp_count : Int32) (sp_rowOfLead : Nat → Int32) (p0 : Int32) (Q : Int32 → Prop) (hv : vc_x_standard x_provedCount mn_variables mn_order mn_highest mn_count mn_firstOfDegree sp_degree sp_size sp_count sp_rowOfLead p0 Q) : Met l y_x_standard w_x_standard ({ frames := 2, cells := 0, slots := 0, locals := 44 }) (va_Pc [.ref (ad 0), .int p0] (fun U => U.heap.size = sz ∧ va_P (dC, dI) vwCl [((ad 0), .inr (0, [.ref (ad 3), .ref (ad 4), .ref (ad 9), .ref (ad 12), .ref (ad 23), .ref (ad 27), .ref (ad 1), .ref (ad 2), .int x_provedCount])), ((ad 4), .inr (2, [.ref (ad 5), .ref (ad 6), .ref (ad 7), .ref (ad 8), .int mn_variables, .int mn_order, .int mn_highest, .int mn_count])), ((ad 7), .inl (cs 0, 32, .inl mn_firstOfDegree)), ((ad 12), .inr (4, [.ref (ad 3), .ref (ad 4), .ref (ad 18), .ref (ad 13), .ref (ad 14), .ref (ad 15), .ref (ad 16), .ref (ad 17), .int sp_degree, .int sp_size, .int sp_count])), ((ad 15), .inl (cs 0, 126, .inl sp_rowOfLead))] U.heap ∧ vwK dC dI cs U ∧ va_D (fun _ => True) [((ad 0), .inr (0, [.ref (ad 3), .ref (ad 4), .ref (ad 9), .ref (ad 12), .ref (ad 23), .ref (ad 27), .ref (ad 1), .ref (ad 2), .int x_provedCount])), ((ad 4), .inr (2, [.ref (ad 5), .ref (ad 6), .ref (ad 7), .ref (ad 8), .int mn_variables, .int mn_order, .int mn_highest, .int mn_count])), ((ad 7), .inl (cs 0, 32, .inl mn_firstOfDegree)), ((ad 12), .inr (4, [.ref (ad 3), .ref (ad 4), .ref (ad 18), .ref (ad 13), .ref (ad 14), .ref (ad 15), .ref (ad 16), .ref (ad 17), .int sp_degree, .int sp_size, .int sp_count])), ((ad 15), .inl (cs 0, 126, .inl sp_rowOfLead))])) (va_Qi (fun (r : Int32) (u : Unit) => Q r) (at_x_standard dC dI cs (va_A [((ad 0), .inr (0, [.ref (ad 3), .ref (ad 4), .ref (ad 9), .ref (ad 12), .ref (ad 23), .ref (ad 27), .ref (ad 1), .ref (ad 2), .int x_provedCount])), ((ad 4), .inr (2, [.ref (ad 5), .ref (ad 6), .ref (ad 7), .ref (ad 8), .int mn_variables, .int mn_order, .int mn_highest, .int mn_count])), ((ad 7), .inl (cs 0, 32, .inl mn_firstOfDegree)), ((ad 12), .inr (4, [.ref (ad 3), .ref (ad 4), .ref (ad 18), .ref (ad 13), .ref (ad 14), .ref (ad 15), .ref (ad 16), .ref (ad 17), .int sp_degree, .int sp_size, .int sp_count])), ((ad 15), .inl (cs 0, 126, .inl sp_rowOfLead))] sz) ad x_provedCount mn_variables mn_order mn_highest mn_count mn_firstOfDegree sp_degree sp_size sp_count sp_rowOfLead) (va_A [((ad 0), .inr (0, [.ref (ad 3), .ref (ad 4), .ref (ad 9), .ref (ad 12), .ref (ad 23), .ref (ad 27), .ref (ad 1), .ref (ad 2), .int x_provedCount])), ((ad 4), .inr (2, [.ref (ad 5), .ref (ad 6), .ref (ad 7), .ref (ad 8), .int mn_variables, .int mn_order, .int mn_highest, .int mn_count])), ((ad 7), .inl (cs 0, 32, .inl mn_firstOfDegree)), ((ad 12), .inr (4, [.ref (ad 3), .ref (ad 4), .ref (ad 18), .ref (ad 13), .ref (ad 14), .ref (ad 15), .ref (ad 16), .ref (ad 17), .int sp_degree, .int sp_size, .int sp_count])), ((ad 15), .inl (cs 0, 126, .inl sp_rowOfLead))] sz)) 0 0 (va_A [((ad 0), .inr (0, [.ref (ad 3), .ref (ad 4), .ref (ad 9), .ref (ad 12), .ref (ad 23), .ref (ad 27), .ref (ad 1), .ref (ad 2), .int x_provedCount])), ((ad 4), .inr (2, [.ref (ad 5), .ref (ad 6), .ref (ad 7), .ref (ad 8), .int mn_variables, .int mn_order, .int mn_highest, .int mn_count])), ((ad 7), .inl (cs 0, 32, .inl mn_firstOfDegree)), ((ad 12), .inr (4, [.ref (ad 3), .ref (ad 4), .ref (ad 18), .ref (ad 13), .ref (ad 14), .ref (ad 15), .ref (ad 16), .ref (ad 17), .int sp_degree, .int sp_size, .int sp_count])), ((ad 15), .inl (cs 0, 126, .inl sp_rowOfLead))] sz) := by
  unfold vc_x_standard at hv
  refine Met.ofW (cc := b_x_standard) (maxL := 2) (ret := (some .int)) (by decide) rfl ?_
  intro p e s m args below meth c s₁ B hml hpc
  obtain ⟨rfl, hsz, hP, ⟨hK, hN⟩, hD0⟩ := hpc
  have hx := B.exec
  have hb := B.bytes
  have hr := B.returns
  have hts : ∀ w ∈ vwWS, w.before _ s = true := fun w h => atoms_spec (ws := w_x_standard) B.pre w (List.mem_cons_of_mem _ h)
  have hown : s.vm.findClass "SpaceBasis" = some m.cls := findClass_of_methodNamed B.named
  have hlocks := B.notSynchronized
  subst hsz
  have hD := hD0.self (sz := s.heap.size)
  generalize hAe : va_A [((ad 0), .inr (0, [.ref (ad 3), .ref (ad 4), .ref (ad 9), .ref (ad 12), .ref (ad 23), .ref (ad 27), .ref (ad 1), .ref (ad 2), .int x_provedCount])), ((ad 4), .inr (2, [.ref (ad 5), .ref (ad 6), .ref (ad 7), .ref (ad 8), .int mn_variables, .int mn_order, .int mn_highest, .int mn_count])), ((ad 7), .inl (cs 0, 32, .inl mn_firstOfDegree)), ((ad 12), .inr (4, [.ref (ad 3), .ref (ad 4), .ref (ad 18), .ref (ad 13), .ref (ad 14), .ref (ad 15), .ref (ad 16), .ref (ad 17), .int sp_degree, .int sp_size, .int sp_count])), ((ad 15), .inl (cs 0, 126, .inl sp_rowOfLead))] s.heap.size = A at hD ⊢
  have hA : ∀ q : Nat, s.heap.size ≤ q → A q := fun q h => by rw [← hAe]; exact Or.inr h
  have hS : va_S A s.heap s.heap [] := va_S.rf
  have hl := lv_entry ([.ref (ad 0), .int p0]) (n := 2) (Nat.le_of_ble_eq_true rfl)
  rw [lg_entry_eq]
  generalize (lg_sl ([.ref (ad 0), .int p0]) ++ List.replicate (2 - (lg_sl ([.ref (ad 0), .int p0])).length) Slot.unset).toArray = ls at hl ⊢
  have hl : lv_has ls 2 [(0, .ref (ad 0)), (1, .int p0)] := hl
  refine lv_iload_n hx hb d_x_standard_0 rfl (lv_at hl 1 rfl) ?_
  refine lv_if_lt (tgt := 15) hx hb d_x_standard_1 (by decide) (fun c_1 => ?_) (fun c_1 => ?_)
  · have hv := hv.1 c_1
    refine lv_iconst (v := (-1)) hx hb d_x_standard_15 (by decide) ?_
    have hP9 := hP.sub (ws' := [((ad 0), .inr (0, [.ref (ad 3), .ref (ad 4), .ref (ad 9), .ref (ad 12), .ref (ad 23), .ref (ad 27), .ref (ad 1), .ref (ad 2), .int x_provedCount])), ((ad 4), .inr (2, [.ref (ad 5), .ref (ad 6), .ref (ad 7), .ref (ad 8), .int mn_variables, .int mn_order, .int mn_highest, .int mn_count])), ((ad 7), .inl (cs 0, 32, .inl mn_firstOfDegree)), ((ad 12), .inr (4, [.ref (ad 3), .ref (ad 4), .ref (ad 18), .ref (ad 13), .ref (ad 14), .ref (ad 15), .ref (ad 16), .ref (ad 17), .int sp_degree, .int sp_size, .int sp_count])), ((ad 15), .inl (cs 0, 126, .inl sp_rowOfLead))]) [0, 1, 2, 3, 4] rfl
    have hD9 := hD.sub (ws' := [((ad 0), .inr (0, [.ref (ad 3), .ref (ad 4), .ref (ad 9), .ref (ad 12), .ref (ad 23), .ref (ad 27), .ref (ad 1), .ref (ad 2), .int x_provedCount])), ((ad 4), .inr (2, [.ref (ad 5), .ref (ad 6), .ref (ad 7), .ref (ad 8), .int mn_variables, .int mn_order, .int mn_highest, .int mn_count])), ((ad 7), .inl (cs 0, 32, .inl mn_firstOfDegree)), ((ad 12), .inr (4, [.ref (ad 3), .ref (ad 4), .ref (ad 18), .ref (ad 13), .ref (ad 14), .ref (ad 15), .ref (ad 16), .ref (ad 17), .int sp_degree, .int sp_size, .int sp_count])), ((ad 15), .inl (cs 0, 126, .inl sp_rowOfLead))]) [0, 1, 2, 3, 4] (by decide) rfl
    exact W.iret (v := (-1)) hx hb hr (fun t ht hW => ⟨⟨(-1), (), rfl, hv, by rw [ht]; exact hP9, hD9⟩, hS.F ht⟩) hS.2.2 d_x_standard_16
  · have hv := hv.2 c_1
    refine lv_iload_n hx hb d_x_standard_4 rfl (lv_at hl 1 rfl) ?_
    refine lv_aload_n hx hb d_x_standard_5 rfl (lv_at hl 0 rfl) ?_
    refine va_get (D := (dC, dI)) (ci := 0) (v := .ref (ad 12)) (C := R_x) (T := F_x) (N := 9) hx hb hts in_x hown hK hP 0 rfl rfl 3 (by decide) (hts _ kw_261) (fun _ h9 => h9) rfl d_x_standard_6 ?_
    refine va_getN (D := (dC, dI)) (ci := 4) (v := .int sp_degree) (C := R_sp) (T := F_sp) (N := 11) hx hb hts in_sp hown hK hP 3 rfl rfl 8 (by decide) (va_Nw.use rfl (hN _ kn_31)) (fun _ h9 => h9) rfl d_x_standard_9 ?_
    refine lv_icmp_le (tgt := 17) hx hb d_x_standard_12 (by decide) (fun c_2 => ?_) (fun c_2 => ?_)
    · have hv := hv.1 c_2
      refine lv_aload_n hx hb d_x_standard_17 rfl (lv_at hl 0 rfl) ?_
      refine va_get (D := (dC, dI)) (ci := 0) (v := .ref (ad 12)) (C := R_x) (T := F_x) (N := 9) hx hb hts in_x hown hK hP 0 rfl rfl 3 (by decide) (hts _ kw_261) (fun _ h9 => h9) rfl d_x_standard_18 ?_
      refine lv_iload_n hx hb d_x_standard_21 rfl (lv_at hl 1 rfl) ?_
      have hPc := hP.sub (ws' := [((ad 4), .inr (2, [.ref (ad 5), .ref (ad 6), .ref (ad 7), .ref (ad 8), .int mn_variables, .int mn_order, .int mn_highest, .int mn_count])), ((ad 7), .inl (cs 0, 32, .inl mn_firstOfDegree)), ((ad 12), .inr (4, [.ref (ad 3), .ref (ad 4), .ref (ad 18), .ref (ad 13), .ref (ad 14), .ref (ad 15), .ref (ad 16), .ref (ad 17), .int sp_degree, .int sp_size, .int sp_count])), ((ad 15), .inl (cs 0, 126, .inl sp_rowOfLead))]) [1, 2, 3, 4] rfl
      have hDc := hD.sub (ws' := [((ad 4), .inr (2, [.ref (ad 5), .ref (ad 6), .ref (ad 7), .ref (ad 8), .int mn_variables, .int mn_order, .int mn_highest, .int mn_count])), ((ad 7), .inl (cs 0, 32, .inl mn_firstOfDegree)), ((ad 12), .inr (4, [.ref (ad 3), .ref (ad 4), .ref (ad 18), .ref (ad 13), .ref (ad 14), .ref (ad 15), .ref (ad 16), .ref (ad 17), .int sp_degree, .int sp_size, .int sp_count])), ((ad 15), .inl (cs 0, 126, .inl sp_rowOfLead))]) [1, 2, 3, 4] (by decide) rfl
      have hFc := va_free (wc := [((ad 4), .inr (2, [.ref (ad 5), .ref (ad 6), .ref (ad 7), .ref (ad 8), .int mn_variables, .int mn_order, .int mn_highest, .int mn_count])), ((ad 7), .inl (cs 0, 32, .inl mn_firstOfDegree)), ((ad 12), .inr (4, [.ref (ad 3), .ref (ad 4), .ref (ad 18), .ref (ad 13), .ref (ad 14), .ref (ad 15), .ref (ad 16), .ref (ad 17), .int sp_degree, .int sp_size, .int sp_count])), ((ad 15), .inl (cs 0, 126, .inl sp_rowOfLead))]) hD hS hA [1, 2, 3, 4] rfl
      refine va_calli (va_runV (As := [.int p0]) (rest := []) ⟨hx, hb, hml, hown, hts⟩ (c_sp_standardOfDegree l dC dI cs ad  s.heap.size mn_variables mn_order mn_highest mn_count mn_firstOfDegree sp_degree sp_size sp_count sp_rowOfLead p0 _ hv) (cwV 1 hts (gd_V kw_340 kw_341 kw_342 kw_36 kw_343) rfl rfl rfl (by decide +kernel) ⟨Nat.le_of_ble_eq_true rfl, Nat.le_of_ble_eq_true rfl⟩) ⟨fun a U g mk q => by obtain ⟨q0, q1, qP, qK, qD⟩ := q; exact ⟨q0, q1, qP, qK.call, qD⟩, va_recv hK hPc (ci := 4) (q0 := 2) rfl rfl, fun U hU hW => ⟨rfl, by rw [hU], by rw [hU]; exact hPc, vwK.warm hW ⟨hK, hN⟩, hDc.weaken (fun _ _ _ _ => trivial)⟩⟩ rfl rfl hl.1 rfl (lv_room (Nat.le_of_ble_eq_true rfl)) d_x_standard_22 ⟨Nat.zero_le _, Nat.zero_le _⟩) hS (fun q _ h => hFc q h) hFc (fun r_3 _u t H1 locs1 ht hvm hw hB hz1 hk1 hS => ?_)
      obtain ⟨hP1, hD1⟩ := hB
      rw [ht] at hP1
      obtain ⟨hP, hD⟩ := va_join (wr := [((ad 0), .inr (0, [.ref (ad 3), .ref (ad 4), .ref (ad 9), .ref (ad 12), .ref (ad 23), .ref (ad 27), .ref (ad 1), .ref (ad 2), .int x_provedCount]))]) (w1 := [((ad 4), .inr (2, [.ref (ad 5), .ref (ad 6), .ref (ad 7), .ref (ad 8), .int mn_variables, .int mn_order, .int mn_highest, .int mn_count])), ((ad 7), .inl (cs 0, 32, .inl mn_firstOfDegree)), ((ad 12), .inr (4, [.ref (ad 3), .ref (ad 4), .ref (ad 18), .ref (ad 13), .ref (ad 14), .ref (ad 15), .ref (ad 16), .ref (ad 17), .int sp_degree, .int sp_size, .int sp_count])), ((ad 15), .inl (cs 0, 126, .inl sp_rowOfLead))]) hP hD [1, 2, 3, 4] [0] rfl rfl (by decide) (by decide) hk1 hFc hP1 hD1
      generalize H1 = H at hP hS ⊢
      generalize locs1 = locs at hS ⊢
      have hP : va_P (dC, dI) vwCl [((ad 0), .inr (0, [.ref (ad 3), .ref (ad 4), .ref (ad 9), .ref (ad 12), .ref (ad 23), .ref (ad 27), .ref (ad 1), .ref (ad 2), .int x_provedCount])), ((ad 4), .inr (2, [.ref (ad 5), .ref (ad 6), .ref (ad 7), .ref (ad 8), .int mn_variables, .int mn_order, .int mn_highest, .int mn_count])), ((ad 7), .inl (cs 0, 32, .inl mn_firstOfDegree)), ((ad 12), .inr (4, [.ref (ad 3), .ref (ad 4), .ref (ad 18), .ref (ad 13), .ref (ad 14), .ref (ad 15), .ref (ad 16), .ref (ad 17), .int sp_degree, .int sp_size, .int sp_count])), ((ad 15), .inl (cs 0, 126, .inl sp_rowOfLead))] H := hP
      have hD : va_D A [((ad 0), .inr (0, [.ref (ad 3), .ref (ad 4), .ref (ad 9), .ref (ad 12), .ref (ad 23), .ref (ad 27), .ref (ad 1), .ref (ad 2), .int x_provedCount])), ((ad 4), .inr (2, [.ref (ad 5), .ref (ad 6), .ref (ad 7), .ref (ad 8), .int mn_variables, .int mn_order, .int mn_highest, .int mn_count])), ((ad 7), .inl (cs 0, 32, .inl mn_firstOfDegree)), ((ad 12), .inr (4, [.ref (ad 3), .ref (ad 4), .ref (ad 18), .ref (ad 13), .ref (ad 14), .ref (ad 15), .ref (ad 16), .ref (ad 17), .int sp_degree, .int sp_size, .int sp_count])), ((ad 15), .inl (cs 0, 126, .inl sp_rowOfLead))] := hD
      have hv := hw
      try dsimp only at hv
      have hP9 := hP.sub (ws' := [((ad 0), .inr (0, [.ref (ad 3), .ref (ad 4), .ref (ad 9), .ref (ad 12), .ref (ad 23), .ref (ad 27), .ref (ad 1), .ref (ad 2), .int x_provedCount])), ((ad 4), .inr (2, [.ref (ad 5), .ref (ad 6), .ref (ad 7), .ref (ad 8), .int mn_variables, .int mn_order, .int mn_highest, .int mn_count])), ((ad 7), .inl (cs 0, 32, .inl mn_firstOfDegree)), ((ad 12), .inr (4, [.ref (ad 3), .ref (ad 4), .ref (ad 18), .ref (ad 13), .ref (ad 14), .ref (ad 15), .ref (ad 16), .ref (ad 17), .int sp_degree, .int sp_size, .int sp_count])), ((ad 15), .inl (cs 0, 126, .inl sp_rowOfLead))]) [0, 1, 2, 3, 4] rfl
      have hD9 := hD.sub (ws' := [((ad 0), .inr (0, [.ref (ad 3), .ref (ad 4), .ref (ad 9), .ref (ad 12), .ref (ad 23), .ref (ad 27), .ref (ad 1), .ref (ad 2), .int x_provedCount])), ((ad 4), .inr (2, [.ref (ad 5), .ref (ad 6), .ref (ad 7), .ref (ad 8), .int mn_variables, .int mn_order, .int mn_highest, .int mn_count])), ((ad 7), .inl (cs 0, 32, .inl mn_firstOfDegree)), ((ad 12), .inr (4, [.ref (ad 3), .ref (ad 4), .ref (ad 18), .ref (ad 13), .ref (ad 14), .ref (ad 15), .ref (ad 16), .ref (ad 17), .int sp_degree, .int sp_size, .int sp_count])), ((ad 15), .inl (cs 0, 126, .inl sp_rowOfLead))]) [0, 1, 2, 3, 4] (by decide) rfl
      exact W.iret (v := r_3) hx hb hr (fun t ht hW => ⟨⟨r_3, (), rfl, hv, by rw [ht]; exact hP9, hD9⟩, hS.F ht⟩) hS.2.2 d_x_standard_25
    · have hv := hv.2 c_2
      refine lv_iconst (v := (-1)) hx hb d_x_standard_15 (by decide) ?_
      have hP9 := hP.sub (ws' := [((ad 0), .inr (0, [.ref (ad 3), .ref (ad 4), .ref (ad 9), .ref (ad 12), .ref (ad 23), .ref (ad 27), .ref (ad 1), .ref (ad 2), .int x_provedCount])), ((ad 4), .inr (2, [.ref (ad 5), .ref (ad 6), .ref (ad 7), .ref (ad 8), .int mn_variables, .int mn_order, .int mn_highest, .int mn_count])), ((ad 7), .inl (cs 0, 32, .inl mn_firstOfDegree)), ((ad 12), .inr (4, [.ref (ad 3), .ref (ad 4), .ref (ad 18), .ref (ad 13), .ref (ad 14), .ref (ad 15), .ref (ad 16), .ref (ad 17), .int sp_degree, .int sp_size, .int sp_count])), ((ad 15), .inl (cs 0, 126, .inl sp_rowOfLead))]) [0, 1, 2, 3, 4] rfl
      have hD9 := hD.sub (ws' := [((ad 0), .inr (0, [.ref (ad 3), .ref (ad 4), .ref (ad 9), .ref (ad 12), .ref (ad 23), .ref (ad 27), .ref (ad 1), .ref (ad 2), .int x_provedCount])), ((ad 4), .inr (2, [.ref (ad 5), .ref (ad 6), .ref (ad 7), .ref (ad 8), .int mn_variables, .int mn_order, .int mn_highest, .int mn_count])), ((ad 7), .inl (cs 0, 32, .inl mn_firstOfDegree)), ((ad 12), .inr (4, [.ref (ad 3), .ref (ad 4), .ref (ad 18), .ref (ad 13), .ref (ad 14), .ref (ad 15), .ref (ad 16), .ref (ad 17), .int sp_degree, .int sp_size, .int sp_count])), ((ad 15), .inl (cs 0, 126, .inl sp_rowOfLead))]) [0, 1, 2, 3, 4] (by decide) rfl
      exact W.iret (v := (-1)) hx hb hr (fun t ht hW => ⟨⟨(-1), (), rfl, hv, by rw [ht]; exact hP9, hD9⟩, hS.F ht⟩) hS.2.2 d_x_standard_16
abbrev b_x_proved : ByteArray := prog_1_method_13_code
def y_x_proved : MethodName := ⟨"SpaceBasis", "proved", "()I"⟩
def w_x_proved : List Cond := Cond.code y_x_proved b_x_proved 1 (some .int) :: vwWS
theorem d_x_proved_0 : decode b_x_proved 0 = .ok (.aload_n 0, 1) := by decide +kernel
theorem d_x_proved_1 : decode b_x_proved 1 = .ok (.getfield 64, 3) := by decide +kernel
theorem d_x_proved_4 : decode b_x_proved 4 = .ok (.ireturn, 1) := by decide +kernel
/-- SpaceBasis.proved()I -/
def vc_x_proved (x_provedCount : Int32) (Q : Int32 → Prop) : Prop :=
  Q x_provedCount
abbrev at_x_proved (dC : Nat → ClassId) (dI : Nat → Nat → Nat) (cs : Nat → ClassId) (A : Nat → Prop) (ad : Nat → Nat) (x_provedCount : Int32) (u : Unit) (t : State) : Prop := match u with
  | _ => va_P (dC, dI) vwCl [((ad 0), .inr (0, [.ref (ad 3), .ref (ad 4), .ref (ad 9), .ref (ad 12), .ref (ad 23), .ref (ad 27), .ref (ad 1), .ref (ad 2), .int x_provedCount]))] t.heap ∧ va_D A [((ad 0), .inr (0, [.ref (ad 3), .ref (ad 4), .ref (ad 9), .ref (ad 12), .ref (ad 23), .ref (ad 27), .ref (ad 1), .ref (ad 2), .int x_provedCount]))]
set_option maxHeartbeats 4000000 in
set_option maxRecDepth 100000 in
theorem c_x_proved (l : Launch) (dC : Nat → ClassId) (dI : Nat → Nat → Nat) (cs : Nat → ClassId) (ad : Nat → Nat)  (sz : Nat) (x_provedCount : Int32) (Q : Int32 → Prop) (hv : vc_x_proved x_provedCount Q) : Met l y_x_proved w_x_proved ({ frames := 0, cells := 0, slots := 0, locals := 0 }) (va_Pc [.ref (ad 0)] (fun U => U.heap.size = sz ∧ va_P (dC, dI) vwCl [((ad 0), .inr (0, [.ref (ad 3), .ref (ad 4), .ref (ad 9), .ref (ad 12), .ref (ad 23), .ref (ad 27), .ref (ad 1), .ref (ad 2), .int x_provedCount]))] U.heap ∧ vwK dC dI cs U ∧ va_D (fun _ => True) [((ad 0), .inr (0, [.ref (ad 3), .ref (ad 4), .ref (ad 9), .ref (ad 12), .ref (ad 23), .ref (ad 27), .ref (ad 1), .ref (ad 2), .int x_provedCount]))])) (va_Qi (fun (r : Int32) (u : Unit) => Q r) (at_x_proved dC dI cs (va_A [((ad 0), .inr (0, [.ref (ad 3), .ref (ad 4), .ref (ad 9), .ref (ad 12), .ref (ad 23), .ref (ad 27), .ref (ad 1), .ref (ad 2), .int x_provedCount]))] sz) ad x_provedCount) (va_A [((ad 0), .inr (0, [.ref (ad 3), .ref (ad 4), .ref (ad 9), .ref (ad 12), .ref (ad 23), .ref (ad 27), .ref (ad 1), .ref (ad 2), .int x_provedCount]))] sz)) 0 0 (va_A [((ad 0), .inr (0, [.ref (ad 3), .ref (ad 4), .ref (ad 9), .ref (ad 12), .ref (ad 23), .ref (ad 27), .ref (ad 1), .ref (ad 2), .int x_provedCount]))] sz) := by
  unfold vc_x_proved at hv
  refine Met.ofW (cc := b_x_proved) (maxL := 1) (ret := (some .int)) (by decide) rfl ?_
  intro p e s m args below meth c s₁ B hml hpc
  obtain ⟨rfl, hsz, hP, ⟨hK, hN⟩, hD0⟩ := hpc
  have hx := B.exec
  have hb := B.bytes
  have hr := B.returns
  have hts : ∀ w ∈ vwWS, w.before _ s = true := fun w h => atoms_spec (ws := w_x_proved) B.pre w (List.mem_cons_of_mem _ h)
  have hown : s.vm.findClass "SpaceBasis" = some m.cls := findClass_of_methodNamed B.named
  have hlocks := B.notSynchronized
  subst hsz
  have hD := hD0.self (sz := s.heap.size)
  generalize hAe : va_A [((ad 0), .inr (0, [.ref (ad 3), .ref (ad 4), .ref (ad 9), .ref (ad 12), .ref (ad 23), .ref (ad 27), .ref (ad 1), .ref (ad 2), .int x_provedCount]))] s.heap.size = A at hD ⊢
  have hA : ∀ q : Nat, s.heap.size ≤ q → A q := fun q h => by rw [← hAe]; exact Or.inr h
  have hS : va_S A s.heap s.heap [] := va_S.rf
  have hl := lv_entry ([.ref (ad 0)]) (n := 1) (Nat.le_of_ble_eq_true rfl)
  rw [lg_entry_eq]
  generalize (lg_sl ([.ref (ad 0)]) ++ List.replicate (1 - (lg_sl ([.ref (ad 0)])).length) Slot.unset).toArray = ls at hl ⊢
  have hl : lv_has ls 1 [(0, .ref (ad 0))] := hl
  refine lv_aload_n hx hb d_x_proved_0 rfl (lv_at hl 0 rfl) ?_
  refine va_get (D := (dC, dI)) (ci := 0) (v := .int x_provedCount) (C := R_x) (T := F_x) (N := 9) hx hb hts in_x hown hK hP 0 rfl rfl 8 (by decide) (hts _ kw_266) (fun _ h9 => h9) rfl d_x_proved_1 ?_
  have hP9 := hP.sub (ws' := [((ad 0), .inr (0, [.ref (ad 3), .ref (ad 4), .ref (ad 9), .ref (ad 12), .ref (ad 23), .ref (ad 27), .ref (ad 1), .ref (ad 2), .int x_provedCount]))]) [0] rfl
  have hD9 := hD.sub (ws' := [((ad 0), .inr (0, [.ref (ad 3), .ref (ad 4), .ref (ad 9), .ref (ad 12), .ref (ad 23), .ref (ad 27), .ref (ad 1), .ref (ad 2), .int x_provedCount]))]) [0] (by decide) rfl
  exact W.iret (v := x_provedCount) hx hb hr (fun t ht hW => ⟨⟨x_provedCount, (), rfl, hv, by rw [ht]; exact hP9, hD9⟩, hS.F ht⟩) hS.2.2 d_x_proved_4
