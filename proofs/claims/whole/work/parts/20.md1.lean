abbrev b_md_highest : ByteArray := prog_10_method_2_code
def y_md_highest : MethodName := ⟨"SpaceBasisModel", "highest", "(I)I"⟩
def w_md_highest : List Cond := Cond.code y_md_highest b_md_highest 1 (some .int) :: vwWS
theorem d_md_highest_0 : decode b_md_highest 0 = .ok (.iload_n 0, 1) := by decide +kernel
theorem d_md_highest_1 : decode b_md_highest 1 = .ok (.iconst 1, 1) := by decide +kernel
theorem d_md_highest_2 : decode b_md_highest 2 = .ok (.if_icmp .ne 8, 3) := by decide +kernel
theorem d_md_highest_5 : decode b_md_highest 5 = .ok (.bipush 30, 2) := by decide +kernel
theorem d_md_highest_7 : decode b_md_highest 7 = .ok (.goto 24, 3) := by decide +kernel
theorem d_md_highest_10 : decode b_md_highest 10 = .ok (.iload_n 0, 1) := by decide +kernel
theorem d_md_highest_11 : decode b_md_highest 11 = .ok (.iconst 2, 1) := by decide +kernel
theorem d_md_highest_12 : decode b_md_highest 12 = .ok (.if_icmp .ne 8, 3) := by decide +kernel
theorem d_md_highest_15 : decode b_md_highest 15 = .ok (.bipush 12, 2) := by decide +kernel
theorem d_md_highest_17 : decode b_md_highest 17 = .ok (.goto 14, 3) := by decide +kernel
theorem d_md_highest_20 : decode b_md_highest 20 = .ok (.iload_n 0, 1) := by decide +kernel
theorem d_md_highest_21 : decode b_md_highest 21 = .ok (.iconst 3, 1) := by decide +kernel
theorem d_md_highest_22 : decode b_md_highest 22 = .ok (.if_icmp .ne 8, 3) := by decide +kernel
theorem d_md_highest_25 : decode b_md_highest 25 = .ok (.bipush 7, 2) := by decide +kernel
theorem d_md_highest_27 : decode b_md_highest 27 = .ok (.goto 4, 3) := by decide +kernel
theorem d_md_highest_30 : decode b_md_highest 30 = .ok (.iconst 5, 1) := by decide +kernel
theorem d_md_highest_31 : decode b_md_highest 31 = .ok (.ireturn, 1) := by decide +kernel
/-- SpaceBasisModel.highest(I)I -/
def vc_md_highest (p0 : Int32) (Q : Int32 → Prop) : Prop :=
  (((¬ (p0 = 1)) → ((((¬ (p0 = 2)) → ((((¬ (p0 = 3)) → (Q 5)) ∧ ((p0 = 3) → (Q 7))))) ∧ ((p0 = 2) → (Q 12))))) ∧ ((p0 = 1) → (Q 30)))
abbrev at_md_highest (dC : Nat → ClassId) (dI : Nat → Nat → Nat) (cs : Nat → ClassId) (A : Nat → Prop) (ad : Nat → Nat)  (u : Unit) (t : State) : Prop := match u with
  | _ => va_P (dC, dI) vwCl [] t.heap ∧ va_D A []
set_option maxHeartbeats 4000000 in
set_option maxRecDepth 100000 in
theorem c_md_highest (l : Launch) (dC : Nat → ClassId) (dI : Nat → Nat → Nat) (cs : Nat → ClassId) (ad : Nat → Nat)  (sz : Nat) (p0 : Int32) (Q : Int32 → Prop) (hv : vc_md_highest p0 Q) : Met l y_md_highest w_md_highest ({ frames := 0, cells := 0, slots := 0, locals := 0 }) (va_Pc [.int p0] (fun U => U.heap.size = sz ∧ va_P (dC, dI) vwCl [] U.heap ∧ vwK dC dI cs U ∧ va_D (fun _ => True) [])) (va_Qi (fun (r : Int32) (u : Unit) => Q r) (at_md_highest dC dI cs (va_A [] sz) ad ) (va_A [] sz)) 0 0 (va_A [] sz) := by
  unfold vc_md_highest at hv
  refine Met.ofW (cc := b_md_highest) (maxL := 1) (ret := (some .int)) (by decide) rfl ?_
  intro p e s m args below meth c s₁ B hml hpc
  obtain ⟨rfl, hsz, hP, ⟨hK, hN⟩, hD0⟩ := hpc
  have hx := B.exec
  have hb := B.bytes
  have hr := B.returns
  have hts : ∀ w ∈ vwWS, w.before _ s = true := fun w h => atoms_spec (ws := w_md_highest) B.pre w (List.mem_cons_of_mem _ h)
  have hown : s.vm.findClass "SpaceBasisModel" = some m.cls := findClass_of_methodNamed B.named
  have hlocks := B.notSynchronized
  subst hsz
  have hD := hD0.self (sz := s.heap.size)
  generalize hAe : va_A [] s.heap.size = A at hD ⊢
  have hA : ∀ q : Nat, s.heap.size ≤ q → A q := fun q h => by rw [← hAe]; exact Or.inr h
  have hS : va_S A s.heap s.heap [] := va_S.rf
  have hl := lv_entry ([.int p0]) (n := 1) (Nat.le_of_ble_eq_true rfl)
  rw [lg_entry_eq]
  generalize (lg_sl ([.int p0]) ++ List.replicate (1 - (lg_sl ([.int p0])).length) Slot.unset).toArray = ls at hl ⊢
  have hl : lv_has ls 1 [(0, .int p0)] := hl
  refine lv_iload_n hx hb d_md_highest_0 rfl (lv_at hl 0 rfl) ?_
  refine lv_iconst (v := 1) hx hb d_md_highest_1 (by decide) ?_
  refine lv_icmp_ne (tgt := 10) hx hb d_md_highest_2 (by decide) (fun c_1 => ?_) (fun c_1 => ?_)
  · have hv := hv.1 c_1
    refine lv_iload_n hx hb d_md_highest_10 rfl (lv_at hl 0 rfl) ?_
    refine lv_iconst (v := 2) hx hb d_md_highest_11 (by decide) ?_
    refine lv_icmp_ne (tgt := 20) hx hb d_md_highest_12 (by decide) (fun c_2 => ?_) (fun c_2 => ?_)
    · have hv := hv.1 c_2
      refine lv_iload_n hx hb d_md_highest_20 rfl (lv_at hl 0 rfl) ?_
      refine lv_iconst (v := 3) hx hb d_md_highest_21 (by decide) ?_
      refine lv_icmp_ne (tgt := 30) hx hb d_md_highest_22 (by decide) (fun c_3 => ?_) (fun c_3 => ?_)
      · have hv := hv.1 c_3
        refine lv_iconst (v := 5) hx hb d_md_highest_30 (by decide) ?_
        have hP9 := hP.sub (ws' := []) [] rfl
        have hD9 := hD.sub (ws' := []) [] (by decide) rfl
        exact W.iret (v := 5) hx hb hr (fun t ht hW => ⟨⟨5, (), rfl, hv, by rw [ht]; exact hP9, hD9⟩, hS.F ht⟩) hS.2.2 d_md_highest_31
      · have hv := hv.2 c_3
        refine lv_bipush (v := 7) hx hb d_md_highest_25 (by decide) ?_
        refine lv_goto (tgt := 31) hx hb d_md_highest_27 (by decide) ?_
        have hP9 := hP.sub (ws' := []) [] rfl
        have hD9 := hD.sub (ws' := []) [] (by decide) rfl
        exact W.iret (v := 7) hx hb hr (fun t ht hW => ⟨⟨7, (), rfl, hv, by rw [ht]; exact hP9, hD9⟩, hS.F ht⟩) hS.2.2 d_md_highest_31
    · have hv := hv.2 c_2
      refine lv_bipush (v := 12) hx hb d_md_highest_15 (by decide) ?_
      refine lv_goto (tgt := 31) hx hb d_md_highest_17 (by decide) ?_
      have hP9 := hP.sub (ws' := []) [] rfl
      have hD9 := hD.sub (ws' := []) [] (by decide) rfl
      exact W.iret (v := 12) hx hb hr (fun t ht hW => ⟨⟨12, (), rfl, hv, by rw [ht]; exact hP9, hD9⟩, hS.F ht⟩) hS.2.2 d_md_highest_31
  · have hv := hv.2 c_1
    refine lv_bipush (v := 30) hx hb d_md_highest_5 (by decide) ?_
    refine lv_goto (tgt := 31) hx hb d_md_highest_7 (by decide) ?_
    have hP9 := hP.sub (ws' := []) [] rfl
    have hD9 := hD.sub (ws' := []) [] (by decide) rfl
    exact W.iret (v := 30) hx hb hr (fun t ht hW => ⟨⟨30, (), rfl, hv, by rw [ht]; exact hP9, hD9⟩, hS.F ht⟩) hS.2.2 d_md_highest_31
abbrev b_md_exponent : ByteArray := prog_10_method_3_code
def y_md_exponent : MethodName := ⟨"SpaceBasisModel", "exponent", "(II)I"⟩
def w_md_exponent : List Cond := Cond.code y_md_exponent b_md_exponent 2 (some .int) :: vwWS
theorem d_md_exponent_0 : decode b_md_exponent 0 = .ok (.iload_n 0, 1) := by decide +kernel
theorem d_md_exponent_1 : decode b_md_exponent 1 = .ok (.bipush 24, 2) := by decide +kernel
theorem d_md_exponent_3 : decode b_md_exponent 3 = .ok (.bipush 8, 2) := by decide +kernel
theorem d_md_exponent_5 : decode b_md_exponent 5 = .ok (.iload_n 1, 1) := by decide +kernel
theorem d_md_exponent_6 : decode b_md_exponent 6 = .ok (.imul, 1) := by decide +kernel
theorem d_md_exponent_7 : decode b_md_exponent 7 = .ok (.isub, 1) := by decide +kernel
theorem d_md_exponent_8 : decode b_md_exponent 8 = .ok (.ishr, 1) := by decide +kernel
theorem d_md_exponent_9 : decode b_md_exponent 9 = .ok (.sipush 255, 3) := by decide +kernel
theorem d_md_exponent_12 : decode b_md_exponent 12 = .ok (.iand, 1) := by decide +kernel
theorem d_md_exponent_13 : decode b_md_exponent 13 = .ok (.ireturn, 1) := by decide +kernel
/-- SpaceBasisModel.exponent(II)I -/
def vc_md_exponent (p0 : Int32) (p1 : Int32) (Q : Int32 → Prop) : Prop :=
  Q ((p0 >>> ((24 - (8 * p1)) &&& 31)) &&& 255)
abbrev at_md_exponent (dC : Nat → ClassId) (dI : Nat → Nat → Nat) (cs : Nat → ClassId) (A : Nat → Prop) (ad : Nat → Nat)  (u : Unit) (t : State) : Prop := match u with
  | _ => va_P (dC, dI) vwCl [] t.heap ∧ va_D A []
set_option maxHeartbeats 4000000 in
set_option maxRecDepth 100000 in
theorem c_md_exponent (l : Launch) (dC : Nat → ClassId) (dI : Nat → Nat → Nat) (cs : Nat → ClassId) (ad : Nat → Nat)  (sz : Nat) (p0 : Int32) (p1 : Int32) (Q : Int32 → Prop) (hv : vc_md_exponent p0 p1 Q) : Met l y_md_exponent w_md_exponent ({ frames := 0, cells := 0, slots := 0, locals := 0 }) (va_Pc [.int p0, .int p1] (fun U => U.heap.size = sz ∧ va_P (dC, dI) vwCl [] U.heap ∧ vwK dC dI cs U ∧ va_D (fun _ => True) [])) (va_Qi (fun (r : Int32) (u : Unit) => Q r) (at_md_exponent dC dI cs (va_A [] sz) ad ) (va_A [] sz)) 0 0 (va_A [] sz) := by
  unfold vc_md_exponent at hv
  refine Met.ofW (cc := b_md_exponent) (maxL := 2) (ret := (some .int)) (by decide) rfl ?_
  intro p e s m args below meth c s₁ B hml hpc
  obtain ⟨rfl, hsz, hP, ⟨hK, hN⟩, hD0⟩ := hpc
  have hx := B.exec
  have hb := B.bytes
  have hr := B.returns
  have hts : ∀ w ∈ vwWS, w.before _ s = true := fun w h => atoms_spec (ws := w_md_exponent) B.pre w (List.mem_cons_of_mem _ h)
  have hown : s.vm.findClass "SpaceBasisModel" = some m.cls := findClass_of_methodNamed B.named
  have hlocks := B.notSynchronized
  subst hsz
  have hD := hD0.self (sz := s.heap.size)
  generalize hAe : va_A [] s.heap.size = A at hD ⊢
  have hA : ∀ q : Nat, s.heap.size ≤ q → A q := fun q h => by rw [← hAe]; exact Or.inr h
  have hS : va_S A s.heap s.heap [] := va_S.rf
  have hl := lv_entry ([.int p0, .int p1]) (n := 2) (Nat.le_of_ble_eq_true rfl)
  rw [lg_entry_eq]
  generalize (lg_sl ([.int p0, .int p1]) ++ List.replicate (2 - (lg_sl ([.int p0, .int p1])).length) Slot.unset).toArray = ls at hl ⊢
  have hl : lv_has ls 2 [(0, .int p0), (1, .int p1)] := hl
  refine lv_iload_n hx hb d_md_exponent_0 rfl (lv_at hl 0 rfl) ?_
  refine lv_bipush (v := 24) hx hb d_md_exponent_1 (by decide) ?_
  refine lv_bipush (v := 8) hx hb d_md_exponent_3 (by decide) ?_
  refine lv_iload_n hx hb d_md_exponent_5 rfl (lv_at hl 1 rfl) ?_
  refine lv_imul hx hb d_md_exponent_6 ?_
  refine lv_isub hx hb d_md_exponent_7 ?_
  refine lv_ishr hx hb d_md_exponent_8 ?_
  refine lv_sipush (v := 255) hx hb d_md_exponent_9 (by decide) ?_
  refine lv_iand hx hb d_md_exponent_12 ?_
  have hP9 := hP.sub (ws' := []) [] rfl
  have hD9 := hD.sub (ws' := []) [] (by decide) rfl
  exact W.iret (v := ((p0 >>> ((24 - (8 * p1)) &&& 31)) &&& 255)) hx hb hr (fun t ht hW => ⟨⟨((p0 >>> ((24 - (8 * p1)) &&& 31)) &&& 255), (), rfl, hv, by rw [ht]; exact hP9, hD9⟩, hS.F ht⟩) hS.2.2 d_md_exponent_13
abbrev b_md_degreeOf : ByteArray := prog_10_method_4_code
def y_md_degreeOf : MethodName := ⟨"SpaceBasisModel", "degreeOf", "(I)I"⟩
def w_md_degreeOf : List Cond := Cond.code y_md_degreeOf b_md_degreeOf 1 (some .int) :: vwWS
theorem d_md_degreeOf_0 : decode b_md_degreeOf 0 = .ok (.iload_n 0, 1) := by decide +kernel
theorem d_md_degreeOf_1 : decode b_md_degreeOf 1 = .ok (.iconst 0, 1) := by decide +kernel
theorem d_md_degreeOf_2 : decode b_md_degreeOf 2 = .ok (.invokestatic 71, 3) := by decide +kernel
theorem d_md_degreeOf_5 : decode b_md_degreeOf 5 = .ok (.iload_n 0, 1) := by decide +kernel
theorem d_md_degreeOf_6 : decode b_md_degreeOf 6 = .ok (.iconst 1, 1) := by decide +kernel
theorem d_md_degreeOf_7 : decode b_md_degreeOf 7 = .ok (.invokestatic 71, 3) := by decide +kernel
theorem d_md_degreeOf_10 : decode b_md_degreeOf 10 = .ok (.iadd, 1) := by decide +kernel
theorem d_md_degreeOf_11 : decode b_md_degreeOf 11 = .ok (.iload_n 0, 1) := by decide +kernel
theorem d_md_degreeOf_12 : decode b_md_degreeOf 12 = .ok (.iconst 2, 1) := by decide +kernel
theorem d_md_degreeOf_13 : decode b_md_degreeOf 13 = .ok (.invokestatic 71, 3) := by decide +kernel
theorem d_md_degreeOf_16 : decode b_md_degreeOf 16 = .ok (.iadd, 1) := by decide +kernel
theorem d_md_degreeOf_17 : decode b_md_degreeOf 17 = .ok (.iload_n 0, 1) := by decide +kernel
theorem d_md_degreeOf_18 : decode b_md_degreeOf 18 = .ok (.iconst 3, 1) := by decide +kernel
theorem d_md_degreeOf_19 : decode b_md_degreeOf 19 = .ok (.invokestatic 71, 3) := by decide +kernel
theorem d_md_degreeOf_22 : decode b_md_degreeOf 22 = .ok (.iadd, 1) := by decide +kernel
theorem d_md_degreeOf_23 : decode b_md_degreeOf 23 = .ok (.ireturn, 1) := by decide +kernel
/-- SpaceBasisModel.degreeOf(I)I -/
def vc_md_degreeOf (p0 : Int32) (Q : Int32 → Prop) : Prop :=
  vc_md_exponent p0 0 (fun (r_1 : Int32) => vc_md_exponent p0 1 (fun (r_2 : Int32) => vc_md_exponent p0 2 (fun (r_3 : Int32) => vc_md_exponent p0 3 (fun (r_4 : Int32) => Q (((r_1 + r_2) + r_3) + r_4)))))
abbrev at_md_degreeOf (dC : Nat → ClassId) (dI : Nat → Nat → Nat) (cs : Nat → ClassId) (A : Nat → Prop) (ad : Nat → Nat)  (u : Unit) (t : State) : Prop := match u with
  | _ => va_P (dC, dI) vwCl [] t.heap ∧ va_D A []
set_option maxHeartbeats 4000000 in
set_option maxRecDepth 100000 in
theorem c_md_degreeOf (l : Launch) (dC : Nat → ClassId) (dI : Nat → Nat → Nat) (cs : Nat → ClassId) (ad : Nat → Nat)  (sz : Nat) (p0 : Int32) (Q : Int32 → Prop) (hv : vc_md_degreeOf p0 Q) : Met l y_md_degreeOf w_md_degreeOf ({ frames := 1, cells := 0, slots := 0, locals := 21 }) (va_Pc [.int p0] (fun U => U.heap.size = sz ∧ va_P (dC, dI) vwCl [] U.heap ∧ vwK dC dI cs U ∧ va_D (fun _ => True) [])) (va_Qi (fun (r : Int32) (u : Unit) => Q r) (at_md_degreeOf dC dI cs (va_A [] sz) ad ) (va_A [] sz)) 0 0 (va_A [] sz) := by
  unfold vc_md_degreeOf at hv
  refine Met.ofW (cc := b_md_degreeOf) (maxL := 1) (ret := (some .int)) (by decide) rfl ?_
  intro p e s m args below meth c s₁ B hml hpc
  obtain ⟨rfl, hsz, hP, ⟨hK, hN⟩, hD0⟩ := hpc
  have hx := B.exec
  have hb := B.bytes
  have hr := B.returns
  have hts : ∀ w ∈ vwWS, w.before _ s = true := fun w h => atoms_spec (ws := w_md_degreeOf) B.pre w (List.mem_cons_of_mem _ h)
  have hown : s.vm.findClass "SpaceBasisModel" = some m.cls := findClass_of_methodNamed B.named
  have hlocks := B.notSynchronized
  subst hsz
  have hD := hD0.self (sz := s.heap.size)
  generalize hAe : va_A [] s.heap.size = A at hD ⊢
  have hA : ∀ q : Nat, s.heap.size ≤ q → A q := fun q h => by rw [← hAe]; exact Or.inr h
  have hS : va_S A s.heap s.heap [] := va_S.rf
  have hl := lv_entry ([.int p0]) (n := 1) (Nat.le_of_ble_eq_true rfl)
  rw [lg_entry_eq]
  generalize (lg_sl ([.int p0]) ++ List.replicate (1 - (lg_sl ([.int p0])).length) Slot.unset).toArray = ls at hl ⊢
  have hl : lv_has ls 1 [(0, .int p0)] := hl
  refine lv_iload_n hx hb d_md_degreeOf_0 rfl (lv_at hl 0 rfl) ?_
  refine lv_iconst (v := 0) hx hb d_md_degreeOf_1 (by decide) ?_
  have hPc := hP.sub (ws' := []) [] rfl
  have hDc := hD.sub (ws' := []) [] (by decide) rfl
  have hFc := va_free (wc := []) hD hS hA [] rfl
  refine va_calli (va_runS (As := [.int p0, .int 0]) (rest := []) ⟨hx, hb, hml, hown, hts⟩ (c_md_exponent l dC dI cs ad  s.heap.size p0 0 _ hv) (va_cwS 2 hts (gd_S kw_615 kw_616 kw_41 kw_617) rfl rfl rfl (by decide +kernel) ⟨Nat.le_of_ble_eq_true rfl, Nat.le_of_ble_eq_true rfl⟩) ⟨fun a U g mk q => by obtain ⟨q0, q1, qP, qK, qD⟩ := q; exact ⟨q0, q1, qP, qK.call, qD⟩, fun U hU hW => ⟨rfl, by rw [hU], by rw [hU]; exact hPc, vwK.warm hW ⟨hK, hN⟩, hDc.weaken (fun _ _ _ _ => trivial)⟩⟩ rfl rfl hl.1 rfl (lv_room (Nat.le_of_ble_eq_true rfl)) d_md_degreeOf_2 ⟨Nat.zero_le _, Nat.zero_le _⟩) hS (fun q _ h => hFc q h) hFc (fun r_1 _u t H1 locs1 ht hvm hw hB hz1 hk1 hS => ?_)
  obtain ⟨hP1, hD1⟩ := hB
  rw [ht] at hP1
  obtain ⟨hP, hD⟩ := va_join (wr := []) (w1 := []) hP hD [] [] rfl rfl (by decide) (by decide) hk1 hFc hP1 hD1
  generalize H1 = H at hP hS ⊢
  generalize locs1 = locs at hS ⊢
  have hP : va_P (dC, dI) vwCl [] H := hP
  have hD : va_D A [] := hD
  have hv := hw
  try dsimp only at hv
  refine lv_iload_n hx hb d_md_degreeOf_5 rfl (lv_at hl 0 rfl) ?_
  refine lv_iconst (v := 1) hx hb d_md_degreeOf_6 (by decide) ?_
  have hPc := hP.sub (ws' := []) [] rfl
  have hDc := hD.sub (ws' := []) [] (by decide) rfl
  have hFc := va_free (wc := []) hD hS hA [] rfl
  refine va_calli (va_runS (As := [.int p0, .int 1]) (rest := [.int r_1]) ⟨hx, hb, hml, hown, hts⟩ (c_md_exponent l dC dI cs ad  H.size p0 1 _ hv) (va_cwS 2 hts (gd_S kw_615 kw_616 kw_41 kw_617) rfl rfl rfl (by decide +kernel) ⟨Nat.le_of_ble_eq_true rfl, Nat.le_of_ble_eq_true rfl⟩) ⟨fun a U g mk q => by obtain ⟨q0, q1, qP, qK, qD⟩ := q; exact ⟨q0, q1, qP, qK.call, qD⟩, fun U hU hW => ⟨rfl, by rw [hU], by rw [hU]; exact hPc, vwK.warm hW ⟨hK, hN⟩, hDc.weaken (fun _ _ _ _ => trivial)⟩⟩ rfl rfl hl.1 rfl (lv_room (Nat.le_of_ble_eq_true rfl)) d_md_degreeOf_7 ⟨Nat.zero_le _, Nat.zero_le _⟩) hS (fun q _ h => hFc q h) hFc (fun r_2 _u t H1 locs1 ht hvm hw hB hz1 hk1 hS => ?_)
  obtain ⟨hP1, hD1⟩ := hB
  rw [ht] at hP1
  obtain ⟨hP, hD⟩ := va_join (wr := []) (w1 := []) hP hD [] [] rfl rfl (by decide) (by decide) hk1 hFc hP1 hD1
  generalize H1 = H at hP hS ⊢
  generalize locs1 = locs at hS ⊢
  have hP : va_P (dC, dI) vwCl [] H := hP
  have hD : va_D A [] := hD
  have hv := hw
  try dsimp only at hv
  refine lv_iadd hx hb d_md_degreeOf_10 ?_
  refine lv_iload_n hx hb d_md_degreeOf_11 rfl (lv_at hl 0 rfl) ?_
  refine lv_iconst (v := 2) hx hb d_md_degreeOf_12 (by decide) ?_
  have hPc := hP.sub (ws' := []) [] rfl
  have hDc := hD.sub (ws' := []) [] (by decide) rfl
  have hFc := va_free (wc := []) hD hS hA [] rfl
  refine va_calli (va_runS (As := [.int p0, .int 2]) (rest := [.int (r_1 + r_2)]) ⟨hx, hb, hml, hown, hts⟩ (c_md_exponent l dC dI cs ad  H.size p0 2 _ hv) (va_cwS 2 hts (gd_S kw_615 kw_616 kw_41 kw_617) rfl rfl rfl (by decide +kernel) ⟨Nat.le_of_ble_eq_true rfl, Nat.le_of_ble_eq_true rfl⟩) ⟨fun a U g mk q => by obtain ⟨q0, q1, qP, qK, qD⟩ := q; exact ⟨q0, q1, qP, qK.call, qD⟩, fun U hU hW => ⟨rfl, by rw [hU], by rw [hU]; exact hPc, vwK.warm hW ⟨hK, hN⟩, hDc.weaken (fun _ _ _ _ => trivial)⟩⟩ rfl rfl hl.1 rfl (lv_room (Nat.le_of_ble_eq_true rfl)) d_md_degreeOf_13 ⟨Nat.zero_le _, Nat.zero_le _⟩) hS (fun q _ h => hFc q h) hFc (fun r_3 _u t H1 locs1 ht hvm hw hB hz1 hk1 hS => ?_)
  obtain ⟨hP1, hD1⟩ := hB
  rw [ht] at hP1
  obtain ⟨hP, hD⟩ := va_join (wr := []) (w1 := []) hP hD [] [] rfl rfl (by decide) (by decide) hk1 hFc hP1 hD1
  generalize H1 = H at hP hS ⊢
  generalize locs1 = locs at hS ⊢
  have hP : va_P (dC, dI) vwCl [] H := hP
  have hD : va_D A [] := hD
  have hv := hw
  try dsimp only at hv
  refine lv_iadd hx hb d_md_degreeOf_16 ?_
  refine lv_iload_n hx hb d_md_degreeOf_17 rfl (lv_at hl 0 rfl) ?_
  refine lv_iconst (v := 3) hx hb d_md_degreeOf_18 (by decide) ?_
  have hPc := hP.sub (ws' := []) [] rfl
  have hDc := hD.sub (ws' := []) [] (by decide) rfl
  have hFc := va_free (wc := []) hD hS hA [] rfl
  refine va_calli (va_runS (As := [.int p0, .int 3]) (rest := [.int ((r_1 + r_2) + r_3)]) ⟨hx, hb, hml, hown, hts⟩ (c_md_exponent l dC dI cs ad  H.size p0 3 _ hv) (va_cwS 2 hts (gd_S kw_615 kw_616 kw_41 kw_617) rfl rfl rfl (by decide +kernel) ⟨Nat.le_of_ble_eq_true rfl, Nat.le_of_ble_eq_true rfl⟩) ⟨fun a U g mk q => by obtain ⟨q0, q1, qP, qK, qD⟩ := q; exact ⟨q0, q1, qP, qK.call, qD⟩, fun U hU hW => ⟨rfl, by rw [hU], by rw [hU]; exact hPc, vwK.warm hW ⟨hK, hN⟩, hDc.weaken (fun _ _ _ _ => trivial)⟩⟩ rfl rfl hl.1 rfl (lv_room (Nat.le_of_ble_eq_true rfl)) d_md_degreeOf_19 ⟨Nat.zero_le _, Nat.zero_le _⟩) hS (fun q _ h => hFc q h) hFc (fun r_4 _u t H1 locs1 ht hvm hw hB hz1 hk1 hS => ?_)
  obtain ⟨hP1, hD1⟩ := hB
  rw [ht] at hP1
  obtain ⟨hP, hD⟩ := va_join (wr := []) (w1 := []) hP hD [] [] rfl rfl (by decide) (by decide) hk1 hFc hP1 hD1
  generalize H1 = H at hP hS ⊢
  generalize locs1 = locs at hS ⊢
  have hP : va_P (dC, dI) vwCl [] H := hP
  have hD : va_D A [] := hD
  have hv := hw
  try dsimp only at hv
  refine lv_iadd hx hb d_md_degreeOf_22 ?_
  have hP9 := hP.sub (ws' := []) [] rfl
  have hD9 := hD.sub (ws' := []) [] (by decide) rfl
  exact W.iret (v := (((r_1 + r_2) + r_3) + r_4)) hx hb hr (fun t ht hW => ⟨⟨(((r_1 + r_2) + r_3) + r_4), (), rfl, hv, by rw [ht]; exact hP9, hD9⟩, hS.F ht⟩) hS.2.2 d_md_degreeOf_23
abbrev b_md_greater : ByteArray := prog_10_method_5_code
def y_md_greater : MethodName := ⟨"SpaceBasisModel", "greater", "(II)Z"⟩
def w_md_greater : List Cond := Cond.code y_md_greater b_md_greater 5 (some .boolean) :: vwWS
theorem d_md_greater_0 : decode b_md_greater 0 = .ok (.iload_n 1, 1) := by decide +kernel
theorem d_md_greater_1 : decode b_md_greater 1 = .ok (.invokestatic 75, 3) := by decide +kernel
theorem d_md_greater_4 : decode b_md_greater 4 = .ok (.iload_n 2, 1) := by decide +kernel
theorem d_md_greater_5 : decode b_md_greater 5 = .ok (.invokestatic 75, 3) := by decide +kernel
theorem d_md_greater_8 : decode b_md_greater 8 = .ok (.if_icmp .eq 20, 3) := by decide +kernel
theorem d_md_greater_11 : decode b_md_greater 11 = .ok (.iload_n 1, 1) := by decide +kernel
theorem d_md_greater_12 : decode b_md_greater 12 = .ok (.invokestatic 75, 3) := by decide +kernel
theorem d_md_greater_15 : decode b_md_greater 15 = .ok (.iload_n 2, 1) := by decide +kernel
theorem d_md_greater_16 : decode b_md_greater 16 = .ok (.invokestatic 75, 3) := by decide +kernel
theorem d_md_greater_19 : decode b_md_greater 19 = .ok (.if_icmp .le 7, 3) := by decide +kernel
theorem d_md_greater_22 : decode b_md_greater 22 = .ok (.iconst 1, 1) := by decide +kernel
theorem d_md_greater_23 : decode b_md_greater 23 = .ok (.goto 4, 3) := by decide +kernel
theorem d_md_greater_26 : decode b_md_greater 26 = .ok (.iconst 0, 1) := by decide +kernel
theorem d_md_greater_27 : decode b_md_greater 27 = .ok (.ireturn, 1) := by decide +kernel
theorem d_md_greater_28 : decode b_md_greater 28 = .ok (.iconst 0, 1) := by decide +kernel
theorem d_md_greater_29 : decode b_md_greater 29 = .ok (.istore_n 3, 1) := by decide +kernel
theorem d_md_greater_30 : decode b_md_greater 30 = .ok (.iload_n 3, 1) := by decide +kernel
theorem d_md_greater_31 : decode b_md_greater 31 = .ok (.iconst 4, 1) := by decide +kernel
theorem d_md_greater_32 : decode b_md_greater 32 = .ok (.if_icmp .ge 91, 3) := by decide +kernel
theorem d_md_greater_35 : decode b_md_greater 35 = .ok (.aload_n 0, 1) := by decide +kernel
theorem d_md_greater_36 : decode b_md_greater 36 = .ok (.getfield 19, 3) := by decide +kernel
theorem d_md_greater_39 : decode b_md_greater 39 = .ok (.ifCond .ne 9, 3) := by decide +kernel
theorem d_md_greater_42 : decode b_md_greater 42 = .ok (.iconst 3, 1) := by decide +kernel
theorem d_md_greater_43 : decode b_md_greater 43 = .ok (.iload_n 3, 1) := by decide +kernel
theorem d_md_greater_44 : decode b_md_greater 44 = .ok (.isub, 1) := by decide +kernel
theorem d_md_greater_45 : decode b_md_greater 45 = .ok (.goto 4, 3) := by decide +kernel
theorem d_md_greater_48 : decode b_md_greater 48 = .ok (.iload_n 3, 1) := by decide +kernel
theorem d_md_greater_49 : decode b_md_greater 49 = .ok (.istore 4, 2) := by decide +kernel
theorem d_md_greater_51 : decode b_md_greater 51 = .ok (.iload_n 1, 1) := by decide +kernel
theorem d_md_greater_52 : decode b_md_greater 52 = .ok (.iload 4, 2) := by decide +kernel
theorem d_md_greater_54 : decode b_md_greater 54 = .ok (.invokestatic 71, 3) := by decide +kernel
theorem d_md_greater_57 : decode b_md_greater 57 = .ok (.iload_n 2, 1) := by decide +kernel
theorem d_md_greater_58 : decode b_md_greater 58 = .ok (.iload 4, 2) := by decide +kernel
theorem d_md_greater_60 : decode b_md_greater 60 = .ok (.invokestatic 71, 3) := by decide +kernel
theorem d_md_greater_63 : decode b_md_greater 63 = .ok (.if_icmp .eq 54, 3) := by decide +kernel
theorem d_md_greater_66 : decode b_md_greater 66 = .ok (.aload_n 0, 1) := by decide +kernel
theorem d_md_greater_67 : decode b_md_greater 67 = .ok (.getfield 19, 3) := by decide +kernel
theorem d_md_greater_70 : decode b_md_greater 70 = .ok (.ifCond .ne 26, 3) := by decide +kernel
theorem d_md_greater_73 : decode b_md_greater 73 = .ok (.iload_n 1, 1) := by decide +kernel
theorem d_md_greater_74 : decode b_md_greater 74 = .ok (.iload 4, 2) := by decide +kernel
theorem d_md_greater_76 : decode b_md_greater 76 = .ok (.invokestatic 71, 3) := by decide +kernel
theorem d_md_greater_79 : decode b_md_greater 79 = .ok (.iload_n 2, 1) := by decide +kernel
theorem d_md_greater_80 : decode b_md_greater 80 = .ok (.iload 4, 2) := by decide +kernel
theorem d_md_greater_82 : decode b_md_greater 82 = .ok (.invokestatic 71, 3) := by decide +kernel
theorem d_md_greater_85 : decode b_md_greater 85 = .ok (.if_icmp .ge 7, 3) := by decide +kernel
theorem d_md_greater_88 : decode b_md_greater 88 = .ok (.iconst 1, 1) := by decide +kernel
theorem d_md_greater_89 : decode b_md_greater 89 = .ok (.goto 27, 3) := by decide +kernel
theorem d_md_greater_92 : decode b_md_greater 92 = .ok (.iconst 0, 1) := by decide +kernel
theorem d_md_greater_93 : decode b_md_greater 93 = .ok (.goto 23, 3) := by decide +kernel
theorem d_md_greater_96 : decode b_md_greater 96 = .ok (.iload_n 1, 1) := by decide +kernel
theorem d_md_greater_97 : decode b_md_greater 97 = .ok (.iload 4, 2) := by decide +kernel
theorem d_md_greater_99 : decode b_md_greater 99 = .ok (.invokestatic 71, 3) := by decide +kernel
theorem d_md_greater_102 : decode b_md_greater 102 = .ok (.iload_n 2, 1) := by decide +kernel
theorem d_md_greater_103 : decode b_md_greater 103 = .ok (.iload 4, 2) := by decide +kernel
theorem d_md_greater_105 : decode b_md_greater 105 = .ok (.invokestatic 71, 3) := by decide +kernel
theorem d_md_greater_108 : decode b_md_greater 108 = .ok (.if_icmp .le 7, 3) := by decide +kernel
theorem d_md_greater_111 : decode b_md_greater 111 = .ok (.iconst 1, 1) := by decide +kernel
theorem d_md_greater_112 : decode b_md_greater 112 = .ok (.goto 4, 3) := by decide +kernel
theorem d_md_greater_115 : decode b_md_greater 115 = .ok (.iconst 0, 1) := by decide +kernel
theorem d_md_greater_116 : decode b_md_greater 116 = .ok (.ireturn, 1) := by decide +kernel
theorem d_md_greater_117 : decode b_md_greater 117 = .ok (.iinc 3 1, 3) := by decide +kernel
theorem d_md_greater_120 : decode b_md_greater 120 = .ok (.goto (-90), 3) := by decide +kernel
theorem d_md_greater_123 : decode b_md_greater 123 = .ok (.iconst 0, 1) := by decide +kernel
theorem d_md_greater_124 : decode b_md_greater 124 = .ok (.ireturn, 1) := by decide +kernel
/-- SpaceBasisModel.greater(II)Z -/
def vc_md_greater (md_thrownCode : Int32) (md_p : Int32) (md_n : Int32) (md_order : Int32) (md_monomials : Int32) (md_generators : Int32) (md_found : Int32) (md_upTo : Int32) (md_members : Int32) (md_provedNow : Int32) (p0 : Int32) (p1 : Int32) (Q : Int32 → Prop) : Prop :=
  vc_md_degreeOf p0 (fun (r_1 : Int32) => vc_md_degreeOf p1 (fun (r_2 : Int32) => (((r_1 = r_2) → (∃ (I30_5 : Int32 → Prop) (mu30_6 : Int32 → Nat), I30_5 0 ∧ ∀ (x3_4 : Int32), I30_5 x3_4 → ((((4 ≤ x3_4) → (Q 0)) ∧ ((¬ (4 ≤ x3_4)) → ((((¬ (md_order = 0)) → (vc_md_exponent p0 x3_4 (fun (r_9 : Int32) => vc_md_exponent p1 x3_4 (fun (r_10 : Int32) => (((r_9 = r_10) → (∀ x3_12 : Int32, x3_12 = x3_4 + 1 → (I30_5 x3_12 ∧ mu30_6 x3_12 < mu30_6 x3_4))) ∧ ((¬ (r_9 = r_10)) → ((((¬ (md_order = 0)) → (vc_md_exponent p0 x3_4 (fun (r_14 : Int32) => vc_md_exponent p1 x3_4 (fun (r_15 : Int32) => (((r_14 ≤ r_15) → (Q 0)) ∧ ((¬ (r_14 ≤ r_15)) → (Q 1))))))) ∧ ((md_order = 0) → (vc_md_exponent p0 x3_4 (fun (r_17 : Int32) => vc_md_exponent p1 x3_4 (fun (r_18 : Int32) => (((r_18 ≤ r_17) → (Q 0)) ∧ ((¬ (r_18 ≤ r_17)) → (Q 1))))))))))))))) ∧ ((md_order = 0) → (∀ x4_20 : Int32, x4_20 = (3 - x3_4) → vc_md_exponent p0 x4_20 (fun (r_21 : Int32) => vc_md_exponent p1 x4_20 (fun (r_22 : Int32) => (((r_21 = r_22) → (∀ x3_24 : Int32, x3_24 = x3_4 + 1 → (I30_5 x3_24 ∧ mu30_6 x3_24 < mu30_6 x3_4))) ∧ ((¬ (r_21 = r_22)) → ((((¬ (md_order = 0)) → (vc_md_exponent p0 x4_20 (fun (r_26 : Int32) => vc_md_exponent p1 x4_20 (fun (r_27 : Int32) => (((r_26 ≤ r_27) → (Q 0)) ∧ ((¬ (r_26 ≤ r_27)) → (Q 1))))))) ∧ ((md_order = 0) → (vc_md_exponent p0 x4_20 (fun (r_29 : Int32) => vc_md_exponent p1 x4_20 (fun (r_30 : Int32) => (((r_30 ≤ r_29) → (Q 0)) ∧ ((¬ (r_30 ≤ r_29)) → (Q 1)))))))))))))))))))))) ∧ ((¬ (r_1 = r_2)) → (vc_md_degreeOf p0 (fun (r_32 : Int32) => vc_md_degreeOf p1 (fun (r_33 : Int32) => (((r_32 ≤ r_33) → (Q 0)) ∧ ((¬ (r_32 ≤ r_33)) → (Q 1))))))))))
abbrev at_md_greater (dC : Nat → ClassId) (dI : Nat → Nat → Nat) (cs : Nat → ClassId) (A : Nat → Prop) (ad : Nat → Nat) (md_thrownCode : Int32) (md_p : Int32) (md_n : Int32) (md_order : Int32) (md_monomials : Int32) (md_generators : Int32) (md_found : Int32) (md_upTo : Int32) (md_members : Int32) (md_provedNow : Int32) (u : Unit) (t : State) : Prop := match u with
  | _ => va_P (dC, dI) vwCl [((ad 0), .inr (8, [.int md_thrownCode, .int md_p, .int md_n, .int md_order, .int md_monomials, .ref (ad 1), .ref (ad 2), .int md_generators, .ref (ad 3), .ref (ad 4), .int md_found, .int md_upTo, .ref (ad 5), .ref (ad 6), .ref (ad 7), .ref (ad 8), .int md_members, .int md_provedNow]))] t.heap ∧ va_D A [((ad 0), .inr (8, [.int md_thrownCode, .int md_p, .int md_n, .int md_order, .int md_monomials, .ref (ad 1), .ref (ad 2), .int md_generators, .ref (ad 3), .ref (ad 4), .int md_found, .int md_upTo, .ref (ad 5), .ref (ad 6), .ref (ad 7), .ref (ad 8), .int md_members, .int md_provedNow]))]
set_option maxHeartbeats 4000000 in
set_option maxRecDepth 100000 in
theorem c_md_greater (l : Launch) (dC : Nat → ClassId) (dI : Nat → Nat → Nat) (cs : Nat → ClassId) (ad : Nat → Nat)  (sz : Nat) (md_thrownCode : Int32) (md_p : Int32) (md_n : Int32) (md_order : Int32) (md_monomials : Int32) (md_generators : Int32) (md_found : Int32) (md_upTo : Int32) (md_members : Int32) (md_provedNow : Int32) (p0 : Int32) (p1 : Int32) (Q : Int32 → Prop) (hv : vc_md_greater md_thrownCode md_p md_n md_order md_monomials md_generators md_found md_upTo md_members md_provedNow p0 p1 Q) : Met l y_md_greater w_md_greater ({ frames := 2, cells := 0, slots := 0, locals := 41 }) (va_Pc [.ref (ad 0), .int p0, .int p1] (fun U => U.heap.size = sz ∧ va_P (dC, dI) vwCl [((ad 0), .inr (8, [.int md_thrownCode, .int md_p, .int md_n, .int md_order, .int md_monomials, .ref (ad 1), .ref (ad 2), .int md_generators, .ref (ad 3), .ref (ad 4), .int md_found, .int md_upTo, .ref (ad 5), .ref (ad 6), .ref (ad 7), .ref (ad 8), .int md_members, .int md_provedNow]))] U.heap ∧ vwK dC dI cs U ∧ va_D (fun _ => True) [((ad 0), .inr (8, [.int md_thrownCode, .int md_p, .int md_n, .int md_order, .int md_monomials, .ref (ad 1), .ref (ad 2), .int md_generators, .ref (ad 3), .ref (ad 4), .int md_found, .int md_upTo, .ref (ad 5), .ref (ad 6), .ref (ad 7), .ref (ad 8), .int md_members, .int md_provedNow]))])) (va_Qi (fun (r : Int32) (u : Unit) => Q r) (at_md_greater dC dI cs (va_A [((ad 0), .inr (8, [.int md_thrownCode, .int md_p, .int md_n, .int md_order, .int md_monomials, .ref (ad 1), .ref (ad 2), .int md_generators, .ref (ad 3), .ref (ad 4), .int md_found, .int md_upTo, .ref (ad 5), .ref (ad 6), .ref (ad 7), .ref (ad 8), .int md_members, .int md_provedNow]))] sz) ad md_thrownCode md_p md_n md_order md_monomials md_generators md_found md_upTo md_members md_provedNow) (va_A [((ad 0), .inr (8, [.int md_thrownCode, .int md_p, .int md_n, .int md_order, .int md_monomials, .ref (ad 1), .ref (ad 2), .int md_generators, .ref (ad 3), .ref (ad 4), .int md_found, .int md_upTo, .ref (ad 5), .ref (ad 6), .ref (ad 7), .ref (ad 8), .int md_members, .int md_provedNow]))] sz)) 0 0 (va_A [((ad 0), .inr (8, [.int md_thrownCode, .int md_p, .int md_n, .int md_order, .int md_monomials, .ref (ad 1), .ref (ad 2), .int md_generators, .ref (ad 3), .ref (ad 4), .int md_found, .int md_upTo, .ref (ad 5), .ref (ad 6), .ref (ad 7), .ref (ad 8), .int md_members, .int md_provedNow]))] sz) := by
  unfold vc_md_greater at hv
  refine Met.ofW (cc := b_md_greater) (maxL := 5) (ret := (some .boolean)) (by decide) rfl ?_
  intro p e s m args below meth c s₁ B hml hpc
  obtain ⟨rfl, hsz, hP, ⟨hK, hN⟩, hD0⟩ := hpc
  have hx := B.exec
  have hb := B.bytes
  have hr := B.returns
  have hts : ∀ w ∈ vwWS, w.before _ s = true := fun w h => atoms_spec (ws := w_md_greater) B.pre w (List.mem_cons_of_mem _ h)
  have hown : s.vm.findClass "SpaceBasisModel" = some m.cls := findClass_of_methodNamed B.named
  have hlocks := B.notSynchronized
  subst hsz
  have hD := hD0.self (sz := s.heap.size)
  generalize hAe : va_A [((ad 0), .inr (8, [.int md_thrownCode, .int md_p, .int md_n, .int md_order, .int md_monomials, .ref (ad 1), .ref (ad 2), .int md_generators, .ref (ad 3), .ref (ad 4), .int md_found, .int md_upTo, .ref (ad 5), .ref (ad 6), .ref (ad 7), .ref (ad 8), .int md_members, .int md_provedNow]))] s.heap.size = A at hD ⊢
  have hA : ∀ q : Nat, s.heap.size ≤ q → A q := fun q h => by rw [← hAe]; exact Or.inr h
  have hS : va_S A s.heap s.heap [] := va_S.rf
  have hl := lv_entry ([.ref (ad 0), .int p0, .int p1]) (n := 5) (Nat.le_of_ble_eq_true rfl)
  rw [lg_entry_eq]
  generalize (lg_sl ([.ref (ad 0), .int p0, .int p1]) ++ List.replicate (5 - (lg_sl ([.ref (ad 0), .int p0, .int p1])).length) Slot.unset).toArray = ls at hl ⊢
  have hl : lv_has ls 5 [(0, .ref (ad 0)), (1, .int p0), (2, .int p1)] := hl
  refine lv_iload_n hx hb d_md_greater_0 rfl (lv_at hl 1 rfl) ?_
  have hPc := hP.sub (ws' := []) [] rfl
  have hDc := hD.sub (ws' := []) [] (by decide) rfl
  have hFc := va_free (wc := []) hD hS hA [] rfl
  refine va_calli (va_runS (As := [.int p0]) (rest := []) ⟨hx, hb, hml, hown, hts⟩ (c_md_degreeOf l dC dI cs ad  s.heap.size p0 _ hv) (va_cwS 1 hts (gd_S kw_612 kw_613 kw_41 kw_614) rfl rfl rfl (by decide +kernel) ⟨Nat.le_of_ble_eq_true rfl, Nat.le_of_ble_eq_true rfl⟩) ⟨fun a U g mk q => by obtain ⟨q0, q1, qP, qK, qD⟩ := q; exact ⟨q0, q1, qP, qK.call, qD⟩, fun U hU hW => ⟨rfl, by rw [hU], by rw [hU]; exact hPc, vwK.warm hW ⟨hK, hN⟩, hDc.weaken (fun _ _ _ _ => trivial)⟩⟩ rfl rfl hl.1 rfl (lv_room (Nat.le_of_ble_eq_true rfl)) d_md_greater_1 ⟨Nat.zero_le _, Nat.zero_le _⟩) hS (fun q _ h => hFc q h) hFc (fun r_1 _u t H1 locs1 ht hvm hw hB hz1 hk1 hS => ?_)
  obtain ⟨hP1, hD1⟩ := hB
  rw [ht] at hP1
  obtain ⟨hP, hD⟩ := va_join (wr := [((ad 0), .inr (8, [.int md_thrownCode, .int md_p, .int md_n, .int md_order, .int md_monomials, .ref (ad 1), .ref (ad 2), .int md_generators, .ref (ad 3), .ref (ad 4), .int md_found, .int md_upTo, .ref (ad 5), .ref (ad 6), .ref (ad 7), .ref (ad 8), .int md_members, .int md_provedNow]))]) (w1 := []) hP hD [] [0] rfl rfl (by decide) (by decide) hk1 hFc hP1 hD1
  generalize H1 = H at hP hS ⊢
  generalize locs1 = locs at hS ⊢
  have hP : va_P (dC, dI) vwCl [((ad 0), .inr (8, [.int md_thrownCode, .int md_p, .int md_n, .int md_order, .int md_monomials, .ref (ad 1), .ref (ad 2), .int md_generators, .ref (ad 3), .ref (ad 4), .int md_found, .int md_upTo, .ref (ad 5), .ref (ad 6), .ref (ad 7), .ref (ad 8), .int md_members, .int md_provedNow]))] H := hP
  have hD : va_D A [((ad 0), .inr (8, [.int md_thrownCode, .int md_p, .int md_n, .int md_order, .int md_monomials, .ref (ad 1), .ref (ad 2), .int md_generators, .ref (ad 3), .ref (ad 4), .int md_found, .int md_upTo, .ref (ad 5), .ref (ad 6), .ref (ad 7), .ref (ad 8), .int md_members, .int md_provedNow]))] := hD
  have hv := hw
  try dsimp only at hv
  refine lv_iload_n hx hb d_md_greater_4 rfl (lv_at hl 2 rfl) ?_
  have hPc := hP.sub (ws' := []) [] rfl
  have hDc := hD.sub (ws' := []) [] (by decide) rfl
  have hFc := va_free (wc := []) hD hS hA [] rfl
  refine va_calli (va_runS (As := [.int p1]) (rest := [.int r_1]) ⟨hx, hb, hml, hown, hts⟩ (c_md_degreeOf l dC dI cs ad  H.size p1 _ hv) (va_cwS 1 hts (gd_S kw_612 kw_613 kw_41 kw_614) rfl rfl rfl (by decide +kernel) ⟨Nat.le_of_ble_eq_true rfl, Nat.le_of_ble_eq_true rfl⟩) ⟨fun a U g mk q => by obtain ⟨q0, q1, qP, qK, qD⟩ := q; exact ⟨q0, q1, qP, qK.call, qD⟩, fun U hU hW => ⟨rfl, by rw [hU], by rw [hU]; exact hPc, vwK.warm hW ⟨hK, hN⟩, hDc.weaken (fun _ _ _ _ => trivial)⟩⟩ rfl rfl hl.1 rfl (lv_room (Nat.le_of_ble_eq_true rfl)) d_md_greater_5 ⟨Nat.zero_le _, Nat.zero_le _⟩) hS (fun q _ h => hFc q h) hFc (fun r_2 _u t H1 locs1 ht hvm hw hB hz1 hk1 hS => ?_)
  obtain ⟨hP1, hD1⟩ := hB
  rw [ht] at hP1
  obtain ⟨hP, hD⟩ := va_join (wr := [((ad 0), .inr (8, [.int md_thrownCode, .int md_p, .int md_n, .int md_order, .int md_monomials, .ref (ad 1), .ref (ad 2), .int md_generators, .ref (ad 3), .ref (ad 4), .int md_found, .int md_upTo, .ref (ad 5), .ref (ad 6), .ref (ad 7), .ref (ad 8), .int md_members, .int md_provedNow]))]) (w1 := []) hP hD [] [0] rfl rfl (by decide) (by decide) hk1 hFc hP1 hD1
  generalize H1 = H at hP hS ⊢
  generalize locs1 = locs at hS ⊢
  have hP : va_P (dC, dI) vwCl [((ad 0), .inr (8, [.int md_thrownCode, .int md_p, .int md_n, .int md_order, .int md_monomials, .ref (ad 1), .ref (ad 2), .int md_generators, .ref (ad 3), .ref (ad 4), .int md_found, .int md_upTo, .ref (ad 5), .ref (ad 6), .ref (ad 7), .ref (ad 8), .int md_members, .int md_provedNow]))] H := hP
  have hD : va_D A [((ad 0), .inr (8, [.int md_thrownCode, .int md_p, .int md_n, .int md_order, .int md_monomials, .ref (ad 1), .ref (ad 2), .int md_generators, .ref (ad 3), .ref (ad 4), .int md_found, .int md_upTo, .ref (ad 5), .ref (ad 6), .ref (ad 7), .ref (ad 8), .int md_members, .int md_provedNow]))] := hD
  have hv := hw
  try dsimp only at hv
  refine lv_icmp_eq (tgt := 28) hx hb d_md_greater_8 (by decide) (fun c_3 => ?_) (fun c_3 => ?_)
  · have hv := hv.1 c_3
    refine lv_iconst (v := 0) hx hb d_md_greater_28 (by decide) ?_
    refine lv_istore_n (lv' := [(3, .int 0), (0, .ref (ad 0)), (1, .int p0), (2, .int p1)]) hx hb d_md_greater_29 rfl hl (by decide) rfl (fun ls hl => ?_)
    obtain ⟨I30_5, mu30_6, hi0, hv⟩ := hv
    have hP := hP.sub (ws' := [((ad 0), .inr (8, [.int md_thrownCode, .int md_p, .int md_n, .int md_order, .int md_monomials, .ref (ad 1), .ref (ad 2), .int md_generators, .ref (ad 3), .ref (ad 4), .int md_found, .int md_upTo, .ref (ad 5), .ref (ad 6), .ref (ad 7), .ref (ad 8), .int md_members, .int md_provedNow]))]) [0] rfl
    have hD := hD.sub (ws' := [((ad 0), .inr (8, [.int md_thrownCode, .int md_p, .int md_n, .int md_order, .int md_monomials, .ref (ad 1), .ref (ad 2), .int md_generators, .ref (ad 3), .ref (ad 4), .int md_found, .int md_upTo, .ref (ad 5), .ref (ad 6), .ref (ad 7), .ref (ad 8), .int md_members, .int md_provedNow]))]) [0] (by decide) rfl
    have hl := lv_sub (l' := [(0, .ref (ad 0)), (1, .int p0), (2, .int p1), (3, .int 0)]) hl [1, 2, 3, 0] rfl
    have loop30 : ∀ (nn : Nat) (x3_4 : Int32), mu30_6 x3_4 < nn → I30_5 x3_4 → ∀ (H : Heap) (locs : List Loc) (ls : Array Slot), va_P (dC, dI) vwCl [((ad 0), .inr (8, [.int md_thrownCode, .int md_p, .int md_n, .int md_order, .int md_monomials, .ref (ad 1), .ref (ad 2), .int md_generators, .ref (ad 3), .ref (ad 4), .int md_found, .int md_upTo, .ref (ad 5), .ref (ad 6), .ref (ad 7), .ref (ad 8), .int md_members, .int md_provedNow]))] H → va_D A [((ad 0), .inr (8, [.int md_thrownCode, .int md_p, .int md_n, .int md_order, .int md_monomials, .ref (ad 1), .ref (ad 2), .int md_generators, .ref (ad 3), .ref (ad 4), .int md_found, .int md_upTo, .ref (ad 5), .ref (ad 6), .ref (ad 7), .ref (ad 8), .int md_members, .int md_provedNow]))] → va_S A s.heap H locs → lv_has ls 5 [(0, .ref (ad 0)), (1, .int p0), (2, .int p1), (3, .int x3_4)] → W p l e (headSpec w_md_greater { frames := 2, cells := 0, slots := 0, locals := 41 }).room s m ([.ref (ad 0), .int p0, .int p1] : List Value).toArray below meth c H locs 0 0 (MQ below (va_Qi (fun (r : Int32) (u : Unit) => Q r) (at_md_greater dC dI cs A ad md_thrownCode md_p md_n md_order md_monomials md_generators md_found md_upTo md_members md_provedNow) A) ([.ref (ad 0), .int p0, .int p1] : List Value).toArray s 0 0 A) (F0 m 30 ls []) := by
      intro nn
      induction nn with
      | zero => intro x3_4 hlt; exact absurd hlt (Nat.not_lt_zero _)
      | succ nn ih30 =>
        intro x3_4 hlt30 hI H locs ls hP hD hS hl
        have hv := hv x3_4 hI
        refine lv_iload_n hx hb d_md_greater_30 rfl (lv_at hl 3 rfl) ?_
        refine lv_iconst (v := 4) hx hb d_md_greater_31 (by decide) ?_
        refine lv_icmp_ge (tgt := 123) hx hb d_md_greater_32 (by decide) (fun c_7 => ?_) (fun c_7 => ?_)
        · have hv := hv.1 c_7
          refine lv_iconst (v := 0) hx hb d_md_greater_123 (by decide) ?_
          have hP9 := hP.sub (ws' := [((ad 0), .inr (8, [.int md_thrownCode, .int md_p, .int md_n, .int md_order, .int md_monomials, .ref (ad 1), .ref (ad 2), .int md_generators, .ref (ad 3), .ref (ad 4), .int md_found, .int md_upTo, .ref (ad 5), .ref (ad 6), .ref (ad 7), .ref (ad 8), .int md_members, .int md_provedNow]))]) [0] rfl
          have hD9 := hD.sub (ws' := [((ad 0), .inr (8, [.int md_thrownCode, .int md_p, .int md_n, .int md_order, .int md_monomials, .ref (ad 1), .ref (ad 2), .int md_generators, .ref (ad 3), .ref (ad 4), .int md_found, .int md_upTo, .ref (ad 5), .ref (ad 6), .ref (ad 7), .ref (ad 8), .int md_members, .int md_provedNow]))]) [0] (by decide) rfl
          exact W.zret (v := 0) hx hb hr rfl (fun t ht hW => ⟨⟨0, (), rfl, hv, by rw [ht]; exact hP9, hD9⟩, hS.F ht⟩) hS.2.2 d_md_greater_124
        · have hv := hv.2 c_7
          refine lv_aload_n hx hb d_md_greater_35 rfl (lv_at hl 0 rfl) ?_
          refine va_get (D := (dC, dI)) (ci := 8) (v := .int md_order) (C := R_md) (T := F_md) (N := 18) hx hb hts in_md hown hK hP 0 rfl rfl 3 (by decide) (hts _ kw_621) (fun _ h9 => h9) rfl d_md_greater_36 ?_
          refine lv_if_ne (tgt := 48) hx hb d_md_greater_39 (by decide) (fun c_8 => ?_) (fun c_8 => ?_)
          · have hv := hv.1 c_8
            refine lv_iload_n hx hb d_md_greater_48 rfl (lv_at hl 3 rfl) ?_
            refine lv_istore (lv' := [(4, .int x3_4), (0, .ref (ad 0)), (1, .int p0), (2, .int p1), (3, .int x3_4)]) hx hb d_md_greater_49 hl (by decide) rfl (fun ls hl => ?_)
            refine lv_iload_n hx hb d_md_greater_51 rfl (lv_at hl 2 rfl) ?_
            refine lv_iload hx hb d_md_greater_52 (lv_at hl 0 rfl) ?_
            have hPc := hP.sub (ws' := []) [] rfl
            have hDc := hD.sub (ws' := []) [] (by decide) rfl
            have hFc := va_free (wc := []) hD hS hA [] rfl
            refine va_calli (va_runS (As := [.int p0, .int x3_4]) (rest := []) ⟨hx, hb, hml, hown, hts⟩ (c_md_exponent l dC dI cs ad  H.size p0 x3_4 _ hv) (va_cwS 2 hts (gd_S kw_615 kw_616 kw_41 kw_617) rfl rfl rfl (by decide +kernel) ⟨Nat.le_of_ble_eq_true rfl, Nat.le_of_ble_eq_true rfl⟩) ⟨fun a U g mk q => by obtain ⟨q0, q1, qP, qK, qD⟩ := q; exact ⟨q0, q1, qP, qK.call, qD⟩, fun U hU hW => ⟨rfl, by rw [hU], by rw [hU]; exact hPc, vwK.warm hW ⟨hK, hN⟩, hDc.weaken (fun _ _ _ _ => trivial)⟩⟩ rfl rfl hl.1 rfl (lv_room (Nat.le_of_ble_eq_true rfl)) d_md_greater_54 ⟨Nat.zero_le _, Nat.zero_le _⟩) hS (fun q _ h => hFc q h) hFc (fun r_9 _u t H1 locs1 ht hvm hw hB hz1 hk1 hS => ?_)
            obtain ⟨hP1, hD1⟩ := hB
            rw [ht] at hP1
            obtain ⟨hP, hD⟩ := va_join (wr := [((ad 0), .inr (8, [.int md_thrownCode, .int md_p, .int md_n, .int md_order, .int md_monomials, .ref (ad 1), .ref (ad 2), .int md_generators, .ref (ad 3), .ref (ad 4), .int md_found, .int md_upTo, .ref (ad 5), .ref (ad 6), .ref (ad 7), .ref (ad 8), .int md_members, .int md_provedNow]))]) (w1 := []) hP hD [] [0] rfl rfl (by decide) (by decide) hk1 hFc hP1 hD1
            generalize H1 = H at hP hS ⊢
            generalize locs1 = locs at hS ⊢
            have hP : va_P (dC, dI) vwCl [((ad 0), .inr (8, [.int md_thrownCode, .int md_p, .int md_n, .int md_order, .int md_monomials, .ref (ad 1), .ref (ad 2), .int md_generators, .ref (ad 3), .ref (ad 4), .int md_found, .int md_upTo, .ref (ad 5), .ref (ad 6), .ref (ad 7), .ref (ad 8), .int md_members, .int md_provedNow]))] H := hP
            have hD : va_D A [((ad 0), .inr (8, [.int md_thrownCode, .int md_p, .int md_n, .int md_order, .int md_monomials, .ref (ad 1), .ref (ad 2), .int md_generators, .ref (ad 3), .ref (ad 4), .int md_found, .int md_upTo, .ref (ad 5), .ref (ad 6), .ref (ad 7), .ref (ad 8), .int md_members, .int md_provedNow]))] := hD
            have hv := hw
            try dsimp only at hv
            refine lv_iload_n hx hb d_md_greater_57 rfl (lv_at hl 3 rfl) ?_
            refine lv_iload hx hb d_md_greater_58 (lv_at hl 0 rfl) ?_
            have hPc := hP.sub (ws' := []) [] rfl
            have hDc := hD.sub (ws' := []) [] (by decide) rfl
            have hFc := va_free (wc := []) hD hS hA [] rfl
            refine va_calli (va_runS (As := [.int p1, .int x3_4]) (rest := [.int r_9]) ⟨hx, hb, hml, hown, hts⟩ (c_md_exponent l dC dI cs ad  H.size p1 x3_4 _ hv) (va_cwS 2 hts (gd_S kw_615 kw_616 kw_41 kw_617) rfl rfl rfl (by decide +kernel) ⟨Nat.le_of_ble_eq_true rfl, Nat.le_of_ble_eq_true rfl⟩) ⟨fun a U g mk q => by obtain ⟨q0, q1, qP, qK, qD⟩ := q; exact ⟨q0, q1, qP, qK.call, qD⟩, fun U hU hW => ⟨rfl, by rw [hU], by rw [hU]; exact hPc, vwK.warm hW ⟨hK, hN⟩, hDc.weaken (fun _ _ _ _ => trivial)⟩⟩ rfl rfl hl.1 rfl (lv_room (Nat.le_of_ble_eq_true rfl)) d_md_greater_60 ⟨Nat.zero_le _, Nat.zero_le _⟩) hS (fun q _ h => hFc q h) hFc (fun r_10 _u t H1 locs1 ht hvm hw hB hz1 hk1 hS => ?_)
            obtain ⟨hP1, hD1⟩ := hB
            rw [ht] at hP1
            obtain ⟨hP, hD⟩ := va_join (wr := [((ad 0), .inr (8, [.int md_thrownCode, .int md_p, .int md_n, .int md_order, .int md_monomials, .ref (ad 1), .ref (ad 2), .int md_generators, .ref (ad 3), .ref (ad 4), .int md_found, .int md_upTo, .ref (ad 5), .ref (ad 6), .ref (ad 7), .ref (ad 8), .int md_members, .int md_provedNow]))]) (w1 := []) hP hD [] [0] rfl rfl (by decide) (by decide) hk1 hFc hP1 hD1
            generalize H1 = H at hP hS ⊢
            generalize locs1 = locs at hS ⊢
            have hP : va_P (dC, dI) vwCl [((ad 0), .inr (8, [.int md_thrownCode, .int md_p, .int md_n, .int md_order, .int md_monomials, .ref (ad 1), .ref (ad 2), .int md_generators, .ref (ad 3), .ref (ad 4), .int md_found, .int md_upTo, .ref (ad 5), .ref (ad 6), .ref (ad 7), .ref (ad 8), .int md_members, .int md_provedNow]))] H := hP
            have hD : va_D A [((ad 0), .inr (8, [.int md_thrownCode, .int md_p, .int md_n, .int md_order, .int md_monomials, .ref (ad 1), .ref (ad 2), .int md_generators, .ref (ad 3), .ref (ad 4), .int md_found, .int md_upTo, .ref (ad 5), .ref (ad 6), .ref (ad 7), .ref (ad 8), .int md_members, .int md_provedNow]))] := hD
            have hv := hw
            try dsimp only at hv
            refine lv_icmp_eq (tgt := 117) hx hb d_md_greater_63 (by decide) (fun c_11 => ?_) (fun c_11 => ?_)
            · have hv := hv.1 c_11
              obtain ⟨x3_12, ex3_12⟩ : ∃ y : Int32, y = x3_4 + 1 := ⟨_, rfl⟩
              have hv := hv x3_12 ex3_12
              refine lv_iinc (v := x3_12) (lv' := [(3, .int x3_12), (4, .int x3_4), (0, .ref (ad 0)), (1, .int p0), (2, .int p1)]) hx hb d_md_greater_117 hl (k := 4) rfl (by rw [ex3_12]; rfl) (by decide) rfl (fun ls hl => ?_)
              refine lv_goto (tgt := 30) hx hb d_md_greater_120 (by decide) ?_
              exact ih30 x3_12 (Nat.lt_of_lt_of_le hv.2 (Nat.le_of_lt_succ hlt30)) hv.1 _ _ _ (hP.sub [0] rfl) (hD.sub [0] (by decide) rfl) hS (lv_sub hl [2, 3, 4, 0] rfl)
            · have hv := hv.2 c_11
              refine lv_aload_n hx hb d_md_greater_66 rfl (lv_at hl 1 rfl) ?_
              refine va_get (D := (dC, dI)) (ci := 8) (v := .int md_order) (C := R_md) (T := F_md) (N := 18) hx hb hts in_md hown hK hP 0 rfl rfl 3 (by decide) (hts _ kw_621) (fun _ h9 => h9) rfl d_md_greater_67 ?_
              refine lv_if_ne (tgt := 96) hx hb d_md_greater_70 (by decide) (fun c_13 => ?_) (fun c_13 => ?_)
              · have hv := hv.1 c_13
                refine lv_iload_n hx hb d_md_greater_96 rfl (lv_at hl 2 rfl) ?_
                refine lv_iload hx hb d_md_greater_97 (lv_at hl 0 rfl) ?_
                have hPc := hP.sub (ws' := []) [] rfl
                have hDc := hD.sub (ws' := []) [] (by decide) rfl
                have hFc := va_free (wc := []) hD hS hA [] rfl
                refine va_calli (va_runS (As := [.int p0, .int x3_4]) (rest := []) ⟨hx, hb, hml, hown, hts⟩ (c_md_exponent l dC dI cs ad  H.size p0 x3_4 _ hv) (va_cwS 2 hts (gd_S kw_615 kw_616 kw_41 kw_617) rfl rfl rfl (by decide +kernel) ⟨Nat.le_of_ble_eq_true rfl, Nat.le_of_ble_eq_true rfl⟩) ⟨fun a U g mk q => by obtain ⟨q0, q1, qP, qK, qD⟩ := q; exact ⟨q0, q1, qP, qK.call, qD⟩, fun U hU hW => ⟨rfl, by rw [hU], by rw [hU]; exact hPc, vwK.warm hW ⟨hK, hN⟩, hDc.weaken (fun _ _ _ _ => trivial)⟩⟩ rfl rfl hl.1 rfl (lv_room (Nat.le_of_ble_eq_true rfl)) d_md_greater_99 ⟨Nat.zero_le _, Nat.zero_le _⟩) hS (fun q _ h => hFc q h) hFc (fun r_14 _u t H1 locs1 ht hvm hw hB hz1 hk1 hS => ?_)
                obtain ⟨hP1, hD1⟩ := hB
                rw [ht] at hP1
                obtain ⟨hP, hD⟩ := va_join (wr := [((ad 0), .inr (8, [.int md_thrownCode, .int md_p, .int md_n, .int md_order, .int md_monomials, .ref (ad 1), .ref (ad 2), .int md_generators, .ref (ad 3), .ref (ad 4), .int md_found, .int md_upTo, .ref (ad 5), .ref (ad 6), .ref (ad 7), .ref (ad 8), .int md_members, .int md_provedNow]))]) (w1 := []) hP hD [] [0] rfl rfl (by decide) (by decide) hk1 hFc hP1 hD1
                generalize H1 = H at hP hS ⊢
                generalize locs1 = locs at hS ⊢
                have hP : va_P (dC, dI) vwCl [((ad 0), .inr (8, [.int md_thrownCode, .int md_p, .int md_n, .int md_order, .int md_monomials, .ref (ad 1), .ref (ad 2), .int md_generators, .ref (ad 3), .ref (ad 4), .int md_found, .int md_upTo, .ref (ad 5), .ref (ad 6), .ref (ad 7), .ref (ad 8), .int md_members, .int md_provedNow]))] H := hP
                have hD : va_D A [((ad 0), .inr (8, [.int md_thrownCode, .int md_p, .int md_n, .int md_order, .int md_monomials, .ref (ad 1), .ref (ad 2), .int md_generators, .ref (ad 3), .ref (ad 4), .int md_found, .int md_upTo, .ref (ad 5), .ref (ad 6), .ref (ad 7), .ref (ad 8), .int md_members, .int md_provedNow]))] := hD
                have hv := hw
                try dsimp only at hv
                refine lv_iload_n hx hb d_md_greater_102 rfl (lv_at hl 3 rfl) ?_
                refine lv_iload hx hb d_md_greater_103 (lv_at hl 0 rfl) ?_
                have hPc := hP.sub (ws' := []) [] rfl
                have hDc := hD.sub (ws' := []) [] (by decide) rfl
                have hFc := va_free (wc := []) hD hS hA [] rfl
                refine va_calli (va_runS (As := [.int p1, .int x3_4]) (rest := [.int r_14]) ⟨hx, hb, hml, hown, hts⟩ (c_md_exponent l dC dI cs ad  H.size p1 x3_4 _ hv) (va_cwS 2 hts (gd_S kw_615 kw_616 kw_41 kw_617) rfl rfl rfl (by decide +kernel) ⟨Nat.le_of_ble_eq_true rfl, Nat.le_of_ble_eq_true rfl⟩) ⟨fun a U g mk q => by obtain ⟨q0, q1, qP, qK, qD⟩ := q; exact ⟨q0, q1, qP, qK.call, qD⟩, fun U hU hW => ⟨rfl, by rw [hU], by rw [hU]; exact hPc, vwK.warm hW ⟨hK, hN⟩, hDc.weaken (fun _ _ _ _ => trivial)⟩⟩ rfl rfl hl.1 rfl (lv_room (Nat.le_of_ble_eq_true rfl)) d_md_greater_105 ⟨Nat.zero_le _, Nat.zero_le _⟩) hS (fun q _ h => hFc q h) hFc (fun r_15 _u t H1 locs1 ht hvm hw hB hz1 hk1 hS => ?_)
                obtain ⟨hP1, hD1⟩ := hB
                rw [ht] at hP1
                obtain ⟨hP, hD⟩ := va_join (wr := [((ad 0), .inr (8, [.int md_thrownCode, .int md_p, .int md_n, .int md_order, .int md_monomials, .ref (ad 1), .ref (ad 2), .int md_generators, .ref (ad 3), .ref (ad 4), .int md_found, .int md_upTo, .ref (ad 5), .ref (ad 6), .ref (ad 7), .ref (ad 8), .int md_members, .int md_provedNow]))]) (w1 := []) hP hD [] [0] rfl rfl (by decide) (by decide) hk1 hFc hP1 hD1
                generalize H1 = H at hP hS ⊢
                generalize locs1 = locs at hS ⊢
                have hP : va_P (dC, dI) vwCl [((ad 0), .inr (8, [.int md_thrownCode, .int md_p, .int md_n, .int md_order, .int md_monomials, .ref (ad 1), .ref (ad 2), .int md_generators, .ref (ad 3), .ref (ad 4), .int md_found, .int md_upTo, .ref (ad 5), .ref (ad 6), .ref (ad 7), .ref (ad 8), .int md_members, .int md_provedNow]))] H := hP
                have hD : va_D A [((ad 0), .inr (8, [.int md_thrownCode, .int md_p, .int md_n, .int md_order, .int md_monomials, .ref (ad 1), .ref (ad 2), .int md_generators, .ref (ad 3), .ref (ad 4), .int md_found, .int md_upTo, .ref (ad 5), .ref (ad 6), .ref (ad 7), .ref (ad 8), .int md_members, .int md_provedNow]))] := hD
                have hv := hw
                try dsimp only at hv
                refine lv_icmp_le (tgt := 115) hx hb d_md_greater_108 (by decide) (fun c_16 => ?_) (fun c_16 => ?_)
                · have hv := hv.1 c_16
                  refine lv_iconst (v := 0) hx hb d_md_greater_115 (by decide) ?_
                  have hP9 := hP.sub (ws' := [((ad 0), .inr (8, [.int md_thrownCode, .int md_p, .int md_n, .int md_order, .int md_monomials, .ref (ad 1), .ref (ad 2), .int md_generators, .ref (ad 3), .ref (ad 4), .int md_found, .int md_upTo, .ref (ad 5), .ref (ad 6), .ref (ad 7), .ref (ad 8), .int md_members, .int md_provedNow]))]) [0] rfl
                  have hD9 := hD.sub (ws' := [((ad 0), .inr (8, [.int md_thrownCode, .int md_p, .int md_n, .int md_order, .int md_monomials, .ref (ad 1), .ref (ad 2), .int md_generators, .ref (ad 3), .ref (ad 4), .int md_found, .int md_upTo, .ref (ad 5), .ref (ad 6), .ref (ad 7), .ref (ad 8), .int md_members, .int md_provedNow]))]) [0] (by decide) rfl
                  exact W.zret (v := 0) hx hb hr rfl (fun t ht hW => ⟨⟨0, (), rfl, hv, by rw [ht]; exact hP9, hD9⟩, hS.F ht⟩) hS.2.2 d_md_greater_116
                · have hv := hv.2 c_16
                  refine lv_iconst (v := 1) hx hb d_md_greater_111 (by decide) ?_
                  refine lv_goto (tgt := 116) hx hb d_md_greater_112 (by decide) ?_
                  have hP9 := hP.sub (ws' := [((ad 0), .inr (8, [.int md_thrownCode, .int md_p, .int md_n, .int md_order, .int md_monomials, .ref (ad 1), .ref (ad 2), .int md_generators, .ref (ad 3), .ref (ad 4), .int md_found, .int md_upTo, .ref (ad 5), .ref (ad 6), .ref (ad 7), .ref (ad 8), .int md_members, .int md_provedNow]))]) [0] rfl
                  have hD9 := hD.sub (ws' := [((ad 0), .inr (8, [.int md_thrownCode, .int md_p, .int md_n, .int md_order, .int md_monomials, .ref (ad 1), .ref (ad 2), .int md_generators, .ref (ad 3), .ref (ad 4), .int md_found, .int md_upTo, .ref (ad 5), .ref (ad 6), .ref (ad 7), .ref (ad 8), .int md_members, .int md_provedNow]))]) [0] (by decide) rfl
                  exact W.zret (v := 1) hx hb hr rfl (fun t ht hW => ⟨⟨1, (), rfl, hv, by rw [ht]; exact hP9, hD9⟩, hS.F ht⟩) hS.2.2 d_md_greater_116
              · have hv := hv.2 c_13
                refine lv_iload_n hx hb d_md_greater_73 rfl (lv_at hl 2 rfl) ?_
                refine lv_iload hx hb d_md_greater_74 (lv_at hl 0 rfl) ?_
                have hPc := hP.sub (ws' := []) [] rfl
                have hDc := hD.sub (ws' := []) [] (by decide) rfl
                have hFc := va_free (wc := []) hD hS hA [] rfl
                refine va_calli (va_runS (As := [.int p0, .int x3_4]) (rest := []) ⟨hx, hb, hml, hown, hts⟩ (c_md_exponent l dC dI cs ad  H.size p0 x3_4 _ hv) (va_cwS 2 hts (gd_S kw_615 kw_616 kw_41 kw_617) rfl rfl rfl (by decide +kernel) ⟨Nat.le_of_ble_eq_true rfl, Nat.le_of_ble_eq_true rfl⟩) ⟨fun a U g mk q => by obtain ⟨q0, q1, qP, qK, qD⟩ := q; exact ⟨q0, q1, qP, qK.call, qD⟩, fun U hU hW => ⟨rfl, by rw [hU], by rw [hU]; exact hPc, vwK.warm hW ⟨hK, hN⟩, hDc.weaken (fun _ _ _ _ => trivial)⟩⟩ rfl rfl hl.1 rfl (lv_room (Nat.le_of_ble_eq_true rfl)) d_md_greater_76 ⟨Nat.zero_le _, Nat.zero_le _⟩) hS (fun q _ h => hFc q h) hFc (fun r_17 _u t H1 locs1 ht hvm hw hB hz1 hk1 hS => ?_)
                obtain ⟨hP1, hD1⟩ := hB
                rw [ht] at hP1
                obtain ⟨hP, hD⟩ := va_join (wr := [((ad 0), .inr (8, [.int md_thrownCode, .int md_p, .int md_n, .int md_order, .int md_monomials, .ref (ad 1), .ref (ad 2), .int md_generators, .ref (ad 3), .ref (ad 4), .int md_found, .int md_upTo, .ref (ad 5), .ref (ad 6), .ref (ad 7), .ref (ad 8), .int md_members, .int md_provedNow]))]) (w1 := []) hP hD [] [0] rfl rfl (by decide) (by decide) hk1 hFc hP1 hD1
                generalize H1 = H at hP hS ⊢
                generalize locs1 = locs at hS ⊢
                have hP : va_P (dC, dI) vwCl [((ad 0), .inr (8, [.int md_thrownCode, .int md_p, .int md_n, .int md_order, .int md_monomials, .ref (ad 1), .ref (ad 2), .int md_generators, .ref (ad 3), .ref (ad 4), .int md_found, .int md_upTo, .ref (ad 5), .ref (ad 6), .ref (ad 7), .ref (ad 8), .int md_members, .int md_provedNow]))] H := hP
                have hD : va_D A [((ad 0), .inr (8, [.int md_thrownCode, .int md_p, .int md_n, .int md_order, .int md_monomials, .ref (ad 1), .ref (ad 2), .int md_generators, .ref (ad 3), .ref (ad 4), .int md_found, .int md_upTo, .ref (ad 5), .ref (ad 6), .ref (ad 7), .ref (ad 8), .int md_members, .int md_provedNow]))] := hD
                have hv := hw
                try dsimp only at hv
                refine lv_iload_n hx hb d_md_greater_79 rfl (lv_at hl 3 rfl) ?_
                refine lv_iload hx hb d_md_greater_80 (lv_at hl 0 rfl) ?_
                have hPc := hP.sub (ws' := []) [] rfl
                have hDc := hD.sub (ws' := []) [] (by decide) rfl
                have hFc := va_free (wc := []) hD hS hA [] rfl
                refine va_calli (va_runS (As := [.int p1, .int x3_4]) (rest := [.int r_17]) ⟨hx, hb, hml, hown, hts⟩ (c_md_exponent l dC dI cs ad  H.size p1 x3_4 _ hv) (va_cwS 2 hts (gd_S kw_615 kw_616 kw_41 kw_617) rfl rfl rfl (by decide +kernel) ⟨Nat.le_of_ble_eq_true rfl, Nat.le_of_ble_eq_true rfl⟩) ⟨fun a U g mk q => by obtain ⟨q0, q1, qP, qK, qD⟩ := q; exact ⟨q0, q1, qP, qK.call, qD⟩, fun U hU hW => ⟨rfl, by rw [hU], by rw [hU]; exact hPc, vwK.warm hW ⟨hK, hN⟩, hDc.weaken (fun _ _ _ _ => trivial)⟩⟩ rfl rfl hl.1 rfl (lv_room (Nat.le_of_ble_eq_true rfl)) d_md_greater_82 ⟨Nat.zero_le _, Nat.zero_le _⟩) hS (fun q _ h => hFc q h) hFc (fun r_18 _u t H1 locs1 ht hvm hw hB hz1 hk1 hS => ?_)
                obtain ⟨hP1, hD1⟩ := hB
                rw [ht] at hP1
                obtain ⟨hP, hD⟩ := va_join (wr := [((ad 0), .inr (8, [.int md_thrownCode, .int md_p, .int md_n, .int md_order, .int md_monomials, .ref (ad 1), .ref (ad 2), .int md_generators, .ref (ad 3), .ref (ad 4), .int md_found, .int md_upTo, .ref (ad 5), .ref (ad 6), .ref (ad 7), .ref (ad 8), .int md_members, .int md_provedNow]))]) (w1 := []) hP hD [] [0] rfl rfl (by decide) (by decide) hk1 hFc hP1 hD1
                generalize H1 = H at hP hS ⊢
                generalize locs1 = locs at hS ⊢
                have hP : va_P (dC, dI) vwCl [((ad 0), .inr (8, [.int md_thrownCode, .int md_p, .int md_n, .int md_order, .int md_monomials, .ref (ad 1), .ref (ad 2), .int md_generators, .ref (ad 3), .ref (ad 4), .int md_found, .int md_upTo, .ref (ad 5), .ref (ad 6), .ref (ad 7), .ref (ad 8), .int md_members, .int md_provedNow]))] H := hP
                have hD : va_D A [((ad 0), .inr (8, [.int md_thrownCode, .int md_p, .int md_n, .int md_order, .int md_monomials, .ref (ad 1), .ref (ad 2), .int md_generators, .ref (ad 3), .ref (ad 4), .int md_found, .int md_upTo, .ref (ad 5), .ref (ad 6), .ref (ad 7), .ref (ad 8), .int md_members, .int md_provedNow]))] := hD
                have hv := hw
                try dsimp only at hv
                refine lv_icmp_ge (tgt := 92) hx hb d_md_greater_85 (by decide) (fun c_19 => ?_) (fun c_19 => ?_)
                · have hv := hv.1 c_19
                  refine lv_iconst (v := 0) hx hb d_md_greater_92 (by decide) ?_
                  refine lv_goto (tgt := 116) hx hb d_md_greater_93 (by decide) ?_
                  have hP9 := hP.sub (ws' := [((ad 0), .inr (8, [.int md_thrownCode, .int md_p, .int md_n, .int md_order, .int md_monomials, .ref (ad 1), .ref (ad 2), .int md_generators, .ref (ad 3), .ref (ad 4), .int md_found, .int md_upTo, .ref (ad 5), .ref (ad 6), .ref (ad 7), .ref (ad 8), .int md_members, .int md_provedNow]))]) [0] rfl
                  have hD9 := hD.sub (ws' := [((ad 0), .inr (8, [.int md_thrownCode, .int md_p, .int md_n, .int md_order, .int md_monomials, .ref (ad 1), .ref (ad 2), .int md_generators, .ref (ad 3), .ref (ad 4), .int md_found, .int md_upTo, .ref (ad 5), .ref (ad 6), .ref (ad 7), .ref (ad 8), .int md_members, .int md_provedNow]))]) [0] (by decide) rfl
                  exact W.zret (v := 0) hx hb hr rfl (fun t ht hW => ⟨⟨0, (), rfl, hv, by rw [ht]; exact hP9, hD9⟩, hS.F ht⟩) hS.2.2 d_md_greater_116
                · have hv := hv.2 c_19
                  refine lv_iconst (v := 1) hx hb d_md_greater_88 (by decide) ?_
                  refine lv_goto (tgt := 116) hx hb d_md_greater_89 (by decide) ?_
                  have hP9 := hP.sub (ws' := [((ad 0), .inr (8, [.int md_thrownCode, .int md_p, .int md_n, .int md_order, .int md_monomials, .ref (ad 1), .ref (ad 2), .int md_generators, .ref (ad 3), .ref (ad 4), .int md_found, .int md_upTo, .ref (ad 5), .ref (ad 6), .ref (ad 7), .ref (ad 8), .int md_members, .int md_provedNow]))]) [0] rfl
                  have hD9 := hD.sub (ws' := [((ad 0), .inr (8, [.int md_thrownCode, .int md_p, .int md_n, .int md_order, .int md_monomials, .ref (ad 1), .ref (ad 2), .int md_generators, .ref (ad 3), .ref (ad 4), .int md_found, .int md_upTo, .ref (ad 5), .ref (ad 6), .ref (ad 7), .ref (ad 8), .int md_members, .int md_provedNow]))]) [0] (by decide) rfl
                  exact W.zret (v := 1) hx hb hr rfl (fun t ht hW => ⟨⟨1, (), rfl, hv, by rw [ht]; exact hP9, hD9⟩, hS.F ht⟩) hS.2.2 d_md_greater_116
          · have hv := hv.2 c_8
            refine lv_iconst (v := 3) hx hb d_md_greater_42 (by decide) ?_
            refine lv_iload_n hx hb d_md_greater_43 rfl (lv_at hl 3 rfl) ?_
            refine lv_isub hx hb d_md_greater_44 ?_
            refine lv_goto (tgt := 49) hx hb d_md_greater_45 (by decide) ?_
            refine lv_topi (fun x4_20 ex4_20 => ?_)
            have hv := hv x4_20 ex4_20
            refine lv_istore (lv' := [(4, .int x4_20), (0, .ref (ad 0)), (1, .int p0), (2, .int p1), (3, .int x3_4)]) hx hb d_md_greater_49 hl (by decide) rfl (fun ls hl => ?_)
            refine lv_iload_n hx hb d_md_greater_51 rfl (lv_at hl 2 rfl) ?_
            refine lv_iload hx hb d_md_greater_52 (lv_at hl 0 rfl) ?_
            have hPc := hP.sub (ws' := []) [] rfl
            have hDc := hD.sub (ws' := []) [] (by decide) rfl
            have hFc := va_free (wc := []) hD hS hA [] rfl
            refine va_calli (va_runS (As := [.int p0, .int x4_20]) (rest := []) ⟨hx, hb, hml, hown, hts⟩ (c_md_exponent l dC dI cs ad  H.size p0 x4_20 _ hv) (va_cwS 2 hts (gd_S kw_615 kw_616 kw_41 kw_617) rfl rfl rfl (by decide +kernel) ⟨Nat.le_of_ble_eq_true rfl, Nat.le_of_ble_eq_true rfl⟩) ⟨fun a U g mk q => by obtain ⟨q0, q1, qP, qK, qD⟩ := q; exact ⟨q0, q1, qP, qK.call, qD⟩, fun U hU hW => ⟨rfl, by rw [hU], by rw [hU]; exact hPc, vwK.warm hW ⟨hK, hN⟩, hDc.weaken (fun _ _ _ _ => trivial)⟩⟩ rfl rfl hl.1 rfl (lv_room (Nat.le_of_ble_eq_true rfl)) d_md_greater_54 ⟨Nat.zero_le _, Nat.zero_le _⟩) hS (fun q _ h => hFc q h) hFc (fun r_21 _u t H1 locs1 ht hvm hw hB hz1 hk1 hS => ?_)
            obtain ⟨hP1, hD1⟩ := hB
            rw [ht] at hP1
            obtain ⟨hP, hD⟩ := va_join (wr := [((ad 0), .inr (8, [.int md_thrownCode, .int md_p, .int md_n, .int md_order, .int md_monomials, .ref (ad 1), .ref (ad 2), .int md_generators, .ref (ad 3), .ref (ad 4), .int md_found, .int md_upTo, .ref (ad 5), .ref (ad 6), .ref (ad 7), .ref (ad 8), .int md_members, .int md_provedNow]))]) (w1 := []) hP hD [] [0] rfl rfl (by decide) (by decide) hk1 hFc hP1 hD1
            generalize H1 = H at hP hS ⊢
            generalize locs1 = locs at hS ⊢
            have hP : va_P (dC, dI) vwCl [((ad 0), .inr (8, [.int md_thrownCode, .int md_p, .int md_n, .int md_order, .int md_monomials, .ref (ad 1), .ref (ad 2), .int md_generators, .ref (ad 3), .ref (ad 4), .int md_found, .int md_upTo, .ref (ad 5), .ref (ad 6), .ref (ad 7), .ref (ad 8), .int md_members, .int md_provedNow]))] H := hP
            have hD : va_D A [((ad 0), .inr (8, [.int md_thrownCode, .int md_p, .int md_n, .int md_order, .int md_monomials, .ref (ad 1), .ref (ad 2), .int md_generators, .ref (ad 3), .ref (ad 4), .int md_found, .int md_upTo, .ref (ad 5), .ref (ad 6), .ref (ad 7), .ref (ad 8), .int md_members, .int md_provedNow]))] := hD
            have hv := hw
            try dsimp only at hv
            refine lv_iload_n hx hb d_md_greater_57 rfl (lv_at hl 3 rfl) ?_
            refine lv_iload hx hb d_md_greater_58 (lv_at hl 0 rfl) ?_
            have hPc := hP.sub (ws' := []) [] rfl
            have hDc := hD.sub (ws' := []) [] (by decide) rfl
            have hFc := va_free (wc := []) hD hS hA [] rfl
            refine va_calli (va_runS (As := [.int p1, .int x4_20]) (rest := [.int r_21]) ⟨hx, hb, hml, hown, hts⟩ (c_md_exponent l dC dI cs ad  H.size p1 x4_20 _ hv) (va_cwS 2 hts (gd_S kw_615 kw_616 kw_41 kw_617) rfl rfl rfl (by decide +kernel) ⟨Nat.le_of_ble_eq_true rfl, Nat.le_of_ble_eq_true rfl⟩) ⟨fun a U g mk q => by obtain ⟨q0, q1, qP, qK, qD⟩ := q; exact ⟨q0, q1, qP, qK.call, qD⟩, fun U hU hW => ⟨rfl, by rw [hU], by rw [hU]; exact hPc, vwK.warm hW ⟨hK, hN⟩, hDc.weaken (fun _ _ _ _ => trivial)⟩⟩ rfl rfl hl.1 rfl (lv_room (Nat.le_of_ble_eq_true rfl)) d_md_greater_60 ⟨Nat.zero_le _, Nat.zero_le _⟩) hS (fun q _ h => hFc q h) hFc (fun r_22 _u t H1 locs1 ht hvm hw hB hz1 hk1 hS => ?_)
            obtain ⟨hP1, hD1⟩ := hB
            rw [ht] at hP1
            obtain ⟨hP, hD⟩ := va_join (wr := [((ad 0), .inr (8, [.int md_thrownCode, .int md_p, .int md_n, .int md_order, .int md_monomials, .ref (ad 1), .ref (ad 2), .int md_generators, .ref (ad 3), .ref (ad 4), .int md_found, .int md_upTo, .ref (ad 5), .ref (ad 6), .ref (ad 7), .ref (ad 8), .int md_members, .int md_provedNow]))]) (w1 := []) hP hD [] [0] rfl rfl (by decide) (by decide) hk1 hFc hP1 hD1
            generalize H1 = H at hP hS ⊢
            generalize locs1 = locs at hS ⊢
            have hP : va_P (dC, dI) vwCl [((ad 0), .inr (8, [.int md_thrownCode, .int md_p, .int md_n, .int md_order, .int md_monomials, .ref (ad 1), .ref (ad 2), .int md_generators, .ref (ad 3), .ref (ad 4), .int md_found, .int md_upTo, .ref (ad 5), .ref (ad 6), .ref (ad 7), .ref (ad 8), .int md_members, .int md_provedNow]))] H := hP
            have hD : va_D A [((ad 0), .inr (8, [.int md_thrownCode, .int md_p, .int md_n, .int md_order, .int md_monomials, .ref (ad 1), .ref (ad 2), .int md_generators, .ref (ad 3), .ref (ad 4), .int md_found, .int md_upTo, .ref (ad 5), .ref (ad 6), .ref (ad 7), .ref (ad 8), .int md_members, .int md_provedNow]))] := hD
            have hv := hw
            try dsimp only at hv
            refine lv_icmp_eq (tgt := 117) hx hb d_md_greater_63 (by decide) (fun c_23 => ?_) (fun c_23 => ?_)
            · have hv := hv.1 c_23
              obtain ⟨x3_24, ex3_24⟩ : ∃ y : Int32, y = x3_4 + 1 := ⟨_, rfl⟩
              have hv := hv x3_24 ex3_24
              refine lv_iinc (v := x3_24) (lv' := [(3, .int x3_24), (4, .int x4_20), (0, .ref (ad 0)), (1, .int p0), (2, .int p1)]) hx hb d_md_greater_117 hl (k := 4) rfl (by rw [ex3_24]; rfl) (by decide) rfl (fun ls hl => ?_)
              refine lv_goto (tgt := 30) hx hb d_md_greater_120 (by decide) ?_
              exact ih30 x3_24 (Nat.lt_of_lt_of_le hv.2 (Nat.le_of_lt_succ hlt30)) hv.1 _ _ _ (hP.sub [0] rfl) (hD.sub [0] (by decide) rfl) hS (lv_sub hl [2, 3, 4, 0] rfl)
            · have hv := hv.2 c_23
              refine lv_aload_n hx hb d_md_greater_66 rfl (lv_at hl 1 rfl) ?_
              refine va_get (D := (dC, dI)) (ci := 8) (v := .int md_order) (C := R_md) (T := F_md) (N := 18) hx hb hts in_md hown hK hP 0 rfl rfl 3 (by decide) (hts _ kw_621) (fun _ h9 => h9) rfl d_md_greater_67 ?_
              refine lv_if_ne (tgt := 96) hx hb d_md_greater_70 (by decide) (fun c_25 => ?_) (fun c_25 => ?_)
              · have hv := hv.1 c_25
                refine lv_iload_n hx hb d_md_greater_96 rfl (lv_at hl 2 rfl) ?_
                refine lv_iload hx hb d_md_greater_97 (lv_at hl 0 rfl) ?_
                have hPc := hP.sub (ws' := []) [] rfl
                have hDc := hD.sub (ws' := []) [] (by decide) rfl
                have hFc := va_free (wc := []) hD hS hA [] rfl
                refine va_calli (va_runS (As := [.int p0, .int x4_20]) (rest := []) ⟨hx, hb, hml, hown, hts⟩ (c_md_exponent l dC dI cs ad  H.size p0 x4_20 _ hv) (va_cwS 2 hts (gd_S kw_615 kw_616 kw_41 kw_617) rfl rfl rfl (by decide +kernel) ⟨Nat.le_of_ble_eq_true rfl, Nat.le_of_ble_eq_true rfl⟩) ⟨fun a U g mk q => by obtain ⟨q0, q1, qP, qK, qD⟩ := q; exact ⟨q0, q1, qP, qK.call, qD⟩, fun U hU hW => ⟨rfl, by rw [hU], by rw [hU]; exact hPc, vwK.warm hW ⟨hK, hN⟩, hDc.weaken (fun _ _ _ _ => trivial)⟩⟩ rfl rfl hl.1 rfl (lv_room (Nat.le_of_ble_eq_true rfl)) d_md_greater_99 ⟨Nat.zero_le _, Nat.zero_le _⟩) hS (fun q _ h => hFc q h) hFc (fun r_26 _u t H1 locs1 ht hvm hw hB hz1 hk1 hS => ?_)
                obtain ⟨hP1, hD1⟩ := hB
                rw [ht] at hP1
                obtain ⟨hP, hD⟩ := va_join (wr := [((ad 0), .inr (8, [.int md_thrownCode, .int md_p, .int md_n, .int md_order, .int md_monomials, .ref (ad 1), .ref (ad 2), .int md_generators, .ref (ad 3), .ref (ad 4), .int md_found, .int md_upTo, .ref (ad 5), .ref (ad 6), .ref (ad 7), .ref (ad 8), .int md_members, .int md_provedNow]))]) (w1 := []) hP hD [] [0] rfl rfl (by decide) (by decide) hk1 hFc hP1 hD1
                generalize H1 = H at hP hS ⊢
                generalize locs1 = locs at hS ⊢
                have hP : va_P (dC, dI) vwCl [((ad 0), .inr (8, [.int md_thrownCode, .int md_p, .int md_n, .int md_order, .int md_monomials, .ref (ad 1), .ref (ad 2), .int md_generators, .ref (ad 3), .ref (ad 4), .int md_found, .int md_upTo, .ref (ad 5), .ref (ad 6), .ref (ad 7), .ref (ad 8), .int md_members, .int md_provedNow]))] H := hP
                have hD : va_D A [((ad 0), .inr (8, [.int md_thrownCode, .int md_p, .int md_n, .int md_order, .int md_monomials, .ref (ad 1), .ref (ad 2), .int md_generators, .ref (ad 3), .ref (ad 4), .int md_found, .int md_upTo, .ref (ad 5), .ref (ad 6), .ref (ad 7), .ref (ad 8), .int md_members, .int md_provedNow]))] := hD
                have hv := hw
                try dsimp only at hv
                refine lv_iload_n hx hb d_md_greater_102 rfl (lv_at hl 3 rfl) ?_
                refine lv_iload hx hb d_md_greater_103 (lv_at hl 0 rfl) ?_
                have hPc := hP.sub (ws' := []) [] rfl
                have hDc := hD.sub (ws' := []) [] (by decide) rfl
                have hFc := va_free (wc := []) hD hS hA [] rfl
                refine va_calli (va_runS (As := [.int p1, .int x4_20]) (rest := [.int r_26]) ⟨hx, hb, hml, hown, hts⟩ (c_md_exponent l dC dI cs ad  H.size p1 x4_20 _ hv) (va_cwS 2 hts (gd_S kw_615 kw_616 kw_41 kw_617) rfl rfl rfl (by decide +kernel) ⟨Nat.le_of_ble_eq_true rfl, Nat.le_of_ble_eq_true rfl⟩) ⟨fun a U g mk q => by obtain ⟨q0, q1, qP, qK, qD⟩ := q; exact ⟨q0, q1, qP, qK.call, qD⟩, fun U hU hW => ⟨rfl, by rw [hU], by rw [hU]; exact hPc, vwK.warm hW ⟨hK, hN⟩, hDc.weaken (fun _ _ _ _ => trivial)⟩⟩ rfl rfl hl.1 rfl (lv_room (Nat.le_of_ble_eq_true rfl)) d_md_greater_105 ⟨Nat.zero_le _, Nat.zero_le _⟩) hS (fun q _ h => hFc q h) hFc (fun r_27 _u t H1 locs1 ht hvm hw hB hz1 hk1 hS => ?_)
                obtain ⟨hP1, hD1⟩ := hB
                rw [ht] at hP1
                obtain ⟨hP, hD⟩ := va_join (wr := [((ad 0), .inr (8, [.int md_thrownCode, .int md_p, .int md_n, .int md_order, .int md_monomials, .ref (ad 1), .ref (ad 2), .int md_generators, .ref (ad 3), .ref (ad 4), .int md_found, .int md_upTo, .ref (ad 5), .ref (ad 6), .ref (ad 7), .ref (ad 8), .int md_members, .int md_provedNow]))]) (w1 := []) hP hD [] [0] rfl rfl (by decide) (by decide) hk1 hFc hP1 hD1
                generalize H1 = H at hP hS ⊢
                generalize locs1 = locs at hS ⊢
                have hP : va_P (dC, dI) vwCl [((ad 0), .inr (8, [.int md_thrownCode, .int md_p, .int md_n, .int md_order, .int md_monomials, .ref (ad 1), .ref (ad 2), .int md_generators, .ref (ad 3), .ref (ad 4), .int md_found, .int md_upTo, .ref (ad 5), .ref (ad 6), .ref (ad 7), .ref (ad 8), .int md_members, .int md_provedNow]))] H := hP
                have hD : va_D A [((ad 0), .inr (8, [.int md_thrownCode, .int md_p, .int md_n, .int md_order, .int md_monomials, .ref (ad 1), .ref (ad 2), .int md_generators, .ref (ad 3), .ref (ad 4), .int md_found, .int md_upTo, .ref (ad 5), .ref (ad 6), .ref (ad 7), .ref (ad 8), .int md_members, .int md_provedNow]))] := hD
                have hv := hw
                try dsimp only at hv
                refine lv_icmp_le (tgt := 115) hx hb d_md_greater_108 (by decide) (fun c_28 => ?_) (fun c_28 => ?_)
                · have hv := hv.1 c_28
                  refine lv_iconst (v := 0) hx hb d_md_greater_115 (by decide) ?_
                  have hP9 := hP.sub (ws' := [((ad 0), .inr (8, [.int md_thrownCode, .int md_p, .int md_n, .int md_order, .int md_monomials, .ref (ad 1), .ref (ad 2), .int md_generators, .ref (ad 3), .ref (ad 4), .int md_found, .int md_upTo, .ref (ad 5), .ref (ad 6), .ref (ad 7), .ref (ad 8), .int md_members, .int md_provedNow]))]) [0] rfl
                  have hD9 := hD.sub (ws' := [((ad 0), .inr (8, [.int md_thrownCode, .int md_p, .int md_n, .int md_order, .int md_monomials, .ref (ad 1), .ref (ad 2), .int md_generators, .ref (ad 3), .ref (ad 4), .int md_found, .int md_upTo, .ref (ad 5), .ref (ad 6), .ref (ad 7), .ref (ad 8), .int md_members, .int md_provedNow]))]) [0] (by decide) rfl
                  exact W.zret (v := 0) hx hb hr rfl (fun t ht hW => ⟨⟨0, (), rfl, hv, by rw [ht]; exact hP9, hD9⟩, hS.F ht⟩) hS.2.2 d_md_greater_116
                · have hv := hv.2 c_28
                  refine lv_iconst (v := 1) hx hb d_md_greater_111 (by decide) ?_
                  refine lv_goto (tgt := 116) hx hb d_md_greater_112 (by decide) ?_
                  have hP9 := hP.sub (ws' := [((ad 0), .inr (8, [.int md_thrownCode, .int md_p, .int md_n, .int md_order, .int md_monomials, .ref (ad 1), .ref (ad 2), .int md_generators, .ref (ad 3), .ref (ad 4), .int md_found, .int md_upTo, .ref (ad 5), .ref (ad 6), .ref (ad 7), .ref (ad 8), .int md_members, .int md_provedNow]))]) [0] rfl
                  have hD9 := hD.sub (ws' := [((ad 0), .inr (8, [.int md_thrownCode, .int md_p, .int md_n, .int md_order, .int md_monomials, .ref (ad 1), .ref (ad 2), .int md_generators, .ref (ad 3), .ref (ad 4), .int md_found, .int md_upTo, .ref (ad 5), .ref (ad 6), .ref (ad 7), .ref (ad 8), .int md_members, .int md_provedNow]))]) [0] (by decide) rfl
                  exact W.zret (v := 1) hx hb hr rfl (fun t ht hW => ⟨⟨1, (), rfl, hv, by rw [ht]; exact hP9, hD9⟩, hS.F ht⟩) hS.2.2 d_md_greater_116
              · have hv := hv.2 c_25
                refine lv_iload_n hx hb d_md_greater_73 rfl (lv_at hl 2 rfl) ?_
                refine lv_iload hx hb d_md_greater_74 (lv_at hl 0 rfl) ?_
                have hPc := hP.sub (ws' := []) [] rfl
                have hDc := hD.sub (ws' := []) [] (by decide) rfl
                have hFc := va_free (wc := []) hD hS hA [] rfl
                refine va_calli (va_runS (As := [.int p0, .int x4_20]) (rest := []) ⟨hx, hb, hml, hown, hts⟩ (c_md_exponent l dC dI cs ad  H.size p0 x4_20 _ hv) (va_cwS 2 hts (gd_S kw_615 kw_616 kw_41 kw_617) rfl rfl rfl (by decide +kernel) ⟨Nat.le_of_ble_eq_true rfl, Nat.le_of_ble_eq_true rfl⟩) ⟨fun a U g mk q => by obtain ⟨q0, q1, qP, qK, qD⟩ := q; exact ⟨q0, q1, qP, qK.call, qD⟩, fun U hU hW => ⟨rfl, by rw [hU], by rw [hU]; exact hPc, vwK.warm hW ⟨hK, hN⟩, hDc.weaken (fun _ _ _ _ => trivial)⟩⟩ rfl rfl hl.1 rfl (lv_room (Nat.le_of_ble_eq_true rfl)) d_md_greater_76 ⟨Nat.zero_le _, Nat.zero_le _⟩) hS (fun q _ h => hFc q h) hFc (fun r_29 _u t H1 locs1 ht hvm hw hB hz1 hk1 hS => ?_)
                obtain ⟨hP1, hD1⟩ := hB
                rw [ht] at hP1
                obtain ⟨hP, hD⟩ := va_join (wr := [((ad 0), .inr (8, [.int md_thrownCode, .int md_p, .int md_n, .int md_order, .int md_monomials, .ref (ad 1), .ref (ad 2), .int md_generators, .ref (ad 3), .ref (ad 4), .int md_found, .int md_upTo, .ref (ad 5), .ref (ad 6), .ref (ad 7), .ref (ad 8), .int md_members, .int md_provedNow]))]) (w1 := []) hP hD [] [0] rfl rfl (by decide) (by decide) hk1 hFc hP1 hD1
                generalize H1 = H at hP hS ⊢
                generalize locs1 = locs at hS ⊢
                have hP : va_P (dC, dI) vwCl [((ad 0), .inr (8, [.int md_thrownCode, .int md_p, .int md_n, .int md_order, .int md_monomials, .ref (ad 1), .ref (ad 2), .int md_generators, .ref (ad 3), .ref (ad 4), .int md_found, .int md_upTo, .ref (ad 5), .ref (ad 6), .ref (ad 7), .ref (ad 8), .int md_members, .int md_provedNow]))] H := hP
                have hD : va_D A [((ad 0), .inr (8, [.int md_thrownCode, .int md_p, .int md_n, .int md_order, .int md_monomials, .ref (ad 1), .ref (ad 2), .int md_generators, .ref (ad 3), .ref (ad 4), .int md_found, .int md_upTo, .ref (ad 5), .ref (ad 6), .ref (ad 7), .ref (ad 8), .int md_members, .int md_provedNow]))] := hD
                have hv := hw
                try dsimp only at hv
                refine lv_iload_n hx hb d_md_greater_79 rfl (lv_at hl 3 rfl) ?_
                refine lv_iload hx hb d_md_greater_80 (lv_at hl 0 rfl) ?_
                have hPc := hP.sub (ws' := []) [] rfl
                have hDc := hD.sub (ws' := []) [] (by decide) rfl
                have hFc := va_free (wc := []) hD hS hA [] rfl
                refine va_calli (va_runS (As := [.int p1, .int x4_20]) (rest := [.int r_29]) ⟨hx, hb, hml, hown, hts⟩ (c_md_exponent l dC dI cs ad  H.size p1 x4_20 _ hv) (va_cwS 2 hts (gd_S kw_615 kw_616 kw_41 kw_617) rfl rfl rfl (by decide +kernel) ⟨Nat.le_of_ble_eq_true rfl, Nat.le_of_ble_eq_true rfl⟩) ⟨fun a U g mk q => by obtain ⟨q0, q1, qP, qK, qD⟩ := q; exact ⟨q0, q1, qP, qK.call, qD⟩, fun U hU hW => ⟨rfl, by rw [hU], by rw [hU]; exact hPc, vwK.warm hW ⟨hK, hN⟩, hDc.weaken (fun _ _ _ _ => trivial)⟩⟩ rfl rfl hl.1 rfl (lv_room (Nat.le_of_ble_eq_true rfl)) d_md_greater_82 ⟨Nat.zero_le _, Nat.zero_le _⟩) hS (fun q _ h => hFc q h) hFc (fun r_30 _u t H1 locs1 ht hvm hw hB hz1 hk1 hS => ?_)
                obtain ⟨hP1, hD1⟩ := hB
                rw [ht] at hP1
                obtain ⟨hP, hD⟩ := va_join (wr := [((ad 0), .inr (8, [.int md_thrownCode, .int md_p, .int md_n, .int md_order, .int md_monomials, .ref (ad 1), .ref (ad 2), .int md_generators, .ref (ad 3), .ref (ad 4), .int md_found, .int md_upTo, .ref (ad 5), .ref (ad 6), .ref (ad 7), .ref (ad 8), .int md_members, .int md_provedNow]))]) (w1 := []) hP hD [] [0] rfl rfl (by decide) (by decide) hk1 hFc hP1 hD1
                generalize H1 = H at hP hS ⊢
                generalize locs1 = locs at hS ⊢
                have hP : va_P (dC, dI) vwCl [((ad 0), .inr (8, [.int md_thrownCode, .int md_p, .int md_n, .int md_order, .int md_monomials, .ref (ad 1), .ref (ad 2), .int md_generators, .ref (ad 3), .ref (ad 4), .int md_found, .int md_upTo, .ref (ad 5), .ref (ad 6), .ref (ad 7), .ref (ad 8), .int md_members, .int md_provedNow]))] H := hP
                have hD : va_D A [((ad 0), .inr (8, [.int md_thrownCode, .int md_p, .int md_n, .int md_order, .int md_monomials, .ref (ad 1), .ref (ad 2), .int md_generators, .ref (ad 3), .ref (ad 4), .int md_found, .int md_upTo, .ref (ad 5), .ref (ad 6), .ref (ad 7), .ref (ad 8), .int md_members, .int md_provedNow]))] := hD
                have hv := hw
                try dsimp only at hv
                refine lv_icmp_ge (tgt := 92) hx hb d_md_greater_85 (by decide) (fun c_31 => ?_) (fun c_31 => ?_)
                · have hv := hv.1 c_31
                  refine lv_iconst (v := 0) hx hb d_md_greater_92 (by decide) ?_
                  refine lv_goto (tgt := 116) hx hb d_md_greater_93 (by decide) ?_
                  have hP9 := hP.sub (ws' := [((ad 0), .inr (8, [.int md_thrownCode, .int md_p, .int md_n, .int md_order, .int md_monomials, .ref (ad 1), .ref (ad 2), .int md_generators, .ref (ad 3), .ref (ad 4), .int md_found, .int md_upTo, .ref (ad 5), .ref (ad 6), .ref (ad 7), .ref (ad 8), .int md_members, .int md_provedNow]))]) [0] rfl
                  have hD9 := hD.sub (ws' := [((ad 0), .inr (8, [.int md_thrownCode, .int md_p, .int md_n, .int md_order, .int md_monomials, .ref (ad 1), .ref (ad 2), .int md_generators, .ref (ad 3), .ref (ad 4), .int md_found, .int md_upTo, .ref (ad 5), .ref (ad 6), .ref (ad 7), .ref (ad 8), .int md_members, .int md_provedNow]))]) [0] (by decide) rfl
                  exact W.zret (v := 0) hx hb hr rfl (fun t ht hW => ⟨⟨0, (), rfl, hv, by rw [ht]; exact hP9, hD9⟩, hS.F ht⟩) hS.2.2 d_md_greater_116
                · have hv := hv.2 c_31
                  refine lv_iconst (v := 1) hx hb d_md_greater_88 (by decide) ?_
                  refine lv_goto (tgt := 116) hx hb d_md_greater_89 (by decide) ?_
                  have hP9 := hP.sub (ws' := [((ad 0), .inr (8, [.int md_thrownCode, .int md_p, .int md_n, .int md_order, .int md_monomials, .ref (ad 1), .ref (ad 2), .int md_generators, .ref (ad 3), .ref (ad 4), .int md_found, .int md_upTo, .ref (ad 5), .ref (ad 6), .ref (ad 7), .ref (ad 8), .int md_members, .int md_provedNow]))]) [0] rfl
                  have hD9 := hD.sub (ws' := [((ad 0), .inr (8, [.int md_thrownCode, .int md_p, .int md_n, .int md_order, .int md_monomials, .ref (ad 1), .ref (ad 2), .int md_generators, .ref (ad 3), .ref (ad 4), .int md_found, .int md_upTo, .ref (ad 5), .ref (ad 6), .ref (ad 7), .ref (ad 8), .int md_members, .int md_provedNow]))]) [0] (by decide) rfl
                  exact W.zret (v := 1) hx hb hr rfl (fun t ht hW => ⟨⟨1, (), rfl, hv, by rw [ht]; exact hP9, hD9⟩, hS.F ht⟩) hS.2.2 d_md_greater_116
    exact loop30 _ 0 (Nat.lt_succ_self _) hi0 _ _ _ hP hD hS hl
  · have hv := hv.2 c_3
    refine lv_iload_n hx hb d_md_greater_11 rfl (lv_at hl 1 rfl) ?_
    have hPc := hP.sub (ws' := []) [] rfl
    have hDc := hD.sub (ws' := []) [] (by decide) rfl
    have hFc := va_free (wc := []) hD hS hA [] rfl
    refine va_calli (va_runS (As := [.int p0]) (rest := []) ⟨hx, hb, hml, hown, hts⟩ (c_md_degreeOf l dC dI cs ad  H.size p0 _ hv) (va_cwS 1 hts (gd_S kw_612 kw_613 kw_41 kw_614) rfl rfl rfl (by decide +kernel) ⟨Nat.le_of_ble_eq_true rfl, Nat.le_of_ble_eq_true rfl⟩) ⟨fun a U g mk q => by obtain ⟨q0, q1, qP, qK, qD⟩ := q; exact ⟨q0, q1, qP, qK.call, qD⟩, fun U hU hW => ⟨rfl, by rw [hU], by rw [hU]; exact hPc, vwK.warm hW ⟨hK, hN⟩, hDc.weaken (fun _ _ _ _ => trivial)⟩⟩ rfl rfl hl.1 rfl (lv_room (Nat.le_of_ble_eq_true rfl)) d_md_greater_12 ⟨Nat.zero_le _, Nat.zero_le _⟩) hS (fun q _ h => hFc q h) hFc (fun r_32 _u t H1 locs1 ht hvm hw hB hz1 hk1 hS => ?_)
    obtain ⟨hP1, hD1⟩ := hB
    rw [ht] at hP1
    obtain ⟨hP, hD⟩ := va_join (wr := [((ad 0), .inr (8, [.int md_thrownCode, .int md_p, .int md_n, .int md_order, .int md_monomials, .ref (ad 1), .ref (ad 2), .int md_generators, .ref (ad 3), .ref (ad 4), .int md_found, .int md_upTo, .ref (ad 5), .ref (ad 6), .ref (ad 7), .ref (ad 8), .int md_members, .int md_provedNow]))]) (w1 := []) hP hD [] [0] rfl rfl (by decide) (by decide) hk1 hFc hP1 hD1
    generalize H1 = H at hP hS ⊢
    generalize locs1 = locs at hS ⊢
    have hP : va_P (dC, dI) vwCl [((ad 0), .inr (8, [.int md_thrownCode, .int md_p, .int md_n, .int md_order, .int md_monomials, .ref (ad 1), .ref (ad 2), .int md_generators, .ref (ad 3), .ref (ad 4), .int md_found, .int md_upTo, .ref (ad 5), .ref (ad 6), .ref (ad 7), .ref (ad 8), .int md_members, .int md_provedNow]))] H := hP
    have hD : va_D A [((ad 0), .inr (8, [.int md_thrownCode, .int md_p, .int md_n, .int md_order, .int md_monomials, .ref (ad 1), .ref (ad 2), .int md_generators, .ref (ad 3), .ref (ad 4), .int md_found, .int md_upTo, .ref (ad 5), .ref (ad 6), .ref (ad 7), .ref (ad 8), .int md_members, .int md_provedNow]))] := hD
    have hv := hw
    try dsimp only at hv
    refine lv_iload_n hx hb d_md_greater_15 rfl (lv_at hl 2 rfl) ?_
    have hPc := hP.sub (ws' := []) [] rfl
    have hDc := hD.sub (ws' := []) [] (by decide) rfl
    have hFc := va_free (wc := []) hD hS hA [] rfl
    refine va_calli (va_runS (As := [.int p1]) (rest := [.int r_32]) ⟨hx, hb, hml, hown, hts⟩ (c_md_degreeOf l dC dI cs ad  H.size p1 _ hv) (va_cwS 1 hts (gd_S kw_612 kw_613 kw_41 kw_614) rfl rfl rfl (by decide +kernel) ⟨Nat.le_of_ble_eq_true rfl, Nat.le_of_ble_eq_true rfl⟩) ⟨fun a U g mk q => by obtain ⟨q0, q1, qP, qK, qD⟩ := q; exact ⟨q0, q1, qP, qK.call, qD⟩, fun U hU hW => ⟨rfl, by rw [hU], by rw [hU]; exact hPc, vwK.warm hW ⟨hK, hN⟩, hDc.weaken (fun _ _ _ _ => trivial)⟩⟩ rfl rfl hl.1 rfl (lv_room (Nat.le_of_ble_eq_true rfl)) d_md_greater_16 ⟨Nat.zero_le _, Nat.zero_le _⟩) hS (fun q _ h => hFc q h) hFc (fun r_33 _u t H1 locs1 ht hvm hw hB hz1 hk1 hS => ?_)
    obtain ⟨hP1, hD1⟩ := hB
    rw [ht] at hP1
    obtain ⟨hP, hD⟩ := va_join (wr := [((ad 0), .inr (8, [.int md_thrownCode, .int md_p, .int md_n, .int md_order, .int md_monomials, .ref (ad 1), .ref (ad 2), .int md_generators, .ref (ad 3), .ref (ad 4), .int md_found, .int md_upTo, .ref (ad 5), .ref (ad 6), .ref (ad 7), .ref (ad 8), .int md_members, .int md_provedNow]))]) (w1 := []) hP hD [] [0] rfl rfl (by decide) (by decide) hk1 hFc hP1 hD1
    generalize H1 = H at hP hS ⊢
    generalize locs1 = locs at hS ⊢
    have hP : va_P (dC, dI) vwCl [((ad 0), .inr (8, [.int md_thrownCode, .int md_p, .int md_n, .int md_order, .int md_monomials, .ref (ad 1), .ref (ad 2), .int md_generators, .ref (ad 3), .ref (ad 4), .int md_found, .int md_upTo, .ref (ad 5), .ref (ad 6), .ref (ad 7), .ref (ad 8), .int md_members, .int md_provedNow]))] H := hP
    have hD : va_D A [((ad 0), .inr (8, [.int md_thrownCode, .int md_p, .int md_n, .int md_order, .int md_monomials, .ref (ad 1), .ref (ad 2), .int md_generators, .ref (ad 3), .ref (ad 4), .int md_found, .int md_upTo, .ref (ad 5), .ref (ad 6), .ref (ad 7), .ref (ad 8), .int md_members, .int md_provedNow]))] := hD
    have hv := hw
    try dsimp only at hv
    refine lv_icmp_le (tgt := 26) hx hb d_md_greater_19 (by decide) (fun c_34 => ?_) (fun c_34 => ?_)
    · have hv := hv.1 c_34
      refine lv_iconst (v := 0) hx hb d_md_greater_26 (by decide) ?_
      have hP9 := hP.sub (ws' := [((ad 0), .inr (8, [.int md_thrownCode, .int md_p, .int md_n, .int md_order, .int md_monomials, .ref (ad 1), .ref (ad 2), .int md_generators, .ref (ad 3), .ref (ad 4), .int md_found, .int md_upTo, .ref (ad 5), .ref (ad 6), .ref (ad 7), .ref (ad 8), .int md_members, .int md_provedNow]))]) [0] rfl
      have hD9 := hD.sub (ws' := [((ad 0), .inr (8, [.int md_thrownCode, .int md_p, .int md_n, .int md_order, .int md_monomials, .ref (ad 1), .ref (ad 2), .int md_generators, .ref (ad 3), .ref (ad 4), .int md_found, .int md_upTo, .ref (ad 5), .ref (ad 6), .ref (ad 7), .ref (ad 8), .int md_members, .int md_provedNow]))]) [0] (by decide) rfl
      exact W.zret (v := 0) hx hb hr rfl (fun t ht hW => ⟨⟨0, (), rfl, hv, by rw [ht]; exact hP9, hD9⟩, hS.F ht⟩) hS.2.2 d_md_greater_27
    · have hv := hv.2 c_34
      refine lv_iconst (v := 1) hx hb d_md_greater_22 (by decide) ?_
      refine lv_goto (tgt := 27) hx hb d_md_greater_23 (by decide) ?_
      have hP9 := hP.sub (ws' := [((ad 0), .inr (8, [.int md_thrownCode, .int md_p, .int md_n, .int md_order, .int md_monomials, .ref (ad 1), .ref (ad 2), .int md_generators, .ref (ad 3), .ref (ad 4), .int md_found, .int md_upTo, .ref (ad 5), .ref (ad 6), .ref (ad 7), .ref (ad 8), .int md_members, .int md_provedNow]))]) [0] rfl
      have hD9 := hD.sub (ws' := [((ad 0), .inr (8, [.int md_thrownCode, .int md_p, .int md_n, .int md_order, .int md_monomials, .ref (ad 1), .ref (ad 2), .int md_generators, .ref (ad 3), .ref (ad 4), .int md_found, .int md_upTo, .ref (ad 5), .ref (ad 6), .ref (ad 7), .ref (ad 8), .int md_members, .int md_provedNow]))]) [0] (by decide) rfl
      exact W.zret (v := 1) hx hb hr rfl (fun t ht hW => ⟨⟨1, (), rfl, hv, by rw [ht]; exact hP9, hD9⟩, hS.F ht⟩) hS.2.2 d_md_greater_27
abbrev b_md_put : ByteArray := prog_10_method_7_code
def y_md_put : MethodName := ⟨"SpaceBasisModel", "put", "(I)V"⟩
def w_md_put : List Cond := Cond.code y_md_put b_md_put 3 none :: vwWS
theorem d_md_put_0 : decode b_md_put 0 = .ok (.aload_n 0, 1) := by decide +kernel
theorem d_md_put_1 : decode b_md_put 1 = .ok (.getfield 22, 3) := by decide +kernel
theorem d_md_put_4 : decode b_md_put 4 = .ok (.istore_n 2, 1) := by decide +kernel
theorem d_md_put_5 : decode b_md_put 5 = .ok (.iload_n 2, 1) := by decide +kernel
theorem d_md_put_6 : decode b_md_put 6 = .ok (.ifCond .le 39, 3) := by decide +kernel
theorem d_md_put_9 : decode b_md_put 9 = .ok (.aload_n 0, 1) := by decide +kernel
theorem d_md_put_10 : decode b_md_put 10 = .ok (.aload_n 0, 1) := by decide +kernel
theorem d_md_put_11 : decode b_md_put 11 = .ok (.getfield 25, 3) := by decide +kernel
theorem d_md_put_14 : decode b_md_put 14 = .ok (.iload_n 2, 1) := by decide +kernel
theorem d_md_put_15 : decode b_md_put 15 = .ok (.iconst 1, 1) := by decide +kernel
theorem d_md_put_16 : decode b_md_put 16 = .ok (.isub, 1) := by decide +kernel
theorem d_md_put_17 : decode b_md_put 17 = .ok (.iaload, 1) := by decide +kernel
theorem d_md_put_18 : decode b_md_put 18 = .ok (.iload_n 1, 1) := by decide +kernel
theorem d_md_put_19 : decode b_md_put 19 = .ok (.invokevirtual 86, 3) := by decide +kernel
theorem d_md_put_22 : decode b_md_put 22 = .ok (.ifCond .eq 23, 3) := by decide +kernel
theorem d_md_put_25 : decode b_md_put 25 = .ok (.aload_n 0, 1) := by decide +kernel
theorem d_md_put_26 : decode b_md_put 26 = .ok (.getfield 25, 3) := by decide +kernel
theorem d_md_put_29 : decode b_md_put 29 = .ok (.iload_n 2, 1) := by decide +kernel
theorem d_md_put_30 : decode b_md_put 30 = .ok (.aload_n 0, 1) := by decide +kernel
theorem d_md_put_31 : decode b_md_put 31 = .ok (.getfield 25, 3) := by decide +kernel
theorem d_md_put_34 : decode b_md_put 34 = .ok (.iload_n 2, 1) := by decide +kernel
theorem d_md_put_35 : decode b_md_put 35 = .ok (.iconst 1, 1) := by decide +kernel
theorem d_md_put_36 : decode b_md_put 36 = .ok (.isub, 1) := by decide +kernel
theorem d_md_put_37 : decode b_md_put 37 = .ok (.iaload, 1) := by decide +kernel
theorem d_md_put_38 : decode b_md_put 38 = .ok (.iastore, 1) := by decide +kernel
theorem d_md_put_39 : decode b_md_put 39 = .ok (.iinc 2 (-1), 3) := by decide +kernel
theorem d_md_put_42 : decode b_md_put 42 = .ok (.goto (-37), 3) := by decide +kernel
theorem d_md_put_45 : decode b_md_put 45 = .ok (.aload_n 0, 1) := by decide +kernel
theorem d_md_put_46 : decode b_md_put 46 = .ok (.getfield 25, 3) := by decide +kernel
theorem d_md_put_49 : decode b_md_put 49 = .ok (.iload_n 2, 1) := by decide +kernel
theorem d_md_put_50 : decode b_md_put 50 = .ok (.iload_n 1, 1) := by decide +kernel
theorem d_md_put_51 : decode b_md_put 51 = .ok (.iastore, 1) := by decide +kernel
theorem d_md_put_52 : decode b_md_put 52 = .ok (.aload_n 0, 1) := by decide +kernel
theorem d_md_put_53 : decode b_md_put 53 = .ok (.dup, 1) := by decide +kernel
theorem d_md_put_54 : decode b_md_put 54 = .ok (.getfield 22, 3) := by decide +kernel
theorem d_md_put_57 : decode b_md_put 57 = .ok (.iconst 1, 1) := by decide +kernel
theorem d_md_put_58 : decode b_md_put 58 = .ok (.iadd, 1) := by decide +kernel
theorem d_md_put_59 : decode b_md_put 59 = .ok (.putfield 22, 3) := by decide +kernel
theorem d_md_put_62 : decode b_md_put 62 = .ok (.return_, 1) := by decide +kernel
/-- SpaceBasisModel.put(I)V -/
def vc_md_put (md_thrownCode : Int32) (md_p : Int32) (md_n : Int32) (md_order : Int32) (md_monomials : Int32) (md_generators : Int32) (md_found : Int32) (md_upTo : Int32) (md_members : Int32) (md_provedNow : Int32) (md_mono : Nat → Int32) (p0 : Int32) (Q : Int32 → (Nat → Int32) → Prop) : Prop :=
  ∃ (I5_3 : Int32 → (Nat → Int32) → Prop) (mu5_4 : Int32 → (Nat → Int32) → Nat), I5_3 md_monomials md_mono ∧ ∀ (x2_1 : Int32) (md_mono_2 : Nat → Int32), I5_3 x2_1 md_mono_2 → ((((x2_1 ≤ 0) → (vp_in x2_1 126 ∧ ∀ md_mono_7 : Nat → Int32, md_mono_7 = upd md_mono_2 x2_1.toNatClampNeg p0 → ∀ y_9 : Int32, y_9 = (md_monomials + 1) → Q y_9 md_mono_7)) ∧ ((¬ (x2_1 ≤ 0)) → (vp_in (x2_1 - 1) 126 ∧ vc_md_greater md_thrownCode md_p md_n md_order md_monomials md_generators md_found md_upTo md_members md_provedNow (md_mono_2 ((x2_1 - 1)).toNatClampNeg) p0 (fun (r_11 : Int32) => (((r_11 = 0) → (vp_in x2_1 126 ∧ ∀ md_mono_14 : Nat → Int32, md_mono_14 = upd md_mono_2 x2_1.toNatClampNeg p0 → ∀ y_16 : Int32, y_16 = (md_monomials + 1) → Q y_16 md_mono_14)) ∧ ((¬ (r_11 = 0)) → (vp_in (x2_1 - 1) 126 ∧ vp_in x2_1 126 ∧ ∀ md_mono_19 : Nat → Int32, md_mono_19 = upd md_mono_2 x2_1.toNatClampNeg (md_mono_2 ((x2_1 - 1)).toNatClampNeg) → ∀ x2_20 : Int32, x2_20 = x2_1 + (-1) → (I5_3 x2_20 md_mono_19 ∧ mu5_4 x2_20 md_mono_19 < mu5_4 x2_1 md_mono_2)))))))))
abbrev at_md_put (dC : Nat → ClassId) (dI : Nat → Nat → Nat) (cs : Nat → ClassId) (A : Nat → Prop) (ad : Nat → Nat) (md_thrownCode : Int32) (md_p : Int32) (md_n : Int32) (md_order : Int32) (md_generators : Int32) (md_found : Int32) (md_upTo : Int32) (md_members : Int32) (md_provedNow : Int32) (u : Int32 × (Nat → Int32)) (t : State) : Prop := match u with
  | (md_monomials, md_mono) => va_P (dC, dI) vwCl [((ad 0), .inr (8, [.int md_thrownCode, .int md_p, .int md_n, .int md_order, .int md_monomials, .ref (ad 1), .ref (ad 2), .int md_generators, .ref (ad 3), .ref (ad 4), .int md_found, .int md_upTo, .ref (ad 5), .ref (ad 6), .ref (ad 7), .ref (ad 8), .int md_members, .int md_provedNow])), ((ad 1), .inl (cs 0, 126, .inl md_mono))] t.heap ∧ va_D A [((ad 0), .inr (8, [.int md_thrownCode, .int md_p, .int md_n, .int md_order, .int md_monomials, .ref (ad 1), .ref (ad 2), .int md_generators, .ref (ad 3), .ref (ad 4), .int md_found, .int md_upTo, .ref (ad 5), .ref (ad 6), .ref (ad 7), .ref (ad 8), .int md_members, .int md_provedNow])), ((ad 1), .inl (cs 0, 126, .inl md_mono))]
set_option maxHeartbeats 4000000 in
set_option maxRecDepth 100000 in
theorem c_md_put (l : Launch) (dC : Nat → ClassId) (dI : Nat → Nat → Nat) (cs : Nat → ClassId) (ad : Nat → Nat)  (sz : Nat) (md_thrownCode : Int32) (md_p : Int32) (md_n : Int32) (md_order : Int32) (md_monomials : Int32) (md_generators : Int32) (md_found : Int32) (md_upTo : Int32) (md_members : Int32) (md_provedNow : Int32) (md_mono : Nat → Int32) (p0 : Int32) (Q : Int32 → (Nat → Int32) → Prop) (hv : vc_md_put md_thrownCode md_p md_n md_order md_monomials md_generators md_found md_upTo md_members md_provedNow md_mono p0 Q) : Met l y_md_put w_md_put ({ frames := 3, cells := 0, slots := 0, locals := 65 }) (va_Pc [.ref (ad 0), .int p0] (fun U => U.heap.size = sz ∧ va_P (dC, dI) vwCl [((ad 0), .inr (8, [.int md_thrownCode, .int md_p, .int md_n, .int md_order, .int md_monomials, .ref (ad 1), .ref (ad 2), .int md_generators, .ref (ad 3), .ref (ad 4), .int md_found, .int md_upTo, .ref (ad 5), .ref (ad 6), .ref (ad 7), .ref (ad 8), .int md_members, .int md_provedNow])), ((ad 1), .inl (cs 0, 126, .inl md_mono))] U.heap ∧ vwK dC dI cs U ∧ va_D (fun _ => True) [((ad 0), .inr (8, [.int md_thrownCode, .int md_p, .int md_n, .int md_order, .int md_monomials, .ref (ad 1), .ref (ad 2), .int md_generators, .ref (ad 3), .ref (ad 4), .int md_found, .int md_upTo, .ref (ad 5), .ref (ad 6), .ref (ad 7), .ref (ad 8), .int md_members, .int md_provedNow])), ((ad 1), .inl (cs 0, 126, .inl md_mono))])) (va_Qv (fun (u : Int32 × (Nat → Int32)) => Q u.1 u.2) (at_md_put dC dI cs (va_A [((ad 0), .inr (8, [.int md_thrownCode, .int md_p, .int md_n, .int md_order, .int md_monomials, .ref (ad 1), .ref (ad 2), .int md_generators, .ref (ad 3), .ref (ad 4), .int md_found, .int md_upTo, .ref (ad 5), .ref (ad 6), .ref (ad 7), .ref (ad 8), .int md_members, .int md_provedNow])), ((ad 1), .inl (cs 0, 126, .inl md_mono))] sz) ad md_thrownCode md_p md_n md_order md_generators md_found md_upTo md_members md_provedNow) (va_A [((ad 0), .inr (8, [.int md_thrownCode, .int md_p, .int md_n, .int md_order, .int md_monomials, .ref (ad 1), .ref (ad 2), .int md_generators, .ref (ad 3), .ref (ad 4), .int md_found, .int md_upTo, .ref (ad 5), .ref (ad 6), .ref (ad 7), .ref (ad 8), .int md_members, .int md_provedNow])), ((ad 1), .inl (cs 0, 126, .inl md_mono))] sz)) 0 0 (va_A [((ad 0), .inr (8, [.int md_thrownCode, .int md_p, .int md_n, .int md_order, .int md_monomials, .ref (ad 1), .ref (ad 2), .int md_generators, .ref (ad 3), .ref (ad 4), .int md_found, .int md_upTo, .ref (ad 5), .ref (ad 6), .ref (ad 7), .ref (ad 8), .int md_members, .int md_provedNow])), ((ad 1), .inl (cs 0, 126, .inl md_mono))] sz) := by
  unfold vc_md_put at hv
  refine Met.ofW (cc := b_md_put) (maxL := 3) (ret := none) (by decide) rfl ?_
  intro p e s m args below meth c s₁ B hml hpc
  obtain ⟨rfl, hsz, hP, ⟨hK, hN⟩, hD0⟩ := hpc
  have hx := B.exec
  have hb := B.bytes
  have hr := B.returns
  have hts : ∀ w ∈ vwWS, w.before _ s = true := fun w h => atoms_spec (ws := w_md_put) B.pre w (List.mem_cons_of_mem _ h)
  have hown : s.vm.findClass "SpaceBasisModel" = some m.cls := findClass_of_methodNamed B.named
  have hlocks := B.notSynchronized
  subst hsz
  have hD := hD0.self (sz := s.heap.size)
  generalize hAe : va_A [((ad 0), .inr (8, [.int md_thrownCode, .int md_p, .int md_n, .int md_order, .int md_monomials, .ref (ad 1), .ref (ad 2), .int md_generators, .ref (ad 3), .ref (ad 4), .int md_found, .int md_upTo, .ref (ad 5), .ref (ad 6), .ref (ad 7), .ref (ad 8), .int md_members, .int md_provedNow])), ((ad 1), .inl (cs 0, 126, .inl md_mono))] s.heap.size = A at hD ⊢
  have hA : ∀ q : Nat, s.heap.size ≤ q → A q := fun q h => by rw [← hAe]; exact Or.inr h
  have hS : va_S A s.heap s.heap [] := va_S.rf
  have hl := lv_entry ([.ref (ad 0), .int p0]) (n := 3) (Nat.le_of_ble_eq_true rfl)
  rw [lg_entry_eq]
  generalize (lg_sl ([.ref (ad 0), .int p0]) ++ List.replicate (3 - (lg_sl ([.ref (ad 0), .int p0])).length) Slot.unset).toArray = ls at hl ⊢
  have hl : lv_has ls 3 [(0, .ref (ad 0)), (1, .int p0)] := hl
  refine lv_aload_n hx hb d_md_put_0 rfl (lv_at hl 0 rfl) ?_
  refine va_get (D := (dC, dI)) (ci := 8) (v := .int md_monomials) (C := R_md) (T := F_md) (N := 18) hx hb hts in_md hown hK hP 0 rfl rfl 4 (by decide) (hts _ kw_622) (fun _ h9 => h9) rfl d_md_put_1 ?_
  refine lv_istore_n (lv' := [(2, .int md_monomials), (0, .ref (ad 0)), (1, .int p0)]) hx hb d_md_put_4 rfl hl (by decide) rfl (fun ls hl => ?_)
  obtain ⟨I5_3, mu5_4, hi0, hv⟩ := hv
  have hP := hP.sub (ws' := [((ad 0), .inr (8, [.int md_thrownCode, .int md_p, .int md_n, .int md_order, .int md_monomials, .ref (ad 1), .ref (ad 2), .int md_generators, .ref (ad 3), .ref (ad 4), .int md_found, .int md_upTo, .ref (ad 5), .ref (ad 6), .ref (ad 7), .ref (ad 8), .int md_members, .int md_provedNow])), ((ad 1), .inl (cs 0, 126, .inl md_mono))]) [0, 1] rfl
  have hD := hD.sub (ws' := [((ad 0), .inr (8, [.int md_thrownCode, .int md_p, .int md_n, .int md_order, .int md_monomials, .ref (ad 1), .ref (ad 2), .int md_generators, .ref (ad 3), .ref (ad 4), .int md_found, .int md_upTo, .ref (ad 5), .ref (ad 6), .ref (ad 7), .ref (ad 8), .int md_members, .int md_provedNow])), ((ad 1), .inl (cs 0, 126, .inl md_mono))]) [0, 1] (by decide) rfl
  have hl := lv_sub (l' := [(0, .ref (ad 0)), (1, .int p0), (2, .int md_monomials)]) hl [1, 2, 0] rfl
  have loop5 : ∀ (nn : Nat) (x2_1 : Int32) (md_mono_2 : Nat → Int32), mu5_4 x2_1 md_mono_2 < nn → I5_3 x2_1 md_mono_2 → ∀ (H : Heap) (locs : List Loc) (ls : Array Slot), va_P (dC, dI) vwCl [((ad 0), .inr (8, [.int md_thrownCode, .int md_p, .int md_n, .int md_order, .int md_monomials, .ref (ad 1), .ref (ad 2), .int md_generators, .ref (ad 3), .ref (ad 4), .int md_found, .int md_upTo, .ref (ad 5), .ref (ad 6), .ref (ad 7), .ref (ad 8), .int md_members, .int md_provedNow])), ((ad 1), .inl (cs 0, 126, .inl md_mono_2))] H → va_D A [((ad 0), .inr (8, [.int md_thrownCode, .int md_p, .int md_n, .int md_order, .int md_monomials, .ref (ad 1), .ref (ad 2), .int md_generators, .ref (ad 3), .ref (ad 4), .int md_found, .int md_upTo, .ref (ad 5), .ref (ad 6), .ref (ad 7), .ref (ad 8), .int md_members, .int md_provedNow])), ((ad 1), .inl (cs 0, 126, .inl md_mono_2))] → va_S A s.heap H locs → lv_has ls 3 [(0, .ref (ad 0)), (1, .int p0), (2, .int x2_1)] → W p l e (headSpec w_md_put { frames := 3, cells := 0, slots := 0, locals := 65 }).room s m ([.ref (ad 0), .int p0] : List Value).toArray below meth c H locs 0 0 (MQ below (va_Qv (fun (u : Int32 × (Nat → Int32)) => Q u.1 u.2) (at_md_put dC dI cs A ad md_thrownCode md_p md_n md_order md_generators md_found md_upTo md_members md_provedNow) A) ([.ref (ad 0), .int p0] : List Value).toArray s 0 0 A) (F0 m 5 ls []) := by
    intro nn
    induction nn with
    | zero => intro x2_1 md_mono_2 hlt; exact absurd hlt (Nat.not_lt_zero _)
    | succ nn ih5 =>
      intro x2_1 md_mono_2 hlt5 hI H locs ls hP hD hS hl
      have hv := hv x2_1 md_mono_2 hI
      refine lv_iload_n hx hb d_md_put_5 rfl (lv_at hl 2 rfl) ?_
      refine lv_if_le (tgt := 45) hx hb d_md_put_6 (by decide) (fun c_5 => ?_) (fun c_5 => ?_)
      · have hv := hv.1 c_5
        refine lv_aload_n hx hb d_md_put_45 rfl (lv_at hl 0 rfl) ?_
        refine va_get (D := (dC, dI)) (ci := 8) (v := .ref (ad 1)) (C := R_md) (T := F_md) (N := 18) hx hb hts in_md hown hK hP 0 rfl rfl 5 (by decide) (hts _ kw_623) (fun _ h9 => h9) rfl d_md_put_46 ?_
        refine lv_iload_n hx hb d_md_put_49 rfl (lv_at hl 2 rfl) ?_
        refine lv_iload_n hx hb d_md_put_50 rfl (lv_at hl 1 rfl) ?_
        obtain ⟨hi_6, hv⟩ := hv
        refine va_iast hx hb hK hP hD hS 1 0 rfl rfl hi_6 d_md_put_51 (fun H locs hP hD hS => ?_)
        have hP : va_P (dC, dI) vwCl [((ad 0), .inr (8, [.int md_thrownCode, .int md_p, .int md_n, .int md_order, .int md_monomials, .ref (ad 1), .ref (ad 2), .int md_generators, .ref (ad 3), .ref (ad 4), .int md_found, .int md_upTo, .ref (ad 5), .ref (ad 6), .ref (ad 7), .ref (ad 8), .int md_members, .int md_provedNow])), ((ad 1), .inl (cs 0, 126, .inl (upd md_mono_2 x2_1.toNatClampNeg p0)))] H := hP
        have hD : va_D A [((ad 0), .inr (8, [.int md_thrownCode, .int md_p, .int md_n, .int md_order, .int md_monomials, .ref (ad 1), .ref (ad 2), .int md_generators, .ref (ad 3), .ref (ad 4), .int md_found, .int md_upTo, .ref (ad 5), .ref (ad 6), .ref (ad 7), .ref (ad 8), .int md_members, .int md_provedNow])), ((ad 1), .inl (cs 0, 126, .inl (upd md_mono_2 x2_1.toNatClampNeg p0)))] := hD
        generalize emd_mono_7 : upd md_mono_2 x2_1.toNatClampNeg p0 = md_mono_7 at hP hD
        have hv := hv md_mono_7 emd_mono_7.symm
        refine lv_aload_n hx hb d_md_put_52 rfl (lv_at hl 0 rfl) ?_
        refine lv_dup hx hb d_md_put_53 rfl ?_
        refine va_get (D := (dC, dI)) (ci := 8) (v := .int md_monomials) (C := R_md) (T := F_md) (N := 18) hx hb hts in_md hown hK hP 0 rfl rfl 4 (by decide) (hts _ kw_622) (fun _ h9 => h9) rfl d_md_put_54 ?_
        refine lv_iconst (v := 1) hx hb d_md_put_57 (by decide) ?_
        refine lv_iadd hx hb d_md_put_58 ?_
        refine lv_topi (fun y_9 ey_9 => ?_)
        have hv := hv y_9 ey_9
        refine va_put (D := (dC, dI)) (ci := 8) (v := .int y_9) (ty := .int) (C := R_md) (T := F_md) (N := 18) hx hb hts in_md t_md t_md_ok n_md hown hK hP hD hS 0 rfl rfl 4 (by decide) (hts _ kw_622) (fun _ h9 => h9) rfl (by decide +kernel) rfl rfl (Nat.le_of_ble_eq_true rfl) d_md_put_59 (fun H locs hP hD hS => ?_)
        have hP : va_P (dC, dI) vwCl [((ad 0), .inr (8, [.int md_thrownCode, .int md_p, .int md_n, .int md_order, .int y_9, .ref (ad 1), .ref (ad 2), .int md_generators, .ref (ad 3), .ref (ad 4), .int md_found, .int md_upTo, .ref (ad 5), .ref (ad 6), .ref (ad 7), .ref (ad 8), .int md_members, .int md_provedNow])), ((ad 1), .inl (cs 0, 126, .inl md_mono_7))] H := hP
        have hD : va_D A [((ad 0), .inr (8, [.int md_thrownCode, .int md_p, .int md_n, .int md_order, .int y_9, .ref (ad 1), .ref (ad 2), .int md_generators, .ref (ad 3), .ref (ad 4), .int md_found, .int md_upTo, .ref (ad 5), .ref (ad 6), .ref (ad 7), .ref (ad 8), .int md_members, .int md_provedNow])), ((ad 1), .inl (cs 0, 126, .inl md_mono_7))] := hD
        have hP9 := hP.sub (ws' := [((ad 0), .inr (8, [.int md_thrownCode, .int md_p, .int md_n, .int md_order, .int y_9, .ref (ad 1), .ref (ad 2), .int md_generators, .ref (ad 3), .ref (ad 4), .int md_found, .int md_upTo, .ref (ad 5), .ref (ad 6), .ref (ad 7), .ref (ad 8), .int md_members, .int md_provedNow])), ((ad 1), .inl (cs 0, 126, .inl md_mono_7))]) [0, 1] rfl
        have hD9 := hD.sub (ws' := [((ad 0), .inr (8, [.int md_thrownCode, .int md_p, .int md_n, .int md_order, .int y_9, .ref (ad 1), .ref (ad 2), .int md_generators, .ref (ad 3), .ref (ad 4), .int md_found, .int md_upTo, .ref (ad 5), .ref (ad 6), .ref (ad 7), .ref (ad 8), .int md_members, .int md_provedNow])), ((ad 1), .inl (cs 0, 126, .inl md_mono_7))]) [0, 1] (by decide) rfl
        exact W.vret hx hb hr (fun t ht hW => ⟨⟨(y_9, md_mono_7), rfl, hv, by rw [ht]; exact hP9, hD9⟩, hS.F ht⟩) hS.2.2 d_md_put_62
      · have hv := hv.2 c_5
        refine lv_aload_n hx hb d_md_put_9 rfl (lv_at hl 0 rfl) ?_
        refine lv_aload_n hx hb d_md_put_10 rfl (lv_at hl 0 rfl) ?_
        refine va_get (D := (dC, dI)) (ci := 8) (v := .ref (ad 1)) (C := R_md) (T := F_md) (N := 18) hx hb hts in_md hown hK hP 0 rfl rfl 5 (by decide) (hts _ kw_623) (fun _ h9 => h9) rfl d_md_put_11 ?_
        refine lv_iload_n hx hb d_md_put_14 rfl (lv_at hl 2 rfl) ?_
        refine lv_iconst (v := 1) hx hb d_md_put_15 (by decide) ?_
        refine lv_isub hx hb d_md_put_16 ?_
        obtain ⟨hi_10, hv⟩ := hv
        refine va_iald hx hb hK hP 1 0 rfl rfl hi_10 d_md_put_17 ?_
        refine lv_iload_n hx hb d_md_put_18 rfl (lv_at hl 1 rfl) ?_
        have hPc := hP.sub (ws' := [((ad 0), .inr (8, [.int md_thrownCode, .int md_p, .int md_n, .int md_order, .int md_monomials, .ref (ad 1), .ref (ad 2), .int md_generators, .ref (ad 3), .ref (ad 4), .int md_found, .int md_upTo, .ref (ad 5), .ref (ad 6), .ref (ad 7), .ref (ad 8), .int md_members, .int md_provedNow]))]) [0] rfl
        have hDc := hD.sub (ws' := [((ad 0), .inr (8, [.int md_thrownCode, .int md_p, .int md_n, .int md_order, .int md_monomials, .ref (ad 1), .ref (ad 2), .int md_generators, .ref (ad 3), .ref (ad 4), .int md_found, .int md_upTo, .ref (ad 5), .ref (ad 6), .ref (ad 7), .ref (ad 8), .int md_members, .int md_provedNow]))]) [0] (by decide) rfl
        have hFc := va_free (wc := [((ad 0), .inr (8, [.int md_thrownCode, .int md_p, .int md_n, .int md_order, .int md_monomials, .ref (ad 1), .ref (ad 2), .int md_generators, .ref (ad 3), .ref (ad 4), .int md_found, .int md_upTo, .ref (ad 5), .ref (ad 6), .ref (ad 7), .ref (ad 8), .int md_members, .int md_provedNow]))]) hD hS hA [0] rfl
        refine va_calli (va_runV (As := [.int (md_mono_2 ((x2_1 - 1)).toNatClampNeg), .int p0]) (rest := []) ⟨hx, hb, hml, hown, hts⟩ (c_md_greater l dC dI cs ad  H.size md_thrownCode md_p md_n md_order md_monomials md_generators md_found md_upTo md_members md_provedNow (md_mono_2 ((x2_1 - 1)).toNatClampNeg) p0 _ hv) (cwV 2 hts (gd_V kw_609 kw_610 kw_19 kw_41 kw_611) rfl rfl rfl (by decide +kernel) ⟨Nat.le_of_ble_eq_true rfl, Nat.le_of_ble_eq_true rfl⟩) ⟨fun a U g mk q => by obtain ⟨q0, q1, qP, qK, qD⟩ := q; exact ⟨q0, q1, qP, qK.call, qD⟩, va_recv hK hPc (ci := 8) (q0 := 0) rfl rfl, fun U hU hW => ⟨rfl, by rw [hU], by rw [hU]; exact hPc, vwK.warm hW ⟨hK, hN⟩, hDc.weaken (fun _ _ _ _ => trivial)⟩⟩ rfl rfl hl.1 rfl (lv_room (Nat.le_of_ble_eq_true rfl)) d_md_put_19 ⟨Nat.zero_le _, Nat.zero_le _⟩) hS (fun q _ h => hFc q h) hFc (fun r_11 _u t H1 locs1 ht hvm hw hB hz1 hk1 hS => ?_)
        obtain ⟨hP1, hD1⟩ := hB
        rw [ht] at hP1
        obtain ⟨hP, hD⟩ := va_join (wr := [((ad 1), .inl (cs 0, 126, .inl md_mono_2))]) (w1 := [((ad 0), .inr (8, [.int md_thrownCode, .int md_p, .int md_n, .int md_order, .int md_monomials, .ref (ad 1), .ref (ad 2), .int md_generators, .ref (ad 3), .ref (ad 4), .int md_found, .int md_upTo, .ref (ad 5), .ref (ad 6), .ref (ad 7), .ref (ad 8), .int md_members, .int md_provedNow]))]) hP hD [0] [1] rfl rfl (by decide) (by decide) hk1 hFc hP1 hD1
        generalize H1 = H at hP hS ⊢
        generalize locs1 = locs at hS ⊢
        have hP : va_P (dC, dI) vwCl [((ad 1), .inl (cs 0, 126, .inl md_mono_2)), ((ad 0), .inr (8, [.int md_thrownCode, .int md_p, .int md_n, .int md_order, .int md_monomials, .ref (ad 1), .ref (ad 2), .int md_generators, .ref (ad 3), .ref (ad 4), .int md_found, .int md_upTo, .ref (ad 5), .ref (ad 6), .ref (ad 7), .ref (ad 8), .int md_members, .int md_provedNow]))] H := hP
        have hD : va_D A [((ad 1), .inl (cs 0, 126, .inl md_mono_2)), ((ad 0), .inr (8, [.int md_thrownCode, .int md_p, .int md_n, .int md_order, .int md_monomials, .ref (ad 1), .ref (ad 2), .int md_generators, .ref (ad 3), .ref (ad 4), .int md_found, .int md_upTo, .ref (ad 5), .ref (ad 6), .ref (ad 7), .ref (ad 8), .int md_members, .int md_provedNow]))] := hD
        have hv := hw
        try dsimp only at hv
        refine lv_if_eq (tgt := 45) hx hb d_md_put_22 (by decide) (fun c_12 => ?_) (fun c_12 => ?_)
        · have hv := hv.1 c_12
          refine lv_aload_n hx hb d_md_put_45 rfl (lv_at hl 0 rfl) ?_
          refine va_get (D := (dC, dI)) (ci := 8) (v := .ref (ad 1)) (C := R_md) (T := F_md) (N := 18) hx hb hts in_md hown hK hP 1 rfl rfl 5 (by decide) (hts _ kw_623) (fun _ h9 => h9) rfl d_md_put_46 ?_
          refine lv_iload_n hx hb d_md_put_49 rfl (lv_at hl 2 rfl) ?_
          refine lv_iload_n hx hb d_md_put_50 rfl (lv_at hl 1 rfl) ?_
          obtain ⟨hi_13, hv⟩ := hv
          refine va_iast hx hb hK hP hD hS 0 0 rfl rfl hi_13 d_md_put_51 (fun H locs hP hD hS => ?_)
          have hP : va_P (dC, dI) vwCl [((ad 1), .inl (cs 0, 126, .inl (upd md_mono_2 x2_1.toNatClampNeg p0))), ((ad 0), .inr (8, [.int md_thrownCode, .int md_p, .int md_n, .int md_order, .int md_monomials, .ref (ad 1), .ref (ad 2), .int md_generators, .ref (ad 3), .ref (ad 4), .int md_found, .int md_upTo, .ref (ad 5), .ref (ad 6), .ref (ad 7), .ref (ad 8), .int md_members, .int md_provedNow]))] H := hP
          have hD : va_D A [((ad 1), .inl (cs 0, 126, .inl (upd md_mono_2 x2_1.toNatClampNeg p0))), ((ad 0), .inr (8, [.int md_thrownCode, .int md_p, .int md_n, .int md_order, .int md_monomials, .ref (ad 1), .ref (ad 2), .int md_generators, .ref (ad 3), .ref (ad 4), .int md_found, .int md_upTo, .ref (ad 5), .ref (ad 6), .ref (ad 7), .ref (ad 8), .int md_members, .int md_provedNow]))] := hD
          generalize emd_mono_14 : upd md_mono_2 x2_1.toNatClampNeg p0 = md_mono_14 at hP hD
          have hv := hv md_mono_14 emd_mono_14.symm
          refine lv_aload_n hx hb d_md_put_52 rfl (lv_at hl 0 rfl) ?_
          refine lv_dup hx hb d_md_put_53 rfl ?_
          refine va_get (D := (dC, dI)) (ci := 8) (v := .int md_monomials) (C := R_md) (T := F_md) (N := 18) hx hb hts in_md hown hK hP 1 rfl rfl 4 (by decide) (hts _ kw_622) (fun _ h9 => h9) rfl d_md_put_54 ?_
          refine lv_iconst (v := 1) hx hb d_md_put_57 (by decide) ?_
          refine lv_iadd hx hb d_md_put_58 ?_
          refine lv_topi (fun y_16 ey_16 => ?_)
          have hv := hv y_16 ey_16
          refine va_put (D := (dC, dI)) (ci := 8) (v := .int y_16) (ty := .int) (C := R_md) (T := F_md) (N := 18) hx hb hts in_md t_md t_md_ok n_md hown hK hP hD hS 1 rfl rfl 4 (by decide) (hts _ kw_622) (fun _ h9 => h9) rfl (by decide +kernel) rfl rfl (Nat.le_of_ble_eq_true rfl) d_md_put_59 (fun H locs hP hD hS => ?_)
          have hP : va_P (dC, dI) vwCl [((ad 1), .inl (cs 0, 126, .inl md_mono_14)), ((ad 0), .inr (8, [.int md_thrownCode, .int md_p, .int md_n, .int md_order, .int y_16, .ref (ad 1), .ref (ad 2), .int md_generators, .ref (ad 3), .ref (ad 4), .int md_found, .int md_upTo, .ref (ad 5), .ref (ad 6), .ref (ad 7), .ref (ad 8), .int md_members, .int md_provedNow]))] H := hP
          have hD : va_D A [((ad 1), .inl (cs 0, 126, .inl md_mono_14)), ((ad 0), .inr (8, [.int md_thrownCode, .int md_p, .int md_n, .int md_order, .int y_16, .ref (ad 1), .ref (ad 2), .int md_generators, .ref (ad 3), .ref (ad 4), .int md_found, .int md_upTo, .ref (ad 5), .ref (ad 6), .ref (ad 7), .ref (ad 8), .int md_members, .int md_provedNow]))] := hD
          have hP9 := hP.sub (ws' := [((ad 0), .inr (8, [.int md_thrownCode, .int md_p, .int md_n, .int md_order, .int y_16, .ref (ad 1), .ref (ad 2), .int md_generators, .ref (ad 3), .ref (ad 4), .int md_found, .int md_upTo, .ref (ad 5), .ref (ad 6), .ref (ad 7), .ref (ad 8), .int md_members, .int md_provedNow])), ((ad 1), .inl (cs 0, 126, .inl md_mono_14))]) [1, 0] rfl
          have hD9 := hD.sub (ws' := [((ad 0), .inr (8, [.int md_thrownCode, .int md_p, .int md_n, .int md_order, .int y_16, .ref (ad 1), .ref (ad 2), .int md_generators, .ref (ad 3), .ref (ad 4), .int md_found, .int md_upTo, .ref (ad 5), .ref (ad 6), .ref (ad 7), .ref (ad 8), .int md_members, .int md_provedNow])), ((ad 1), .inl (cs 0, 126, .inl md_mono_14))]) [1, 0] (by decide) rfl
          exact W.vret hx hb hr (fun t ht hW => ⟨⟨(y_16, md_mono_14), rfl, hv, by rw [ht]; exact hP9, hD9⟩, hS.F ht⟩) hS.2.2 d_md_put_62
        · have hv := hv.2 c_12
          refine lv_aload_n hx hb d_md_put_25 rfl (lv_at hl 0 rfl) ?_
          refine va_get (D := (dC, dI)) (ci := 8) (v := .ref (ad 1)) (C := R_md) (T := F_md) (N := 18) hx hb hts in_md hown hK hP 1 rfl rfl 5 (by decide) (hts _ kw_623) (fun _ h9 => h9) rfl d_md_put_26 ?_
          refine lv_iload_n hx hb d_md_put_29 rfl (lv_at hl 2 rfl) ?_
          refine lv_aload_n hx hb d_md_put_30 rfl (lv_at hl 0 rfl) ?_
          refine va_get (D := (dC, dI)) (ci := 8) (v := .ref (ad 1)) (C := R_md) (T := F_md) (N := 18) hx hb hts in_md hown hK hP 1 rfl rfl 5 (by decide) (hts _ kw_623) (fun _ h9 => h9) rfl d_md_put_31 ?_
          refine lv_iload_n hx hb d_md_put_34 rfl (lv_at hl 2 rfl) ?_
          refine lv_iconst (v := 1) hx hb d_md_put_35 (by decide) ?_
          refine lv_isub hx hb d_md_put_36 ?_
          obtain ⟨hi_17, hv⟩ := hv
          refine va_iald hx hb hK hP 0 0 rfl rfl hi_17 d_md_put_37 ?_
          obtain ⟨hi_18, hv⟩ := hv
          refine va_iast hx hb hK hP hD hS 0 0 rfl rfl hi_18 d_md_put_38 (fun H locs hP hD hS => ?_)
          have hP : va_P (dC, dI) vwCl [((ad 1), .inl (cs 0, 126, .inl (upd md_mono_2 x2_1.toNatClampNeg (md_mono_2 ((x2_1 - 1)).toNatClampNeg)))), ((ad 0), .inr (8, [.int md_thrownCode, .int md_p, .int md_n, .int md_order, .int md_monomials, .ref (ad 1), .ref (ad 2), .int md_generators, .ref (ad 3), .ref (ad 4), .int md_found, .int md_upTo, .ref (ad 5), .ref (ad 6), .ref (ad 7), .ref (ad 8), .int md_members, .int md_provedNow]))] H := hP
          have hD : va_D A [((ad 1), .inl (cs 0, 126, .inl (upd md_mono_2 x2_1.toNatClampNeg (md_mono_2 ((x2_1 - 1)).toNatClampNeg)))), ((ad 0), .inr (8, [.int md_thrownCode, .int md_p, .int md_n, .int md_order, .int md_monomials, .ref (ad 1), .ref (ad 2), .int md_generators, .ref (ad 3), .ref (ad 4), .int md_found, .int md_upTo, .ref (ad 5), .ref (ad 6), .ref (ad 7), .ref (ad 8), .int md_members, .int md_provedNow]))] := hD
          generalize emd_mono_19 : upd md_mono_2 x2_1.toNatClampNeg (md_mono_2 ((x2_1 - 1)).toNatClampNeg) = md_mono_19 at hP hD
          have hv := hv md_mono_19 emd_mono_19.symm
          obtain ⟨x2_20, ex2_20⟩ : ∃ y : Int32, y = x2_1 + (-1) := ⟨_, rfl⟩
          have hv := hv x2_20 ex2_20
          refine lv_iinc (v := x2_20) (lv' := [(2, .int x2_20), (0, .ref (ad 0)), (1, .int p0)]) hx hb d_md_put_39 hl (k := 2) rfl (by rw [ex2_20]; rfl) (by decide) rfl (fun ls hl => ?_)
          refine lv_goto (tgt := 5) hx hb d_md_put_42 (by decide) ?_
          exact ih5 x2_20 md_mono_19 (Nat.lt_of_lt_of_le hv.2 (Nat.le_of_lt_succ hlt5)) hv.1 _ _ _ (hP.sub [1, 0] rfl) (hD.sub [1, 0] (by decide) rfl) hS (lv_sub hl [1, 2, 0] rfl)
  exact loop5 _ md_monomials md_mono (Nat.lt_succ_self _) hi0 _ _ _ hP hD hS hl
abbrev b_md_placeOf : ByteArray := prog_10_method_8_code
def y_md_placeOf : MethodName := ⟨"SpaceBasisModel", "placeOf", "(I)I"⟩
def w_md_placeOf : List Cond := Cond.code y_md_placeOf b_md_placeOf 3 (some .int) :: vwWS
theorem d_md_placeOf_0 : decode b_md_placeOf 0 = .ok (.iconst 0, 1) := by decide +kernel
theorem d_md_placeOf_1 : decode b_md_placeOf 1 = .ok (.istore_n 2, 1) := by decide +kernel
theorem d_md_placeOf_2 : decode b_md_placeOf 2 = .ok (.iload_n 2, 1) := by decide +kernel
theorem d_md_placeOf_3 : decode b_md_placeOf 3 = .ok (.aload_n 0, 1) := by decide +kernel
theorem d_md_placeOf_4 : decode b_md_placeOf 4 = .ok (.getfield 22, 3) := by decide +kernel
theorem d_md_placeOf_7 : decode b_md_placeOf 7 = .ok (.if_icmp .ge 21, 3) := by decide +kernel
theorem d_md_placeOf_10 : decode b_md_placeOf 10 = .ok (.aload_n 0, 1) := by decide +kernel
theorem d_md_placeOf_11 : decode b_md_placeOf 11 = .ok (.getfield 25, 3) := by decide +kernel
theorem d_md_placeOf_14 : decode b_md_placeOf 14 = .ok (.iload_n 2, 1) := by decide +kernel
theorem d_md_placeOf_15 : decode b_md_placeOf 15 = .ok (.iaload, 1) := by decide +kernel
theorem d_md_placeOf_16 : decode b_md_placeOf 16 = .ok (.iload_n 1, 1) := by decide +kernel
theorem d_md_placeOf_17 : decode b_md_placeOf 17 = .ok (.if_icmp .ne 5, 3) := by decide +kernel
theorem d_md_placeOf_20 : decode b_md_placeOf 20 = .ok (.iload_n 2, 1) := by decide +kernel
theorem d_md_placeOf_21 : decode b_md_placeOf 21 = .ok (.ireturn, 1) := by decide +kernel
theorem d_md_placeOf_22 : decode b_md_placeOf 22 = .ok (.iinc 2 1, 3) := by decide +kernel
theorem d_md_placeOf_25 : decode b_md_placeOf 25 = .ok (.goto (-23), 3) := by decide +kernel
theorem d_md_placeOf_28 : decode b_md_placeOf 28 = .ok (.iconst (-1), 1) := by decide +kernel
theorem d_md_placeOf_29 : decode b_md_placeOf 29 = .ok (.ireturn, 1) := by decide +kernel
/-- SpaceBasisModel.placeOf(I)I -/
def vc_md_placeOf (md_thrownCode : Int32) (md_p : Int32) (md_n : Int32) (md_order : Int32) (md_monomials : Int32) (md_generators : Int32) (md_found : Int32) (md_upTo : Int32) (md_members : Int32) (md_provedNow : Int32) (md_mono : Nat → Int32) (p0 : Int32) (Q : Int32 → Prop) : Prop :=
  ∃ (I2_2 : Int32 → Prop) (mu2_3 : Int32 → Nat), I2_2 0 ∧ ∀ (x2_1 : Int32), I2_2 x2_1 → ((((md_monomials ≤ x2_1) → (Q (-1))) ∧ ((¬ (md_monomials ≤ x2_1)) → (vp_in x2_1 126 ∧ (((¬ ((md_mono x2_1.toNatClampNeg) = p0)) → (∀ x2_7 : Int32, x2_7 = x2_1 + 1 → (I2_2 x2_7 ∧ mu2_3 x2_7 < mu2_3 x2_1))) ∧ (((md_mono x2_1.toNatClampNeg) = p0) → (Q x2_1)))))))
abbrev at_md_placeOf (dC : Nat → ClassId) (dI : Nat → Nat → Nat) (cs : Nat → ClassId) (A : Nat → Prop) (ad : Nat → Nat) (md_thrownCode : Int32) (md_p : Int32) (md_n : Int32) (md_order : Int32) (md_monomials : Int32) (md_generators : Int32) (md_found : Int32) (md_upTo : Int32) (md_members : Int32) (md_provedNow : Int32) (md_mono : Nat → Int32) (u : Unit) (t : State) : Prop := match u with
  | _ => va_P (dC, dI) vwCl [((ad 0), .inr (8, [.int md_thrownCode, .int md_p, .int md_n, .int md_order, .int md_monomials, .ref (ad 1), .ref (ad 2), .int md_generators, .ref (ad 3), .ref (ad 4), .int md_found, .int md_upTo, .ref (ad 5), .ref (ad 6), .ref (ad 7), .ref (ad 8), .int md_members, .int md_provedNow])), ((ad 1), .inl (cs 0, 126, .inl md_mono))] t.heap ∧ va_D A [((ad 0), .inr (8, [.int md_thrownCode, .int md_p, .int md_n, .int md_order, .int md_monomials, .ref (ad 1), .ref (ad 2), .int md_generators, .ref (ad 3), .ref (ad 4), .int md_found, .int md_upTo, .ref (ad 5), .ref (ad 6), .ref (ad 7), .ref (ad 8), .int md_members, .int md_provedNow])), ((ad 1), .inl (cs 0, 126, .inl md_mono))]
set_option maxHeartbeats 4000000 in
set_option maxRecDepth 100000 in
theorem c_md_placeOf (l : Launch) (dC : Nat → ClassId) (dI : Nat → Nat → Nat) (cs : Nat → ClassId) (ad : Nat → Nat)  (sz : Nat) (md_thrownCode : Int32) (md_p : Int32) (md_n : Int32) (md_order : Int32) (md_monomials : Int32) (md_generators : Int32) (md_found : Int32) (md_upTo : Int32) (md_members : Int32) (md_provedNow : Int32) (md_mono : Nat → Int32) (p0 : Int32) (Q : Int32 → Prop) (hv : vc_md_placeOf md_thrownCode md_p md_n md_order md_monomials md_generators md_found md_upTo md_members md_provedNow md_mono p0 Q) : Met l y_md_placeOf w_md_placeOf ({ frames := 0, cells := 0, slots := 0, locals := 0 }) (va_Pc [.ref (ad 0), .int p0] (fun U => U.heap.size = sz ∧ va_P (dC, dI) vwCl [((ad 0), .inr (8, [.int md_thrownCode, .int md_p, .int md_n, .int md_order, .int md_monomials, .ref (ad 1), .ref (ad 2), .int md_generators, .ref (ad 3), .ref (ad 4), .int md_found, .int md_upTo, .ref (ad 5), .ref (ad 6), .ref (ad 7), .ref (ad 8), .int md_members, .int md_provedNow])), ((ad 1), .inl (cs 0, 126, .inl md_mono))] U.heap ∧ vwK dC dI cs U ∧ va_D (fun _ => True) [((ad 0), .inr (8, [.int md_thrownCode, .int md_p, .int md_n, .int md_order, .int md_monomials, .ref (ad 1), .ref (ad 2), .int md_generators, .ref (ad 3), .ref (ad 4), .int md_found, .int md_upTo, .ref (ad 5), .ref (ad 6), .ref (ad 7), .ref (ad 8), .int md_members, .int md_provedNow])), ((ad 1), .inl (cs 0, 126, .inl md_mono))])) (va_Qi (fun (r : Int32) (u : Unit) => Q r) (at_md_placeOf dC dI cs (va_A [((ad 0), .inr (8, [.int md_thrownCode, .int md_p, .int md_n, .int md_order, .int md_monomials, .ref (ad 1), .ref (ad 2), .int md_generators, .ref (ad 3), .ref (ad 4), .int md_found, .int md_upTo, .ref (ad 5), .ref (ad 6), .ref (ad 7), .ref (ad 8), .int md_members, .int md_provedNow])), ((ad 1), .inl (cs 0, 126, .inl md_mono))] sz) ad md_thrownCode md_p md_n md_order md_monomials md_generators md_found md_upTo md_members md_provedNow md_mono) (va_A [((ad 0), .inr (8, [.int md_thrownCode, .int md_p, .int md_n, .int md_order, .int md_monomials, .ref (ad 1), .ref (ad 2), .int md_generators, .ref (ad 3), .ref (ad 4), .int md_found, .int md_upTo, .ref (ad 5), .ref (ad 6), .ref (ad 7), .ref (ad 8), .int md_members, .int md_provedNow])), ((ad 1), .inl (cs 0, 126, .inl md_mono))] sz)) 0 0 (va_A [((ad 0), .inr (8, [.int md_thrownCode, .int md_p, .int md_n, .int md_order, .int md_monomials, .ref (ad 1), .ref (ad 2), .int md_generators, .ref (ad 3), .ref (ad 4), .int md_found, .int md_upTo, .ref (ad 5), .ref (ad 6), .ref (ad 7), .ref (ad 8), .int md_members, .int md_provedNow])), ((ad 1), .inl (cs 0, 126, .inl md_mono))] sz) := by
  unfold vc_md_placeOf at hv
  refine Met.ofW (cc := b_md_placeOf) (maxL := 3) (ret := (some .int)) (by decide) rfl ?_
  intro p e s m args below meth c s₁ B hml hpc
  obtain ⟨rfl, hsz, hP, ⟨hK, hN⟩, hD0⟩ := hpc
  have hx := B.exec
  have hb := B.bytes
  have hr := B.returns
  have hts : ∀ w ∈ vwWS, w.before _ s = true := fun w h => atoms_spec (ws := w_md_placeOf) B.pre w (List.mem_cons_of_mem _ h)
  have hown : s.vm.findClass "SpaceBasisModel" = some m.cls := findClass_of_methodNamed B.named
  have hlocks := B.notSynchronized
  subst hsz
  have hD := hD0.self (sz := s.heap.size)
  generalize hAe : va_A [((ad 0), .inr (8, [.int md_thrownCode, .int md_p, .int md_n, .int md_order, .int md_monomials, .ref (ad 1), .ref (ad 2), .int md_generators, .ref (ad 3), .ref (ad 4), .int md_found, .int md_upTo, .ref (ad 5), .ref (ad 6), .ref (ad 7), .ref (ad 8), .int md_members, .int md_provedNow])), ((ad 1), .inl (cs 0, 126, .inl md_mono))] s.heap.size = A at hD ⊢
  have hA : ∀ q : Nat, s.heap.size ≤ q → A q := fun q h => by rw [← hAe]; exact Or.inr h
  have hS : va_S A s.heap s.heap [] := va_S.rf
  have hl := lv_entry ([.ref (ad 0), .int p0]) (n := 3) (Nat.le_of_ble_eq_true rfl)
  rw [lg_entry_eq]
  generalize (lg_sl ([.ref (ad 0), .int p0]) ++ List.replicate (3 - (lg_sl ([.ref (ad 0), .int p0])).length) Slot.unset).toArray = ls at hl ⊢
  have hl : lv_has ls 3 [(0, .ref (ad 0)), (1, .int p0)] := hl
  refine lv_iconst (v := 0) hx hb d_md_placeOf_0 (by decide) ?_
  refine lv_istore_n (lv' := [(2, .int 0), (0, .ref (ad 0)), (1, .int p0)]) hx hb d_md_placeOf_1 rfl hl (by decide) rfl (fun ls hl => ?_)
  obtain ⟨I2_2, mu2_3, hi0, hv⟩ := hv
  have hP := hP.sub (ws' := [((ad 0), .inr (8, [.int md_thrownCode, .int md_p, .int md_n, .int md_order, .int md_monomials, .ref (ad 1), .ref (ad 2), .int md_generators, .ref (ad 3), .ref (ad 4), .int md_found, .int md_upTo, .ref (ad 5), .ref (ad 6), .ref (ad 7), .ref (ad 8), .int md_members, .int md_provedNow])), ((ad 1), .inl (cs 0, 126, .inl md_mono))]) [0, 1] rfl
  have hD := hD.sub (ws' := [((ad 0), .inr (8, [.int md_thrownCode, .int md_p, .int md_n, .int md_order, .int md_monomials, .ref (ad 1), .ref (ad 2), .int md_generators, .ref (ad 3), .ref (ad 4), .int md_found, .int md_upTo, .ref (ad 5), .ref (ad 6), .ref (ad 7), .ref (ad 8), .int md_members, .int md_provedNow])), ((ad 1), .inl (cs 0, 126, .inl md_mono))]) [0, 1] (by decide) rfl
  have hl := lv_sub (l' := [(0, .ref (ad 0)), (1, .int p0), (2, .int 0)]) hl [1, 2, 0] rfl
  have loop2 : ∀ (nn : Nat) (x2_1 : Int32), mu2_3 x2_1 < nn → I2_2 x2_1 → ∀ (H : Heap) (locs : List Loc) (ls : Array Slot), va_P (dC, dI) vwCl [((ad 0), .inr (8, [.int md_thrownCode, .int md_p, .int md_n, .int md_order, .int md_monomials, .ref (ad 1), .ref (ad 2), .int md_generators, .ref (ad 3), .ref (ad 4), .int md_found, .int md_upTo, .ref (ad 5), .ref (ad 6), .ref (ad 7), .ref (ad 8), .int md_members, .int md_provedNow])), ((ad 1), .inl (cs 0, 126, .inl md_mono))] H → va_D A [((ad 0), .inr (8, [.int md_thrownCode, .int md_p, .int md_n, .int md_order, .int md_monomials, .ref (ad 1), .ref (ad 2), .int md_generators, .ref (ad 3), .ref (ad 4), .int md_found, .int md_upTo, .ref (ad 5), .ref (ad 6), .ref (ad 7), .ref (ad 8), .int md_members, .int md_provedNow])), ((ad 1), .inl (cs 0, 126, .inl md_mono))] → va_S A s.heap H locs → lv_has ls 3 [(0, .ref (ad 0)), (1, .int p0), (2, .int x2_1)] → W p l e (headSpec w_md_placeOf { frames := 0, cells := 0, slots := 0, locals := 0 }).room s m ([.ref (ad 0), .int p0] : List Value).toArray below meth c H locs 0 0 (MQ below (va_Qi (fun (r : Int32) (u : Unit) => Q r) (at_md_placeOf dC dI cs A ad md_thrownCode md_p md_n md_order md_monomials md_generators md_found md_upTo md_members md_provedNow md_mono) A) ([.ref (ad 0), .int p0] : List Value).toArray s 0 0 A) (F0 m 2 ls []) := by
    intro nn
    induction nn with
    | zero => intro x2_1 hlt; exact absurd hlt (Nat.not_lt_zero _)
    | succ nn ih2 =>
      intro x2_1 hlt2 hI H locs ls hP hD hS hl
      have hv := hv x2_1 hI
      refine lv_iload_n hx hb d_md_placeOf_2 rfl (lv_at hl 2 rfl) ?_
      refine lv_aload_n hx hb d_md_placeOf_3 rfl (lv_at hl 0 rfl) ?_
      refine va_get (D := (dC, dI)) (ci := 8) (v := .int md_monomials) (C := R_md) (T := F_md) (N := 18) hx hb hts in_md hown hK hP 0 rfl rfl 4 (by decide) (hts _ kw_622) (fun _ h9 => h9) rfl d_md_placeOf_4 ?_
      refine lv_icmp_ge (tgt := 28) hx hb d_md_placeOf_7 (by decide) (fun c_4 => ?_) (fun c_4 => ?_)
      · have hv := hv.1 c_4
        refine lv_iconst (v := (-1)) hx hb d_md_placeOf_28 (by decide) ?_
        have hP9 := hP.sub (ws' := [((ad 0), .inr (8, [.int md_thrownCode, .int md_p, .int md_n, .int md_order, .int md_monomials, .ref (ad 1), .ref (ad 2), .int md_generators, .ref (ad 3), .ref (ad 4), .int md_found, .int md_upTo, .ref (ad 5), .ref (ad 6), .ref (ad 7), .ref (ad 8), .int md_members, .int md_provedNow])), ((ad 1), .inl (cs 0, 126, .inl md_mono))]) [0, 1] rfl
        have hD9 := hD.sub (ws' := [((ad 0), .inr (8, [.int md_thrownCode, .int md_p, .int md_n, .int md_order, .int md_monomials, .ref (ad 1), .ref (ad 2), .int md_generators, .ref (ad 3), .ref (ad 4), .int md_found, .int md_upTo, .ref (ad 5), .ref (ad 6), .ref (ad 7), .ref (ad 8), .int md_members, .int md_provedNow])), ((ad 1), .inl (cs 0, 126, .inl md_mono))]) [0, 1] (by decide) rfl
        exact W.iret (v := (-1)) hx hb hr (fun t ht hW => ⟨⟨(-1), (), rfl, hv, by rw [ht]; exact hP9, hD9⟩, hS.F ht⟩) hS.2.2 d_md_placeOf_29
      · have hv := hv.2 c_4
        refine lv_aload_n hx hb d_md_placeOf_10 rfl (lv_at hl 0 rfl) ?_
        refine va_get (D := (dC, dI)) (ci := 8) (v := .ref (ad 1)) (C := R_md) (T := F_md) (N := 18) hx hb hts in_md hown hK hP 0 rfl rfl 5 (by decide) (hts _ kw_623) (fun _ h9 => h9) rfl d_md_placeOf_11 ?_
        refine lv_iload_n hx hb d_md_placeOf_14 rfl (lv_at hl 2 rfl) ?_
        obtain ⟨hi_5, hv⟩ := hv
        refine va_iald hx hb hK hP 1 0 rfl rfl hi_5 d_md_placeOf_15 ?_
        refine lv_iload_n hx hb d_md_placeOf_16 rfl (lv_at hl 1 rfl) ?_
        refine lv_icmp_ne (tgt := 22) hx hb d_md_placeOf_17 (by decide) (fun c_6 => ?_) (fun c_6 => ?_)
        · have hv := hv.1 c_6
          obtain ⟨x2_7, ex2_7⟩ : ∃ y : Int32, y = x2_1 + 1 := ⟨_, rfl⟩
          have hv := hv x2_7 ex2_7
          refine lv_iinc (v := x2_7) (lv' := [(2, .int x2_7), (0, .ref (ad 0)), (1, .int p0)]) hx hb d_md_placeOf_22 hl (k := 2) rfl (by rw [ex2_7]; rfl) (by decide) rfl (fun ls hl => ?_)
          refine lv_goto (tgt := 2) hx hb d_md_placeOf_25 (by decide) ?_
          exact ih2 x2_7 (Nat.lt_of_lt_of_le hv.2 (Nat.le_of_lt_succ hlt2)) hv.1 _ _ _ (hP.sub [0, 1] rfl) (hD.sub [0, 1] (by decide) rfl) hS (lv_sub hl [1, 2, 0] rfl)
        · have hv := hv.2 c_6
          refine lv_iload_n hx hb d_md_placeOf_20 rfl (lv_at hl 2 rfl) ?_
          have hP9 := hP.sub (ws' := [((ad 0), .inr (8, [.int md_thrownCode, .int md_p, .int md_n, .int md_order, .int md_monomials, .ref (ad 1), .ref (ad 2), .int md_generators, .ref (ad 3), .ref (ad 4), .int md_found, .int md_upTo, .ref (ad 5), .ref (ad 6), .ref (ad 7), .ref (ad 8), .int md_members, .int md_provedNow])), ((ad 1), .inl (cs 0, 126, .inl md_mono))]) [0, 1] rfl
          have hD9 := hD.sub (ws' := [((ad 0), .inr (8, [.int md_thrownCode, .int md_p, .int md_n, .int md_order, .int md_monomials, .ref (ad 1), .ref (ad 2), .int md_generators, .ref (ad 3), .ref (ad 4), .int md_found, .int md_upTo, .ref (ad 5), .ref (ad 6), .ref (ad 7), .ref (ad 8), .int md_members, .int md_provedNow])), ((ad 1), .inl (cs 0, 126, .inl md_mono))]) [0, 1] (by decide) rfl
          exact W.iret (v := x2_1) hx hb hr (fun t ht hW => ⟨⟨x2_1, (), rfl, hv, by rw [ht]; exact hP9, hD9⟩, hS.F ht⟩) hS.2.2 d_md_placeOf_21
  exact loop2 _ 0 (Nat.lt_succ_self _) hi0 _ _ _ hP hD hS hl
abbrev b_md_inverse : ByteArray := prog_10_method_9_code
def y_md_inverse : MethodName := ⟨"SpaceBasisModel", "inverse", "(I)I"⟩
def w_md_inverse : List Cond := Cond.code y_md_inverse b_md_inverse 7 (some .int) :: vwWS
theorem d_md_inverse_0 : decode b_md_inverse 0 = .ok (.lconst 1, 1) := by decide +kernel
theorem d_md_inverse_1 : decode b_md_inverse 1 = .ok (.lstore_n 2, 1) := by decide +kernel
theorem d_md_inverse_2 : decode b_md_inverse 2 = .ok (.iload_n 1, 1) := by decide +kernel
theorem d_md_inverse_3 : decode b_md_inverse 3 = .ok (.i2l, 1) := by decide +kernel
theorem d_md_inverse_4 : decode b_md_inverse 4 = .ok (.lstore 4, 2) := by decide +kernel
theorem d_md_inverse_6 : decode b_md_inverse 6 = .ok (.aload_n 0, 1) := by decide +kernel
theorem d_md_inverse_7 : decode b_md_inverse 7 = .ok (.getfield 13, 3) := by decide +kernel
theorem d_md_inverse_10 : decode b_md_inverse 10 = .ok (.iconst 2, 1) := by decide +kernel
theorem d_md_inverse_11 : decode b_md_inverse 11 = .ok (.isub, 1) := by decide +kernel
theorem d_md_inverse_12 : decode b_md_inverse 12 = .ok (.istore 6, 2) := by decide +kernel
theorem d_md_inverse_14 : decode b_md_inverse 14 = .ok (.iload 6, 2) := by decide +kernel
theorem d_md_inverse_16 : decode b_md_inverse 16 = .ok (.ifCond .le 44, 3) := by decide +kernel
theorem d_md_inverse_19 : decode b_md_inverse 19 = .ok (.iload 6, 2) := by decide +kernel
theorem d_md_inverse_21 : decode b_md_inverse 21 = .ok (.iconst 1, 1) := by decide +kernel
theorem d_md_inverse_22 : decode b_md_inverse 22 = .ok (.iand, 1) := by decide +kernel
theorem d_md_inverse_23 : decode b_md_inverse 23 = .ok (.iconst 1, 1) := by decide +kernel
theorem d_md_inverse_24 : decode b_md_inverse 24 = .ok (.if_icmp .ne 14, 3) := by decide +kernel
theorem d_md_inverse_27 : decode b_md_inverse 27 = .ok (.lload_n 2, 1) := by decide +kernel
theorem d_md_inverse_28 : decode b_md_inverse 28 = .ok (.lload 4, 2) := by decide +kernel
theorem d_md_inverse_30 : decode b_md_inverse 30 = .ok (.lmul, 1) := by decide +kernel
theorem d_md_inverse_31 : decode b_md_inverse 31 = .ok (.aload_n 0, 1) := by decide +kernel
theorem d_md_inverse_32 : decode b_md_inverse 32 = .ok (.getfield 13, 3) := by decide +kernel
theorem d_md_inverse_35 : decode b_md_inverse 35 = .ok (.i2l, 1) := by decide +kernel
theorem d_md_inverse_36 : decode b_md_inverse 36 = .ok (.lrem, 1) := by decide +kernel
theorem d_md_inverse_37 : decode b_md_inverse 37 = .ok (.lstore_n 2, 1) := by decide +kernel
theorem d_md_inverse_38 : decode b_md_inverse 38 = .ok (.lload 4, 2) := by decide +kernel
theorem d_md_inverse_40 : decode b_md_inverse 40 = .ok (.lload 4, 2) := by decide +kernel
theorem d_md_inverse_42 : decode b_md_inverse 42 = .ok (.lmul, 1) := by decide +kernel
theorem d_md_inverse_43 : decode b_md_inverse 43 = .ok (.aload_n 0, 1) := by decide +kernel
theorem d_md_inverse_44 : decode b_md_inverse 44 = .ok (.getfield 13, 3) := by decide +kernel
theorem d_md_inverse_47 : decode b_md_inverse 47 = .ok (.i2l, 1) := by decide +kernel
theorem d_md_inverse_48 : decode b_md_inverse 48 = .ok (.lrem, 1) := by decide +kernel
theorem d_md_inverse_49 : decode b_md_inverse 49 = .ok (.lstore 4, 2) := by decide +kernel
theorem d_md_inverse_51 : decode b_md_inverse 51 = .ok (.iload 6, 2) := by decide +kernel
theorem d_md_inverse_53 : decode b_md_inverse 53 = .ok (.iconst 1, 1) := by decide +kernel
theorem d_md_inverse_54 : decode b_md_inverse 54 = .ok (.ishr, 1) := by decide +kernel
theorem d_md_inverse_55 : decode b_md_inverse 55 = .ok (.istore 6, 2) := by decide +kernel
theorem d_md_inverse_57 : decode b_md_inverse 57 = .ok (.goto (-43), 3) := by decide +kernel
theorem d_md_inverse_60 : decode b_md_inverse 60 = .ok (.lload_n 2, 1) := by decide +kernel
theorem d_md_inverse_61 : decode b_md_inverse 61 = .ok (.l2i, 1) := by decide +kernel
theorem d_md_inverse_62 : decode b_md_inverse 62 = .ok (.ireturn, 1) := by decide +kernel
/-- SpaceBasisModel.inverse(I)I -/
def vc_md_inverse (md_thrownCode : Int32) (md_p : Int32) (md_n : Int32) (md_order : Int32) (md_monomials : Int32) (md_generators : Int32) (md_found : Int32) (md_upTo : Int32) (md_members : Int32) (md_provedNow : Int32) (p0 : Int32) (Q : Int32 → Prop) : Prop :=
  ∀ x4_1 : Int64, x4_1 = (p0 : Int32).toInt64 → ∀ x6_2 : Int32, x6_2 = (md_p - 2) → ∃ (I14_6 : Int64 → Int64 → Int32 → Prop) (mu14_7 : Int64 → Int64 → Int32 → Nat), I14_6 1 x4_1 x6_2 ∧ ∀ (x2_3 : Int64) (x4_4 : Int64) (x6_5 : Int32), I14_6 x2_3 x4_4 x6_5 → ((((x6_5 ≤ 0) → (Q (x2_3 : Int64).toInt32)) ∧ ((¬ (x6_5 ≤ 0)) → ((((¬ ((x6_5 &&& 1) = 1)) → ((¬ ((md_p : Int32).toInt64 : Int64) = 0) ∧ ∀ x4_11 : Int64, x4_11 = ((x4_4 * x4_4) - (x4_4 * x4_4) / (md_p : Int32).toInt64 * (md_p : Int32).toInt64) → ∀ x6_12 : Int32, x6_12 = (x6_5 >>> (1 &&& 31)) → (I14_6 x2_3 x4_11 x6_12 ∧ mu14_7 x2_3 x4_11 x6_12 < mu14_7 x2_3 x4_4 x6_5))) ∧ (((x6_5 &&& 1) = 1) → ((¬ ((md_p : Int32).toInt64 : Int64) = 0) ∧ ∀ x2_14 : Int64, x2_14 = ((x2_3 * x4_4) - (x2_3 * x4_4) / (md_p : Int32).toInt64 * (md_p : Int32).toInt64) → (¬ ((md_p : Int32).toInt64 : Int64) = 0) ∧ ∀ x4_16 : Int64, x4_16 = ((x4_4 * x4_4) - (x4_4 * x4_4) / (md_p : Int32).toInt64 * (md_p : Int32).toInt64) → ∀ x6_17 : Int32, x6_17 = (x6_5 >>> (1 &&& 31)) → (I14_6 x2_14 x4_16 x6_17 ∧ mu14_7 x2_14 x4_16 x6_17 < mu14_7 x2_3 x4_4 x6_5))))))))
abbrev at_md_inverse (dC : Nat → ClassId) (dI : Nat → Nat → Nat) (cs : Nat → ClassId) (A : Nat → Prop) (ad : Nat → Nat) (md_thrownCode : Int32) (md_p : Int32) (md_n : Int32) (md_order : Int32) (md_monomials : Int32) (md_generators : Int32) (md_found : Int32) (md_upTo : Int32) (md_members : Int32) (md_provedNow : Int32) (u : Unit) (t : State) : Prop := match u with
  | _ => va_P (dC, dI) vwCl [((ad 0), .inr (8, [.int md_thrownCode, .int md_p, .int md_n, .int md_order, .int md_monomials, .ref (ad 1), .ref (ad 2), .int md_generators, .ref (ad 3), .ref (ad 4), .int md_found, .int md_upTo, .ref (ad 5), .ref (ad 6), .ref (ad 7), .ref (ad 8), .int md_members, .int md_provedNow]))] t.heap ∧ va_D A [((ad 0), .inr (8, [.int md_thrownCode, .int md_p, .int md_n, .int md_order, .int md_monomials, .ref (ad 1), .ref (ad 2), .int md_generators, .ref (ad 3), .ref (ad 4), .int md_found, .int md_upTo, .ref (ad 5), .ref (ad 6), .ref (ad 7), .ref (ad 8), .int md_members, .int md_provedNow]))]
set_option maxHeartbeats 4000000 in
set_option maxRecDepth 100000 in
theorem c_md_inverse (l : Launch) (dC : Nat → ClassId) (dI : Nat → Nat → Nat) (cs : Nat → ClassId) (ad : Nat → Nat)  (sz : Nat) (md_thrownCode : Int32) (md_p : Int32) (md_n : Int32) (md_order : Int32) (md_monomials : Int32) (md_generators : Int32) (md_found : Int32) (md_upTo : Int32) (md_members : Int32) (md_provedNow : Int32) (p0 : Int32) (Q : Int32 → Prop) (hv : vc_md_inverse md_thrownCode md_p md_n md_order md_monomials md_generators md_found md_upTo md_members md_provedNow p0 Q) : Met l y_md_inverse w_md_inverse ({ frames := 0, cells := 0, slots := 0, locals := 0 }) (va_Pc [.ref (ad 0), .int p0] (fun U => U.heap.size = sz ∧ va_P (dC, dI) vwCl [((ad 0), .inr (8, [.int md_thrownCode, .int md_p, .int md_n, .int md_order, .int md_monomials, .ref (ad 1), .ref (ad 2), .int md_generators, .ref (ad 3), .ref (ad 4), .int md_found, .int md_upTo, .ref (ad 5), .ref (ad 6), .ref (ad 7), .ref (ad 8), .int md_members, .int md_provedNow]))] U.heap ∧ vwK dC dI cs U ∧ va_D (fun _ => True) [((ad 0), .inr (8, [.int md_thrownCode, .int md_p, .int md_n, .int md_order, .int md_monomials, .ref (ad 1), .ref (ad 2), .int md_generators, .ref (ad 3), .ref (ad 4), .int md_found, .int md_upTo, .ref (ad 5), .ref (ad 6), .ref (ad 7), .ref (ad 8), .int md_members, .int md_provedNow]))])) (va_Qi (fun (r : Int32) (u : Unit) => Q r) (at_md_inverse dC dI cs (va_A [((ad 0), .inr (8, [.int md_thrownCode, .int md_p, .int md_n, .int md_order, .int md_monomials, .ref (ad 1), .ref (ad 2), .int md_generators, .ref (ad 3), .ref (ad 4), .int md_found, .int md_upTo, .ref (ad 5), .ref (ad 6), .ref (ad 7), .ref (ad 8), .int md_members, .int md_provedNow]))] sz) ad md_thrownCode md_p md_n md_order md_monomials md_generators md_found md_upTo md_members md_provedNow) (va_A [((ad 0), .inr (8, [.int md_thrownCode, .int md_p, .int md_n, .int md_order, .int md_monomials, .ref (ad 1), .ref (ad 2), .int md_generators, .ref (ad 3), .ref (ad 4), .int md_found, .int md_upTo, .ref (ad 5), .ref (ad 6), .ref (ad 7), .ref (ad 8), .int md_members, .int md_provedNow]))] sz)) 0 0 (va_A [((ad 0), .inr (8, [.int md_thrownCode, .int md_p, .int md_n, .int md_order, .int md_monomials, .ref (ad 1), .ref (ad 2), .int md_generators, .ref (ad 3), .ref (ad 4), .int md_found, .int md_upTo, .ref (ad 5), .ref (ad 6), .ref (ad 7), .ref (ad 8), .int md_members, .int md_provedNow]))] sz) := by
  unfold vc_md_inverse at hv
  refine Met.ofW (cc := b_md_inverse) (maxL := 7) (ret := (some .int)) (by decide) rfl ?_
  intro p e s m args below meth c s₁ B hml hpc
  obtain ⟨rfl, hsz, hP, ⟨hK, hN⟩, hD0⟩ := hpc
  have hx := B.exec
  have hb := B.bytes
  have hr := B.returns
  have hts : ∀ w ∈ vwWS, w.before _ s = true := fun w h => atoms_spec (ws := w_md_inverse) B.pre w (List.mem_cons_of_mem _ h)
  have hown : s.vm.findClass "SpaceBasisModel" = some m.cls := findClass_of_methodNamed B.named
  have hlocks := B.notSynchronized
  subst hsz
  have hD := hD0.self (sz := s.heap.size)
  generalize hAe : va_A [((ad 0), .inr (8, [.int md_thrownCode, .int md_p, .int md_n, .int md_order, .int md_monomials, .ref (ad 1), .ref (ad 2), .int md_generators, .ref (ad 3), .ref (ad 4), .int md_found, .int md_upTo, .ref (ad 5), .ref (ad 6), .ref (ad 7), .ref (ad 8), .int md_members, .int md_provedNow]))] s.heap.size = A at hD ⊢
  have hA : ∀ q : Nat, s.heap.size ≤ q → A q := fun q h => by rw [← hAe]; exact Or.inr h
  have hS : va_S A s.heap s.heap [] := va_S.rf
  have hl := lv_entry ([.ref (ad 0), .int p0]) (n := 7) (Nat.le_of_ble_eq_true rfl)
  rw [lg_entry_eq]
  generalize (lg_sl ([.ref (ad 0), .int p0]) ++ List.replicate (7 - (lg_sl ([.ref (ad 0), .int p0])).length) Slot.unset).toArray = ls at hl ⊢
  have hl : lv_has ls 7 [(0, .ref (ad 0)), (1, .int p0)] := hl
  refine lv_lconst (v := 1) hx hb d_md_inverse_0 (by decide) ?_
  refine lv_lstore_n (lv' := [(2, .long 1), (0, .ref (ad 0)), (1, .int p0)]) hx hb d_md_inverse_1 rfl hl (by decide) rfl (fun ls hl => ?_)
  refine lv_iload_n hx hb d_md_inverse_2 rfl (lv_at hl 2 rfl) ?_
  refine lv_i2l (v := (p0 : Int32).toInt64) hx hb d_md_inverse_3 rfl ?_
  refine lv_topl (fun x4_1 ex4_1 => ?_)
  have hv := hv x4_1 ex4_1
  refine lv_lstore (lv' := [(4, .long x4_1), (2, .long 1), (0, .ref (ad 0)), (1, .int p0)]) hx hb d_md_inverse_4 hl (by decide) rfl (fun ls hl => ?_)
  refine lv_aload_n hx hb d_md_inverse_6 rfl (lv_at hl 2 rfl) ?_
  refine va_get (D := (dC, dI)) (ci := 8) (v := .int md_p) (C := R_md) (T := F_md) (N := 18) hx hb hts in_md hown hK hP 0 rfl rfl 1 (by decide) (hts _ kw_619) (fun _ h9 => h9) rfl d_md_inverse_7 ?_
  refine lv_iconst (v := 2) hx hb d_md_inverse_10 (by decide) ?_
  refine lv_isub hx hb d_md_inverse_11 ?_
  refine lv_topi (fun x6_2 ex6_2 => ?_)
  have hv := hv x6_2 ex6_2
  refine lv_istore (lv' := [(6, .int x6_2), (4, .long x4_1), (2, .long 1), (0, .ref (ad 0)), (1, .int p0)]) hx hb d_md_inverse_12 hl (by decide) rfl (fun ls hl => ?_)
  obtain ⟨I14_6, mu14_7, hi0, hv⟩ := hv
  have hP := hP.sub (ws' := [((ad 0), .inr (8, [.int md_thrownCode, .int md_p, .int md_n, .int md_order, .int md_monomials, .ref (ad 1), .ref (ad 2), .int md_generators, .ref (ad 3), .ref (ad 4), .int md_found, .int md_upTo, .ref (ad 5), .ref (ad 6), .ref (ad 7), .ref (ad 8), .int md_members, .int md_provedNow]))]) [0] rfl
  have hD := hD.sub (ws' := [((ad 0), .inr (8, [.int md_thrownCode, .int md_p, .int md_n, .int md_order, .int md_monomials, .ref (ad 1), .ref (ad 2), .int md_generators, .ref (ad 3), .ref (ad 4), .int md_found, .int md_upTo, .ref (ad 5), .ref (ad 6), .ref (ad 7), .ref (ad 8), .int md_members, .int md_provedNow]))]) [0] (by decide) rfl
  have hl := lv_sub (l' := [(0, .ref (ad 0)), (1, .int p0), (2, .long 1), (4, .long x4_1), (6, .int x6_2)]) hl [3, 4, 2, 1, 0] rfl
  have loop14 : ∀ (nn : Nat) (x2_3 : Int64) (x4_4 : Int64) (x6_5 : Int32), mu14_7 x2_3 x4_4 x6_5 < nn → I14_6 x2_3 x4_4 x6_5 → ∀ (H : Heap) (locs : List Loc) (ls : Array Slot), va_P (dC, dI) vwCl [((ad 0), .inr (8, [.int md_thrownCode, .int md_p, .int md_n, .int md_order, .int md_monomials, .ref (ad 1), .ref (ad 2), .int md_generators, .ref (ad 3), .ref (ad 4), .int md_found, .int md_upTo, .ref (ad 5), .ref (ad 6), .ref (ad 7), .ref (ad 8), .int md_members, .int md_provedNow]))] H → va_D A [((ad 0), .inr (8, [.int md_thrownCode, .int md_p, .int md_n, .int md_order, .int md_monomials, .ref (ad 1), .ref (ad 2), .int md_generators, .ref (ad 3), .ref (ad 4), .int md_found, .int md_upTo, .ref (ad 5), .ref (ad 6), .ref (ad 7), .ref (ad 8), .int md_members, .int md_provedNow]))] → va_S A s.heap H locs → lv_has ls 7 [(0, .ref (ad 0)), (1, .int p0), (2, .long x2_3), (4, .long x4_4), (6, .int x6_5)] → W p l e (headSpec w_md_inverse { frames := 0, cells := 0, slots := 0, locals := 0 }).room s m ([.ref (ad 0), .int p0] : List Value).toArray below meth c H locs 0 0 (MQ below (va_Qi (fun (r : Int32) (u : Unit) => Q r) (at_md_inverse dC dI cs A ad md_thrownCode md_p md_n md_order md_monomials md_generators md_found md_upTo md_members md_provedNow) A) ([.ref (ad 0), .int p0] : List Value).toArray s 0 0 A) (F0 m 14 ls []) := by
    intro nn
    induction nn with
    | zero => intro x2_3 x4_4 x6_5 hlt; exact absurd hlt (Nat.not_lt_zero _)
    | succ nn ih14 =>
      intro x2_3 x4_4 x6_5 hlt14 hI H locs ls hP hD hS hl
      have hv := hv x2_3 x4_4 x6_5 hI
      refine lv_iload hx hb d_md_inverse_14 (lv_at hl 4 rfl) ?_
      refine lv_if_le (tgt := 60) hx hb d_md_inverse_16 (by decide) (fun c_8 => ?_) (fun c_8 => ?_)
      · have hv := hv.1 c_8
        refine lv_lload_n hx hb d_md_inverse_60 rfl (lv_at hl 2 rfl) ?_
        refine lv_l2i (v := (x2_3 : Int64).toInt32) hx hb d_md_inverse_61 rfl ?_
        have hP9 := hP.sub (ws' := [((ad 0), .inr (8, [.int md_thrownCode, .int md_p, .int md_n, .int md_order, .int md_monomials, .ref (ad 1), .ref (ad 2), .int md_generators, .ref (ad 3), .ref (ad 4), .int md_found, .int md_upTo, .ref (ad 5), .ref (ad 6), .ref (ad 7), .ref (ad 8), .int md_members, .int md_provedNow]))]) [0] rfl
        have hD9 := hD.sub (ws' := [((ad 0), .inr (8, [.int md_thrownCode, .int md_p, .int md_n, .int md_order, .int md_monomials, .ref (ad 1), .ref (ad 2), .int md_generators, .ref (ad 3), .ref (ad 4), .int md_found, .int md_upTo, .ref (ad 5), .ref (ad 6), .ref (ad 7), .ref (ad 8), .int md_members, .int md_provedNow]))]) [0] (by decide) rfl
        exact W.iret (v := (x2_3 : Int64).toInt32) hx hb hr (fun t ht hW => ⟨⟨(x2_3 : Int64).toInt32, (), rfl, hv, by rw [ht]; exact hP9, hD9⟩, hS.F ht⟩) hS.2.2 d_md_inverse_62
      · have hv := hv.2 c_8
        refine lv_iload hx hb d_md_inverse_19 (lv_at hl 4 rfl) ?_
        refine lv_iconst (v := 1) hx hb d_md_inverse_21 (by decide) ?_
        refine lv_iand hx hb d_md_inverse_22 ?_
        refine lv_iconst (v := 1) hx hb d_md_inverse_23 (by decide) ?_
        refine lv_icmp_ne (tgt := 38) hx hb d_md_inverse_24 (by decide) (fun c_9 => ?_) (fun c_9 => ?_)
        · have hv := hv.1 c_9
          refine lv_lload hx hb d_md_inverse_38 (lv_at hl 3 rfl) ?_
          refine lv_lload hx hb d_md_inverse_40 (lv_at hl 3 rfl) ?_
          refine lv_lmul hx hb d_md_inverse_42 ?_
          refine lv_aload_n hx hb d_md_inverse_43 rfl (lv_at hl 0 rfl) ?_
          refine va_get (D := (dC, dI)) (ci := 8) (v := .int md_p) (C := R_md) (T := F_md) (N := 18) hx hb hts in_md hown hK hP 0 rfl rfl 1 (by decide) (hts _ kw_619) (fun _ h9 => h9) rfl d_md_inverse_44 ?_
          refine lv_i2l (v := (md_p : Int32).toInt64) hx hb d_md_inverse_47 rfl ?_
          obtain ⟨hz_10, hv⟩ := hv
          refine lv_lrem hx hb d_md_inverse_48 hz_10 ?_
          refine lv_topl (fun x4_11 ex4_11 => ?_)
          have hv := hv x4_11 ex4_11
          refine lv_lstore (lv' := [(4, .long x4_11), (0, .ref (ad 0)), (1, .int p0), (2, .long x2_3), (6, .int x6_5)]) hx hb d_md_inverse_49 hl (by decide) rfl (fun ls hl => ?_)
          refine lv_iload hx hb d_md_inverse_51 (lv_at hl 4 rfl) ?_
          refine lv_iconst (v := 1) hx hb d_md_inverse_53 (by decide) ?_
          refine lv_ishr hx hb d_md_inverse_54 ?_
          refine lv_topi (fun x6_12 ex6_12 => ?_)
          have hv := hv x6_12 ex6_12
          refine lv_istore (lv' := [(6, .int x6_12), (4, .long x4_11), (0, .ref (ad 0)), (1, .int p0), (2, .long x2_3)]) hx hb d_md_inverse_55 hl (by decide) rfl (fun ls hl => ?_)
          refine lv_goto (tgt := 14) hx hb d_md_inverse_57 (by decide) ?_
          exact ih14 x2_3 x4_11 x6_12 (Nat.lt_of_lt_of_le hv.2 (Nat.le_of_lt_succ hlt14)) hv.1 _ _ _ (hP.sub [0] rfl) (hD.sub [0] (by decide) rfl) hS (lv_sub hl [2, 3, 4, 1, 0] rfl)
        · have hv := hv.2 c_9
          refine lv_lload_n hx hb d_md_inverse_27 rfl (lv_at hl 2 rfl) ?_
          refine lv_lload hx hb d_md_inverse_28 (lv_at hl 3 rfl) ?_
          refine lv_lmul hx hb d_md_inverse_30 ?_
          refine lv_aload_n hx hb d_md_inverse_31 rfl (lv_at hl 0 rfl) ?_
          refine va_get (D := (dC, dI)) (ci := 8) (v := .int md_p) (C := R_md) (T := F_md) (N := 18) hx hb hts in_md hown hK hP 0 rfl rfl 1 (by decide) (hts _ kw_619) (fun _ h9 => h9) rfl d_md_inverse_32 ?_
          refine lv_i2l (v := (md_p : Int32).toInt64) hx hb d_md_inverse_35 rfl ?_
          obtain ⟨hz_13, hv⟩ := hv
          refine lv_lrem hx hb d_md_inverse_36 hz_13 ?_
          refine lv_topl (fun x2_14 ex2_14 => ?_)
          have hv := hv x2_14 ex2_14
          refine lv_lstore_n (lv' := [(2, .long x2_14), (0, .ref (ad 0)), (1, .int p0), (4, .long x4_4), (6, .int x6_5)]) hx hb d_md_inverse_37 rfl hl (by decide) rfl (fun ls hl => ?_)
          refine lv_lload hx hb d_md_inverse_38 (lv_at hl 3 rfl) ?_
          refine lv_lload hx hb d_md_inverse_40 (lv_at hl 3 rfl) ?_
          refine lv_lmul hx hb d_md_inverse_42 ?_
          refine lv_aload_n hx hb d_md_inverse_43 rfl (lv_at hl 1 rfl) ?_
          refine va_get (D := (dC, dI)) (ci := 8) (v := .int md_p) (C := R_md) (T := F_md) (N := 18) hx hb hts in_md hown hK hP 0 rfl rfl 1 (by decide) (hts _ kw_619) (fun _ h9 => h9) rfl d_md_inverse_44 ?_
          refine lv_i2l (v := (md_p : Int32).toInt64) hx hb d_md_inverse_47 rfl ?_
          obtain ⟨hz_15, hv⟩ := hv
          refine lv_lrem hx hb d_md_inverse_48 hz_15 ?_
          refine lv_topl (fun x4_16 ex4_16 => ?_)
          have hv := hv x4_16 ex4_16
          refine lv_lstore (lv' := [(4, .long x4_16), (2, .long x2_14), (0, .ref (ad 0)), (1, .int p0), (6, .int x6_5)]) hx hb d_md_inverse_49 hl (by decide) rfl (fun ls hl => ?_)
          refine lv_iload hx hb d_md_inverse_51 (lv_at hl 4 rfl) ?_
          refine lv_iconst (v := 1) hx hb d_md_inverse_53 (by decide) ?_
          refine lv_ishr hx hb d_md_inverse_54 ?_
          refine lv_topi (fun x6_17 ex6_17 => ?_)
          have hv := hv x6_17 ex6_17
          refine lv_istore (lv' := [(6, .int x6_17), (4, .long x4_16), (2, .long x2_14), (0, .ref (ad 0)), (1, .int p0)]) hx hb d_md_inverse_55 hl (by decide) rfl (fun ls hl => ?_)
          refine lv_goto (tgt := 14) hx hb d_md_inverse_57 (by decide) ?_
          exact ih14 x2_14 x4_16 x6_17 (Nat.lt_of_lt_of_le hv.2 (Nat.le_of_lt_succ hlt14)) hv.1 _ _ _ (hP.sub [0] rfl) (hD.sub [0] (by decide) rfl) hS (lv_sub hl [3, 4, 2, 1, 0] rfl)
  exact loop14 _ 1 x4_1 x6_2 (Nat.lt_succ_self _) hi0 _ _ _ hP hD hS hl
abbrev b_md_takeRow : ByteArray := prog_10_method_11_code
def y_md_takeRow : MethodName := ⟨"SpaceBasisModel", "takeRow", "(I)V"⟩
def w_md_takeRow : List Cond := Cond.code y_md_takeRow b_md_takeRow 5 none :: vwWS
theorem d_md_takeRow_0 : decode b_md_takeRow 0 = .ok (.aload_n 0, 1) := by decide +kernel
theorem d_md_takeRow_1 : decode b_md_takeRow 1 = .ok (.getfield 13, 3) := by decide +kernel
theorem d_md_takeRow_4 : decode b_md_takeRow 4 = .ok (.aload_n 0, 1) := by decide +kernel
theorem d_md_takeRow_5 : decode b_md_takeRow 5 = .ok (.getfield 55, 3) := by decide +kernel
theorem d_md_takeRow_8 : decode b_md_takeRow 8 = .ok (.iload_n 1, 1) := by decide +kernel
theorem d_md_takeRow_9 : decode b_md_takeRow 9 = .ok (.iaload, 1) := by decide +kernel
theorem d_md_takeRow_10 : decode b_md_takeRow 10 = .ok (.isub, 1) := by decide +kernel
theorem d_md_takeRow_11 : decode b_md_takeRow 11 = .ok (.i2l, 1) := by decide +kernel
theorem d_md_takeRow_12 : decode b_md_takeRow 12 = .ok (.lstore_n 2, 1) := by decide +kernel
theorem d_md_takeRow_13 : decode b_md_takeRow 13 = .ok (.iconst 0, 1) := by decide +kernel
theorem d_md_takeRow_14 : decode b_md_takeRow 14 = .ok (.istore 4, 2) := by decide +kernel
theorem d_md_takeRow_16 : decode b_md_takeRow 16 = .ok (.iload 4, 2) := by decide +kernel
theorem d_md_takeRow_18 : decode b_md_takeRow 18 = .ok (.iload_n 1, 1) := by decide +kernel
theorem d_md_takeRow_19 : decode b_md_takeRow 19 = .ok (.if_icmp .gt 47, 3) := by decide +kernel
theorem d_md_takeRow_22 : decode b_md_takeRow 22 = .ok (.aload_n 0, 1) := by decide +kernel
theorem d_md_takeRow_23 : decode b_md_takeRow 23 = .ok (.getfield 55, 3) := by decide +kernel
theorem d_md_takeRow_26 : decode b_md_takeRow 26 = .ok (.iload 4, 2) := by decide +kernel
theorem d_md_takeRow_28 : decode b_md_takeRow 28 = .ok (.aload_n 0, 1) := by decide +kernel
theorem d_md_takeRow_29 : decode b_md_takeRow 29 = .ok (.getfield 55, 3) := by decide +kernel
theorem d_md_takeRow_32 : decode b_md_takeRow 32 = .ok (.iload 4, 2) := by decide +kernel
theorem d_md_takeRow_34 : decode b_md_takeRow 34 = .ok (.iaload, 1) := by decide +kernel
theorem d_md_takeRow_35 : decode b_md_takeRow 35 = .ok (.i2l, 1) := by decide +kernel
theorem d_md_takeRow_36 : decode b_md_takeRow 36 = .ok (.lload_n 2, 1) := by decide +kernel
theorem d_md_takeRow_37 : decode b_md_takeRow 37 = .ok (.aload_n 0, 1) := by decide +kernel
theorem d_md_takeRow_38 : decode b_md_takeRow 38 = .ok (.getfield 52, 3) := by decide +kernel
theorem d_md_takeRow_41 : decode b_md_takeRow 41 = .ok (.bipush 126, 2) := by decide +kernel
theorem d_md_takeRow_43 : decode b_md_takeRow 43 = .ok (.iload_n 1, 1) := by decide +kernel
theorem d_md_takeRow_44 : decode b_md_takeRow 44 = .ok (.imul, 1) := by decide +kernel
theorem d_md_takeRow_45 : decode b_md_takeRow 45 = .ok (.iload 4, 2) := by decide +kernel
theorem d_md_takeRow_47 : decode b_md_takeRow 47 = .ok (.iadd, 1) := by decide +kernel
theorem d_md_takeRow_48 : decode b_md_takeRow 48 = .ok (.iaload, 1) := by decide +kernel
theorem d_md_takeRow_49 : decode b_md_takeRow 49 = .ok (.i2l, 1) := by decide +kernel
theorem d_md_takeRow_50 : decode b_md_takeRow 50 = .ok (.lmul, 1) := by decide +kernel
theorem d_md_takeRow_51 : decode b_md_takeRow 51 = .ok (.ladd, 1) := by decide +kernel
theorem d_md_takeRow_52 : decode b_md_takeRow 52 = .ok (.aload_n 0, 1) := by decide +kernel
theorem d_md_takeRow_53 : decode b_md_takeRow 53 = .ok (.getfield 13, 3) := by decide +kernel
theorem d_md_takeRow_56 : decode b_md_takeRow 56 = .ok (.i2l, 1) := by decide +kernel
theorem d_md_takeRow_57 : decode b_md_takeRow 57 = .ok (.lrem, 1) := by decide +kernel
theorem d_md_takeRow_58 : decode b_md_takeRow 58 = .ok (.l2i, 1) := by decide +kernel
theorem d_md_takeRow_59 : decode b_md_takeRow 59 = .ok (.iastore, 1) := by decide +kernel
theorem d_md_takeRow_60 : decode b_md_takeRow 60 = .ok (.iinc 4 1, 3) := by decide +kernel
theorem d_md_takeRow_63 : decode b_md_takeRow 63 = .ok (.goto (-47), 3) := by decide +kernel
theorem d_md_takeRow_66 : decode b_md_takeRow 66 = .ok (.return_, 1) := by decide +kernel
/-- SpaceBasisModel.takeRow(I)V -/
def vc_md_takeRow (md_thrownCode : Int32) (md_p : Int32) (md_n : Int32) (md_order : Int32) (md_monomials : Int32) (md_generators : Int32) (md_found : Int32) (md_upTo : Int32) (md_members : Int32) (md_provedNow : Int32) (md_row : Nat → Int32) (md_work : Nat → Int32) (p0 : Int32) (Q : (Nat → Int32) → Prop) : Prop :=
  vp_in p0 126 ∧ ∀ x2_2 : Int64, x2_2 = ((md_p - (md_work p0.toNatClampNeg)) : Int32).toInt64 → ∃ (I16_5 : Int32 → (Nat → Int32) → Prop) (mu16_6 : Int32 → (Nat → Int32) → Nat), I16_5 0 md_work ∧ ∀ (x4_3 : Int32) (md_work_4 : Nat → Int32), I16_5 x4_3 md_work_4 → ((((p0 < x4_3) → (Q md_work_4)) ∧ ((¬ (p0 < x4_3)) → (vp_in x4_3 126 ∧ vp_in ((126 * p0) + x4_3) 15876 ∧ (¬ ((md_p : Int32).toInt64 : Int64) = 0) ∧ vp_in x4_3 126 ∧ ∀ md_work_12 : Nat → Int32, md_work_12 = upd md_work_4 x4_3.toNatClampNeg (((((md_work_4 x4_3.toNatClampNeg) : Int32).toInt64 + (x2_2 * ((md_row (((126 * p0) + x4_3)).toNatClampNeg) : Int32).toInt64)) - (((md_work_4 x4_3.toNatClampNeg) : Int32).toInt64 + (x2_2 * ((md_row (((126 * p0) + x4_3)).toNatClampNeg) : Int32).toInt64)) / (md_p : Int32).toInt64 * (md_p : Int32).toInt64) : Int64).toInt32 → ∀ x4_13 : Int32, x4_13 = x4_3 + 1 → (I16_5 x4_13 md_work_12 ∧ mu16_6 x4_13 md_work_12 < mu16_6 x4_3 md_work_4)))))
abbrev at_md_takeRow (dC : Nat → ClassId) (dI : Nat → Nat → Nat) (cs : Nat → ClassId) (A : Nat → Prop) (ad : Nat → Nat) (md_thrownCode : Int32) (md_p : Int32) (md_n : Int32) (md_order : Int32) (md_monomials : Int32) (md_generators : Int32) (md_found : Int32) (md_upTo : Int32) (md_members : Int32) (md_provedNow : Int32) (md_row : Nat → Int32) (u : (Nat → Int32)) (t : State) : Prop := match u with
  | md_work => va_P (dC, dI) vwCl [((ad 0), .inr (8, [.int md_thrownCode, .int md_p, .int md_n, .int md_order, .int md_monomials, .ref (ad 1), .ref (ad 2), .int md_generators, .ref (ad 3), .ref (ad 4), .int md_found, .int md_upTo, .ref (ad 5), .ref (ad 6), .ref (ad 7), .ref (ad 8), .int md_members, .int md_provedNow])), ((ad 6), .inl (cs 0, 15876, .inl md_row)), ((ad 7), .inl (cs 0, 126, .inl md_work))] t.heap ∧ va_D A [((ad 0), .inr (8, [.int md_thrownCode, .int md_p, .int md_n, .int md_order, .int md_monomials, .ref (ad 1), .ref (ad 2), .int md_generators, .ref (ad 3), .ref (ad 4), .int md_found, .int md_upTo, .ref (ad 5), .ref (ad 6), .ref (ad 7), .ref (ad 8), .int md_members, .int md_provedNow])), ((ad 6), .inl (cs 0, 15876, .inl md_row)), ((ad 7), .inl (cs 0, 126, .inl md_work))]
set_option maxHeartbeats 4000000 in
set_option maxRecDepth 100000 in
theorem c_md_takeRow (l : Launch) (dC : Nat → ClassId) (dI : Nat → Nat → Nat) (cs : Nat → ClassId) (ad : Nat → Nat)  (sz : Nat) (md_thrownCode : Int32) (md_p : Int32) (md_n : Int32) (md_order : Int32) (md_monomials : Int32) (md_generators : Int32) (md_found : Int32) (md_upTo : Int32) (md_members : Int32) (md_provedNow : Int32) (md_row : Nat → Int32) (md_work : Nat → Int32) (p0 : Int32) (Q : (Nat → Int32) → Prop) (hv : vc_md_takeRow md_thrownCode md_p md_n md_order md_monomials md_generators md_found md_upTo md_members md_provedNow md_row md_work p0 Q) : Met l y_md_takeRow w_md_takeRow ({ frames := 0, cells := 0, slots := 0, locals := 0 }) (va_Pc [.ref (ad 0), .int p0] (fun U => U.heap.size = sz ∧ va_P (dC, dI) vwCl [((ad 0), .inr (8, [.int md_thrownCode, .int md_p, .int md_n, .int md_order, .int md_monomials, .ref (ad 1), .ref (ad 2), .int md_generators, .ref (ad 3), .ref (ad 4), .int md_found, .int md_upTo, .ref (ad 5), .ref (ad 6), .ref (ad 7), .ref (ad 8), .int md_members, .int md_provedNow])), ((ad 6), .inl (cs 0, 15876, .inl md_row)), ((ad 7), .inl (cs 0, 126, .inl md_work))] U.heap ∧ vwK dC dI cs U ∧ va_D (fun _ => True) [((ad 0), .inr (8, [.int md_thrownCode, .int md_p, .int md_n, .int md_order, .int md_monomials, .ref (ad 1), .ref (ad 2), .int md_generators, .ref (ad 3), .ref (ad 4), .int md_found, .int md_upTo, .ref (ad 5), .ref (ad 6), .ref (ad 7), .ref (ad 8), .int md_members, .int md_provedNow])), ((ad 6), .inl (cs 0, 15876, .inl md_row)), ((ad 7), .inl (cs 0, 126, .inl md_work))])) (va_Qv (fun (u : (Nat → Int32)) => Q u) (at_md_takeRow dC dI cs (va_A [((ad 0), .inr (8, [.int md_thrownCode, .int md_p, .int md_n, .int md_order, .int md_monomials, .ref (ad 1), .ref (ad 2), .int md_generators, .ref (ad 3), .ref (ad 4), .int md_found, .int md_upTo, .ref (ad 5), .ref (ad 6), .ref (ad 7), .ref (ad 8), .int md_members, .int md_provedNow])), ((ad 6), .inl (cs 0, 15876, .inl md_row)), ((ad 7), .inl (cs 0, 126, .inl md_work))] sz) ad md_thrownCode md_p md_n md_order md_monomials md_generators md_found md_upTo md_members md_provedNow md_row) (va_A [((ad 0), .inr (8, [.int md_thrownCode, .int md_p, .int md_n, .int md_order, .int md_monomials, .ref (ad 1), .ref (ad 2), .int md_generators, .ref (ad 3), .ref (ad 4), .int md_found, .int md_upTo, .ref (ad 5), .ref (ad 6), .ref (ad 7), .ref (ad 8), .int md_members, .int md_provedNow])), ((ad 6), .inl (cs 0, 15876, .inl md_row)), ((ad 7), .inl (cs 0, 126, .inl md_work))] sz)) 0 0 (va_A [((ad 0), .inr (8, [.int md_thrownCode, .int md_p, .int md_n, .int md_order, .int md_monomials, .ref (ad 1), .ref (ad 2), .int md_generators, .ref (ad 3), .ref (ad 4), .int md_found, .int md_upTo, .ref (ad 5), .ref (ad 6), .ref (ad 7), .ref (ad 8), .int md_members, .int md_provedNow])), ((ad 6), .inl (cs 0, 15876, .inl md_row)), ((ad 7), .inl (cs 0, 126, .inl md_work))] sz) := by
  unfold vc_md_takeRow at hv
  refine Met.ofW (cc := b_md_takeRow) (maxL := 5) (ret := none) (by decide) rfl ?_
  intro p e s m args below meth c s₁ B hml hpc
  obtain ⟨rfl, hsz, hP, ⟨hK, hN⟩, hD0⟩ := hpc
  have hx := B.exec
  have hb := B.bytes
  have hr := B.returns
  have hts : ∀ w ∈ vwWS, w.before _ s = true := fun w h => atoms_spec (ws := w_md_takeRow) B.pre w (List.mem_cons_of_mem _ h)
  have hown : s.vm.findClass "SpaceBasisModel" = some m.cls := findClass_of_methodNamed B.named
  have hlocks := B.notSynchronized
  subst hsz
  have hD := hD0.self (sz := s.heap.size)
  generalize hAe : va_A [((ad 0), .inr (8, [.int md_thrownCode, .int md_p, .int md_n, .int md_order, .int md_monomials, .ref (ad 1), .ref (ad 2), .int md_generators, .ref (ad 3), .ref (ad 4), .int md_found, .int md_upTo, .ref (ad 5), .ref (ad 6), .ref (ad 7), .ref (ad 8), .int md_members, .int md_provedNow])), ((ad 6), .inl (cs 0, 15876, .inl md_row)), ((ad 7), .inl (cs 0, 126, .inl md_work))] s.heap.size = A at hD ⊢
  have hA : ∀ q : Nat, s.heap.size ≤ q → A q := fun q h => by rw [← hAe]; exact Or.inr h
  have hS : va_S A s.heap s.heap [] := va_S.rf
  have hl := lv_entry ([.ref (ad 0), .int p0]) (n := 5) (Nat.le_of_ble_eq_true rfl)
  rw [lg_entry_eq]
  generalize (lg_sl ([.ref (ad 0), .int p0]) ++ List.replicate (5 - (lg_sl ([.ref (ad 0), .int p0])).length) Slot.unset).toArray = ls at hl ⊢
  have hl : lv_has ls 5 [(0, .ref (ad 0)), (1, .int p0)] := hl
  refine lv_aload_n hx hb d_md_takeRow_0 rfl (lv_at hl 0 rfl) ?_
  refine va_get (D := (dC, dI)) (ci := 8) (v := .int md_p) (C := R_md) (T := F_md) (N := 18) hx hb hts in_md hown hK hP 0 rfl rfl 1 (by decide) (hts _ kw_619) (fun _ h9 => h9) rfl d_md_takeRow_1 ?_
  refine lv_aload_n hx hb d_md_takeRow_4 rfl (lv_at hl 0 rfl) ?_
  refine va_get (D := (dC, dI)) (ci := 8) (v := .ref (ad 7)) (C := R_md) (T := F_md) (N := 18) hx hb hts in_md hown hK hP 0 rfl rfl 14 (by decide) (hts _ kw_632) (fun _ h9 => h9) rfl d_md_takeRow_5 ?_
  refine lv_iload_n hx hb d_md_takeRow_8 rfl (lv_at hl 1 rfl) ?_
  obtain ⟨hi_1, hv⟩ := hv
  refine va_iald hx hb hK hP 2 0 rfl rfl hi_1 d_md_takeRow_9 ?_
  refine lv_isub hx hb d_md_takeRow_10 ?_
  refine lv_i2l (v := ((md_p - (md_work p0.toNatClampNeg)) : Int32).toInt64) hx hb d_md_takeRow_11 rfl ?_
  refine lv_topl (fun x2_2 ex2_2 => ?_)
  have hv := hv x2_2 ex2_2
  refine lv_lstore_n (lv' := [(2, .long x2_2), (0, .ref (ad 0)), (1, .int p0)]) hx hb d_md_takeRow_12 rfl hl (by decide) rfl (fun ls hl => ?_)
  refine lv_iconst (v := 0) hx hb d_md_takeRow_13 (by decide) ?_
  refine lv_istore (lv' := [(4, .int 0), (2, .long x2_2), (0, .ref (ad 0)), (1, .int p0)]) hx hb d_md_takeRow_14 hl (by decide) rfl (fun ls hl => ?_)
  obtain ⟨I16_5, mu16_6, hi0, hv⟩ := hv
  have hP := hP.sub (ws' := [((ad 0), .inr (8, [.int md_thrownCode, .int md_p, .int md_n, .int md_order, .int md_monomials, .ref (ad 1), .ref (ad 2), .int md_generators, .ref (ad 3), .ref (ad 4), .int md_found, .int md_upTo, .ref (ad 5), .ref (ad 6), .ref (ad 7), .ref (ad 8), .int md_members, .int md_provedNow])), ((ad 6), .inl (cs 0, 15876, .inl md_row)), ((ad 7), .inl (cs 0, 126, .inl md_work))]) [0, 1, 2] rfl
  have hD := hD.sub (ws' := [((ad 0), .inr (8, [.int md_thrownCode, .int md_p, .int md_n, .int md_order, .int md_monomials, .ref (ad 1), .ref (ad 2), .int md_generators, .ref (ad 3), .ref (ad 4), .int md_found, .int md_upTo, .ref (ad 5), .ref (ad 6), .ref (ad 7), .ref (ad 8), .int md_members, .int md_provedNow])), ((ad 6), .inl (cs 0, 15876, .inl md_row)), ((ad 7), .inl (cs 0, 126, .inl md_work))]) [0, 1, 2] (by decide) rfl
  have hl := lv_sub (l' := [(0, .ref (ad 0)), (1, .int p0), (2, .long x2_2), (4, .int 0)]) hl [2, 3, 1, 0] rfl
  have loop16 : ∀ (nn : Nat) (x4_3 : Int32) (md_work_4 : Nat → Int32), mu16_6 x4_3 md_work_4 < nn → I16_5 x4_3 md_work_4 → ∀ (H : Heap) (locs : List Loc) (ls : Array Slot), va_P (dC, dI) vwCl [((ad 0), .inr (8, [.int md_thrownCode, .int md_p, .int md_n, .int md_order, .int md_monomials, .ref (ad 1), .ref (ad 2), .int md_generators, .ref (ad 3), .ref (ad 4), .int md_found, .int md_upTo, .ref (ad 5), .ref (ad 6), .ref (ad 7), .ref (ad 8), .int md_members, .int md_provedNow])), ((ad 6), .inl (cs 0, 15876, .inl md_row)), ((ad 7), .inl (cs 0, 126, .inl md_work_4))] H → va_D A [((ad 0), .inr (8, [.int md_thrownCode, .int md_p, .int md_n, .int md_order, .int md_monomials, .ref (ad 1), .ref (ad 2), .int md_generators, .ref (ad 3), .ref (ad 4), .int md_found, .int md_upTo, .ref (ad 5), .ref (ad 6), .ref (ad 7), .ref (ad 8), .int md_members, .int md_provedNow])), ((ad 6), .inl (cs 0, 15876, .inl md_row)), ((ad 7), .inl (cs 0, 126, .inl md_work_4))] → va_S A s.heap H locs → lv_has ls 5 [(0, .ref (ad 0)), (1, .int p0), (2, .long x2_2), (4, .int x4_3)] → W p l e (headSpec w_md_takeRow { frames := 0, cells := 0, slots := 0, locals := 0 }).room s m ([.ref (ad 0), .int p0] : List Value).toArray below meth c H locs 0 0 (MQ below (va_Qv (fun (u : (Nat → Int32)) => Q u) (at_md_takeRow dC dI cs A ad md_thrownCode md_p md_n md_order md_monomials md_generators md_found md_upTo md_members md_provedNow md_row) A) ([.ref (ad 0), .int p0] : List Value).toArray s 0 0 A) (F0 m 16 ls []) := by
    intro nn
    induction nn with
    | zero => intro x4_3 md_work_4 hlt; exact absurd hlt (Nat.not_lt_zero _)
    | succ nn ih16 =>
      intro x4_3 md_work_4 hlt16 hI H locs ls hP hD hS hl
      have hv := hv x4_3 md_work_4 hI
      refine lv_iload hx hb d_md_takeRow_16 (lv_at hl 3 rfl) ?_
      refine lv_iload_n hx hb d_md_takeRow_18 rfl (lv_at hl 1 rfl) ?_
      refine lv_icmp_gt (tgt := 66) hx hb d_md_takeRow_19 (by decide) (fun c_7 => ?_) (fun c_7 => ?_)
      · have hv := hv.1 c_7
        have hP9 := hP.sub (ws' := [((ad 0), .inr (8, [.int md_thrownCode, .int md_p, .int md_n, .int md_order, .int md_monomials, .ref (ad 1), .ref (ad 2), .int md_generators, .ref (ad 3), .ref (ad 4), .int md_found, .int md_upTo, .ref (ad 5), .ref (ad 6), .ref (ad 7), .ref (ad 8), .int md_members, .int md_provedNow])), ((ad 6), .inl (cs 0, 15876, .inl md_row)), ((ad 7), .inl (cs 0, 126, .inl md_work_4))]) [0, 1, 2] rfl
        have hD9 := hD.sub (ws' := [((ad 0), .inr (8, [.int md_thrownCode, .int md_p, .int md_n, .int md_order, .int md_monomials, .ref (ad 1), .ref (ad 2), .int md_generators, .ref (ad 3), .ref (ad 4), .int md_found, .int md_upTo, .ref (ad 5), .ref (ad 6), .ref (ad 7), .ref (ad 8), .int md_members, .int md_provedNow])), ((ad 6), .inl (cs 0, 15876, .inl md_row)), ((ad 7), .inl (cs 0, 126, .inl md_work_4))]) [0, 1, 2] (by decide) rfl
        exact W.vret hx hb hr (fun t ht hW => ⟨⟨md_work_4, rfl, hv, by rw [ht]; exact hP9, hD9⟩, hS.F ht⟩) hS.2.2 d_md_takeRow_66
      · have hv := hv.2 c_7
        refine lv_aload_n hx hb d_md_takeRow_22 rfl (lv_at hl 0 rfl) ?_
        refine va_get (D := (dC, dI)) (ci := 8) (v := .ref (ad 7)) (C := R_md) (T := F_md) (N := 18) hx hb hts in_md hown hK hP 0 rfl rfl 14 (by decide) (hts _ kw_632) (fun _ h9 => h9) rfl d_md_takeRow_23 ?_
        refine lv_iload hx hb d_md_takeRow_26 (lv_at hl 3 rfl) ?_
        refine lv_aload_n hx hb d_md_takeRow_28 rfl (lv_at hl 0 rfl) ?_
        refine va_get (D := (dC, dI)) (ci := 8) (v := .ref (ad 7)) (C := R_md) (T := F_md) (N := 18) hx hb hts in_md hown hK hP 0 rfl rfl 14 (by decide) (hts _ kw_632) (fun _ h9 => h9) rfl d_md_takeRow_29 ?_
        refine lv_iload hx hb d_md_takeRow_32 (lv_at hl 3 rfl) ?_
        obtain ⟨hi_8, hv⟩ := hv
        refine va_iald hx hb hK hP 2 0 rfl rfl hi_8 d_md_takeRow_34 ?_
        refine lv_i2l (v := ((md_work_4 x4_3.toNatClampNeg) : Int32).toInt64) hx hb d_md_takeRow_35 rfl ?_
        refine lv_lload_n hx hb d_md_takeRow_36 rfl (lv_at hl 2 rfl) ?_
        refine lv_aload_n hx hb d_md_takeRow_37 rfl (lv_at hl 0 rfl) ?_
        refine va_get (D := (dC, dI)) (ci := 8) (v := .ref (ad 6)) (C := R_md) (T := F_md) (N := 18) hx hb hts in_md hown hK hP 0 rfl rfl 13 (by decide) (hts _ kw_631) (fun _ h9 => h9) rfl d_md_takeRow_38 ?_
        refine lv_bipush (v := 126) hx hb d_md_takeRow_41 (by decide) ?_
        refine lv_iload_n hx hb d_md_takeRow_43 rfl (lv_at hl 1 rfl) ?_
        refine lv_imul hx hb d_md_takeRow_44 ?_
        refine lv_iload hx hb d_md_takeRow_45 (lv_at hl 3 rfl) ?_
        refine lv_iadd hx hb d_md_takeRow_47 ?_
        obtain ⟨hi_9, hv⟩ := hv
        refine va_iald hx hb hK hP 1 0 rfl rfl hi_9 d_md_takeRow_48 ?_
        refine lv_i2l (v := ((md_row (((126 * p0) + x4_3)).toNatClampNeg) : Int32).toInt64) hx hb d_md_takeRow_49 rfl ?_
        refine lv_lmul hx hb d_md_takeRow_50 ?_
        refine lv_ladd hx hb d_md_takeRow_51 ?_
        refine lv_aload_n hx hb d_md_takeRow_52 rfl (lv_at hl 0 rfl) ?_
        refine va_get (D := (dC, dI)) (ci := 8) (v := .int md_p) (C := R_md) (T := F_md) (N := 18) hx hb hts in_md hown hK hP 0 rfl rfl 1 (by decide) (hts _ kw_619) (fun _ h9 => h9) rfl d_md_takeRow_53 ?_
        refine lv_i2l (v := (md_p : Int32).toInt64) hx hb d_md_takeRow_56 rfl ?_
        obtain ⟨hz_10, hv⟩ := hv
        refine lv_lrem hx hb d_md_takeRow_57 hz_10 ?_
        refine lv_l2i (v := (((((md_work_4 x4_3.toNatClampNeg) : Int32).toInt64 + (x2_2 * ((md_row (((126 * p0) + x4_3)).toNatClampNeg) : Int32).toInt64)) - (((md_work_4 x4_3.toNatClampNeg) : Int32).toInt64 + (x2_2 * ((md_row (((126 * p0) + x4_3)).toNatClampNeg) : Int32).toInt64)) / (md_p : Int32).toInt64 * (md_p : Int32).toInt64) : Int64).toInt32) hx hb d_md_takeRow_58 rfl ?_
        obtain ⟨hi_11, hv⟩ := hv
        refine va_iast hx hb hK hP hD hS 2 0 rfl rfl hi_11 d_md_takeRow_59 (fun H locs hP hD hS => ?_)
        have hP : va_P (dC, dI) vwCl [((ad 0), .inr (8, [.int md_thrownCode, .int md_p, .int md_n, .int md_order, .int md_monomials, .ref (ad 1), .ref (ad 2), .int md_generators, .ref (ad 3), .ref (ad 4), .int md_found, .int md_upTo, .ref (ad 5), .ref (ad 6), .ref (ad 7), .ref (ad 8), .int md_members, .int md_provedNow])), ((ad 6), .inl (cs 0, 15876, .inl md_row)), ((ad 7), .inl (cs 0, 126, .inl (upd md_work_4 x4_3.toNatClampNeg (((((md_work_4 x4_3.toNatClampNeg) : Int32).toInt64 + (x2_2 * ((md_row (((126 * p0) + x4_3)).toNatClampNeg) : Int32).toInt64)) - (((md_work_4 x4_3.toNatClampNeg) : Int32).toInt64 + (x2_2 * ((md_row (((126 * p0) + x4_3)).toNatClampNeg) : Int32).toInt64)) / (md_p : Int32).toInt64 * (md_p : Int32).toInt64) : Int64).toInt32)))] H := hP
        have hD : va_D A [((ad 0), .inr (8, [.int md_thrownCode, .int md_p, .int md_n, .int md_order, .int md_monomials, .ref (ad 1), .ref (ad 2), .int md_generators, .ref (ad 3), .ref (ad 4), .int md_found, .int md_upTo, .ref (ad 5), .ref (ad 6), .ref (ad 7), .ref (ad 8), .int md_members, .int md_provedNow])), ((ad 6), .inl (cs 0, 15876, .inl md_row)), ((ad 7), .inl (cs 0, 126, .inl (upd md_work_4 x4_3.toNatClampNeg (((((md_work_4 x4_3.toNatClampNeg) : Int32).toInt64 + (x2_2 * ((md_row (((126 * p0) + x4_3)).toNatClampNeg) : Int32).toInt64)) - (((md_work_4 x4_3.toNatClampNeg) : Int32).toInt64 + (x2_2 * ((md_row (((126 * p0) + x4_3)).toNatClampNeg) : Int32).toInt64)) / (md_p : Int32).toInt64 * (md_p : Int32).toInt64) : Int64).toInt32)))] := hD
        generalize emd_work_12 : upd md_work_4 x4_3.toNatClampNeg (((((md_work_4 x4_3.toNatClampNeg) : Int32).toInt64 + (x2_2 * ((md_row (((126 * p0) + x4_3)).toNatClampNeg) : Int32).toInt64)) - (((md_work_4 x4_3.toNatClampNeg) : Int32).toInt64 + (x2_2 * ((md_row (((126 * p0) + x4_3)).toNatClampNeg) : Int32).toInt64)) / (md_p : Int32).toInt64 * (md_p : Int32).toInt64) : Int64).toInt32 = md_work_12 at hP hD
        have hv := hv md_work_12 emd_work_12.symm
        obtain ⟨x4_13, ex4_13⟩ : ∃ y : Int32, y = x4_3 + 1 := ⟨_, rfl⟩
        have hv := hv x4_13 ex4_13
        refine lv_iinc (v := x4_13) (lv' := [(4, .int x4_13), (0, .ref (ad 0)), (1, .int p0), (2, .long x2_2)]) hx hb d_md_takeRow_60 hl (k := 3) rfl (by rw [ex4_13]; rfl) (by decide) rfl (fun ls hl => ?_)
        refine lv_goto (tgt := 16) hx hb d_md_takeRow_63 (by decide) ?_
        exact ih16 x4_13 md_work_12 (Nat.lt_of_lt_of_le hv.2 (Nat.le_of_lt_succ hlt16)) hv.1 _ _ _ (hP.sub [0, 1, 2] rfl) (hD.sub [0, 1, 2] (by decide) rfl) hS (lv_sub hl [1, 2, 3, 0] rfl)
  exact loop16 _ 0 md_work (Nat.lt_succ_self _) hi0 _ _ _ hP hD hS hl
abbrev b_md_reduce : ByteArray := prog_10_method_10_code
def y_md_reduce : MethodName := ⟨"SpaceBasisModel", "reduce", "()I"⟩
def w_md_reduce : List Cond := Cond.code y_md_reduce b_md_reduce 3 (some .int) :: vwWS
theorem d_md_reduce_0 : decode b_md_reduce 0 = .ok (.iconst (-1), 1) := by decide +kernel
theorem d_md_reduce_1 : decode b_md_reduce 1 = .ok (.istore_n 1, 1) := by decide +kernel
theorem d_md_reduce_2 : decode b_md_reduce 2 = .ok (.aload_n 0, 1) := by decide +kernel
theorem d_md_reduce_3 : decode b_md_reduce 3 = .ok (.getfield 22, 3) := by decide +kernel
theorem d_md_reduce_6 : decode b_md_reduce 6 = .ok (.iconst 1, 1) := by decide +kernel
theorem d_md_reduce_7 : decode b_md_reduce 7 = .ok (.isub, 1) := by decide +kernel
theorem d_md_reduce_8 : decode b_md_reduce 8 = .ok (.istore_n 2, 1) := by decide +kernel
theorem d_md_reduce_9 : decode b_md_reduce 9 = .ok (.iload_n 2, 1) := by decide +kernel
theorem d_md_reduce_10 : decode b_md_reduce 10 = .ok (.ifCond .lt 41, 3) := by decide +kernel
theorem d_md_reduce_13 : decode b_md_reduce 13 = .ok (.aload_n 0, 1) := by decide +kernel
theorem d_md_reduce_14 : decode b_md_reduce 14 = .ok (.getfield 55, 3) := by decide +kernel
theorem d_md_reduce_17 : decode b_md_reduce 17 = .ok (.iload_n 2, 1) := by decide +kernel
theorem d_md_reduce_18 : decode b_md_reduce 18 = .ok (.iaload, 1) := by decide +kernel
theorem d_md_reduce_19 : decode b_md_reduce 19 = .ok (.ifCond .eq 26, 3) := by decide +kernel
theorem d_md_reduce_22 : decode b_md_reduce 22 = .ok (.aload_n 0, 1) := by decide +kernel
theorem d_md_reduce_23 : decode b_md_reduce 23 = .ok (.getfield 48, 3) := by decide +kernel
theorem d_md_reduce_26 : decode b_md_reduce 26 = .ok (.iload_n 2, 1) := by decide +kernel
theorem d_md_reduce_27 : decode b_md_reduce 27 = .ok (.baload, 1) := by decide +kernel
theorem d_md_reduce_28 : decode b_md_reduce 28 = .ok (.ifCond .eq 11, 3) := by decide +kernel
theorem d_md_reduce_31 : decode b_md_reduce 31 = .ok (.aload_n 0, 1) := by decide +kernel
theorem d_md_reduce_32 : decode b_md_reduce 32 = .ok (.iload_n 2, 1) := by decide +kernel
theorem d_md_reduce_33 : decode b_md_reduce 33 = .ok (.invokevirtual 90, 3) := by decide +kernel
theorem d_md_reduce_36 : decode b_md_reduce 36 = .ok (.goto 9, 3) := by decide +kernel
theorem d_md_reduce_39 : decode b_md_reduce 39 = .ok (.iload_n 1, 1) := by decide +kernel
theorem d_md_reduce_40 : decode b_md_reduce 40 = .ok (.ifCond .ge 5, 3) := by decide +kernel
theorem d_md_reduce_43 : decode b_md_reduce 43 = .ok (.iload_n 2, 1) := by decide +kernel
theorem d_md_reduce_44 : decode b_md_reduce 44 = .ok (.istore_n 1, 1) := by decide +kernel
theorem d_md_reduce_45 : decode b_md_reduce 45 = .ok (.iinc 2 (-1), 3) := by decide +kernel
theorem d_md_reduce_48 : decode b_md_reduce 48 = .ok (.goto (-39), 3) := by decide +kernel
theorem d_md_reduce_51 : decode b_md_reduce 51 = .ok (.iload_n 1, 1) := by decide +kernel
theorem d_md_reduce_52 : decode b_md_reduce 52 = .ok (.ireturn, 1) := by decide +kernel
/-- SpaceBasisModel.reduce()I -/
def vc_md_reduce (md_thrownCode : Int32) (md_p : Int32) (md_n : Int32) (md_order : Int32) (md_monomials : Int32) (md_generators : Int32) (md_found : Int32) (md_upTo : Int32) (md_members : Int32) (md_provedNow : Int32) (md_has : Nat → Int32) (md_row : Nat → Int32) (md_work : Nat → Int32) (Q : Int32 → (Nat → Int32) → Prop) : Prop :=
  ∀ x2_1 : Int32, x2_1 = (md_monomials - 1) → ∃ (I9_5 : Int32 → Int32 → (Nat → Int32) → Prop) (mu9_6 : Int32 → Int32 → (Nat → Int32) → Nat), I9_5 (-1) x2_1 md_work ∧ ∀ (x1_2 : Int32) (x2_3 : Int32) (md_work_4 : Nat → Int32), I9_5 x1_2 x2_3 md_work_4 → ((((x2_3 < 0) → (Q x1_2 md_work_4)) ∧ ((¬ (x2_3 < 0)) → (vp_in x2_3 126 ∧ ((((md_work_4 x2_3.toNatClampNeg) = 0) → (∀ x2_10 : Int32, x2_10 = x2_3 + (-1) → (I9_5 x1_2 x2_10 md_work_4 ∧ mu9_6 x1_2 x2_10 md_work_4 < mu9_6 x1_2 x2_3 md_work_4))) ∧ ((¬ ((md_work_4 x2_3.toNatClampNeg) = 0)) → (vp_in x2_3 126 ∧ ((((md_has x2_3.toNatClampNeg) = 0) → ((((0 ≤ x1_2) → (∀ x2_14 : Int32, x2_14 = x2_3 + (-1) → (I9_5 x1_2 x2_14 md_work_4 ∧ mu9_6 x1_2 x2_14 md_work_4 < mu9_6 x1_2 x2_3 md_work_4))) ∧ ((¬ (0 ≤ x1_2)) → (∀ x2_15 : Int32, x2_15 = x2_3 + (-1) → (I9_5 x2_3 x2_15 md_work_4 ∧ mu9_6 x2_3 x2_15 md_work_4 < mu9_6 x1_2 x2_3 md_work_4)))))) ∧ ((¬ ((md_has x2_3.toNatClampNeg) = 0)) → (vc_md_takeRow md_thrownCode md_p md_n md_order md_monomials md_generators md_found md_upTo md_members md_provedNow md_row md_work_4 x2_3 (fun (md_work_16 : Nat → Int32) => ∀ x2_17 : Int32, x2_17 = x2_3 + (-1) → (I9_5 x1_2 x2_17 md_work_16 ∧ mu9_6 x1_2 x2_17 md_work_16 < mu9_6 x1_2 x2_3 md_work_4))))))))))))
abbrev at_md_reduce (dC : Nat → ClassId) (dI : Nat → Nat → Nat) (cs : Nat → ClassId) (A : Nat → Prop) (ad : Nat → Nat) (md_thrownCode : Int32) (md_p : Int32) (md_n : Int32) (md_order : Int32) (md_monomials : Int32) (md_generators : Int32) (md_found : Int32) (md_upTo : Int32) (md_members : Int32) (md_provedNow : Int32) (md_has : Nat → Int32) (md_row : Nat → Int32) (u : (Nat → Int32)) (t : State) : Prop := match u with
  | md_work => va_P (dC, dI) vwCl [((ad 0), .inr (8, [.int md_thrownCode, .int md_p, .int md_n, .int md_order, .int md_monomials, .ref (ad 1), .ref (ad 2), .int md_generators, .ref (ad 3), .ref (ad 4), .int md_found, .int md_upTo, .ref (ad 5), .ref (ad 6), .ref (ad 7), .ref (ad 8), .int md_members, .int md_provedNow])), ((ad 5), .inl (cs 2, 126, .inl md_has)), ((ad 6), .inl (cs 0, 15876, .inl md_row)), ((ad 7), .inl (cs 0, 126, .inl md_work))] t.heap ∧ va_D A [((ad 0), .inr (8, [.int md_thrownCode, .int md_p, .int md_n, .int md_order, .int md_monomials, .ref (ad 1), .ref (ad 2), .int md_generators, .ref (ad 3), .ref (ad 4), .int md_found, .int md_upTo, .ref (ad 5), .ref (ad 6), .ref (ad 7), .ref (ad 8), .int md_members, .int md_provedNow])), ((ad 5), .inl (cs 2, 126, .inl md_has)), ((ad 6), .inl (cs 0, 15876, .inl md_row)), ((ad 7), .inl (cs 0, 126, .inl md_work))]
set_option maxHeartbeats 4000000 in
set_option maxRecDepth 100000 in
theorem c_md_reduce (l : Launch) (dC : Nat → ClassId) (dI : Nat → Nat → Nat) (cs : Nat → ClassId) (ad : Nat → Nat)  (sz : Nat) (md_thrownCode : Int32) (md_p : Int32) (md_n : Int32) (md_order : Int32) (md_monomials : Int32) (md_generators : Int32) (md_found : Int32) (md_upTo : Int32) (md_members : Int32) (md_provedNow : Int32) (md_has : Nat → Int32) (md_row : Nat → Int32) (md_work : Nat → Int32) (Q : Int32 → (Nat → Int32) → Prop) (hv : vc_md_reduce md_thrownCode md_p md_n md_order md_monomials md_generators md_found md_upTo md_members md_provedNow md_has md_row md_work Q) : Met l y_md_reduce w_md_reduce ({ frames := 1, cells := 0, slots := 0, locals := 24 }) (va_Pc [.ref (ad 0)] (fun U => U.heap.size = sz ∧ va_P (dC, dI) vwCl [((ad 0), .inr (8, [.int md_thrownCode, .int md_p, .int md_n, .int md_order, .int md_monomials, .ref (ad 1), .ref (ad 2), .int md_generators, .ref (ad 3), .ref (ad 4), .int md_found, .int md_upTo, .ref (ad 5), .ref (ad 6), .ref (ad 7), .ref (ad 8), .int md_members, .int md_provedNow])), ((ad 5), .inl (cs 2, 126, .inl md_has)), ((ad 6), .inl (cs 0, 15876, .inl md_row)), ((ad 7), .inl (cs 0, 126, .inl md_work))] U.heap ∧ vwK dC dI cs U ∧ va_D (fun _ => True) [((ad 0), .inr (8, [.int md_thrownCode, .int md_p, .int md_n, .int md_order, .int md_monomials, .ref (ad 1), .ref (ad 2), .int md_generators, .ref (ad 3), .ref (ad 4), .int md_found, .int md_upTo, .ref (ad 5), .ref (ad 6), .ref (ad 7), .ref (ad 8), .int md_members, .int md_provedNow])), ((ad 5), .inl (cs 2, 126, .inl md_has)), ((ad 6), .inl (cs 0, 15876, .inl md_row)), ((ad 7), .inl (cs 0, 126, .inl md_work))])) (va_Qi (fun (r : Int32) (u : (Nat → Int32)) => Q r u) (at_md_reduce dC dI cs (va_A [((ad 0), .inr (8, [.int md_thrownCode, .int md_p, .int md_n, .int md_order, .int md_monomials, .ref (ad 1), .ref (ad 2), .int md_generators, .ref (ad 3), .ref (ad 4), .int md_found, .int md_upTo, .ref (ad 5), .ref (ad 6), .ref (ad 7), .ref (ad 8), .int md_members, .int md_provedNow])), ((ad 5), .inl (cs 2, 126, .inl md_has)), ((ad 6), .inl (cs 0, 15876, .inl md_row)), ((ad 7), .inl (cs 0, 126, .inl md_work))] sz) ad md_thrownCode md_p md_n md_order md_monomials md_generators md_found md_upTo md_members md_provedNow md_has md_row) (va_A [((ad 0), .inr (8, [.int md_thrownCode, .int md_p, .int md_n, .int md_order, .int md_monomials, .ref (ad 1), .ref (ad 2), .int md_generators, .ref (ad 3), .ref (ad 4), .int md_found, .int md_upTo, .ref (ad 5), .ref (ad 6), .ref (ad 7), .ref (ad 8), .int md_members, .int md_provedNow])), ((ad 5), .inl (cs 2, 126, .inl md_has)), ((ad 6), .inl (cs 0, 15876, .inl md_row)), ((ad 7), .inl (cs 0, 126, .inl md_work))] sz)) 0 0 (va_A [((ad 0), .inr (8, [.int md_thrownCode, .int md_p, .int md_n, .int md_order, .int md_monomials, .ref (ad 1), .ref (ad 2), .int md_generators, .ref (ad 3), .ref (ad 4), .int md_found, .int md_upTo, .ref (ad 5), .ref (ad 6), .ref (ad 7), .ref (ad 8), .int md_members, .int md_provedNow])), ((ad 5), .inl (cs 2, 126, .inl md_has)), ((ad 6), .inl (cs 0, 15876, .inl md_row)), ((ad 7), .inl (cs 0, 126, .inl md_work))] sz) := by
  unfold vc_md_reduce at hv
  refine Met.ofW (cc := b_md_reduce) (maxL := 3) (ret := (some .int)) (by decide) rfl ?_
  intro p e s m args below meth c s₁ B hml hpc
  obtain ⟨rfl, hsz, hP, ⟨hK, hN⟩, hD0⟩ := hpc
  have hx := B.exec
  have hb := B.bytes
  have hr := B.returns
  have hts : ∀ w ∈ vwWS, w.before _ s = true := fun w h => atoms_spec (ws := w_md_reduce) B.pre w (List.mem_cons_of_mem _ h)
  have hown : s.vm.findClass "SpaceBasisModel" = some m.cls := findClass_of_methodNamed B.named
  have hlocks := B.notSynchronized
  subst hsz
  have hD := hD0.self (sz := s.heap.size)
  generalize hAe : va_A [((ad 0), .inr (8, [.int md_thrownCode, .int md_p, .int md_n, .int md_order, .int md_monomials, .ref (ad 1), .ref (ad 2), .int md_generators, .ref (ad 3), .ref (ad 4), .int md_found, .int md_upTo, .ref (ad 5), .ref (ad 6), .ref (ad 7), .ref (ad 8), .int md_members, .int md_provedNow])), ((ad 5), .inl (cs 2, 126, .inl md_has)), ((ad 6), .inl (cs 0, 15876, .inl md_row)), ((ad 7), .inl (cs 0, 126, .inl md_work))] s.heap.size = A at hD ⊢
  have hA : ∀ q : Nat, s.heap.size ≤ q → A q := fun q h => by rw [← hAe]; exact Or.inr h
  have hS : va_S A s.heap s.heap [] := va_S.rf
  have hl := lv_entry ([.ref (ad 0)]) (n := 3) (Nat.le_of_ble_eq_true rfl)
  rw [lg_entry_eq]
  generalize (lg_sl ([.ref (ad 0)]) ++ List.replicate (3 - (lg_sl ([.ref (ad 0)])).length) Slot.unset).toArray = ls at hl ⊢
  have hl : lv_has ls 3 [(0, .ref (ad 0))] := hl
  refine lv_iconst (v := (-1)) hx hb d_md_reduce_0 (by decide) ?_
  refine lv_istore_n (lv' := [(1, .int (-1)), (0, .ref (ad 0))]) hx hb d_md_reduce_1 rfl hl (by decide) rfl (fun ls hl => ?_)
  refine lv_aload_n hx hb d_md_reduce_2 rfl (lv_at hl 1 rfl) ?_
  refine va_get (D := (dC, dI)) (ci := 8) (v := .int md_monomials) (C := R_md) (T := F_md) (N := 18) hx hb hts in_md hown hK hP 0 rfl rfl 4 (by decide) (hts _ kw_622) (fun _ h9 => h9) rfl d_md_reduce_3 ?_
  refine lv_iconst (v := 1) hx hb d_md_reduce_6 (by decide) ?_
  refine lv_isub hx hb d_md_reduce_7 ?_
  refine lv_topi (fun x2_1 ex2_1 => ?_)
  have hv := hv x2_1 ex2_1
  refine lv_istore_n (lv' := [(2, .int x2_1), (1, .int (-1)), (0, .ref (ad 0))]) hx hb d_md_reduce_8 rfl hl (by decide) rfl (fun ls hl => ?_)
  obtain ⟨I9_5, mu9_6, hi0, hv⟩ := hv
  have hP := hP.sub (ws' := [((ad 0), .inr (8, [.int md_thrownCode, .int md_p, .int md_n, .int md_order, .int md_monomials, .ref (ad 1), .ref (ad 2), .int md_generators, .ref (ad 3), .ref (ad 4), .int md_found, .int md_upTo, .ref (ad 5), .ref (ad 6), .ref (ad 7), .ref (ad 8), .int md_members, .int md_provedNow])), ((ad 5), .inl (cs 2, 126, .inl md_has)), ((ad 6), .inl (cs 0, 15876, .inl md_row)), ((ad 7), .inl (cs 0, 126, .inl md_work))]) [0, 1, 2, 3] rfl
  have hD := hD.sub (ws' := [((ad 0), .inr (8, [.int md_thrownCode, .int md_p, .int md_n, .int md_order, .int md_monomials, .ref (ad 1), .ref (ad 2), .int md_generators, .ref (ad 3), .ref (ad 4), .int md_found, .int md_upTo, .ref (ad 5), .ref (ad 6), .ref (ad 7), .ref (ad 8), .int md_members, .int md_provedNow])), ((ad 5), .inl (cs 2, 126, .inl md_has)), ((ad 6), .inl (cs 0, 15876, .inl md_row)), ((ad 7), .inl (cs 0, 126, .inl md_work))]) [0, 1, 2, 3] (by decide) rfl
  have hl := lv_sub (l' := [(0, .ref (ad 0)), (1, .int (-1)), (2, .int x2_1)]) hl [2, 1, 0] rfl
  have loop9 : ∀ (nn : Nat) (x1_2 : Int32) (x2_3 : Int32) (md_work_4 : Nat → Int32), mu9_6 x1_2 x2_3 md_work_4 < nn → I9_5 x1_2 x2_3 md_work_4 → ∀ (H : Heap) (locs : List Loc) (ls : Array Slot), va_P (dC, dI) vwCl [((ad 0), .inr (8, [.int md_thrownCode, .int md_p, .int md_n, .int md_order, .int md_monomials, .ref (ad 1), .ref (ad 2), .int md_generators, .ref (ad 3), .ref (ad 4), .int md_found, .int md_upTo, .ref (ad 5), .ref (ad 6), .ref (ad 7), .ref (ad 8), .int md_members, .int md_provedNow])), ((ad 5), .inl (cs 2, 126, .inl md_has)), ((ad 6), .inl (cs 0, 15876, .inl md_row)), ((ad 7), .inl (cs 0, 126, .inl md_work_4))] H → va_D A [((ad 0), .inr (8, [.int md_thrownCode, .int md_p, .int md_n, .int md_order, .int md_monomials, .ref (ad 1), .ref (ad 2), .int md_generators, .ref (ad 3), .ref (ad 4), .int md_found, .int md_upTo, .ref (ad 5), .ref (ad 6), .ref (ad 7), .ref (ad 8), .int md_members, .int md_provedNow])), ((ad 5), .inl (cs 2, 126, .inl md_has)), ((ad 6), .inl (cs 0, 15876, .inl md_row)), ((ad 7), .inl (cs 0, 126, .inl md_work_4))] → va_S A s.heap H locs → lv_has ls 3 [(0, .ref (ad 0)), (1, .int x1_2), (2, .int x2_3)] → W p l e (headSpec w_md_reduce { frames := 1, cells := 0, slots := 0, locals := 24 }).room s m ([.ref (ad 0)] : List Value).toArray below meth c H locs 0 0 (MQ below (va_Qi (fun (r : Int32) (u : (Nat → Int32)) => Q r u) (at_md_reduce dC dI cs A ad md_thrownCode md_p md_n md_order md_monomials md_generators md_found md_upTo md_members md_provedNow md_has md_row) A) ([.ref (ad 0)] : List Value).toArray s 0 0 A) (F0 m 9 ls []) := by
    intro nn
    induction nn with
    | zero => intro x1_2 x2_3 md_work_4 hlt; exact absurd hlt (Nat.not_lt_zero _)
    | succ nn ih9 =>
      intro x1_2 x2_3 md_work_4 hlt9 hI H locs ls hP hD hS hl
      have hv := hv x1_2 x2_3 md_work_4 hI
      refine lv_iload_n hx hb d_md_reduce_9 rfl (lv_at hl 2 rfl) ?_
      refine lv_if_lt (tgt := 51) hx hb d_md_reduce_10 (by decide) (fun c_7 => ?_) (fun c_7 => ?_)
      · have hv := hv.1 c_7
        refine lv_iload_n hx hb d_md_reduce_51 rfl (lv_at hl 1 rfl) ?_
        have hP9 := hP.sub (ws' := [((ad 0), .inr (8, [.int md_thrownCode, .int md_p, .int md_n, .int md_order, .int md_monomials, .ref (ad 1), .ref (ad 2), .int md_generators, .ref (ad 3), .ref (ad 4), .int md_found, .int md_upTo, .ref (ad 5), .ref (ad 6), .ref (ad 7), .ref (ad 8), .int md_members, .int md_provedNow])), ((ad 5), .inl (cs 2, 126, .inl md_has)), ((ad 6), .inl (cs 0, 15876, .inl md_row)), ((ad 7), .inl (cs 0, 126, .inl md_work_4))]) [0, 1, 2, 3] rfl
        have hD9 := hD.sub (ws' := [((ad 0), .inr (8, [.int md_thrownCode, .int md_p, .int md_n, .int md_order, .int md_monomials, .ref (ad 1), .ref (ad 2), .int md_generators, .ref (ad 3), .ref (ad 4), .int md_found, .int md_upTo, .ref (ad 5), .ref (ad 6), .ref (ad 7), .ref (ad 8), .int md_members, .int md_provedNow])), ((ad 5), .inl (cs 2, 126, .inl md_has)), ((ad 6), .inl (cs 0, 15876, .inl md_row)), ((ad 7), .inl (cs 0, 126, .inl md_work_4))]) [0, 1, 2, 3] (by decide) rfl
        exact W.iret (v := x1_2) hx hb hr (fun t ht hW => ⟨⟨x1_2, md_work_4, rfl, hv, by rw [ht]; exact hP9, hD9⟩, hS.F ht⟩) hS.2.2 d_md_reduce_52
      · have hv := hv.2 c_7
        refine lv_aload_n hx hb d_md_reduce_13 rfl (lv_at hl 0 rfl) ?_
        refine va_get (D := (dC, dI)) (ci := 8) (v := .ref (ad 7)) (C := R_md) (T := F_md) (N := 18) hx hb hts in_md hown hK hP 0 rfl rfl 14 (by decide) (hts _ kw_632) (fun _ h9 => h9) rfl d_md_reduce_14 ?_
        refine lv_iload_n hx hb d_md_reduce_17 rfl (lv_at hl 2 rfl) ?_
        obtain ⟨hi_8, hv⟩ := hv
        refine va_iald hx hb hK hP 3 0 rfl rfl hi_8 d_md_reduce_18 ?_
        refine lv_if_eq (tgt := 45) hx hb d_md_reduce_19 (by decide) (fun c_9 => ?_) (fun c_9 => ?_)
        · have hv := hv.1 c_9
          obtain ⟨x2_10, ex2_10⟩ : ∃ y : Int32, y = x2_3 + (-1) := ⟨_, rfl⟩
          have hv := hv x2_10 ex2_10
          refine lv_iinc (v := x2_10) (lv' := [(2, .int x2_10), (0, .ref (ad 0)), (1, .int x1_2)]) hx hb d_md_reduce_45 hl (k := 2) rfl (by rw [ex2_10]; rfl) (by decide) rfl (fun ls hl => ?_)
          refine lv_goto (tgt := 9) hx hb d_md_reduce_48 (by decide) ?_
          exact ih9 x1_2 x2_10 md_work_4 (Nat.lt_of_lt_of_le hv.2 (Nat.le_of_lt_succ hlt9)) hv.1 _ _ _ (hP.sub [0, 1, 2, 3] rfl) (hD.sub [0, 1, 2, 3] (by decide) rfl) hS (lv_sub hl [1, 2, 0] rfl)
        · have hv := hv.2 c_9
          refine lv_aload_n hx hb d_md_reduce_22 rfl (lv_at hl 0 rfl) ?_
          refine va_get (D := (dC, dI)) (ci := 8) (v := .ref (ad 5)) (C := R_md) (T := F_md) (N := 18) hx hb hts in_md hown hK hP 0 rfl rfl 12 (by decide) (hts _ kw_630) (fun _ h9 => h9) rfl d_md_reduce_23 ?_
          refine lv_iload_n hx hb d_md_reduce_26 rfl (lv_at hl 2 rfl) ?_
          obtain ⟨hi_11, hv⟩ := hv
          refine va_zald hx hb hK hP 1 2 rfl rfl hi_11 d_md_reduce_27 ?_
          refine lv_if_eq (tgt := 39) hx hb d_md_reduce_28 (by decide) (fun c_12 => ?_) (fun c_12 => ?_)
          · have hv := hv.1 c_12
            refine lv_iload_n hx hb d_md_reduce_39 rfl (lv_at hl 1 rfl) ?_
            refine lv_if_ge (tgt := 45) hx hb d_md_reduce_40 (by decide) (fun c_13 => ?_) (fun c_13 => ?_)
            · have hv := hv.1 c_13
              obtain ⟨x2_14, ex2_14⟩ : ∃ y : Int32, y = x2_3 + (-1) := ⟨_, rfl⟩
              have hv := hv x2_14 ex2_14
              refine lv_iinc (v := x2_14) (lv' := [(2, .int x2_14), (0, .ref (ad 0)), (1, .int x1_2)]) hx hb d_md_reduce_45 hl (k := 2) rfl (by rw [ex2_14]; rfl) (by decide) rfl (fun ls hl => ?_)
              refine lv_goto (tgt := 9) hx hb d_md_reduce_48 (by decide) ?_
              exact ih9 x1_2 x2_14 md_work_4 (Nat.lt_of_lt_of_le hv.2 (Nat.le_of_lt_succ hlt9)) hv.1 _ _ _ (hP.sub [0, 1, 2, 3] rfl) (hD.sub [0, 1, 2, 3] (by decide) rfl) hS (lv_sub hl [1, 2, 0] rfl)
            · have hv := hv.2 c_13
              refine lv_iload_n hx hb d_md_reduce_43 rfl (lv_at hl 2 rfl) ?_
              refine lv_istore_n (lv' := [(1, .int x2_3), (0, .ref (ad 0)), (2, .int x2_3)]) hx hb d_md_reduce_44 rfl hl (by decide) rfl (fun ls hl => ?_)
              obtain ⟨x2_15, ex2_15⟩ : ∃ y : Int32, y = x2_3 + (-1) := ⟨_, rfl⟩
              have hv := hv x2_15 ex2_15
              refine lv_iinc (v := x2_15) (lv' := [(2, .int x2_15), (1, .int x2_3), (0, .ref (ad 0))]) hx hb d_md_reduce_45 hl (k := 2) rfl (by rw [ex2_15]; rfl) (by decide) rfl (fun ls hl => ?_)
              refine lv_goto (tgt := 9) hx hb d_md_reduce_48 (by decide) ?_
              exact ih9 x2_3 x2_15 md_work_4 (Nat.lt_of_lt_of_le hv.2 (Nat.le_of_lt_succ hlt9)) hv.1 _ _ _ (hP.sub [0, 1, 2, 3] rfl) (hD.sub [0, 1, 2, 3] (by decide) rfl) hS (lv_sub hl [2, 1, 0] rfl)
          · have hv := hv.2 c_12
            refine lv_aload_n hx hb d_md_reduce_31 rfl (lv_at hl 0 rfl) ?_
            refine lv_iload_n hx hb d_md_reduce_32 rfl (lv_at hl 2 rfl) ?_
            have hPc := hP.sub (ws' := [((ad 0), .inr (8, [.int md_thrownCode, .int md_p, .int md_n, .int md_order, .int md_monomials, .ref (ad 1), .ref (ad 2), .int md_generators, .ref (ad 3), .ref (ad 4), .int md_found, .int md_upTo, .ref (ad 5), .ref (ad 6), .ref (ad 7), .ref (ad 8), .int md_members, .int md_provedNow])), ((ad 6), .inl (cs 0, 15876, .inl md_row)), ((ad 7), .inl (cs 0, 126, .inl md_work_4))]) [0, 2, 3] rfl
            have hDc := hD.sub (ws' := [((ad 0), .inr (8, [.int md_thrownCode, .int md_p, .int md_n, .int md_order, .int md_monomials, .ref (ad 1), .ref (ad 2), .int md_generators, .ref (ad 3), .ref (ad 4), .int md_found, .int md_upTo, .ref (ad 5), .ref (ad 6), .ref (ad 7), .ref (ad 8), .int md_members, .int md_provedNow])), ((ad 6), .inl (cs 0, 15876, .inl md_row)), ((ad 7), .inl (cs 0, 126, .inl md_work_4))]) [0, 2, 3] (by decide) rfl
            have hFc := va_free (wc := [((ad 0), .inr (8, [.int md_thrownCode, .int md_p, .int md_n, .int md_order, .int md_monomials, .ref (ad 1), .ref (ad 2), .int md_generators, .ref (ad 3), .ref (ad 4), .int md_found, .int md_upTo, .ref (ad 5), .ref (ad 6), .ref (ad 7), .ref (ad 8), .int md_members, .int md_provedNow])), ((ad 6), .inl (cs 0, 15876, .inl md_row)), ((ad 7), .inl (cs 0, 126, .inl md_work_4))]) hD hS hA [0, 2, 3] rfl
            refine va_callv (va_runV (As := [.int x2_3]) (rest := []) ⟨hx, hb, hml, hown, hts⟩ (c_md_takeRow l dC dI cs ad  H.size md_thrownCode md_p md_n md_order md_monomials md_generators md_found md_upTo md_members md_provedNow md_row md_work_4 x2_3 _ hv) (cwV 1 hts (gd_V kw_720 kw_721 kw_25 kw_41 kw_722) rfl rfl rfl (by decide +kernel) ⟨Nat.le_of_ble_eq_true rfl, Nat.le_of_ble_eq_true rfl⟩) ⟨fun a U g mk q => by obtain ⟨q0, q1, qP, qK, qD⟩ := q; exact ⟨q0, q1, qP, qK.call, qD⟩, va_recv hK hPc (ci := 8) (q0 := 0) rfl rfl, fun U hU hW => ⟨rfl, by rw [hU], by rw [hU]; exact hPc, vwK.warm hW ⟨hK, hN⟩, hDc.weaken (fun _ _ _ _ => trivial)⟩⟩ rfl rfl hl.1 rfl (lv_room (Nat.le_of_ble_eq_true rfl)) d_md_reduce_33 ⟨Nat.zero_le _, Nat.zero_le _⟩) hS (fun q _ h => hFc q h) hFc (fun md_work_16 t H1 locs1 ht hvm hw hB hz1 hk1 hS => ?_)
            obtain ⟨hP1, hD1⟩ := hB
            rw [ht] at hP1
            obtain ⟨hP, hD⟩ := va_join (wr := [((ad 5), .inl (cs 2, 126, .inl md_has))]) (w1 := [((ad 0), .inr (8, [.int md_thrownCode, .int md_p, .int md_n, .int md_order, .int md_monomials, .ref (ad 1), .ref (ad 2), .int md_generators, .ref (ad 3), .ref (ad 4), .int md_found, .int md_upTo, .ref (ad 5), .ref (ad 6), .ref (ad 7), .ref (ad 8), .int md_members, .int md_provedNow])), ((ad 6), .inl (cs 0, 15876, .inl md_row)), ((ad 7), .inl (cs 0, 126, .inl md_work_16))]) hP hD [0, 2, 3] [1] rfl rfl (by decide) (by decide) hk1 hFc hP1 hD1
            generalize H1 = H at hP hS ⊢
            generalize locs1 = locs at hS ⊢
            have hP : va_P (dC, dI) vwCl [((ad 5), .inl (cs 2, 126, .inl md_has)), ((ad 0), .inr (8, [.int md_thrownCode, .int md_p, .int md_n, .int md_order, .int md_monomials, .ref (ad 1), .ref (ad 2), .int md_generators, .ref (ad 3), .ref (ad 4), .int md_found, .int md_upTo, .ref (ad 5), .ref (ad 6), .ref (ad 7), .ref (ad 8), .int md_members, .int md_provedNow])), ((ad 6), .inl (cs 0, 15876, .inl md_row)), ((ad 7), .inl (cs 0, 126, .inl md_work_16))] H := hP
            have hD : va_D A [((ad 5), .inl (cs 2, 126, .inl md_has)), ((ad 0), .inr (8, [.int md_thrownCode, .int md_p, .int md_n, .int md_order, .int md_monomials, .ref (ad 1), .ref (ad 2), .int md_generators, .ref (ad 3), .ref (ad 4), .int md_found, .int md_upTo, .ref (ad 5), .ref (ad 6), .ref (ad 7), .ref (ad 8), .int md_members, .int md_provedNow])), ((ad 6), .inl (cs 0, 15876, .inl md_row)), ((ad 7), .inl (cs 0, 126, .inl md_work_16))] := hD
            have hv := hw
            try dsimp only at hv
            refine lv_goto (tgt := 45) hx hb d_md_reduce_36 (by decide) ?_
            obtain ⟨x2_17, ex2_17⟩ : ∃ y : Int32, y = x2_3 + (-1) := ⟨_, rfl⟩
            have hv := hv x2_17 ex2_17
            refine lv_iinc (v := x2_17) (lv' := [(2, .int x2_17), (0, .ref (ad 0)), (1, .int x1_2)]) hx hb d_md_reduce_45 hl (k := 2) rfl (by rw [ex2_17]; rfl) (by decide) rfl (fun ls hl => ?_)
            refine lv_goto (tgt := 9) hx hb d_md_reduce_48 (by decide) ?_
            exact ih9 x1_2 x2_17 md_work_16 (Nat.lt_of_lt_of_le hv.2 (Nat.le_of_lt_succ hlt9)) hv.1 _ _ _ (hP.sub [1, 0, 2, 3] rfl) (hD.sub [1, 0, 2, 3] (by decide) rfl) hS (lv_sub hl [1, 2, 0] rfl)
  exact loop9 _ (-1) x2_1 md_work (Nat.lt_succ_self _) hi0 _ _ _ hP hD hS hl
abbrev b_md_comes : ByteArray := prog_10_method_12_code
def y_md_comes : MethodName := ⟨"SpaceBasisModel", "comes", "()Z"⟩
def w_md_comes : List Cond := Cond.code y_md_comes b_md_comes 5 (some .boolean) :: vwWS
theorem d_md_comes_0 : decode b_md_comes 0 = .ok (.aload_n 0, 1) := by decide +kernel
theorem d_md_comes_1 : decode b_md_comes 1 = .ok (.invokevirtual 93, 3) := by decide +kernel
theorem d_md_comes_4 : decode b_md_comes 4 = .ok (.istore_n 1, 1) := by decide +kernel
theorem d_md_comes_5 : decode b_md_comes 5 = .ok (.iload_n 1, 1) := by decide +kernel
theorem d_md_comes_6 : decode b_md_comes 6 = .ok (.ifCond .ge 5, 3) := by decide +kernel
theorem d_md_comes_9 : decode b_md_comes 9 = .ok (.iconst 0, 1) := by decide +kernel
theorem d_md_comes_10 : decode b_md_comes 10 = .ok (.ireturn, 1) := by decide +kernel
theorem d_md_comes_11 : decode b_md_comes 11 = .ok (.aload_n 0, 1) := by decide +kernel
theorem d_md_comes_12 : decode b_md_comes 12 = .ok (.aload_n 0, 1) := by decide +kernel
theorem d_md_comes_13 : decode b_md_comes 13 = .ok (.getfield 55, 3) := by decide +kernel
theorem d_md_comes_16 : decode b_md_comes 16 = .ok (.iload_n 1, 1) := by decide +kernel
theorem d_md_comes_17 : decode b_md_comes 17 = .ok (.iaload, 1) := by decide +kernel
theorem d_md_comes_18 : decode b_md_comes 18 = .ok (.invokevirtual 97, 3) := by decide +kernel
theorem d_md_comes_21 : decode b_md_comes 21 = .ok (.i2l, 1) := by decide +kernel
theorem d_md_comes_22 : decode b_md_comes 22 = .ok (.lstore_n 2, 1) := by decide +kernel
theorem d_md_comes_23 : decode b_md_comes 23 = .ok (.iconst 0, 1) := by decide +kernel
theorem d_md_comes_24 : decode b_md_comes 24 = .ok (.istore 4, 2) := by decide +kernel
theorem d_md_comes_26 : decode b_md_comes 26 = .ok (.iload 4, 2) := by decide +kernel
theorem d_md_comes_28 : decode b_md_comes 28 = .ok (.aload_n 0, 1) := by decide +kernel
theorem d_md_comes_29 : decode b_md_comes 29 = .ok (.getfield 22, 3) := by decide +kernel
theorem d_md_comes_32 : decode b_md_comes 32 = .ok (.if_icmp .ge 38, 3) := by decide +kernel
theorem d_md_comes_35 : decode b_md_comes 35 = .ok (.aload_n 0, 1) := by decide +kernel
theorem d_md_comes_36 : decode b_md_comes 36 = .ok (.getfield 52, 3) := by decide +kernel
theorem d_md_comes_39 : decode b_md_comes 39 = .ok (.bipush 126, 2) := by decide +kernel
theorem d_md_comes_41 : decode b_md_comes 41 = .ok (.iload_n 1, 1) := by decide +kernel
theorem d_md_comes_42 : decode b_md_comes 42 = .ok (.imul, 1) := by decide +kernel
theorem d_md_comes_43 : decode b_md_comes 43 = .ok (.iload 4, 2) := by decide +kernel
theorem d_md_comes_45 : decode b_md_comes 45 = .ok (.iadd, 1) := by decide +kernel
theorem d_md_comes_46 : decode b_md_comes 46 = .ok (.aload_n 0, 1) := by decide +kernel
theorem d_md_comes_47 : decode b_md_comes 47 = .ok (.getfield 55, 3) := by decide +kernel
theorem d_md_comes_50 : decode b_md_comes 50 = .ok (.iload 4, 2) := by decide +kernel
theorem d_md_comes_52 : decode b_md_comes 52 = .ok (.iaload, 1) := by decide +kernel
theorem d_md_comes_53 : decode b_md_comes 53 = .ok (.i2l, 1) := by decide +kernel
theorem d_md_comes_54 : decode b_md_comes 54 = .ok (.lload_n 2, 1) := by decide +kernel
theorem d_md_comes_55 : decode b_md_comes 55 = .ok (.lmul, 1) := by decide +kernel
theorem d_md_comes_56 : decode b_md_comes 56 = .ok (.aload_n 0, 1) := by decide +kernel
theorem d_md_comes_57 : decode b_md_comes 57 = .ok (.getfield 13, 3) := by decide +kernel
theorem d_md_comes_60 : decode b_md_comes 60 = .ok (.i2l, 1) := by decide +kernel
theorem d_md_comes_61 : decode b_md_comes 61 = .ok (.lrem, 1) := by decide +kernel
theorem d_md_comes_62 : decode b_md_comes 62 = .ok (.l2i, 1) := by decide +kernel
theorem d_md_comes_63 : decode b_md_comes 63 = .ok (.iastore, 1) := by decide +kernel
theorem d_md_comes_64 : decode b_md_comes 64 = .ok (.iinc 4 1, 3) := by decide +kernel
theorem d_md_comes_67 : decode b_md_comes 67 = .ok (.goto (-41), 3) := by decide +kernel
theorem d_md_comes_70 : decode b_md_comes 70 = .ok (.aload_n 0, 1) := by decide +kernel
theorem d_md_comes_71 : decode b_md_comes 71 = .ok (.getfield 48, 3) := by decide +kernel
theorem d_md_comes_74 : decode b_md_comes 74 = .ok (.iload_n 1, 1) := by decide +kernel
theorem d_md_comes_75 : decode b_md_comes 75 = .ok (.iconst 1, 1) := by decide +kernel
theorem d_md_comes_76 : decode b_md_comes 76 = .ok (.bastore, 1) := by decide +kernel
theorem d_md_comes_77 : decode b_md_comes 77 = .ok (.iconst 1, 1) := by decide +kernel
theorem d_md_comes_78 : decode b_md_comes 78 = .ok (.ireturn, 1) := by decide +kernel
/-- SpaceBasisModel.comes()Z -/
def vc_md_comes (md_thrownCode : Int32) (md_p : Int32) (md_n : Int32) (md_order : Int32) (md_monomials : Int32) (md_generators : Int32) (md_found : Int32) (md_upTo : Int32) (md_members : Int32) (md_provedNow : Int32) (md_has : Nat → Int32) (md_row : Nat → Int32) (md_work : Nat → Int32) (Q : Int32 → (Nat → Int32) → (Nat → Int32) → (Nat → Int32) → Prop) : Prop :=
  vc_md_reduce md_thrownCode md_p md_n md_order md_monomials md_generators md_found md_upTo md_members md_provedNow md_has md_row md_work (fun (r_2 : Int32) (md_work_1 : Nat → Int32) => (((0 ≤ r_2) → (vp_in r_2 126 ∧ vc_md_inverse md_thrownCode md_p md_n md_order md_monomials md_generators md_found md_upTo md_members md_provedNow (md_work_1 r_2.toNatClampNeg) (fun (r_5 : Int32) => ∀ x2_6 : Int64, x2_6 = (r_5 : Int32).toInt64 → ∃ (I26_9 : Int32 → (Nat → Int32) → Prop) (mu26_10 : Int32 → (Nat → Int32) → Nat), I26_9 0 md_row ∧ ∀ (x4_7 : Int32) (md_row_8 : Nat → Int32), I26_9 x4_7 md_row_8 → ((((md_monomials ≤ x4_7) → (vp_in r_2 126 ∧ ∀ md_has_13 : Nat → Int32, md_has_13 = upd md_has r_2.toNatClampNeg (vp_nar .boolean 1) → Q 1 md_has_13 md_row_8 md_work_1)) ∧ ((¬ (md_monomials ≤ x4_7)) → (vp_in x4_7 126 ∧ (¬ ((md_p : Int32).toInt64 : Int64) = 0) ∧ vp_in ((126 * r_2) + x4_7) 15876 ∧ ∀ md_row_17 : Nat → Int32, md_row_17 = upd md_row_8 (((126 * r_2) + x4_7)).toNatClampNeg (((((md_work_1 x4_7.toNatClampNeg) : Int32).toInt64 * x2_6) - (((md_work_1 x4_7.toNatClampNeg) : Int32).toInt64 * x2_6) / (md_p : Int32).toInt64 * (md_p : Int32).toInt64) : Int64).toInt32 → ∀ x4_18 : Int32, x4_18 = x4_7 + 1 → (I26_9 x4_18 md_row_17 ∧ mu26_10 x4_18 md_row_17 < mu26_10 x4_7 md_row_8)))))))) ∧ ((¬ (0 ≤ r_2)) → (Q 0 md_has md_row md_work_1))))
abbrev at_md_comes (dC : Nat → ClassId) (dI : Nat → Nat → Nat) (cs : Nat → ClassId) (A : Nat → Prop) (ad : Nat → Nat) (md_thrownCode : Int32) (md_p : Int32) (md_n : Int32) (md_order : Int32) (md_monomials : Int32) (md_generators : Int32) (md_found : Int32) (md_upTo : Int32) (md_members : Int32) (md_provedNow : Int32) (u : (Nat → Int32) × (Nat → Int32) × (Nat → Int32)) (t : State) : Prop := match u with
  | (md_has, md_row, md_work) => va_P (dC, dI) vwCl [((ad 0), .inr (8, [.int md_thrownCode, .int md_p, .int md_n, .int md_order, .int md_monomials, .ref (ad 1), .ref (ad 2), .int md_generators, .ref (ad 3), .ref (ad 4), .int md_found, .int md_upTo, .ref (ad 5), .ref (ad 6), .ref (ad 7), .ref (ad 8), .int md_members, .int md_provedNow])), ((ad 5), .inl (cs 2, 126, .inl md_has)), ((ad 6), .inl (cs 0, 15876, .inl md_row)), ((ad 7), .inl (cs 0, 126, .inl md_work))] t.heap ∧ va_D A [((ad 0), .inr (8, [.int md_thrownCode, .int md_p, .int md_n, .int md_order, .int md_monomials, .ref (ad 1), .ref (ad 2), .int md_generators, .ref (ad 3), .ref (ad 4), .int md_found, .int md_upTo, .ref (ad 5), .ref (ad 6), .ref (ad 7), .ref (ad 8), .int md_members, .int md_provedNow])), ((ad 5), .inl (cs 2, 126, .inl md_has)), ((ad 6), .inl (cs 0, 15876, .inl md_row)), ((ad 7), .inl (cs 0, 126, .inl md_work))]
set_option maxHeartbeats 4000000 in
set_option maxRecDepth 100000 in
theorem c_md_comes (l : Launch) (dC : Nat → ClassId) (dI : Nat → Nat → Nat) (cs : Nat → ClassId) (ad : Nat → Nat)  (sz : Nat) (md_thrownCode : Int32) (md_p : Int32) (md_n : Int32) (md_order : Int32) (md_monomials : Int32) (md_generators : Int32) (md_found : Int32) (md_upTo : Int32) (md_members : Int32) (md_provedNow : Int32) (md_has : Nat → Int32) (md_row : Nat → Int32) (md_work : Nat → Int32) (Q : Int32 → (Nat → Int32) → (Nat → Int32) → (Nat → Int32) → Prop) (hv : vc_md_comes md_thrownCode md_p md_n md_order md_monomials md_generators md_found md_upTo md_members md_provedNow md_has md_row md_work Q) : Met l y_md_comes w_md_comes ({ frames := 2, cells := 0, slots := 0, locals := 46 }) (va_Pc [.ref (ad 0)] (fun U => U.heap.size = sz ∧ va_P (dC, dI) vwCl [((ad 0), .inr (8, [.int md_thrownCode, .int md_p, .int md_n, .int md_order, .int md_monomials, .ref (ad 1), .ref (ad 2), .int md_generators, .ref (ad 3), .ref (ad 4), .int md_found, .int md_upTo, .ref (ad 5), .ref (ad 6), .ref (ad 7), .ref (ad 8), .int md_members, .int md_provedNow])), ((ad 5), .inl (cs 2, 126, .inl md_has)), ((ad 6), .inl (cs 0, 15876, .inl md_row)), ((ad 7), .inl (cs 0, 126, .inl md_work))] U.heap ∧ vwK dC dI cs U ∧ va_D (fun _ => True) [((ad 0), .inr (8, [.int md_thrownCode, .int md_p, .int md_n, .int md_order, .int md_monomials, .ref (ad 1), .ref (ad 2), .int md_generators, .ref (ad 3), .ref (ad 4), .int md_found, .int md_upTo, .ref (ad 5), .ref (ad 6), .ref (ad 7), .ref (ad 8), .int md_members, .int md_provedNow])), ((ad 5), .inl (cs 2, 126, .inl md_has)), ((ad 6), .inl (cs 0, 15876, .inl md_row)), ((ad 7), .inl (cs 0, 126, .inl md_work))])) (va_Qi (fun (r : Int32) (u : (Nat → Int32) × (Nat → Int32) × (Nat → Int32)) => Q r u.1 u.2.1 u.2.2) (at_md_comes dC dI cs (va_A [((ad 0), .inr (8, [.int md_thrownCode, .int md_p, .int md_n, .int md_order, .int md_monomials, .ref (ad 1), .ref (ad 2), .int md_generators, .ref (ad 3), .ref (ad 4), .int md_found, .int md_upTo, .ref (ad 5), .ref (ad 6), .ref (ad 7), .ref (ad 8), .int md_members, .int md_provedNow])), ((ad 5), .inl (cs 2, 126, .inl md_has)), ((ad 6), .inl (cs 0, 15876, .inl md_row)), ((ad 7), .inl (cs 0, 126, .inl md_work))] sz) ad md_thrownCode md_p md_n md_order md_monomials md_generators md_found md_upTo md_members md_provedNow) (va_A [((ad 0), .inr (8, [.int md_thrownCode, .int md_p, .int md_n, .int md_order, .int md_monomials, .ref (ad 1), .ref (ad 2), .int md_generators, .ref (ad 3), .ref (ad 4), .int md_found, .int md_upTo, .ref (ad 5), .ref (ad 6), .ref (ad 7), .ref (ad 8), .int md_members, .int md_provedNow])), ((ad 5), .inl (cs 2, 126, .inl md_has)), ((ad 6), .inl (cs 0, 15876, .inl md_row)), ((ad 7), .inl (cs 0, 126, .inl md_work))] sz)) 0 0 (va_A [((ad 0), .inr (8, [.int md_thrownCode, .int md_p, .int md_n, .int md_order, .int md_monomials, .ref (ad 1), .ref (ad 2), .int md_generators, .ref (ad 3), .ref (ad 4), .int md_found, .int md_upTo, .ref (ad 5), .ref (ad 6), .ref (ad 7), .ref (ad 8), .int md_members, .int md_provedNow])), ((ad 5), .inl (cs 2, 126, .inl md_has)), ((ad 6), .inl (cs 0, 15876, .inl md_row)), ((ad 7), .inl (cs 0, 126, .inl md_work))] sz) := by
  unfold vc_md_comes at hv
  refine Met.ofW (cc := b_md_comes) (maxL := 5) (ret := (some .boolean)) (by decide) rfl ?_
  intro p e s m args below meth c s₁ B hml hpc
  obtain ⟨rfl, hsz, hP, ⟨hK, hN⟩, hD0⟩ := hpc
  have hx := B.exec
  have hb := B.bytes
  have hr := B.returns
  have hts : ∀ w ∈ vwWS, w.before _ s = true := fun w h => atoms_spec (ws := w_md_comes) B.pre w (List.mem_cons_of_mem _ h)
  have hown : s.vm.findClass "SpaceBasisModel" = some m.cls := findClass_of_methodNamed B.named
  have hlocks := B.notSynchronized
  subst hsz
  have hD := hD0.self (sz := s.heap.size)
  generalize hAe : va_A [((ad 0), .inr (8, [.int md_thrownCode, .int md_p, .int md_n, .int md_order, .int md_monomials, .ref (ad 1), .ref (ad 2), .int md_generators, .ref (ad 3), .ref (ad 4), .int md_found, .int md_upTo, .ref (ad 5), .ref (ad 6), .ref (ad 7), .ref (ad 8), .int md_members, .int md_provedNow])), ((ad 5), .inl (cs 2, 126, .inl md_has)), ((ad 6), .inl (cs 0, 15876, .inl md_row)), ((ad 7), .inl (cs 0, 126, .inl md_work))] s.heap.size = A at hD ⊢
  have hA : ∀ q : Nat, s.heap.size ≤ q → A q := fun q h => by rw [← hAe]; exact Or.inr h
  have hS : va_S A s.heap s.heap [] := va_S.rf
  have hl := lv_entry ([.ref (ad 0)]) (n := 5) (Nat.le_of_ble_eq_true rfl)
  rw [lg_entry_eq]
  generalize (lg_sl ([.ref (ad 0)]) ++ List.replicate (5 - (lg_sl ([.ref (ad 0)])).length) Slot.unset).toArray = ls at hl ⊢
  have hl : lv_has ls 5 [(0, .ref (ad 0))] := hl
  refine lv_aload_n hx hb d_md_comes_0 rfl (lv_at hl 0 rfl) ?_
  have hPc := hP.sub (ws' := [((ad 0), .inr (8, [.int md_thrownCode, .int md_p, .int md_n, .int md_order, .int md_monomials, .ref (ad 1), .ref (ad 2), .int md_generators, .ref (ad 3), .ref (ad 4), .int md_found, .int md_upTo, .ref (ad 5), .ref (ad 6), .ref (ad 7), .ref (ad 8), .int md_members, .int md_provedNow])), ((ad 5), .inl (cs 2, 126, .inl md_has)), ((ad 6), .inl (cs 0, 15876, .inl md_row)), ((ad 7), .inl (cs 0, 126, .inl md_work))]) [0, 1, 2, 3] rfl
  have hDc := hD.sub (ws' := [((ad 0), .inr (8, [.int md_thrownCode, .int md_p, .int md_n, .int md_order, .int md_monomials, .ref (ad 1), .ref (ad 2), .int md_generators, .ref (ad 3), .ref (ad 4), .int md_found, .int md_upTo, .ref (ad 5), .ref (ad 6), .ref (ad 7), .ref (ad 8), .int md_members, .int md_provedNow])), ((ad 5), .inl (cs 2, 126, .inl md_has)), ((ad 6), .inl (cs 0, 15876, .inl md_row)), ((ad 7), .inl (cs 0, 126, .inl md_work))]) [0, 1, 2, 3] (by decide) rfl
  have hFc := va_free (wc := [((ad 0), .inr (8, [.int md_thrownCode, .int md_p, .int md_n, .int md_order, .int md_monomials, .ref (ad 1), .ref (ad 2), .int md_generators, .ref (ad 3), .ref (ad 4), .int md_found, .int md_upTo, .ref (ad 5), .ref (ad 6), .ref (ad 7), .ref (ad 8), .int md_members, .int md_provedNow])), ((ad 5), .inl (cs 2, 126, .inl md_has)), ((ad 6), .inl (cs 0, 15876, .inl md_row)), ((ad 7), .inl (cs 0, 126, .inl md_work))]) hD hS hA [0, 1, 2, 3] rfl
  refine va_calli (va_runV (As := []) (rest := []) ⟨hx, hb, hml, hown, hts⟩ (c_md_reduce l dC dI cs ad  s.heap.size md_thrownCode md_p md_n md_order md_monomials md_generators md_found md_upTo md_members md_provedNow md_has md_row md_work _ hv) (cwV 0 hts (gd_V kw_717 kw_718 kw_24 kw_41 kw_719) rfl rfl rfl (by decide +kernel) ⟨Nat.le_of_ble_eq_true rfl, Nat.le_of_ble_eq_true rfl⟩) ⟨fun a U g mk q => by obtain ⟨q0, q1, qP, qK, qD⟩ := q; exact ⟨q0, q1, qP, qK.call, qD⟩, va_recv hK hPc (ci := 8) (q0 := 0) rfl rfl, fun U hU hW => ⟨rfl, by rw [hU], by rw [hU]; exact hPc, vwK.warm hW ⟨hK, hN⟩, hDc.weaken (fun _ _ _ _ => trivial)⟩⟩ rfl rfl hl.1 rfl (lv_room (Nat.le_of_ble_eq_true rfl)) d_md_comes_1 ⟨Nat.zero_le _, Nat.zero_le _⟩) hS (fun q _ h => hFc q h) hFc (fun r_2 md_work_1 t H1 locs1 ht hvm hw hB hz1 hk1 hS => ?_)
  obtain ⟨hP1, hD1⟩ := hB
  rw [ht] at hP1
  obtain ⟨hP, hD⟩ := va_join (wr := []) (w1 := [((ad 0), .inr (8, [.int md_thrownCode, .int md_p, .int md_n, .int md_order, .int md_monomials, .ref (ad 1), .ref (ad 2), .int md_generators, .ref (ad 3), .ref (ad 4), .int md_found, .int md_upTo, .ref (ad 5), .ref (ad 6), .ref (ad 7), .ref (ad 8), .int md_members, .int md_provedNow])), ((ad 5), .inl (cs 2, 126, .inl md_has)), ((ad 6), .inl (cs 0, 15876, .inl md_row)), ((ad 7), .inl (cs 0, 126, .inl md_work_1))]) hP hD [0, 1, 2, 3] [] rfl rfl (by decide) (by decide) hk1 hFc hP1 hD1
  generalize H1 = H at hP hS ⊢
  generalize locs1 = locs at hS ⊢
  have hP : va_P (dC, dI) vwCl [((ad 0), .inr (8, [.int md_thrownCode, .int md_p, .int md_n, .int md_order, .int md_monomials, .ref (ad 1), .ref (ad 2), .int md_generators, .ref (ad 3), .ref (ad 4), .int md_found, .int md_upTo, .ref (ad 5), .ref (ad 6), .ref (ad 7), .ref (ad 8), .int md_members, .int md_provedNow])), ((ad 5), .inl (cs 2, 126, .inl md_has)), ((ad 6), .inl (cs 0, 15876, .inl md_row)), ((ad 7), .inl (cs 0, 126, .inl md_work_1))] H := hP
  have hD : va_D A [((ad 0), .inr (8, [.int md_thrownCode, .int md_p, .int md_n, .int md_order, .int md_monomials, .ref (ad 1), .ref (ad 2), .int md_generators, .ref (ad 3), .ref (ad 4), .int md_found, .int md_upTo, .ref (ad 5), .ref (ad 6), .ref (ad 7), .ref (ad 8), .int md_members, .int md_provedNow])), ((ad 5), .inl (cs 2, 126, .inl md_has)), ((ad 6), .inl (cs 0, 15876, .inl md_row)), ((ad 7), .inl (cs 0, 126, .inl md_work_1))] := hD
  have hv := hw
  try dsimp only at hv
  refine lv_istore_n (lv' := [(1, .int r_2), (0, .ref (ad 0))]) hx hb d_md_comes_4 rfl hl (by decide) rfl (fun ls hl => ?_)
  refine lv_iload_n hx hb d_md_comes_5 rfl (lv_at hl 0 rfl) ?_
  refine lv_if_ge (tgt := 11) hx hb d_md_comes_6 (by decide) (fun c_3 => ?_) (fun c_3 => ?_)
  · have hv := hv.1 c_3
    refine lv_aload_n hx hb d_md_comes_11 rfl (lv_at hl 1 rfl) ?_
    refine lv_aload_n hx hb d_md_comes_12 rfl (lv_at hl 1 rfl) ?_
    refine va_get (D := (dC, dI)) (ci := 8) (v := .ref (ad 7)) (C := R_md) (T := F_md) (N := 18) hx hb hts in_md hown hK hP 0 rfl rfl 14 (by decide) (hts _ kw_632) (fun _ h9 => h9) rfl d_md_comes_13 ?_
    refine lv_iload_n hx hb d_md_comes_16 rfl (lv_at hl 0 rfl) ?_
    obtain ⟨hi_4, hv⟩ := hv
    refine va_iald hx hb hK hP 3 0 rfl rfl hi_4 d_md_comes_17 ?_
    have hPc := hP.sub (ws' := [((ad 0), .inr (8, [.int md_thrownCode, .int md_p, .int md_n, .int md_order, .int md_monomials, .ref (ad 1), .ref (ad 2), .int md_generators, .ref (ad 3), .ref (ad 4), .int md_found, .int md_upTo, .ref (ad 5), .ref (ad 6), .ref (ad 7), .ref (ad 8), .int md_members, .int md_provedNow]))]) [0] rfl
    have hDc := hD.sub (ws' := [((ad 0), .inr (8, [.int md_thrownCode, .int md_p, .int md_n, .int md_order, .int md_monomials, .ref (ad 1), .ref (ad 2), .int md_generators, .ref (ad 3), .ref (ad 4), .int md_found, .int md_upTo, .ref (ad 5), .ref (ad 6), .ref (ad 7), .ref (ad 8), .int md_members, .int md_provedNow]))]) [0] (by decide) rfl
    have hFc := va_free (wc := [((ad 0), .inr (8, [.int md_thrownCode, .int md_p, .int md_n, .int md_order, .int md_monomials, .ref (ad 1), .ref (ad 2), .int md_generators, .ref (ad 3), .ref (ad 4), .int md_found, .int md_upTo, .ref (ad 5), .ref (ad 6), .ref (ad 7), .ref (ad 8), .int md_members, .int md_provedNow]))]) hD hS hA [0] rfl
    refine va_calli (va_runV (As := [.int (md_work_1 r_2.toNatClampNeg)]) (rest := []) ⟨hx, hb, hml, hown, hts⟩ (c_md_inverse l dC dI cs ad  H.size md_thrownCode md_p md_n md_order md_monomials md_generators md_found md_upTo md_members md_provedNow (md_work_1 r_2.toNatClampNeg) _ hv) (cwV 1 hts (gd_V kw_723 kw_724 kw_26 kw_41 kw_725) rfl rfl rfl (by decide +kernel) ⟨Nat.le_of_ble_eq_true rfl, Nat.le_of_ble_eq_true rfl⟩) ⟨fun a U g mk q => by obtain ⟨q0, q1, qP, qK, qD⟩ := q; exact ⟨q0, q1, qP, qK.call, qD⟩, va_recv hK hPc (ci := 8) (q0 := 0) rfl rfl, fun U hU hW => ⟨rfl, by rw [hU], by rw [hU]; exact hPc, vwK.warm hW ⟨hK, hN⟩, hDc.weaken (fun _ _ _ _ => trivial)⟩⟩ rfl rfl hl.1 rfl (lv_room (Nat.le_of_ble_eq_true rfl)) d_md_comes_18 ⟨Nat.zero_le _, Nat.zero_le _⟩) hS (fun q _ h => hFc q h) hFc (fun r_5 _u t H1 locs1 ht hvm hw hB hz1 hk1 hS => ?_)
    obtain ⟨hP1, hD1⟩ := hB
    rw [ht] at hP1
    obtain ⟨hP, hD⟩ := va_join (wr := [((ad 5), .inl (cs 2, 126, .inl md_has)), ((ad 6), .inl (cs 0, 15876, .inl md_row)), ((ad 7), .inl (cs 0, 126, .inl md_work_1))]) (w1 := [((ad 0), .inr (8, [.int md_thrownCode, .int md_p, .int md_n, .int md_order, .int md_monomials, .ref (ad 1), .ref (ad 2), .int md_generators, .ref (ad 3), .ref (ad 4), .int md_found, .int md_upTo, .ref (ad 5), .ref (ad 6), .ref (ad 7), .ref (ad 8), .int md_members, .int md_provedNow]))]) hP hD [0] [1, 2, 3] rfl rfl (by decide) (by decide) hk1 hFc hP1 hD1
    generalize H1 = H at hP hS ⊢
    generalize locs1 = locs at hS ⊢
    have hP : va_P (dC, dI) vwCl [((ad 5), .inl (cs 2, 126, .inl md_has)), ((ad 6), .inl (cs 0, 15876, .inl md_row)), ((ad 7), .inl (cs 0, 126, .inl md_work_1)), ((ad 0), .inr (8, [.int md_thrownCode, .int md_p, .int md_n, .int md_order, .int md_monomials, .ref (ad 1), .ref (ad 2), .int md_generators, .ref (ad 3), .ref (ad 4), .int md_found, .int md_upTo, .ref (ad 5), .ref (ad 6), .ref (ad 7), .ref (ad 8), .int md_members, .int md_provedNow]))] H := hP
    have hD : va_D A [((ad 5), .inl (cs 2, 126, .inl md_has)), ((ad 6), .inl (cs 0, 15876, .inl md_row)), ((ad 7), .inl (cs 0, 126, .inl md_work_1)), ((ad 0), .inr (8, [.int md_thrownCode, .int md_p, .int md_n, .int md_order, .int md_monomials, .ref (ad 1), .ref (ad 2), .int md_generators, .ref (ad 3), .ref (ad 4), .int md_found, .int md_upTo, .ref (ad 5), .ref (ad 6), .ref (ad 7), .ref (ad 8), .int md_members, .int md_provedNow]))] := hD
    have hv := hw
    try dsimp only at hv
    refine lv_i2l (v := (r_5 : Int32).toInt64) hx hb d_md_comes_21 rfl ?_
    refine lv_topl (fun x2_6 ex2_6 => ?_)
    have hv := hv x2_6 ex2_6
    refine lv_lstore_n (lv' := [(2, .long x2_6), (1, .int r_2), (0, .ref (ad 0))]) hx hb d_md_comes_22 rfl hl (by decide) rfl (fun ls hl => ?_)
    refine lv_iconst (v := 0) hx hb d_md_comes_23 (by decide) ?_
    refine lv_istore (lv' := [(4, .int 0), (2, .long x2_6), (1, .int r_2), (0, .ref (ad 0))]) hx hb d_md_comes_24 hl (by decide) rfl (fun ls hl => ?_)
    obtain ⟨I26_9, mu26_10, hi0, hv⟩ := hv
    have hP := hP.sub (ws' := [((ad 0), .inr (8, [.int md_thrownCode, .int md_p, .int md_n, .int md_order, .int md_monomials, .ref (ad 1), .ref (ad 2), .int md_generators, .ref (ad 3), .ref (ad 4), .int md_found, .int md_upTo, .ref (ad 5), .ref (ad 6), .ref (ad 7), .ref (ad 8), .int md_members, .int md_provedNow])), ((ad 5), .inl (cs 2, 126, .inl md_has)), ((ad 6), .inl (cs 0, 15876, .inl md_row)), ((ad 7), .inl (cs 0, 126, .inl md_work_1))]) [3, 0, 1, 2] rfl
    have hD := hD.sub (ws' := [((ad 0), .inr (8, [.int md_thrownCode, .int md_p, .int md_n, .int md_order, .int md_monomials, .ref (ad 1), .ref (ad 2), .int md_generators, .ref (ad 3), .ref (ad 4), .int md_found, .int md_upTo, .ref (ad 5), .ref (ad 6), .ref (ad 7), .ref (ad 8), .int md_members, .int md_provedNow])), ((ad 5), .inl (cs 2, 126, .inl md_has)), ((ad 6), .inl (cs 0, 15876, .inl md_row)), ((ad 7), .inl (cs 0, 126, .inl md_work_1))]) [3, 0, 1, 2] (by decide) rfl
    have hl := lv_sub (l' := [(0, .ref (ad 0)), (1, .int r_2), (2, .long x2_6), (4, .int 0)]) hl [3, 2, 1, 0] rfl
    have loop26 : ∀ (nn : Nat) (x4_7 : Int32) (md_row_8 : Nat → Int32), mu26_10 x4_7 md_row_8 < nn → I26_9 x4_7 md_row_8 → ∀ (H : Heap) (locs : List Loc) (ls : Array Slot), va_P (dC, dI) vwCl [((ad 0), .inr (8, [.int md_thrownCode, .int md_p, .int md_n, .int md_order, .int md_monomials, .ref (ad 1), .ref (ad 2), .int md_generators, .ref (ad 3), .ref (ad 4), .int md_found, .int md_upTo, .ref (ad 5), .ref (ad 6), .ref (ad 7), .ref (ad 8), .int md_members, .int md_provedNow])), ((ad 5), .inl (cs 2, 126, .inl md_has)), ((ad 6), .inl (cs 0, 15876, .inl md_row_8)), ((ad 7), .inl (cs 0, 126, .inl md_work_1))] H → va_D A [((ad 0), .inr (8, [.int md_thrownCode, .int md_p, .int md_n, .int md_order, .int md_monomials, .ref (ad 1), .ref (ad 2), .int md_generators, .ref (ad 3), .ref (ad 4), .int md_found, .int md_upTo, .ref (ad 5), .ref (ad 6), .ref (ad 7), .ref (ad 8), .int md_members, .int md_provedNow])), ((ad 5), .inl (cs 2, 126, .inl md_has)), ((ad 6), .inl (cs 0, 15876, .inl md_row_8)), ((ad 7), .inl (cs 0, 126, .inl md_work_1))] → va_S A s.heap H locs → lv_has ls 5 [(0, .ref (ad 0)), (1, .int r_2), (2, .long x2_6), (4, .int x4_7)] → W p l e (headSpec w_md_comes { frames := 2, cells := 0, slots := 0, locals := 46 }).room s m ([.ref (ad 0)] : List Value).toArray below meth c H locs 0 0 (MQ below (va_Qi (fun (r : Int32) (u : (Nat → Int32) × (Nat → Int32) × (Nat → Int32)) => Q r u.1 u.2.1 u.2.2) (at_md_comes dC dI cs A ad md_thrownCode md_p md_n md_order md_monomials md_generators md_found md_upTo md_members md_provedNow) A) ([.ref (ad 0)] : List Value).toArray s 0 0 A) (F0 m 26 ls []) := by
      intro nn
      induction nn with
      | zero => intro x4_7 md_row_8 hlt; exact absurd hlt (Nat.not_lt_zero _)
      | succ nn ih26 =>
        intro x4_7 md_row_8 hlt26 hI H locs ls hP hD hS hl
        have hv := hv x4_7 md_row_8 hI
        refine lv_iload hx hb d_md_comes_26 (lv_at hl 3 rfl) ?_
        refine lv_aload_n hx hb d_md_comes_28 rfl (lv_at hl 0 rfl) ?_
        refine va_get (D := (dC, dI)) (ci := 8) (v := .int md_monomials) (C := R_md) (T := F_md) (N := 18) hx hb hts in_md hown hK hP 0 rfl rfl 4 (by decide) (hts _ kw_622) (fun _ h9 => h9) rfl d_md_comes_29 ?_
        refine lv_icmp_ge (tgt := 70) hx hb d_md_comes_32 (by decide) (fun c_11 => ?_) (fun c_11 => ?_)
        · have hv := hv.1 c_11
          refine lv_aload_n hx hb d_md_comes_70 rfl (lv_at hl 0 rfl) ?_
          refine va_get (D := (dC, dI)) (ci := 8) (v := .ref (ad 5)) (C := R_md) (T := F_md) (N := 18) hx hb hts in_md hown hK hP 0 rfl rfl 12 (by decide) (hts _ kw_630) (fun _ h9 => h9) rfl d_md_comes_71 ?_
          refine lv_iload_n hx hb d_md_comes_74 rfl (lv_at hl 1 rfl) ?_
          refine lv_iconst (v := 1) hx hb d_md_comes_75 (by decide) ?_
          obtain ⟨hi_12, hv⟩ := hv
          refine va_zast hx hb hK hP hD hS 1 2 rfl rfl hi_12 d_md_comes_76 (fun H locs hP hD hS => ?_)
          have hP : va_P (dC, dI) vwCl [((ad 0), .inr (8, [.int md_thrownCode, .int md_p, .int md_n, .int md_order, .int md_monomials, .ref (ad 1), .ref (ad 2), .int md_generators, .ref (ad 3), .ref (ad 4), .int md_found, .int md_upTo, .ref (ad 5), .ref (ad 6), .ref (ad 7), .ref (ad 8), .int md_members, .int md_provedNow])), ((ad 5), .inl (cs 2, 126, .inl (upd md_has r_2.toNatClampNeg (vp_nar .boolean 1)))), ((ad 6), .inl (cs 0, 15876, .inl md_row_8)), ((ad 7), .inl (cs 0, 126, .inl md_work_1))] H := hP
          have hD : va_D A [((ad 0), .inr (8, [.int md_thrownCode, .int md_p, .int md_n, .int md_order, .int md_monomials, .ref (ad 1), .ref (ad 2), .int md_generators, .ref (ad 3), .ref (ad 4), .int md_found, .int md_upTo, .ref (ad 5), .ref (ad 6), .ref (ad 7), .ref (ad 8), .int md_members, .int md_provedNow])), ((ad 5), .inl (cs 2, 126, .inl (upd md_has r_2.toNatClampNeg (vp_nar .boolean 1)))), ((ad 6), .inl (cs 0, 15876, .inl md_row_8)), ((ad 7), .inl (cs 0, 126, .inl md_work_1))] := hD
          generalize emd_has_13 : upd md_has r_2.toNatClampNeg (vp_nar .boolean 1) = md_has_13 at hP hD
          have hv := hv md_has_13 emd_has_13.symm
          refine lv_iconst (v := 1) hx hb d_md_comes_77 (by decide) ?_
          have hP9 := hP.sub (ws' := [((ad 0), .inr (8, [.int md_thrownCode, .int md_p, .int md_n, .int md_order, .int md_monomials, .ref (ad 1), .ref (ad 2), .int md_generators, .ref (ad 3), .ref (ad 4), .int md_found, .int md_upTo, .ref (ad 5), .ref (ad 6), .ref (ad 7), .ref (ad 8), .int md_members, .int md_provedNow])), ((ad 5), .inl (cs 2, 126, .inl md_has_13)), ((ad 6), .inl (cs 0, 15876, .inl md_row_8)), ((ad 7), .inl (cs 0, 126, .inl md_work_1))]) [0, 1, 2, 3] rfl
          have hD9 := hD.sub (ws' := [((ad 0), .inr (8, [.int md_thrownCode, .int md_p, .int md_n, .int md_order, .int md_monomials, .ref (ad 1), .ref (ad 2), .int md_generators, .ref (ad 3), .ref (ad 4), .int md_found, .int md_upTo, .ref (ad 5), .ref (ad 6), .ref (ad 7), .ref (ad 8), .int md_members, .int md_provedNow])), ((ad 5), .inl (cs 2, 126, .inl md_has_13)), ((ad 6), .inl (cs 0, 15876, .inl md_row_8)), ((ad 7), .inl (cs 0, 126, .inl md_work_1))]) [0, 1, 2, 3] (by decide) rfl
          exact W.zret (v := 1) hx hb hr rfl (fun t ht hW => ⟨⟨1, (md_has_13, md_row_8, md_work_1), rfl, hv, by rw [ht]; exact hP9, hD9⟩, hS.F ht⟩) hS.2.2 d_md_comes_78
        · have hv := hv.2 c_11
          refine lv_aload_n hx hb d_md_comes_35 rfl (lv_at hl 0 rfl) ?_
          refine va_get (D := (dC, dI)) (ci := 8) (v := .ref (ad 6)) (C := R_md) (T := F_md) (N := 18) hx hb hts in_md hown hK hP 0 rfl rfl 13 (by decide) (hts _ kw_631) (fun _ h9 => h9) rfl d_md_comes_36 ?_
          refine lv_bipush (v := 126) hx hb d_md_comes_39 (by decide) ?_
          refine lv_iload_n hx hb d_md_comes_41 rfl (lv_at hl 1 rfl) ?_
          refine lv_imul hx hb d_md_comes_42 ?_
          refine lv_iload hx hb d_md_comes_43 (lv_at hl 3 rfl) ?_
          refine lv_iadd hx hb d_md_comes_45 ?_
          refine lv_aload_n hx hb d_md_comes_46 rfl (lv_at hl 0 rfl) ?_
          refine va_get (D := (dC, dI)) (ci := 8) (v := .ref (ad 7)) (C := R_md) (T := F_md) (N := 18) hx hb hts in_md hown hK hP 0 rfl rfl 14 (by decide) (hts _ kw_632) (fun _ h9 => h9) rfl d_md_comes_47 ?_
          refine lv_iload hx hb d_md_comes_50 (lv_at hl 3 rfl) ?_
          obtain ⟨hi_14, hv⟩ := hv
          refine va_iald hx hb hK hP 3 0 rfl rfl hi_14 d_md_comes_52 ?_
          refine lv_i2l (v := ((md_work_1 x4_7.toNatClampNeg) : Int32).toInt64) hx hb d_md_comes_53 rfl ?_
          refine lv_lload_n hx hb d_md_comes_54 rfl (lv_at hl 2 rfl) ?_
          refine lv_lmul hx hb d_md_comes_55 ?_
          refine lv_aload_n hx hb d_md_comes_56 rfl (lv_at hl 0 rfl) ?_
          refine va_get (D := (dC, dI)) (ci := 8) (v := .int md_p) (C := R_md) (T := F_md) (N := 18) hx hb hts in_md hown hK hP 0 rfl rfl 1 (by decide) (hts _ kw_619) (fun _ h9 => h9) rfl d_md_comes_57 ?_
          refine lv_i2l (v := (md_p : Int32).toInt64) hx hb d_md_comes_60 rfl ?_
          obtain ⟨hz_15, hv⟩ := hv
          refine lv_lrem hx hb d_md_comes_61 hz_15 ?_
          refine lv_l2i (v := (((((md_work_1 x4_7.toNatClampNeg) : Int32).toInt64 * x2_6) - (((md_work_1 x4_7.toNatClampNeg) : Int32).toInt64 * x2_6) / (md_p : Int32).toInt64 * (md_p : Int32).toInt64) : Int64).toInt32) hx hb d_md_comes_62 rfl ?_
          obtain ⟨hi_16, hv⟩ := hv
          refine va_iast hx hb hK hP hD hS 2 0 rfl rfl hi_16 d_md_comes_63 (fun H locs hP hD hS => ?_)
          have hP : va_P (dC, dI) vwCl [((ad 0), .inr (8, [.int md_thrownCode, .int md_p, .int md_n, .int md_order, .int md_monomials, .ref (ad 1), .ref (ad 2), .int md_generators, .ref (ad 3), .ref (ad 4), .int md_found, .int md_upTo, .ref (ad 5), .ref (ad 6), .ref (ad 7), .ref (ad 8), .int md_members, .int md_provedNow])), ((ad 5), .inl (cs 2, 126, .inl md_has)), ((ad 6), .inl (cs 0, 15876, .inl (upd md_row_8 (((126 * r_2) + x4_7)).toNatClampNeg (((((md_work_1 x4_7.toNatClampNeg) : Int32).toInt64 * x2_6) - (((md_work_1 x4_7.toNatClampNeg) : Int32).toInt64 * x2_6) / (md_p : Int32).toInt64 * (md_p : Int32).toInt64) : Int64).toInt32))), ((ad 7), .inl (cs 0, 126, .inl md_work_1))] H := hP
          have hD : va_D A [((ad 0), .inr (8, [.int md_thrownCode, .int md_p, .int md_n, .int md_order, .int md_monomials, .ref (ad 1), .ref (ad 2), .int md_generators, .ref (ad 3), .ref (ad 4), .int md_found, .int md_upTo, .ref (ad 5), .ref (ad 6), .ref (ad 7), .ref (ad 8), .int md_members, .int md_provedNow])), ((ad 5), .inl (cs 2, 126, .inl md_has)), ((ad 6), .inl (cs 0, 15876, .inl (upd md_row_8 (((126 * r_2) + x4_7)).toNatClampNeg (((((md_work_1 x4_7.toNatClampNeg) : Int32).toInt64 * x2_6) - (((md_work_1 x4_7.toNatClampNeg) : Int32).toInt64 * x2_6) / (md_p : Int32).toInt64 * (md_p : Int32).toInt64) : Int64).toInt32))), ((ad 7), .inl (cs 0, 126, .inl md_work_1))] := hD
          generalize emd_row_17 : upd md_row_8 (((126 * r_2) + x4_7)).toNatClampNeg (((((md_work_1 x4_7.toNatClampNeg) : Int32).toInt64 * x2_6) - (((md_work_1 x4_7.toNatClampNeg) : Int32).toInt64 * x2_6) / (md_p : Int32).toInt64 * (md_p : Int32).toInt64) : Int64).toInt32 = md_row_17 at hP hD
          have hv := hv md_row_17 emd_row_17.symm
          obtain ⟨x4_18, ex4_18⟩ : ∃ y : Int32, y = x4_7 + 1 := ⟨_, rfl⟩
          have hv := hv x4_18 ex4_18
          refine lv_iinc (v := x4_18) (lv' := [(4, .int x4_18), (0, .ref (ad 0)), (1, .int r_2), (2, .long x2_6)]) hx hb d_md_comes_64 hl (k := 3) rfl (by rw [ex4_18]; rfl) (by decide) rfl (fun ls hl => ?_)
          refine lv_goto (tgt := 26) hx hb d_md_comes_67 (by decide) ?_
          exact ih26 x4_18 md_row_17 (Nat.lt_of_lt_of_le hv.2 (Nat.le_of_lt_succ hlt26)) hv.1 _ _ _ (hP.sub [0, 1, 2, 3] rfl) (hD.sub [0, 1, 2, 3] (by decide) rfl) hS (lv_sub hl [1, 2, 3, 0] rfl)
    exact loop26 _ 0 md_row (Nat.lt_succ_self _) hi0 _ _ _ hP hD hS hl
  · have hv := hv.2 c_3
    refine lv_iconst (v := 0) hx hb d_md_comes_9 (by decide) ?_
    have hP9 := hP.sub (ws' := [((ad 0), .inr (8, [.int md_thrownCode, .int md_p, .int md_n, .int md_order, .int md_monomials, .ref (ad 1), .ref (ad 2), .int md_generators, .ref (ad 3), .ref (ad 4), .int md_found, .int md_upTo, .ref (ad 5), .ref (ad 6), .ref (ad 7), .ref (ad 8), .int md_members, .int md_provedNow])), ((ad 5), .inl (cs 2, 126, .inl md_has)), ((ad 6), .inl (cs 0, 15876, .inl md_row)), ((ad 7), .inl (cs 0, 126, .inl md_work_1))]) [0, 1, 2, 3] rfl
    have hD9 := hD.sub (ws' := [((ad 0), .inr (8, [.int md_thrownCode, .int md_p, .int md_n, .int md_order, .int md_monomials, .ref (ad 1), .ref (ad 2), .int md_generators, .ref (ad 3), .ref (ad 4), .int md_found, .int md_upTo, .ref (ad 5), .ref (ad 6), .ref (ad 7), .ref (ad 8), .int md_members, .int md_provedNow])), ((ad 5), .inl (cs 2, 126, .inl md_has)), ((ad 6), .inl (cs 0, 15876, .inl md_row)), ((ad 7), .inl (cs 0, 126, .inl md_work_1))]) [0, 1, 2, 3] (by decide) rfl
    exact W.zret (v := 0) hx hb hr rfl (fun t ht hW => ⟨⟨0, (md_has, md_row, md_work_1), rfl, hv, by rw [ht]; exact hP9, hD9⟩, hS.F ht⟩) hS.2.2 d_md_comes_10
abbrev b_md_multiplied : ByteArray := prog_10_method_13_code
def y_md_multiplied : MethodName := ⟨"SpaceBasisModel", "multiplied", "(II)V"⟩
def w_md_multiplied : List Cond := Cond.code y_md_multiplied b_md_multiplied 4 none :: vwWS
theorem d_md_multiplied_0 : decode b_md_multiplied 0 = .ok (.iconst 0, 1) := by decide +kernel
theorem d_md_multiplied_1 : decode b_md_multiplied 1 = .ok (.istore_n 3, 1) := by decide +kernel
theorem d_md_multiplied_2 : decode b_md_multiplied 2 = .ok (.iload_n 3, 1) := by decide +kernel
theorem d_md_multiplied_3 : decode b_md_multiplied 3 = .ok (.aload_n 0, 1) := by decide +kernel
theorem d_md_multiplied_4 : decode b_md_multiplied 4 = .ok (.getfield 22, 3) := by decide +kernel
theorem d_md_multiplied_7 : decode b_md_multiplied 7 = .ok (.if_icmp .ge 16, 3) := by decide +kernel
theorem d_md_multiplied_10 : decode b_md_multiplied 10 = .ok (.aload_n 0, 1) := by decide +kernel
theorem d_md_multiplied_11 : decode b_md_multiplied 11 = .ok (.getfield 55, 3) := by decide +kernel
theorem d_md_multiplied_14 : decode b_md_multiplied 14 = .ok (.iload_n 3, 1) := by decide +kernel
theorem d_md_multiplied_15 : decode b_md_multiplied 15 = .ok (.iconst 0, 1) := by decide +kernel
theorem d_md_multiplied_16 : decode b_md_multiplied 16 = .ok (.iastore, 1) := by decide +kernel
theorem d_md_multiplied_17 : decode b_md_multiplied 17 = .ok (.iinc 3 1, 3) := by decide +kernel
theorem d_md_multiplied_20 : decode b_md_multiplied 20 = .ok (.goto (-18), 3) := by decide +kernel
theorem d_md_multiplied_23 : decode b_md_multiplied 23 = .ok (.iconst 0, 1) := by decide +kernel
theorem d_md_multiplied_24 : decode b_md_multiplied 24 = .ok (.istore_n 3, 1) := by decide +kernel
theorem d_md_multiplied_25 : decode b_md_multiplied 25 = .ok (.iload_n 3, 1) := by decide +kernel
theorem d_md_multiplied_26 : decode b_md_multiplied 26 = .ok (.iload_n 1, 1) := by decide +kernel
theorem d_md_multiplied_27 : decode b_md_multiplied 27 = .ok (.if_icmp .gt 59, 3) := by decide +kernel
theorem d_md_multiplied_30 : decode b_md_multiplied 30 = .ok (.aload_n 0, 1) := by decide +kernel
theorem d_md_multiplied_31 : decode b_md_multiplied 31 = .ok (.getfield 52, 3) := by decide +kernel
theorem d_md_multiplied_34 : decode b_md_multiplied 34 = .ok (.bipush 126, 2) := by decide +kernel
theorem d_md_multiplied_36 : decode b_md_multiplied 36 = .ok (.iload_n 1, 1) := by decide +kernel
theorem d_md_multiplied_37 : decode b_md_multiplied 37 = .ok (.imul, 1) := by decide +kernel
theorem d_md_multiplied_38 : decode b_md_multiplied 38 = .ok (.iload_n 3, 1) := by decide +kernel
theorem d_md_multiplied_39 : decode b_md_multiplied 39 = .ok (.iadd, 1) := by decide +kernel
theorem d_md_multiplied_40 : decode b_md_multiplied 40 = .ok (.iaload, 1) := by decide +kernel
theorem d_md_multiplied_41 : decode b_md_multiplied 41 = .ok (.ifCond .eq 39, 3) := by decide +kernel
theorem d_md_multiplied_44 : decode b_md_multiplied 44 = .ok (.aload_n 0, 1) := by decide +kernel
theorem d_md_multiplied_45 : decode b_md_multiplied 45 = .ok (.getfield 55, 3) := by decide +kernel
theorem d_md_multiplied_48 : decode b_md_multiplied 48 = .ok (.aload_n 0, 1) := by decide +kernel
theorem d_md_multiplied_49 : decode b_md_multiplied 49 = .ok (.aload_n 0, 1) := by decide +kernel
theorem d_md_multiplied_50 : decode b_md_multiplied 50 = .ok (.getfield 25, 3) := by decide +kernel
theorem d_md_multiplied_53 : decode b_md_multiplied 53 = .ok (.iload_n 3, 1) := by decide +kernel
theorem d_md_multiplied_54 : decode b_md_multiplied 54 = .ok (.iaload, 1) := by decide +kernel
theorem d_md_multiplied_55 : decode b_md_multiplied 55 = .ok (.iconst 1, 1) := by decide +kernel
theorem d_md_multiplied_56 : decode b_md_multiplied 56 = .ok (.bipush 24, 2) := by decide +kernel
theorem d_md_multiplied_58 : decode b_md_multiplied 58 = .ok (.bipush 8, 2) := by decide +kernel
theorem d_md_multiplied_60 : decode b_md_multiplied 60 = .ok (.iload_n 2, 1) := by decide +kernel
theorem d_md_multiplied_61 : decode b_md_multiplied 61 = .ok (.imul, 1) := by decide +kernel
theorem d_md_multiplied_62 : decode b_md_multiplied 62 = .ok (.isub, 1) := by decide +kernel
theorem d_md_multiplied_63 : decode b_md_multiplied 63 = .ok (.ishl, 1) := by decide +kernel
theorem d_md_multiplied_64 : decode b_md_multiplied 64 = .ok (.iadd, 1) := by decide +kernel
theorem d_md_multiplied_65 : decode b_md_multiplied 65 = .ok (.invokevirtual 100, 3) := by decide +kernel
theorem d_md_multiplied_68 : decode b_md_multiplied 68 = .ok (.aload_n 0, 1) := by decide +kernel
theorem d_md_multiplied_69 : decode b_md_multiplied 69 = .ok (.getfield 52, 3) := by decide +kernel
theorem d_md_multiplied_72 : decode b_md_multiplied 72 = .ok (.bipush 126, 2) := by decide +kernel
theorem d_md_multiplied_74 : decode b_md_multiplied 74 = .ok (.iload_n 1, 1) := by decide +kernel
theorem d_md_multiplied_75 : decode b_md_multiplied 75 = .ok (.imul, 1) := by decide +kernel
theorem d_md_multiplied_76 : decode b_md_multiplied 76 = .ok (.iload_n 3, 1) := by decide +kernel
theorem d_md_multiplied_77 : decode b_md_multiplied 77 = .ok (.iadd, 1) := by decide +kernel
theorem d_md_multiplied_78 : decode b_md_multiplied 78 = .ok (.iaload, 1) := by decide +kernel
theorem d_md_multiplied_79 : decode b_md_multiplied 79 = .ok (.iastore, 1) := by decide +kernel
theorem d_md_multiplied_80 : decode b_md_multiplied 80 = .ok (.iinc 3 1, 3) := by decide +kernel
theorem d_md_multiplied_83 : decode b_md_multiplied 83 = .ok (.goto (-58), 3) := by decide +kernel
theorem d_md_multiplied_86 : decode b_md_multiplied 86 = .ok (.return_, 1) := by decide +kernel
/-- SpaceBasisModel.multiplied(II)V -/
def vc_md_multiplied (md_thrownCode : Int32) (md_p : Int32) (md_n : Int32) (md_order : Int32) (md_monomials : Int32) (md_generators : Int32) (md_found : Int32) (md_upTo : Int32) (md_members : Int32) (md_provedNow : Int32) (md_mono : Nat → Int32) (md_row : Nat → Int32) (md_work : Nat → Int32) (p0 : Int32) (p1 : Int32) (Q : (Nat → Int32) → Prop) : Prop :=
  ∃ (I2_3 : Int32 → (Nat → Int32) → Prop) (mu2_4 : Int32 → (Nat → Int32) → Nat), I2_3 0 md_work ∧ ∀ (x3_1 : Int32) (md_work_2 : Nat → Int32), I2_3 x3_1 md_work_2 → ((((md_monomials ≤ x3_1) → (∃ (I25_8 : Int32 → (Nat → Int32) → Prop) (mu25_9 : Int32 → (Nat → Int32) → Nat), I25_8 0 md_work_2 ∧ ∀ (x3_6 : Int32) (md_work_7 : Nat → Int32), I25_8 x3_6 md_work_7 → ((((p0 < x3_6) → (Q md_work_7)) ∧ ((¬ (p0 < x3_6)) → (vp_in ((126 * p0) + x3_6) 15876 ∧ ((((md_row (((126 * p0) + x3_6)).toNatClampNeg) = 0) → (∀ x3_13 : Int32, x3_13 = x3_6 + 1 → (I25_8 x3_13 md_work_7 ∧ mu25_9 x3_13 md_work_7 < mu25_9 x3_6 md_work_7))) ∧ ((¬ ((md_row (((126 * p0) + x3_6)).toNatClampNeg) = 0)) → (vp_in x3_6 126 ∧ vc_md_placeOf md_thrownCode md_p md_n md_order md_monomials md_generators md_found md_upTo md_members md_provedNow md_mono ((md_mono x3_6.toNatClampNeg) + (1 <<< ((24 - (8 * p1)) &&& 31))) (fun (r_15 : Int32) => vp_in ((126 * p0) + x3_6) 15876 ∧ vp_in r_15 126 ∧ ∀ md_work_18 : Nat → Int32, md_work_18 = upd md_work_7 r_15.toNatClampNeg (md_row (((126 * p0) + x3_6)).toNatClampNeg) → ∀ x3_19 : Int32, x3_19 = x3_6 + 1 → (I25_8 x3_19 md_work_18 ∧ mu25_9 x3_19 md_work_18 < mu25_9 x3_6 md_work_7))))))))))) ∧ ((¬ (md_monomials ≤ x3_1)) → (vp_in x3_1 126 ∧ ∀ md_work_21 : Nat → Int32, md_work_21 = upd md_work_2 x3_1.toNatClampNeg 0 → ∀ x3_22 : Int32, x3_22 = x3_1 + 1 → (I2_3 x3_22 md_work_21 ∧ mu2_4 x3_22 md_work_21 < mu2_4 x3_1 md_work_2)))))
abbrev at_md_multiplied (dC : Nat → ClassId) (dI : Nat → Nat → Nat) (cs : Nat → ClassId) (A : Nat → Prop) (ad : Nat → Nat) (md_thrownCode : Int32) (md_p : Int32) (md_n : Int32) (md_order : Int32) (md_monomials : Int32) (md_generators : Int32) (md_found : Int32) (md_upTo : Int32) (md_members : Int32) (md_provedNow : Int32) (md_mono : Nat → Int32) (md_row : Nat → Int32) (u : (Nat → Int32)) (t : State) : Prop := match u with
  | md_work => va_P (dC, dI) vwCl [((ad 0), .inr (8, [.int md_thrownCode, .int md_p, .int md_n, .int md_order, .int md_monomials, .ref (ad 1), .ref (ad 2), .int md_generators, .ref (ad 3), .ref (ad 4), .int md_found, .int md_upTo, .ref (ad 5), .ref (ad 6), .ref (ad 7), .ref (ad 8), .int md_members, .int md_provedNow])), ((ad 1), .inl (cs 0, 126, .inl md_mono)), ((ad 6), .inl (cs 0, 15876, .inl md_row)), ((ad 7), .inl (cs 0, 126, .inl md_work))] t.heap ∧ va_D A [((ad 0), .inr (8, [.int md_thrownCode, .int md_p, .int md_n, .int md_order, .int md_monomials, .ref (ad 1), .ref (ad 2), .int md_generators, .ref (ad 3), .ref (ad 4), .int md_found, .int md_upTo, .ref (ad 5), .ref (ad 6), .ref (ad 7), .ref (ad 8), .int md_members, .int md_provedNow])), ((ad 1), .inl (cs 0, 126, .inl md_mono)), ((ad 6), .inl (cs 0, 15876, .inl md_row)), ((ad 7), .inl (cs 0, 126, .inl md_work))]
set_option maxHeartbeats 4000000 in
set_option maxRecDepth 100000 in
theorem c_md_multiplied (l : Launch) (dC : Nat → ClassId) (dI : Nat → Nat → Nat) (cs : Nat → ClassId) (ad : Nat → Nat)  (sz : Nat) (md_thrownCode : Int32) (md_p : Int32) (md_n : Int32) (md_order : Int32) (md_monomials : Int32) (md_generators : Int32) (md_found : Int32) (md_upTo : Int32) (md_members : Int32) (md_provedNow : Int32) (md_mono : Nat → Int32) (md_row : Nat → Int32) (md_work : Nat → Int32) (p0 : Int32) (p1 : Int32) (Q : (Nat → Int32) → Prop) (hv : vc_md_multiplied md_thrownCode md_p md_n md_order md_monomials md_generators md_found md_upTo md_members md_provedNow md_mono md_row md_work p0 p1 Q) : Met l y_md_multiplied w_md_multiplied ({ frames := 1, cells := 0, slots := 0, locals := 22 }) (va_Pc [.ref (ad 0), .int p0, .int p1] (fun U => U.heap.size = sz ∧ va_P (dC, dI) vwCl [((ad 0), .inr (8, [.int md_thrownCode, .int md_p, .int md_n, .int md_order, .int md_monomials, .ref (ad 1), .ref (ad 2), .int md_generators, .ref (ad 3), .ref (ad 4), .int md_found, .int md_upTo, .ref (ad 5), .ref (ad 6), .ref (ad 7), .ref (ad 8), .int md_members, .int md_provedNow])), ((ad 1), .inl (cs 0, 126, .inl md_mono)), ((ad 6), .inl (cs 0, 15876, .inl md_row)), ((ad 7), .inl (cs 0, 126, .inl md_work))] U.heap ∧ vwK dC dI cs U ∧ va_D (fun _ => True) [((ad 0), .inr (8, [.int md_thrownCode, .int md_p, .int md_n, .int md_order, .int md_monomials, .ref (ad 1), .ref (ad 2), .int md_generators, .ref (ad 3), .ref (ad 4), .int md_found, .int md_upTo, .ref (ad 5), .ref (ad 6), .ref (ad 7), .ref (ad 8), .int md_members, .int md_provedNow])), ((ad 1), .inl (cs 0, 126, .inl md_mono)), ((ad 6), .inl (cs 0, 15876, .inl md_row)), ((ad 7), .inl (cs 0, 126, .inl md_work))])) (va_Qv (fun (u : (Nat → Int32)) => Q u) (at_md_multiplied dC dI cs (va_A [((ad 0), .inr (8, [.int md_thrownCode, .int md_p, .int md_n, .int md_order, .int md_monomials, .ref (ad 1), .ref (ad 2), .int md_generators, .ref (ad 3), .ref (ad 4), .int md_found, .int md_upTo, .ref (ad 5), .ref (ad 6), .ref (ad 7), .ref (ad 8), .int md_members, .int md_provedNow])), ((ad 1), .inl (cs 0, 126, .inl md_mono)), ((ad 6), .inl (cs 0, 15876, .inl md_row)), ((ad 7), .inl (cs 0, 126, .inl md_work))] sz) ad md_thrownCode md_p md_n md_order md_monomials md_generators md_found md_upTo md_members md_provedNow md_mono md_row) (va_A [((ad 0), .inr (8, [.int md_thrownCode, .int md_p, .int md_n, .int md_order, .int md_monomials, .ref (ad 1), .ref (ad 2), .int md_generators, .ref (ad 3), .ref (ad 4), .int md_found, .int md_upTo, .ref (ad 5), .ref (ad 6), .ref (ad 7), .ref (ad 8), .int md_members, .int md_provedNow])), ((ad 1), .inl (cs 0, 126, .inl md_mono)), ((ad 6), .inl (cs 0, 15876, .inl md_row)), ((ad 7), .inl (cs 0, 126, .inl md_work))] sz)) 0 0 (va_A [((ad 0), .inr (8, [.int md_thrownCode, .int md_p, .int md_n, .int md_order, .int md_monomials, .ref (ad 1), .ref (ad 2), .int md_generators, .ref (ad 3), .ref (ad 4), .int md_found, .int md_upTo, .ref (ad 5), .ref (ad 6), .ref (ad 7), .ref (ad 8), .int md_members, .int md_provedNow])), ((ad 1), .inl (cs 0, 126, .inl md_mono)), ((ad 6), .inl (cs 0, 15876, .inl md_row)), ((ad 7), .inl (cs 0, 126, .inl md_work))] sz) := by
  unfold vc_md_multiplied at hv
  refine Met.ofW (cc := b_md_multiplied) (maxL := 4) (ret := none) (by decide) rfl ?_
  intro p e s m args below meth c s₁ B hml hpc
  obtain ⟨rfl, hsz, hP, ⟨hK, hN⟩, hD0⟩ := hpc
  have hx := B.exec
  have hb := B.bytes
  have hr := B.returns
  have hts : ∀ w ∈ vwWS, w.before _ s = true := fun w h => atoms_spec (ws := w_md_multiplied) B.pre w (List.mem_cons_of_mem _ h)
  have hown : s.vm.findClass "SpaceBasisModel" = some m.cls := findClass_of_methodNamed B.named
  have hlocks := B.notSynchronized
  subst hsz
  have hD := hD0.self (sz := s.heap.size)
  generalize hAe : va_A [((ad 0), .inr (8, [.int md_thrownCode, .int md_p, .int md_n, .int md_order, .int md_monomials, .ref (ad 1), .ref (ad 2), .int md_generators, .ref (ad 3), .ref (ad 4), .int md_found, .int md_upTo, .ref (ad 5), .ref (ad 6), .ref (ad 7), .ref (ad 8), .int md_members, .int md_provedNow])), ((ad 1), .inl (cs 0, 126, .inl md_mono)), ((ad 6), .inl (cs 0, 15876, .inl md_row)), ((ad 7), .inl (cs 0, 126, .inl md_work))] s.heap.size = A at hD ⊢
  have hA : ∀ q : Nat, s.heap.size ≤ q → A q := fun q h => by rw [← hAe]; exact Or.inr h
  have hS : va_S A s.heap s.heap [] := va_S.rf
  have hl := lv_entry ([.ref (ad 0), .int p0, .int p1]) (n := 4) (Nat.le_of_ble_eq_true rfl)
  rw [lg_entry_eq]
  generalize (lg_sl ([.ref (ad 0), .int p0, .int p1]) ++ List.replicate (4 - (lg_sl ([.ref (ad 0), .int p0, .int p1])).length) Slot.unset).toArray = ls at hl ⊢
  have hl : lv_has ls 4 [(0, .ref (ad 0)), (1, .int p0), (2, .int p1)] := hl
  refine lv_iconst (v := 0) hx hb d_md_multiplied_0 (by decide) ?_
  refine lv_istore_n (lv' := [(3, .int 0), (0, .ref (ad 0)), (1, .int p0), (2, .int p1)]) hx hb d_md_multiplied_1 rfl hl (by decide) rfl (fun ls hl => ?_)
  obtain ⟨I2_3, mu2_4, hi0, hv⟩ := hv
  have hP := hP.sub (ws' := [((ad 0), .inr (8, [.int md_thrownCode, .int md_p, .int md_n, .int md_order, .int md_monomials, .ref (ad 1), .ref (ad 2), .int md_generators, .ref (ad 3), .ref (ad 4), .int md_found, .int md_upTo, .ref (ad 5), .ref (ad 6), .ref (ad 7), .ref (ad 8), .int md_members, .int md_provedNow])), ((ad 1), .inl (cs 0, 126, .inl md_mono)), ((ad 6), .inl (cs 0, 15876, .inl md_row)), ((ad 7), .inl (cs 0, 126, .inl md_work))]) [0, 1, 2, 3] rfl
  have hD := hD.sub (ws' := [((ad 0), .inr (8, [.int md_thrownCode, .int md_p, .int md_n, .int md_order, .int md_monomials, .ref (ad 1), .ref (ad 2), .int md_generators, .ref (ad 3), .ref (ad 4), .int md_found, .int md_upTo, .ref (ad 5), .ref (ad 6), .ref (ad 7), .ref (ad 8), .int md_members, .int md_provedNow])), ((ad 1), .inl (cs 0, 126, .inl md_mono)), ((ad 6), .inl (cs 0, 15876, .inl md_row)), ((ad 7), .inl (cs 0, 126, .inl md_work))]) [0, 1, 2, 3] (by decide) rfl
  have hl := lv_sub (l' := [(0, .ref (ad 0)), (1, .int p0), (2, .int p1), (3, .int 0)]) hl [1, 2, 3, 0] rfl
  have loop2 : ∀ (nn : Nat) (x3_1 : Int32) (md_work_2 : Nat → Int32), mu2_4 x3_1 md_work_2 < nn → I2_3 x3_1 md_work_2 → ∀ (H : Heap) (locs : List Loc) (ls : Array Slot), va_P (dC, dI) vwCl [((ad 0), .inr (8, [.int md_thrownCode, .int md_p, .int md_n, .int md_order, .int md_monomials, .ref (ad 1), .ref (ad 2), .int md_generators, .ref (ad 3), .ref (ad 4), .int md_found, .int md_upTo, .ref (ad 5), .ref (ad 6), .ref (ad 7), .ref (ad 8), .int md_members, .int md_provedNow])), ((ad 1), .inl (cs 0, 126, .inl md_mono)), ((ad 6), .inl (cs 0, 15876, .inl md_row)), ((ad 7), .inl (cs 0, 126, .inl md_work_2))] H → va_D A [((ad 0), .inr (8, [.int md_thrownCode, .int md_p, .int md_n, .int md_order, .int md_monomials, .ref (ad 1), .ref (ad 2), .int md_generators, .ref (ad 3), .ref (ad 4), .int md_found, .int md_upTo, .ref (ad 5), .ref (ad 6), .ref (ad 7), .ref (ad 8), .int md_members, .int md_provedNow])), ((ad 1), .inl (cs 0, 126, .inl md_mono)), ((ad 6), .inl (cs 0, 15876, .inl md_row)), ((ad 7), .inl (cs 0, 126, .inl md_work_2))] → va_S A s.heap H locs → lv_has ls 4 [(0, .ref (ad 0)), (1, .int p0), (2, .int p1), (3, .int x3_1)] → W p l e (headSpec w_md_multiplied { frames := 1, cells := 0, slots := 0, locals := 22 }).room s m ([.ref (ad 0), .int p0, .int p1] : List Value).toArray below meth c H locs 0 0 (MQ below (va_Qv (fun (u : (Nat → Int32)) => Q u) (at_md_multiplied dC dI cs A ad md_thrownCode md_p md_n md_order md_monomials md_generators md_found md_upTo md_members md_provedNow md_mono md_row) A) ([.ref (ad 0), .int p0, .int p1] : List Value).toArray s 0 0 A) (F0 m 2 ls []) := by
    intro nn
    induction nn with
    | zero => intro x3_1 md_work_2 hlt; exact absurd hlt (Nat.not_lt_zero _)
    | succ nn ih2 =>
      intro x3_1 md_work_2 hlt2 hI H locs ls hP hD hS hl
      have hv := hv x3_1 md_work_2 hI
      refine lv_iload_n hx hb d_md_multiplied_2 rfl (lv_at hl 3 rfl) ?_
      refine lv_aload_n hx hb d_md_multiplied_3 rfl (lv_at hl 0 rfl) ?_
      refine va_get (D := (dC, dI)) (ci := 8) (v := .int md_monomials) (C := R_md) (T := F_md) (N := 18) hx hb hts in_md hown hK hP 0 rfl rfl 4 (by decide) (hts _ kw_622) (fun _ h9 => h9) rfl d_md_multiplied_4 ?_
      refine lv_icmp_ge (tgt := 23) hx hb d_md_multiplied_7 (by decide) (fun c_5 => ?_) (fun c_5 => ?_)
      · have hv := hv.1 c_5
        refine lv_iconst (v := 0) hx hb d_md_multiplied_23 (by decide) ?_
        refine lv_istore_n (lv' := [(3, .int 0), (0, .ref (ad 0)), (1, .int p0), (2, .int p1)]) hx hb d_md_multiplied_24 rfl hl (by decide) rfl (fun ls hl => ?_)
        obtain ⟨I25_8, mu25_9, hi0, hv⟩ := hv
        have hP := hP.sub (ws' := [((ad 0), .inr (8, [.int md_thrownCode, .int md_p, .int md_n, .int md_order, .int md_monomials, .ref (ad 1), .ref (ad 2), .int md_generators, .ref (ad 3), .ref (ad 4), .int md_found, .int md_upTo, .ref (ad 5), .ref (ad 6), .ref (ad 7), .ref (ad 8), .int md_members, .int md_provedNow])), ((ad 1), .inl (cs 0, 126, .inl md_mono)), ((ad 6), .inl (cs 0, 15876, .inl md_row)), ((ad 7), .inl (cs 0, 126, .inl md_work_2))]) [0, 1, 2, 3] rfl
        have hD := hD.sub (ws' := [((ad 0), .inr (8, [.int md_thrownCode, .int md_p, .int md_n, .int md_order, .int md_monomials, .ref (ad 1), .ref (ad 2), .int md_generators, .ref (ad 3), .ref (ad 4), .int md_found, .int md_upTo, .ref (ad 5), .ref (ad 6), .ref (ad 7), .ref (ad 8), .int md_members, .int md_provedNow])), ((ad 1), .inl (cs 0, 126, .inl md_mono)), ((ad 6), .inl (cs 0, 15876, .inl md_row)), ((ad 7), .inl (cs 0, 126, .inl md_work_2))]) [0, 1, 2, 3] (by decide) rfl
        have hl := lv_sub (l' := [(0, .ref (ad 0)), (1, .int p0), (2, .int p1), (3, .int 0)]) hl [1, 2, 3, 0] rfl
        have loop25 : ∀ (nn : Nat) (x3_6 : Int32) (md_work_7 : Nat → Int32), mu25_9 x3_6 md_work_7 < nn → I25_8 x3_6 md_work_7 → ∀ (H : Heap) (locs : List Loc) (ls : Array Slot), va_P (dC, dI) vwCl [((ad 0), .inr (8, [.int md_thrownCode, .int md_p, .int md_n, .int md_order, .int md_monomials, .ref (ad 1), .ref (ad 2), .int md_generators, .ref (ad 3), .ref (ad 4), .int md_found, .int md_upTo, .ref (ad 5), .ref (ad 6), .ref (ad 7), .ref (ad 8), .int md_members, .int md_provedNow])), ((ad 1), .inl (cs 0, 126, .inl md_mono)), ((ad 6), .inl (cs 0, 15876, .inl md_row)), ((ad 7), .inl (cs 0, 126, .inl md_work_7))] H → va_D A [((ad 0), .inr (8, [.int md_thrownCode, .int md_p, .int md_n, .int md_order, .int md_monomials, .ref (ad 1), .ref (ad 2), .int md_generators, .ref (ad 3), .ref (ad 4), .int md_found, .int md_upTo, .ref (ad 5), .ref (ad 6), .ref (ad 7), .ref (ad 8), .int md_members, .int md_provedNow])), ((ad 1), .inl (cs 0, 126, .inl md_mono)), ((ad 6), .inl (cs 0, 15876, .inl md_row)), ((ad 7), .inl (cs 0, 126, .inl md_work_7))] → va_S A s.heap H locs → lv_has ls 4 [(0, .ref (ad 0)), (1, .int p0), (2, .int p1), (3, .int x3_6)] → W p l e (headSpec w_md_multiplied { frames := 1, cells := 0, slots := 0, locals := 22 }).room s m ([.ref (ad 0), .int p0, .int p1] : List Value).toArray below meth c H locs 0 0 (MQ below (va_Qv (fun (u : (Nat → Int32)) => Q u) (at_md_multiplied dC dI cs A ad md_thrownCode md_p md_n md_order md_monomials md_generators md_found md_upTo md_members md_provedNow md_mono md_row) A) ([.ref (ad 0), .int p0, .int p1] : List Value).toArray s 0 0 A) (F0 m 25 ls []) := by
          intro nn
          induction nn with
          | zero => intro x3_6 md_work_7 hlt; exact absurd hlt (Nat.not_lt_zero _)
          | succ nn ih25 =>
            intro x3_6 md_work_7 hlt25 hI H locs ls hP hD hS hl
            have hv := hv x3_6 md_work_7 hI
            refine lv_iload_n hx hb d_md_multiplied_25 rfl (lv_at hl 3 rfl) ?_
            refine lv_iload_n hx hb d_md_multiplied_26 rfl (lv_at hl 1 rfl) ?_
            refine lv_icmp_gt (tgt := 86) hx hb d_md_multiplied_27 (by decide) (fun c_10 => ?_) (fun c_10 => ?_)
            · have hv := hv.1 c_10
              have hP9 := hP.sub (ws' := [((ad 0), .inr (8, [.int md_thrownCode, .int md_p, .int md_n, .int md_order, .int md_monomials, .ref (ad 1), .ref (ad 2), .int md_generators, .ref (ad 3), .ref (ad 4), .int md_found, .int md_upTo, .ref (ad 5), .ref (ad 6), .ref (ad 7), .ref (ad 8), .int md_members, .int md_provedNow])), ((ad 1), .inl (cs 0, 126, .inl md_mono)), ((ad 6), .inl (cs 0, 15876, .inl md_row)), ((ad 7), .inl (cs 0, 126, .inl md_work_7))]) [0, 1, 2, 3] rfl
              have hD9 := hD.sub (ws' := [((ad 0), .inr (8, [.int md_thrownCode, .int md_p, .int md_n, .int md_order, .int md_monomials, .ref (ad 1), .ref (ad 2), .int md_generators, .ref (ad 3), .ref (ad 4), .int md_found, .int md_upTo, .ref (ad 5), .ref (ad 6), .ref (ad 7), .ref (ad 8), .int md_members, .int md_provedNow])), ((ad 1), .inl (cs 0, 126, .inl md_mono)), ((ad 6), .inl (cs 0, 15876, .inl md_row)), ((ad 7), .inl (cs 0, 126, .inl md_work_7))]) [0, 1, 2, 3] (by decide) rfl
              exact W.vret hx hb hr (fun t ht hW => ⟨⟨md_work_7, rfl, hv, by rw [ht]; exact hP9, hD9⟩, hS.F ht⟩) hS.2.2 d_md_multiplied_86
            · have hv := hv.2 c_10
              refine lv_aload_n hx hb d_md_multiplied_30 rfl (lv_at hl 0 rfl) ?_
              refine va_get (D := (dC, dI)) (ci := 8) (v := .ref (ad 6)) (C := R_md) (T := F_md) (N := 18) hx hb hts in_md hown hK hP 0 rfl rfl 13 (by decide) (hts _ kw_631) (fun _ h9 => h9) rfl d_md_multiplied_31 ?_
              refine lv_bipush (v := 126) hx hb d_md_multiplied_34 (by decide) ?_
              refine lv_iload_n hx hb d_md_multiplied_36 rfl (lv_at hl 1 rfl) ?_
              refine lv_imul hx hb d_md_multiplied_37 ?_
              refine lv_iload_n hx hb d_md_multiplied_38 rfl (lv_at hl 3 rfl) ?_
              refine lv_iadd hx hb d_md_multiplied_39 ?_
              obtain ⟨hi_11, hv⟩ := hv
              refine va_iald hx hb hK hP 2 0 rfl rfl hi_11 d_md_multiplied_40 ?_
              refine lv_if_eq (tgt := 80) hx hb d_md_multiplied_41 (by decide) (fun c_12 => ?_) (fun c_12 => ?_)
              · have hv := hv.1 c_12
                obtain ⟨x3_13, ex3_13⟩ : ∃ y : Int32, y = x3_6 + 1 := ⟨_, rfl⟩
                have hv := hv x3_13 ex3_13
                refine lv_iinc (v := x3_13) (lv' := [(3, .int x3_13), (0, .ref (ad 0)), (1, .int p0), (2, .int p1)]) hx hb d_md_multiplied_80 hl (k := 3) rfl (by rw [ex3_13]; rfl) (by decide) rfl (fun ls hl => ?_)
                refine lv_goto (tgt := 25) hx hb d_md_multiplied_83 (by decide) ?_
                exact ih25 x3_13 md_work_7 (Nat.lt_of_lt_of_le hv.2 (Nat.le_of_lt_succ hlt25)) hv.1 _ _ _ (hP.sub [0, 1, 2, 3] rfl) (hD.sub [0, 1, 2, 3] (by decide) rfl) hS (lv_sub hl [1, 2, 3, 0] rfl)
              · have hv := hv.2 c_12
                refine lv_aload_n hx hb d_md_multiplied_44 rfl (lv_at hl 0 rfl) ?_
                refine va_get (D := (dC, dI)) (ci := 8) (v := .ref (ad 7)) (C := R_md) (T := F_md) (N := 18) hx hb hts in_md hown hK hP 0 rfl rfl 14 (by decide) (hts _ kw_632) (fun _ h9 => h9) rfl d_md_multiplied_45 ?_
                refine lv_aload_n hx hb d_md_multiplied_48 rfl (lv_at hl 0 rfl) ?_
                refine lv_aload_n hx hb d_md_multiplied_49 rfl (lv_at hl 0 rfl) ?_
                refine va_get (D := (dC, dI)) (ci := 8) (v := .ref (ad 1)) (C := R_md) (T := F_md) (N := 18) hx hb hts in_md hown hK hP 0 rfl rfl 5 (by decide) (hts _ kw_623) (fun _ h9 => h9) rfl d_md_multiplied_50 ?_
                refine lv_iload_n hx hb d_md_multiplied_53 rfl (lv_at hl 3 rfl) ?_
                obtain ⟨hi_14, hv⟩ := hv
                refine va_iald hx hb hK hP 1 0 rfl rfl hi_14 d_md_multiplied_54 ?_
                refine lv_iconst (v := 1) hx hb d_md_multiplied_55 (by decide) ?_
                refine lv_bipush (v := 24) hx hb d_md_multiplied_56 (by decide) ?_
                refine lv_bipush (v := 8) hx hb d_md_multiplied_58 (by decide) ?_
                refine lv_iload_n hx hb d_md_multiplied_60 rfl (lv_at hl 2 rfl) ?_
                refine lv_imul hx hb d_md_multiplied_61 ?_
                refine lv_isub hx hb d_md_multiplied_62 ?_
                refine lv_ishl hx hb d_md_multiplied_63 ?_
                refine lv_iadd hx hb d_md_multiplied_64 ?_
                have hPc := hP.sub (ws' := [((ad 0), .inr (8, [.int md_thrownCode, .int md_p, .int md_n, .int md_order, .int md_monomials, .ref (ad 1), .ref (ad 2), .int md_generators, .ref (ad 3), .ref (ad 4), .int md_found, .int md_upTo, .ref (ad 5), .ref (ad 6), .ref (ad 7), .ref (ad 8), .int md_members, .int md_provedNow])), ((ad 1), .inl (cs 0, 126, .inl md_mono))]) [0, 1] rfl
                have hDc := hD.sub (ws' := [((ad 0), .inr (8, [.int md_thrownCode, .int md_p, .int md_n, .int md_order, .int md_monomials, .ref (ad 1), .ref (ad 2), .int md_generators, .ref (ad 3), .ref (ad 4), .int md_found, .int md_upTo, .ref (ad 5), .ref (ad 6), .ref (ad 7), .ref (ad 8), .int md_members, .int md_provedNow])), ((ad 1), .inl (cs 0, 126, .inl md_mono))]) [0, 1] (by decide) rfl
                have hFc := va_free (wc := [((ad 0), .inr (8, [.int md_thrownCode, .int md_p, .int md_n, .int md_order, .int md_monomials, .ref (ad 1), .ref (ad 2), .int md_generators, .ref (ad 3), .ref (ad 4), .int md_found, .int md_upTo, .ref (ad 5), .ref (ad 6), .ref (ad 7), .ref (ad 8), .int md_members, .int md_provedNow])), ((ad 1), .inl (cs 0, 126, .inl md_mono))]) hD hS hA [0, 1] rfl
                refine va_calli (va_runV (As := [.int ((md_mono x3_6.toNatClampNeg) + (1 <<< ((24 - (8 * p1)) &&& 31)))]) (rest := [.ref (ad 7)]) ⟨hx, hb, hml, hown, hts⟩ (c_md_placeOf l dC dI cs ad  H.size md_thrownCode md_p md_n md_order md_monomials md_generators md_found md_upTo md_members md_provedNow md_mono ((md_mono x3_6.toNatClampNeg) + (1 <<< ((24 - (8 * p1)) &&& 31))) _ hv) (cwV 1 hts (gd_V kw_689 kw_690 kw_20 kw_41 kw_691) rfl rfl rfl (by decide +kernel) ⟨Nat.le_of_ble_eq_true rfl, Nat.le_of_ble_eq_true rfl⟩) ⟨fun a U g mk q => by obtain ⟨q0, q1, qP, qK, qD⟩ := q; exact ⟨q0, q1, qP, qK.call, qD⟩, va_recv hK hPc (ci := 8) (q0 := 0) rfl rfl, fun U hU hW => ⟨rfl, by rw [hU], by rw [hU]; exact hPc, vwK.warm hW ⟨hK, hN⟩, hDc.weaken (fun _ _ _ _ => trivial)⟩⟩ rfl rfl hl.1 rfl (lv_room (Nat.le_of_ble_eq_true rfl)) d_md_multiplied_65 ⟨Nat.zero_le _, Nat.zero_le _⟩) hS (fun q _ h => hFc q h) hFc (fun r_15 _u t H1 locs1 ht hvm hw hB hz1 hk1 hS => ?_)
                obtain ⟨hP1, hD1⟩ := hB
                rw [ht] at hP1
                obtain ⟨hP, hD⟩ := va_join (wr := [((ad 6), .inl (cs 0, 15876, .inl md_row)), ((ad 7), .inl (cs 0, 126, .inl md_work_7))]) (w1 := [((ad 0), .inr (8, [.int md_thrownCode, .int md_p, .int md_n, .int md_order, .int md_monomials, .ref (ad 1), .ref (ad 2), .int md_generators, .ref (ad 3), .ref (ad 4), .int md_found, .int md_upTo, .ref (ad 5), .ref (ad 6), .ref (ad 7), .ref (ad 8), .int md_members, .int md_provedNow])), ((ad 1), .inl (cs 0, 126, .inl md_mono))]) hP hD [0, 1] [2, 3] rfl rfl (by decide) (by decide) hk1 hFc hP1 hD1
                generalize H1 = H at hP hS ⊢
                generalize locs1 = locs at hS ⊢
                have hP : va_P (dC, dI) vwCl [((ad 6), .inl (cs 0, 15876, .inl md_row)), ((ad 7), .inl (cs 0, 126, .inl md_work_7)), ((ad 0), .inr (8, [.int md_thrownCode, .int md_p, .int md_n, .int md_order, .int md_monomials, .ref (ad 1), .ref (ad 2), .int md_generators, .ref (ad 3), .ref (ad 4), .int md_found, .int md_upTo, .ref (ad 5), .ref (ad 6), .ref (ad 7), .ref (ad 8), .int md_members, .int md_provedNow])), ((ad 1), .inl (cs 0, 126, .inl md_mono))] H := hP
                have hD : va_D A [((ad 6), .inl (cs 0, 15876, .inl md_row)), ((ad 7), .inl (cs 0, 126, .inl md_work_7)), ((ad 0), .inr (8, [.int md_thrownCode, .int md_p, .int md_n, .int md_order, .int md_monomials, .ref (ad 1), .ref (ad 2), .int md_generators, .ref (ad 3), .ref (ad 4), .int md_found, .int md_upTo, .ref (ad 5), .ref (ad 6), .ref (ad 7), .ref (ad 8), .int md_members, .int md_provedNow])), ((ad 1), .inl (cs 0, 126, .inl md_mono))] := hD
                have hv := hw
                try dsimp only at hv
                refine lv_aload_n hx hb d_md_multiplied_68 rfl (lv_at hl 0 rfl) ?_
                refine va_get (D := (dC, dI)) (ci := 8) (v := .ref (ad 6)) (C := R_md) (T := F_md) (N := 18) hx hb hts in_md hown hK hP 2 rfl rfl 13 (by decide) (hts _ kw_631) (fun _ h9 => h9) rfl d_md_multiplied_69 ?_
                refine lv_bipush (v := 126) hx hb d_md_multiplied_72 (by decide) ?_
                refine lv_iload_n hx hb d_md_multiplied_74 rfl (lv_at hl 1 rfl) ?_
                refine lv_imul hx hb d_md_multiplied_75 ?_
                refine lv_iload_n hx hb d_md_multiplied_76 rfl (lv_at hl 3 rfl) ?_
                refine lv_iadd hx hb d_md_multiplied_77 ?_
                obtain ⟨hi_16, hv⟩ := hv
                refine va_iald hx hb hK hP 0 0 rfl rfl hi_16 d_md_multiplied_78 ?_
                obtain ⟨hi_17, hv⟩ := hv
                refine va_iast hx hb hK hP hD hS 1 0 rfl rfl hi_17 d_md_multiplied_79 (fun H locs hP hD hS => ?_)
                have hP : va_P (dC, dI) vwCl [((ad 6), .inl (cs 0, 15876, .inl md_row)), ((ad 7), .inl (cs 0, 126, .inl (upd md_work_7 r_15.toNatClampNeg (md_row (((126 * p0) + x3_6)).toNatClampNeg)))), ((ad 0), .inr (8, [.int md_thrownCode, .int md_p, .int md_n, .int md_order, .int md_monomials, .ref (ad 1), .ref (ad 2), .int md_generators, .ref (ad 3), .ref (ad 4), .int md_found, .int md_upTo, .ref (ad 5), .ref (ad 6), .ref (ad 7), .ref (ad 8), .int md_members, .int md_provedNow])), ((ad 1), .inl (cs 0, 126, .inl md_mono))] H := hP
                have hD : va_D A [((ad 6), .inl (cs 0, 15876, .inl md_row)), ((ad 7), .inl (cs 0, 126, .inl (upd md_work_7 r_15.toNatClampNeg (md_row (((126 * p0) + x3_6)).toNatClampNeg)))), ((ad 0), .inr (8, [.int md_thrownCode, .int md_p, .int md_n, .int md_order, .int md_monomials, .ref (ad 1), .ref (ad 2), .int md_generators, .ref (ad 3), .ref (ad 4), .int md_found, .int md_upTo, .ref (ad 5), .ref (ad 6), .ref (ad 7), .ref (ad 8), .int md_members, .int md_provedNow])), ((ad 1), .inl (cs 0, 126, .inl md_mono))] := hD
                generalize emd_work_18 : upd md_work_7 r_15.toNatClampNeg (md_row (((126 * p0) + x3_6)).toNatClampNeg) = md_work_18 at hP hD
                have hv := hv md_work_18 emd_work_18.symm
                obtain ⟨x3_19, ex3_19⟩ : ∃ y : Int32, y = x3_6 + 1 := ⟨_, rfl⟩
                have hv := hv x3_19 ex3_19
                refine lv_iinc (v := x3_19) (lv' := [(3, .int x3_19), (0, .ref (ad 0)), (1, .int p0), (2, .int p1)]) hx hb d_md_multiplied_80 hl (k := 3) rfl (by rw [ex3_19]; rfl) (by decide) rfl (fun ls hl => ?_)
                refine lv_goto (tgt := 25) hx hb d_md_multiplied_83 (by decide) ?_
                exact ih25 x3_19 md_work_18 (Nat.lt_of_lt_of_le hv.2 (Nat.le_of_lt_succ hlt25)) hv.1 _ _ _ (hP.sub [2, 3, 0, 1] rfl) (hD.sub [2, 3, 0, 1] (by decide) rfl) hS (lv_sub hl [1, 2, 3, 0] rfl)
        exact loop25 _ 0 md_work_2 (Nat.lt_succ_self _) hi0 _ _ _ hP hD hS hl
      · have hv := hv.2 c_5
        refine lv_aload_n hx hb d_md_multiplied_10 rfl (lv_at hl 0 rfl) ?_
        refine va_get (D := (dC, dI)) (ci := 8) (v := .ref (ad 7)) (C := R_md) (T := F_md) (N := 18) hx hb hts in_md hown hK hP 0 rfl rfl 14 (by decide) (hts _ kw_632) (fun _ h9 => h9) rfl d_md_multiplied_11 ?_
        refine lv_iload_n hx hb d_md_multiplied_14 rfl (lv_at hl 3 rfl) ?_
        refine lv_iconst (v := 0) hx hb d_md_multiplied_15 (by decide) ?_
        obtain ⟨hi_20, hv⟩ := hv
        refine va_iast hx hb hK hP hD hS 3 0 rfl rfl hi_20 d_md_multiplied_16 (fun H locs hP hD hS => ?_)
        have hP : va_P (dC, dI) vwCl [((ad 0), .inr (8, [.int md_thrownCode, .int md_p, .int md_n, .int md_order, .int md_monomials, .ref (ad 1), .ref (ad 2), .int md_generators, .ref (ad 3), .ref (ad 4), .int md_found, .int md_upTo, .ref (ad 5), .ref (ad 6), .ref (ad 7), .ref (ad 8), .int md_members, .int md_provedNow])), ((ad 1), .inl (cs 0, 126, .inl md_mono)), ((ad 6), .inl (cs 0, 15876, .inl md_row)), ((ad 7), .inl (cs 0, 126, .inl (upd md_work_2 x3_1.toNatClampNeg 0)))] H := hP
        have hD : va_D A [((ad 0), .inr (8, [.int md_thrownCode, .int md_p, .int md_n, .int md_order, .int md_monomials, .ref (ad 1), .ref (ad 2), .int md_generators, .ref (ad 3), .ref (ad 4), .int md_found, .int md_upTo, .ref (ad 5), .ref (ad 6), .ref (ad 7), .ref (ad 8), .int md_members, .int md_provedNow])), ((ad 1), .inl (cs 0, 126, .inl md_mono)), ((ad 6), .inl (cs 0, 15876, .inl md_row)), ((ad 7), .inl (cs 0, 126, .inl (upd md_work_2 x3_1.toNatClampNeg 0)))] := hD
        generalize emd_work_21 : upd md_work_2 x3_1.toNatClampNeg 0 = md_work_21 at hP hD
        have hv := hv md_work_21 emd_work_21.symm
        obtain ⟨x3_22, ex3_22⟩ : ∃ y : Int32, y = x3_1 + 1 := ⟨_, rfl⟩
        have hv := hv x3_22 ex3_22
        refine lv_iinc (v := x3_22) (lv' := [(3, .int x3_22), (0, .ref (ad 0)), (1, .int p0), (2, .int p1)]) hx hb d_md_multiplied_17 hl (k := 3) rfl (by rw [ex3_22]; rfl) (by decide) rfl (fun ls hl => ?_)
        refine lv_goto (tgt := 2) hx hb d_md_multiplied_20 (by decide) ?_
        exact ih2 x3_22 md_work_21 (Nat.lt_of_lt_of_le hv.2 (Nat.le_of_lt_succ hlt2)) hv.1 _ _ _ (hP.sub [0, 1, 2, 3] rfl) (hD.sub [0, 1, 2, 3] (by decide) rfl) hS (lv_sub hl [1, 2, 3, 0] rfl)
  exact loop2 _ 0 md_work (Nat.lt_succ_self _) hi0 _ _ _ hP hD hS hl
abbrev b_md_degreeOfGenerator : ByteArray := prog_10_method_14_code
def y_md_degreeOfGenerator : MethodName := ⟨"SpaceBasisModel", "degreeOfGenerator", "(I)I"⟩
def w_md_degreeOfGenerator : List Cond := Cond.code y_md_degreeOfGenerator b_md_degreeOfGenerator 4 (some .int) :: vwWS
theorem d_md_degreeOfGenerator_0 : decode b_md_degreeOfGenerator 0 = .ok (.iconst (-1), 1) := by decide +kernel
theorem d_md_degreeOfGenerator_1 : decode b_md_degreeOfGenerator 1 = .ok (.istore_n 2, 1) := by decide +kernel
theorem d_md_degreeOfGenerator_2 : decode b_md_degreeOfGenerator 2 = .ok (.iconst 0, 1) := by decide +kernel
theorem d_md_degreeOfGenerator_3 : decode b_md_degreeOfGenerator 3 = .ok (.istore_n 3, 1) := by decide +kernel
theorem d_md_degreeOfGenerator_4 : decode b_md_degreeOfGenerator 4 = .ok (.iload_n 3, 1) := by decide +kernel
theorem d_md_degreeOfGenerator_5 : decode b_md_degreeOfGenerator 5 = .ok (.aload_n 0, 1) := by decide +kernel
theorem d_md_degreeOfGenerator_6 : decode b_md_degreeOfGenerator 6 = .ok (.getfield 22, 3) := by decide +kernel
theorem d_md_degreeOfGenerator_9 : decode b_md_degreeOfGenerator 9 = .ok (.if_icmp .ge 30, 3) := by decide +kernel
theorem d_md_degreeOfGenerator_12 : decode b_md_degreeOfGenerator 12 = .ok (.aload_n 0, 1) := by decide +kernel
theorem d_md_degreeOfGenerator_13 : decode b_md_degreeOfGenerator 13 = .ok (.getfield 35, 3) := by decide +kernel
theorem d_md_degreeOfGenerator_16 : decode b_md_degreeOfGenerator 16 = .ok (.bipush 126, 2) := by decide +kernel
theorem d_md_degreeOfGenerator_18 : decode b_md_degreeOfGenerator 18 = .ok (.iload_n 1, 1) := by decide +kernel
theorem d_md_degreeOfGenerator_19 : decode b_md_degreeOfGenerator 19 = .ok (.imul, 1) := by decide +kernel
theorem d_md_degreeOfGenerator_20 : decode b_md_degreeOfGenerator 20 = .ok (.iload_n 3, 1) := by decide +kernel
theorem d_md_degreeOfGenerator_21 : decode b_md_degreeOfGenerator 21 = .ok (.iadd, 1) := by decide +kernel
theorem d_md_degreeOfGenerator_22 : decode b_md_degreeOfGenerator 22 = .ok (.iaload, 1) := by decide +kernel
theorem d_md_degreeOfGenerator_23 : decode b_md_degreeOfGenerator 23 = .ok (.ifCond .eq 10, 3) := by decide +kernel
theorem d_md_degreeOfGenerator_26 : decode b_md_degreeOfGenerator 26 = .ok (.aload_n 0, 1) := by decide +kernel
theorem d_md_degreeOfGenerator_27 : decode b_md_degreeOfGenerator 27 = .ok (.getfield 29, 3) := by decide +kernel
theorem d_md_degreeOfGenerator_30 : decode b_md_degreeOfGenerator 30 = .ok (.iload_n 3, 1) := by decide +kernel
theorem d_md_degreeOfGenerator_31 : decode b_md_degreeOfGenerator 31 = .ok (.iaload, 1) := by decide +kernel
theorem d_md_degreeOfGenerator_32 : decode b_md_degreeOfGenerator 32 = .ok (.istore_n 2, 1) := by decide +kernel
theorem d_md_degreeOfGenerator_33 : decode b_md_degreeOfGenerator 33 = .ok (.iinc 3 1, 3) := by decide +kernel
theorem d_md_degreeOfGenerator_36 : decode b_md_degreeOfGenerator 36 = .ok (.goto (-32), 3) := by decide +kernel
theorem d_md_degreeOfGenerator_39 : decode b_md_degreeOfGenerator 39 = .ok (.iload_n 2, 1) := by decide +kernel
theorem d_md_degreeOfGenerator_40 : decode b_md_degreeOfGenerator 40 = .ok (.ireturn, 1) := by decide +kernel
/-- SpaceBasisModel.degreeOfGenerator(I)I -/
def vc_md_degreeOfGenerator (md_thrownCode : Int32) (md_p : Int32) (md_n : Int32) (md_order : Int32) (md_monomials : Int32) (md_generators : Int32) (md_found : Int32) (md_upTo : Int32) (md_members : Int32) (md_provedNow : Int32) (md_degree : Nat → Int32) (md_generator : Nat → Int32) (p0 : Int32) (Q : Int32 → Prop) : Prop :=
  ∃ (I4_3 : Int32 → Int32 → Prop) (mu4_4 : Int32 → Int32 → Nat), I4_3 (-1) 0 ∧ ∀ (x2_1 : Int32) (x3_2 : Int32), I4_3 x2_1 x3_2 → ((((md_monomials ≤ x3_2) → (Q x2_1)) ∧ ((¬ (md_monomials ≤ x3_2)) → (vp_in ((126 * p0) + x3_2) 1008 ∧ ((((md_generator (((126 * p0) + x3_2)).toNatClampNeg) = 0) → (∀ x3_8 : Int32, x3_8 = x3_2 + 1 → (I4_3 x2_1 x3_8 ∧ mu4_4 x2_1 x3_8 < mu4_4 x2_1 x3_2))) ∧ ((¬ ((md_generator (((126 * p0) + x3_2)).toNatClampNeg) = 0)) → (vp_in x3_2 126 ∧ ∀ x2_10 : Int32, x2_10 = (md_degree x3_2.toNatClampNeg) → ∀ x3_11 : Int32, x3_11 = x3_2 + 1 → (I4_3 x2_10 x3_11 ∧ mu4_4 x2_10 x3_11 < mu4_4 x2_1 x3_2))))))))
abbrev at_md_degreeOfGenerator (dC : Nat → ClassId) (dI : Nat → Nat → Nat) (cs : Nat → ClassId) (A : Nat → Prop) (ad : Nat → Nat) (md_thrownCode : Int32) (md_p : Int32) (md_n : Int32) (md_order : Int32) (md_monomials : Int32) (md_generators : Int32) (md_found : Int32) (md_upTo : Int32) (md_members : Int32) (md_provedNow : Int32) (md_degree : Nat → Int32) (md_generator : Nat → Int32) (u : Unit) (t : State) : Prop := match u with
  | _ => va_P (dC, dI) vwCl [((ad 0), .inr (8, [.int md_thrownCode, .int md_p, .int md_n, .int md_order, .int md_monomials, .ref (ad 1), .ref (ad 2), .int md_generators, .ref (ad 3), .ref (ad 4), .int md_found, .int md_upTo, .ref (ad 5), .ref (ad 6), .ref (ad 7), .ref (ad 8), .int md_members, .int md_provedNow])), ((ad 2), .inl (cs 0, 126, .inl md_degree)), ((ad 3), .inl (cs 0, 1008, .inl md_generator))] t.heap ∧ va_D A [((ad 0), .inr (8, [.int md_thrownCode, .int md_p, .int md_n, .int md_order, .int md_monomials, .ref (ad 1), .ref (ad 2), .int md_generators, .ref (ad 3), .ref (ad 4), .int md_found, .int md_upTo, .ref (ad 5), .ref (ad 6), .ref (ad 7), .ref (ad 8), .int md_members, .int md_provedNow])), ((ad 2), .inl (cs 0, 126, .inl md_degree)), ((ad 3), .inl (cs 0, 1008, .inl md_generator))]
set_option maxHeartbeats 4000000 in
set_option maxRecDepth 100000 in
theorem c_md_degreeOfGenerator (l : Launch) (dC : Nat → ClassId) (dI : Nat → Nat → Nat) (cs : Nat → ClassId) (ad : Nat → Nat)  (sz : Nat) (md_thrownCode : Int32) (md_p : Int32) (md_n : Int32) (md_order : Int32) (md_monomials : Int32) (md_generators : Int32) (md_found : Int32) (md_upTo : Int32) (md_members : Int32) (md_provedNow : Int32) (md_degree : Nat → Int32) (md_generator : Nat → Int32) (p0 : Int32) (Q : Int32 → Prop) (hv : vc_md_degreeOfGenerator md_thrownCode md_p md_n md_order md_monomials md_generators md_found md_upTo md_members md_provedNow md_degree md_generator p0 Q) : Met l y_md_degreeOfGenerator w_md_degreeOfGenerator ({ frames := 0, cells := 0, slots := 0, locals := 0 }) (va_Pc [.ref (ad 0), .int p0] (fun U => U.heap.size = sz ∧ va_P (dC, dI) vwCl [((ad 0), .inr (8, [.int md_thrownCode, .int md_p, .int md_n, .int md_order, .int md_monomials, .ref (ad 1), .ref (ad 2), .int md_generators, .ref (ad 3), .ref (ad 4), .int md_found, .int md_upTo, .ref (ad 5), .ref (ad 6), .ref (ad 7), .ref (ad 8), .int md_members, .int md_provedNow])), ((ad 2), .inl (cs 0, 126, .inl md_degree)), ((ad 3), .inl (cs 0, 1008, .inl md_generator))] U.heap ∧ vwK dC dI cs U ∧ va_D (fun _ => True) [((ad 0), .inr (8, [.int md_thrownCode, .int md_p, .int md_n, .int md_order, .int md_monomials, .ref (ad 1), .ref (ad 2), .int md_generators, .ref (ad 3), .ref (ad 4), .int md_found, .int md_upTo, .ref (ad 5), .ref (ad 6), .ref (ad 7), .ref (ad 8), .int md_members, .int md_provedNow])), ((ad 2), .inl (cs 0, 126, .inl md_degree)), ((ad 3), .inl (cs 0, 1008, .inl md_generator))])) (va_Qi (fun (r : Int32) (u : Unit) => Q r) (at_md_degreeOfGenerator dC dI cs (va_A [((ad 0), .inr (8, [.int md_thrownCode, .int md_p, .int md_n, .int md_order, .int md_monomials, .ref (ad 1), .ref (ad 2), .int md_generators, .ref (ad 3), .ref (ad 4), .int md_found, .int md_upTo, .ref (ad 5), .ref (ad 6), .ref (ad 7), .ref (ad 8), .int md_members, .int md_provedNow])), ((ad 2), .inl (cs 0, 126, .inl md_degree)), ((ad 3), .inl (cs 0, 1008, .inl md_generator))] sz) ad md_thrownCode md_p md_n md_order md_monomials md_generators md_found md_upTo md_members md_provedNow md_degree md_generator) (va_A [((ad 0), .inr (8, [.int md_thrownCode, .int md_p, .int md_n, .int md_order, .int md_monomials, .ref (ad 1), .ref (ad 2), .int md_generators, .ref (ad 3), .ref (ad 4), .int md_found, .int md_upTo, .ref (ad 5), .ref (ad 6), .ref (ad 7), .ref (ad 8), .int md_members, .int md_provedNow])), ((ad 2), .inl (cs 0, 126, .inl md_degree)), ((ad 3), .inl (cs 0, 1008, .inl md_generator))] sz)) 0 0 (va_A [((ad 0), .inr (8, [.int md_thrownCode, .int md_p, .int md_n, .int md_order, .int md_monomials, .ref (ad 1), .ref (ad 2), .int md_generators, .ref (ad 3), .ref (ad 4), .int md_found, .int md_upTo, .ref (ad 5), .ref (ad 6), .ref (ad 7), .ref (ad 8), .int md_members, .int md_provedNow])), ((ad 2), .inl (cs 0, 126, .inl md_degree)), ((ad 3), .inl (cs 0, 1008, .inl md_generator))] sz) := by
  unfold vc_md_degreeOfGenerator at hv
  refine Met.ofW (cc := b_md_degreeOfGenerator) (maxL := 4) (ret := (some .int)) (by decide) rfl ?_
  intro p e s m args below meth c s₁ B hml hpc
  obtain ⟨rfl, hsz, hP, ⟨hK, hN⟩, hD0⟩ := hpc
  have hx := B.exec
  have hb := B.bytes
  have hr := B.returns
  have hts : ∀ w ∈ vwWS, w.before _ s = true := fun w h => atoms_spec (ws := w_md_degreeOfGenerator) B.pre w (List.mem_cons_of_mem _ h)
  have hown : s.vm.findClass "SpaceBasisModel" = some m.cls := findClass_of_methodNamed B.named
  have hlocks := B.notSynchronized
  subst hsz
  have hD := hD0.self (sz := s.heap.size)
  generalize hAe : va_A [((ad 0), .inr (8, [.int md_thrownCode, .int md_p, .int md_n, .int md_order, .int md_monomials, .ref (ad 1), .ref (ad 2), .int md_generators, .ref (ad 3), .ref (ad 4), .int md_found, .int md_upTo, .ref (ad 5), .ref (ad 6), .ref (ad 7), .ref (ad 8), .int md_members, .int md_provedNow])), ((ad 2), .inl (cs 0, 126, .inl md_degree)), ((ad 3), .inl (cs 0, 1008, .inl md_generator))] s.heap.size = A at hD ⊢
  have hA : ∀ q : Nat, s.heap.size ≤ q → A q := fun q h => by rw [← hAe]; exact Or.inr h
  have hS : va_S A s.heap s.heap [] := va_S.rf
  have hl := lv_entry ([.ref (ad 0), .int p0]) (n := 4) (Nat.le_of_ble_eq_true rfl)
  rw [lg_entry_eq]
  generalize (lg_sl ([.ref (ad 0), .int p0]) ++ List.replicate (4 - (lg_sl ([.ref (ad 0), .int p0])).length) Slot.unset).toArray = ls at hl ⊢
  have hl : lv_has ls 4 [(0, .ref (ad 0)), (1, .int p0)] := hl
  refine lv_iconst (v := (-1)) hx hb d_md_degreeOfGenerator_0 (by decide) ?_
  refine lv_istore_n (lv' := [(2, .int (-1)), (0, .ref (ad 0)), (1, .int p0)]) hx hb d_md_degreeOfGenerator_1 rfl hl (by decide) rfl (fun ls hl => ?_)
  refine lv_iconst (v := 0) hx hb d_md_degreeOfGenerator_2 (by decide) ?_
  refine lv_istore_n (lv' := [(3, .int 0), (2, .int (-1)), (0, .ref (ad 0)), (1, .int p0)]) hx hb d_md_degreeOfGenerator_3 rfl hl (by decide) rfl (fun ls hl => ?_)
  obtain ⟨I4_3, mu4_4, hi0, hv⟩ := hv
  have hP := hP.sub (ws' := [((ad 0), .inr (8, [.int md_thrownCode, .int md_p, .int md_n, .int md_order, .int md_monomials, .ref (ad 1), .ref (ad 2), .int md_generators, .ref (ad 3), .ref (ad 4), .int md_found, .int md_upTo, .ref (ad 5), .ref (ad 6), .ref (ad 7), .ref (ad 8), .int md_members, .int md_provedNow])), ((ad 2), .inl (cs 0, 126, .inl md_degree)), ((ad 3), .inl (cs 0, 1008, .inl md_generator))]) [0, 1, 2] rfl
  have hD := hD.sub (ws' := [((ad 0), .inr (8, [.int md_thrownCode, .int md_p, .int md_n, .int md_order, .int md_monomials, .ref (ad 1), .ref (ad 2), .int md_generators, .ref (ad 3), .ref (ad 4), .int md_found, .int md_upTo, .ref (ad 5), .ref (ad 6), .ref (ad 7), .ref (ad 8), .int md_members, .int md_provedNow])), ((ad 2), .inl (cs 0, 126, .inl md_degree)), ((ad 3), .inl (cs 0, 1008, .inl md_generator))]) [0, 1, 2] (by decide) rfl
  have hl := lv_sub (l' := [(0, .ref (ad 0)), (1, .int p0), (2, .int (-1)), (3, .int 0)]) hl [2, 3, 1, 0] rfl
  have loop4 : ∀ (nn : Nat) (x2_1 : Int32) (x3_2 : Int32), mu4_4 x2_1 x3_2 < nn → I4_3 x2_1 x3_2 → ∀ (H : Heap) (locs : List Loc) (ls : Array Slot), va_P (dC, dI) vwCl [((ad 0), .inr (8, [.int md_thrownCode, .int md_p, .int md_n, .int md_order, .int md_monomials, .ref (ad 1), .ref (ad 2), .int md_generators, .ref (ad 3), .ref (ad 4), .int md_found, .int md_upTo, .ref (ad 5), .ref (ad 6), .ref (ad 7), .ref (ad 8), .int md_members, .int md_provedNow])), ((ad 2), .inl (cs 0, 126, .inl md_degree)), ((ad 3), .inl (cs 0, 1008, .inl md_generator))] H → va_D A [((ad 0), .inr (8, [.int md_thrownCode, .int md_p, .int md_n, .int md_order, .int md_monomials, .ref (ad 1), .ref (ad 2), .int md_generators, .ref (ad 3), .ref (ad 4), .int md_found, .int md_upTo, .ref (ad 5), .ref (ad 6), .ref (ad 7), .ref (ad 8), .int md_members, .int md_provedNow])), ((ad 2), .inl (cs 0, 126, .inl md_degree)), ((ad 3), .inl (cs 0, 1008, .inl md_generator))] → va_S A s.heap H locs → lv_has ls 4 [(0, .ref (ad 0)), (1, .int p0), (2, .int x2_1), (3, .int x3_2)] → W p l e (headSpec w_md_degreeOfGenerator { frames := 0, cells := 0, slots := 0, locals := 0 }).room s m ([.ref (ad 0), .int p0] : List Value).toArray below meth c H locs 0 0 (MQ below (va_Qi (fun (r : Int32) (u : Unit) => Q r) (at_md_degreeOfGenerator dC dI cs A ad md_thrownCode md_p md_n md_order md_monomials md_generators md_found md_upTo md_members md_provedNow md_degree md_generator) A) ([.ref (ad 0), .int p0] : List Value).toArray s 0 0 A) (F0 m 4 ls []) := by
    intro nn
    induction nn with
    | zero => intro x2_1 x3_2 hlt; exact absurd hlt (Nat.not_lt_zero _)
    | succ nn ih4 =>
      intro x2_1 x3_2 hlt4 hI H locs ls hP hD hS hl
      have hv := hv x2_1 x3_2 hI
      refine lv_iload_n hx hb d_md_degreeOfGenerator_4 rfl (lv_at hl 3 rfl) ?_
      refine lv_aload_n hx hb d_md_degreeOfGenerator_5 rfl (lv_at hl 0 rfl) ?_
      refine va_get (D := (dC, dI)) (ci := 8) (v := .int md_monomials) (C := R_md) (T := F_md) (N := 18) hx hb hts in_md hown hK hP 0 rfl rfl 4 (by decide) (hts _ kw_622) (fun _ h9 => h9) rfl d_md_degreeOfGenerator_6 ?_
      refine lv_icmp_ge (tgt := 39) hx hb d_md_degreeOfGenerator_9 (by decide) (fun c_5 => ?_) (fun c_5 => ?_)
      · have hv := hv.1 c_5
        refine lv_iload_n hx hb d_md_degreeOfGenerator_39 rfl (lv_at hl 2 rfl) ?_
        have hP9 := hP.sub (ws' := [((ad 0), .inr (8, [.int md_thrownCode, .int md_p, .int md_n, .int md_order, .int md_monomials, .ref (ad 1), .ref (ad 2), .int md_generators, .ref (ad 3), .ref (ad 4), .int md_found, .int md_upTo, .ref (ad 5), .ref (ad 6), .ref (ad 7), .ref (ad 8), .int md_members, .int md_provedNow])), ((ad 2), .inl (cs 0, 126, .inl md_degree)), ((ad 3), .inl (cs 0, 1008, .inl md_generator))]) [0, 1, 2] rfl
        have hD9 := hD.sub (ws' := [((ad 0), .inr (8, [.int md_thrownCode, .int md_p, .int md_n, .int md_order, .int md_monomials, .ref (ad 1), .ref (ad 2), .int md_generators, .ref (ad 3), .ref (ad 4), .int md_found, .int md_upTo, .ref (ad 5), .ref (ad 6), .ref (ad 7), .ref (ad 8), .int md_members, .int md_provedNow])), ((ad 2), .inl (cs 0, 126, .inl md_degree)), ((ad 3), .inl (cs 0, 1008, .inl md_generator))]) [0, 1, 2] (by decide) rfl
        exact W.iret (v := x2_1) hx hb hr (fun t ht hW => ⟨⟨x2_1, (), rfl, hv, by rw [ht]; exact hP9, hD9⟩, hS.F ht⟩) hS.2.2 d_md_degreeOfGenerator_40
      · have hv := hv.2 c_5
        refine lv_aload_n hx hb d_md_degreeOfGenerator_12 rfl (lv_at hl 0 rfl) ?_
        refine va_get (D := (dC, dI)) (ci := 8) (v := .ref (ad 3)) (C := R_md) (T := F_md) (N := 18) hx hb hts in_md hown hK hP 0 rfl rfl 8 (by decide) (hts _ kw_626) (fun _ h9 => h9) rfl d_md_degreeOfGenerator_13 ?_
        refine lv_bipush (v := 126) hx hb d_md_degreeOfGenerator_16 (by decide) ?_
        refine lv_iload_n hx hb d_md_degreeOfGenerator_18 rfl (lv_at hl 1 rfl) ?_
        refine lv_imul hx hb d_md_degreeOfGenerator_19 ?_
        refine lv_iload_n hx hb d_md_degreeOfGenerator_20 rfl (lv_at hl 3 rfl) ?_
        refine lv_iadd hx hb d_md_degreeOfGenerator_21 ?_
        obtain ⟨hi_6, hv⟩ := hv
        refine va_iald hx hb hK hP 2 0 rfl rfl hi_6 d_md_degreeOfGenerator_22 ?_
        refine lv_if_eq (tgt := 33) hx hb d_md_degreeOfGenerator_23 (by decide) (fun c_7 => ?_) (fun c_7 => ?_)
        · have hv := hv.1 c_7
          obtain ⟨x3_8, ex3_8⟩ : ∃ y : Int32, y = x3_2 + 1 := ⟨_, rfl⟩
          have hv := hv x3_8 ex3_8
          refine lv_iinc (v := x3_8) (lv' := [(3, .int x3_8), (0, .ref (ad 0)), (1, .int p0), (2, .int x2_1)]) hx hb d_md_degreeOfGenerator_33 hl (k := 3) rfl (by rw [ex3_8]; rfl) (by decide) rfl (fun ls hl => ?_)
          refine lv_goto (tgt := 4) hx hb d_md_degreeOfGenerator_36 (by decide) ?_
          exact ih4 x2_1 x3_8 (Nat.lt_of_lt_of_le hv.2 (Nat.le_of_lt_succ hlt4)) hv.1 _ _ _ (hP.sub [0, 1, 2] rfl) (hD.sub [0, 1, 2] (by decide) rfl) hS (lv_sub hl [1, 2, 3, 0] rfl)
        · have hv := hv.2 c_7
          refine lv_aload_n hx hb d_md_degreeOfGenerator_26 rfl (lv_at hl 0 rfl) ?_
          refine va_get (D := (dC, dI)) (ci := 8) (v := .ref (ad 2)) (C := R_md) (T := F_md) (N := 18) hx hb hts in_md hown hK hP 0 rfl rfl 6 (by decide) (hts _ kw_624) (fun _ h9 => h9) rfl d_md_degreeOfGenerator_27 ?_
          refine lv_iload_n hx hb d_md_degreeOfGenerator_30 rfl (lv_at hl 3 rfl) ?_
          obtain ⟨hi_9, hv⟩ := hv
          refine va_iald hx hb hK hP 1 0 rfl rfl hi_9 d_md_degreeOfGenerator_31 ?_
          refine lv_topi (fun x2_10 ex2_10 => ?_)
          have hv := hv x2_10 ex2_10
          refine lv_istore_n (lv' := [(2, .int x2_10), (0, .ref (ad 0)), (1, .int p0), (3, .int x3_2)]) hx hb d_md_degreeOfGenerator_32 rfl hl (by decide) rfl (fun ls hl => ?_)
          obtain ⟨x3_11, ex3_11⟩ : ∃ y : Int32, y = x3_2 + 1 := ⟨_, rfl⟩
          have hv := hv x3_11 ex3_11
          refine lv_iinc (v := x3_11) (lv' := [(3, .int x3_11), (2, .int x2_10), (0, .ref (ad 0)), (1, .int p0)]) hx hb d_md_degreeOfGenerator_33 hl (k := 3) rfl (by rw [ex3_11]; rfl) (by decide) rfl (fun ls hl => ?_)
          refine lv_goto (tgt := 4) hx hb d_md_degreeOfGenerator_36 (by decide) ?_
          exact ih4 x2_10 x3_11 (Nat.lt_of_lt_of_le hv.2 (Nat.le_of_lt_succ hlt4)) hv.1 _ _ _ (hP.sub [0, 1, 2] rfl) (hD.sub [0, 1, 2] (by decide) rfl) hS (lv_sub hl [2, 3, 1, 0] rfl)
  exact loop4 _ (-1) 0 (Nat.lt_succ_self _) hi0 _ _ _ hP hD hS hl
abbrev b_md_clean : ByteArray := prog_10_method_16_code
def y_md_clean : MethodName := ⟨"SpaceBasisModel", "clean", "(I)V"⟩
def w_md_clean : List Cond := Cond.code y_md_clean b_md_clean 3 none :: vwWS
theorem d_md_clean_0 : decode b_md_clean 0 = .ok (.iconst 0, 1) := by decide +kernel
theorem d_md_clean_1 : decode b_md_clean 1 = .ok (.istore_n 2, 1) := by decide +kernel
theorem d_md_clean_2 : decode b_md_clean 2 = .ok (.iload_n 2, 1) := by decide +kernel
theorem d_md_clean_3 : decode b_md_clean 3 = .ok (.aload_n 0, 1) := by decide +kernel
theorem d_md_clean_4 : decode b_md_clean 4 = .ok (.getfield 22, 3) := by decide +kernel
theorem d_md_clean_7 : decode b_md_clean 7 = .ok (.if_icmp .ge 35, 3) := by decide +kernel
theorem d_md_clean_10 : decode b_md_clean 10 = .ok (.aload_n 0, 1) := by decide +kernel
theorem d_md_clean_11 : decode b_md_clean 11 = .ok (.getfield 55, 3) := by decide +kernel
theorem d_md_clean_14 : decode b_md_clean 14 = .ok (.iload_n 2, 1) := by decide +kernel
theorem d_md_clean_15 : decode b_md_clean 15 = .ok (.iload_n 2, 1) := by decide +kernel
theorem d_md_clean_16 : decode b_md_clean 16 = .ok (.iload_n 1, 1) := by decide +kernel
theorem d_md_clean_17 : decode b_md_clean 17 = .ok (.if_icmp .ge 17, 3) := by decide +kernel
theorem d_md_clean_20 : decode b_md_clean 20 = .ok (.aload_n 0, 1) := by decide +kernel
theorem d_md_clean_21 : decode b_md_clean 21 = .ok (.getfield 52, 3) := by decide +kernel
theorem d_md_clean_24 : decode b_md_clean 24 = .ok (.bipush 126, 2) := by decide +kernel
theorem d_md_clean_26 : decode b_md_clean 26 = .ok (.iload_n 1, 1) := by decide +kernel
theorem d_md_clean_27 : decode b_md_clean 27 = .ok (.imul, 1) := by decide +kernel
theorem d_md_clean_28 : decode b_md_clean 28 = .ok (.iload_n 2, 1) := by decide +kernel
theorem d_md_clean_29 : decode b_md_clean 29 = .ok (.iadd, 1) := by decide +kernel
theorem d_md_clean_30 : decode b_md_clean 30 = .ok (.iaload, 1) := by decide +kernel
theorem d_md_clean_31 : decode b_md_clean 31 = .ok (.goto 4, 3) := by decide +kernel
theorem d_md_clean_34 : decode b_md_clean 34 = .ok (.iconst 0, 1) := by decide +kernel
theorem d_md_clean_35 : decode b_md_clean 35 = .ok (.iastore, 1) := by decide +kernel
theorem d_md_clean_36 : decode b_md_clean 36 = .ok (.iinc 2 1, 3) := by decide +kernel
theorem d_md_clean_39 : decode b_md_clean 39 = .ok (.goto (-37), 3) := by decide +kernel
theorem d_md_clean_42 : decode b_md_clean 42 = .ok (.aload_n 0, 1) := by decide +kernel
theorem d_md_clean_43 : decode b_md_clean 43 = .ok (.invokevirtual 93, 3) := by decide +kernel
theorem d_md_clean_46 : decode b_md_clean 46 = .ok (.pop, 1) := by decide +kernel
theorem d_md_clean_47 : decode b_md_clean 47 = .ok (.iconst 0, 1) := by decide +kernel
theorem d_md_clean_48 : decode b_md_clean 48 = .ok (.istore_n 2, 1) := by decide +kernel
theorem d_md_clean_49 : decode b_md_clean 49 = .ok (.iload_n 2, 1) := by decide +kernel
theorem d_md_clean_50 : decode b_md_clean 50 = .ok (.iload_n 1, 1) := by decide +kernel
theorem d_md_clean_51 : decode b_md_clean 51 = .ok (.if_icmp .ge 26, 3) := by decide +kernel
theorem d_md_clean_54 : decode b_md_clean 54 = .ok (.aload_n 0, 1) := by decide +kernel
theorem d_md_clean_55 : decode b_md_clean 55 = .ok (.getfield 52, 3) := by decide +kernel
theorem d_md_clean_58 : decode b_md_clean 58 = .ok (.bipush 126, 2) := by decide +kernel
theorem d_md_clean_60 : decode b_md_clean 60 = .ok (.iload_n 1, 1) := by decide +kernel
theorem d_md_clean_61 : decode b_md_clean 61 = .ok (.imul, 1) := by decide +kernel
theorem d_md_clean_62 : decode b_md_clean 62 = .ok (.iload_n 2, 1) := by decide +kernel
theorem d_md_clean_63 : decode b_md_clean 63 = .ok (.iadd, 1) := by decide +kernel
theorem d_md_clean_64 : decode b_md_clean 64 = .ok (.aload_n 0, 1) := by decide +kernel
theorem d_md_clean_65 : decode b_md_clean 65 = .ok (.getfield 55, 3) := by decide +kernel
theorem d_md_clean_68 : decode b_md_clean 68 = .ok (.iload_n 2, 1) := by decide +kernel
theorem d_md_clean_69 : decode b_md_clean 69 = .ok (.iaload, 1) := by decide +kernel
theorem d_md_clean_70 : decode b_md_clean 70 = .ok (.iastore, 1) := by decide +kernel
theorem d_md_clean_71 : decode b_md_clean 71 = .ok (.iinc 2 1, 3) := by decide +kernel
theorem d_md_clean_74 : decode b_md_clean 74 = .ok (.goto (-25), 3) := by decide +kernel
theorem d_md_clean_77 : decode b_md_clean 77 = .ok (.return_, 1) := by decide +kernel
/-- SpaceBasisModel.clean(I)V -/
def vc_md_clean (md_thrownCode : Int32) (md_p : Int32) (md_n : Int32) (md_order : Int32) (md_monomials : Int32) (md_generators : Int32) (md_found : Int32) (md_upTo : Int32) (md_members : Int32) (md_provedNow : Int32) (md_has : Nat → Int32) (md_row : Nat → Int32) (md_work : Nat → Int32) (p0 : Int32) (Q : (Nat → Int32) → (Nat → Int32) → Prop) : Prop :=
  ∃ (I2_3 : Int32 → (Nat → Int32) → Prop) (mu2_4 : Int32 → (Nat → Int32) → Nat), I2_3 0 md_work ∧ ∀ (x2_1 : Int32) (md_work_2 : Nat → Int32), I2_3 x2_1 md_work_2 → ((((md_monomials ≤ x2_1) → (vc_md_reduce md_thrownCode md_p md_n md_order md_monomials md_generators md_found md_upTo md_members md_provedNow md_has md_row md_work_2 (fun (r_7 : Int32) (md_work_6 : Nat → Int32) => ∃ (I49_10 : Int32 → (Nat → Int32) → Prop) (mu49_11 : Int32 → (Nat → Int32) → Nat), I49_10 0 md_row ∧ ∀ (x2_8 : Int32) (md_row_9 : Nat → Int32), I49_10 x2_8 md_row_9 → ((((p0 ≤ x2_8) → (Q md_row_9 md_work_6)) ∧ ((¬ (p0 ≤ x2_8)) → (vp_in x2_8 126 ∧ vp_in ((126 * p0) + x2_8) 15876 ∧ ∀ md_row_15 : Nat → Int32, md_row_15 = upd md_row_9 (((126 * p0) + x2_8)).toNatClampNeg (md_work_6 x2_8.toNatClampNeg) → ∀ x2_16 : Int32, x2_16 = x2_8 + 1 → (I49_10 x2_16 md_row_15 ∧ mu49_11 x2_16 md_row_15 < mu49_11 x2_8 md_row_9)))))))) ∧ ((¬ (md_monomials ≤ x2_1)) → ((((p0 ≤ x2_1) → (vp_in x2_1 126 ∧ ∀ md_work_19 : Nat → Int32, md_work_19 = upd md_work_2 x2_1.toNatClampNeg 0 → ∀ x2_20 : Int32, x2_20 = x2_1 + 1 → (I2_3 x2_20 md_work_19 ∧ mu2_4 x2_20 md_work_19 < mu2_4 x2_1 md_work_2))) ∧ ((¬ (p0 ≤ x2_1)) → (vp_in ((126 * p0) + x2_1) 15876 ∧ vp_in x2_1 126 ∧ ∀ md_work_23 : Nat → Int32, md_work_23 = upd md_work_2 x2_1.toNatClampNeg (md_row (((126 * p0) + x2_1)).toNatClampNeg) → ∀ x2_24 : Int32, x2_24 = x2_1 + 1 → (I2_3 x2_24 md_work_23 ∧ mu2_4 x2_24 md_work_23 < mu2_4 x2_1 md_work_2))))))))
abbrev at_md_clean (dC : Nat → ClassId) (dI : Nat → Nat → Nat) (cs : Nat → ClassId) (A : Nat → Prop) (ad : Nat → Nat) (md_thrownCode : Int32) (md_p : Int32) (md_n : Int32) (md_order : Int32) (md_monomials : Int32) (md_generators : Int32) (md_found : Int32) (md_upTo : Int32) (md_members : Int32) (md_provedNow : Int32) (md_has : Nat → Int32) (u : (Nat → Int32) × (Nat → Int32)) (t : State) : Prop := match u with
  | (md_row, md_work) => va_P (dC, dI) vwCl [((ad 0), .inr (8, [.int md_thrownCode, .int md_p, .int md_n, .int md_order, .int md_monomials, .ref (ad 1), .ref (ad 2), .int md_generators, .ref (ad 3), .ref (ad 4), .int md_found, .int md_upTo, .ref (ad 5), .ref (ad 6), .ref (ad 7), .ref (ad 8), .int md_members, .int md_provedNow])), ((ad 5), .inl (cs 2, 126, .inl md_has)), ((ad 6), .inl (cs 0, 15876, .inl md_row)), ((ad 7), .inl (cs 0, 126, .inl md_work))] t.heap ∧ va_D A [((ad 0), .inr (8, [.int md_thrownCode, .int md_p, .int md_n, .int md_order, .int md_monomials, .ref (ad 1), .ref (ad 2), .int md_generators, .ref (ad 3), .ref (ad 4), .int md_found, .int md_upTo, .ref (ad 5), .ref (ad 6), .ref (ad 7), .ref (ad 8), .int md_members, .int md_provedNow])), ((ad 5), .inl (cs 2, 126, .inl md_has)), ((ad 6), .inl (cs 0, 15876, .inl md_row)), ((ad 7), .inl (cs 0, 126, .inl md_work))]
set_option maxHeartbeats 4000000 in
set_option maxRecDepth 100000 in
theorem c_md_clean (l : Launch) (dC : Nat → ClassId) (dI : Nat → Nat → Nat) (cs : Nat → ClassId) (ad : Nat → Nat)  (sz : Nat) (md_thrownCode : Int32) (md_p : Int32) (md_n : Int32) (md_order : Int32) (md_monomials : Int32) (md_generators : Int32) (md_found : Int32) (md_upTo : Int32) (md_members : Int32) (md_provedNow : Int32) (md_has : Nat → Int32) (md_row : Nat → Int32) (md_work : Nat → Int32) (p0 : Int32) (Q : (Nat → Int32) → (Nat → Int32) → Prop) (hv : vc_md_clean md_thrownCode md_p md_n md_order md_monomials md_generators md_found md_upTo md_members md_provedNow md_has md_row md_work p0 Q) : Met l y_md_clean w_md_clean ({ frames := 2, cells := 0, slots := 0, locals := 46 }) (va_Pc [.ref (ad 0), .int p0] (fun U => U.heap.size = sz ∧ va_P (dC, dI) vwCl [((ad 0), .inr (8, [.int md_thrownCode, .int md_p, .int md_n, .int md_order, .int md_monomials, .ref (ad 1), .ref (ad 2), .int md_generators, .ref (ad 3), .ref (ad 4), .int md_found, .int md_upTo, .ref (ad 5), .ref (ad 6), .ref (ad 7), .ref (ad 8), .int md_members, .int md_provedNow])), ((ad 5), .inl (cs 2, 126, .inl md_has)), ((ad 6), .inl (cs 0, 15876, .inl md_row)), ((ad 7), .inl (cs 0, 126, .inl md_work))] U.heap ∧ vwK dC dI cs U ∧ va_D (fun _ => True) [((ad 0), .inr (8, [.int md_thrownCode, .int md_p, .int md_n, .int md_order, .int md_monomials, .ref (ad 1), .ref (ad 2), .int md_generators, .ref (ad 3), .ref (ad 4), .int md_found, .int md_upTo, .ref (ad 5), .ref (ad 6), .ref (ad 7), .ref (ad 8), .int md_members, .int md_provedNow])), ((ad 5), .inl (cs 2, 126, .inl md_has)), ((ad 6), .inl (cs 0, 15876, .inl md_row)), ((ad 7), .inl (cs 0, 126, .inl md_work))])) (va_Qv (fun (u : (Nat → Int32) × (Nat → Int32)) => Q u.1 u.2) (at_md_clean dC dI cs (va_A [((ad 0), .inr (8, [.int md_thrownCode, .int md_p, .int md_n, .int md_order, .int md_monomials, .ref (ad 1), .ref (ad 2), .int md_generators, .ref (ad 3), .ref (ad 4), .int md_found, .int md_upTo, .ref (ad 5), .ref (ad 6), .ref (ad 7), .ref (ad 8), .int md_members, .int md_provedNow])), ((ad 5), .inl (cs 2, 126, .inl md_has)), ((ad 6), .inl (cs 0, 15876, .inl md_row)), ((ad 7), .inl (cs 0, 126, .inl md_work))] sz) ad md_thrownCode md_p md_n md_order md_monomials md_generators md_found md_upTo md_members md_provedNow md_has) (va_A [((ad 0), .inr (8, [.int md_thrownCode, .int md_p, .int md_n, .int md_order, .int md_monomials, .ref (ad 1), .ref (ad 2), .int md_generators, .ref (ad 3), .ref (ad 4), .int md_found, .int md_upTo, .ref (ad 5), .ref (ad 6), .ref (ad 7), .ref (ad 8), .int md_members, .int md_provedNow])), ((ad 5), .inl (cs 2, 126, .inl md_has)), ((ad 6), .inl (cs 0, 15876, .inl md_row)), ((ad 7), .inl (cs 0, 126, .inl md_work))] sz)) 0 0 (va_A [((ad 0), .inr (8, [.int md_thrownCode, .int md_p, .int md_n, .int md_order, .int md_monomials, .ref (ad 1), .ref (ad 2), .int md_generators, .ref (ad 3), .ref (ad 4), .int md_found, .int md_upTo, .ref (ad 5), .ref (ad 6), .ref (ad 7), .ref (ad 8), .int md_members, .int md_provedNow])), ((ad 5), .inl (cs 2, 126, .inl md_has)), ((ad 6), .inl (cs 0, 15876, .inl md_row)), ((ad 7), .inl (cs 0, 126, .inl md_work))] sz) := by
  unfold vc_md_clean at hv
  refine Met.ofW (cc := b_md_clean) (maxL := 3) (ret := none) (by decide) rfl ?_
  intro p e s m args below meth c s₁ B hml hpc
  obtain ⟨rfl, hsz, hP, ⟨hK, hN⟩, hD0⟩ := hpc
  have hx := B.exec
  have hb := B.bytes
  have hr := B.returns
  have hts : ∀ w ∈ vwWS, w.before _ s = true := fun w h => atoms_spec (ws := w_md_clean) B.pre w (List.mem_cons_of_mem _ h)
  have hown : s.vm.findClass "SpaceBasisModel" = some m.cls := findClass_of_methodNamed B.named
  have hlocks := B.notSynchronized
  subst hsz
  have hD := hD0.self (sz := s.heap.size)
  generalize hAe : va_A [((ad 0), .inr (8, [.int md_thrownCode, .int md_p, .int md_n, .int md_order, .int md_monomials, .ref (ad 1), .ref (ad 2), .int md_generators, .ref (ad 3), .ref (ad 4), .int md_found, .int md_upTo, .ref (ad 5), .ref (ad 6), .ref (ad 7), .ref (ad 8), .int md_members, .int md_provedNow])), ((ad 5), .inl (cs 2, 126, .inl md_has)), ((ad 6), .inl (cs 0, 15876, .inl md_row)), ((ad 7), .inl (cs 0, 126, .inl md_work))] s.heap.size = A at hD ⊢
  have hA : ∀ q : Nat, s.heap.size ≤ q → A q := fun q h => by rw [← hAe]; exact Or.inr h
  have hS : va_S A s.heap s.heap [] := va_S.rf
  have hl := lv_entry ([.ref (ad 0), .int p0]) (n := 3) (Nat.le_of_ble_eq_true rfl)
  rw [lg_entry_eq]
  generalize (lg_sl ([.ref (ad 0), .int p0]) ++ List.replicate (3 - (lg_sl ([.ref (ad 0), .int p0])).length) Slot.unset).toArray = ls at hl ⊢
  have hl : lv_has ls 3 [(0, .ref (ad 0)), (1, .int p0)] := hl
  refine lv_iconst (v := 0) hx hb d_md_clean_0 (by decide) ?_
  refine lv_istore_n (lv' := [(2, .int 0), (0, .ref (ad 0)), (1, .int p0)]) hx hb d_md_clean_1 rfl hl (by decide) rfl (fun ls hl => ?_)
  obtain ⟨I2_3, mu2_4, hi0, hv⟩ := hv
  have hP := hP.sub (ws' := [((ad 0), .inr (8, [.int md_thrownCode, .int md_p, .int md_n, .int md_order, .int md_monomials, .ref (ad 1), .ref (ad 2), .int md_generators, .ref (ad 3), .ref (ad 4), .int md_found, .int md_upTo, .ref (ad 5), .ref (ad 6), .ref (ad 7), .ref (ad 8), .int md_members, .int md_provedNow])), ((ad 5), .inl (cs 2, 126, .inl md_has)), ((ad 6), .inl (cs 0, 15876, .inl md_row)), ((ad 7), .inl (cs 0, 126, .inl md_work))]) [0, 1, 2, 3] rfl
  have hD := hD.sub (ws' := [((ad 0), .inr (8, [.int md_thrownCode, .int md_p, .int md_n, .int md_order, .int md_monomials, .ref (ad 1), .ref (ad 2), .int md_generators, .ref (ad 3), .ref (ad 4), .int md_found, .int md_upTo, .ref (ad 5), .ref (ad 6), .ref (ad 7), .ref (ad 8), .int md_members, .int md_provedNow])), ((ad 5), .inl (cs 2, 126, .inl md_has)), ((ad 6), .inl (cs 0, 15876, .inl md_row)), ((ad 7), .inl (cs 0, 126, .inl md_work))]) [0, 1, 2, 3] (by decide) rfl
  have hl := lv_sub (l' := [(0, .ref (ad 0)), (1, .int p0), (2, .int 0)]) hl [1, 2, 0] rfl
  have loop2 : ∀ (nn : Nat) (x2_1 : Int32) (md_work_2 : Nat → Int32), mu2_4 x2_1 md_work_2 < nn → I2_3 x2_1 md_work_2 → ∀ (H : Heap) (locs : List Loc) (ls : Array Slot), va_P (dC, dI) vwCl [((ad 0), .inr (8, [.int md_thrownCode, .int md_p, .int md_n, .int md_order, .int md_monomials, .ref (ad 1), .ref (ad 2), .int md_generators, .ref (ad 3), .ref (ad 4), .int md_found, .int md_upTo, .ref (ad 5), .ref (ad 6), .ref (ad 7), .ref (ad 8), .int md_members, .int md_provedNow])), ((ad 5), .inl (cs 2, 126, .inl md_has)), ((ad 6), .inl (cs 0, 15876, .inl md_row)), ((ad 7), .inl (cs 0, 126, .inl md_work_2))] H → va_D A [((ad 0), .inr (8, [.int md_thrownCode, .int md_p, .int md_n, .int md_order, .int md_monomials, .ref (ad 1), .ref (ad 2), .int md_generators, .ref (ad 3), .ref (ad 4), .int md_found, .int md_upTo, .ref (ad 5), .ref (ad 6), .ref (ad 7), .ref (ad 8), .int md_members, .int md_provedNow])), ((ad 5), .inl (cs 2, 126, .inl md_has)), ((ad 6), .inl (cs 0, 15876, .inl md_row)), ((ad 7), .inl (cs 0, 126, .inl md_work_2))] → va_S A s.heap H locs → lv_has ls 3 [(0, .ref (ad 0)), (1, .int p0), (2, .int x2_1)] → W p l e (headSpec w_md_clean { frames := 2, cells := 0, slots := 0, locals := 46 }).room s m ([.ref (ad 0), .int p0] : List Value).toArray below meth c H locs 0 0 (MQ below (va_Qv (fun (u : (Nat → Int32) × (Nat → Int32)) => Q u.1 u.2) (at_md_clean dC dI cs A ad md_thrownCode md_p md_n md_order md_monomials md_generators md_found md_upTo md_members md_provedNow md_has) A) ([.ref (ad 0), .int p0] : List Value).toArray s 0 0 A) (F0 m 2 ls []) := by
    intro nn
    induction nn with
    | zero => intro x2_1 md_work_2 hlt; exact absurd hlt (Nat.not_lt_zero _)
    | succ nn ih2 =>
      intro x2_1 md_work_2 hlt2 hI H locs ls hP hD hS hl
      have hv := hv x2_1 md_work_2 hI
      refine lv_iload_n hx hb d_md_clean_2 rfl (lv_at hl 2 rfl) ?_
      refine lv_aload_n hx hb d_md_clean_3 rfl (lv_at hl 0 rfl) ?_
      refine va_get (D := (dC, dI)) (ci := 8) (v := .int md_monomials) (C := R_md) (T := F_md) (N := 18) hx hb hts in_md hown hK hP 0 rfl rfl 4 (by decide) (hts _ kw_622) (fun _ h9 => h9) rfl d_md_clean_4 ?_
      refine lv_icmp_ge (tgt := 42) hx hb d_md_clean_7 (by decide) (fun c_5 => ?_) (fun c_5 => ?_)
      · have hv := hv.1 c_5
        refine lv_aload_n hx hb d_md_clean_42 rfl (lv_at hl 0 rfl) ?_
        have hPc := hP.sub (ws' := [((ad 0), .inr (8, [.int md_thrownCode, .int md_p, .int md_n, .int md_order, .int md_monomials, .ref (ad 1), .ref (ad 2), .int md_generators, .ref (ad 3), .ref (ad 4), .int md_found, .int md_upTo, .ref (ad 5), .ref (ad 6), .ref (ad 7), .ref (ad 8), .int md_members, .int md_provedNow])), ((ad 5), .inl (cs 2, 126, .inl md_has)), ((ad 6), .inl (cs 0, 15876, .inl md_row)), ((ad 7), .inl (cs 0, 126, .inl md_work_2))]) [0, 1, 2, 3] rfl
        have hDc := hD.sub (ws' := [((ad 0), .inr (8, [.int md_thrownCode, .int md_p, .int md_n, .int md_order, .int md_monomials, .ref (ad 1), .ref (ad 2), .int md_generators, .ref (ad 3), .ref (ad 4), .int md_found, .int md_upTo, .ref (ad 5), .ref (ad 6), .ref (ad 7), .ref (ad 8), .int md_members, .int md_provedNow])), ((ad 5), .inl (cs 2, 126, .inl md_has)), ((ad 6), .inl (cs 0, 15876, .inl md_row)), ((ad 7), .inl (cs 0, 126, .inl md_work_2))]) [0, 1, 2, 3] (by decide) rfl
        have hFc := va_free (wc := [((ad 0), .inr (8, [.int md_thrownCode, .int md_p, .int md_n, .int md_order, .int md_monomials, .ref (ad 1), .ref (ad 2), .int md_generators, .ref (ad 3), .ref (ad 4), .int md_found, .int md_upTo, .ref (ad 5), .ref (ad 6), .ref (ad 7), .ref (ad 8), .int md_members, .int md_provedNow])), ((ad 5), .inl (cs 2, 126, .inl md_has)), ((ad 6), .inl (cs 0, 15876, .inl md_row)), ((ad 7), .inl (cs 0, 126, .inl md_work_2))]) hD hS hA [0, 1, 2, 3] rfl
        refine va_calli (va_runV (As := []) (rest := []) ⟨hx, hb, hml, hown, hts⟩ (c_md_reduce l dC dI cs ad  H.size md_thrownCode md_p md_n md_order md_monomials md_generators md_found md_upTo md_members md_provedNow md_has md_row md_work_2 _ hv) (cwV 0 hts (gd_V kw_717 kw_718 kw_24 kw_41 kw_719) rfl rfl rfl (by decide +kernel) ⟨Nat.le_of_ble_eq_true rfl, Nat.le_of_ble_eq_true rfl⟩) ⟨fun a U g mk q => by obtain ⟨q0, q1, qP, qK, qD⟩ := q; exact ⟨q0, q1, qP, qK.call, qD⟩, va_recv hK hPc (ci := 8) (q0 := 0) rfl rfl, fun U hU hW => ⟨rfl, by rw [hU], by rw [hU]; exact hPc, vwK.warm hW ⟨hK, hN⟩, hDc.weaken (fun _ _ _ _ => trivial)⟩⟩ rfl rfl hl.1 rfl (lv_room (Nat.le_of_ble_eq_true rfl)) d_md_clean_43 ⟨Nat.zero_le _, Nat.zero_le _⟩) hS (fun q _ h => hFc q h) hFc (fun r_7 md_work_6 t H1 locs1 ht hvm hw hB hz1 hk1 hS => ?_)
        obtain ⟨hP1, hD1⟩ := hB
        rw [ht] at hP1
        obtain ⟨hP, hD⟩ := va_join (wr := []) (w1 := [((ad 0), .inr (8, [.int md_thrownCode, .int md_p, .int md_n, .int md_order, .int md_monomials, .ref (ad 1), .ref (ad 2), .int md_generators, .ref (ad 3), .ref (ad 4), .int md_found, .int md_upTo, .ref (ad 5), .ref (ad 6), .ref (ad 7), .ref (ad 8), .int md_members, .int md_provedNow])), ((ad 5), .inl (cs 2, 126, .inl md_has)), ((ad 6), .inl (cs 0, 15876, .inl md_row)), ((ad 7), .inl (cs 0, 126, .inl md_work_6))]) hP hD [0, 1, 2, 3] [] rfl rfl (by decide) (by decide) hk1 hFc hP1 hD1
        generalize H1 = H at hP hS ⊢
        generalize locs1 = locs at hS ⊢
        have hP : va_P (dC, dI) vwCl [((ad 0), .inr (8, [.int md_thrownCode, .int md_p, .int md_n, .int md_order, .int md_monomials, .ref (ad 1), .ref (ad 2), .int md_generators, .ref (ad 3), .ref (ad 4), .int md_found, .int md_upTo, .ref (ad 5), .ref (ad 6), .ref (ad 7), .ref (ad 8), .int md_members, .int md_provedNow])), ((ad 5), .inl (cs 2, 126, .inl md_has)), ((ad 6), .inl (cs 0, 15876, .inl md_row)), ((ad 7), .inl (cs 0, 126, .inl md_work_6))] H := hP
        have hD : va_D A [((ad 0), .inr (8, [.int md_thrownCode, .int md_p, .int md_n, .int md_order, .int md_monomials, .ref (ad 1), .ref (ad 2), .int md_generators, .ref (ad 3), .ref (ad 4), .int md_found, .int md_upTo, .ref (ad 5), .ref (ad 6), .ref (ad 7), .ref (ad 8), .int md_members, .int md_provedNow])), ((ad 5), .inl (cs 2, 126, .inl md_has)), ((ad 6), .inl (cs 0, 15876, .inl md_row)), ((ad 7), .inl (cs 0, 126, .inl md_work_6))] := hD
        have hv := hw
        try dsimp only at hv
        refine lv_pop hx hb d_md_clean_46 rfl ?_
        refine lv_iconst (v := 0) hx hb d_md_clean_47 (by decide) ?_
        refine lv_istore_n (lv' := [(2, .int 0), (0, .ref (ad 0)), (1, .int p0)]) hx hb d_md_clean_48 rfl hl (by decide) rfl (fun ls hl => ?_)
        obtain ⟨I49_10, mu49_11, hi0, hv⟩ := hv
        have hP := hP.sub (ws' := [((ad 0), .inr (8, [.int md_thrownCode, .int md_p, .int md_n, .int md_order, .int md_monomials, .ref (ad 1), .ref (ad 2), .int md_generators, .ref (ad 3), .ref (ad 4), .int md_found, .int md_upTo, .ref (ad 5), .ref (ad 6), .ref (ad 7), .ref (ad 8), .int md_members, .int md_provedNow])), ((ad 5), .inl (cs 2, 126, .inl md_has)), ((ad 6), .inl (cs 0, 15876, .inl md_row)), ((ad 7), .inl (cs 0, 126, .inl md_work_6))]) [0, 1, 2, 3] rfl
        have hD := hD.sub (ws' := [((ad 0), .inr (8, [.int md_thrownCode, .int md_p, .int md_n, .int md_order, .int md_monomials, .ref (ad 1), .ref (ad 2), .int md_generators, .ref (ad 3), .ref (ad 4), .int md_found, .int md_upTo, .ref (ad 5), .ref (ad 6), .ref (ad 7), .ref (ad 8), .int md_members, .int md_provedNow])), ((ad 5), .inl (cs 2, 126, .inl md_has)), ((ad 6), .inl (cs 0, 15876, .inl md_row)), ((ad 7), .inl (cs 0, 126, .inl md_work_6))]) [0, 1, 2, 3] (by decide) rfl
        have hl := lv_sub (l' := [(0, .ref (ad 0)), (1, .int p0), (2, .int 0)]) hl [1, 2, 0] rfl
        have loop49 : ∀ (nn : Nat) (x2_8 : Int32) (md_row_9 : Nat → Int32), mu49_11 x2_8 md_row_9 < nn → I49_10 x2_8 md_row_9 → ∀ (H : Heap) (locs : List Loc) (ls : Array Slot), va_P (dC, dI) vwCl [((ad 0), .inr (8, [.int md_thrownCode, .int md_p, .int md_n, .int md_order, .int md_monomials, .ref (ad 1), .ref (ad 2), .int md_generators, .ref (ad 3), .ref (ad 4), .int md_found, .int md_upTo, .ref (ad 5), .ref (ad 6), .ref (ad 7), .ref (ad 8), .int md_members, .int md_provedNow])), ((ad 5), .inl (cs 2, 126, .inl md_has)), ((ad 6), .inl (cs 0, 15876, .inl md_row_9)), ((ad 7), .inl (cs 0, 126, .inl md_work_6))] H → va_D A [((ad 0), .inr (8, [.int md_thrownCode, .int md_p, .int md_n, .int md_order, .int md_monomials, .ref (ad 1), .ref (ad 2), .int md_generators, .ref (ad 3), .ref (ad 4), .int md_found, .int md_upTo, .ref (ad 5), .ref (ad 6), .ref (ad 7), .ref (ad 8), .int md_members, .int md_provedNow])), ((ad 5), .inl (cs 2, 126, .inl md_has)), ((ad 6), .inl (cs 0, 15876, .inl md_row_9)), ((ad 7), .inl (cs 0, 126, .inl md_work_6))] → va_S A s.heap H locs → lv_has ls 3 [(0, .ref (ad 0)), (1, .int p0), (2, .int x2_8)] → W p l e (headSpec w_md_clean { frames := 2, cells := 0, slots := 0, locals := 46 }).room s m ([.ref (ad 0), .int p0] : List Value).toArray below meth c H locs 0 0 (MQ below (va_Qv (fun (u : (Nat → Int32) × (Nat → Int32)) => Q u.1 u.2) (at_md_clean dC dI cs A ad md_thrownCode md_p md_n md_order md_monomials md_generators md_found md_upTo md_members md_provedNow md_has) A) ([.ref (ad 0), .int p0] : List Value).toArray s 0 0 A) (F0 m 49 ls []) := by
          intro nn
          induction nn with
          | zero => intro x2_8 md_row_9 hlt; exact absurd hlt (Nat.not_lt_zero _)
          | succ nn ih49 =>
            intro x2_8 md_row_9 hlt49 hI H locs ls hP hD hS hl
            have hv := hv x2_8 md_row_9 hI
            refine lv_iload_n hx hb d_md_clean_49 rfl (lv_at hl 2 rfl) ?_
            refine lv_iload_n hx hb d_md_clean_50 rfl (lv_at hl 1 rfl) ?_
            refine lv_icmp_ge (tgt := 77) hx hb d_md_clean_51 (by decide) (fun c_12 => ?_) (fun c_12 => ?_)
            · have hv := hv.1 c_12
              have hP9 := hP.sub (ws' := [((ad 0), .inr (8, [.int md_thrownCode, .int md_p, .int md_n, .int md_order, .int md_monomials, .ref (ad 1), .ref (ad 2), .int md_generators, .ref (ad 3), .ref (ad 4), .int md_found, .int md_upTo, .ref (ad 5), .ref (ad 6), .ref (ad 7), .ref (ad 8), .int md_members, .int md_provedNow])), ((ad 5), .inl (cs 2, 126, .inl md_has)), ((ad 6), .inl (cs 0, 15876, .inl md_row_9)), ((ad 7), .inl (cs 0, 126, .inl md_work_6))]) [0, 1, 2, 3] rfl
              have hD9 := hD.sub (ws' := [((ad 0), .inr (8, [.int md_thrownCode, .int md_p, .int md_n, .int md_order, .int md_monomials, .ref (ad 1), .ref (ad 2), .int md_generators, .ref (ad 3), .ref (ad 4), .int md_found, .int md_upTo, .ref (ad 5), .ref (ad 6), .ref (ad 7), .ref (ad 8), .int md_members, .int md_provedNow])), ((ad 5), .inl (cs 2, 126, .inl md_has)), ((ad 6), .inl (cs 0, 15876, .inl md_row_9)), ((ad 7), .inl (cs 0, 126, .inl md_work_6))]) [0, 1, 2, 3] (by decide) rfl
              exact W.vret hx hb hr (fun t ht hW => ⟨⟨(md_row_9, md_work_6), rfl, hv, by rw [ht]; exact hP9, hD9⟩, hS.F ht⟩) hS.2.2 d_md_clean_77
            · have hv := hv.2 c_12
              refine lv_aload_n hx hb d_md_clean_54 rfl (lv_at hl 0 rfl) ?_
              refine va_get (D := (dC, dI)) (ci := 8) (v := .ref (ad 6)) (C := R_md) (T := F_md) (N := 18) hx hb hts in_md hown hK hP 0 rfl rfl 13 (by decide) (hts _ kw_631) (fun _ h9 => h9) rfl d_md_clean_55 ?_
              refine lv_bipush (v := 126) hx hb d_md_clean_58 (by decide) ?_
              refine lv_iload_n hx hb d_md_clean_60 rfl (lv_at hl 1 rfl) ?_
              refine lv_imul hx hb d_md_clean_61 ?_
              refine lv_iload_n hx hb d_md_clean_62 rfl (lv_at hl 2 rfl) ?_
              refine lv_iadd hx hb d_md_clean_63 ?_
              refine lv_aload_n hx hb d_md_clean_64 rfl (lv_at hl 0 rfl) ?_
              refine va_get (D := (dC, dI)) (ci := 8) (v := .ref (ad 7)) (C := R_md) (T := F_md) (N := 18) hx hb hts in_md hown hK hP 0 rfl rfl 14 (by decide) (hts _ kw_632) (fun _ h9 => h9) rfl d_md_clean_65 ?_
              refine lv_iload_n hx hb d_md_clean_68 rfl (lv_at hl 2 rfl) ?_
              obtain ⟨hi_13, hv⟩ := hv
              refine va_iald hx hb hK hP 3 0 rfl rfl hi_13 d_md_clean_69 ?_
              obtain ⟨hi_14, hv⟩ := hv
              refine va_iast hx hb hK hP hD hS 2 0 rfl rfl hi_14 d_md_clean_70 (fun H locs hP hD hS => ?_)
              have hP : va_P (dC, dI) vwCl [((ad 0), .inr (8, [.int md_thrownCode, .int md_p, .int md_n, .int md_order, .int md_monomials, .ref (ad 1), .ref (ad 2), .int md_generators, .ref (ad 3), .ref (ad 4), .int md_found, .int md_upTo, .ref (ad 5), .ref (ad 6), .ref (ad 7), .ref (ad 8), .int md_members, .int md_provedNow])), ((ad 5), .inl (cs 2, 126, .inl md_has)), ((ad 6), .inl (cs 0, 15876, .inl (upd md_row_9 (((126 * p0) + x2_8)).toNatClampNeg (md_work_6 x2_8.toNatClampNeg)))), ((ad 7), .inl (cs 0, 126, .inl md_work_6))] H := hP
              have hD : va_D A [((ad 0), .inr (8, [.int md_thrownCode, .int md_p, .int md_n, .int md_order, .int md_monomials, .ref (ad 1), .ref (ad 2), .int md_generators, .ref (ad 3), .ref (ad 4), .int md_found, .int md_upTo, .ref (ad 5), .ref (ad 6), .ref (ad 7), .ref (ad 8), .int md_members, .int md_provedNow])), ((ad 5), .inl (cs 2, 126, .inl md_has)), ((ad 6), .inl (cs 0, 15876, .inl (upd md_row_9 (((126 * p0) + x2_8)).toNatClampNeg (md_work_6 x2_8.toNatClampNeg)))), ((ad 7), .inl (cs 0, 126, .inl md_work_6))] := hD
              generalize emd_row_15 : upd md_row_9 (((126 * p0) + x2_8)).toNatClampNeg (md_work_6 x2_8.toNatClampNeg) = md_row_15 at hP hD
              have hv := hv md_row_15 emd_row_15.symm
              obtain ⟨x2_16, ex2_16⟩ : ∃ y : Int32, y = x2_8 + 1 := ⟨_, rfl⟩
              have hv := hv x2_16 ex2_16
              refine lv_iinc (v := x2_16) (lv' := [(2, .int x2_16), (0, .ref (ad 0)), (1, .int p0)]) hx hb d_md_clean_71 hl (k := 2) rfl (by rw [ex2_16]; rfl) (by decide) rfl (fun ls hl => ?_)
              refine lv_goto (tgt := 49) hx hb d_md_clean_74 (by decide) ?_
              exact ih49 x2_16 md_row_15 (Nat.lt_of_lt_of_le hv.2 (Nat.le_of_lt_succ hlt49)) hv.1 _ _ _ (hP.sub [0, 1, 2, 3] rfl) (hD.sub [0, 1, 2, 3] (by decide) rfl) hS (lv_sub hl [1, 2, 0] rfl)
        exact loop49 _ 0 md_row (Nat.lt_succ_self _) hi0 _ _ _ hP hD hS hl
      · have hv := hv.2 c_5
        refine lv_aload_n hx hb d_md_clean_10 rfl (lv_at hl 0 rfl) ?_
        refine va_get (D := (dC, dI)) (ci := 8) (v := .ref (ad 7)) (C := R_md) (T := F_md) (N := 18) hx hb hts in_md hown hK hP 0 rfl rfl 14 (by decide) (hts _ kw_632) (fun _ h9 => h9) rfl d_md_clean_11 ?_
        refine lv_iload_n hx hb d_md_clean_14 rfl (lv_at hl 2 rfl) ?_
        refine lv_iload_n hx hb d_md_clean_15 rfl (lv_at hl 2 rfl) ?_
        refine lv_iload_n hx hb d_md_clean_16 rfl (lv_at hl 1 rfl) ?_
        refine lv_icmp_ge (tgt := 34) hx hb d_md_clean_17 (by decide) (fun c_17 => ?_) (fun c_17 => ?_)
        · have hv := hv.1 c_17
          refine lv_iconst (v := 0) hx hb d_md_clean_34 (by decide) ?_
          obtain ⟨hi_18, hv⟩ := hv
          refine va_iast hx hb hK hP hD hS 3 0 rfl rfl hi_18 d_md_clean_35 (fun H locs hP hD hS => ?_)
          have hP : va_P (dC, dI) vwCl [((ad 0), .inr (8, [.int md_thrownCode, .int md_p, .int md_n, .int md_order, .int md_monomials, .ref (ad 1), .ref (ad 2), .int md_generators, .ref (ad 3), .ref (ad 4), .int md_found, .int md_upTo, .ref (ad 5), .ref (ad 6), .ref (ad 7), .ref (ad 8), .int md_members, .int md_provedNow])), ((ad 5), .inl (cs 2, 126, .inl md_has)), ((ad 6), .inl (cs 0, 15876, .inl md_row)), ((ad 7), .inl (cs 0, 126, .inl (upd md_work_2 x2_1.toNatClampNeg 0)))] H := hP
          have hD : va_D A [((ad 0), .inr (8, [.int md_thrownCode, .int md_p, .int md_n, .int md_order, .int md_monomials, .ref (ad 1), .ref (ad 2), .int md_generators, .ref (ad 3), .ref (ad 4), .int md_found, .int md_upTo, .ref (ad 5), .ref (ad 6), .ref (ad 7), .ref (ad 8), .int md_members, .int md_provedNow])), ((ad 5), .inl (cs 2, 126, .inl md_has)), ((ad 6), .inl (cs 0, 15876, .inl md_row)), ((ad 7), .inl (cs 0, 126, .inl (upd md_work_2 x2_1.toNatClampNeg 0)))] := hD
          generalize emd_work_19 : upd md_work_2 x2_1.toNatClampNeg 0 = md_work_19 at hP hD
          have hv := hv md_work_19 emd_work_19.symm
          obtain ⟨x2_20, ex2_20⟩ : ∃ y : Int32, y = x2_1 + 1 := ⟨_, rfl⟩
          have hv := hv x2_20 ex2_20
          refine lv_iinc (v := x2_20) (lv' := [(2, .int x2_20), (0, .ref (ad 0)), (1, .int p0)]) hx hb d_md_clean_36 hl (k := 2) rfl (by rw [ex2_20]; rfl) (by decide) rfl (fun ls hl => ?_)
          refine lv_goto (tgt := 2) hx hb d_md_clean_39 (by decide) ?_
          exact ih2 x2_20 md_work_19 (Nat.lt_of_lt_of_le hv.2 (Nat.le_of_lt_succ hlt2)) hv.1 _ _ _ (hP.sub [0, 1, 2, 3] rfl) (hD.sub [0, 1, 2, 3] (by decide) rfl) hS (lv_sub hl [1, 2, 0] rfl)
        · have hv := hv.2 c_17
          refine lv_aload_n hx hb d_md_clean_20 rfl (lv_at hl 0 rfl) ?_
          refine va_get (D := (dC, dI)) (ci := 8) (v := .ref (ad 6)) (C := R_md) (T := F_md) (N := 18) hx hb hts in_md hown hK hP 0 rfl rfl 13 (by decide) (hts _ kw_631) (fun _ h9 => h9) rfl d_md_clean_21 ?_
          refine lv_bipush (v := 126) hx hb d_md_clean_24 (by decide) ?_
          refine lv_iload_n hx hb d_md_clean_26 rfl (lv_at hl 1 rfl) ?_
          refine lv_imul hx hb d_md_clean_27 ?_
          refine lv_iload_n hx hb d_md_clean_28 rfl (lv_at hl 2 rfl) ?_
          refine lv_iadd hx hb d_md_clean_29 ?_
          obtain ⟨hi_21, hv⟩ := hv
          refine va_iald hx hb hK hP 2 0 rfl rfl hi_21 d_md_clean_30 ?_
          refine lv_goto (tgt := 35) hx hb d_md_clean_31 (by decide) ?_
          obtain ⟨hi_22, hv⟩ := hv
          refine va_iast hx hb hK hP hD hS 3 0 rfl rfl hi_22 d_md_clean_35 (fun H locs hP hD hS => ?_)
          have hP : va_P (dC, dI) vwCl [((ad 0), .inr (8, [.int md_thrownCode, .int md_p, .int md_n, .int md_order, .int md_monomials, .ref (ad 1), .ref (ad 2), .int md_generators, .ref (ad 3), .ref (ad 4), .int md_found, .int md_upTo, .ref (ad 5), .ref (ad 6), .ref (ad 7), .ref (ad 8), .int md_members, .int md_provedNow])), ((ad 5), .inl (cs 2, 126, .inl md_has)), ((ad 6), .inl (cs 0, 15876, .inl md_row)), ((ad 7), .inl (cs 0, 126, .inl (upd md_work_2 x2_1.toNatClampNeg (md_row (((126 * p0) + x2_1)).toNatClampNeg))))] H := hP
          have hD : va_D A [((ad 0), .inr (8, [.int md_thrownCode, .int md_p, .int md_n, .int md_order, .int md_monomials, .ref (ad 1), .ref (ad 2), .int md_generators, .ref (ad 3), .ref (ad 4), .int md_found, .int md_upTo, .ref (ad 5), .ref (ad 6), .ref (ad 7), .ref (ad 8), .int md_members, .int md_provedNow])), ((ad 5), .inl (cs 2, 126, .inl md_has)), ((ad 6), .inl (cs 0, 15876, .inl md_row)), ((ad 7), .inl (cs 0, 126, .inl (upd md_work_2 x2_1.toNatClampNeg (md_row (((126 * p0) + x2_1)).toNatClampNeg))))] := hD
          generalize emd_work_23 : upd md_work_2 x2_1.toNatClampNeg (md_row (((126 * p0) + x2_1)).toNatClampNeg) = md_work_23 at hP hD
          have hv := hv md_work_23 emd_work_23.symm
          obtain ⟨x2_24, ex2_24⟩ : ∃ y : Int32, y = x2_1 + 1 := ⟨_, rfl⟩
          have hv := hv x2_24 ex2_24
          refine lv_iinc (v := x2_24) (lv' := [(2, .int x2_24), (0, .ref (ad 0)), (1, .int p0)]) hx hb d_md_clean_36 hl (k := 2) rfl (by rw [ex2_24]; rfl) (by decide) rfl (fun ls hl => ?_)
          refine lv_goto (tgt := 2) hx hb d_md_clean_39 (by decide) ?_
          exact ih2 x2_24 md_work_23 (Nat.lt_of_lt_of_le hv.2 (Nat.le_of_lt_succ hlt2)) hv.1 _ _ _ (hP.sub [0, 1, 2, 3] rfl) (hD.sub [0, 1, 2, 3] (by decide) rfl) hS (lv_sub hl [1, 2, 0] rfl)
  exact loop2 _ 0 md_work (Nat.lt_succ_self _) hi0 _ _ _ hP hD hS hl
abbrev b_md_divides : ByteArray := prog_10_method_17_code
def y_md_divides : MethodName := ⟨"SpaceBasisModel", "divides", "(II)Z"⟩
def w_md_divides : List Cond := Cond.code y_md_divides b_md_divides 3 (some .boolean) :: vwWS
theorem d_md_divides_0 : decode b_md_divides 0 = .ok (.iconst 0, 1) := by decide +kernel
theorem d_md_divides_1 : decode b_md_divides 1 = .ok (.istore_n 2, 1) := by decide +kernel
theorem d_md_divides_2 : decode b_md_divides 2 = .ok (.iload_n 2, 1) := by decide +kernel
theorem d_md_divides_3 : decode b_md_divides 3 = .ok (.iconst 4, 1) := by decide +kernel
theorem d_md_divides_4 : decode b_md_divides 4 = .ok (.if_icmp .ge 24, 3) := by decide +kernel
theorem d_md_divides_7 : decode b_md_divides 7 = .ok (.iload_n 0, 1) := by decide +kernel
theorem d_md_divides_8 : decode b_md_divides 8 = .ok (.iload_n 2, 1) := by decide +kernel
theorem d_md_divides_9 : decode b_md_divides 9 = .ok (.invokestatic 71, 3) := by decide +kernel
theorem d_md_divides_12 : decode b_md_divides 12 = .ok (.iload_n 1, 1) := by decide +kernel
theorem d_md_divides_13 : decode b_md_divides 13 = .ok (.iload_n 2, 1) := by decide +kernel
theorem d_md_divides_14 : decode b_md_divides 14 = .ok (.invokestatic 71, 3) := by decide +kernel
theorem d_md_divides_17 : decode b_md_divides 17 = .ok (.if_icmp .le 5, 3) := by decide +kernel
theorem d_md_divides_20 : decode b_md_divides 20 = .ok (.iconst 0, 1) := by decide +kernel
theorem d_md_divides_21 : decode b_md_divides 21 = .ok (.ireturn, 1) := by decide +kernel
theorem d_md_divides_22 : decode b_md_divides 22 = .ok (.iinc 2 1, 3) := by decide +kernel
theorem d_md_divides_25 : decode b_md_divides 25 = .ok (.goto (-23), 3) := by decide +kernel
theorem d_md_divides_28 : decode b_md_divides 28 = .ok (.iconst 1, 1) := by decide +kernel
theorem d_md_divides_29 : decode b_md_divides 29 = .ok (.ireturn, 1) := by decide +kernel
/-- SpaceBasisModel.divides(II)Z -/
def vc_md_divides (p0 : Int32) (p1 : Int32) (Q : Int32 → Prop) : Prop :=
  ∃ (I2_2 : Int32 → Prop) (mu2_3 : Int32 → Nat), I2_2 0 ∧ ∀ (x2_1 : Int32), I2_2 x2_1 → ((((4 ≤ x2_1) → (Q 1)) ∧ ((¬ (4 ≤ x2_1)) → (vc_md_exponent p0 x2_1 (fun (r_5 : Int32) => vc_md_exponent p1 x2_1 (fun (r_6 : Int32) => (((r_5 ≤ r_6) → (∀ x2_8 : Int32, x2_8 = x2_1 + 1 → (I2_2 x2_8 ∧ mu2_3 x2_8 < mu2_3 x2_1))) ∧ ((¬ (r_5 ≤ r_6)) → (Q 0)))))))))
abbrev at_md_divides (dC : Nat → ClassId) (dI : Nat → Nat → Nat) (cs : Nat → ClassId) (A : Nat → Prop) (ad : Nat → Nat)  (u : Unit) (t : State) : Prop := match u with
  | _ => va_P (dC, dI) vwCl [] t.heap ∧ va_D A []
set_option maxHeartbeats 4000000 in
set_option maxRecDepth 100000 in
theorem c_md_divides (l : Launch) (dC : Nat → ClassId) (dI : Nat → Nat → Nat) (cs : Nat → ClassId) (ad : Nat → Nat)  (sz : Nat) (p0 : Int32) (p1 : Int32) (Q : Int32 → Prop) (hv : vc_md_divides p0 p1 Q) : Met l y_md_divides w_md_divides ({ frames := 1, cells := 0, slots := 0, locals := 21 }) (va_Pc [.int p0, .int p1] (fun U => U.heap.size = sz ∧ va_P (dC, dI) vwCl [] U.heap ∧ vwK dC dI cs U ∧ va_D (fun _ => True) [])) (va_Qi (fun (r : Int32) (u : Unit) => Q r) (at_md_divides dC dI cs (va_A [] sz) ad ) (va_A [] sz)) 0 0 (va_A [] sz) := by
  unfold vc_md_divides at hv
  refine Met.ofW (cc := b_md_divides) (maxL := 3) (ret := (some .boolean)) (by decide) rfl ?_
  intro p e s m args below meth c s₁ B hml hpc
  obtain ⟨rfl, hsz, hP, ⟨hK, hN⟩, hD0⟩ := hpc
  have hx := B.exec
  have hb := B.bytes
  have hr := B.returns
  have hts : ∀ w ∈ vwWS, w.before _ s = true := fun w h => atoms_spec (ws := w_md_divides) B.pre w (List.mem_cons_of_mem _ h)
  have hown : s.vm.findClass "SpaceBasisModel" = some m.cls := findClass_of_methodNamed B.named
  have hlocks := B.notSynchronized
  subst hsz
  have hD := hD0.self (sz := s.heap.size)
  generalize hAe : va_A [] s.heap.size = A at hD ⊢
  have hA : ∀ q : Nat, s.heap.size ≤ q → A q := fun q h => by rw [← hAe]; exact Or.inr h
  have hS : va_S A s.heap s.heap [] := va_S.rf
  have hl := lv_entry ([.int p0, .int p1]) (n := 3) (Nat.le_of_ble_eq_true rfl)
  rw [lg_entry_eq]
  generalize (lg_sl ([.int p0, .int p1]) ++ List.replicate (3 - (lg_sl ([.int p0, .int p1])).length) Slot.unset).toArray = ls at hl ⊢
  have hl : lv_has ls 3 [(0, .int p0), (1, .int p1)] := hl
  refine lv_iconst (v := 0) hx hb d_md_divides_0 (by decide) ?_
  refine lv_istore_n (lv' := [(2, .int 0), (0, .int p0), (1, .int p1)]) hx hb d_md_divides_1 rfl hl (by decide) rfl (fun ls hl => ?_)
  obtain ⟨I2_2, mu2_3, hi0, hv⟩ := hv
  have hP := hP.sub (ws' := []) [] rfl
  have hD := hD.sub (ws' := []) [] (by decide) rfl
  have hl := lv_sub (l' := [(0, .int p0), (1, .int p1), (2, .int 0)]) hl [1, 2, 0] rfl
  have loop2 : ∀ (nn : Nat) (x2_1 : Int32), mu2_3 x2_1 < nn → I2_2 x2_1 → ∀ (H : Heap) (locs : List Loc) (ls : Array Slot), va_P (dC, dI) vwCl [] H → va_D A [] → va_S A s.heap H locs → lv_has ls 3 [(0, .int p0), (1, .int p1), (2, .int x2_1)] → W p l e (headSpec w_md_divides { frames := 1, cells := 0, slots := 0, locals := 21 }).room s m ([.int p0, .int p1] : List Value).toArray below meth c H locs 0 0 (MQ below (va_Qi (fun (r : Int32) (u : Unit) => Q r) (at_md_divides dC dI cs A ad ) A) ([.int p0, .int p1] : List Value).toArray s 0 0 A) (F0 m 2 ls []) := by
    intro nn
    induction nn with
    | zero => intro x2_1 hlt; exact absurd hlt (Nat.not_lt_zero _)
    | succ nn ih2 =>
      intro x2_1 hlt2 hI H locs ls hP hD hS hl
      have hv := hv x2_1 hI
      refine lv_iload_n hx hb d_md_divides_2 rfl (lv_at hl 2 rfl) ?_
      refine lv_iconst (v := 4) hx hb d_md_divides_3 (by decide) ?_
      refine lv_icmp_ge (tgt := 28) hx hb d_md_divides_4 (by decide) (fun c_4 => ?_) (fun c_4 => ?_)
      · have hv := hv.1 c_4
        refine lv_iconst (v := 1) hx hb d_md_divides_28 (by decide) ?_
        have hP9 := hP.sub (ws' := []) [] rfl
        have hD9 := hD.sub (ws' := []) [] (by decide) rfl
        exact W.zret (v := 1) hx hb hr rfl (fun t ht hW => ⟨⟨1, (), rfl, hv, by rw [ht]; exact hP9, hD9⟩, hS.F ht⟩) hS.2.2 d_md_divides_29
      · have hv := hv.2 c_4
        refine lv_iload_n hx hb d_md_divides_7 rfl (lv_at hl 0 rfl) ?_
        refine lv_iload_n hx hb d_md_divides_8 rfl (lv_at hl 2 rfl) ?_
        have hPc := hP.sub (ws' := []) [] rfl
        have hDc := hD.sub (ws' := []) [] (by decide) rfl
        have hFc := va_free (wc := []) hD hS hA [] rfl
        refine va_calli (va_runS (As := [.int p0, .int x2_1]) (rest := []) ⟨hx, hb, hml, hown, hts⟩ (c_md_exponent l dC dI cs ad  H.size p0 x2_1 _ hv) (va_cwS 2 hts (gd_S kw_615 kw_616 kw_41 kw_617) rfl rfl rfl (by decide +kernel) ⟨Nat.le_of_ble_eq_true rfl, Nat.le_of_ble_eq_true rfl⟩) ⟨fun a U g mk q => by obtain ⟨q0, q1, qP, qK, qD⟩ := q; exact ⟨q0, q1, qP, qK.call, qD⟩, fun U hU hW => ⟨rfl, by rw [hU], by rw [hU]; exact hPc, vwK.warm hW ⟨hK, hN⟩, hDc.weaken (fun _ _ _ _ => trivial)⟩⟩ rfl rfl hl.1 rfl (lv_room (Nat.le_of_ble_eq_true rfl)) d_md_divides_9 ⟨Nat.zero_le _, Nat.zero_le _⟩) hS (fun q _ h => hFc q h) hFc (fun r_5 _u t H1 locs1 ht hvm hw hB hz1 hk1 hS => ?_)
        obtain ⟨hP1, hD1⟩ := hB
        rw [ht] at hP1
        obtain ⟨hP, hD⟩ := va_join (wr := []) (w1 := []) hP hD [] [] rfl rfl (by decide) (by decide) hk1 hFc hP1 hD1
        generalize H1 = H at hP hS ⊢
        generalize locs1 = locs at hS ⊢
        have hP : va_P (dC, dI) vwCl [] H := hP
        have hD : va_D A [] := hD
        have hv := hw
        try dsimp only at hv
        refine lv_iload_n hx hb d_md_divides_12 rfl (lv_at hl 1 rfl) ?_
        refine lv_iload_n hx hb d_md_divides_13 rfl (lv_at hl 2 rfl) ?_
        have hPc := hP.sub (ws' := []) [] rfl
        have hDc := hD.sub (ws' := []) [] (by decide) rfl
        have hFc := va_free (wc := []) hD hS hA [] rfl
        refine va_calli (va_runS (As := [.int p1, .int x2_1]) (rest := [.int r_5]) ⟨hx, hb, hml, hown, hts⟩ (c_md_exponent l dC dI cs ad  H.size p1 x2_1 _ hv) (va_cwS 2 hts (gd_S kw_615 kw_616 kw_41 kw_617) rfl rfl rfl (by decide +kernel) ⟨Nat.le_of_ble_eq_true rfl, Nat.le_of_ble_eq_true rfl⟩) ⟨fun a U g mk q => by obtain ⟨q0, q1, qP, qK, qD⟩ := q; exact ⟨q0, q1, qP, qK.call, qD⟩, fun U hU hW => ⟨rfl, by rw [hU], by rw [hU]; exact hPc, vwK.warm hW ⟨hK, hN⟩, hDc.weaken (fun _ _ _ _ => trivial)⟩⟩ rfl rfl hl.1 rfl (lv_room (Nat.le_of_ble_eq_true rfl)) d_md_divides_14 ⟨Nat.zero_le _, Nat.zero_le _⟩) hS (fun q _ h => hFc q h) hFc (fun r_6 _u t H1 locs1 ht hvm hw hB hz1 hk1 hS => ?_)
        obtain ⟨hP1, hD1⟩ := hB
        rw [ht] at hP1
        obtain ⟨hP, hD⟩ := va_join (wr := []) (w1 := []) hP hD [] [] rfl rfl (by decide) (by decide) hk1 hFc hP1 hD1
        generalize H1 = H at hP hS ⊢
        generalize locs1 = locs at hS ⊢
        have hP : va_P (dC, dI) vwCl [] H := hP
        have hD : va_D A [] := hD
        have hv := hw
        try dsimp only at hv
        refine lv_icmp_le (tgt := 22) hx hb d_md_divides_17 (by decide) (fun c_7 => ?_) (fun c_7 => ?_)
        · have hv := hv.1 c_7
          obtain ⟨x2_8, ex2_8⟩ : ∃ y : Int32, y = x2_1 + 1 := ⟨_, rfl⟩
          have hv := hv x2_8 ex2_8
          refine lv_iinc (v := x2_8) (lv' := [(2, .int x2_8), (0, .int p0), (1, .int p1)]) hx hb d_md_divides_22 hl (k := 2) rfl (by rw [ex2_8]; rfl) (by decide) rfl (fun ls hl => ?_)
          refine lv_goto (tgt := 2) hx hb d_md_divides_25 (by decide) ?_
          exact ih2 x2_8 (Nat.lt_of_lt_of_le hv.2 (Nat.le_of_lt_succ hlt2)) hv.1 _ _ _ (hP.sub [] rfl) (hD.sub [] (by decide) rfl) hS (lv_sub hl [1, 2, 0] rfl)
        · have hv := hv.2 c_7
          refine lv_iconst (v := 0) hx hb d_md_divides_20 (by decide) ?_
          have hP9 := hP.sub (ws' := []) [] rfl
          have hD9 := hD.sub (ws' := []) [] (by decide) rfl
          exact W.zret (v := 0) hx hb hr rfl (fun t ht hW => ⟨⟨0, (), rfl, hv, by rw [ht]; exact hP9, hD9⟩, hS.F ht⟩) hS.2.2 d_md_divides_21
  exact loop2 _ 0 (Nat.lt_succ_self _) hi0 _ _ _ hP hD hS hl
abbrev b_md_prime : ByteArray := prog_10_method_20_code
def y_md_prime : MethodName := ⟨"SpaceBasisModel", "prime", "(I)Z"⟩
def w_md_prime : List Cond := Cond.code y_md_prime b_md_prime 2 (some .boolean) :: vwWS
theorem d_md_prime_0 : decode b_md_prime 0 = .ok (.iload_n 0, 1) := by decide +kernel
theorem d_md_prime_1 : decode b_md_prime 1 = .ok (.iconst 2, 1) := by decide +kernel
theorem d_md_prime_2 : decode b_md_prime 2 = .ok (.if_icmp .lt 10, 3) := by decide +kernel
theorem d_md_prime_5 : decode b_md_prime 5 = .ok (.iload_n 0, 1) := by decide +kernel
theorem d_md_prime_6 : decode b_md_prime 6 = .ok (.sipush 32003, 3) := by decide +kernel
theorem d_md_prime_9 : decode b_md_prime 9 = .ok (.if_icmp .le 5, 3) := by decide +kernel
theorem d_md_prime_12 : decode b_md_prime 12 = .ok (.iconst 0, 1) := by decide +kernel
theorem d_md_prime_13 : decode b_md_prime 13 = .ok (.ireturn, 1) := by decide +kernel
theorem d_md_prime_14 : decode b_md_prime 14 = .ok (.iconst 2, 1) := by decide +kernel
theorem d_md_prime_15 : decode b_md_prime 15 = .ok (.istore_n 1, 1) := by decide +kernel
theorem d_md_prime_16 : decode b_md_prime 16 = .ok (.iload_n 1, 1) := by decide +kernel
theorem d_md_prime_17 : decode b_md_prime 17 = .ok (.iload_n 1, 1) := by decide +kernel
theorem d_md_prime_18 : decode b_md_prime 18 = .ok (.imul, 1) := by decide +kernel
theorem d_md_prime_19 : decode b_md_prime 19 = .ok (.iload_n 0, 1) := by decide +kernel
theorem d_md_prime_20 : decode b_md_prime 20 = .ok (.if_icmp .gt 17, 3) := by decide +kernel
theorem d_md_prime_23 : decode b_md_prime 23 = .ok (.iload_n 0, 1) := by decide +kernel
theorem d_md_prime_24 : decode b_md_prime 24 = .ok (.iload_n 1, 1) := by decide +kernel
theorem d_md_prime_25 : decode b_md_prime 25 = .ok (.irem, 1) := by decide +kernel
theorem d_md_prime_26 : decode b_md_prime 26 = .ok (.ifCond .ne 5, 3) := by decide +kernel
theorem d_md_prime_29 : decode b_md_prime 29 = .ok (.iconst 0, 1) := by decide +kernel
theorem d_md_prime_30 : decode b_md_prime 30 = .ok (.ireturn, 1) := by decide +kernel
theorem d_md_prime_31 : decode b_md_prime 31 = .ok (.iinc 1 1, 3) := by decide +kernel
theorem d_md_prime_34 : decode b_md_prime 34 = .ok (.goto (-18), 3) := by decide +kernel
theorem d_md_prime_37 : decode b_md_prime 37 = .ok (.iconst 1, 1) := by decide +kernel
theorem d_md_prime_38 : decode b_md_prime 38 = .ok (.ireturn, 1) := by decide +kernel
/-- SpaceBasisModel.prime(I)Z -/
def vc_md_prime (p0 : Int32) (Q : Int32 → Prop) : Prop :=
  (((p0 < 2) → (Q 0)) ∧ ((¬ (p0 < 2)) → ((((p0 ≤ 32003) → (∃ (I16_4 : Int32 → Prop) (mu16_5 : Int32 → Nat), I16_4 2 ∧ ∀ (x1_3 : Int32), I16_4 x1_3 → ((((p0 < (x1_3 * x1_3)) → (Q 1)) ∧ ((¬ (p0 < (x1_3 * x1_3))) → ((¬ (x1_3 : Int32) = 0) ∧ (((¬ ((p0 - p0 / x1_3 * x1_3) = 0)) → (∀ x1_9 : Int32, x1_9 = x1_3 + 1 → (I16_4 x1_9 ∧ mu16_5 x1_9 < mu16_5 x1_3))) ∧ (((p0 - p0 / x1_3 * x1_3) = 0) → (Q 0))))))))) ∧ ((¬ (p0 ≤ 32003)) → (Q 0))))))
abbrev at_md_prime (dC : Nat → ClassId) (dI : Nat → Nat → Nat) (cs : Nat → ClassId) (A : Nat → Prop) (ad : Nat → Nat)  (u : Unit) (t : State) : Prop := match u with
  | _ => va_P (dC, dI) vwCl [] t.heap ∧ va_D A []
set_option maxHeartbeats 4000000 in
set_option maxRecDepth 100000 in
theorem c_md_prime (l : Launch) (dC : Nat → ClassId) (dI : Nat → Nat → Nat) (cs : Nat → ClassId) (ad : Nat → Nat)  (sz : Nat) (p0 : Int32) (Q : Int32 → Prop) (hv : vc_md_prime p0 Q) : Met l y_md_prime w_md_prime ({ frames := 0, cells := 0, slots := 0, locals := 0 }) (va_Pc [.int p0] (fun U => U.heap.size = sz ∧ va_P (dC, dI) vwCl [] U.heap ∧ vwK dC dI cs U ∧ va_D (fun _ => True) [])) (va_Qi (fun (r : Int32) (u : Unit) => Q r) (at_md_prime dC dI cs (va_A [] sz) ad ) (va_A [] sz)) 0 0 (va_A [] sz) := by
  unfold vc_md_prime at hv
  refine Met.ofW (cc := b_md_prime) (maxL := 2) (ret := (some .boolean)) (by decide) rfl ?_
  intro p e s m args below meth c s₁ B hml hpc
  obtain ⟨rfl, hsz, hP, ⟨hK, hN⟩, hD0⟩ := hpc
  have hx := B.exec
  have hb := B.bytes
  have hr := B.returns
  have hts : ∀ w ∈ vwWS, w.before _ s = true := fun w h => atoms_spec (ws := w_md_prime) B.pre w (List.mem_cons_of_mem _ h)
  have hown : s.vm.findClass "SpaceBasisModel" = some m.cls := findClass_of_methodNamed B.named
  have hlocks := B.notSynchronized
  subst hsz
  have hD := hD0.self (sz := s.heap.size)
  generalize hAe : va_A [] s.heap.size = A at hD ⊢
  have hA : ∀ q : Nat, s.heap.size ≤ q → A q := fun q h => by rw [← hAe]; exact Or.inr h
  have hS : va_S A s.heap s.heap [] := va_S.rf
  have hl := lv_entry ([.int p0]) (n := 2) (Nat.le_of_ble_eq_true rfl)
  rw [lg_entry_eq]
  generalize (lg_sl ([.int p0]) ++ List.replicate (2 - (lg_sl ([.int p0])).length) Slot.unset).toArray = ls at hl ⊢
  have hl : lv_has ls 2 [(0, .int p0)] := hl
  refine lv_iload_n hx hb d_md_prime_0 rfl (lv_at hl 0 rfl) ?_
  refine lv_iconst (v := 2) hx hb d_md_prime_1 (by decide) ?_
  refine lv_icmp_lt (tgt := 12) hx hb d_md_prime_2 (by decide) (fun c_1 => ?_) (fun c_1 => ?_)
  · have hv := hv.1 c_1
    refine lv_iconst (v := 0) hx hb d_md_prime_12 (by decide) ?_
    have hP9 := hP.sub (ws' := []) [] rfl
    have hD9 := hD.sub (ws' := []) [] (by decide) rfl
    exact W.zret (v := 0) hx hb hr rfl (fun t ht hW => ⟨⟨0, (), rfl, hv, by rw [ht]; exact hP9, hD9⟩, hS.F ht⟩) hS.2.2 d_md_prime_13
  · have hv := hv.2 c_1
    refine lv_iload_n hx hb d_md_prime_5 rfl (lv_at hl 0 rfl) ?_
    refine lv_sipush (v := 32003) hx hb d_md_prime_6 (by decide) ?_
    refine lv_icmp_le (tgt := 14) hx hb d_md_prime_9 (by decide) (fun c_2 => ?_) (fun c_2 => ?_)
    · have hv := hv.1 c_2
      refine lv_iconst (v := 2) hx hb d_md_prime_14 (by decide) ?_
      refine lv_istore_n (lv' := [(1, .int 2), (0, .int p0)]) hx hb d_md_prime_15 rfl hl (by decide) rfl (fun ls hl => ?_)
      obtain ⟨I16_4, mu16_5, hi0, hv⟩ := hv
      have hP := hP.sub (ws' := []) [] rfl
      have hD := hD.sub (ws' := []) [] (by decide) rfl
      have hl := lv_sub (l' := [(0, .int p0), (1, .int 2)]) hl [1, 0] rfl
      have loop16 : ∀ (nn : Nat) (x1_3 : Int32), mu16_5 x1_3 < nn → I16_4 x1_3 → ∀ (H : Heap) (locs : List Loc) (ls : Array Slot), va_P (dC, dI) vwCl [] H → va_D A [] → va_S A s.heap H locs → lv_has ls 2 [(0, .int p0), (1, .int x1_3)] → W p l e (headSpec w_md_prime { frames := 0, cells := 0, slots := 0, locals := 0 }).room s m ([.int p0] : List Value).toArray below meth c H locs 0 0 (MQ below (va_Qi (fun (r : Int32) (u : Unit) => Q r) (at_md_prime dC dI cs A ad ) A) ([.int p0] : List Value).toArray s 0 0 A) (F0 m 16 ls []) := by
        intro nn
        induction nn with
        | zero => intro x1_3 hlt; exact absurd hlt (Nat.not_lt_zero _)
        | succ nn ih16 =>
          intro x1_3 hlt16 hI H locs ls hP hD hS hl
          have hv := hv x1_3 hI
          refine lv_iload_n hx hb d_md_prime_16 rfl (lv_at hl 1 rfl) ?_
          refine lv_iload_n hx hb d_md_prime_17 rfl (lv_at hl 1 rfl) ?_
          refine lv_imul hx hb d_md_prime_18 ?_
          refine lv_iload_n hx hb d_md_prime_19 rfl (lv_at hl 0 rfl) ?_
          refine lv_icmp_gt (tgt := 37) hx hb d_md_prime_20 (by decide) (fun c_6 => ?_) (fun c_6 => ?_)
          · have hv := hv.1 c_6
            refine lv_iconst (v := 1) hx hb d_md_prime_37 (by decide) ?_
            have hP9 := hP.sub (ws' := []) [] rfl
            have hD9 := hD.sub (ws' := []) [] (by decide) rfl
            exact W.zret (v := 1) hx hb hr rfl (fun t ht hW => ⟨⟨1, (), rfl, hv, by rw [ht]; exact hP9, hD9⟩, hS.F ht⟩) hS.2.2 d_md_prime_38
          · have hv := hv.2 c_6
            refine lv_iload_n hx hb d_md_prime_23 rfl (lv_at hl 0 rfl) ?_
            refine lv_iload_n hx hb d_md_prime_24 rfl (lv_at hl 1 rfl) ?_
            obtain ⟨hz_7, hv⟩ := hv
            refine lv_irem hx hb d_md_prime_25 hz_7 ?_
            refine lv_if_ne (tgt := 31) hx hb d_md_prime_26 (by decide) (fun c_8 => ?_) (fun c_8 => ?_)
            · have hv := hv.1 c_8
              obtain ⟨x1_9, ex1_9⟩ : ∃ y : Int32, y = x1_3 + 1 := ⟨_, rfl⟩
              have hv := hv x1_9 ex1_9
              refine lv_iinc (v := x1_9) (lv' := [(1, .int x1_9), (0, .int p0)]) hx hb d_md_prime_31 hl (k := 1) rfl (by rw [ex1_9]; rfl) (by decide) rfl (fun ls hl => ?_)
              refine lv_goto (tgt := 16) hx hb d_md_prime_34 (by decide) ?_
              exact ih16 x1_9 (Nat.lt_of_lt_of_le hv.2 (Nat.le_of_lt_succ hlt16)) hv.1 _ _ _ (hP.sub [] rfl) (hD.sub [] (by decide) rfl) hS (lv_sub hl [1, 0] rfl)
            · have hv := hv.2 c_8
              refine lv_iconst (v := 0) hx hb d_md_prime_29 (by decide) ?_
              have hP9 := hP.sub (ws' := []) [] rfl
              have hD9 := hD.sub (ws' := []) [] (by decide) rfl
              exact W.zret (v := 0) hx hb hr rfl (fun t ht hW => ⟨⟨0, (), rfl, hv, by rw [ht]; exact hP9, hD9⟩, hS.F ht⟩) hS.2.2 d_md_prime_30
      exact loop16 _ 2 (Nat.lt_succ_self _) hi0 _ _ _ hP hD hS hl
    · have hv := hv.2 c_2
      refine lv_iconst (v := 0) hx hb d_md_prime_12 (by decide) ?_
      have hP9 := hP.sub (ws' := []) [] rfl
      have hD9 := hD.sub (ws' := []) [] (by decide) rfl
      exact W.zret (v := 0) hx hb hr rfl (fun t ht hW => ⟨⟨0, (), rfl, hv, by rw [ht]; exact hP9, hD9⟩, hS.F ht⟩) hS.2.2 d_md_prime_13
abbrev b_md_thrown : ByteArray := prog_10_method_21_code
def y_md_thrown : MethodName := ⟨"SpaceBasisModel", "thrown", "()I"⟩
def w_md_thrown : List Cond := Cond.code y_md_thrown b_md_thrown 1 (some .int) :: vwWS
theorem d_md_thrown_0 : decode b_md_thrown 0 = .ok (.aload_n 0, 1) := by decide +kernel
theorem d_md_thrown_1 : decode b_md_thrown 1 = .ok (.getfield 7, 3) := by decide +kernel
theorem d_md_thrown_4 : decode b_md_thrown 4 = .ok (.ireturn, 1) := by decide +kernel
/-- SpaceBasisModel.thrown()I -/
def vc_md_thrown (md_thrownCode : Int32) (md_p : Int32) (md_n : Int32) (md_order : Int32) (md_monomials : Int32) (md_generators : Int32) (md_found : Int32) (md_upTo : Int32) (md_members : Int32) (md_provedNow : Int32) (Q : Int32 → Prop) : Prop :=
  Q md_thrownCode
abbrev at_md_thrown (dC : Nat → ClassId) (dI : Nat → Nat → Nat) (cs : Nat → ClassId) (A : Nat → Prop) (ad : Nat → Nat) (md_thrownCode : Int32) (md_p : Int32) (md_n : Int32) (md_order : Int32) (md_monomials : Int32) (md_generators : Int32) (md_found : Int32) (md_upTo : Int32) (md_members : Int32) (md_provedNow : Int32) (u : Unit) (t : State) : Prop := match u with
  | _ => va_P (dC, dI) vwCl [((ad 0), .inr (8, [.int md_thrownCode, .int md_p, .int md_n, .int md_order, .int md_monomials, .ref (ad 1), .ref (ad 2), .int md_generators, .ref (ad 3), .ref (ad 4), .int md_found, .int md_upTo, .ref (ad 5), .ref (ad 6), .ref (ad 7), .ref (ad 8), .int md_members, .int md_provedNow]))] t.heap ∧ va_D A [((ad 0), .inr (8, [.int md_thrownCode, .int md_p, .int md_n, .int md_order, .int md_monomials, .ref (ad 1), .ref (ad 2), .int md_generators, .ref (ad 3), .ref (ad 4), .int md_found, .int md_upTo, .ref (ad 5), .ref (ad 6), .ref (ad 7), .ref (ad 8), .int md_members, .int md_provedNow]))]
set_option maxHeartbeats 4000000 in
set_option maxRecDepth 100000 in
theorem c_md_thrown (l : Launch) (dC : Nat → ClassId) (dI : Nat → Nat → Nat) (cs : Nat → ClassId) (ad : Nat → Nat)  (sz : Nat) (md_thrownCode : Int32) (md_p : Int32) (md_n : Int32) (md_order : Int32) (md_monomials : Int32) (md_generators : Int32) (md_found : Int32) (md_upTo : Int32) (md_members : Int32) (md_provedNow : Int32) (Q : Int32 → Prop) (hv : vc_md_thrown md_thrownCode md_p md_n md_order md_monomials md_generators md_found md_upTo md_members md_provedNow Q) : Met l y_md_thrown w_md_thrown ({ frames := 0, cells := 0, slots := 0, locals := 0 }) (va_Pc [.ref (ad 0)] (fun U => U.heap.size = sz ∧ va_P (dC, dI) vwCl [((ad 0), .inr (8, [.int md_thrownCode, .int md_p, .int md_n, .int md_order, .int md_monomials, .ref (ad 1), .ref (ad 2), .int md_generators, .ref (ad 3), .ref (ad 4), .int md_found, .int md_upTo, .ref (ad 5), .ref (ad 6), .ref (ad 7), .ref (ad 8), .int md_members, .int md_provedNow]))] U.heap ∧ vwK dC dI cs U ∧ va_D (fun _ => True) [((ad 0), .inr (8, [.int md_thrownCode, .int md_p, .int md_n, .int md_order, .int md_monomials, .ref (ad 1), .ref (ad 2), .int md_generators, .ref (ad 3), .ref (ad 4), .int md_found, .int md_upTo, .ref (ad 5), .ref (ad 6), .ref (ad 7), .ref (ad 8), .int md_members, .int md_provedNow]))])) (va_Qi (fun (r : Int32) (u : Unit) => Q r) (at_md_thrown dC dI cs (va_A [((ad 0), .inr (8, [.int md_thrownCode, .int md_p, .int md_n, .int md_order, .int md_monomials, .ref (ad 1), .ref (ad 2), .int md_generators, .ref (ad 3), .ref (ad 4), .int md_found, .int md_upTo, .ref (ad 5), .ref (ad 6), .ref (ad 7), .ref (ad 8), .int md_members, .int md_provedNow]))] sz) ad md_thrownCode md_p md_n md_order md_monomials md_generators md_found md_upTo md_members md_provedNow) (va_A [((ad 0), .inr (8, [.int md_thrownCode, .int md_p, .int md_n, .int md_order, .int md_monomials, .ref (ad 1), .ref (ad 2), .int md_generators, .ref (ad 3), .ref (ad 4), .int md_found, .int md_upTo, .ref (ad 5), .ref (ad 6), .ref (ad 7), .ref (ad 8), .int md_members, .int md_provedNow]))] sz)) 0 0 (va_A [((ad 0), .inr (8, [.int md_thrownCode, .int md_p, .int md_n, .int md_order, .int md_monomials, .ref (ad 1), .ref (ad 2), .int md_generators, .ref (ad 3), .ref (ad 4), .int md_found, .int md_upTo, .ref (ad 5), .ref (ad 6), .ref (ad 7), .ref (ad 8), .int md_members, .int md_provedNow]))] sz) := by
  unfold vc_md_thrown at hv
  refine Met.ofW (cc := b_md_thrown) (maxL := 1) (ret := (some .int)) (by decide) rfl ?_
  intro p e s m args below meth c s₁ B hml hpc
  obtain ⟨rfl, hsz, hP, ⟨hK, hN⟩, hD0⟩ := hpc
  have hx := B.exec
  have hb := B.bytes
  have hr := B.returns
  have hts : ∀ w ∈ vwWS, w.before _ s = true := fun w h => atoms_spec (ws := w_md_thrown) B.pre w (List.mem_cons_of_mem _ h)
  have hown : s.vm.findClass "SpaceBasisModel" = some m.cls := findClass_of_methodNamed B.named
  have hlocks := B.notSynchronized
  subst hsz
  have hD := hD0.self (sz := s.heap.size)
  generalize hAe : va_A [((ad 0), .inr (8, [.int md_thrownCode, .int md_p, .int md_n, .int md_order, .int md_monomials, .ref (ad 1), .ref (ad 2), .int md_generators, .ref (ad 3), .ref (ad 4), .int md_found, .int md_upTo, .ref (ad 5), .ref (ad 6), .ref (ad 7), .ref (ad 8), .int md_members, .int md_provedNow]))] s.heap.size = A at hD ⊢
  have hA : ∀ q : Nat, s.heap.size ≤ q → A q := fun q h => by rw [← hAe]; exact Or.inr h
  have hS : va_S A s.heap s.heap [] := va_S.rf
  have hl := lv_entry ([.ref (ad 0)]) (n := 1) (Nat.le_of_ble_eq_true rfl)
  rw [lg_entry_eq]
  generalize (lg_sl ([.ref (ad 0)]) ++ List.replicate (1 - (lg_sl ([.ref (ad 0)])).length) Slot.unset).toArray = ls at hl ⊢
  have hl : lv_has ls 1 [(0, .ref (ad 0))] := hl
  refine lv_aload_n hx hb d_md_thrown_0 rfl (lv_at hl 0 rfl) ?_
  refine va_get (D := (dC, dI)) (ci := 8) (v := .int md_thrownCode) (C := R_md) (T := F_md) (N := 18) hx hb hts in_md hown hK hP 0 rfl rfl 0 (by decide) (hts _ kw_618) (fun _ h9 => h9) rfl d_md_thrown_1 ?_
  have hP9 := hP.sub (ws' := [((ad 0), .inr (8, [.int md_thrownCode, .int md_p, .int md_n, .int md_order, .int md_monomials, .ref (ad 1), .ref (ad 2), .int md_generators, .ref (ad 3), .ref (ad 4), .int md_found, .int md_upTo, .ref (ad 5), .ref (ad 6), .ref (ad 7), .ref (ad 8), .int md_members, .int md_provedNow]))]) [0] rfl
  have hD9 := hD.sub (ws' := [((ad 0), .inr (8, [.int md_thrownCode, .int md_p, .int md_n, .int md_order, .int md_monomials, .ref (ad 1), .ref (ad 2), .int md_generators, .ref (ad 3), .ref (ad 4), .int md_found, .int md_upTo, .ref (ad 5), .ref (ad 6), .ref (ad 7), .ref (ad 8), .int md_members, .int md_provedNow]))]) [0] (by decide) rfl
  exact W.iret (v := md_thrownCode) hx hb hr (fun t ht hW => ⟨⟨md_thrownCode, (), rfl, hv, by rw [ht]; exact hP9, hD9⟩, hS.F ht⟩) hS.2.2 d_md_thrown_4
