abbrev b_og_numberOf : ByteArray := prog_6_method_2_code
def y_og_numberOf : MethodName := ⟨"SpaceBasis$Origins", "numberOf", "(II)I"⟩
def w_og_numberOf : List Cond := Cond.code y_og_numberOf b_og_numberOf 3 (some .int) :: vwWS
theorem d_og_numberOf_0 : decode b_og_numberOf 0 = .ok (.aload_n 0, 1) := by decide +kernel
theorem d_og_numberOf_1 : decode b_og_numberOf 1 = .ok (.getfield 21, 3) := by decide +kernel
theorem d_og_numberOf_4 : decode b_og_numberOf 4 = .ok (.iload_n 1, 1) := by decide +kernel
theorem d_og_numberOf_5 : decode b_og_numberOf 5 = .ok (.invokestatic 24, 3) := by decide +kernel
theorem d_og_numberOf_8 : decode b_og_numberOf 8 = .ok (.iload_n 2, 1) := by decide +kernel
theorem d_og_numberOf_9 : decode b_og_numberOf 9 = .ok (.iadd, 1) := by decide +kernel
theorem d_og_numberOf_10 : decode b_og_numberOf 10 = .ok (.iaload, 1) := by decide +kernel
theorem d_og_numberOf_11 : decode b_og_numberOf 11 = .ok (.ireturn, 1) := by decide +kernel
/-- SpaceBasis$Origins.numberOf(II)I -/
def vc_og_numberOf (og_numbers : Nat → Int32) (p0 : Int32) (p1 : Int32) (Q : Int32 → Prop) : Prop :=
  vc_x_startOfLine p0 (fun (r_1 : Int32) => vp_in (r_1 + p1) 8001 ∧ Q (og_numbers ((r_1 + p1)).toNatClampNeg))
abbrev at_og_numberOf (dC : Nat → ClassId) (dI : Nat → Nat → Nat) (cs : Nat → ClassId) (A : Nat → Prop) (ad : Nat → Nat) (og_numbers : Nat → Int32) (u : Unit) (t : State) : Prop := match u with
  | _ => va_P (dC, dI) vwCl [((ad 18), .inr (5, [.ref (ad 19), .ref (ad 20), .ref (ad 21), .ref (ad 22)])), ((ad 22), .inl (cs 0, 8001, .inl og_numbers))] t.heap ∧ va_D A [((ad 18), .inr (5, [.ref (ad 19), .ref (ad 20), .ref (ad 21), .ref (ad 22)])), ((ad 22), .inl (cs 0, 8001, .inl og_numbers))]
set_option maxHeartbeats 4000000 in
set_option maxRecDepth 100000 in
theorem c_og_numberOf (l : Launch) (dC : Nat → ClassId) (dI : Nat → Nat → Nat) (cs : Nat → ClassId) (ad : Nat → Nat)  (sz : Nat) (og_numbers : Nat → Int32) (p0 : Int32) (p1 : Int32) (Q : Int32 → Prop) (hv : vc_og_numberOf og_numbers p0 p1 Q) : Met l y_og_numberOf w_og_numberOf ({ frames := 1, cells := 0, slots := 0, locals := 20 }) (va_Pc [.ref (ad 18), .int p0, .int p1] (fun U => U.heap.size = sz ∧ va_P (dC, dI) vwCl [((ad 18), .inr (5, [.ref (ad 19), .ref (ad 20), .ref (ad 21), .ref (ad 22)])), ((ad 22), .inl (cs 0, 8001, .inl og_numbers))] U.heap ∧ vwK dC dI cs U ∧ va_D (fun _ => True) [((ad 18), .inr (5, [.ref (ad 19), .ref (ad 20), .ref (ad 21), .ref (ad 22)])), ((ad 22), .inl (cs 0, 8001, .inl og_numbers))])) (va_Qi (fun (r : Int32) (u : Unit) => Q r) (at_og_numberOf dC dI cs (va_A [((ad 18), .inr (5, [.ref (ad 19), .ref (ad 20), .ref (ad 21), .ref (ad 22)])), ((ad 22), .inl (cs 0, 8001, .inl og_numbers))] sz) ad og_numbers) (va_A [((ad 18), .inr (5, [.ref (ad 19), .ref (ad 20), .ref (ad 21), .ref (ad 22)])), ((ad 22), .inl (cs 0, 8001, .inl og_numbers))] sz)) 0 0 (va_A [((ad 18), .inr (5, [.ref (ad 19), .ref (ad 20), .ref (ad 21), .ref (ad 22)])), ((ad 22), .inl (cs 0, 8001, .inl og_numbers))] sz) := by
  unfold vc_og_numberOf at hv
  refine Met.ofW (cc := b_og_numberOf) (maxL := 3) (ret := (some .int)) (by decide) rfl ?_
  intro p e s m args below meth c s₁ B hml hpc
  obtain ⟨rfl, hsz, hP, ⟨hK, hN⟩, hD0⟩ := hpc
  have hx := B.exec
  have hb := B.bytes
  have hr := B.returns
  have hts : ∀ w ∈ vwWS, w.before _ s = true := fun w h => atoms_spec (ws := w_og_numberOf) B.pre w (List.mem_cons_of_mem _ h)
  have hown : s.vm.findClass "SpaceBasis$Origins" = some m.cls := findClass_of_methodNamed B.named
  have hlocks := B.notSynchronized
  subst hsz
  have hD := hD0.self (sz := s.heap.size)
  generalize hAe : va_A [((ad 18), .inr (5, [.ref (ad 19), .ref (ad 20), .ref (ad 21), .ref (ad 22)])), ((ad 22), .inl (cs 0, 8001, .inl og_numbers))] s.heap.size = A at hD ⊢
  have hA : ∀ q : Nat, s.heap.size ≤ q → A q := fun q h => by rw [← hAe]; exact Or.inr h
  have hS : va_S A s.heap s.heap [] := va_S.rf
  have hl := lv_entry ([.ref (ad 18), .int p0, .int p1]) (n := 3) (Nat.le_of_ble_eq_true rfl)
  rw [lg_entry_eq]
  generalize (lg_sl ([.ref (ad 18), .int p0, .int p1]) ++ List.replicate (3 - (lg_sl ([.ref (ad 18), .int p0, .int p1])).length) Slot.unset).toArray = ls at hl ⊢
  have hl : lv_has ls 3 [(0, .ref (ad 18)), (1, .int p0), (2, .int p1)] := hl
  refine lv_aload_n hx hb d_og_numberOf_0 rfl (lv_at hl 0 rfl) ?_
  refine va_get (D := (dC, dI)) (ci := 5) (v := .ref (ad 22)) (C := R_og) (T := F_og) (N := 4) hx hb hts in_og hown hK hP 0 rfl rfl 3 (by decide) (hts _ kw_128) (fun _ h9 => h9) rfl d_og_numberOf_1 ?_
  refine lv_iload_n hx hb d_og_numberOf_4 rfl (lv_at hl 1 rfl) ?_
  have hPc := hP.sub (ws' := []) [] rfl
  have hDc := hD.sub (ws' := []) [] (by decide) rfl
  have hFc := va_free (wc := []) hD hS hA [] rfl
  refine va_calli (va_runSN (As := [.int p0]) (rest := [.ref (ad 22)]) ⟨hx, hb, hml, hown, hts⟩ (c_x_startOfLine l dC dI cs ad  s.heap.size p0 _ hv) ⟨va_cnB 1 hts (gd_c kw_311) rfl rfl rfl (hN _ kn_43) (hts _ kw_32) (by decide +kernel) ⟨Nat.le_of_ble_eq_true rfl, Nat.le_of_ble_eq_true rfl⟩, hts _ kw_310, trivial⟩ ⟨fun a U g mk q => by obtain ⟨q0, q1, qP, qK, qD⟩ := q; exact ⟨q0, q1, qP, qK.call, qD⟩, fun U hU hW => ⟨rfl, by rw [hU], by rw [hU]; exact hPc, vwK.warm hW ⟨hK, hN⟩, hDc.weaken (fun _ _ _ _ => trivial)⟩⟩ rfl rfl hl.1 rfl (lv_room (Nat.le_of_ble_eq_true rfl)) d_og_numberOf_5 ⟨Nat.zero_le _, Nat.zero_le _⟩) hS (fun q _ h => hFc q h) hFc (fun r_1 _u t H1 locs1 ht hvm hw hB hz1 hk1 hS => ?_)
  obtain ⟨hP1, hD1⟩ := hB
  rw [ht] at hP1
  obtain ⟨hP, hD⟩ := va_join (wr := [((ad 18), .inr (5, [.ref (ad 19), .ref (ad 20), .ref (ad 21), .ref (ad 22)])), ((ad 22), .inl (cs 0, 8001, .inl og_numbers))]) (w1 := []) hP hD [] [0, 1] rfl rfl (by decide) (by decide) hk1 hFc hP1 hD1
  generalize H1 = H at hP hS ⊢
  generalize locs1 = locs at hS ⊢
  have hP : va_P (dC, dI) vwCl [((ad 18), .inr (5, [.ref (ad 19), .ref (ad 20), .ref (ad 21), .ref (ad 22)])), ((ad 22), .inl (cs 0, 8001, .inl og_numbers))] H := hP
  have hD : va_D A [((ad 18), .inr (5, [.ref (ad 19), .ref (ad 20), .ref (ad 21), .ref (ad 22)])), ((ad 22), .inl (cs 0, 8001, .inl og_numbers))] := hD
  have hv := hw
  try dsimp only at hv
  refine lv_iload_n hx hb d_og_numberOf_8 rfl (lv_at hl 2 rfl) ?_
  refine lv_iadd hx hb d_og_numberOf_9 ?_
  obtain ⟨hi_2, hv⟩ := hv
  refine va_iald hx hb hK hP 1 0 rfl rfl hi_2 d_og_numberOf_10 ?_
  have hP9 := hP.sub (ws' := [((ad 18), .inr (5, [.ref (ad 19), .ref (ad 20), .ref (ad 21), .ref (ad 22)])), ((ad 22), .inl (cs 0, 8001, .inl og_numbers))]) [0, 1] rfl
  have hD9 := hD.sub (ws' := [((ad 18), .inr (5, [.ref (ad 19), .ref (ad 20), .ref (ad 21), .ref (ad 22)])), ((ad 22), .inl (cs 0, 8001, .inl og_numbers))]) [0, 1] (by decide) rfl
  exact W.iret (v := (og_numbers ((r_1 + p1)).toNatClampNeg)) hx hb hr (fun t ht hW => ⟨⟨(og_numbers ((r_1 + p1)).toNatClampNeg), (), rfl, hv, by rw [ht]; exact hP9, hD9⟩, hS.F ht⟩) hS.2.2 d_og_numberOf_11
abbrev b_og_noteNumber : ByteArray := prog_6_method_3_code
def y_og_noteNumber : MethodName := ⟨"SpaceBasis$Origins", "noteNumber", "(III)V"⟩
def w_og_noteNumber : List Cond := Cond.code y_og_noteNumber b_og_noteNumber 4 none :: vwWS
theorem d_og_noteNumber_0 : decode b_og_noteNumber 0 = .ok (.aload_n 0, 1) := by decide +kernel
theorem d_og_noteNumber_1 : decode b_og_noteNumber 1 = .ok (.getfield 21, 3) := by decide +kernel
theorem d_og_noteNumber_4 : decode b_og_noteNumber 4 = .ok (.iload_n 1, 1) := by decide +kernel
theorem d_og_noteNumber_5 : decode b_og_noteNumber 5 = .ok (.invokestatic 24, 3) := by decide +kernel
theorem d_og_noteNumber_8 : decode b_og_noteNumber 8 = .ok (.iload_n 2, 1) := by decide +kernel
theorem d_og_noteNumber_9 : decode b_og_noteNumber 9 = .ok (.iadd, 1) := by decide +kernel
theorem d_og_noteNumber_10 : decode b_og_noteNumber 10 = .ok (.iload_n 3, 1) := by decide +kernel
theorem d_og_noteNumber_11 : decode b_og_noteNumber 11 = .ok (.iastore, 1) := by decide +kernel
theorem d_og_noteNumber_12 : decode b_og_noteNumber 12 = .ok (.return_, 1) := by decide +kernel
/-- SpaceBasis$Origins.noteNumber(III)V -/
def vc_og_noteNumber (og_numbers : Nat → Int32) (p0 : Int32) (p1 : Int32) (p2 : Int32) (Q : (Nat → Int32) → Prop) : Prop :=
  vc_x_startOfLine p0 (fun (r_1 : Int32) => vp_in (r_1 + p1) 8001 ∧ ∀ og_numbers_3 : Nat → Int32, og_numbers_3 = upd og_numbers ((r_1 + p1)).toNatClampNeg p2 → Q og_numbers_3)
abbrev at_og_noteNumber (dC : Nat → ClassId) (dI : Nat → Nat → Nat) (cs : Nat → ClassId) (A : Nat → Prop) (ad : Nat → Nat)  (u : (Nat → Int32)) (t : State) : Prop := match u with
  | og_numbers => va_P (dC, dI) vwCl [((ad 18), .inr (5, [.ref (ad 19), .ref (ad 20), .ref (ad 21), .ref (ad 22)])), ((ad 22), .inl (cs 0, 8001, .inl og_numbers))] t.heap ∧ va_D A [((ad 18), .inr (5, [.ref (ad 19), .ref (ad 20), .ref (ad 21), .ref (ad 22)])), ((ad 22), .inl (cs 0, 8001, .inl og_numbers))]
set_option maxHeartbeats 4000000 in
set_option maxRecDepth 100000 in
theorem c_og_noteNumber (l : Launch) (dC : Nat → ClassId) (dI : Nat → Nat → Nat) (cs : Nat → ClassId) (ad : Nat → Nat)  (sz : Nat) (og_numbers : Nat → Int32) (p0 : Int32) (p1 : Int32) (p2 : Int32) (Q : (Nat → Int32) → Prop) (hv : vc_og_noteNumber og_numbers p0 p1 p2 Q) : Met l y_og_noteNumber w_og_noteNumber ({ frames := 1, cells := 0, slots := 0, locals := 20 }) (va_Pc [.ref (ad 18), .int p0, .int p1, .int p2] (fun U => U.heap.size = sz ∧ va_P (dC, dI) vwCl [((ad 18), .inr (5, [.ref (ad 19), .ref (ad 20), .ref (ad 21), .ref (ad 22)])), ((ad 22), .inl (cs 0, 8001, .inl og_numbers))] U.heap ∧ vwK dC dI cs U ∧ va_D (fun _ => True) [((ad 18), .inr (5, [.ref (ad 19), .ref (ad 20), .ref (ad 21), .ref (ad 22)])), ((ad 22), .inl (cs 0, 8001, .inl og_numbers))])) (va_Qv (fun (u : (Nat → Int32)) => Q u) (at_og_noteNumber dC dI cs (va_A [((ad 18), .inr (5, [.ref (ad 19), .ref (ad 20), .ref (ad 21), .ref (ad 22)])), ((ad 22), .inl (cs 0, 8001, .inl og_numbers))] sz) ad ) (va_A [((ad 18), .inr (5, [.ref (ad 19), .ref (ad 20), .ref (ad 21), .ref (ad 22)])), ((ad 22), .inl (cs 0, 8001, .inl og_numbers))] sz)) 0 0 (va_A [((ad 18), .inr (5, [.ref (ad 19), .ref (ad 20), .ref (ad 21), .ref (ad 22)])), ((ad 22), .inl (cs 0, 8001, .inl og_numbers))] sz) := by
  unfold vc_og_noteNumber at hv
  refine Met.ofW (cc := b_og_noteNumber) (maxL := 4) (ret := none) (by decide) rfl ?_
  intro p e s m args below meth c s₁ B hml hpc
  obtain ⟨rfl, hsz, hP, ⟨hK, hN⟩, hD0⟩ := hpc
  have hx := B.exec
  have hb := B.bytes
  have hr := B.returns
  have hts : ∀ w ∈ vwWS, w.before _ s = true := fun w h => atoms_spec (ws := w_og_noteNumber) B.pre w (List.mem_cons_of_mem _ h)
  have hown : s.vm.findClass "SpaceBasis$Origins" = some m.cls := findClass_of_methodNamed B.named
  have hlocks := B.notSynchronized
  subst hsz
  have hD := hD0.self (sz := s.heap.size)
  generalize hAe : va_A [((ad 18), .inr (5, [.ref (ad 19), .ref (ad 20), .ref (ad 21), .ref (ad 22)])), ((ad 22), .inl (cs 0, 8001, .inl og_numbers))] s.heap.size = A at hD ⊢
  have hA : ∀ q : Nat, s.heap.size ≤ q → A q := fun q h => by rw [← hAe]; exact Or.inr h
  have hS : va_S A s.heap s.heap [] := va_S.rf
  have hl := lv_entry ([.ref (ad 18), .int p0, .int p1, .int p2]) (n := 4) (Nat.le_of_ble_eq_true rfl)
  rw [lg_entry_eq]
  generalize (lg_sl ([.ref (ad 18), .int p0, .int p1, .int p2]) ++ List.replicate (4 - (lg_sl ([.ref (ad 18), .int p0, .int p1, .int p2])).length) Slot.unset).toArray = ls at hl ⊢
  have hl : lv_has ls 4 [(0, .ref (ad 18)), (1, .int p0), (2, .int p1), (3, .int p2)] := hl
  refine lv_aload_n hx hb d_og_noteNumber_0 rfl (lv_at hl 0 rfl) ?_
  refine va_get (D := (dC, dI)) (ci := 5) (v := .ref (ad 22)) (C := R_og) (T := F_og) (N := 4) hx hb hts in_og hown hK hP 0 rfl rfl 3 (by decide) (hts _ kw_128) (fun _ h9 => h9) rfl d_og_noteNumber_1 ?_
  refine lv_iload_n hx hb d_og_noteNumber_4 rfl (lv_at hl 1 rfl) ?_
  have hPc := hP.sub (ws' := []) [] rfl
  have hDc := hD.sub (ws' := []) [] (by decide) rfl
  have hFc := va_free (wc := []) hD hS hA [] rfl
  refine va_calli (va_runSN (As := [.int p0]) (rest := [.ref (ad 22)]) ⟨hx, hb, hml, hown, hts⟩ (c_x_startOfLine l dC dI cs ad  s.heap.size p0 _ hv) ⟨va_cnB 1 hts (gd_c kw_311) rfl rfl rfl (hN _ kn_43) (hts _ kw_32) (by decide +kernel) ⟨Nat.le_of_ble_eq_true rfl, Nat.le_of_ble_eq_true rfl⟩, hts _ kw_310, trivial⟩ ⟨fun a U g mk q => by obtain ⟨q0, q1, qP, qK, qD⟩ := q; exact ⟨q0, q1, qP, qK.call, qD⟩, fun U hU hW => ⟨rfl, by rw [hU], by rw [hU]; exact hPc, vwK.warm hW ⟨hK, hN⟩, hDc.weaken (fun _ _ _ _ => trivial)⟩⟩ rfl rfl hl.1 rfl (lv_room (Nat.le_of_ble_eq_true rfl)) d_og_noteNumber_5 ⟨Nat.zero_le _, Nat.zero_le _⟩) hS (fun q _ h => hFc q h) hFc (fun r_1 _u t H1 locs1 ht hvm hw hB hz1 hk1 hS => ?_)
  obtain ⟨hP1, hD1⟩ := hB
  rw [ht] at hP1
  obtain ⟨hP, hD⟩ := va_join (wr := [((ad 18), .inr (5, [.ref (ad 19), .ref (ad 20), .ref (ad 21), .ref (ad 22)])), ((ad 22), .inl (cs 0, 8001, .inl og_numbers))]) (w1 := []) hP hD [] [0, 1] rfl rfl (by decide) (by decide) hk1 hFc hP1 hD1
  generalize H1 = H at hP hS ⊢
  generalize locs1 = locs at hS ⊢
  have hP : va_P (dC, dI) vwCl [((ad 18), .inr (5, [.ref (ad 19), .ref (ad 20), .ref (ad 21), .ref (ad 22)])), ((ad 22), .inl (cs 0, 8001, .inl og_numbers))] H := hP
  have hD : va_D A [((ad 18), .inr (5, [.ref (ad 19), .ref (ad 20), .ref (ad 21), .ref (ad 22)])), ((ad 22), .inl (cs 0, 8001, .inl og_numbers))] := hD
  have hv := hw
  try dsimp only at hv
  refine lv_iload_n hx hb d_og_noteNumber_8 rfl (lv_at hl 2 rfl) ?_
  refine lv_iadd hx hb d_og_noteNumber_9 ?_
  refine lv_iload_n hx hb d_og_noteNumber_10 rfl (lv_at hl 3 rfl) ?_
  obtain ⟨hi_2, hv⟩ := hv
  refine va_iast hx hb hK hP hD hS 1 0 rfl rfl hi_2 d_og_noteNumber_11 (fun H locs hP hD hS => ?_)
  have hP : va_P (dC, dI) vwCl [((ad 18), .inr (5, [.ref (ad 19), .ref (ad 20), .ref (ad 21), .ref (ad 22)])), ((ad 22), .inl (cs 0, 8001, .inl (upd og_numbers ((r_1 + p1)).toNatClampNeg p2)))] H := hP
  have hD : va_D A [((ad 18), .inr (5, [.ref (ad 19), .ref (ad 20), .ref (ad 21), .ref (ad 22)])), ((ad 22), .inl (cs 0, 8001, .inl (upd og_numbers ((r_1 + p1)).toNatClampNeg p2)))] := hD
  generalize eog_numbers_3 : upd og_numbers ((r_1 + p1)).toNatClampNeg p2 = og_numbers_3 at hP hD
  have hv := hv og_numbers_3 eog_numbers_3.symm
  have hP9 := hP.sub (ws' := [((ad 18), .inr (5, [.ref (ad 19), .ref (ad 20), .ref (ad 21), .ref (ad 22)])), ((ad 22), .inl (cs 0, 8001, .inl og_numbers_3))]) [0, 1] rfl
  have hD9 := hD.sub (ws' := [((ad 18), .inr (5, [.ref (ad 19), .ref (ad 20), .ref (ad 21), .ref (ad 22)])), ((ad 22), .inl (cs 0, 8001, .inl og_numbers_3))]) [0, 1] (by decide) rfl
  exact W.vret hx hb hr (fun t ht hW => ⟨⟨og_numbers_3, rfl, hv, by rw [ht]; exact hP9, hD9⟩, hS.F ht⟩) hS.2.2 d_og_noteNumber_12
abbrev b_sp_forget : ByteArray := prog_8_method_2_code
def y_sp_forget : MethodName := ⟨"SpaceBasis$Space", "forget", "()V"⟩
def w_sp_forget : List Cond := Cond.code y_sp_forget b_sp_forget 1 none :: vwWS
theorem d_sp_forget_0 : decode b_sp_forget 0 = .ok (.aload_n 0, 1) := by decide +kernel
theorem d_sp_forget_1 : decode b_sp_forget 1 = .ok (.iconst (-1), 1) := by decide +kernel
theorem d_sp_forget_2 : decode b_sp_forget 2 = .ok (.putfield 34, 3) := by decide +kernel
theorem d_sp_forget_5 : decode b_sp_forget 5 = .ok (.aload_n 0, 1) := by decide +kernel
theorem d_sp_forget_6 : decode b_sp_forget 6 = .ok (.iconst 0, 1) := by decide +kernel
theorem d_sp_forget_7 : decode b_sp_forget 7 = .ok (.putfield 46, 3) := by decide +kernel
theorem d_sp_forget_10 : decode b_sp_forget 10 = .ok (.aload_n 0, 1) := by decide +kernel
theorem d_sp_forget_11 : decode b_sp_forget 11 = .ok (.iconst 0, 1) := by decide +kernel
theorem d_sp_forget_12 : decode b_sp_forget 12 = .ok (.putfield 49, 3) := by decide +kernel
theorem d_sp_forget_15 : decode b_sp_forget 15 = .ok (.return_, 1) := by decide +kernel
/-- SpaceBasis$Space.forget()V -/
def vc_sp_forget (sp_degree : Int32) (sp_size : Int32) (sp_count : Int32) (Q : Int32 → Int32 → Int32 → Prop) : Prop :=
  Q (-1) 0 0
abbrev at_sp_forget (dC : Nat → ClassId) (dI : Nat → Nat → Nat) (cs : Nat → ClassId) (A : Nat → Prop) (ad : Nat → Nat)  (u : Int32 × Int32 × Int32) (t : State) : Prop := match u with
  | (sp_degree, sp_size, sp_count) => va_P (dC, dI) vwCl [((ad 12), .inr (4, [.ref (ad 3), .ref (ad 4), .ref (ad 18), .ref (ad 13), .ref (ad 14), .ref (ad 15), .ref (ad 16), .ref (ad 17), .int sp_degree, .int sp_size, .int sp_count]))] t.heap ∧ va_D A [((ad 12), .inr (4, [.ref (ad 3), .ref (ad 4), .ref (ad 18), .ref (ad 13), .ref (ad 14), .ref (ad 15), .ref (ad 16), .ref (ad 17), .int sp_degree, .int sp_size, .int sp_count]))]
set_option maxHeartbeats 4000000 in
set_option maxRecDepth 100000 in
theorem c_sp_forget (l : Launch) (dC : Nat → ClassId) (dI : Nat → Nat → Nat) (cs : Nat → ClassId) (ad : Nat → Nat)  (sz : Nat) (sp_degree : Int32) (sp_size : Int32) (sp_count : Int32) (Q : Int32 → Int32 → Int32 → Prop) (hv : vc_sp_forget sp_degree sp_size sp_count Q) : Met l y_sp_forget w_sp_forget ({ frames := 0, cells := 0, slots := 0, locals := 0 }) (va_Pc [.ref (ad 12)] (fun U => U.heap.size = sz ∧ va_P (dC, dI) vwCl [((ad 12), .inr (4, [.ref (ad 3), .ref (ad 4), .ref (ad 18), .ref (ad 13), .ref (ad 14), .ref (ad 15), .ref (ad 16), .ref (ad 17), .int sp_degree, .int sp_size, .int sp_count]))] U.heap ∧ vwK dC dI cs U ∧ va_D (fun _ => True) [((ad 12), .inr (4, [.ref (ad 3), .ref (ad 4), .ref (ad 18), .ref (ad 13), .ref (ad 14), .ref (ad 15), .ref (ad 16), .ref (ad 17), .int sp_degree, .int sp_size, .int sp_count]))])) (va_Qv (fun (u : Int32 × Int32 × Int32) => Q u.1 u.2.1 u.2.2) (at_sp_forget dC dI cs (va_A [((ad 12), .inr (4, [.ref (ad 3), .ref (ad 4), .ref (ad 18), .ref (ad 13), .ref (ad 14), .ref (ad 15), .ref (ad 16), .ref (ad 17), .int sp_degree, .int sp_size, .int sp_count]))] sz) ad ) (va_A [((ad 12), .inr (4, [.ref (ad 3), .ref (ad 4), .ref (ad 18), .ref (ad 13), .ref (ad 14), .ref (ad 15), .ref (ad 16), .ref (ad 17), .int sp_degree, .int sp_size, .int sp_count]))] sz)) 0 0 (va_A [((ad 12), .inr (4, [.ref (ad 3), .ref (ad 4), .ref (ad 18), .ref (ad 13), .ref (ad 14), .ref (ad 15), .ref (ad 16), .ref (ad 17), .int sp_degree, .int sp_size, .int sp_count]))] sz) := by
  unfold vc_sp_forget at hv
  refine Met.ofW (cc := b_sp_forget) (maxL := 1) (ret := none) (by decide) rfl ?_
  intro p e s m args below meth c s₁ B hml hpc
  obtain ⟨rfl, hsz, hP, ⟨hK, hN⟩, hD0⟩ := hpc
  have hx := B.exec
  have hb := B.bytes
  have hr := B.returns
  have hts : ∀ w ∈ vwWS, w.before _ s = true := fun w h => atoms_spec (ws := w_sp_forget) B.pre w (List.mem_cons_of_mem _ h)
  have hown : s.vm.findClass "SpaceBasis$Space" = some m.cls := findClass_of_methodNamed B.named
  have hlocks := B.notSynchronized
  subst hsz
  have hD := hD0.self (sz := s.heap.size)
  generalize hAe : va_A [((ad 12), .inr (4, [.ref (ad 3), .ref (ad 4), .ref (ad 18), .ref (ad 13), .ref (ad 14), .ref (ad 15), .ref (ad 16), .ref (ad 17), .int sp_degree, .int sp_size, .int sp_count]))] s.heap.size = A at hD ⊢
  have hA : ∀ q : Nat, s.heap.size ≤ q → A q := fun q h => by rw [← hAe]; exact Or.inr h
  have hS : va_S A s.heap s.heap [] := va_S.rf
  have hl := lv_entry ([.ref (ad 12)]) (n := 1) (Nat.le_of_ble_eq_true rfl)
  rw [lg_entry_eq]
  generalize (lg_sl ([.ref (ad 12)]) ++ List.replicate (1 - (lg_sl ([.ref (ad 12)])).length) Slot.unset).toArray = ls at hl ⊢
  have hl : lv_has ls 1 [(0, .ref (ad 12))] := hl
  refine lv_aload_n hx hb d_sp_forget_0 rfl (lv_at hl 0 rfl) ?_
  refine lv_iconst (v := (-1)) hx hb d_sp_forget_1 (by decide) ?_
  refine va_put (D := (dC, dI)) (ci := 4) (v := .int (-1)) (ty := .int) (C := R_sp) (T := F_sp) (N := 11) hx hb hts in_sp t_sp t_sp_ok n_sp hown hK hP hD hS 0 rfl rfl 8 (by decide) (hts _ kw_146) (fun _ h9 => h9) rfl (by decide +kernel) rfl rfl (Nat.le_of_ble_eq_true rfl) d_sp_forget_2 (fun H locs hP hD hS => ?_)
  have hP : va_P (dC, dI) vwCl [((ad 12), .inr (4, [.ref (ad 3), .ref (ad 4), .ref (ad 18), .ref (ad 13), .ref (ad 14), .ref (ad 15), .ref (ad 16), .ref (ad 17), .int (-1), .int sp_size, .int sp_count]))] H := hP
  have hD : va_D A [((ad 12), .inr (4, [.ref (ad 3), .ref (ad 4), .ref (ad 18), .ref (ad 13), .ref (ad 14), .ref (ad 15), .ref (ad 16), .ref (ad 17), .int (-1), .int sp_size, .int sp_count]))] := hD
  refine lv_aload_n hx hb d_sp_forget_5 rfl (lv_at hl 0 rfl) ?_
  refine lv_iconst (v := 0) hx hb d_sp_forget_6 (by decide) ?_
  refine va_put (D := (dC, dI)) (ci := 4) (v := .int 0) (ty := .int) (C := R_sp) (T := F_sp) (N := 11) hx hb hts in_sp t_sp t_sp_ok n_sp hown hK hP hD hS 0 rfl rfl 9 (by decide) (hts _ kw_147) (fun _ h9 => h9) rfl (by decide +kernel) rfl rfl (Nat.le_of_ble_eq_true rfl) d_sp_forget_7 (fun H locs hP hD hS => ?_)
  have hP : va_P (dC, dI) vwCl [((ad 12), .inr (4, [.ref (ad 3), .ref (ad 4), .ref (ad 18), .ref (ad 13), .ref (ad 14), .ref (ad 15), .ref (ad 16), .ref (ad 17), .int (-1), .int 0, .int sp_count]))] H := hP
  have hD : va_D A [((ad 12), .inr (4, [.ref (ad 3), .ref (ad 4), .ref (ad 18), .ref (ad 13), .ref (ad 14), .ref (ad 15), .ref (ad 16), .ref (ad 17), .int (-1), .int 0, .int sp_count]))] := hD
  refine lv_aload_n hx hb d_sp_forget_10 rfl (lv_at hl 0 rfl) ?_
  refine lv_iconst (v := 0) hx hb d_sp_forget_11 (by decide) ?_
  refine va_put (D := (dC, dI)) (ci := 4) (v := .int 0) (ty := .int) (C := R_sp) (T := F_sp) (N := 11) hx hb hts in_sp t_sp t_sp_ok n_sp hown hK hP hD hS 0 rfl rfl 10 (by decide) (hts _ kw_148) (fun _ h9 => h9) rfl (by decide +kernel) rfl rfl (Nat.le_of_ble_eq_true rfl) d_sp_forget_12 (fun H locs hP hD hS => ?_)
  have hP : va_P (dC, dI) vwCl [((ad 12), .inr (4, [.ref (ad 3), .ref (ad 4), .ref (ad 18), .ref (ad 13), .ref (ad 14), .ref (ad 15), .ref (ad 16), .ref (ad 17), .int (-1), .int 0, .int 0]))] H := hP
  have hD : va_D A [((ad 12), .inr (4, [.ref (ad 3), .ref (ad 4), .ref (ad 18), .ref (ad 13), .ref (ad 14), .ref (ad 15), .ref (ad 16), .ref (ad 17), .int (-1), .int 0, .int 0]))] := hD
  have hP9 := hP.sub (ws' := [((ad 12), .inr (4, [.ref (ad 3), .ref (ad 4), .ref (ad 18), .ref (ad 13), .ref (ad 14), .ref (ad 15), .ref (ad 16), .ref (ad 17), .int (-1), .int 0, .int 0]))]) [0] rfl
  have hD9 := hD.sub (ws' := [((ad 12), .inr (4, [.ref (ad 3), .ref (ad 4), .ref (ad 18), .ref (ad 13), .ref (ad 14), .ref (ad 15), .ref (ad 16), .ref (ad 17), .int (-1), .int 0, .int 0]))]) [0] (by decide) rfl
  exact W.vret hx hb hr (fun t ht hW => ⟨⟨((-1), 0, 0), rfl, hv, by rw [ht]; exact hP9, hD9⟩, hS.F ht⟩) hS.2.2 d_sp_forget_15
abbrev b_sp_isLead : ByteArray := prog_8_method_9_code
def y_sp_isLead : MethodName := ⟨"SpaceBasis$Space", "isLead", "(I)Z"⟩
def w_sp_isLead : List Cond := Cond.code y_sp_isLead b_sp_isLead 2 (some .boolean) :: vwWS
theorem d_sp_isLead_0 : decode b_sp_isLead 0 = .ok (.iload_n 1, 1) := by decide +kernel
theorem d_sp_isLead_1 : decode b_sp_isLead 1 = .ok (.ifCond .lt 25, 3) := by decide +kernel
theorem d_sp_isLead_4 : decode b_sp_isLead 4 = .ok (.iload_n 1, 1) := by decide +kernel
theorem d_sp_isLead_5 : decode b_sp_isLead 5 = .ok (.aload_n 0, 1) := by decide +kernel
theorem d_sp_isLead_6 : decode b_sp_isLead 6 = .ok (.getfield 46, 3) := by decide +kernel
theorem d_sp_isLead_9 : decode b_sp_isLead 9 = .ok (.if_icmp .ge 17, 3) := by decide +kernel
theorem d_sp_isLead_12 : decode b_sp_isLead 12 = .ok (.aload_n 0, 1) := by decide +kernel
theorem d_sp_isLead_13 : decode b_sp_isLead 13 = .ok (.getfield 25, 3) := by decide +kernel
theorem d_sp_isLead_16 : decode b_sp_isLead 16 = .ok (.iload_n 1, 1) := by decide +kernel
theorem d_sp_isLead_17 : decode b_sp_isLead 17 = .ok (.iaload, 1) := by decide +kernel
theorem d_sp_isLead_18 : decode b_sp_isLead 18 = .ok (.iconst (-1), 1) := by decide +kernel
theorem d_sp_isLead_19 : decode b_sp_isLead 19 = .ok (.if_icmp .eq 7, 3) := by decide +kernel
theorem d_sp_isLead_22 : decode b_sp_isLead 22 = .ok (.iconst 1, 1) := by decide +kernel
theorem d_sp_isLead_23 : decode b_sp_isLead 23 = .ok (.goto 4, 3) := by decide +kernel
theorem d_sp_isLead_26 : decode b_sp_isLead 26 = .ok (.iconst 0, 1) := by decide +kernel
theorem d_sp_isLead_27 : decode b_sp_isLead 27 = .ok (.ireturn, 1) := by decide +kernel
/-- SpaceBasis$Space.isLead(I)Z -/
def vc_sp_isLead (sp_degree : Int32) (sp_size : Int32) (sp_count : Int32) (sp_rowOfLead : Nat → Int32) (p0 : Int32) (Q : Int32 → Prop) : Prop :=
  (((p0 < 0) → (Q 0)) ∧ ((¬ (p0 < 0)) → ((((sp_size ≤ p0) → (Q 0)) ∧ ((¬ (sp_size ≤ p0)) → (vp_in p0 126 ∧ ((((sp_rowOfLead p0.toNatClampNeg) = (-1)) → (Q 0)) ∧ ((¬ ((sp_rowOfLead p0.toNatClampNeg) = (-1))) → (Q 1)))))))))
abbrev at_sp_isLead (dC : Nat → ClassId) (dI : Nat → Nat → Nat) (cs : Nat → ClassId) (A : Nat → Prop) (ad : Nat → Nat) (sp_degree : Int32) (sp_size : Int32) (sp_count : Int32) (sp_rowOfLead : Nat → Int32) (u : Unit) (t : State) : Prop := match u with
  | _ => va_P (dC, dI) vwCl [((ad 12), .inr (4, [.ref (ad 3), .ref (ad 4), .ref (ad 18), .ref (ad 13), .ref (ad 14), .ref (ad 15), .ref (ad 16), .ref (ad 17), .int sp_degree, .int sp_size, .int sp_count])), ((ad 15), .inl (cs 0, 126, .inl sp_rowOfLead))] t.heap ∧ va_D A [((ad 12), .inr (4, [.ref (ad 3), .ref (ad 4), .ref (ad 18), .ref (ad 13), .ref (ad 14), .ref (ad 15), .ref (ad 16), .ref (ad 17), .int sp_degree, .int sp_size, .int sp_count])), ((ad 15), .inl (cs 0, 126, .inl sp_rowOfLead))]
set_option maxHeartbeats 4000000 in
set_option maxRecDepth 100000 in
theorem c_sp_isLead (l : Launch) (dC : Nat → ClassId) (dI : Nat → Nat → Nat) (cs : Nat → ClassId) (ad : Nat → Nat)  (sz : Nat) (sp_degree : Int32) (sp_size : Int32) (sp_count : Int32) (sp_rowOfLead : Nat → Int32) (p0 : Int32) (Q : Int32 → Prop) (hv : vc_sp_isLead sp_degree sp_size sp_count sp_rowOfLead p0 Q) : Met l y_sp_isLead w_sp_isLead ({ frames := 0, cells := 0, slots := 0, locals := 0 }) (va_Pc [.ref (ad 12), .int p0] (fun U => U.heap.size = sz ∧ va_P (dC, dI) vwCl [((ad 12), .inr (4, [.ref (ad 3), .ref (ad 4), .ref (ad 18), .ref (ad 13), .ref (ad 14), .ref (ad 15), .ref (ad 16), .ref (ad 17), .int sp_degree, .int sp_size, .int sp_count])), ((ad 15), .inl (cs 0, 126, .inl sp_rowOfLead))] U.heap ∧ vwK dC dI cs U ∧ va_D (fun _ => True) [((ad 12), .inr (4, [.ref (ad 3), .ref (ad 4), .ref (ad 18), .ref (ad 13), .ref (ad 14), .ref (ad 15), .ref (ad 16), .ref (ad 17), .int sp_degree, .int sp_size, .int sp_count])), ((ad 15), .inl (cs 0, 126, .inl sp_rowOfLead))])) (va_Qi (fun (r : Int32) (u : Unit) => Q r) (at_sp_isLead dC dI cs (va_A [((ad 12), .inr (4, [.ref (ad 3), .ref (ad 4), .ref (ad 18), .ref (ad 13), .ref (ad 14), .ref (ad 15), .ref (ad 16), .ref (ad 17), .int sp_degree, .int sp_size, .int sp_count])), ((ad 15), .inl (cs 0, 126, .inl sp_rowOfLead))] sz) ad sp_degree sp_size sp_count sp_rowOfLead) (va_A [((ad 12), .inr (4, [.ref (ad 3), .ref (ad 4), .ref (ad 18), .ref (ad 13), .ref (ad 14), .ref (ad 15), .ref (ad 16), .ref (ad 17), .int sp_degree, .int sp_size, .int sp_count])), ((ad 15), .inl (cs 0, 126, .inl sp_rowOfLead))] sz)) 0 0 (va_A [((ad 12), .inr (4, [.ref (ad 3), .ref (ad 4), .ref (ad 18), .ref (ad 13), .ref (ad 14), .ref (ad 15), .ref (ad 16), .ref (ad 17), .int sp_degree, .int sp_size, .int sp_count])), ((ad 15), .inl (cs 0, 126, .inl sp_rowOfLead))] sz) := by
  unfold vc_sp_isLead at hv
  refine Met.ofW (cc := b_sp_isLead) (maxL := 2) (ret := (some .boolean)) (by decide) rfl ?_
  intro p e s m args below meth c s₁ B hml hpc
  obtain ⟨rfl, hsz, hP, ⟨hK, hN⟩, hD0⟩ := hpc
  have hx := B.exec
  have hb := B.bytes
  have hr := B.returns
  have hts : ∀ w ∈ vwWS, w.before _ s = true := fun w h => atoms_spec (ws := w_sp_isLead) B.pre w (List.mem_cons_of_mem _ h)
  have hown : s.vm.findClass "SpaceBasis$Space" = some m.cls := findClass_of_methodNamed B.named
  have hlocks := B.notSynchronized
  subst hsz
  have hD := hD0.self (sz := s.heap.size)
  generalize hAe : va_A [((ad 12), .inr (4, [.ref (ad 3), .ref (ad 4), .ref (ad 18), .ref (ad 13), .ref (ad 14), .ref (ad 15), .ref (ad 16), .ref (ad 17), .int sp_degree, .int sp_size, .int sp_count])), ((ad 15), .inl (cs 0, 126, .inl sp_rowOfLead))] s.heap.size = A at hD ⊢
  have hA : ∀ q : Nat, s.heap.size ≤ q → A q := fun q h => by rw [← hAe]; exact Or.inr h
  have hS : va_S A s.heap s.heap [] := va_S.rf
  have hl := lv_entry ([.ref (ad 12), .int p0]) (n := 2) (Nat.le_of_ble_eq_true rfl)
  rw [lg_entry_eq]
  generalize (lg_sl ([.ref (ad 12), .int p0]) ++ List.replicate (2 - (lg_sl ([.ref (ad 12), .int p0])).length) Slot.unset).toArray = ls at hl ⊢
  have hl : lv_has ls 2 [(0, .ref (ad 12)), (1, .int p0)] := hl
  refine lv_iload_n hx hb d_sp_isLead_0 rfl (lv_at hl 1 rfl) ?_
  refine lv_if_lt (tgt := 26) hx hb d_sp_isLead_1 (by decide) (fun c_1 => ?_) (fun c_1 => ?_)
  · have hv := hv.1 c_1
    refine lv_iconst (v := 0) hx hb d_sp_isLead_26 (by decide) ?_
    have hP9 := hP.sub (ws' := [((ad 12), .inr (4, [.ref (ad 3), .ref (ad 4), .ref (ad 18), .ref (ad 13), .ref (ad 14), .ref (ad 15), .ref (ad 16), .ref (ad 17), .int sp_degree, .int sp_size, .int sp_count])), ((ad 15), .inl (cs 0, 126, .inl sp_rowOfLead))]) [0, 1] rfl
    have hD9 := hD.sub (ws' := [((ad 12), .inr (4, [.ref (ad 3), .ref (ad 4), .ref (ad 18), .ref (ad 13), .ref (ad 14), .ref (ad 15), .ref (ad 16), .ref (ad 17), .int sp_degree, .int sp_size, .int sp_count])), ((ad 15), .inl (cs 0, 126, .inl sp_rowOfLead))]) [0, 1] (by decide) rfl
    exact W.zret (v := 0) hx hb hr rfl (fun t ht hW => ⟨⟨0, (), rfl, hv, by rw [ht]; exact hP9, hD9⟩, hS.F ht⟩) hS.2.2 d_sp_isLead_27
  · have hv := hv.2 c_1
    refine lv_iload_n hx hb d_sp_isLead_4 rfl (lv_at hl 1 rfl) ?_
    refine lv_aload_n hx hb d_sp_isLead_5 rfl (lv_at hl 0 rfl) ?_
    refine va_get (D := (dC, dI)) (ci := 4) (v := .int sp_size) (C := R_sp) (T := F_sp) (N := 11) hx hb hts in_sp hown hK hP 0 rfl rfl 9 (by decide) (hts _ kw_147) (fun _ h9 => h9) rfl d_sp_isLead_6 ?_
    refine lv_icmp_ge (tgt := 26) hx hb d_sp_isLead_9 (by decide) (fun c_2 => ?_) (fun c_2 => ?_)
    · have hv := hv.1 c_2
      refine lv_iconst (v := 0) hx hb d_sp_isLead_26 (by decide) ?_
      have hP9 := hP.sub (ws' := [((ad 12), .inr (4, [.ref (ad 3), .ref (ad 4), .ref (ad 18), .ref (ad 13), .ref (ad 14), .ref (ad 15), .ref (ad 16), .ref (ad 17), .int sp_degree, .int sp_size, .int sp_count])), ((ad 15), .inl (cs 0, 126, .inl sp_rowOfLead))]) [0, 1] rfl
      have hD9 := hD.sub (ws' := [((ad 12), .inr (4, [.ref (ad 3), .ref (ad 4), .ref (ad 18), .ref (ad 13), .ref (ad 14), .ref (ad 15), .ref (ad 16), .ref (ad 17), .int sp_degree, .int sp_size, .int sp_count])), ((ad 15), .inl (cs 0, 126, .inl sp_rowOfLead))]) [0, 1] (by decide) rfl
      exact W.zret (v := 0) hx hb hr rfl (fun t ht hW => ⟨⟨0, (), rfl, hv, by rw [ht]; exact hP9, hD9⟩, hS.F ht⟩) hS.2.2 d_sp_isLead_27
    · have hv := hv.2 c_2
      refine lv_aload_n hx hb d_sp_isLead_12 rfl (lv_at hl 0 rfl) ?_
      refine va_get (D := (dC, dI)) (ci := 4) (v := .ref (ad 15)) (C := R_sp) (T := F_sp) (N := 11) hx hb hts in_sp hown hK hP 0 rfl rfl 5 (by decide) (hts _ kw_143) (fun _ h9 => h9) rfl d_sp_isLead_13 ?_
      refine lv_iload_n hx hb d_sp_isLead_16 rfl (lv_at hl 1 rfl) ?_
      obtain ⟨hi_3, hv⟩ := hv
      refine va_iald hx hb hK hP 1 0 rfl rfl hi_3 d_sp_isLead_17 ?_
      refine lv_iconst (v := (-1)) hx hb d_sp_isLead_18 (by decide) ?_
      refine lv_icmp_eq (tgt := 26) hx hb d_sp_isLead_19 (by decide) (fun c_4 => ?_) (fun c_4 => ?_)
      · have hv := hv.1 c_4
        refine lv_iconst (v := 0) hx hb d_sp_isLead_26 (by decide) ?_
        have hP9 := hP.sub (ws' := [((ad 12), .inr (4, [.ref (ad 3), .ref (ad 4), .ref (ad 18), .ref (ad 13), .ref (ad 14), .ref (ad 15), .ref (ad 16), .ref (ad 17), .int sp_degree, .int sp_size, .int sp_count])), ((ad 15), .inl (cs 0, 126, .inl sp_rowOfLead))]) [0, 1] rfl
        have hD9 := hD.sub (ws' := [((ad 12), .inr (4, [.ref (ad 3), .ref (ad 4), .ref (ad 18), .ref (ad 13), .ref (ad 14), .ref (ad 15), .ref (ad 16), .ref (ad 17), .int sp_degree, .int sp_size, .int sp_count])), ((ad 15), .inl (cs 0, 126, .inl sp_rowOfLead))]) [0, 1] (by decide) rfl
        exact W.zret (v := 0) hx hb hr rfl (fun t ht hW => ⟨⟨0, (), rfl, hv, by rw [ht]; exact hP9, hD9⟩, hS.F ht⟩) hS.2.2 d_sp_isLead_27
      · have hv := hv.2 c_4
        refine lv_iconst (v := 1) hx hb d_sp_isLead_22 (by decide) ?_
        refine lv_goto (tgt := 27) hx hb d_sp_isLead_23 (by decide) ?_
        have hP9 := hP.sub (ws' := [((ad 12), .inr (4, [.ref (ad 3), .ref (ad 4), .ref (ad 18), .ref (ad 13), .ref (ad 14), .ref (ad 15), .ref (ad 16), .ref (ad 17), .int sp_degree, .int sp_size, .int sp_count])), ((ad 15), .inl (cs 0, 126, .inl sp_rowOfLead))]) [0, 1] rfl
        have hD9 := hD.sub (ws' := [((ad 12), .inr (4, [.ref (ad 3), .ref (ad 4), .ref (ad 18), .ref (ad 13), .ref (ad 14), .ref (ad 15), .ref (ad 16), .ref (ad 17), .int sp_degree, .int sp_size, .int sp_count])), ((ad 15), .inl (cs 0, 126, .inl sp_rowOfLead))]) [0, 1] (by decide) rfl
        exact W.zret (v := 1) hx hb hr rfl (fun t ht hW => ⟨⟨1, (), rfl, hv, by rw [ht]; exact hP9, hD9⟩, hS.F ht⟩) hS.2.2 d_sp_isLead_27
abbrev b_sp_addRow : ByteArray := prog_8_method_7_code
def y_sp_addRow : MethodName := ⟨"SpaceBasis$Space", "addRow", "([III)V"⟩
def w_sp_addRow : List Cond := Cond.code y_sp_addRow b_sp_addRow 9 none :: vwWS
theorem d_sp_addRow_0 : decode b_sp_addRow 0 = .ok (.aload_n 0, 1) := by decide +kernel
theorem d_sp_addRow_1 : decode b_sp_addRow 1 = .ok (.getfield 22, 3) := by decide +kernel
theorem d_sp_addRow_4 : decode b_sp_addRow 4 = .ok (.iload_n 2, 1) := by decide +kernel
theorem d_sp_addRow_5 : decode b_sp_addRow 5 = .ok (.iaload, 1) := by decide +kernel
theorem d_sp_addRow_6 : decode b_sp_addRow 6 = .ok (.istore 4, 2) := by decide +kernel
theorem d_sp_addRow_8 : decode b_sp_addRow 8 = .ok (.iload 4, 2) := by decide +kernel
theorem d_sp_addRow_10 : decode b_sp_addRow 10 = .ok (.invokestatic 110, 3) := by decide +kernel
theorem d_sp_addRow_13 : decode b_sp_addRow 13 = .ok (.istore 5, 2) := by decide +kernel
theorem d_sp_addRow_15 : decode b_sp_addRow 15 = .ok (.aload_n 0, 1) := by decide +kernel
theorem d_sp_addRow_16 : decode b_sp_addRow 16 = .ok (.getfield 38, 3) := by decide +kernel
theorem d_sp_addRow_19 : decode b_sp_addRow 19 = .ok (.getfield 139, 3) := by decide +kernel
theorem d_sp_addRow_22 : decode b_sp_addRow 22 = .ok (.istore 6, 2) := by decide +kernel
theorem d_sp_addRow_24 : decode b_sp_addRow 24 = .ok (.iconst 0, 1) := by decide +kernel
theorem d_sp_addRow_25 : decode b_sp_addRow 25 = .ok (.istore 7, 2) := by decide +kernel
theorem d_sp_addRow_27 : decode b_sp_addRow 27 = .ok (.iload 7, 2) := by decide +kernel
theorem d_sp_addRow_29 : decode b_sp_addRow 29 = .ok (.iload 4, 2) := by decide +kernel
theorem d_sp_addRow_31 : decode b_sp_addRow 31 = .ok (.if_icmp .gt 42, 3) := by decide +kernel
theorem d_sp_addRow_34 : decode b_sp_addRow 34 = .ok (.aload_n 0, 1) := by decide +kernel
theorem d_sp_addRow_35 : decode b_sp_addRow 35 = .ok (.getfield 18, 3) := by decide +kernel
theorem d_sp_addRow_38 : decode b_sp_addRow 38 = .ok (.iload 5, 2) := by decide +kernel
theorem d_sp_addRow_40 : decode b_sp_addRow 40 = .ok (.iload 7, 2) := by decide +kernel
theorem d_sp_addRow_42 : decode b_sp_addRow 42 = .ok (.iadd, 1) := by decide +kernel
theorem d_sp_addRow_43 : decode b_sp_addRow 43 = .ok (.iaload, 1) := by decide +kernel
theorem d_sp_addRow_44 : decode b_sp_addRow 44 = .ok (.istore 8, 2) := by decide +kernel
theorem d_sp_addRow_46 : decode b_sp_addRow 46 = .ok (.iload 8, 2) := by decide +kernel
theorem d_sp_addRow_48 : decode b_sp_addRow 48 = .ok (.ifCond .eq 19, 3) := by decide +kernel
theorem d_sp_addRow_51 : decode b_sp_addRow 51 = .ok (.aload_n 1, 1) := by decide +kernel
theorem d_sp_addRow_52 : decode b_sp_addRow 52 = .ok (.iload 7, 2) := by decide +kernel
theorem d_sp_addRow_54 : decode b_sp_addRow 54 = .ok (.aload_n 1, 1) := by decide +kernel
theorem d_sp_addRow_55 : decode b_sp_addRow 55 = .ok (.iload 7, 2) := by decide +kernel
theorem d_sp_addRow_57 : decode b_sp_addRow 57 = .ok (.iaload, 1) := by decide +kernel
theorem d_sp_addRow_58 : decode b_sp_addRow 58 = .ok (.iload_n 3, 1) := by decide +kernel
theorem d_sp_addRow_59 : decode b_sp_addRow 59 = .ok (.iload 8, 2) := by decide +kernel
theorem d_sp_addRow_61 : decode b_sp_addRow 61 = .ok (.imul, 1) := by decide +kernel
theorem d_sp_addRow_62 : decode b_sp_addRow 62 = .ok (.iadd, 1) := by decide +kernel
theorem d_sp_addRow_63 : decode b_sp_addRow 63 = .ok (.iload 6, 2) := by decide +kernel
theorem d_sp_addRow_65 : decode b_sp_addRow 65 = .ok (.irem, 1) := by decide +kernel
theorem d_sp_addRow_66 : decode b_sp_addRow 66 = .ok (.iastore, 1) := by decide +kernel
theorem d_sp_addRow_67 : decode b_sp_addRow 67 = .ok (.iinc 7 1, 3) := by decide +kernel
theorem d_sp_addRow_70 : decode b_sp_addRow 70 = .ok (.goto (-43), 3) := by decide +kernel
theorem d_sp_addRow_73 : decode b_sp_addRow 73 = .ok (.return_, 1) := by decide +kernel
/-- SpaceBasis$Space.addRow([III)V -/
def vc_sp_addRow (nA0 : Nat) (A0 : Nat → Int32) (mo_prime : Int32) (sp_degree : Int32) (sp_size : Int32) (sp_count : Int32) (sp_coefficients : Nat → Int32) (sp_leads : Nat → Int32) (p1 : Int32) (p2 : Int32) (Q : (Nat → Int32) → Prop) : Prop :=
  vp_in p1 126 ∧ ∀ x4_2 : Int32, x4_2 = (sp_leads p1.toNatClampNeg) → vc_x_startOfLine x4_2 (fun (r_3 : Int32) => ∃ (I27_6 : Int32 → (Nat → Int32) → Prop) (mu27_7 : Int32 → (Nat → Int32) → Nat), I27_6 0 A0 ∧ ∀ (x7_4 : Int32) (A0_5 : Nat → Int32), I27_6 x7_4 A0_5 → ((((x4_2 < x7_4) → (Q A0_5)) ∧ ((¬ (x4_2 < x7_4)) → (vp_in (r_3 + x7_4) 8001 ∧ ∀ x8_10 : Int32, x8_10 = (sp_coefficients ((r_3 + x7_4)).toNatClampNeg) → (((x8_10 = 0) → (∀ x7_12 : Int32, x7_12 = x7_4 + 1 → (I27_6 x7_12 A0_5 ∧ mu27_7 x7_12 A0_5 < mu27_7 x7_4 A0_5))) ∧ ((¬ (x8_10 = 0)) → (vp_in x7_4 nA0 ∧ (¬ (mo_prime : Int32) = 0) ∧ vp_in x7_4 nA0 ∧ ∀ A0_16 : Nat → Int32, A0_16 = upd A0_5 x7_4.toNatClampNeg (((A0_5 x7_4.toNatClampNeg) + (p2 * x8_10)) - ((A0_5 x7_4.toNatClampNeg) + (p2 * x8_10)) / mo_prime * mo_prime) → ∀ x7_17 : Int32, x7_17 = x7_4 + 1 → (I27_6 x7_17 A0_16 ∧ mu27_7 x7_17 A0_16 < mu27_7 x7_4 A0_5)))))))))
abbrev at_sp_addRow (dC : Nat → ClassId) (dI : Nat → Nat → Nat) (cs : Nat → ClassId) (A : Nat → Prop) (ad : Nat → Nat) (aA0 : Nat) (nA0 : Nat) (mo_prime : Int32) (sp_degree : Int32) (sp_size : Int32) (sp_count : Int32) (sp_coefficients : Nat → Int32) (sp_leads : Nat → Int32) (u : (Nat → Int32)) (t : State) : Prop := match u with
  | A0 => va_P (dC, dI) vwCl [(aA0, .inl (cs 0, nA0, .inl A0)), ((ad 3), .inr (1, [.int mo_prime])), ((ad 12), .inr (4, [.ref (ad 3), .ref (ad 4), .ref (ad 18), .ref (ad 13), .ref (ad 14), .ref (ad 15), .ref (ad 16), .ref (ad 17), .int sp_degree, .int sp_size, .int sp_count])), ((ad 13), .inl (cs 0, 8001, .inl sp_coefficients)), ((ad 14), .inl (cs 0, 126, .inl sp_leads))] t.heap ∧ va_D A [(aA0, .inl (cs 0, nA0, .inl A0)), ((ad 3), .inr (1, [.int mo_prime])), ((ad 12), .inr (4, [.ref (ad 3), .ref (ad 4), .ref (ad 18), .ref (ad 13), .ref (ad 14), .ref (ad 15), .ref (ad 16), .ref (ad 17), .int sp_degree, .int sp_size, .int sp_count])), ((ad 13), .inl (cs 0, 8001, .inl sp_coefficients)), ((ad 14), .inl (cs 0, 126, .inl sp_leads))]
set_option maxHeartbeats 4000000 in
set_option maxRecDepth 100000 in
theorem c_sp_addRow (l : Launch) (dC : Nat → ClassId) (dI : Nat → Nat → Nat) (cs : Nat → ClassId) (ad : Nat → Nat) (aA0 : Nat) (sz : Nat) (nA0 : Nat) (A0 : Nat → Int32) (mo_prime : Int32) (sp_degree : Int32) (sp_size : Int32) (sp_count : Int32) (sp_coefficients : Nat → Int32) (sp_leads : Nat → Int32) (p1 : Int32) (p2 : Int32) (Q : (Nat → Int32) → Prop) (hv : vc_sp_addRow nA0 A0 mo_prime sp_degree sp_size sp_count sp_coefficients sp_leads p1 p2 Q) : Met l y_sp_addRow w_sp_addRow ({ frames := 1, cells := 0, slots := 0, locals := 20 }) (va_Pc [.ref (ad 12), .ref aA0, .int p1, .int p2] (fun U => U.heap.size = sz ∧ va_P (dC, dI) vwCl [(aA0, .inl (cs 0, nA0, .inl A0)), ((ad 3), .inr (1, [.int mo_prime])), ((ad 12), .inr (4, [.ref (ad 3), .ref (ad 4), .ref (ad 18), .ref (ad 13), .ref (ad 14), .ref (ad 15), .ref (ad 16), .ref (ad 17), .int sp_degree, .int sp_size, .int sp_count])), ((ad 13), .inl (cs 0, 8001, .inl sp_coefficients)), ((ad 14), .inl (cs 0, 126, .inl sp_leads))] U.heap ∧ vwK dC dI cs U ∧ va_D (fun _ => True) [(aA0, .inl (cs 0, nA0, .inl A0)), ((ad 3), .inr (1, [.int mo_prime])), ((ad 12), .inr (4, [.ref (ad 3), .ref (ad 4), .ref (ad 18), .ref (ad 13), .ref (ad 14), .ref (ad 15), .ref (ad 16), .ref (ad 17), .int sp_degree, .int sp_size, .int sp_count])), ((ad 13), .inl (cs 0, 8001, .inl sp_coefficients)), ((ad 14), .inl (cs 0, 126, .inl sp_leads))])) (va_Qv (fun (u : (Nat → Int32)) => Q u) (at_sp_addRow dC dI cs (va_A [(aA0, .inl (cs 0, nA0, .inl A0)), ((ad 3), .inr (1, [.int mo_prime])), ((ad 12), .inr (4, [.ref (ad 3), .ref (ad 4), .ref (ad 18), .ref (ad 13), .ref (ad 14), .ref (ad 15), .ref (ad 16), .ref (ad 17), .int sp_degree, .int sp_size, .int sp_count])), ((ad 13), .inl (cs 0, 8001, .inl sp_coefficients)), ((ad 14), .inl (cs 0, 126, .inl sp_leads))] sz) ad aA0 nA0 mo_prime sp_degree sp_size sp_count sp_coefficients sp_leads) (va_A [(aA0, .inl (cs 0, nA0, .inl A0)), ((ad 3), .inr (1, [.int mo_prime])), ((ad 12), .inr (4, [.ref (ad 3), .ref (ad 4), .ref (ad 18), .ref (ad 13), .ref (ad 14), .ref (ad 15), .ref (ad 16), .ref (ad 17), .int sp_degree, .int sp_size, .int sp_count])), ((ad 13), .inl (cs 0, 8001, .inl sp_coefficients)), ((ad 14), .inl (cs 0, 126, .inl sp_leads))] sz)) 0 0 (va_A [(aA0, .inl (cs 0, nA0, .inl A0)), ((ad 3), .inr (1, [.int mo_prime])), ((ad 12), .inr (4, [.ref (ad 3), .ref (ad 4), .ref (ad 18), .ref (ad 13), .ref (ad 14), .ref (ad 15), .ref (ad 16), .ref (ad 17), .int sp_degree, .int sp_size, .int sp_count])), ((ad 13), .inl (cs 0, 8001, .inl sp_coefficients)), ((ad 14), .inl (cs 0, 126, .inl sp_leads))] sz) := by
  unfold vc_sp_addRow at hv
  refine Met.ofW (cc := b_sp_addRow) (maxL := 9) (ret := none) (by decide) rfl ?_
  intro p e s m args below meth c s₁ B hml hpc
  obtain ⟨rfl, hsz, hP, ⟨hK, hN⟩, hD0⟩ := hpc
  have hx := B.exec
  have hb := B.bytes
  have hr := B.returns
  have hts : ∀ w ∈ vwWS, w.before _ s = true := fun w h => atoms_spec (ws := w_sp_addRow) B.pre w (List.mem_cons_of_mem _ h)
  have hown : s.vm.findClass "SpaceBasis$Space" = some m.cls := findClass_of_methodNamed B.named
  have hlocks := B.notSynchronized
  subst hsz
  have hD := hD0.self (sz := s.heap.size)
  generalize hAe : va_A [(aA0, .inl (cs 0, nA0, .inl A0)), ((ad 3), .inr (1, [.int mo_prime])), ((ad 12), .inr (4, [.ref (ad 3), .ref (ad 4), .ref (ad 18), .ref (ad 13), .ref (ad 14), .ref (ad 15), .ref (ad 16), .ref (ad 17), .int sp_degree, .int sp_size, .int sp_count])), ((ad 13), .inl (cs 0, 8001, .inl sp_coefficients)), ((ad 14), .inl (cs 0, 126, .inl sp_leads))] s.heap.size = A at hD ⊢
  have hA : ∀ q : Nat, s.heap.size ≤ q → A q := fun q h => by rw [← hAe]; exact Or.inr h
  have hS : va_S A s.heap s.heap [] := va_S.rf
  have hl := lv_entry ([.ref (ad 12), .ref aA0, .int p1, .int p2]) (n := 9) (Nat.le_of_ble_eq_true rfl)
  rw [lg_entry_eq]
  generalize (lg_sl ([.ref (ad 12), .ref aA0, .int p1, .int p2]) ++ List.replicate (9 - (lg_sl ([.ref (ad 12), .ref aA0, .int p1, .int p2])).length) Slot.unset).toArray = ls at hl ⊢
  have hl : lv_has ls 9 [(0, .ref (ad 12)), (1, .ref aA0), (2, .int p1), (3, .int p2)] := hl
  refine lv_aload_n hx hb d_sp_addRow_0 rfl (lv_at hl 0 rfl) ?_
  refine va_get (D := (dC, dI)) (ci := 4) (v := .ref (ad 14)) (C := R_sp) (T := F_sp) (N := 11) hx hb hts in_sp hown hK hP 2 rfl rfl 4 (by decide) (hts _ kw_142) (fun _ h9 => h9) rfl d_sp_addRow_1 ?_
  refine lv_iload_n hx hb d_sp_addRow_4 rfl (lv_at hl 2 rfl) ?_
  obtain ⟨hi_1, hv⟩ := hv
  refine va_iald hx hb hK hP 4 0 rfl rfl hi_1 d_sp_addRow_5 ?_
  refine lv_topi (fun x4_2 ex4_2 => ?_)
  have hv := hv x4_2 ex4_2
  refine lv_istore (lv' := [(4, .int x4_2), (0, .ref (ad 12)), (1, .ref aA0), (2, .int p1), (3, .int p2)]) hx hb d_sp_addRow_6 hl (by decide) rfl (fun ls hl => ?_)
  refine lv_iload hx hb d_sp_addRow_8 (lv_at hl 0 rfl) ?_
  have hPc := hP.sub (ws' := []) [] rfl
  have hDc := hD.sub (ws' := []) [] (by decide) rfl
  have hFc := va_free (wc := []) hD hS hA [] rfl
  refine va_calli (va_runSN (As := [.int x4_2]) (rest := []) ⟨hx, hb, hml, hown, hts⟩ (c_x_startOfLine l dC dI cs ad  s.heap.size x4_2 _ hv) ⟨va_cnB 1 hts (gd_c kw_311) rfl rfl rfl (hN _ kn_41) (hts _ kw_32) (by decide +kernel) ⟨Nat.le_of_ble_eq_true rfl, Nat.le_of_ble_eq_true rfl⟩, hts _ kw_310, trivial⟩ ⟨fun a U g mk q => by obtain ⟨q0, q1, qP, qK, qD⟩ := q; exact ⟨q0, q1, qP, qK.call, qD⟩, fun U hU hW => ⟨rfl, by rw [hU], by rw [hU]; exact hPc, vwK.warm hW ⟨hK, hN⟩, hDc.weaken (fun _ _ _ _ => trivial)⟩⟩ rfl rfl hl.1 rfl (lv_room (Nat.le_of_ble_eq_true rfl)) d_sp_addRow_10 ⟨Nat.zero_le _, Nat.zero_le _⟩) hS (fun q _ h => hFc q h) hFc (fun r_3 _u t H1 locs1 ht hvm hw hB hz1 hk1 hS => ?_)
  obtain ⟨hP1, hD1⟩ := hB
  rw [ht] at hP1
  obtain ⟨hP, hD⟩ := va_join (wr := [(aA0, .inl (cs 0, nA0, .inl A0)), ((ad 3), .inr (1, [.int mo_prime])), ((ad 12), .inr (4, [.ref (ad 3), .ref (ad 4), .ref (ad 18), .ref (ad 13), .ref (ad 14), .ref (ad 15), .ref (ad 16), .ref (ad 17), .int sp_degree, .int sp_size, .int sp_count])), ((ad 13), .inl (cs 0, 8001, .inl sp_coefficients)), ((ad 14), .inl (cs 0, 126, .inl sp_leads))]) (w1 := []) hP hD [] [0, 1, 2, 3, 4] rfl rfl (by decide) (by decide) hk1 hFc hP1 hD1
  generalize H1 = H at hP hS ⊢
  generalize locs1 = locs at hS ⊢
  have hP : va_P (dC, dI) vwCl [(aA0, .inl (cs 0, nA0, .inl A0)), ((ad 3), .inr (1, [.int mo_prime])), ((ad 12), .inr (4, [.ref (ad 3), .ref (ad 4), .ref (ad 18), .ref (ad 13), .ref (ad 14), .ref (ad 15), .ref (ad 16), .ref (ad 17), .int sp_degree, .int sp_size, .int sp_count])), ((ad 13), .inl (cs 0, 8001, .inl sp_coefficients)), ((ad 14), .inl (cs 0, 126, .inl sp_leads))] H := hP
  have hD : va_D A [(aA0, .inl (cs 0, nA0, .inl A0)), ((ad 3), .inr (1, [.int mo_prime])), ((ad 12), .inr (4, [.ref (ad 3), .ref (ad 4), .ref (ad 18), .ref (ad 13), .ref (ad 14), .ref (ad 15), .ref (ad 16), .ref (ad 17), .int sp_degree, .int sp_size, .int sp_count])), ((ad 13), .inl (cs 0, 8001, .inl sp_coefficients)), ((ad 14), .inl (cs 0, 126, .inl sp_leads))] := hD
  have hv := hw
  try dsimp only at hv
  refine lv_istore (lv' := [(5, .int r_3), (4, .int x4_2), (0, .ref (ad 12)), (1, .ref aA0), (2, .int p1), (3, .int p2)]) hx hb d_sp_addRow_13 hl (by decide) rfl (fun ls hl => ?_)
  refine lv_aload_n hx hb d_sp_addRow_15 rfl (lv_at hl 2 rfl) ?_
  refine va_get (D := (dC, dI)) (ci := 4) (v := .ref (ad 3)) (C := R_sp) (T := F_sp) (N := 11) hx hb hts in_sp hown hK hP 2 rfl rfl 0 (by decide) (hts _ kw_138) (fun _ h9 => h9) rfl d_sp_addRow_16 ?_
  refine va_getN (D := (dC, dI)) (ci := 1) (v := .int mo_prime) (C := R_mo) (T := F_mo) (N := 1) hx hb hts in_mo hown hK hP 1 rfl rfl 0 (by decide) (va_Nw.use rfl (hN _ kn_1)) (fun _ h9 => h9) rfl d_sp_addRow_19 ?_
  refine lv_istore (lv' := [(6, .int mo_prime), (5, .int r_3), (4, .int x4_2), (0, .ref (ad 12)), (1, .ref aA0), (2, .int p1), (3, .int p2)]) hx hb d_sp_addRow_22 hl (by decide) rfl (fun ls hl => ?_)
  refine lv_iconst (v := 0) hx hb d_sp_addRow_24 (by decide) ?_
  refine lv_istore (lv' := [(7, .int 0), (6, .int mo_prime), (5, .int r_3), (4, .int x4_2), (0, .ref (ad 12)), (1, .ref aA0), (2, .int p1), (3, .int p2)]) hx hb d_sp_addRow_25 hl (by decide) rfl (fun ls hl => ?_)
  obtain ⟨I27_6, mu27_7, hi0, hv⟩ := hv
  have hP := hP.sub (ws' := [(aA0, .inl (cs 0, nA0, .inl A0)), ((ad 3), .inr (1, [.int mo_prime])), ((ad 12), .inr (4, [.ref (ad 3), .ref (ad 4), .ref (ad 18), .ref (ad 13), .ref (ad 14), .ref (ad 15), .ref (ad 16), .ref (ad 17), .int sp_degree, .int sp_size, .int sp_count])), ((ad 13), .inl (cs 0, 8001, .inl sp_coefficients)), ((ad 14), .inl (cs 0, 126, .inl sp_leads))]) [0, 1, 2, 3, 4] rfl
  have hD := hD.sub (ws' := [(aA0, .inl (cs 0, nA0, .inl A0)), ((ad 3), .inr (1, [.int mo_prime])), ((ad 12), .inr (4, [.ref (ad 3), .ref (ad 4), .ref (ad 18), .ref (ad 13), .ref (ad 14), .ref (ad 15), .ref (ad 16), .ref (ad 17), .int sp_degree, .int sp_size, .int sp_count])), ((ad 13), .inl (cs 0, 8001, .inl sp_coefficients)), ((ad 14), .inl (cs 0, 126, .inl sp_leads))]) [0, 1, 2, 3, 4] (by decide) rfl
  have hl := lv_sub (l' := [(0, .ref (ad 12)), (1, .ref aA0), (2, .int p1), (3, .int p2), (4, .int x4_2), (5, .int r_3), (6, .int mo_prime), (7, .int 0)]) hl [4, 5, 6, 7, 3, 2, 1, 0] rfl
  have loop27 : ∀ (nn : Nat) (x7_4 : Int32) (A0_5 : Nat → Int32), mu27_7 x7_4 A0_5 < nn → I27_6 x7_4 A0_5 → ∀ (H : Heap) (locs : List Loc) (ls : Array Slot), va_P (dC, dI) vwCl [(aA0, .inl (cs 0, nA0, .inl A0_5)), ((ad 3), .inr (1, [.int mo_prime])), ((ad 12), .inr (4, [.ref (ad 3), .ref (ad 4), .ref (ad 18), .ref (ad 13), .ref (ad 14), .ref (ad 15), .ref (ad 16), .ref (ad 17), .int sp_degree, .int sp_size, .int sp_count])), ((ad 13), .inl (cs 0, 8001, .inl sp_coefficients)), ((ad 14), .inl (cs 0, 126, .inl sp_leads))] H → va_D A [(aA0, .inl (cs 0, nA0, .inl A0_5)), ((ad 3), .inr (1, [.int mo_prime])), ((ad 12), .inr (4, [.ref (ad 3), .ref (ad 4), .ref (ad 18), .ref (ad 13), .ref (ad 14), .ref (ad 15), .ref (ad 16), .ref (ad 17), .int sp_degree, .int sp_size, .int sp_count])), ((ad 13), .inl (cs 0, 8001, .inl sp_coefficients)), ((ad 14), .inl (cs 0, 126, .inl sp_leads))] → va_S A s.heap H locs → lv_has ls 9 [(0, .ref (ad 12)), (1, .ref aA0), (2, .int p1), (3, .int p2), (4, .int x4_2), (5, .int r_3), (6, .int mo_prime), (7, .int x7_4)] → W p l e (headSpec w_sp_addRow { frames := 1, cells := 0, slots := 0, locals := 20 }).room s m ([.ref (ad 12), .ref aA0, .int p1, .int p2] : List Value).toArray below meth c H locs 0 0 (MQ below (va_Qv (fun (u : (Nat → Int32)) => Q u) (at_sp_addRow dC dI cs A ad aA0 nA0 mo_prime sp_degree sp_size sp_count sp_coefficients sp_leads) A) ([.ref (ad 12), .ref aA0, .int p1, .int p2] : List Value).toArray s 0 0 A) (F0 m 27 ls []) := by
    intro nn
    induction nn with
    | zero => intro x7_4 A0_5 hlt; exact absurd hlt (Nat.not_lt_zero _)
    | succ nn ih27 =>
      intro x7_4 A0_5 hlt27 hI H locs ls hP hD hS hl
      have hv := hv x7_4 A0_5 hI
      refine lv_iload hx hb d_sp_addRow_27 (lv_at hl 7 rfl) ?_
      refine lv_iload hx hb d_sp_addRow_29 (lv_at hl 4 rfl) ?_
      refine lv_icmp_gt (tgt := 73) hx hb d_sp_addRow_31 (by decide) (fun c_8 => ?_) (fun c_8 => ?_)
      · have hv := hv.1 c_8
        have hP9 := hP.sub (ws' := [(aA0, .inl (cs 0, nA0, .inl A0_5)), ((ad 3), .inr (1, [.int mo_prime])), ((ad 12), .inr (4, [.ref (ad 3), .ref (ad 4), .ref (ad 18), .ref (ad 13), .ref (ad 14), .ref (ad 15), .ref (ad 16), .ref (ad 17), .int sp_degree, .int sp_size, .int sp_count])), ((ad 13), .inl (cs 0, 8001, .inl sp_coefficients)), ((ad 14), .inl (cs 0, 126, .inl sp_leads))]) [0, 1, 2, 3, 4] rfl
        have hD9 := hD.sub (ws' := [(aA0, .inl (cs 0, nA0, .inl A0_5)), ((ad 3), .inr (1, [.int mo_prime])), ((ad 12), .inr (4, [.ref (ad 3), .ref (ad 4), .ref (ad 18), .ref (ad 13), .ref (ad 14), .ref (ad 15), .ref (ad 16), .ref (ad 17), .int sp_degree, .int sp_size, .int sp_count])), ((ad 13), .inl (cs 0, 8001, .inl sp_coefficients)), ((ad 14), .inl (cs 0, 126, .inl sp_leads))]) [0, 1, 2, 3, 4] (by decide) rfl
        exact W.vret hx hb hr (fun t ht hW => ⟨⟨A0_5, rfl, hv, by rw [ht]; exact hP9, hD9⟩, hS.F ht⟩) hS.2.2 d_sp_addRow_73
      · have hv := hv.2 c_8
        refine lv_aload_n hx hb d_sp_addRow_34 rfl (lv_at hl 0 rfl) ?_
        refine va_get (D := (dC, dI)) (ci := 4) (v := .ref (ad 13)) (C := R_sp) (T := F_sp) (N := 11) hx hb hts in_sp hown hK hP 2 rfl rfl 3 (by decide) (hts _ kw_141) (fun _ h9 => h9) rfl d_sp_addRow_35 ?_
        refine lv_iload hx hb d_sp_addRow_38 (lv_at hl 5 rfl) ?_
        refine lv_iload hx hb d_sp_addRow_40 (lv_at hl 7 rfl) ?_
        refine lv_iadd hx hb d_sp_addRow_42 ?_
        obtain ⟨hi_9, hv⟩ := hv
        refine va_iald hx hb hK hP 3 0 rfl rfl hi_9 d_sp_addRow_43 ?_
        refine lv_topi (fun x8_10 ex8_10 => ?_)
        have hv := hv x8_10 ex8_10
        refine lv_istore (lv' := [(8, .int x8_10), (0, .ref (ad 12)), (1, .ref aA0), (2, .int p1), (3, .int p2), (4, .int x4_2), (5, .int r_3), (6, .int mo_prime), (7, .int x7_4)]) hx hb d_sp_addRow_44 hl (by decide) rfl (fun ls hl => ?_)
        refine lv_iload hx hb d_sp_addRow_46 (lv_at hl 0 rfl) ?_
        refine lv_if_eq (tgt := 67) hx hb d_sp_addRow_48 (by decide) (fun c_11 => ?_) (fun c_11 => ?_)
        · have hv := hv.1 c_11
          obtain ⟨x7_12, ex7_12⟩ : ∃ y : Int32, y = x7_4 + 1 := ⟨_, rfl⟩
          have hv := hv x7_12 ex7_12
          refine lv_iinc (v := x7_12) (lv' := [(7, .int x7_12), (8, .int x8_10), (0, .ref (ad 12)), (1, .ref aA0), (2, .int p1), (3, .int p2), (4, .int x4_2), (5, .int r_3), (6, .int mo_prime)]) hx hb d_sp_addRow_67 hl (k := 8) rfl (by rw [ex7_12]; rfl) (by decide) rfl (fun ls hl => ?_)
          refine lv_goto (tgt := 27) hx hb d_sp_addRow_70 (by decide) ?_
          exact ih27 x7_12 A0_5 (Nat.lt_of_lt_of_le hv.2 (Nat.le_of_lt_succ hlt27)) hv.1 _ _ _ (hP.sub [0, 1, 2, 3, 4] rfl) (hD.sub [0, 1, 2, 3, 4] (by decide) rfl) hS (lv_sub hl [2, 3, 4, 5, 6, 7, 8, 0] rfl)
        · have hv := hv.2 c_11
          refine lv_aload_n hx hb d_sp_addRow_51 rfl (lv_at hl 2 rfl) ?_
          refine lv_iload hx hb d_sp_addRow_52 (lv_at hl 8 rfl) ?_
          refine lv_aload_n hx hb d_sp_addRow_54 rfl (lv_at hl 2 rfl) ?_
          refine lv_iload hx hb d_sp_addRow_55 (lv_at hl 8 rfl) ?_
          obtain ⟨hi_13, hv⟩ := hv
          refine va_iald hx hb hK hP 0 0 rfl rfl hi_13 d_sp_addRow_57 ?_
          refine lv_iload_n hx hb d_sp_addRow_58 rfl (lv_at hl 4 rfl) ?_
          refine lv_iload hx hb d_sp_addRow_59 (lv_at hl 0 rfl) ?_
          refine lv_imul hx hb d_sp_addRow_61 ?_
          refine lv_iadd hx hb d_sp_addRow_62 ?_
          refine lv_iload hx hb d_sp_addRow_63 (lv_at hl 7 rfl) ?_
          obtain ⟨hz_14, hv⟩ := hv
          refine lv_irem hx hb d_sp_addRow_65 hz_14 ?_
          obtain ⟨hi_15, hv⟩ := hv
          refine va_iast hx hb hK hP hD hS 0 0 rfl rfl hi_15 d_sp_addRow_66 (fun H locs hP hD hS => ?_)
          have hP : va_P (dC, dI) vwCl [(aA0, .inl (cs 0, nA0, .inl (upd A0_5 x7_4.toNatClampNeg (((A0_5 x7_4.toNatClampNeg) + (p2 * x8_10)) - ((A0_5 x7_4.toNatClampNeg) + (p2 * x8_10)) / mo_prime * mo_prime)))), ((ad 3), .inr (1, [.int mo_prime])), ((ad 12), .inr (4, [.ref (ad 3), .ref (ad 4), .ref (ad 18), .ref (ad 13), .ref (ad 14), .ref (ad 15), .ref (ad 16), .ref (ad 17), .int sp_degree, .int sp_size, .int sp_count])), ((ad 13), .inl (cs 0, 8001, .inl sp_coefficients)), ((ad 14), .inl (cs 0, 126, .inl sp_leads))] H := hP
          have hD : va_D A [(aA0, .inl (cs 0, nA0, .inl (upd A0_5 x7_4.toNatClampNeg (((A0_5 x7_4.toNatClampNeg) + (p2 * x8_10)) - ((A0_5 x7_4.toNatClampNeg) + (p2 * x8_10)) / mo_prime * mo_prime)))), ((ad 3), .inr (1, [.int mo_prime])), ((ad 12), .inr (4, [.ref (ad 3), .ref (ad 4), .ref (ad 18), .ref (ad 13), .ref (ad 14), .ref (ad 15), .ref (ad 16), .ref (ad 17), .int sp_degree, .int sp_size, .int sp_count])), ((ad 13), .inl (cs 0, 8001, .inl sp_coefficients)), ((ad 14), .inl (cs 0, 126, .inl sp_leads))] := hD
          generalize eA0_16 : upd A0_5 x7_4.toNatClampNeg (((A0_5 x7_4.toNatClampNeg) + (p2 * x8_10)) - ((A0_5 x7_4.toNatClampNeg) + (p2 * x8_10)) / mo_prime * mo_prime) = A0_16 at hP hD
          have hv := hv A0_16 eA0_16.symm
          obtain ⟨x7_17, ex7_17⟩ : ∃ y : Int32, y = x7_4 + 1 := ⟨_, rfl⟩
          have hv := hv x7_17 ex7_17
          refine lv_iinc (v := x7_17) (lv' := [(7, .int x7_17), (8, .int x8_10), (0, .ref (ad 12)), (1, .ref aA0), (2, .int p1), (3, .int p2), (4, .int x4_2), (5, .int r_3), (6, .int mo_prime)]) hx hb d_sp_addRow_67 hl (k := 8) rfl (by rw [ex7_17]; rfl) (by decide) rfl (fun ls hl => ?_)
          refine lv_goto (tgt := 27) hx hb d_sp_addRow_70 (by decide) ?_
          exact ih27 x7_17 A0_16 (Nat.lt_of_lt_of_le hv.2 (Nat.le_of_lt_succ hlt27)) hv.1 _ _ _ (hP.sub [0, 1, 2, 3, 4] rfl) (hD.sub [0, 1, 2, 3, 4] (by decide) rfl) hS (lv_sub hl [2, 3, 4, 5, 6, 7, 8, 0] rfl)
  exact loop27 _ 0 A0 (Nat.lt_succ_self _) hi0 _ _ _ hP hD hS hl
abbrev b_sp_reduce : ByteArray := prog_8_method_6_code
def y_sp_reduce : MethodName := ⟨"SpaceBasis$Space", "reduce", "([II)V"⟩
def w_sp_reduce : List Cond := Cond.code y_sp_reduce b_sp_reduce 5 none :: vwWS
theorem d_sp_reduce_0 : decode b_sp_reduce 0 = .ok (.aload_n 0, 1) := by decide +kernel
theorem d_sp_reduce_1 : decode b_sp_reduce 1 = .ok (.getfield 28, 3) := by decide +kernel
theorem d_sp_reduce_4 : decode b_sp_reduce 4 = .ok (.iconst 0, 1) := by decide +kernel
theorem d_sp_reduce_5 : decode b_sp_reduce 5 = .ok (.invokestatic 57, 3) := by decide +kernel
theorem d_sp_reduce_8 : decode b_sp_reduce 8 = .ok (.iload_n 2, 1) := by decide +kernel
theorem d_sp_reduce_9 : decode b_sp_reduce 9 = .ok (.istore_n 3, 1) := by decide +kernel
theorem d_sp_reduce_10 : decode b_sp_reduce 10 = .ok (.iload_n 3, 1) := by decide +kernel
theorem d_sp_reduce_11 : decode b_sp_reduce 11 = .ok (.ifCond .lt 60, 3) := by decide +kernel
theorem d_sp_reduce_14 : decode b_sp_reduce 14 = .ok (.aload_n 1, 1) := by decide +kernel
theorem d_sp_reduce_15 : decode b_sp_reduce 15 = .ok (.iload_n 3, 1) := by decide +kernel
theorem d_sp_reduce_16 : decode b_sp_reduce 16 = .ok (.iaload, 1) := by decide +kernel
theorem d_sp_reduce_17 : decode b_sp_reduce 17 = .ok (.istore 4, 2) := by decide +kernel
theorem d_sp_reduce_19 : decode b_sp_reduce 19 = .ok (.iload 4, 2) := by decide +kernel
theorem d_sp_reduce_21 : decode b_sp_reduce 21 = .ok (.ifCond .eq 44, 3) := by decide +kernel
theorem d_sp_reduce_24 : decode b_sp_reduce 24 = .ok (.aload_n 0, 1) := by decide +kernel
theorem d_sp_reduce_25 : decode b_sp_reduce 25 = .ok (.iload_n 3, 1) := by decide +kernel
theorem d_sp_reduce_26 : decode b_sp_reduce 26 = .ok (.invokevirtual 131, 3) := by decide +kernel
theorem d_sp_reduce_29 : decode b_sp_reduce 29 = .ok (.ifCond .eq 36, 3) := by decide +kernel
theorem d_sp_reduce_32 : decode b_sp_reduce 32 = .ok (.aload_n 0, 1) := by decide +kernel
theorem d_sp_reduce_33 : decode b_sp_reduce 33 = .ok (.getfield 28, 3) := by decide +kernel
theorem d_sp_reduce_36 : decode b_sp_reduce 36 = .ok (.aload_n 0, 1) := by decide +kernel
theorem d_sp_reduce_37 : decode b_sp_reduce 37 = .ok (.getfield 25, 3) := by decide +kernel
theorem d_sp_reduce_40 : decode b_sp_reduce 40 = .ok (.iload_n 3, 1) := by decide +kernel
theorem d_sp_reduce_41 : decode b_sp_reduce 41 = .ok (.iaload, 1) := by decide +kernel
theorem d_sp_reduce_42 : decode b_sp_reduce 42 = .ok (.iload 4, 2) := by decide +kernel
theorem d_sp_reduce_44 : decode b_sp_reduce 44 = .ok (.iastore, 1) := by decide +kernel
theorem d_sp_reduce_45 : decode b_sp_reduce 45 = .ok (.aload_n 0, 1) := by decide +kernel
theorem d_sp_reduce_46 : decode b_sp_reduce 46 = .ok (.aload_n 1, 1) := by decide +kernel
theorem d_sp_reduce_47 : decode b_sp_reduce 47 = .ok (.aload_n 0, 1) := by decide +kernel
theorem d_sp_reduce_48 : decode b_sp_reduce 48 = .ok (.getfield 25, 3) := by decide +kernel
theorem d_sp_reduce_51 : decode b_sp_reduce 51 = .ok (.iload_n 3, 1) := by decide +kernel
theorem d_sp_reduce_52 : decode b_sp_reduce 52 = .ok (.iaload, 1) := by decide +kernel
theorem d_sp_reduce_53 : decode b_sp_reduce 53 = .ok (.aload_n 0, 1) := by decide +kernel
theorem d_sp_reduce_54 : decode b_sp_reduce 54 = .ok (.getfield 38, 3) := by decide +kernel
theorem d_sp_reduce_57 : decode b_sp_reduce 57 = .ok (.iload 4, 2) := by decide +kernel
theorem d_sp_reduce_59 : decode b_sp_reduce 59 = .ok (.invokevirtual 125, 3) := by decide +kernel
theorem d_sp_reduce_62 : decode b_sp_reduce 62 = .ok (.invokevirtual 135, 3) := by decide +kernel
theorem d_sp_reduce_65 : decode b_sp_reduce 65 = .ok (.iinc 3 (-1), 3) := by decide +kernel
theorem d_sp_reduce_68 : decode b_sp_reduce 68 = .ok (.goto (-58), 3) := by decide +kernel
theorem d_sp_reduce_71 : decode b_sp_reduce 71 = .ok (.return_, 1) := by decide +kernel
/-- SpaceBasis$Space.reduce([II)V -/
def vc_sp_reduce (nA0 : Nat) (A0 : Nat → Int32) (mo_prime : Int32) (sp_degree : Int32) (sp_size : Int32) (sp_count : Int32) (sp_coefficients : Nat → Int32) (sp_leads : Nat → Int32) (sp_rowOfLead : Nat → Int32) (sp_taken : Nat → Int32) (p1 : Int32) (Q : (Nat → Int32) → (Nat → Int32) → Prop) : Prop :=
  vc_Ar_fill 126 sp_taken 0 (fun (sp_taken_1 : Nat → Int32) => ∃ (I10_5 : Int32 → (Nat → Int32) → (Nat → Int32) → Prop) (mu10_6 : Int32 → (Nat → Int32) → (Nat → Int32) → Nat), I10_5 p1 A0 sp_taken_1 ∧ ∀ (x3_2 : Int32) (A0_3 : Nat → Int32) (sp_taken_4 : Nat → Int32), I10_5 x3_2 A0_3 sp_taken_4 → ((((x3_2 < 0) → (Q A0_3 sp_taken_4)) ∧ ((¬ (x3_2 < 0)) → (vp_in x3_2 nA0 ∧ ∀ x4_9 : Int32, x4_9 = (A0_3 x3_2.toNatClampNeg) → (((x4_9 = 0) → (∀ x3_11 : Int32, x3_11 = x3_2 + (-1) → (I10_5 x3_11 A0_3 sp_taken_4 ∧ mu10_6 x3_11 A0_3 sp_taken_4 < mu10_6 x3_2 A0_3 sp_taken_4))) ∧ ((¬ (x4_9 = 0)) → (vc_sp_isLead sp_degree sp_size sp_count sp_rowOfLead x3_2 (fun (r_12 : Int32) => (((r_12 = 0) → (∀ x3_14 : Int32, x3_14 = x3_2 + (-1) → (I10_5 x3_14 A0_3 sp_taken_4 ∧ mu10_6 x3_14 A0_3 sp_taken_4 < mu10_6 x3_2 A0_3 sp_taken_4))) ∧ ((¬ (r_12 = 0)) → (vp_in x3_2 126 ∧ vp_in (sp_rowOfLead x3_2.toNatClampNeg) 126 ∧ ∀ sp_taken_17 : Nat → Int32, sp_taken_17 = upd sp_taken_4 ((sp_rowOfLead x3_2.toNatClampNeg)).toNatClampNeg x4_9 → vp_in x3_2 126 ∧ vc_mo_opposite mo_prime x4_9 (fun (r_19 : Int32) => vc_sp_addRow nA0 A0_3 mo_prime sp_degree sp_size sp_count sp_coefficients sp_leads (sp_rowOfLead x3_2.toNatClampNeg) r_19 (fun (A0_20 : Nat → Int32) => ∀ x3_21 : Int32, x3_21 = x3_2 + (-1) → (I10_5 x3_21 A0_20 sp_taken_17 ∧ mu10_6 x3_21 A0_20 sp_taken_17 < mu10_6 x3_2 A0_3 sp_taken_4)))))))))))))))
abbrev at_sp_reduce (dC : Nat → ClassId) (dI : Nat → Nat → Nat) (cs : Nat → ClassId) (A : Nat → Prop) (ad : Nat → Nat) (aA0 : Nat) (nA0 : Nat) (mo_prime : Int32) (sp_degree : Int32) (sp_size : Int32) (sp_count : Int32) (sp_coefficients : Nat → Int32) (sp_leads : Nat → Int32) (sp_rowOfLead : Nat → Int32) (u : (Nat → Int32) × (Nat → Int32)) (t : State) : Prop := match u with
  | (A0, sp_taken) => va_P (dC, dI) vwCl [(aA0, .inl (cs 0, nA0, .inl A0)), ((ad 3), .inr (1, [.int mo_prime])), ((ad 12), .inr (4, [.ref (ad 3), .ref (ad 4), .ref (ad 18), .ref (ad 13), .ref (ad 14), .ref (ad 15), .ref (ad 16), .ref (ad 17), .int sp_degree, .int sp_size, .int sp_count])), ((ad 13), .inl (cs 0, 8001, .inl sp_coefficients)), ((ad 14), .inl (cs 0, 126, .inl sp_leads)), ((ad 15), .inl (cs 0, 126, .inl sp_rowOfLead)), ((ad 16), .inl (cs 0, 126, .inl sp_taken))] t.heap ∧ va_D A [(aA0, .inl (cs 0, nA0, .inl A0)), ((ad 3), .inr (1, [.int mo_prime])), ((ad 12), .inr (4, [.ref (ad 3), .ref (ad 4), .ref (ad 18), .ref (ad 13), .ref (ad 14), .ref (ad 15), .ref (ad 16), .ref (ad 17), .int sp_degree, .int sp_size, .int sp_count])), ((ad 13), .inl (cs 0, 8001, .inl sp_coefficients)), ((ad 14), .inl (cs 0, 126, .inl sp_leads)), ((ad 15), .inl (cs 0, 126, .inl sp_rowOfLead)), ((ad 16), .inl (cs 0, 126, .inl sp_taken))]
set_option maxHeartbeats 4000000 in
set_option maxRecDepth 100000 in
theorem c_sp_reduce (l : Launch) (dC : Nat → ClassId) (dI : Nat → Nat → Nat) (cs : Nat → ClassId) (ad : Nat → Nat) (aA0 : Nat) (sz : Nat) (nA0 : Nat) (A0 : Nat → Int32) (mo_prime : Int32) (sp_degree : Int32) (sp_size : Int32) (sp_count : Int32) (sp_coefficients : Nat → Int32) (sp_leads : Nat → Int32) (sp_rowOfLead : Nat → Int32) (sp_taken : Nat → Int32) (p1 : Int32) (Q : (Nat → Int32) → (Nat → Int32) → Prop) (hv : vc_sp_reduce nA0 A0 mo_prime sp_degree sp_size sp_count sp_coefficients sp_leads sp_rowOfLead sp_taken p1 Q) : Met l y_sp_reduce w_sp_reduce ({ frames := 2, cells := 0, slots := 0, locals := 48 }) (va_Pc [.ref (ad 12), .ref aA0, .int p1] (fun U => U.heap.size = sz ∧ va_P (dC, dI) vwCl [(aA0, .inl (cs 0, nA0, .inl A0)), ((ad 3), .inr (1, [.int mo_prime])), ((ad 12), .inr (4, [.ref (ad 3), .ref (ad 4), .ref (ad 18), .ref (ad 13), .ref (ad 14), .ref (ad 15), .ref (ad 16), .ref (ad 17), .int sp_degree, .int sp_size, .int sp_count])), ((ad 13), .inl (cs 0, 8001, .inl sp_coefficients)), ((ad 14), .inl (cs 0, 126, .inl sp_leads)), ((ad 15), .inl (cs 0, 126, .inl sp_rowOfLead)), ((ad 16), .inl (cs 0, 126, .inl sp_taken))] U.heap ∧ vwK dC dI cs U ∧ va_D (fun _ => True) [(aA0, .inl (cs 0, nA0, .inl A0)), ((ad 3), .inr (1, [.int mo_prime])), ((ad 12), .inr (4, [.ref (ad 3), .ref (ad 4), .ref (ad 18), .ref (ad 13), .ref (ad 14), .ref (ad 15), .ref (ad 16), .ref (ad 17), .int sp_degree, .int sp_size, .int sp_count])), ((ad 13), .inl (cs 0, 8001, .inl sp_coefficients)), ((ad 14), .inl (cs 0, 126, .inl sp_leads)), ((ad 15), .inl (cs 0, 126, .inl sp_rowOfLead)), ((ad 16), .inl (cs 0, 126, .inl sp_taken))])) (va_Qv (fun (u : (Nat → Int32) × (Nat → Int32)) => Q u.1 u.2) (at_sp_reduce dC dI cs (va_A [(aA0, .inl (cs 0, nA0, .inl A0)), ((ad 3), .inr (1, [.int mo_prime])), ((ad 12), .inr (4, [.ref (ad 3), .ref (ad 4), .ref (ad 18), .ref (ad 13), .ref (ad 14), .ref (ad 15), .ref (ad 16), .ref (ad 17), .int sp_degree, .int sp_size, .int sp_count])), ((ad 13), .inl (cs 0, 8001, .inl sp_coefficients)), ((ad 14), .inl (cs 0, 126, .inl sp_leads)), ((ad 15), .inl (cs 0, 126, .inl sp_rowOfLead)), ((ad 16), .inl (cs 0, 126, .inl sp_taken))] sz) ad aA0 nA0 mo_prime sp_degree sp_size sp_count sp_coefficients sp_leads sp_rowOfLead) (va_A [(aA0, .inl (cs 0, nA0, .inl A0)), ((ad 3), .inr (1, [.int mo_prime])), ((ad 12), .inr (4, [.ref (ad 3), .ref (ad 4), .ref (ad 18), .ref (ad 13), .ref (ad 14), .ref (ad 15), .ref (ad 16), .ref (ad 17), .int sp_degree, .int sp_size, .int sp_count])), ((ad 13), .inl (cs 0, 8001, .inl sp_coefficients)), ((ad 14), .inl (cs 0, 126, .inl sp_leads)), ((ad 15), .inl (cs 0, 126, .inl sp_rowOfLead)), ((ad 16), .inl (cs 0, 126, .inl sp_taken))] sz)) 0 0 (va_A [(aA0, .inl (cs 0, nA0, .inl A0)), ((ad 3), .inr (1, [.int mo_prime])), ((ad 12), .inr (4, [.ref (ad 3), .ref (ad 4), .ref (ad 18), .ref (ad 13), .ref (ad 14), .ref (ad 15), .ref (ad 16), .ref (ad 17), .int sp_degree, .int sp_size, .int sp_count])), ((ad 13), .inl (cs 0, 8001, .inl sp_coefficients)), ((ad 14), .inl (cs 0, 126, .inl sp_leads)), ((ad 15), .inl (cs 0, 126, .inl sp_rowOfLead)), ((ad 16), .inl (cs 0, 126, .inl sp_taken))] sz) := by
  unfold vc_sp_reduce at hv
  refine Met.ofW (cc := b_sp_reduce) (maxL := 5) (ret := none) (by decide) rfl ?_
  intro p e s m args below meth c s₁ B hml hpc
  obtain ⟨rfl, hsz, hP, ⟨hK, hN⟩, hD0⟩ := hpc
  have hx := B.exec
  have hb := B.bytes
  have hr := B.returns
  have hts : ∀ w ∈ vwWS, w.before _ s = true := fun w h => atoms_spec (ws := w_sp_reduce) B.pre w (List.mem_cons_of_mem _ h)
  have hown : s.vm.findClass "SpaceBasis$Space" = some m.cls := findClass_of_methodNamed B.named
  have hlocks := B.notSynchronized
  subst hsz
  have hD := hD0.self (sz := s.heap.size)
  generalize hAe : va_A [(aA0, .inl (cs 0, nA0, .inl A0)), ((ad 3), .inr (1, [.int mo_prime])), ((ad 12), .inr (4, [.ref (ad 3), .ref (ad 4), .ref (ad 18), .ref (ad 13), .ref (ad 14), .ref (ad 15), .ref (ad 16), .ref (ad 17), .int sp_degree, .int sp_size, .int sp_count])), ((ad 13), .inl (cs 0, 8001, .inl sp_coefficients)), ((ad 14), .inl (cs 0, 126, .inl sp_leads)), ((ad 15), .inl (cs 0, 126, .inl sp_rowOfLead)), ((ad 16), .inl (cs 0, 126, .inl sp_taken))] s.heap.size = A at hD ⊢
  have hA : ∀ q : Nat, s.heap.size ≤ q → A q := fun q h => by rw [← hAe]; exact Or.inr h
  have hS : va_S A s.heap s.heap [] := va_S.rf
  have hl := lv_entry ([.ref (ad 12), .ref aA0, .int p1]) (n := 5) (Nat.le_of_ble_eq_true rfl)
  rw [lg_entry_eq]
  generalize (lg_sl ([.ref (ad 12), .ref aA0, .int p1]) ++ List.replicate (5 - (lg_sl ([.ref (ad 12), .ref aA0, .int p1])).length) Slot.unset).toArray = ls at hl ⊢
  have hl : lv_has ls 5 [(0, .ref (ad 12)), (1, .ref aA0), (2, .int p1)] := hl
  refine lv_aload_n hx hb d_sp_reduce_0 rfl (lv_at hl 0 rfl) ?_
  refine va_get (D := (dC, dI)) (ci := 4) (v := .ref (ad 16)) (C := R_sp) (T := F_sp) (N := 11) hx hb hts in_sp hown hK hP 2 rfl rfl 6 (by decide) (hts _ kw_144) (fun _ h9 => h9) rfl d_sp_reduce_1 ?_
  refine lv_iconst (v := 0) hx hb d_sp_reduce_4 (by decide) ?_
  have hPc := hP.sub (ws' := [((ad 16), .inl (cs 0, 126, .inl sp_taken))]) [6] rfl
  have hDc := hD.sub (ws' := [((ad 16), .inl (cs 0, 126, .inl sp_taken))]) [6] (by decide) rfl
  have hFc := va_free (wc := [((ad 16), .inl (cs 0, 126, .inl sp_taken))]) hD hS hA [6] rfl
  refine va_callv (va_runS (As := [.ref (ad 16), .int 0]) (rest := []) ⟨hx, hb, hml, hown, hts⟩ (c_Ar_fill l dC dI cs ad (ad 16) s.heap.size 126 sp_taken 0 _ hv) (va_cwS 2 hts (gd_S kw_479 kw_252 kw_40 kw_253) rfl rfl rfl (by decide +kernel) ⟨Nat.le_of_ble_eq_true rfl, Nat.le_of_ble_eq_true rfl⟩) ⟨fun a U g mk q => by obtain ⟨q0, q1, qP, qK, qD⟩ := q; exact ⟨q0, q1, qP, qK.call, qD⟩, fun U hU hW => ⟨rfl, by rw [hU], by rw [hU]; exact hPc, vwK.warm hW ⟨hK, hN⟩, hDc.weaken (fun _ _ _ _ => trivial)⟩⟩ rfl rfl hl.1 rfl (lv_room (Nat.le_of_ble_eq_true rfl)) d_sp_reduce_5 ⟨Nat.zero_le _, Nat.zero_le _⟩) hS (fun q _ h => hFc q h) hFc (fun sp_taken_1 t H1 locs1 ht hvm hw hB hz1 hk1 hS => ?_)
  obtain ⟨hP1, hD1⟩ := hB
  rw [ht] at hP1
  obtain ⟨hP, hD⟩ := va_join (wr := [(aA0, .inl (cs 0, nA0, .inl A0)), ((ad 3), .inr (1, [.int mo_prime])), ((ad 12), .inr (4, [.ref (ad 3), .ref (ad 4), .ref (ad 18), .ref (ad 13), .ref (ad 14), .ref (ad 15), .ref (ad 16), .ref (ad 17), .int sp_degree, .int sp_size, .int sp_count])), ((ad 13), .inl (cs 0, 8001, .inl sp_coefficients)), ((ad 14), .inl (cs 0, 126, .inl sp_leads)), ((ad 15), .inl (cs 0, 126, .inl sp_rowOfLead))]) (w1 := [((ad 16), .inl (cs 0, 126, .inl sp_taken_1))]) hP hD [6] [0, 1, 2, 3, 4, 5] rfl rfl (by decide) (by decide) hk1 hFc hP1 hD1
  generalize H1 = H at hP hS ⊢
  generalize locs1 = locs at hS ⊢
  have hP : va_P (dC, dI) vwCl [(aA0, .inl (cs 0, nA0, .inl A0)), ((ad 3), .inr (1, [.int mo_prime])), ((ad 12), .inr (4, [.ref (ad 3), .ref (ad 4), .ref (ad 18), .ref (ad 13), .ref (ad 14), .ref (ad 15), .ref (ad 16), .ref (ad 17), .int sp_degree, .int sp_size, .int sp_count])), ((ad 13), .inl (cs 0, 8001, .inl sp_coefficients)), ((ad 14), .inl (cs 0, 126, .inl sp_leads)), ((ad 15), .inl (cs 0, 126, .inl sp_rowOfLead)), ((ad 16), .inl (cs 0, 126, .inl sp_taken_1))] H := hP
  have hD : va_D A [(aA0, .inl (cs 0, nA0, .inl A0)), ((ad 3), .inr (1, [.int mo_prime])), ((ad 12), .inr (4, [.ref (ad 3), .ref (ad 4), .ref (ad 18), .ref (ad 13), .ref (ad 14), .ref (ad 15), .ref (ad 16), .ref (ad 17), .int sp_degree, .int sp_size, .int sp_count])), ((ad 13), .inl (cs 0, 8001, .inl sp_coefficients)), ((ad 14), .inl (cs 0, 126, .inl sp_leads)), ((ad 15), .inl (cs 0, 126, .inl sp_rowOfLead)), ((ad 16), .inl (cs 0, 126, .inl sp_taken_1))] := hD
  have hv := hw
  try dsimp only at hv
  refine lv_iload_n hx hb d_sp_reduce_8 rfl (lv_at hl 2 rfl) ?_
  refine lv_istore_n (lv' := [(3, .int p1), (0, .ref (ad 12)), (1, .ref aA0), (2, .int p1)]) hx hb d_sp_reduce_9 rfl hl (by decide) rfl (fun ls hl => ?_)
  obtain ⟨I10_5, mu10_6, hi0, hv⟩ := hv
  have hP := hP.sub (ws' := [(aA0, .inl (cs 0, nA0, .inl A0)), ((ad 3), .inr (1, [.int mo_prime])), ((ad 12), .inr (4, [.ref (ad 3), .ref (ad 4), .ref (ad 18), .ref (ad 13), .ref (ad 14), .ref (ad 15), .ref (ad 16), .ref (ad 17), .int sp_degree, .int sp_size, .int sp_count])), ((ad 13), .inl (cs 0, 8001, .inl sp_coefficients)), ((ad 14), .inl (cs 0, 126, .inl sp_leads)), ((ad 15), .inl (cs 0, 126, .inl sp_rowOfLead)), ((ad 16), .inl (cs 0, 126, .inl sp_taken_1))]) [0, 1, 2, 3, 4, 5, 6] rfl
  have hD := hD.sub (ws' := [(aA0, .inl (cs 0, nA0, .inl A0)), ((ad 3), .inr (1, [.int mo_prime])), ((ad 12), .inr (4, [.ref (ad 3), .ref (ad 4), .ref (ad 18), .ref (ad 13), .ref (ad 14), .ref (ad 15), .ref (ad 16), .ref (ad 17), .int sp_degree, .int sp_size, .int sp_count])), ((ad 13), .inl (cs 0, 8001, .inl sp_coefficients)), ((ad 14), .inl (cs 0, 126, .inl sp_leads)), ((ad 15), .inl (cs 0, 126, .inl sp_rowOfLead)), ((ad 16), .inl (cs 0, 126, .inl sp_taken_1))]) [0, 1, 2, 3, 4, 5, 6] (by decide) rfl
  have hl := lv_sub (l' := [(0, .ref (ad 12)), (1, .ref aA0), (2, .int p1), (3, .int p1)]) hl [1, 2, 3, 0] rfl
  have loop10 : ∀ (nn : Nat) (x3_2 : Int32) (A0_3 : Nat → Int32) (sp_taken_4 : Nat → Int32), mu10_6 x3_2 A0_3 sp_taken_4 < nn → I10_5 x3_2 A0_3 sp_taken_4 → ∀ (H : Heap) (locs : List Loc) (ls : Array Slot), va_P (dC, dI) vwCl [(aA0, .inl (cs 0, nA0, .inl A0_3)), ((ad 3), .inr (1, [.int mo_prime])), ((ad 12), .inr (4, [.ref (ad 3), .ref (ad 4), .ref (ad 18), .ref (ad 13), .ref (ad 14), .ref (ad 15), .ref (ad 16), .ref (ad 17), .int sp_degree, .int sp_size, .int sp_count])), ((ad 13), .inl (cs 0, 8001, .inl sp_coefficients)), ((ad 14), .inl (cs 0, 126, .inl sp_leads)), ((ad 15), .inl (cs 0, 126, .inl sp_rowOfLead)), ((ad 16), .inl (cs 0, 126, .inl sp_taken_4))] H → va_D A [(aA0, .inl (cs 0, nA0, .inl A0_3)), ((ad 3), .inr (1, [.int mo_prime])), ((ad 12), .inr (4, [.ref (ad 3), .ref (ad 4), .ref (ad 18), .ref (ad 13), .ref (ad 14), .ref (ad 15), .ref (ad 16), .ref (ad 17), .int sp_degree, .int sp_size, .int sp_count])), ((ad 13), .inl (cs 0, 8001, .inl sp_coefficients)), ((ad 14), .inl (cs 0, 126, .inl sp_leads)), ((ad 15), .inl (cs 0, 126, .inl sp_rowOfLead)), ((ad 16), .inl (cs 0, 126, .inl sp_taken_4))] → va_S A s.heap H locs → lv_has ls 5 [(0, .ref (ad 12)), (1, .ref aA0), (2, .int p1), (3, .int x3_2)] → W p l e (headSpec w_sp_reduce { frames := 2, cells := 0, slots := 0, locals := 48 }).room s m ([.ref (ad 12), .ref aA0, .int p1] : List Value).toArray below meth c H locs 0 0 (MQ below (va_Qv (fun (u : (Nat → Int32) × (Nat → Int32)) => Q u.1 u.2) (at_sp_reduce dC dI cs A ad aA0 nA0 mo_prime sp_degree sp_size sp_count sp_coefficients sp_leads sp_rowOfLead) A) ([.ref (ad 12), .ref aA0, .int p1] : List Value).toArray s 0 0 A) (F0 m 10 ls []) := by
    intro nn
    induction nn with
    | zero => intro x3_2 A0_3 sp_taken_4 hlt; exact absurd hlt (Nat.not_lt_zero _)
    | succ nn ih10 =>
      intro x3_2 A0_3 sp_taken_4 hlt10 hI H locs ls hP hD hS hl
      have hv := hv x3_2 A0_3 sp_taken_4 hI
      refine lv_iload_n hx hb d_sp_reduce_10 rfl (lv_at hl 3 rfl) ?_
      refine lv_if_lt (tgt := 71) hx hb d_sp_reduce_11 (by decide) (fun c_7 => ?_) (fun c_7 => ?_)
      · have hv := hv.1 c_7
        have hP9 := hP.sub (ws' := [(aA0, .inl (cs 0, nA0, .inl A0_3)), ((ad 3), .inr (1, [.int mo_prime])), ((ad 12), .inr (4, [.ref (ad 3), .ref (ad 4), .ref (ad 18), .ref (ad 13), .ref (ad 14), .ref (ad 15), .ref (ad 16), .ref (ad 17), .int sp_degree, .int sp_size, .int sp_count])), ((ad 13), .inl (cs 0, 8001, .inl sp_coefficients)), ((ad 14), .inl (cs 0, 126, .inl sp_leads)), ((ad 15), .inl (cs 0, 126, .inl sp_rowOfLead)), ((ad 16), .inl (cs 0, 126, .inl sp_taken_4))]) [0, 1, 2, 3, 4, 5, 6] rfl
        have hD9 := hD.sub (ws' := [(aA0, .inl (cs 0, nA0, .inl A0_3)), ((ad 3), .inr (1, [.int mo_prime])), ((ad 12), .inr (4, [.ref (ad 3), .ref (ad 4), .ref (ad 18), .ref (ad 13), .ref (ad 14), .ref (ad 15), .ref (ad 16), .ref (ad 17), .int sp_degree, .int sp_size, .int sp_count])), ((ad 13), .inl (cs 0, 8001, .inl sp_coefficients)), ((ad 14), .inl (cs 0, 126, .inl sp_leads)), ((ad 15), .inl (cs 0, 126, .inl sp_rowOfLead)), ((ad 16), .inl (cs 0, 126, .inl sp_taken_4))]) [0, 1, 2, 3, 4, 5, 6] (by decide) rfl
        exact W.vret hx hb hr (fun t ht hW => ⟨⟨(A0_3, sp_taken_4), rfl, hv, by rw [ht]; exact hP9, hD9⟩, hS.F ht⟩) hS.2.2 d_sp_reduce_71
      · have hv := hv.2 c_7
        refine lv_aload_n hx hb d_sp_reduce_14 rfl (lv_at hl 1 rfl) ?_
        refine lv_iload_n hx hb d_sp_reduce_15 rfl (lv_at hl 3 rfl) ?_
        obtain ⟨hi_8, hv⟩ := hv
        refine va_iald hx hb hK hP 0 0 rfl rfl hi_8 d_sp_reduce_16 ?_
        refine lv_topi (fun x4_9 ex4_9 => ?_)
        have hv := hv x4_9 ex4_9
        refine lv_istore (lv' := [(4, .int x4_9), (0, .ref (ad 12)), (1, .ref aA0), (2, .int p1), (3, .int x3_2)]) hx hb d_sp_reduce_17 hl (by decide) rfl (fun ls hl => ?_)
        refine lv_iload hx hb d_sp_reduce_19 (lv_at hl 0 rfl) ?_
        refine lv_if_eq (tgt := 65) hx hb d_sp_reduce_21 (by decide) (fun c_10 => ?_) (fun c_10 => ?_)
        · have hv := hv.1 c_10
          obtain ⟨x3_11, ex3_11⟩ : ∃ y : Int32, y = x3_2 + (-1) := ⟨_, rfl⟩
          have hv := hv x3_11 ex3_11
          refine lv_iinc (v := x3_11) (lv' := [(3, .int x3_11), (4, .int x4_9), (0, .ref (ad 12)), (1, .ref aA0), (2, .int p1)]) hx hb d_sp_reduce_65 hl (k := 4) rfl (by rw [ex3_11]; rfl) (by decide) rfl (fun ls hl => ?_)
          refine lv_goto (tgt := 10) hx hb d_sp_reduce_68 (by decide) ?_
          exact ih10 x3_11 A0_3 sp_taken_4 (Nat.lt_of_lt_of_le hv.2 (Nat.le_of_lt_succ hlt10)) hv.1 _ _ _ (hP.sub [0, 1, 2, 3, 4, 5, 6] rfl) (hD.sub [0, 1, 2, 3, 4, 5, 6] (by decide) rfl) hS (lv_sub hl [2, 3, 4, 0] rfl)
        · have hv := hv.2 c_10
          refine lv_aload_n hx hb d_sp_reduce_24 rfl (lv_at hl 1 rfl) ?_
          refine lv_iload_n hx hb d_sp_reduce_25 rfl (lv_at hl 4 rfl) ?_
          have hPc := hP.sub (ws' := [((ad 12), .inr (4, [.ref (ad 3), .ref (ad 4), .ref (ad 18), .ref (ad 13), .ref (ad 14), .ref (ad 15), .ref (ad 16), .ref (ad 17), .int sp_degree, .int sp_size, .int sp_count])), ((ad 15), .inl (cs 0, 126, .inl sp_rowOfLead))]) [2, 5] rfl
          have hDc := hD.sub (ws' := [((ad 12), .inr (4, [.ref (ad 3), .ref (ad 4), .ref (ad 18), .ref (ad 13), .ref (ad 14), .ref (ad 15), .ref (ad 16), .ref (ad 17), .int sp_degree, .int sp_size, .int sp_count])), ((ad 15), .inl (cs 0, 126, .inl sp_rowOfLead))]) [2, 5] (by decide) rfl
          have hFc := va_free (wc := [((ad 12), .inr (4, [.ref (ad 3), .ref (ad 4), .ref (ad 18), .ref (ad 13), .ref (ad 14), .ref (ad 15), .ref (ad 16), .ref (ad 17), .int sp_degree, .int sp_size, .int sp_count])), ((ad 15), .inl (cs 0, 126, .inl sp_rowOfLead))]) hD hS hA [2, 5] rfl
          refine va_calli (va_runV (As := [.int x3_2]) (rest := []) ⟨hx, hb, hml, hown, hts⟩ (c_sp_isLead l dC dI cs ad  H.size sp_degree sp_size sp_count sp_rowOfLead x3_2 _ hv) (cwV 1 hts (gd_V kw_344 kw_345 kw_346 kw_36 kw_347) rfl rfl rfl (by decide +kernel) ⟨Nat.le_of_ble_eq_true rfl, Nat.le_of_ble_eq_true rfl⟩) ⟨fun a U g mk q => by obtain ⟨q0, q1, qP, qK, qD⟩ := q; exact ⟨q0, q1, qP, qK.call, qD⟩, va_recv hK hPc (ci := 4) (q0 := 0) rfl rfl, fun U hU hW => ⟨rfl, by rw [hU], by rw [hU]; exact hPc, vwK.warm hW ⟨hK, hN⟩, hDc.weaken (fun _ _ _ _ => trivial)⟩⟩ rfl rfl hl.1 rfl (lv_room (Nat.le_of_ble_eq_true rfl)) d_sp_reduce_26 ⟨Nat.zero_le _, Nat.zero_le _⟩) hS (fun q _ h => hFc q h) hFc (fun r_12 _u t H1 locs1 ht hvm hw hB hz1 hk1 hS => ?_)
          obtain ⟨hP1, hD1⟩ := hB
          rw [ht] at hP1
          obtain ⟨hP, hD⟩ := va_join (wr := [(aA0, .inl (cs 0, nA0, .inl A0_3)), ((ad 3), .inr (1, [.int mo_prime])), ((ad 13), .inl (cs 0, 8001, .inl sp_coefficients)), ((ad 14), .inl (cs 0, 126, .inl sp_leads)), ((ad 16), .inl (cs 0, 126, .inl sp_taken_4))]) (w1 := [((ad 12), .inr (4, [.ref (ad 3), .ref (ad 4), .ref (ad 18), .ref (ad 13), .ref (ad 14), .ref (ad 15), .ref (ad 16), .ref (ad 17), .int sp_degree, .int sp_size, .int sp_count])), ((ad 15), .inl (cs 0, 126, .inl sp_rowOfLead))]) hP hD [2, 5] [0, 1, 3, 4, 6] rfl rfl (by decide) (by decide) hk1 hFc hP1 hD1
          generalize H1 = H at hP hS ⊢
          generalize locs1 = locs at hS ⊢
          have hP : va_P (dC, dI) vwCl [(aA0, .inl (cs 0, nA0, .inl A0_3)), ((ad 3), .inr (1, [.int mo_prime])), ((ad 13), .inl (cs 0, 8001, .inl sp_coefficients)), ((ad 14), .inl (cs 0, 126, .inl sp_leads)), ((ad 16), .inl (cs 0, 126, .inl sp_taken_4)), ((ad 12), .inr (4, [.ref (ad 3), .ref (ad 4), .ref (ad 18), .ref (ad 13), .ref (ad 14), .ref (ad 15), .ref (ad 16), .ref (ad 17), .int sp_degree, .int sp_size, .int sp_count])), ((ad 15), .inl (cs 0, 126, .inl sp_rowOfLead))] H := hP
          have hD : va_D A [(aA0, .inl (cs 0, nA0, .inl A0_3)), ((ad 3), .inr (1, [.int mo_prime])), ((ad 13), .inl (cs 0, 8001, .inl sp_coefficients)), ((ad 14), .inl (cs 0, 126, .inl sp_leads)), ((ad 16), .inl (cs 0, 126, .inl sp_taken_4)), ((ad 12), .inr (4, [.ref (ad 3), .ref (ad 4), .ref (ad 18), .ref (ad 13), .ref (ad 14), .ref (ad 15), .ref (ad 16), .ref (ad 17), .int sp_degree, .int sp_size, .int sp_count])), ((ad 15), .inl (cs 0, 126, .inl sp_rowOfLead))] := hD
          have hv := hw
          try dsimp only at hv
          refine lv_if_eq (tgt := 65) hx hb d_sp_reduce_29 (by decide) (fun c_13 => ?_) (fun c_13 => ?_)
          · have hv := hv.1 c_13
            obtain ⟨x3_14, ex3_14⟩ : ∃ y : Int32, y = x3_2 + (-1) := ⟨_, rfl⟩
            have hv := hv x3_14 ex3_14
            refine lv_iinc (v := x3_14) (lv' := [(3, .int x3_14), (4, .int x4_9), (0, .ref (ad 12)), (1, .ref aA0), (2, .int p1)]) hx hb d_sp_reduce_65 hl (k := 4) rfl (by rw [ex3_14]; rfl) (by decide) rfl (fun ls hl => ?_)
            refine lv_goto (tgt := 10) hx hb d_sp_reduce_68 (by decide) ?_
            exact ih10 x3_14 A0_3 sp_taken_4 (Nat.lt_of_lt_of_le hv.2 (Nat.le_of_lt_succ hlt10)) hv.1 _ _ _ (hP.sub [0, 1, 5, 2, 3, 6, 4] rfl) (hD.sub [0, 1, 5, 2, 3, 6, 4] (by decide) rfl) hS (lv_sub hl [2, 3, 4, 0] rfl)
          · have hv := hv.2 c_13
            refine lv_aload_n hx hb d_sp_reduce_32 rfl (lv_at hl 1 rfl) ?_
            refine va_get (D := (dC, dI)) (ci := 4) (v := .ref (ad 16)) (C := R_sp) (T := F_sp) (N := 11) hx hb hts in_sp hown hK hP 5 rfl rfl 6 (by decide) (hts _ kw_144) (fun _ h9 => h9) rfl d_sp_reduce_33 ?_
            refine lv_aload_n hx hb d_sp_reduce_36 rfl (lv_at hl 1 rfl) ?_
            refine va_get (D := (dC, dI)) (ci := 4) (v := .ref (ad 15)) (C := R_sp) (T := F_sp) (N := 11) hx hb hts in_sp hown hK hP 5 rfl rfl 5 (by decide) (hts _ kw_143) (fun _ h9 => h9) rfl d_sp_reduce_37 ?_
            refine lv_iload_n hx hb d_sp_reduce_40 rfl (lv_at hl 4 rfl) ?_
            obtain ⟨hi_15, hv⟩ := hv
            refine va_iald hx hb hK hP 6 0 rfl rfl hi_15 d_sp_reduce_41 ?_
            refine lv_iload hx hb d_sp_reduce_42 (lv_at hl 0 rfl) ?_
            obtain ⟨hi_16, hv⟩ := hv
            refine va_iast hx hb hK hP hD hS 4 0 rfl rfl hi_16 d_sp_reduce_44 (fun H locs hP hD hS => ?_)
            have hP : va_P (dC, dI) vwCl [(aA0, .inl (cs 0, nA0, .inl A0_3)), ((ad 3), .inr (1, [.int mo_prime])), ((ad 13), .inl (cs 0, 8001, .inl sp_coefficients)), ((ad 14), .inl (cs 0, 126, .inl sp_leads)), ((ad 16), .inl (cs 0, 126, .inl (upd sp_taken_4 ((sp_rowOfLead x3_2.toNatClampNeg)).toNatClampNeg x4_9))), ((ad 12), .inr (4, [.ref (ad 3), .ref (ad 4), .ref (ad 18), .ref (ad 13), .ref (ad 14), .ref (ad 15), .ref (ad 16), .ref (ad 17), .int sp_degree, .int sp_size, .int sp_count])), ((ad 15), .inl (cs 0, 126, .inl sp_rowOfLead))] H := hP
            have hD : va_D A [(aA0, .inl (cs 0, nA0, .inl A0_3)), ((ad 3), .inr (1, [.int mo_prime])), ((ad 13), .inl (cs 0, 8001, .inl sp_coefficients)), ((ad 14), .inl (cs 0, 126, .inl sp_leads)), ((ad 16), .inl (cs 0, 126, .inl (upd sp_taken_4 ((sp_rowOfLead x3_2.toNatClampNeg)).toNatClampNeg x4_9))), ((ad 12), .inr (4, [.ref (ad 3), .ref (ad 4), .ref (ad 18), .ref (ad 13), .ref (ad 14), .ref (ad 15), .ref (ad 16), .ref (ad 17), .int sp_degree, .int sp_size, .int sp_count])), ((ad 15), .inl (cs 0, 126, .inl sp_rowOfLead))] := hD
            generalize esp_taken_17 : upd sp_taken_4 ((sp_rowOfLead x3_2.toNatClampNeg)).toNatClampNeg x4_9 = sp_taken_17 at hP hD
            have hv := hv sp_taken_17 esp_taken_17.symm
            refine lv_aload_n hx hb d_sp_reduce_45 rfl (lv_at hl 1 rfl) ?_
            refine lv_aload_n hx hb d_sp_reduce_46 rfl (lv_at hl 2 rfl) ?_
            refine lv_aload_n hx hb d_sp_reduce_47 rfl (lv_at hl 1 rfl) ?_
            refine va_get (D := (dC, dI)) (ci := 4) (v := .ref (ad 15)) (C := R_sp) (T := F_sp) (N := 11) hx hb hts in_sp hown hK hP 5 rfl rfl 5 (by decide) (hts _ kw_143) (fun _ h9 => h9) rfl d_sp_reduce_48 ?_
            refine lv_iload_n hx hb d_sp_reduce_51 rfl (lv_at hl 4 rfl) ?_
            obtain ⟨hi_18, hv⟩ := hv
            refine va_iald hx hb hK hP 6 0 rfl rfl hi_18 d_sp_reduce_52 ?_
            refine lv_aload_n hx hb d_sp_reduce_53 rfl (lv_at hl 1 rfl) ?_
            refine va_get (D := (dC, dI)) (ci := 4) (v := .ref (ad 3)) (C := R_sp) (T := F_sp) (N := 11) hx hb hts in_sp hown hK hP 5 rfl rfl 0 (by decide) (hts _ kw_138) (fun _ h9 => h9) rfl d_sp_reduce_54 ?_
            refine lv_iload hx hb d_sp_reduce_57 (lv_at hl 0 rfl) ?_
            have hPc := hP.sub (ws' := [((ad 3), .inr (1, [.int mo_prime]))]) [1] rfl
            have hDc := hD.sub (ws' := [((ad 3), .inr (1, [.int mo_prime]))]) [1] (by decide) rfl
            have hFc := va_free (wc := [((ad 3), .inr (1, [.int mo_prime]))]) hD hS hA [1] rfl
            refine va_calli (va_runV (As := [.int x4_9]) (rest := [.int (sp_rowOfLead x3_2.toNatClampNeg), .ref aA0, .ref (ad 12)]) ⟨hx, hb, hml, hown, hts⟩ (c_mo_opposite l dC dI cs ad  H.size mo_prime x4_9 _ hv) (cwV 1 hts (gd_V kw_488 kw_489 kw_490 kw_33 kw_491) rfl rfl rfl (by decide +kernel) ⟨Nat.le_of_ble_eq_true rfl, Nat.le_of_ble_eq_true rfl⟩) ⟨fun a U g mk q => by obtain ⟨q0, q1, qP, qK, qD⟩ := q; exact ⟨q0, q1, qP, qK.call, qD⟩, va_recv hK hPc (ci := 1) (q0 := 0) rfl rfl, fun U hU hW => ⟨rfl, by rw [hU], by rw [hU]; exact hPc, vwK.warm hW ⟨hK, hN⟩, hDc.weaken (fun _ _ _ _ => trivial)⟩⟩ rfl rfl hl.1 rfl (lv_room (Nat.le_of_ble_eq_true rfl)) d_sp_reduce_59 ⟨Nat.zero_le _, Nat.zero_le _⟩) hS (fun q _ h => hFc q h) hFc (fun r_19 _u t H1 locs1 ht hvm hw hB hz1 hk1 hS => ?_)
            obtain ⟨hP1, hD1⟩ := hB
            rw [ht] at hP1
            obtain ⟨hP, hD⟩ := va_join (wr := [(aA0, .inl (cs 0, nA0, .inl A0_3)), ((ad 13), .inl (cs 0, 8001, .inl sp_coefficients)), ((ad 14), .inl (cs 0, 126, .inl sp_leads)), ((ad 16), .inl (cs 0, 126, .inl sp_taken_17)), ((ad 12), .inr (4, [.ref (ad 3), .ref (ad 4), .ref (ad 18), .ref (ad 13), .ref (ad 14), .ref (ad 15), .ref (ad 16), .ref (ad 17), .int sp_degree, .int sp_size, .int sp_count])), ((ad 15), .inl (cs 0, 126, .inl sp_rowOfLead))]) (w1 := [((ad 3), .inr (1, [.int mo_prime]))]) hP hD [1] [0, 2, 3, 4, 5, 6] rfl rfl (by decide) (by decide) hk1 hFc hP1 hD1
            generalize H1 = H at hP hS ⊢
            generalize locs1 = locs at hS ⊢
            have hP : va_P (dC, dI) vwCl [(aA0, .inl (cs 0, nA0, .inl A0_3)), ((ad 13), .inl (cs 0, 8001, .inl sp_coefficients)), ((ad 14), .inl (cs 0, 126, .inl sp_leads)), ((ad 16), .inl (cs 0, 126, .inl sp_taken_17)), ((ad 12), .inr (4, [.ref (ad 3), .ref (ad 4), .ref (ad 18), .ref (ad 13), .ref (ad 14), .ref (ad 15), .ref (ad 16), .ref (ad 17), .int sp_degree, .int sp_size, .int sp_count])), ((ad 15), .inl (cs 0, 126, .inl sp_rowOfLead)), ((ad 3), .inr (1, [.int mo_prime]))] H := hP
            have hD : va_D A [(aA0, .inl (cs 0, nA0, .inl A0_3)), ((ad 13), .inl (cs 0, 8001, .inl sp_coefficients)), ((ad 14), .inl (cs 0, 126, .inl sp_leads)), ((ad 16), .inl (cs 0, 126, .inl sp_taken_17)), ((ad 12), .inr (4, [.ref (ad 3), .ref (ad 4), .ref (ad 18), .ref (ad 13), .ref (ad 14), .ref (ad 15), .ref (ad 16), .ref (ad 17), .int sp_degree, .int sp_size, .int sp_count])), ((ad 15), .inl (cs 0, 126, .inl sp_rowOfLead)), ((ad 3), .inr (1, [.int mo_prime]))] := hD
            have hv := hw
            try dsimp only at hv
            have hPc := hP.sub (ws' := [(aA0, .inl (cs 0, nA0, .inl A0_3)), ((ad 3), .inr (1, [.int mo_prime])), ((ad 12), .inr (4, [.ref (ad 3), .ref (ad 4), .ref (ad 18), .ref (ad 13), .ref (ad 14), .ref (ad 15), .ref (ad 16), .ref (ad 17), .int sp_degree, .int sp_size, .int sp_count])), ((ad 13), .inl (cs 0, 8001, .inl sp_coefficients)), ((ad 14), .inl (cs 0, 126, .inl sp_leads))]) [0, 6, 4, 1, 2] rfl
            have hDc := hD.sub (ws' := [(aA0, .inl (cs 0, nA0, .inl A0_3)), ((ad 3), .inr (1, [.int mo_prime])), ((ad 12), .inr (4, [.ref (ad 3), .ref (ad 4), .ref (ad 18), .ref (ad 13), .ref (ad 14), .ref (ad 15), .ref (ad 16), .ref (ad 17), .int sp_degree, .int sp_size, .int sp_count])), ((ad 13), .inl (cs 0, 8001, .inl sp_coefficients)), ((ad 14), .inl (cs 0, 126, .inl sp_leads))]) [0, 6, 4, 1, 2] (by decide) rfl
            have hFc := va_free (wc := [(aA0, .inl (cs 0, nA0, .inl A0_3)), ((ad 3), .inr (1, [.int mo_prime])), ((ad 12), .inr (4, [.ref (ad 3), .ref (ad 4), .ref (ad 18), .ref (ad 13), .ref (ad 14), .ref (ad 15), .ref (ad 16), .ref (ad 17), .int sp_degree, .int sp_size, .int sp_count])), ((ad 13), .inl (cs 0, 8001, .inl sp_coefficients)), ((ad 14), .inl (cs 0, 126, .inl sp_leads))]) hD hS hA [0, 6, 4, 1, 2] rfl
            refine va_callv (va_runV (As := [.ref aA0, .int (sp_rowOfLead x3_2.toNatClampNeg), .int r_19]) (rest := []) ⟨hx, hb, hml, hown, hts⟩ (c_sp_addRow l dC dI cs ad aA0 H.size nA0 A0_3 mo_prime sp_degree sp_size sp_count sp_coefficients sp_leads (sp_rowOfLead x3_2.toNatClampNeg) r_19 _ hv) (cwV 3 hts (gd_V kw_492 kw_493 kw_494 kw_36 kw_495) rfl rfl rfl (by decide +kernel) ⟨Nat.le_of_ble_eq_true rfl, Nat.le_of_ble_eq_true rfl⟩) ⟨fun a U g mk q => by obtain ⟨q0, q1, qP, qK, qD⟩ := q; exact ⟨q0, q1, qP, qK.call, qD⟩, va_recv hK hPc (ci := 4) (q0 := 2) rfl rfl, fun U hU hW => ⟨rfl, by rw [hU], by rw [hU]; exact hPc, vwK.warm hW ⟨hK, hN⟩, hDc.weaken (fun _ _ _ _ => trivial)⟩⟩ rfl rfl hl.1 rfl (lv_room (Nat.le_of_ble_eq_true rfl)) d_sp_reduce_62 ⟨Nat.zero_le _, Nat.zero_le _⟩) hS (fun q _ h => hFc q h) hFc (fun A0_20 t H1 locs1 ht hvm hw hB hz1 hk1 hS => ?_)
            obtain ⟨hP1, hD1⟩ := hB
            rw [ht] at hP1
            obtain ⟨hP, hD⟩ := va_join (wr := [((ad 16), .inl (cs 0, 126, .inl sp_taken_17)), ((ad 15), .inl (cs 0, 126, .inl sp_rowOfLead))]) (w1 := [(aA0, .inl (cs 0, nA0, .inl A0_20)), ((ad 3), .inr (1, [.int mo_prime])), ((ad 12), .inr (4, [.ref (ad 3), .ref (ad 4), .ref (ad 18), .ref (ad 13), .ref (ad 14), .ref (ad 15), .ref (ad 16), .ref (ad 17), .int sp_degree, .int sp_size, .int sp_count])), ((ad 13), .inl (cs 0, 8001, .inl sp_coefficients)), ((ad 14), .inl (cs 0, 126, .inl sp_leads))]) hP hD [0, 6, 4, 1, 2] [3, 5] rfl rfl (by decide) (by decide) hk1 hFc hP1 hD1
            generalize H1 = H at hP hS ⊢
            generalize locs1 = locs at hS ⊢
            have hP : va_P (dC, dI) vwCl [((ad 16), .inl (cs 0, 126, .inl sp_taken_17)), ((ad 15), .inl (cs 0, 126, .inl sp_rowOfLead)), (aA0, .inl (cs 0, nA0, .inl A0_20)), ((ad 3), .inr (1, [.int mo_prime])), ((ad 12), .inr (4, [.ref (ad 3), .ref (ad 4), .ref (ad 18), .ref (ad 13), .ref (ad 14), .ref (ad 15), .ref (ad 16), .ref (ad 17), .int sp_degree, .int sp_size, .int sp_count])), ((ad 13), .inl (cs 0, 8001, .inl sp_coefficients)), ((ad 14), .inl (cs 0, 126, .inl sp_leads))] H := hP
            have hD : va_D A [((ad 16), .inl (cs 0, 126, .inl sp_taken_17)), ((ad 15), .inl (cs 0, 126, .inl sp_rowOfLead)), (aA0, .inl (cs 0, nA0, .inl A0_20)), ((ad 3), .inr (1, [.int mo_prime])), ((ad 12), .inr (4, [.ref (ad 3), .ref (ad 4), .ref (ad 18), .ref (ad 13), .ref (ad 14), .ref (ad 15), .ref (ad 16), .ref (ad 17), .int sp_degree, .int sp_size, .int sp_count])), ((ad 13), .inl (cs 0, 8001, .inl sp_coefficients)), ((ad 14), .inl (cs 0, 126, .inl sp_leads))] := hD
            have hv := hw
            try dsimp only at hv
            obtain ⟨x3_21, ex3_21⟩ : ∃ y : Int32, y = x3_2 + (-1) := ⟨_, rfl⟩
            have hv := hv x3_21 ex3_21
            refine lv_iinc (v := x3_21) (lv' := [(3, .int x3_21), (4, .int x4_9), (0, .ref (ad 12)), (1, .ref aA0), (2, .int p1)]) hx hb d_sp_reduce_65 hl (k := 4) rfl (by rw [ex3_21]; rfl) (by decide) rfl (fun ls hl => ?_)
            refine lv_goto (tgt := 10) hx hb d_sp_reduce_68 (by decide) ?_
            exact ih10 x3_21 A0_20 sp_taken_17 (Nat.lt_of_lt_of_le hv.2 (Nat.le_of_lt_succ hlt10)) hv.1 _ _ _ (hP.sub [2, 3, 4, 5, 6, 1, 0] rfl) (hD.sub [2, 3, 4, 5, 6, 1, 0] (by decide) rfl) hS (lv_sub hl [2, 3, 4, 0] rfl)
  exact loop10 _ p1 A0 sp_taken_1 (Nat.lt_succ_self _) hi0 _ _ _ hP hD hS hl
abbrev b_sp_writeProduct : ByteArray := prog_8_method_8_code
def y_sp_writeProduct : MethodName := ⟨"SpaceBasis$Space", "writeProduct", "(II[I)I"⟩
def w_sp_writeProduct : List Cond := Cond.code y_sp_writeProduct b_sp_writeProduct 8 (some .int) :: vwWS
theorem d_sp_writeProduct_0 : decode b_sp_writeProduct 0 = .ok (.aload_n 0, 1) := by decide +kernel
theorem d_sp_writeProduct_1 : decode b_sp_writeProduct 1 = .ok (.getfield 22, 3) := by decide +kernel
theorem d_sp_writeProduct_4 : decode b_sp_writeProduct 4 = .ok (.iload_n 1, 1) := by decide +kernel
theorem d_sp_writeProduct_5 : decode b_sp_writeProduct 5 = .ok (.iaload, 1) := by decide +kernel
theorem d_sp_writeProduct_6 : decode b_sp_writeProduct 6 = .ok (.istore 4, 2) := by decide +kernel
theorem d_sp_writeProduct_8 : decode b_sp_writeProduct 8 = .ok (.iload 4, 2) := by decide +kernel
theorem d_sp_writeProduct_10 : decode b_sp_writeProduct 10 = .ok (.invokestatic 110, 3) := by decide +kernel
theorem d_sp_writeProduct_13 : decode b_sp_writeProduct 13 = .ok (.istore 5, 2) := by decide +kernel
theorem d_sp_writeProduct_15 : decode b_sp_writeProduct 15 = .ok (.aload_n 3, 1) := by decide +kernel
theorem d_sp_writeProduct_16 : decode b_sp_writeProduct 16 = .ok (.iconst 0, 1) := by decide +kernel
theorem d_sp_writeProduct_17 : decode b_sp_writeProduct 17 = .ok (.invokestatic 57, 3) := by decide +kernel
theorem d_sp_writeProduct_20 : decode b_sp_writeProduct 20 = .ok (.iconst 0, 1) := by decide +kernel
theorem d_sp_writeProduct_21 : decode b_sp_writeProduct 21 = .ok (.istore 6, 2) := by decide +kernel
theorem d_sp_writeProduct_23 : decode b_sp_writeProduct 23 = .ok (.iload 6, 2) := by decide +kernel
theorem d_sp_writeProduct_25 : decode b_sp_writeProduct 25 = .ok (.iload 4, 2) := by decide +kernel
theorem d_sp_writeProduct_27 : decode b_sp_writeProduct 27 = .ok (.if_icmp .gt 41, 3) := by decide +kernel
theorem d_sp_writeProduct_30 : decode b_sp_writeProduct 30 = .ok (.aload_n 0, 1) := by decide +kernel
theorem d_sp_writeProduct_31 : decode b_sp_writeProduct 31 = .ok (.getfield 42, 3) := by decide +kernel
theorem d_sp_writeProduct_34 : decode b_sp_writeProduct 34 = .ok (.iload 6, 2) := by decide +kernel
theorem d_sp_writeProduct_36 : decode b_sp_writeProduct 36 = .ok (.iload_n 2, 1) := by decide +kernel
theorem d_sp_writeProduct_37 : decode b_sp_writeProduct 37 = .ok (.invokevirtual 142, 3) := by decide +kernel
theorem d_sp_writeProduct_40 : decode b_sp_writeProduct 40 = .ok (.istore 7, 2) := by decide +kernel
theorem d_sp_writeProduct_42 : decode b_sp_writeProduct 42 = .ok (.iload 7, 2) := by decide +kernel
theorem d_sp_writeProduct_44 : decode b_sp_writeProduct 44 = .ok (.iconst (-1), 1) := by decide +kernel
theorem d_sp_writeProduct_45 : decode b_sp_writeProduct 45 = .ok (.if_icmp .eq 17, 3) := by decide +kernel
theorem d_sp_writeProduct_48 : decode b_sp_writeProduct 48 = .ok (.aload_n 3, 1) := by decide +kernel
theorem d_sp_writeProduct_49 : decode b_sp_writeProduct 49 = .ok (.iload 7, 2) := by decide +kernel
theorem d_sp_writeProduct_51 : decode b_sp_writeProduct 51 = .ok (.aload_n 0, 1) := by decide +kernel
theorem d_sp_writeProduct_52 : decode b_sp_writeProduct 52 = .ok (.getfield 18, 3) := by decide +kernel
theorem d_sp_writeProduct_55 : decode b_sp_writeProduct 55 = .ok (.iload 5, 2) := by decide +kernel
theorem d_sp_writeProduct_57 : decode b_sp_writeProduct 57 = .ok (.iload 6, 2) := by decide +kernel
theorem d_sp_writeProduct_59 : decode b_sp_writeProduct 59 = .ok (.iadd, 1) := by decide +kernel
theorem d_sp_writeProduct_60 : decode b_sp_writeProduct 60 = .ok (.iaload, 1) := by decide +kernel
theorem d_sp_writeProduct_61 : decode b_sp_writeProduct 61 = .ok (.iastore, 1) := by decide +kernel
theorem d_sp_writeProduct_62 : decode b_sp_writeProduct 62 = .ok (.iinc 6 1, 3) := by decide +kernel
theorem d_sp_writeProduct_65 : decode b_sp_writeProduct 65 = .ok (.goto (-42), 3) := by decide +kernel
theorem d_sp_writeProduct_68 : decode b_sp_writeProduct 68 = .ok (.aload_n 0, 1) := by decide +kernel
theorem d_sp_writeProduct_69 : decode b_sp_writeProduct 69 = .ok (.getfield 42, 3) := by decide +kernel
theorem d_sp_writeProduct_72 : decode b_sp_writeProduct 72 = .ok (.iload 4, 2) := by decide +kernel
theorem d_sp_writeProduct_74 : decode b_sp_writeProduct 74 = .ok (.iload_n 2, 1) := by decide +kernel
theorem d_sp_writeProduct_75 : decode b_sp_writeProduct 75 = .ok (.invokevirtual 142, 3) := by decide +kernel
theorem d_sp_writeProduct_78 : decode b_sp_writeProduct 78 = .ok (.ireturn, 1) := by decide +kernel
/-- SpaceBasis$Space.writeProduct(II[I)I -/
def vc_sp_writeProduct (nA2 : Nat) (A2 : Nat → Int32) (mn_variables : Int32) (mn_order : Int32) (mn_highest : Int32) (mn_count : Int32) (mn_products : Nat → Int32) (sp_degree : Int32) (sp_size : Int32) (sp_count : Int32) (sp_coefficients : Nat → Int32) (sp_leads : Nat → Int32) (p0 : Int32) (p1 : Int32) (Q : Int32 → (Nat → Int32) → Prop) : Prop :=
  vp_in p0 126 ∧ ∀ x4_2 : Int32, x4_2 = (sp_leads p0.toNatClampNeg) → vc_x_startOfLine x4_2 (fun (r_3 : Int32) => vc_Ar_fill nA2 A2 0 (fun (A2_4 : Nat → Int32) => ∃ (I23_7 : Int32 → (Nat → Int32) → Prop) (mu23_8 : Int32 → (Nat → Int32) → Nat), I23_7 0 A2_4 ∧ ∀ (x6_5 : Int32) (A2_6 : Nat → Int32), I23_7 x6_5 A2_6 → ((((x4_2 < x6_5) → (vc_mn_timesVariable mn_variables mn_order mn_highest mn_count mn_products x4_2 p1 (fun (r_10 : Int32) => Q r_10 A2_6))) ∧ ((¬ (x4_2 < x6_5)) → (vc_mn_timesVariable mn_variables mn_order mn_highest mn_count mn_products x6_5 p1 (fun (r_11 : Int32) => (((r_11 = (-1)) → (∀ x6_13 : Int32, x6_13 = x6_5 + 1 → (I23_7 x6_13 A2_6 ∧ mu23_8 x6_13 A2_6 < mu23_8 x6_5 A2_6))) ∧ ((¬ (r_11 = (-1))) → (vp_in (r_3 + x6_5) 8001 ∧ vp_in r_11 nA2 ∧ ∀ A2_16 : Nat → Int32, A2_16 = upd A2_6 r_11.toNatClampNeg (sp_coefficients ((r_3 + x6_5)).toNatClampNeg) → ∀ x6_17 : Int32, x6_17 = x6_5 + 1 → (I23_7 x6_17 A2_16 ∧ mu23_8 x6_17 A2_16 < mu23_8 x6_5 A2_6)))))))))))
abbrev at_sp_writeProduct (dC : Nat → ClassId) (dI : Nat → Nat → Nat) (cs : Nat → ClassId) (A : Nat → Prop) (ad : Nat → Nat) (aA2 : Nat) (nA2 : Nat) (mn_variables : Int32) (mn_order : Int32) (mn_highest : Int32) (mn_count : Int32) (mn_products : Nat → Int32) (sp_degree : Int32) (sp_size : Int32) (sp_count : Int32) (sp_coefficients : Nat → Int32) (sp_leads : Nat → Int32) (u : (Nat → Int32)) (t : State) : Prop := match u with
  | A2 => va_P (dC, dI) vwCl [(aA2, .inl (cs 0, nA2, .inl A2)), ((ad 4), .inr (2, [.ref (ad 5), .ref (ad 6), .ref (ad 7), .ref (ad 8), .int mn_variables, .int mn_order, .int mn_highest, .int mn_count])), ((ad 8), .inl (cs 0, 504, .inl mn_products)), ((ad 12), .inr (4, [.ref (ad 3), .ref (ad 4), .ref (ad 18), .ref (ad 13), .ref (ad 14), .ref (ad 15), .ref (ad 16), .ref (ad 17), .int sp_degree, .int sp_size, .int sp_count])), ((ad 13), .inl (cs 0, 8001, .inl sp_coefficients)), ((ad 14), .inl (cs 0, 126, .inl sp_leads))] t.heap ∧ va_D A [(aA2, .inl (cs 0, nA2, .inl A2)), ((ad 4), .inr (2, [.ref (ad 5), .ref (ad 6), .ref (ad 7), .ref (ad 8), .int mn_variables, .int mn_order, .int mn_highest, .int mn_count])), ((ad 8), .inl (cs 0, 504, .inl mn_products)), ((ad 12), .inr (4, [.ref (ad 3), .ref (ad 4), .ref (ad 18), .ref (ad 13), .ref (ad 14), .ref (ad 15), .ref (ad 16), .ref (ad 17), .int sp_degree, .int sp_size, .int sp_count])), ((ad 13), .inl (cs 0, 8001, .inl sp_coefficients)), ((ad 14), .inl (cs 0, 126, .inl sp_leads))]
set_option maxHeartbeats 4000000 in
set_option maxRecDepth 100000 in
theorem c_sp_writeProduct (l : Launch) (dC : Nat → ClassId) (dI : Nat → Nat → Nat) (cs : Nat → ClassId) (ad : Nat → Nat) (aA2 : Nat) (sz : Nat) (nA2 : Nat) (A2 : Nat → Int32) (mn_variables : Int32) (mn_order : Int32) (mn_highest : Int32) (mn_count : Int32) (mn_products : Nat → Int32) (sp_degree : Int32) (sp_size : Int32) (sp_count : Int32) (sp_coefficients : Nat → Int32) (sp_leads : Nat → Int32) (p0 : Int32) (p1 : Int32) (Q : Int32 → (Nat → Int32) → Prop) (hv : vc_sp_writeProduct nA2 A2 mn_variables mn_order mn_highest mn_count mn_products sp_degree sp_size sp_count sp_coefficients sp_leads p0 p1 Q) : Met l y_sp_writeProduct w_sp_writeProduct ({ frames := 1, cells := 0, slots := 0, locals := 23 }) (va_Pc [.ref (ad 12), .int p0, .int p1, .ref aA2] (fun U => U.heap.size = sz ∧ va_P (dC, dI) vwCl [(aA2, .inl (cs 0, nA2, .inl A2)), ((ad 4), .inr (2, [.ref (ad 5), .ref (ad 6), .ref (ad 7), .ref (ad 8), .int mn_variables, .int mn_order, .int mn_highest, .int mn_count])), ((ad 8), .inl (cs 0, 504, .inl mn_products)), ((ad 12), .inr (4, [.ref (ad 3), .ref (ad 4), .ref (ad 18), .ref (ad 13), .ref (ad 14), .ref (ad 15), .ref (ad 16), .ref (ad 17), .int sp_degree, .int sp_size, .int sp_count])), ((ad 13), .inl (cs 0, 8001, .inl sp_coefficients)), ((ad 14), .inl (cs 0, 126, .inl sp_leads))] U.heap ∧ vwK dC dI cs U ∧ va_D (fun _ => True) [(aA2, .inl (cs 0, nA2, .inl A2)), ((ad 4), .inr (2, [.ref (ad 5), .ref (ad 6), .ref (ad 7), .ref (ad 8), .int mn_variables, .int mn_order, .int mn_highest, .int mn_count])), ((ad 8), .inl (cs 0, 504, .inl mn_products)), ((ad 12), .inr (4, [.ref (ad 3), .ref (ad 4), .ref (ad 18), .ref (ad 13), .ref (ad 14), .ref (ad 15), .ref (ad 16), .ref (ad 17), .int sp_degree, .int sp_size, .int sp_count])), ((ad 13), .inl (cs 0, 8001, .inl sp_coefficients)), ((ad 14), .inl (cs 0, 126, .inl sp_leads))])) (va_Qi (fun (r : Int32) (u : (Nat → Int32)) => Q r u) (at_sp_writeProduct dC dI cs (va_A [(aA2, .inl (cs 0, nA2, .inl A2)), ((ad 4), .inr (2, [.ref (ad 5), .ref (ad 6), .ref (ad 7), .ref (ad 8), .int mn_variables, .int mn_order, .int mn_highest, .int mn_count])), ((ad 8), .inl (cs 0, 504, .inl mn_products)), ((ad 12), .inr (4, [.ref (ad 3), .ref (ad 4), .ref (ad 18), .ref (ad 13), .ref (ad 14), .ref (ad 15), .ref (ad 16), .ref (ad 17), .int sp_degree, .int sp_size, .int sp_count])), ((ad 13), .inl (cs 0, 8001, .inl sp_coefficients)), ((ad 14), .inl (cs 0, 126, .inl sp_leads))] sz) ad aA2 nA2 mn_variables mn_order mn_highest mn_count mn_products sp_degree sp_size sp_count sp_coefficients sp_leads) (va_A [(aA2, .inl (cs 0, nA2, .inl A2)), ((ad 4), .inr (2, [.ref (ad 5), .ref (ad 6), .ref (ad 7), .ref (ad 8), .int mn_variables, .int mn_order, .int mn_highest, .int mn_count])), ((ad 8), .inl (cs 0, 504, .inl mn_products)), ((ad 12), .inr (4, [.ref (ad 3), .ref (ad 4), .ref (ad 18), .ref (ad 13), .ref (ad 14), .ref (ad 15), .ref (ad 16), .ref (ad 17), .int sp_degree, .int sp_size, .int sp_count])), ((ad 13), .inl (cs 0, 8001, .inl sp_coefficients)), ((ad 14), .inl (cs 0, 126, .inl sp_leads))] sz)) 0 0 (va_A [(aA2, .inl (cs 0, nA2, .inl A2)), ((ad 4), .inr (2, [.ref (ad 5), .ref (ad 6), .ref (ad 7), .ref (ad 8), .int mn_variables, .int mn_order, .int mn_highest, .int mn_count])), ((ad 8), .inl (cs 0, 504, .inl mn_products)), ((ad 12), .inr (4, [.ref (ad 3), .ref (ad 4), .ref (ad 18), .ref (ad 13), .ref (ad 14), .ref (ad 15), .ref (ad 16), .ref (ad 17), .int sp_degree, .int sp_size, .int sp_count])), ((ad 13), .inl (cs 0, 8001, .inl sp_coefficients)), ((ad 14), .inl (cs 0, 126, .inl sp_leads))] sz) := by
  unfold vc_sp_writeProduct at hv
  refine Met.ofW (cc := b_sp_writeProduct) (maxL := 8) (ret := (some .int)) (by decide) rfl ?_
  intro p e s m args below meth c s₁ B hml hpc
  obtain ⟨rfl, hsz, hP, ⟨hK, hN⟩, hD0⟩ := hpc
  have hx := B.exec
  have hb := B.bytes
  have hr := B.returns
  have hts : ∀ w ∈ vwWS, w.before _ s = true := fun w h => atoms_spec (ws := w_sp_writeProduct) B.pre w (List.mem_cons_of_mem _ h)
  have hown : s.vm.findClass "SpaceBasis$Space" = some m.cls := findClass_of_methodNamed B.named
  have hlocks := B.notSynchronized
  subst hsz
  have hD := hD0.self (sz := s.heap.size)
  generalize hAe : va_A [(aA2, .inl (cs 0, nA2, .inl A2)), ((ad 4), .inr (2, [.ref (ad 5), .ref (ad 6), .ref (ad 7), .ref (ad 8), .int mn_variables, .int mn_order, .int mn_highest, .int mn_count])), ((ad 8), .inl (cs 0, 504, .inl mn_products)), ((ad 12), .inr (4, [.ref (ad 3), .ref (ad 4), .ref (ad 18), .ref (ad 13), .ref (ad 14), .ref (ad 15), .ref (ad 16), .ref (ad 17), .int sp_degree, .int sp_size, .int sp_count])), ((ad 13), .inl (cs 0, 8001, .inl sp_coefficients)), ((ad 14), .inl (cs 0, 126, .inl sp_leads))] s.heap.size = A at hD ⊢
  have hA : ∀ q : Nat, s.heap.size ≤ q → A q := fun q h => by rw [← hAe]; exact Or.inr h
  have hS : va_S A s.heap s.heap [] := va_S.rf
  have hl := lv_entry ([.ref (ad 12), .int p0, .int p1, .ref aA2]) (n := 8) (Nat.le_of_ble_eq_true rfl)
  rw [lg_entry_eq]
  generalize (lg_sl ([.ref (ad 12), .int p0, .int p1, .ref aA2]) ++ List.replicate (8 - (lg_sl ([.ref (ad 12), .int p0, .int p1, .ref aA2])).length) Slot.unset).toArray = ls at hl ⊢
  have hl : lv_has ls 8 [(0, .ref (ad 12)), (1, .int p0), (2, .int p1), (3, .ref aA2)] := hl
  refine lv_aload_n hx hb d_sp_writeProduct_0 rfl (lv_at hl 0 rfl) ?_
  refine va_get (D := (dC, dI)) (ci := 4) (v := .ref (ad 14)) (C := R_sp) (T := F_sp) (N := 11) hx hb hts in_sp hown hK hP 3 rfl rfl 4 (by decide) (hts _ kw_142) (fun _ h9 => h9) rfl d_sp_writeProduct_1 ?_
  refine lv_iload_n hx hb d_sp_writeProduct_4 rfl (lv_at hl 1 rfl) ?_
  obtain ⟨hi_1, hv⟩ := hv
  refine va_iald hx hb hK hP 5 0 rfl rfl hi_1 d_sp_writeProduct_5 ?_
  refine lv_topi (fun x4_2 ex4_2 => ?_)
  have hv := hv x4_2 ex4_2
  refine lv_istore (lv' := [(4, .int x4_2), (0, .ref (ad 12)), (1, .int p0), (2, .int p1), (3, .ref aA2)]) hx hb d_sp_writeProduct_6 hl (by decide) rfl (fun ls hl => ?_)
  refine lv_iload hx hb d_sp_writeProduct_8 (lv_at hl 0 rfl) ?_
  have hPc := hP.sub (ws' := []) [] rfl
  have hDc := hD.sub (ws' := []) [] (by decide) rfl
  have hFc := va_free (wc := []) hD hS hA [] rfl
  refine va_calli (va_runSN (As := [.int x4_2]) (rest := []) ⟨hx, hb, hml, hown, hts⟩ (c_x_startOfLine l dC dI cs ad  s.heap.size x4_2 _ hv) ⟨va_cnB 1 hts (gd_c kw_311) rfl rfl rfl (hN _ kn_41) (hts _ kw_32) (by decide +kernel) ⟨Nat.le_of_ble_eq_true rfl, Nat.le_of_ble_eq_true rfl⟩, hts _ kw_310, trivial⟩ ⟨fun a U g mk q => by obtain ⟨q0, q1, qP, qK, qD⟩ := q; exact ⟨q0, q1, qP, qK.call, qD⟩, fun U hU hW => ⟨rfl, by rw [hU], by rw [hU]; exact hPc, vwK.warm hW ⟨hK, hN⟩, hDc.weaken (fun _ _ _ _ => trivial)⟩⟩ rfl rfl hl.1 rfl (lv_room (Nat.le_of_ble_eq_true rfl)) d_sp_writeProduct_10 ⟨Nat.zero_le _, Nat.zero_le _⟩) hS (fun q _ h => hFc q h) hFc (fun r_3 _u t H1 locs1 ht hvm hw hB hz1 hk1 hS => ?_)
  obtain ⟨hP1, hD1⟩ := hB
  rw [ht] at hP1
  obtain ⟨hP, hD⟩ := va_join (wr := [(aA2, .inl (cs 0, nA2, .inl A2)), ((ad 4), .inr (2, [.ref (ad 5), .ref (ad 6), .ref (ad 7), .ref (ad 8), .int mn_variables, .int mn_order, .int mn_highest, .int mn_count])), ((ad 8), .inl (cs 0, 504, .inl mn_products)), ((ad 12), .inr (4, [.ref (ad 3), .ref (ad 4), .ref (ad 18), .ref (ad 13), .ref (ad 14), .ref (ad 15), .ref (ad 16), .ref (ad 17), .int sp_degree, .int sp_size, .int sp_count])), ((ad 13), .inl (cs 0, 8001, .inl sp_coefficients)), ((ad 14), .inl (cs 0, 126, .inl sp_leads))]) (w1 := []) hP hD [] [0, 1, 2, 3, 4, 5] rfl rfl (by decide) (by decide) hk1 hFc hP1 hD1
  generalize H1 = H at hP hS ⊢
  generalize locs1 = locs at hS ⊢
  have hP : va_P (dC, dI) vwCl [(aA2, .inl (cs 0, nA2, .inl A2)), ((ad 4), .inr (2, [.ref (ad 5), .ref (ad 6), .ref (ad 7), .ref (ad 8), .int mn_variables, .int mn_order, .int mn_highest, .int mn_count])), ((ad 8), .inl (cs 0, 504, .inl mn_products)), ((ad 12), .inr (4, [.ref (ad 3), .ref (ad 4), .ref (ad 18), .ref (ad 13), .ref (ad 14), .ref (ad 15), .ref (ad 16), .ref (ad 17), .int sp_degree, .int sp_size, .int sp_count])), ((ad 13), .inl (cs 0, 8001, .inl sp_coefficients)), ((ad 14), .inl (cs 0, 126, .inl sp_leads))] H := hP
  have hD : va_D A [(aA2, .inl (cs 0, nA2, .inl A2)), ((ad 4), .inr (2, [.ref (ad 5), .ref (ad 6), .ref (ad 7), .ref (ad 8), .int mn_variables, .int mn_order, .int mn_highest, .int mn_count])), ((ad 8), .inl (cs 0, 504, .inl mn_products)), ((ad 12), .inr (4, [.ref (ad 3), .ref (ad 4), .ref (ad 18), .ref (ad 13), .ref (ad 14), .ref (ad 15), .ref (ad 16), .ref (ad 17), .int sp_degree, .int sp_size, .int sp_count])), ((ad 13), .inl (cs 0, 8001, .inl sp_coefficients)), ((ad 14), .inl (cs 0, 126, .inl sp_leads))] := hD
  have hv := hw
  try dsimp only at hv
  refine lv_istore (lv' := [(5, .int r_3), (4, .int x4_2), (0, .ref (ad 12)), (1, .int p0), (2, .int p1), (3, .ref aA2)]) hx hb d_sp_writeProduct_13 hl (by decide) rfl (fun ls hl => ?_)
  refine lv_aload_n hx hb d_sp_writeProduct_15 rfl (lv_at hl 5 rfl) ?_
  refine lv_iconst (v := 0) hx hb d_sp_writeProduct_16 (by decide) ?_
  have hPc := hP.sub (ws' := [(aA2, .inl (cs 0, nA2, .inl A2))]) [0] rfl
  have hDc := hD.sub (ws' := [(aA2, .inl (cs 0, nA2, .inl A2))]) [0] (by decide) rfl
  have hFc := va_free (wc := [(aA2, .inl (cs 0, nA2, .inl A2))]) hD hS hA [0] rfl
  refine va_callv (va_runS (As := [.ref aA2, .int 0]) (rest := []) ⟨hx, hb, hml, hown, hts⟩ (c_Ar_fill l dC dI cs ad aA2 H.size nA2 A2 0 _ hv) (va_cwS 2 hts (gd_S kw_479 kw_252 kw_40 kw_253) rfl rfl rfl (by decide +kernel) ⟨Nat.le_of_ble_eq_true rfl, Nat.le_of_ble_eq_true rfl⟩) ⟨fun a U g mk q => by obtain ⟨q0, q1, qP, qK, qD⟩ := q; exact ⟨q0, q1, qP, qK.call, qD⟩, fun U hU hW => ⟨rfl, by rw [hU], by rw [hU]; exact hPc, vwK.warm hW ⟨hK, hN⟩, hDc.weaken (fun _ _ _ _ => trivial)⟩⟩ rfl rfl hl.1 rfl (lv_room (Nat.le_of_ble_eq_true rfl)) d_sp_writeProduct_17 ⟨Nat.zero_le _, Nat.zero_le _⟩) hS (fun q _ h => hFc q h) hFc (fun A2_4 t H1 locs1 ht hvm hw hB hz1 hk1 hS => ?_)
  obtain ⟨hP1, hD1⟩ := hB
  rw [ht] at hP1
  obtain ⟨hP, hD⟩ := va_join (wr := [((ad 4), .inr (2, [.ref (ad 5), .ref (ad 6), .ref (ad 7), .ref (ad 8), .int mn_variables, .int mn_order, .int mn_highest, .int mn_count])), ((ad 8), .inl (cs 0, 504, .inl mn_products)), ((ad 12), .inr (4, [.ref (ad 3), .ref (ad 4), .ref (ad 18), .ref (ad 13), .ref (ad 14), .ref (ad 15), .ref (ad 16), .ref (ad 17), .int sp_degree, .int sp_size, .int sp_count])), ((ad 13), .inl (cs 0, 8001, .inl sp_coefficients)), ((ad 14), .inl (cs 0, 126, .inl sp_leads))]) (w1 := [(aA2, .inl (cs 0, nA2, .inl A2_4))]) hP hD [0] [1, 2, 3, 4, 5] rfl rfl (by decide) (by decide) hk1 hFc hP1 hD1
  generalize H1 = H at hP hS ⊢
  generalize locs1 = locs at hS ⊢
  have hP : va_P (dC, dI) vwCl [((ad 4), .inr (2, [.ref (ad 5), .ref (ad 6), .ref (ad 7), .ref (ad 8), .int mn_variables, .int mn_order, .int mn_highest, .int mn_count])), ((ad 8), .inl (cs 0, 504, .inl mn_products)), ((ad 12), .inr (4, [.ref (ad 3), .ref (ad 4), .ref (ad 18), .ref (ad 13), .ref (ad 14), .ref (ad 15), .ref (ad 16), .ref (ad 17), .int sp_degree, .int sp_size, .int sp_count])), ((ad 13), .inl (cs 0, 8001, .inl sp_coefficients)), ((ad 14), .inl (cs 0, 126, .inl sp_leads)), (aA2, .inl (cs 0, nA2, .inl A2_4))] H := hP
  have hD : va_D A [((ad 4), .inr (2, [.ref (ad 5), .ref (ad 6), .ref (ad 7), .ref (ad 8), .int mn_variables, .int mn_order, .int mn_highest, .int mn_count])), ((ad 8), .inl (cs 0, 504, .inl mn_products)), ((ad 12), .inr (4, [.ref (ad 3), .ref (ad 4), .ref (ad 18), .ref (ad 13), .ref (ad 14), .ref (ad 15), .ref (ad 16), .ref (ad 17), .int sp_degree, .int sp_size, .int sp_count])), ((ad 13), .inl (cs 0, 8001, .inl sp_coefficients)), ((ad 14), .inl (cs 0, 126, .inl sp_leads)), (aA2, .inl (cs 0, nA2, .inl A2_4))] := hD
  have hv := hw
  try dsimp only at hv
  refine lv_iconst (v := 0) hx hb d_sp_writeProduct_20 (by decide) ?_
  refine lv_istore (lv' := [(6, .int 0), (5, .int r_3), (4, .int x4_2), (0, .ref (ad 12)), (1, .int p0), (2, .int p1), (3, .ref aA2)]) hx hb d_sp_writeProduct_21 hl (by decide) rfl (fun ls hl => ?_)
  obtain ⟨I23_7, mu23_8, hi0, hv⟩ := hv
  have hP := hP.sub (ws' := [(aA2, .inl (cs 0, nA2, .inl A2_4)), ((ad 4), .inr (2, [.ref (ad 5), .ref (ad 6), .ref (ad 7), .ref (ad 8), .int mn_variables, .int mn_order, .int mn_highest, .int mn_count])), ((ad 8), .inl (cs 0, 504, .inl mn_products)), ((ad 12), .inr (4, [.ref (ad 3), .ref (ad 4), .ref (ad 18), .ref (ad 13), .ref (ad 14), .ref (ad 15), .ref (ad 16), .ref (ad 17), .int sp_degree, .int sp_size, .int sp_count])), ((ad 13), .inl (cs 0, 8001, .inl sp_coefficients)), ((ad 14), .inl (cs 0, 126, .inl sp_leads))]) [5, 0, 1, 2, 3, 4] rfl
  have hD := hD.sub (ws' := [(aA2, .inl (cs 0, nA2, .inl A2_4)), ((ad 4), .inr (2, [.ref (ad 5), .ref (ad 6), .ref (ad 7), .ref (ad 8), .int mn_variables, .int mn_order, .int mn_highest, .int mn_count])), ((ad 8), .inl (cs 0, 504, .inl mn_products)), ((ad 12), .inr (4, [.ref (ad 3), .ref (ad 4), .ref (ad 18), .ref (ad 13), .ref (ad 14), .ref (ad 15), .ref (ad 16), .ref (ad 17), .int sp_degree, .int sp_size, .int sp_count])), ((ad 13), .inl (cs 0, 8001, .inl sp_coefficients)), ((ad 14), .inl (cs 0, 126, .inl sp_leads))]) [5, 0, 1, 2, 3, 4] (by decide) rfl
  have hl := lv_sub (l' := [(0, .ref (ad 12)), (1, .int p0), (2, .int p1), (3, .ref aA2), (4, .int x4_2), (5, .int r_3), (6, .int 0)]) hl [3, 4, 5, 6, 2, 1, 0] rfl
  have loop23 : ∀ (nn : Nat) (x6_5 : Int32) (A2_6 : Nat → Int32), mu23_8 x6_5 A2_6 < nn → I23_7 x6_5 A2_6 → ∀ (H : Heap) (locs : List Loc) (ls : Array Slot), va_P (dC, dI) vwCl [(aA2, .inl (cs 0, nA2, .inl A2_6)), ((ad 4), .inr (2, [.ref (ad 5), .ref (ad 6), .ref (ad 7), .ref (ad 8), .int mn_variables, .int mn_order, .int mn_highest, .int mn_count])), ((ad 8), .inl (cs 0, 504, .inl mn_products)), ((ad 12), .inr (4, [.ref (ad 3), .ref (ad 4), .ref (ad 18), .ref (ad 13), .ref (ad 14), .ref (ad 15), .ref (ad 16), .ref (ad 17), .int sp_degree, .int sp_size, .int sp_count])), ((ad 13), .inl (cs 0, 8001, .inl sp_coefficients)), ((ad 14), .inl (cs 0, 126, .inl sp_leads))] H → va_D A [(aA2, .inl (cs 0, nA2, .inl A2_6)), ((ad 4), .inr (2, [.ref (ad 5), .ref (ad 6), .ref (ad 7), .ref (ad 8), .int mn_variables, .int mn_order, .int mn_highest, .int mn_count])), ((ad 8), .inl (cs 0, 504, .inl mn_products)), ((ad 12), .inr (4, [.ref (ad 3), .ref (ad 4), .ref (ad 18), .ref (ad 13), .ref (ad 14), .ref (ad 15), .ref (ad 16), .ref (ad 17), .int sp_degree, .int sp_size, .int sp_count])), ((ad 13), .inl (cs 0, 8001, .inl sp_coefficients)), ((ad 14), .inl (cs 0, 126, .inl sp_leads))] → va_S A s.heap H locs → lv_has ls 8 [(0, .ref (ad 12)), (1, .int p0), (2, .int p1), (3, .ref aA2), (4, .int x4_2), (5, .int r_3), (6, .int x6_5)] → W p l e (headSpec w_sp_writeProduct { frames := 1, cells := 0, slots := 0, locals := 23 }).room s m ([.ref (ad 12), .int p0, .int p1, .ref aA2] : List Value).toArray below meth c H locs 0 0 (MQ below (va_Qi (fun (r : Int32) (u : (Nat → Int32)) => Q r u) (at_sp_writeProduct dC dI cs A ad aA2 nA2 mn_variables mn_order mn_highest mn_count mn_products sp_degree sp_size sp_count sp_coefficients sp_leads) A) ([.ref (ad 12), .int p0, .int p1, .ref aA2] : List Value).toArray s 0 0 A) (F0 m 23 ls []) := by
    intro nn
    induction nn with
    | zero => intro x6_5 A2_6 hlt; exact absurd hlt (Nat.not_lt_zero _)
    | succ nn ih23 =>
      intro x6_5 A2_6 hlt23 hI H locs ls hP hD hS hl
      have hv := hv x6_5 A2_6 hI
      refine lv_iload hx hb d_sp_writeProduct_23 (lv_at hl 6 rfl) ?_
      refine lv_iload hx hb d_sp_writeProduct_25 (lv_at hl 4 rfl) ?_
      refine lv_icmp_gt (tgt := 68) hx hb d_sp_writeProduct_27 (by decide) (fun c_9 => ?_) (fun c_9 => ?_)
      · have hv := hv.1 c_9
        refine lv_aload_n hx hb d_sp_writeProduct_68 rfl (lv_at hl 0 rfl) ?_
        refine va_get (D := (dC, dI)) (ci := 4) (v := .ref (ad 4)) (C := R_sp) (T := F_sp) (N := 11) hx hb hts in_sp hown hK hP 3 rfl rfl 1 (by decide) (hts _ kw_139) (fun _ h9 => h9) rfl d_sp_writeProduct_69 ?_
        refine lv_iload hx hb d_sp_writeProduct_72 (lv_at hl 4 rfl) ?_
        refine lv_iload_n hx hb d_sp_writeProduct_74 rfl (lv_at hl 2 rfl) ?_
        have hPc := hP.sub (ws' := [((ad 4), .inr (2, [.ref (ad 5), .ref (ad 6), .ref (ad 7), .ref (ad 8), .int mn_variables, .int mn_order, .int mn_highest, .int mn_count])), ((ad 8), .inl (cs 0, 504, .inl mn_products))]) [1, 2] rfl
        have hDc := hD.sub (ws' := [((ad 4), .inr (2, [.ref (ad 5), .ref (ad 6), .ref (ad 7), .ref (ad 8), .int mn_variables, .int mn_order, .int mn_highest, .int mn_count])), ((ad 8), .inl (cs 0, 504, .inl mn_products))]) [1, 2] (by decide) rfl
        have hFc := va_free (wc := [((ad 4), .inr (2, [.ref (ad 5), .ref (ad 6), .ref (ad 7), .ref (ad 8), .int mn_variables, .int mn_order, .int mn_highest, .int mn_count])), ((ad 8), .inl (cs 0, 504, .inl mn_products))]) hD hS hA [1, 2] rfl
        refine va_calli (va_runV (As := [.int x4_2, .int p1]) (rest := []) ⟨hx, hb, hml, hown, hts⟩ (c_mn_timesVariable l dC dI cs ad  H.size mn_variables mn_order mn_highest mn_count mn_products x4_2 p1 _ hv) (cwV 2 hts (gd_V kw_516 kw_517 kw_518 kw_34 kw_519) rfl rfl rfl (by decide +kernel) ⟨Nat.le_of_ble_eq_true rfl, Nat.le_of_ble_eq_true rfl⟩) ⟨fun a U g mk q => by obtain ⟨q0, q1, qP, qK, qD⟩ := q; exact ⟨q0, q1, qP, qK.call, qD⟩, va_recv hK hPc (ci := 2) (q0 := 0) rfl rfl, fun U hU hW => ⟨rfl, by rw [hU], by rw [hU]; exact hPc, vwK.warm hW ⟨hK, hN⟩, hDc.weaken (fun _ _ _ _ => trivial)⟩⟩ rfl rfl hl.1 rfl (lv_room (Nat.le_of_ble_eq_true rfl)) d_sp_writeProduct_75 ⟨Nat.zero_le _, Nat.zero_le _⟩) hS (fun q _ h => hFc q h) hFc (fun r_10 _u t H1 locs1 ht hvm hw hB hz1 hk1 hS => ?_)
        obtain ⟨hP1, hD1⟩ := hB
        rw [ht] at hP1
        obtain ⟨hP, hD⟩ := va_join (wr := [(aA2, .inl (cs 0, nA2, .inl A2_6)), ((ad 12), .inr (4, [.ref (ad 3), .ref (ad 4), .ref (ad 18), .ref (ad 13), .ref (ad 14), .ref (ad 15), .ref (ad 16), .ref (ad 17), .int sp_degree, .int sp_size, .int sp_count])), ((ad 13), .inl (cs 0, 8001, .inl sp_coefficients)), ((ad 14), .inl (cs 0, 126, .inl sp_leads))]) (w1 := [((ad 4), .inr (2, [.ref (ad 5), .ref (ad 6), .ref (ad 7), .ref (ad 8), .int mn_variables, .int mn_order, .int mn_highest, .int mn_count])), ((ad 8), .inl (cs 0, 504, .inl mn_products))]) hP hD [1, 2] [0, 3, 4, 5] rfl rfl (by decide) (by decide) hk1 hFc hP1 hD1
        generalize H1 = H at hP hS ⊢
        generalize locs1 = locs at hS ⊢
        have hP : va_P (dC, dI) vwCl [(aA2, .inl (cs 0, nA2, .inl A2_6)), ((ad 12), .inr (4, [.ref (ad 3), .ref (ad 4), .ref (ad 18), .ref (ad 13), .ref (ad 14), .ref (ad 15), .ref (ad 16), .ref (ad 17), .int sp_degree, .int sp_size, .int sp_count])), ((ad 13), .inl (cs 0, 8001, .inl sp_coefficients)), ((ad 14), .inl (cs 0, 126, .inl sp_leads)), ((ad 4), .inr (2, [.ref (ad 5), .ref (ad 6), .ref (ad 7), .ref (ad 8), .int mn_variables, .int mn_order, .int mn_highest, .int mn_count])), ((ad 8), .inl (cs 0, 504, .inl mn_products))] H := hP
        have hD : va_D A [(aA2, .inl (cs 0, nA2, .inl A2_6)), ((ad 12), .inr (4, [.ref (ad 3), .ref (ad 4), .ref (ad 18), .ref (ad 13), .ref (ad 14), .ref (ad 15), .ref (ad 16), .ref (ad 17), .int sp_degree, .int sp_size, .int sp_count])), ((ad 13), .inl (cs 0, 8001, .inl sp_coefficients)), ((ad 14), .inl (cs 0, 126, .inl sp_leads)), ((ad 4), .inr (2, [.ref (ad 5), .ref (ad 6), .ref (ad 7), .ref (ad 8), .int mn_variables, .int mn_order, .int mn_highest, .int mn_count])), ((ad 8), .inl (cs 0, 504, .inl mn_products))] := hD
        have hv := hw
        try dsimp only at hv
        have hP9 := hP.sub (ws' := [(aA2, .inl (cs 0, nA2, .inl A2_6)), ((ad 4), .inr (2, [.ref (ad 5), .ref (ad 6), .ref (ad 7), .ref (ad 8), .int mn_variables, .int mn_order, .int mn_highest, .int mn_count])), ((ad 8), .inl (cs 0, 504, .inl mn_products)), ((ad 12), .inr (4, [.ref (ad 3), .ref (ad 4), .ref (ad 18), .ref (ad 13), .ref (ad 14), .ref (ad 15), .ref (ad 16), .ref (ad 17), .int sp_degree, .int sp_size, .int sp_count])), ((ad 13), .inl (cs 0, 8001, .inl sp_coefficients)), ((ad 14), .inl (cs 0, 126, .inl sp_leads))]) [0, 4, 5, 1, 2, 3] rfl
        have hD9 := hD.sub (ws' := [(aA2, .inl (cs 0, nA2, .inl A2_6)), ((ad 4), .inr (2, [.ref (ad 5), .ref (ad 6), .ref (ad 7), .ref (ad 8), .int mn_variables, .int mn_order, .int mn_highest, .int mn_count])), ((ad 8), .inl (cs 0, 504, .inl mn_products)), ((ad 12), .inr (4, [.ref (ad 3), .ref (ad 4), .ref (ad 18), .ref (ad 13), .ref (ad 14), .ref (ad 15), .ref (ad 16), .ref (ad 17), .int sp_degree, .int sp_size, .int sp_count])), ((ad 13), .inl (cs 0, 8001, .inl sp_coefficients)), ((ad 14), .inl (cs 0, 126, .inl sp_leads))]) [0, 4, 5, 1, 2, 3] (by decide) rfl
        exact W.iret (v := r_10) hx hb hr (fun t ht hW => ⟨⟨r_10, A2_6, rfl, hv, by rw [ht]; exact hP9, hD9⟩, hS.F ht⟩) hS.2.2 d_sp_writeProduct_78
      · have hv := hv.2 c_9
        refine lv_aload_n hx hb d_sp_writeProduct_30 rfl (lv_at hl 0 rfl) ?_
        refine va_get (D := (dC, dI)) (ci := 4) (v := .ref (ad 4)) (C := R_sp) (T := F_sp) (N := 11) hx hb hts in_sp hown hK hP 3 rfl rfl 1 (by decide) (hts _ kw_139) (fun _ h9 => h9) rfl d_sp_writeProduct_31 ?_
        refine lv_iload hx hb d_sp_writeProduct_34 (lv_at hl 6 rfl) ?_
        refine lv_iload_n hx hb d_sp_writeProduct_36 rfl (lv_at hl 2 rfl) ?_
        have hPc := hP.sub (ws' := [((ad 4), .inr (2, [.ref (ad 5), .ref (ad 6), .ref (ad 7), .ref (ad 8), .int mn_variables, .int mn_order, .int mn_highest, .int mn_count])), ((ad 8), .inl (cs 0, 504, .inl mn_products))]) [1, 2] rfl
        have hDc := hD.sub (ws' := [((ad 4), .inr (2, [.ref (ad 5), .ref (ad 6), .ref (ad 7), .ref (ad 8), .int mn_variables, .int mn_order, .int mn_highest, .int mn_count])), ((ad 8), .inl (cs 0, 504, .inl mn_products))]) [1, 2] (by decide) rfl
        have hFc := va_free (wc := [((ad 4), .inr (2, [.ref (ad 5), .ref (ad 6), .ref (ad 7), .ref (ad 8), .int mn_variables, .int mn_order, .int mn_highest, .int mn_count])), ((ad 8), .inl (cs 0, 504, .inl mn_products))]) hD hS hA [1, 2] rfl
        refine va_calli (va_runV (As := [.int x6_5, .int p1]) (rest := []) ⟨hx, hb, hml, hown, hts⟩ (c_mn_timesVariable l dC dI cs ad  H.size mn_variables mn_order mn_highest mn_count mn_products x6_5 p1 _ hv) (cwV 2 hts (gd_V kw_516 kw_517 kw_518 kw_34 kw_519) rfl rfl rfl (by decide +kernel) ⟨Nat.le_of_ble_eq_true rfl, Nat.le_of_ble_eq_true rfl⟩) ⟨fun a U g mk q => by obtain ⟨q0, q1, qP, qK, qD⟩ := q; exact ⟨q0, q1, qP, qK.call, qD⟩, va_recv hK hPc (ci := 2) (q0 := 0) rfl rfl, fun U hU hW => ⟨rfl, by rw [hU], by rw [hU]; exact hPc, vwK.warm hW ⟨hK, hN⟩, hDc.weaken (fun _ _ _ _ => trivial)⟩⟩ rfl rfl hl.1 rfl (lv_room (Nat.le_of_ble_eq_true rfl)) d_sp_writeProduct_37 ⟨Nat.zero_le _, Nat.zero_le _⟩) hS (fun q _ h => hFc q h) hFc (fun r_11 _u t H1 locs1 ht hvm hw hB hz1 hk1 hS => ?_)
        obtain ⟨hP1, hD1⟩ := hB
        rw [ht] at hP1
        obtain ⟨hP, hD⟩ := va_join (wr := [(aA2, .inl (cs 0, nA2, .inl A2_6)), ((ad 12), .inr (4, [.ref (ad 3), .ref (ad 4), .ref (ad 18), .ref (ad 13), .ref (ad 14), .ref (ad 15), .ref (ad 16), .ref (ad 17), .int sp_degree, .int sp_size, .int sp_count])), ((ad 13), .inl (cs 0, 8001, .inl sp_coefficients)), ((ad 14), .inl (cs 0, 126, .inl sp_leads))]) (w1 := [((ad 4), .inr (2, [.ref (ad 5), .ref (ad 6), .ref (ad 7), .ref (ad 8), .int mn_variables, .int mn_order, .int mn_highest, .int mn_count])), ((ad 8), .inl (cs 0, 504, .inl mn_products))]) hP hD [1, 2] [0, 3, 4, 5] rfl rfl (by decide) (by decide) hk1 hFc hP1 hD1
        generalize H1 = H at hP hS ⊢
        generalize locs1 = locs at hS ⊢
        have hP : va_P (dC, dI) vwCl [(aA2, .inl (cs 0, nA2, .inl A2_6)), ((ad 12), .inr (4, [.ref (ad 3), .ref (ad 4), .ref (ad 18), .ref (ad 13), .ref (ad 14), .ref (ad 15), .ref (ad 16), .ref (ad 17), .int sp_degree, .int sp_size, .int sp_count])), ((ad 13), .inl (cs 0, 8001, .inl sp_coefficients)), ((ad 14), .inl (cs 0, 126, .inl sp_leads)), ((ad 4), .inr (2, [.ref (ad 5), .ref (ad 6), .ref (ad 7), .ref (ad 8), .int mn_variables, .int mn_order, .int mn_highest, .int mn_count])), ((ad 8), .inl (cs 0, 504, .inl mn_products))] H := hP
        have hD : va_D A [(aA2, .inl (cs 0, nA2, .inl A2_6)), ((ad 12), .inr (4, [.ref (ad 3), .ref (ad 4), .ref (ad 18), .ref (ad 13), .ref (ad 14), .ref (ad 15), .ref (ad 16), .ref (ad 17), .int sp_degree, .int sp_size, .int sp_count])), ((ad 13), .inl (cs 0, 8001, .inl sp_coefficients)), ((ad 14), .inl (cs 0, 126, .inl sp_leads)), ((ad 4), .inr (2, [.ref (ad 5), .ref (ad 6), .ref (ad 7), .ref (ad 8), .int mn_variables, .int mn_order, .int mn_highest, .int mn_count])), ((ad 8), .inl (cs 0, 504, .inl mn_products))] := hD
        have hv := hw
        try dsimp only at hv
        refine lv_istore (lv' := [(7, .int r_11), (0, .ref (ad 12)), (1, .int p0), (2, .int p1), (3, .ref aA2), (4, .int x4_2), (5, .int r_3), (6, .int x6_5)]) hx hb d_sp_writeProduct_40 hl (by decide) rfl (fun ls hl => ?_)
        refine lv_iload hx hb d_sp_writeProduct_42 (lv_at hl 0 rfl) ?_
        refine lv_iconst (v := (-1)) hx hb d_sp_writeProduct_44 (by decide) ?_
        refine lv_icmp_eq (tgt := 62) hx hb d_sp_writeProduct_45 (by decide) (fun c_12 => ?_) (fun c_12 => ?_)
        · have hv := hv.1 c_12
          obtain ⟨x6_13, ex6_13⟩ : ∃ y : Int32, y = x6_5 + 1 := ⟨_, rfl⟩
          have hv := hv x6_13 ex6_13
          refine lv_iinc (v := x6_13) (lv' := [(6, .int x6_13), (7, .int r_11), (0, .ref (ad 12)), (1, .int p0), (2, .int p1), (3, .ref aA2), (4, .int x4_2), (5, .int r_3)]) hx hb d_sp_writeProduct_62 hl (k := 7) rfl (by rw [ex6_13]; rfl) (by decide) rfl (fun ls hl => ?_)
          refine lv_goto (tgt := 23) hx hb d_sp_writeProduct_65 (by decide) ?_
          exact ih23 x6_13 A2_6 (Nat.lt_of_lt_of_le hv.2 (Nat.le_of_lt_succ hlt23)) hv.1 _ _ _ (hP.sub [0, 4, 5, 1, 2, 3] rfl) (hD.sub [0, 4, 5, 1, 2, 3] (by decide) rfl) hS (lv_sub hl [2, 3, 4, 5, 6, 7, 0] rfl)
        · have hv := hv.2 c_12
          refine lv_aload_n hx hb d_sp_writeProduct_48 rfl (lv_at hl 4 rfl) ?_
          refine lv_iload hx hb d_sp_writeProduct_49 (lv_at hl 0 rfl) ?_
          refine lv_aload_n hx hb d_sp_writeProduct_51 rfl (lv_at hl 1 rfl) ?_
          refine va_get (D := (dC, dI)) (ci := 4) (v := .ref (ad 13)) (C := R_sp) (T := F_sp) (N := 11) hx hb hts in_sp hown hK hP 1 rfl rfl 3 (by decide) (hts _ kw_141) (fun _ h9 => h9) rfl d_sp_writeProduct_52 ?_
          refine lv_iload hx hb d_sp_writeProduct_55 (lv_at hl 6 rfl) ?_
          refine lv_iload hx hb d_sp_writeProduct_57 (lv_at hl 7 rfl) ?_
          refine lv_iadd hx hb d_sp_writeProduct_59 ?_
          obtain ⟨hi_14, hv⟩ := hv
          refine va_iald hx hb hK hP 2 0 rfl rfl hi_14 d_sp_writeProduct_60 ?_
          obtain ⟨hi_15, hv⟩ := hv
          refine va_iast hx hb hK hP hD hS 0 0 rfl rfl hi_15 d_sp_writeProduct_61 (fun H locs hP hD hS => ?_)
          have hP : va_P (dC, dI) vwCl [(aA2, .inl (cs 0, nA2, .inl (upd A2_6 r_11.toNatClampNeg (sp_coefficients ((r_3 + x6_5)).toNatClampNeg)))), ((ad 12), .inr (4, [.ref (ad 3), .ref (ad 4), .ref (ad 18), .ref (ad 13), .ref (ad 14), .ref (ad 15), .ref (ad 16), .ref (ad 17), .int sp_degree, .int sp_size, .int sp_count])), ((ad 13), .inl (cs 0, 8001, .inl sp_coefficients)), ((ad 14), .inl (cs 0, 126, .inl sp_leads)), ((ad 4), .inr (2, [.ref (ad 5), .ref (ad 6), .ref (ad 7), .ref (ad 8), .int mn_variables, .int mn_order, .int mn_highest, .int mn_count])), ((ad 8), .inl (cs 0, 504, .inl mn_products))] H := hP
          have hD : va_D A [(aA2, .inl (cs 0, nA2, .inl (upd A2_6 r_11.toNatClampNeg (sp_coefficients ((r_3 + x6_5)).toNatClampNeg)))), ((ad 12), .inr (4, [.ref (ad 3), .ref (ad 4), .ref (ad 18), .ref (ad 13), .ref (ad 14), .ref (ad 15), .ref (ad 16), .ref (ad 17), .int sp_degree, .int sp_size, .int sp_count])), ((ad 13), .inl (cs 0, 8001, .inl sp_coefficients)), ((ad 14), .inl (cs 0, 126, .inl sp_leads)), ((ad 4), .inr (2, [.ref (ad 5), .ref (ad 6), .ref (ad 7), .ref (ad 8), .int mn_variables, .int mn_order, .int mn_highest, .int mn_count])), ((ad 8), .inl (cs 0, 504, .inl mn_products))] := hD
          generalize eA2_16 : upd A2_6 r_11.toNatClampNeg (sp_coefficients ((r_3 + x6_5)).toNatClampNeg) = A2_16 at hP hD
          have hv := hv A2_16 eA2_16.symm
          obtain ⟨x6_17, ex6_17⟩ : ∃ y : Int32, y = x6_5 + 1 := ⟨_, rfl⟩
          have hv := hv x6_17 ex6_17
          refine lv_iinc (v := x6_17) (lv' := [(6, .int x6_17), (7, .int r_11), (0, .ref (ad 12)), (1, .int p0), (2, .int p1), (3, .ref aA2), (4, .int x4_2), (5, .int r_3)]) hx hb d_sp_writeProduct_62 hl (k := 7) rfl (by rw [ex6_17]; rfl) (by decide) rfl (fun ls hl => ?_)
          refine lv_goto (tgt := 23) hx hb d_sp_writeProduct_65 (by decide) ?_
          exact ih23 x6_17 A2_16 (Nat.lt_of_lt_of_le hv.2 (Nat.le_of_lt_succ hlt23)) hv.1 _ _ _ (hP.sub [0, 4, 5, 1, 2, 3] rfl) (hD.sub [0, 4, 5, 1, 2, 3] (by decide) rfl) hS (lv_sub hl [2, 3, 4, 5, 6, 7, 0] rfl)
  exact loop23 _ 0 A2_4 (Nat.lt_succ_self _) hi0 _ _ _ hP hD hS hl
abbrev b_sp_coefficientOf : ByteArray := prog_8_method_10_code
def y_sp_coefficientOf : MethodName := ⟨"SpaceBasis$Space", "coefficientOf", "(II)I"⟩
def w_sp_coefficientOf : List Cond := Cond.code y_sp_coefficientOf b_sp_coefficientOf 3 (some .int) :: vwWS
theorem d_sp_coefficientOf_0 : decode b_sp_coefficientOf 0 = .ok (.iload_n 2, 1) := by decide +kernel
theorem d_sp_coefficientOf_1 : decode b_sp_coefficientOf 1 = .ok (.aload_n 0, 1) := by decide +kernel
theorem d_sp_coefficientOf_2 : decode b_sp_coefficientOf 2 = .ok (.getfield 22, 3) := by decide +kernel
theorem d_sp_coefficientOf_5 : decode b_sp_coefficientOf 5 = .ok (.iload_n 1, 1) := by decide +kernel
theorem d_sp_coefficientOf_6 : decode b_sp_coefficientOf 6 = .ok (.iaload, 1) := by decide +kernel
theorem d_sp_coefficientOf_7 : decode b_sp_coefficientOf 7 = .ok (.if_icmp .gt 22, 3) := by decide +kernel
theorem d_sp_coefficientOf_10 : decode b_sp_coefficientOf 10 = .ok (.aload_n 0, 1) := by decide +kernel
theorem d_sp_coefficientOf_11 : decode b_sp_coefficientOf 11 = .ok (.getfield 18, 3) := by decide +kernel
theorem d_sp_coefficientOf_14 : decode b_sp_coefficientOf 14 = .ok (.aload_n 0, 1) := by decide +kernel
theorem d_sp_coefficientOf_15 : decode b_sp_coefficientOf 15 = .ok (.getfield 22, 3) := by decide +kernel
theorem d_sp_coefficientOf_18 : decode b_sp_coefficientOf 18 = .ok (.iload_n 1, 1) := by decide +kernel
theorem d_sp_coefficientOf_19 : decode b_sp_coefficientOf 19 = .ok (.iaload, 1) := by decide +kernel
theorem d_sp_coefficientOf_20 : decode b_sp_coefficientOf 20 = .ok (.invokestatic 110, 3) := by decide +kernel
theorem d_sp_coefficientOf_23 : decode b_sp_coefficientOf 23 = .ok (.iload_n 2, 1) := by decide +kernel
theorem d_sp_coefficientOf_24 : decode b_sp_coefficientOf 24 = .ok (.iadd, 1) := by decide +kernel
theorem d_sp_coefficientOf_25 : decode b_sp_coefficientOf 25 = .ok (.iaload, 1) := by decide +kernel
theorem d_sp_coefficientOf_26 : decode b_sp_coefficientOf 26 = .ok (.goto 4, 3) := by decide +kernel
theorem d_sp_coefficientOf_29 : decode b_sp_coefficientOf 29 = .ok (.iconst 0, 1) := by decide +kernel
theorem d_sp_coefficientOf_30 : decode b_sp_coefficientOf 30 = .ok (.ireturn, 1) := by decide +kernel
/-- SpaceBasis$Space.coefficientOf(II)I -/
def vc_sp_coefficientOf (sp_degree : Int32) (sp_size : Int32) (sp_count : Int32) (sp_coefficients : Nat → Int32) (sp_leads : Nat → Int32) (p0 : Int32) (p1 : Int32) (Q : Int32 → Prop) : Prop :=
  vp_in p0 126 ∧ ((((sp_leads p0.toNatClampNeg) < p1) → (Q 0)) ∧ ((¬ ((sp_leads p0.toNatClampNeg) < p1)) → (vp_in p0 126 ∧ vc_x_startOfLine (sp_leads p0.toNatClampNeg) (fun (r_4 : Int32) => vp_in (r_4 + p1) 8001 ∧ Q (sp_coefficients ((r_4 + p1)).toNatClampNeg)))))
abbrev at_sp_coefficientOf (dC : Nat → ClassId) (dI : Nat → Nat → Nat) (cs : Nat → ClassId) (A : Nat → Prop) (ad : Nat → Nat) (sp_degree : Int32) (sp_size : Int32) (sp_count : Int32) (sp_coefficients : Nat → Int32) (sp_leads : Nat → Int32) (u : Unit) (t : State) : Prop := match u with
  | _ => va_P (dC, dI) vwCl [((ad 12), .inr (4, [.ref (ad 3), .ref (ad 4), .ref (ad 18), .ref (ad 13), .ref (ad 14), .ref (ad 15), .ref (ad 16), .ref (ad 17), .int sp_degree, .int sp_size, .int sp_count])), ((ad 13), .inl (cs 0, 8001, .inl sp_coefficients)), ((ad 14), .inl (cs 0, 126, .inl sp_leads))] t.heap ∧ va_D A [((ad 12), .inr (4, [.ref (ad 3), .ref (ad 4), .ref (ad 18), .ref (ad 13), .ref (ad 14), .ref (ad 15), .ref (ad 16), .ref (ad 17), .int sp_degree, .int sp_size, .int sp_count])), ((ad 13), .inl (cs 0, 8001, .inl sp_coefficients)), ((ad 14), .inl (cs 0, 126, .inl sp_leads))]
set_option maxHeartbeats 4000000 in
set_option maxRecDepth 100000 in
theorem c_sp_coefficientOf (l : Launch) (dC : Nat → ClassId) (dI : Nat → Nat → Nat) (cs : Nat → ClassId) (ad : Nat → Nat)  (sz : Nat) (sp_degree : Int32) (sp_size : Int32) (sp_count : Int32) (sp_coefficients : Nat → Int32) (sp_leads : Nat → Int32) (p0 : Int32) (p1 : Int32) (Q : Int32 → Prop) (hv : vc_sp_coefficientOf sp_degree sp_size sp_count sp_coefficients sp_leads p0 p1 Q) : Met l y_sp_coefficientOf w_sp_coefficientOf ({ frames := 1, cells := 0, slots := 0, locals := 20 }) (va_Pc [.ref (ad 12), .int p0, .int p1] (fun U => U.heap.size = sz ∧ va_P (dC, dI) vwCl [((ad 12), .inr (4, [.ref (ad 3), .ref (ad 4), .ref (ad 18), .ref (ad 13), .ref (ad 14), .ref (ad 15), .ref (ad 16), .ref (ad 17), .int sp_degree, .int sp_size, .int sp_count])), ((ad 13), .inl (cs 0, 8001, .inl sp_coefficients)), ((ad 14), .inl (cs 0, 126, .inl sp_leads))] U.heap ∧ vwK dC dI cs U ∧ va_D (fun _ => True) [((ad 12), .inr (4, [.ref (ad 3), .ref (ad 4), .ref (ad 18), .ref (ad 13), .ref (ad 14), .ref (ad 15), .ref (ad 16), .ref (ad 17), .int sp_degree, .int sp_size, .int sp_count])), ((ad 13), .inl (cs 0, 8001, .inl sp_coefficients)), ((ad 14), .inl (cs 0, 126, .inl sp_leads))])) (va_Qi (fun (r : Int32) (u : Unit) => Q r) (at_sp_coefficientOf dC dI cs (va_A [((ad 12), .inr (4, [.ref (ad 3), .ref (ad 4), .ref (ad 18), .ref (ad 13), .ref (ad 14), .ref (ad 15), .ref (ad 16), .ref (ad 17), .int sp_degree, .int sp_size, .int sp_count])), ((ad 13), .inl (cs 0, 8001, .inl sp_coefficients)), ((ad 14), .inl (cs 0, 126, .inl sp_leads))] sz) ad sp_degree sp_size sp_count sp_coefficients sp_leads) (va_A [((ad 12), .inr (4, [.ref (ad 3), .ref (ad 4), .ref (ad 18), .ref (ad 13), .ref (ad 14), .ref (ad 15), .ref (ad 16), .ref (ad 17), .int sp_degree, .int sp_size, .int sp_count])), ((ad 13), .inl (cs 0, 8001, .inl sp_coefficients)), ((ad 14), .inl (cs 0, 126, .inl sp_leads))] sz)) 0 0 (va_A [((ad 12), .inr (4, [.ref (ad 3), .ref (ad 4), .ref (ad 18), .ref (ad 13), .ref (ad 14), .ref (ad 15), .ref (ad 16), .ref (ad 17), .int sp_degree, .int sp_size, .int sp_count])), ((ad 13), .inl (cs 0, 8001, .inl sp_coefficients)), ((ad 14), .inl (cs 0, 126, .inl sp_leads))] sz) := by
  unfold vc_sp_coefficientOf at hv
  refine Met.ofW (cc := b_sp_coefficientOf) (maxL := 3) (ret := (some .int)) (by decide) rfl ?_
  intro p e s m args below meth c s₁ B hml hpc
  obtain ⟨rfl, hsz, hP, ⟨hK, hN⟩, hD0⟩ := hpc
  have hx := B.exec
  have hb := B.bytes
  have hr := B.returns
  have hts : ∀ w ∈ vwWS, w.before _ s = true := fun w h => atoms_spec (ws := w_sp_coefficientOf) B.pre w (List.mem_cons_of_mem _ h)
  have hown : s.vm.findClass "SpaceBasis$Space" = some m.cls := findClass_of_methodNamed B.named
  have hlocks := B.notSynchronized
  subst hsz
  have hD := hD0.self (sz := s.heap.size)
  generalize hAe : va_A [((ad 12), .inr (4, [.ref (ad 3), .ref (ad 4), .ref (ad 18), .ref (ad 13), .ref (ad 14), .ref (ad 15), .ref (ad 16), .ref (ad 17), .int sp_degree, .int sp_size, .int sp_count])), ((ad 13), .inl (cs 0, 8001, .inl sp_coefficients)), ((ad 14), .inl (cs 0, 126, .inl sp_leads))] s.heap.size = A at hD ⊢
  have hA : ∀ q : Nat, s.heap.size ≤ q → A q := fun q h => by rw [← hAe]; exact Or.inr h
  have hS : va_S A s.heap s.heap [] := va_S.rf
  have hl := lv_entry ([.ref (ad 12), .int p0, .int p1]) (n := 3) (Nat.le_of_ble_eq_true rfl)
  rw [lg_entry_eq]
  generalize (lg_sl ([.ref (ad 12), .int p0, .int p1]) ++ List.replicate (3 - (lg_sl ([.ref (ad 12), .int p0, .int p1])).length) Slot.unset).toArray = ls at hl ⊢
  have hl : lv_has ls 3 [(0, .ref (ad 12)), (1, .int p0), (2, .int p1)] := hl
  refine lv_iload_n hx hb d_sp_coefficientOf_0 rfl (lv_at hl 2 rfl) ?_
  refine lv_aload_n hx hb d_sp_coefficientOf_1 rfl (lv_at hl 0 rfl) ?_
  refine va_get (D := (dC, dI)) (ci := 4) (v := .ref (ad 14)) (C := R_sp) (T := F_sp) (N := 11) hx hb hts in_sp hown hK hP 0 rfl rfl 4 (by decide) (hts _ kw_142) (fun _ h9 => h9) rfl d_sp_coefficientOf_2 ?_
  refine lv_iload_n hx hb d_sp_coefficientOf_5 rfl (lv_at hl 1 rfl) ?_
  obtain ⟨hi_1, hv⟩ := hv
  refine va_iald hx hb hK hP 2 0 rfl rfl hi_1 d_sp_coefficientOf_6 ?_
  refine lv_icmp_gt (tgt := 29) hx hb d_sp_coefficientOf_7 (by decide) (fun c_2 => ?_) (fun c_2 => ?_)
  · have hv := hv.1 c_2
    refine lv_iconst (v := 0) hx hb d_sp_coefficientOf_29 (by decide) ?_
    have hP9 := hP.sub (ws' := [((ad 12), .inr (4, [.ref (ad 3), .ref (ad 4), .ref (ad 18), .ref (ad 13), .ref (ad 14), .ref (ad 15), .ref (ad 16), .ref (ad 17), .int sp_degree, .int sp_size, .int sp_count])), ((ad 13), .inl (cs 0, 8001, .inl sp_coefficients)), ((ad 14), .inl (cs 0, 126, .inl sp_leads))]) [0, 1, 2] rfl
    have hD9 := hD.sub (ws' := [((ad 12), .inr (4, [.ref (ad 3), .ref (ad 4), .ref (ad 18), .ref (ad 13), .ref (ad 14), .ref (ad 15), .ref (ad 16), .ref (ad 17), .int sp_degree, .int sp_size, .int sp_count])), ((ad 13), .inl (cs 0, 8001, .inl sp_coefficients)), ((ad 14), .inl (cs 0, 126, .inl sp_leads))]) [0, 1, 2] (by decide) rfl
    exact W.iret (v := 0) hx hb hr (fun t ht hW => ⟨⟨0, (), rfl, hv, by rw [ht]; exact hP9, hD9⟩, hS.F ht⟩) hS.2.2 d_sp_coefficientOf_30
  · have hv := hv.2 c_2
    refine lv_aload_n hx hb d_sp_coefficientOf_10 rfl (lv_at hl 0 rfl) ?_
    refine va_get (D := (dC, dI)) (ci := 4) (v := .ref (ad 13)) (C := R_sp) (T := F_sp) (N := 11) hx hb hts in_sp hown hK hP 0 rfl rfl 3 (by decide) (hts _ kw_141) (fun _ h9 => h9) rfl d_sp_coefficientOf_11 ?_
    refine lv_aload_n hx hb d_sp_coefficientOf_14 rfl (lv_at hl 0 rfl) ?_
    refine va_get (D := (dC, dI)) (ci := 4) (v := .ref (ad 14)) (C := R_sp) (T := F_sp) (N := 11) hx hb hts in_sp hown hK hP 0 rfl rfl 4 (by decide) (hts _ kw_142) (fun _ h9 => h9) rfl d_sp_coefficientOf_15 ?_
    refine lv_iload_n hx hb d_sp_coefficientOf_18 rfl (lv_at hl 1 rfl) ?_
    obtain ⟨hi_3, hv⟩ := hv
    refine va_iald hx hb hK hP 2 0 rfl rfl hi_3 d_sp_coefficientOf_19 ?_
    have hPc := hP.sub (ws' := []) [] rfl
    have hDc := hD.sub (ws' := []) [] (by decide) rfl
    have hFc := va_free (wc := []) hD hS hA [] rfl
    refine va_calli (va_runSN (As := [.int (sp_leads p0.toNatClampNeg)]) (rest := [.ref (ad 13)]) ⟨hx, hb, hml, hown, hts⟩ (c_x_startOfLine l dC dI cs ad  s.heap.size (sp_leads p0.toNatClampNeg) _ hv) ⟨va_cnB 1 hts (gd_c kw_311) rfl rfl rfl (hN _ kn_41) (hts _ kw_32) (by decide +kernel) ⟨Nat.le_of_ble_eq_true rfl, Nat.le_of_ble_eq_true rfl⟩, hts _ kw_310, trivial⟩ ⟨fun a U g mk q => by obtain ⟨q0, q1, qP, qK, qD⟩ := q; exact ⟨q0, q1, qP, qK.call, qD⟩, fun U hU hW => ⟨rfl, by rw [hU], by rw [hU]; exact hPc, vwK.warm hW ⟨hK, hN⟩, hDc.weaken (fun _ _ _ _ => trivial)⟩⟩ rfl rfl hl.1 rfl (lv_room (Nat.le_of_ble_eq_true rfl)) d_sp_coefficientOf_20 ⟨Nat.zero_le _, Nat.zero_le _⟩) hS (fun q _ h => hFc q h) hFc (fun r_4 _u t H1 locs1 ht hvm hw hB hz1 hk1 hS => ?_)
    obtain ⟨hP1, hD1⟩ := hB
    rw [ht] at hP1
    obtain ⟨hP, hD⟩ := va_join (wr := [((ad 12), .inr (4, [.ref (ad 3), .ref (ad 4), .ref (ad 18), .ref (ad 13), .ref (ad 14), .ref (ad 15), .ref (ad 16), .ref (ad 17), .int sp_degree, .int sp_size, .int sp_count])), ((ad 13), .inl (cs 0, 8001, .inl sp_coefficients)), ((ad 14), .inl (cs 0, 126, .inl sp_leads))]) (w1 := []) hP hD [] [0, 1, 2] rfl rfl (by decide) (by decide) hk1 hFc hP1 hD1
    generalize H1 = H at hP hS ⊢
    generalize locs1 = locs at hS ⊢
    have hP : va_P (dC, dI) vwCl [((ad 12), .inr (4, [.ref (ad 3), .ref (ad 4), .ref (ad 18), .ref (ad 13), .ref (ad 14), .ref (ad 15), .ref (ad 16), .ref (ad 17), .int sp_degree, .int sp_size, .int sp_count])), ((ad 13), .inl (cs 0, 8001, .inl sp_coefficients)), ((ad 14), .inl (cs 0, 126, .inl sp_leads))] H := hP
    have hD : va_D A [((ad 12), .inr (4, [.ref (ad 3), .ref (ad 4), .ref (ad 18), .ref (ad 13), .ref (ad 14), .ref (ad 15), .ref (ad 16), .ref (ad 17), .int sp_degree, .int sp_size, .int sp_count])), ((ad 13), .inl (cs 0, 8001, .inl sp_coefficients)), ((ad 14), .inl (cs 0, 126, .inl sp_leads))] := hD
    have hv := hw
    try dsimp only at hv
    refine lv_iload_n hx hb d_sp_coefficientOf_23 rfl (lv_at hl 2 rfl) ?_
    refine lv_iadd hx hb d_sp_coefficientOf_24 ?_
    obtain ⟨hi_5, hv⟩ := hv
    refine va_iald hx hb hK hP 1 0 rfl rfl hi_5 d_sp_coefficientOf_25 ?_
    refine lv_goto (tgt := 30) hx hb d_sp_coefficientOf_26 (by decide) ?_
    have hP9 := hP.sub (ws' := [((ad 12), .inr (4, [.ref (ad 3), .ref (ad 4), .ref (ad 18), .ref (ad 13), .ref (ad 14), .ref (ad 15), .ref (ad 16), .ref (ad 17), .int sp_degree, .int sp_size, .int sp_count])), ((ad 13), .inl (cs 0, 8001, .inl sp_coefficients)), ((ad 14), .inl (cs 0, 126, .inl sp_leads))]) [0, 1, 2] rfl
    have hD9 := hD.sub (ws' := [((ad 12), .inr (4, [.ref (ad 3), .ref (ad 4), .ref (ad 18), .ref (ad 13), .ref (ad 14), .ref (ad 15), .ref (ad 16), .ref (ad 17), .int sp_degree, .int sp_size, .int sp_count])), ((ad 13), .inl (cs 0, 8001, .inl sp_coefficients)), ((ad 14), .inl (cs 0, 126, .inl sp_leads))]) [0, 1, 2] (by decide) rfl
    exact W.iret (v := (sp_coefficients ((r_4 + p1)).toNatClampNeg)) hx hb hr (fun t ht hW => ⟨⟨(sp_coefficients ((r_4 + p1)).toNatClampNeg), (), rfl, hv, by rw [ht]; exact hP9, hD9⟩, hS.F ht⟩) hS.2.2 d_sp_coefficientOf_30
abbrev b_sp_standardOfDegree : ByteArray := prog_8_method_11_code
def y_sp_standardOfDegree : MethodName := ⟨"SpaceBasis$Space", "standardOfDegree", "(I)I"⟩
def w_sp_standardOfDegree : List Cond := Cond.code y_sp_standardOfDegree b_sp_standardOfDegree 4 (some .int) :: vwWS
theorem d_sp_standardOfDegree_0 : decode b_sp_standardOfDegree 0 = .ok (.iconst 0, 1) := by decide +kernel
theorem d_sp_standardOfDegree_1 : decode b_sp_standardOfDegree 1 = .ok (.istore_n 2, 1) := by decide +kernel
theorem d_sp_standardOfDegree_2 : decode b_sp_standardOfDegree 2 = .ok (.aload_n 0, 1) := by decide +kernel
theorem d_sp_standardOfDegree_3 : decode b_sp_standardOfDegree 3 = .ok (.getfield 42, 3) := by decide +kernel
theorem d_sp_standardOfDegree_6 : decode b_sp_standardOfDegree 6 = .ok (.getfield 52, 3) := by decide +kernel
theorem d_sp_standardOfDegree_9 : decode b_sp_standardOfDegree 9 = .ok (.iload_n 1, 1) := by decide +kernel
theorem d_sp_standardOfDegree_10 : decode b_sp_standardOfDegree 10 = .ok (.iaload, 1) := by decide +kernel
theorem d_sp_standardOfDegree_11 : decode b_sp_standardOfDegree 11 = .ok (.istore_n 3, 1) := by decide +kernel
theorem d_sp_standardOfDegree_12 : decode b_sp_standardOfDegree 12 = .ok (.iload_n 3, 1) := by decide +kernel
theorem d_sp_standardOfDegree_13 : decode b_sp_standardOfDegree 13 = .ok (.aload_n 0, 1) := by decide +kernel
theorem d_sp_standardOfDegree_14 : decode b_sp_standardOfDegree 14 = .ok (.getfield 42, 3) := by decide +kernel
theorem d_sp_standardOfDegree_17 : decode b_sp_standardOfDegree 17 = .ok (.getfield 52, 3) := by decide +kernel
theorem d_sp_standardOfDegree_20 : decode b_sp_standardOfDegree 20 = .ok (.iload_n 1, 1) := by decide +kernel
theorem d_sp_standardOfDegree_21 : decode b_sp_standardOfDegree 21 = .ok (.iconst 1, 1) := by decide +kernel
theorem d_sp_standardOfDegree_22 : decode b_sp_standardOfDegree 22 = .ok (.iadd, 1) := by decide +kernel
theorem d_sp_standardOfDegree_23 : decode b_sp_standardOfDegree 23 = .ok (.iaload, 1) := by decide +kernel
theorem d_sp_standardOfDegree_24 : decode b_sp_standardOfDegree 24 = .ok (.if_icmp .ge 20, 3) := by decide +kernel
theorem d_sp_standardOfDegree_27 : decode b_sp_standardOfDegree 27 = .ok (.aload_n 0, 1) := by decide +kernel
theorem d_sp_standardOfDegree_28 : decode b_sp_standardOfDegree 28 = .ok (.iload_n 3, 1) := by decide +kernel
theorem d_sp_standardOfDegree_29 : decode b_sp_standardOfDegree 29 = .ok (.invokevirtual 131, 3) := by decide +kernel
theorem d_sp_standardOfDegree_32 : decode b_sp_standardOfDegree 32 = .ok (.ifCond .ne 6, 3) := by decide +kernel
theorem d_sp_standardOfDegree_35 : decode b_sp_standardOfDegree 35 = .ok (.iinc 2 1, 3) := by decide +kernel
theorem d_sp_standardOfDegree_38 : decode b_sp_standardOfDegree 38 = .ok (.iinc 3 1, 3) := by decide +kernel
theorem d_sp_standardOfDegree_41 : decode b_sp_standardOfDegree 41 = .ok (.goto (-29), 3) := by decide +kernel
theorem d_sp_standardOfDegree_44 : decode b_sp_standardOfDegree 44 = .ok (.iload_n 2, 1) := by decide +kernel
theorem d_sp_standardOfDegree_45 : decode b_sp_standardOfDegree 45 = .ok (.ireturn, 1) := by decide +kernel
/-- SpaceBasis$Space.standardOfDegree(I)I -/
def vc_sp_standardOfDegree (mn_variables : Int32) (mn_order : Int32) (mn_highest : Int32) (mn_count : Int32) (mn_firstOfDegree : Nat → Int32) (sp_degree : Int32) (sp_size : Int32) (sp_count : Int32) (sp_rowOfLead : Nat → Int32) (p0 : Int32) (Q : Int32 → Prop) : Prop :=
  vp_in p0 32 ∧ ∀ x3_2 : Int32, x3_2 = (mn_firstOfDegree p0.toNatClampNeg) → ∃ (I12_5 : Int32 → Int32 → Prop) (mu12_6 : Int32 → Int32 → Nat), I12_5 0 x3_2 ∧ ∀ (x2_3 : Int32) (x3_4 : Int32), I12_5 x2_3 x3_4 → (vp_in (p0 + 1) 32 ∧ ((((mn_firstOfDegree ((p0 + 1)).toNatClampNeg) ≤ x3_4) → (Q x2_3)) ∧ ((¬ ((mn_firstOfDegree ((p0 + 1)).toNatClampNeg) ≤ x3_4)) → (vc_sp_isLead sp_degree sp_size sp_count sp_rowOfLead x3_4 (fun (r_9 : Int32) => (((¬ (r_9 = 0)) → (∀ x3_11 : Int32, x3_11 = x3_4 + 1 → (I12_5 x2_3 x3_11 ∧ mu12_6 x2_3 x3_11 < mu12_6 x2_3 x3_4))) ∧ ((r_9 = 0) → (∀ x2_12 : Int32, x2_12 = x2_3 + 1 → ∀ x3_13 : Int32, x3_13 = x3_4 + 1 → (I12_5 x2_12 x3_13 ∧ mu12_6 x2_12 x3_13 < mu12_6 x2_3 x3_4)))))))))
abbrev at_sp_standardOfDegree (dC : Nat → ClassId) (dI : Nat → Nat → Nat) (cs : Nat → ClassId) (A : Nat → Prop) (ad : Nat → Nat) (mn_variables : Int32) (mn_order : Int32) (mn_highest : Int32) (mn_count : Int32) (mn_firstOfDegree : Nat → Int32) (sp_degree : Int32) (sp_size : Int32) (sp_count : Int32) (sp_rowOfLead : Nat → Int32) (u : Unit) (t : State) : Prop := match u with
  | _ => va_P (dC, dI) vwCl [((ad 4), .inr (2, [.ref (ad 5), .ref (ad 6), .ref (ad 7), .ref (ad 8), .int mn_variables, .int mn_order, .int mn_highest, .int mn_count])), ((ad 7), .inl (cs 0, 32, .inl mn_firstOfDegree)), ((ad 12), .inr (4, [.ref (ad 3), .ref (ad 4), .ref (ad 18), .ref (ad 13), .ref (ad 14), .ref (ad 15), .ref (ad 16), .ref (ad 17), .int sp_degree, .int sp_size, .int sp_count])), ((ad 15), .inl (cs 0, 126, .inl sp_rowOfLead))] t.heap ∧ va_D A [((ad 4), .inr (2, [.ref (ad 5), .ref (ad 6), .ref (ad 7), .ref (ad 8), .int mn_variables, .int mn_order, .int mn_highest, .int mn_count])), ((ad 7), .inl (cs 0, 32, .inl mn_firstOfDegree)), ((ad 12), .inr (4, [.ref (ad 3), .ref (ad 4), .ref (ad 18), .ref (ad 13), .ref (ad 14), .ref (ad 15), .ref (ad 16), .ref (ad 17), .int sp_degree, .int sp_size, .int sp_count])), ((ad 15), .inl (cs 0, 126, .inl sp_rowOfLead))]
set_option maxHeartbeats 4000000 in
set_option maxRecDepth 100000 in
theorem c_sp_standardOfDegree (l : Launch) (dC : Nat → ClassId) (dI : Nat → Nat → Nat) (cs : Nat → ClassId) (ad : Nat → Nat)  (sz : Nat) (mn_variables : Int32) (mn_order : Int32) (mn_highest : Int32) (mn_count : Int32) (mn_firstOfDegree : Nat → Int32) (sp_degree : Int32) (sp_size : Int32) (sp_count : Int32) (sp_rowOfLead : Nat → Int32) (p0 : Int32) (Q : Int32 → Prop) (hv : vc_sp_standardOfDegree mn_variables mn_order mn_highest mn_count mn_firstOfDegree sp_degree sp_size sp_count sp_rowOfLead p0 Q) : Met l y_sp_standardOfDegree w_sp_standardOfDegree ({ frames := 1, cells := 0, slots := 0, locals := 21 }) (va_Pc [.ref (ad 12), .int p0] (fun U => U.heap.size = sz ∧ va_P (dC, dI) vwCl [((ad 4), .inr (2, [.ref (ad 5), .ref (ad 6), .ref (ad 7), .ref (ad 8), .int mn_variables, .int mn_order, .int mn_highest, .int mn_count])), ((ad 7), .inl (cs 0, 32, .inl mn_firstOfDegree)), ((ad 12), .inr (4, [.ref (ad 3), .ref (ad 4), .ref (ad 18), .ref (ad 13), .ref (ad 14), .ref (ad 15), .ref (ad 16), .ref (ad 17), .int sp_degree, .int sp_size, .int sp_count])), ((ad 15), .inl (cs 0, 126, .inl sp_rowOfLead))] U.heap ∧ vwK dC dI cs U ∧ va_D (fun _ => True) [((ad 4), .inr (2, [.ref (ad 5), .ref (ad 6), .ref (ad 7), .ref (ad 8), .int mn_variables, .int mn_order, .int mn_highest, .int mn_count])), ((ad 7), .inl (cs 0, 32, .inl mn_firstOfDegree)), ((ad 12), .inr (4, [.ref (ad 3), .ref (ad 4), .ref (ad 18), .ref (ad 13), .ref (ad 14), .ref (ad 15), .ref (ad 16), .ref (ad 17), .int sp_degree, .int sp_size, .int sp_count])), ((ad 15), .inl (cs 0, 126, .inl sp_rowOfLead))])) (va_Qi (fun (r : Int32) (u : Unit) => Q r) (at_sp_standardOfDegree dC dI cs (va_A [((ad 4), .inr (2, [.ref (ad 5), .ref (ad 6), .ref (ad 7), .ref (ad 8), .int mn_variables, .int mn_order, .int mn_highest, .int mn_count])), ((ad 7), .inl (cs 0, 32, .inl mn_firstOfDegree)), ((ad 12), .inr (4, [.ref (ad 3), .ref (ad 4), .ref (ad 18), .ref (ad 13), .ref (ad 14), .ref (ad 15), .ref (ad 16), .ref (ad 17), .int sp_degree, .int sp_size, .int sp_count])), ((ad 15), .inl (cs 0, 126, .inl sp_rowOfLead))] sz) ad mn_variables mn_order mn_highest mn_count mn_firstOfDegree sp_degree sp_size sp_count sp_rowOfLead) (va_A [((ad 4), .inr (2, [.ref (ad 5), .ref (ad 6), .ref (ad 7), .ref (ad 8), .int mn_variables, .int mn_order, .int mn_highest, .int mn_count])), ((ad 7), .inl (cs 0, 32, .inl mn_firstOfDegree)), ((ad 12), .inr (4, [.ref (ad 3), .ref (ad 4), .ref (ad 18), .ref (ad 13), .ref (ad 14), .ref (ad 15), .ref (ad 16), .ref (ad 17), .int sp_degree, .int sp_size, .int sp_count])), ((ad 15), .inl (cs 0, 126, .inl sp_rowOfLead))] sz)) 0 0 (va_A [((ad 4), .inr (2, [.ref (ad 5), .ref (ad 6), .ref (ad 7), .ref (ad 8), .int mn_variables, .int mn_order, .int mn_highest, .int mn_count])), ((ad 7), .inl (cs 0, 32, .inl mn_firstOfDegree)), ((ad 12), .inr (4, [.ref (ad 3), .ref (ad 4), .ref (ad 18), .ref (ad 13), .ref (ad 14), .ref (ad 15), .ref (ad 16), .ref (ad 17), .int sp_degree, .int sp_size, .int sp_count])), ((ad 15), .inl (cs 0, 126, .inl sp_rowOfLead))] sz) := by
  unfold vc_sp_standardOfDegree at hv
  refine Met.ofW (cc := b_sp_standardOfDegree) (maxL := 4) (ret := (some .int)) (by decide) rfl ?_
  intro p e s m args below meth c s₁ B hml hpc
  obtain ⟨rfl, hsz, hP, ⟨hK, hN⟩, hD0⟩ := hpc
  have hx := B.exec
  have hb := B.bytes
  have hr := B.returns
  have hts : ∀ w ∈ vwWS, w.before _ s = true := fun w h => atoms_spec (ws := w_sp_standardOfDegree) B.pre w (List.mem_cons_of_mem _ h)
  have hown : s.vm.findClass "SpaceBasis$Space" = some m.cls := findClass_of_methodNamed B.named
  have hlocks := B.notSynchronized
  subst hsz
  have hD := hD0.self (sz := s.heap.size)
  generalize hAe : va_A [((ad 4), .inr (2, [.ref (ad 5), .ref (ad 6), .ref (ad 7), .ref (ad 8), .int mn_variables, .int mn_order, .int mn_highest, .int mn_count])), ((ad 7), .inl (cs 0, 32, .inl mn_firstOfDegree)), ((ad 12), .inr (4, [.ref (ad 3), .ref (ad 4), .ref (ad 18), .ref (ad 13), .ref (ad 14), .ref (ad 15), .ref (ad 16), .ref (ad 17), .int sp_degree, .int sp_size, .int sp_count])), ((ad 15), .inl (cs 0, 126, .inl sp_rowOfLead))] s.heap.size = A at hD ⊢
  have hA : ∀ q : Nat, s.heap.size ≤ q → A q := fun q h => by rw [← hAe]; exact Or.inr h
  have hS : va_S A s.heap s.heap [] := va_S.rf
  have hl := lv_entry ([.ref (ad 12), .int p0]) (n := 4) (Nat.le_of_ble_eq_true rfl)
  rw [lg_entry_eq]
  generalize (lg_sl ([.ref (ad 12), .int p0]) ++ List.replicate (4 - (lg_sl ([.ref (ad 12), .int p0])).length) Slot.unset).toArray = ls at hl ⊢
  have hl : lv_has ls 4 [(0, .ref (ad 12)), (1, .int p0)] := hl
  refine lv_iconst (v := 0) hx hb d_sp_standardOfDegree_0 (by decide) ?_
  refine lv_istore_n (lv' := [(2, .int 0), (0, .ref (ad 12)), (1, .int p0)]) hx hb d_sp_standardOfDegree_1 rfl hl (by decide) rfl (fun ls hl => ?_)
  refine lv_aload_n hx hb d_sp_standardOfDegree_2 rfl (lv_at hl 1 rfl) ?_
  refine va_get (D := (dC, dI)) (ci := 4) (v := .ref (ad 4)) (C := R_sp) (T := F_sp) (N := 11) hx hb hts in_sp hown hK hP 2 rfl rfl 1 (by decide) (hts _ kw_139) (fun _ h9 => h9) rfl d_sp_standardOfDegree_3 ?_
  refine va_getN (D := (dC, dI)) (ci := 2) (v := .ref (ad 7)) (C := R_mn) (T := F_mn) (N := 8) hx hb hts in_mn hown hK hP 0 rfl rfl 2 (by decide) (va_Nw.use rfl (hN _ kn_7)) (fun _ h9 => h9) rfl d_sp_standardOfDegree_6 ?_
  refine lv_iload_n hx hb d_sp_standardOfDegree_9 rfl (lv_at hl 2 rfl) ?_
  obtain ⟨hi_1, hv⟩ := hv
  refine va_iald hx hb hK hP 1 0 rfl rfl hi_1 d_sp_standardOfDegree_10 ?_
  refine lv_topi (fun x3_2 ex3_2 => ?_)
  have hv := hv x3_2 ex3_2
  refine lv_istore_n (lv' := [(3, .int x3_2), (2, .int 0), (0, .ref (ad 12)), (1, .int p0)]) hx hb d_sp_standardOfDegree_11 rfl hl (by decide) rfl (fun ls hl => ?_)
  obtain ⟨I12_5, mu12_6, hi0, hv⟩ := hv
  have hP := hP.sub (ws' := [((ad 4), .inr (2, [.ref (ad 5), .ref (ad 6), .ref (ad 7), .ref (ad 8), .int mn_variables, .int mn_order, .int mn_highest, .int mn_count])), ((ad 7), .inl (cs 0, 32, .inl mn_firstOfDegree)), ((ad 12), .inr (4, [.ref (ad 3), .ref (ad 4), .ref (ad 18), .ref (ad 13), .ref (ad 14), .ref (ad 15), .ref (ad 16), .ref (ad 17), .int sp_degree, .int sp_size, .int sp_count])), ((ad 15), .inl (cs 0, 126, .inl sp_rowOfLead))]) [0, 1, 2, 3] rfl
  have hD := hD.sub (ws' := [((ad 4), .inr (2, [.ref (ad 5), .ref (ad 6), .ref (ad 7), .ref (ad 8), .int mn_variables, .int mn_order, .int mn_highest, .int mn_count])), ((ad 7), .inl (cs 0, 32, .inl mn_firstOfDegree)), ((ad 12), .inr (4, [.ref (ad 3), .ref (ad 4), .ref (ad 18), .ref (ad 13), .ref (ad 14), .ref (ad 15), .ref (ad 16), .ref (ad 17), .int sp_degree, .int sp_size, .int sp_count])), ((ad 15), .inl (cs 0, 126, .inl sp_rowOfLead))]) [0, 1, 2, 3] (by decide) rfl
  have hl := lv_sub (l' := [(0, .ref (ad 12)), (1, .int p0), (2, .int 0), (3, .int x3_2)]) hl [2, 3, 1, 0] rfl
  have loop12 : ∀ (nn : Nat) (x2_3 : Int32) (x3_4 : Int32), mu12_6 x2_3 x3_4 < nn → I12_5 x2_3 x3_4 → ∀ (H : Heap) (locs : List Loc) (ls : Array Slot), va_P (dC, dI) vwCl [((ad 4), .inr (2, [.ref (ad 5), .ref (ad 6), .ref (ad 7), .ref (ad 8), .int mn_variables, .int mn_order, .int mn_highest, .int mn_count])), ((ad 7), .inl (cs 0, 32, .inl mn_firstOfDegree)), ((ad 12), .inr (4, [.ref (ad 3), .ref (ad 4), .ref (ad 18), .ref (ad 13), .ref (ad 14), .ref (ad 15), .ref (ad 16), .ref (ad 17), .int sp_degree, .int sp_size, .int sp_count])), ((ad 15), .inl (cs 0, 126, .inl sp_rowOfLead))] H → va_D A [((ad 4), .inr (2, [.ref (ad 5), .ref (ad 6), .ref (ad 7), .ref (ad 8), .int mn_variables, .int mn_order, .int mn_highest, .int mn_count])), ((ad 7), .inl (cs 0, 32, .inl mn_firstOfDegree)), ((ad 12), .inr (4, [.ref (ad 3), .ref (ad 4), .ref (ad 18), .ref (ad 13), .ref (ad 14), .ref (ad 15), .ref (ad 16), .ref (ad 17), .int sp_degree, .int sp_size, .int sp_count])), ((ad 15), .inl (cs 0, 126, .inl sp_rowOfLead))] → va_S A s.heap H locs → lv_has ls 4 [(0, .ref (ad 12)), (1, .int p0), (2, .int x2_3), (3, .int x3_4)] → W p l e (headSpec w_sp_standardOfDegree { frames := 1, cells := 0, slots := 0, locals := 21 }).room s m ([.ref (ad 12), .int p0] : List Value).toArray below meth c H locs 0 0 (MQ below (va_Qi (fun (r : Int32) (u : Unit) => Q r) (at_sp_standardOfDegree dC dI cs A ad mn_variables mn_order mn_highest mn_count mn_firstOfDegree sp_degree sp_size sp_count sp_rowOfLead) A) ([.ref (ad 12), .int p0] : List Value).toArray s 0 0 A) (F0 m 12 ls []) := by
    intro nn
    induction nn with
    | zero => intro x2_3 x3_4 hlt; exact absurd hlt (Nat.not_lt_zero _)
    | succ nn ih12 =>
      intro x2_3 x3_4 hlt12 hI H locs ls hP hD hS hl
      have hv := hv x2_3 x3_4 hI
      refine lv_iload_n hx hb d_sp_standardOfDegree_12 rfl (lv_at hl 3 rfl) ?_
      refine lv_aload_n hx hb d_sp_standardOfDegree_13 rfl (lv_at hl 0 rfl) ?_
      refine va_get (D := (dC, dI)) (ci := 4) (v := .ref (ad 4)) (C := R_sp) (T := F_sp) (N := 11) hx hb hts in_sp hown hK hP 2 rfl rfl 1 (by decide) (hts _ kw_139) (fun _ h9 => h9) rfl d_sp_standardOfDegree_14 ?_
      refine va_getN (D := (dC, dI)) (ci := 2) (v := .ref (ad 7)) (C := R_mn) (T := F_mn) (N := 8) hx hb hts in_mn hown hK hP 0 rfl rfl 2 (by decide) (va_Nw.use rfl (hN _ kn_7)) (fun _ h9 => h9) rfl d_sp_standardOfDegree_17 ?_
      refine lv_iload_n hx hb d_sp_standardOfDegree_20 rfl (lv_at hl 1 rfl) ?_
      refine lv_iconst (v := 1) hx hb d_sp_standardOfDegree_21 (by decide) ?_
      refine lv_iadd hx hb d_sp_standardOfDegree_22 ?_
      obtain ⟨hi_7, hv⟩ := hv
      refine va_iald hx hb hK hP 1 0 rfl rfl hi_7 d_sp_standardOfDegree_23 ?_
      refine lv_icmp_ge (tgt := 44) hx hb d_sp_standardOfDegree_24 (by decide) (fun c_8 => ?_) (fun c_8 => ?_)
      · have hv := hv.1 c_8
        refine lv_iload_n hx hb d_sp_standardOfDegree_44 rfl (lv_at hl 2 rfl) ?_
        have hP9 := hP.sub (ws' := [((ad 4), .inr (2, [.ref (ad 5), .ref (ad 6), .ref (ad 7), .ref (ad 8), .int mn_variables, .int mn_order, .int mn_highest, .int mn_count])), ((ad 7), .inl (cs 0, 32, .inl mn_firstOfDegree)), ((ad 12), .inr (4, [.ref (ad 3), .ref (ad 4), .ref (ad 18), .ref (ad 13), .ref (ad 14), .ref (ad 15), .ref (ad 16), .ref (ad 17), .int sp_degree, .int sp_size, .int sp_count])), ((ad 15), .inl (cs 0, 126, .inl sp_rowOfLead))]) [0, 1, 2, 3] rfl
        have hD9 := hD.sub (ws' := [((ad 4), .inr (2, [.ref (ad 5), .ref (ad 6), .ref (ad 7), .ref (ad 8), .int mn_variables, .int mn_order, .int mn_highest, .int mn_count])), ((ad 7), .inl (cs 0, 32, .inl mn_firstOfDegree)), ((ad 12), .inr (4, [.ref (ad 3), .ref (ad 4), .ref (ad 18), .ref (ad 13), .ref (ad 14), .ref (ad 15), .ref (ad 16), .ref (ad 17), .int sp_degree, .int sp_size, .int sp_count])), ((ad 15), .inl (cs 0, 126, .inl sp_rowOfLead))]) [0, 1, 2, 3] (by decide) rfl
        exact W.iret (v := x2_3) hx hb hr (fun t ht hW => ⟨⟨x2_3, (), rfl, hv, by rw [ht]; exact hP9, hD9⟩, hS.F ht⟩) hS.2.2 d_sp_standardOfDegree_45
      · have hv := hv.2 c_8
        refine lv_aload_n hx hb d_sp_standardOfDegree_27 rfl (lv_at hl 0 rfl) ?_
        refine lv_iload_n hx hb d_sp_standardOfDegree_28 rfl (lv_at hl 3 rfl) ?_
        have hPc := hP.sub (ws' := [((ad 12), .inr (4, [.ref (ad 3), .ref (ad 4), .ref (ad 18), .ref (ad 13), .ref (ad 14), .ref (ad 15), .ref (ad 16), .ref (ad 17), .int sp_degree, .int sp_size, .int sp_count])), ((ad 15), .inl (cs 0, 126, .inl sp_rowOfLead))]) [2, 3] rfl
        have hDc := hD.sub (ws' := [((ad 12), .inr (4, [.ref (ad 3), .ref (ad 4), .ref (ad 18), .ref (ad 13), .ref (ad 14), .ref (ad 15), .ref (ad 16), .ref (ad 17), .int sp_degree, .int sp_size, .int sp_count])), ((ad 15), .inl (cs 0, 126, .inl sp_rowOfLead))]) [2, 3] (by decide) rfl
        have hFc := va_free (wc := [((ad 12), .inr (4, [.ref (ad 3), .ref (ad 4), .ref (ad 18), .ref (ad 13), .ref (ad 14), .ref (ad 15), .ref (ad 16), .ref (ad 17), .int sp_degree, .int sp_size, .int sp_count])), ((ad 15), .inl (cs 0, 126, .inl sp_rowOfLead))]) hD hS hA [2, 3] rfl
        refine va_calli (va_runV (As := [.int x3_4]) (rest := []) ⟨hx, hb, hml, hown, hts⟩ (c_sp_isLead l dC dI cs ad  H.size sp_degree sp_size sp_count sp_rowOfLead x3_4 _ hv) (cwV 1 hts (gd_V kw_344 kw_345 kw_346 kw_36 kw_347) rfl rfl rfl (by decide +kernel) ⟨Nat.le_of_ble_eq_true rfl, Nat.le_of_ble_eq_true rfl⟩) ⟨fun a U g mk q => by obtain ⟨q0, q1, qP, qK, qD⟩ := q; exact ⟨q0, q1, qP, qK.call, qD⟩, va_recv hK hPc (ci := 4) (q0 := 0) rfl rfl, fun U hU hW => ⟨rfl, by rw [hU], by rw [hU]; exact hPc, vwK.warm hW ⟨hK, hN⟩, hDc.weaken (fun _ _ _ _ => trivial)⟩⟩ rfl rfl hl.1 rfl (lv_room (Nat.le_of_ble_eq_true rfl)) d_sp_standardOfDegree_29 ⟨Nat.zero_le _, Nat.zero_le _⟩) hS (fun q _ h => hFc q h) hFc (fun r_9 _u t H1 locs1 ht hvm hw hB hz1 hk1 hS => ?_)
        obtain ⟨hP1, hD1⟩ := hB
        rw [ht] at hP1
        obtain ⟨hP, hD⟩ := va_join (wr := [((ad 4), .inr (2, [.ref (ad 5), .ref (ad 6), .ref (ad 7), .ref (ad 8), .int mn_variables, .int mn_order, .int mn_highest, .int mn_count])), ((ad 7), .inl (cs 0, 32, .inl mn_firstOfDegree))]) (w1 := [((ad 12), .inr (4, [.ref (ad 3), .ref (ad 4), .ref (ad 18), .ref (ad 13), .ref (ad 14), .ref (ad 15), .ref (ad 16), .ref (ad 17), .int sp_degree, .int sp_size, .int sp_count])), ((ad 15), .inl (cs 0, 126, .inl sp_rowOfLead))]) hP hD [2, 3] [0, 1] rfl rfl (by decide) (by decide) hk1 hFc hP1 hD1
        generalize H1 = H at hP hS ⊢
        generalize locs1 = locs at hS ⊢
        have hP : va_P (dC, dI) vwCl [((ad 4), .inr (2, [.ref (ad 5), .ref (ad 6), .ref (ad 7), .ref (ad 8), .int mn_variables, .int mn_order, .int mn_highest, .int mn_count])), ((ad 7), .inl (cs 0, 32, .inl mn_firstOfDegree)), ((ad 12), .inr (4, [.ref (ad 3), .ref (ad 4), .ref (ad 18), .ref (ad 13), .ref (ad 14), .ref (ad 15), .ref (ad 16), .ref (ad 17), .int sp_degree, .int sp_size, .int sp_count])), ((ad 15), .inl (cs 0, 126, .inl sp_rowOfLead))] H := hP
        have hD : va_D A [((ad 4), .inr (2, [.ref (ad 5), .ref (ad 6), .ref (ad 7), .ref (ad 8), .int mn_variables, .int mn_order, .int mn_highest, .int mn_count])), ((ad 7), .inl (cs 0, 32, .inl mn_firstOfDegree)), ((ad 12), .inr (4, [.ref (ad 3), .ref (ad 4), .ref (ad 18), .ref (ad 13), .ref (ad 14), .ref (ad 15), .ref (ad 16), .ref (ad 17), .int sp_degree, .int sp_size, .int sp_count])), ((ad 15), .inl (cs 0, 126, .inl sp_rowOfLead))] := hD
        have hv := hw
        try dsimp only at hv
        refine lv_if_ne (tgt := 38) hx hb d_sp_standardOfDegree_32 (by decide) (fun c_10 => ?_) (fun c_10 => ?_)
        · have hv := hv.1 c_10
          obtain ⟨x3_11, ex3_11⟩ : ∃ y : Int32, y = x3_4 + 1 := ⟨_, rfl⟩
          have hv := hv x3_11 ex3_11
          refine lv_iinc (v := x3_11) (lv' := [(3, .int x3_11), (0, .ref (ad 12)), (1, .int p0), (2, .int x2_3)]) hx hb d_sp_standardOfDegree_38 hl (k := 3) rfl (by rw [ex3_11]; rfl) (by decide) rfl (fun ls hl => ?_)
          refine lv_goto (tgt := 12) hx hb d_sp_standardOfDegree_41 (by decide) ?_
          exact ih12 x2_3 x3_11 (Nat.lt_of_lt_of_le hv.2 (Nat.le_of_lt_succ hlt12)) hv.1 _ _ _ (hP.sub [0, 1, 2, 3] rfl) (hD.sub [0, 1, 2, 3] (by decide) rfl) hS (lv_sub hl [1, 2, 3, 0] rfl)
        · have hv := hv.2 c_10
          obtain ⟨x2_12, ex2_12⟩ : ∃ y : Int32, y = x2_3 + 1 := ⟨_, rfl⟩
          have hv := hv x2_12 ex2_12
          refine lv_iinc (v := x2_12) (lv' := [(2, .int x2_12), (0, .ref (ad 12)), (1, .int p0), (3, .int x3_4)]) hx hb d_sp_standardOfDegree_35 hl (k := 2) rfl (by rw [ex2_12]; rfl) (by decide) rfl (fun ls hl => ?_)
          obtain ⟨x3_13, ex3_13⟩ : ∃ y : Int32, y = x3_4 + 1 := ⟨_, rfl⟩
          have hv := hv x3_13 ex3_13
          refine lv_iinc (v := x3_13) (lv' := [(3, .int x3_13), (2, .int x2_12), (0, .ref (ad 12)), (1, .int p0)]) hx hb d_sp_standardOfDegree_38 hl (k := 3) rfl (by rw [ex3_13]; rfl) (by decide) rfl (fun ls hl => ?_)
          refine lv_goto (tgt := 12) hx hb d_sp_standardOfDegree_41 (by decide) ?_
          exact ih12 x2_12 x3_13 (Nat.lt_of_lt_of_le hv.2 (Nat.le_of_lt_succ hlt12)) hv.1 _ _ _ (hP.sub [0, 1, 2, 3] rfl) (hD.sub [0, 1, 2, 3] (by decide) rfl) hS (lv_sub hl [2, 3, 1, 0] rfl)
  exact loop12 _ 0 x3_2 (Nat.lt_succ_self _) hi0 _ _ _ hP hD hS hl
