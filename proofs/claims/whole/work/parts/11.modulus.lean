abbrev b_x_topOf : ByteArray := prog_1_method_18_code
def y_x_topOf : MethodName := ⟨"SpaceBasis", "topOf", "([II)I"⟩
def w_x_topOf : List Cond := Cond.code y_x_topOf b_x_topOf 3 (some .int) :: vwWS
theorem d_x_topOf_0 : decode b_x_topOf 0 = .ok (.iload_n 1, 1) := by decide +kernel
theorem d_x_topOf_1 : decode b_x_topOf 1 = .ok (.aload_n 0, 1) := by decide +kernel
theorem d_x_topOf_2 : decode b_x_topOf 2 = .ok (.arraylength, 1) := by decide +kernel
theorem d_x_topOf_3 : decode b_x_topOf 3 = .ok (.iconst 1, 1) := by decide +kernel
theorem d_x_topOf_4 : decode b_x_topOf 4 = .ok (.isub, 1) := by decide +kernel
theorem d_x_topOf_5 : decode b_x_topOf 5 = .ok (.invokestatic 203, 3) := by decide +kernel
theorem d_x_topOf_8 : decode b_x_topOf 8 = .ok (.istore_n 2, 1) := by decide +kernel
theorem d_x_topOf_9 : decode b_x_topOf 9 = .ok (.iload_n 2, 1) := by decide +kernel
theorem d_x_topOf_10 : decode b_x_topOf 10 = .ok (.ifCond .lt 17, 3) := by decide +kernel
theorem d_x_topOf_13 : decode b_x_topOf 13 = .ok (.aload_n 0, 1) := by decide +kernel
theorem d_x_topOf_14 : decode b_x_topOf 14 = .ok (.iload_n 2, 1) := by decide +kernel
theorem d_x_topOf_15 : decode b_x_topOf 15 = .ok (.iaload, 1) := by decide +kernel
theorem d_x_topOf_16 : decode b_x_topOf 16 = .ok (.ifCond .eq 5, 3) := by decide +kernel
theorem d_x_topOf_19 : decode b_x_topOf 19 = .ok (.iload_n 2, 1) := by decide +kernel
theorem d_x_topOf_20 : decode b_x_topOf 20 = .ok (.ireturn, 1) := by decide +kernel
theorem d_x_topOf_21 : decode b_x_topOf 21 = .ok (.iinc 2 (-1), 3) := by decide +kernel
theorem d_x_topOf_24 : decode b_x_topOf 24 = .ok (.goto (-15), 3) := by decide +kernel
theorem d_x_topOf_27 : decode b_x_topOf 27 = .ok (.iconst (-1), 1) := by decide +kernel
theorem d_x_topOf_28 : decode b_x_topOf 28 = .ok (.ireturn, 1) := by decide +kernel
/-- SpaceBasis.topOf([II)I -/
def vc_x_topOf (nA0 : Nat) (A0 : Nat → Int32) (p1 : Int32) (Q : Int32 → Prop) : Prop :=
  ∀ x2_1 : Int32, x2_1 = (if ((Int32.ofNat nA0) - 1) < p1 then ((Int32.ofNat nA0) - 1) else p1) → ∃ (I9_3 : Int32 → Prop) (mu9_4 : Int32 → Nat), I9_3 x2_1 ∧ ∀ (x2_2 : Int32), I9_3 x2_2 → ((((x2_2 < 0) → (Q (-1))) ∧ ((¬ (x2_2 < 0)) → (vp_in x2_2 nA0 ∧ ((((A0 x2_2.toNatClampNeg) = 0) → (∀ x2_8 : Int32, x2_8 = x2_2 + (-1) → (I9_3 x2_8 ∧ mu9_4 x2_8 < mu9_4 x2_2))) ∧ ((¬ ((A0 x2_2.toNatClampNeg) = 0)) → (Q x2_2)))))))
abbrev at_x_topOf (dC : Nat → ClassId) (dI : Nat → Nat → Nat) (cs : Nat → ClassId) (A : Nat → Prop) (ad : Nat → Nat) (aA0 : Nat) (nA0 : Nat) (A0 : Nat → Int32) (u : Unit) (t : State) : Prop := match u with
  | _ => va_P (dC, dI) vwCl [(aA0, .inl (cs 0, nA0, .inl A0))] t.heap ∧ va_D A [(aA0, .inl (cs 0, nA0, .inl A0))]
set_option maxHeartbeats 4000000 in
set_option maxRecDepth 100000 in
theorem c_x_topOf (l : Launch) (dC : Nat → ClassId) (dI : Nat → Nat → Nat) (cs : Nat → ClassId) (ad : Nat → Nat) (aA0 : Nat) (sz : Nat) (nA0 : Nat) (A0 : Nat → Int32) (p1 : Int32) (Q : Int32 → Prop) (hv : vc_x_topOf nA0 A0 p1 Q) : Met l y_x_topOf w_x_topOf ({ frames := 1, cells := 0, slots := 0, locals := 32 }) (va_Pc [.ref aA0, .int p1] (fun U => U.heap.size = sz ∧ va_P (dC, dI) vwCl [(aA0, .inl (cs 0, nA0, .inl A0))] U.heap ∧ vwK dC dI cs U ∧ va_D (fun _ => True) [(aA0, .inl (cs 0, nA0, .inl A0))])) (va_Qi (fun (r : Int32) (u : Unit) => Q r) (at_x_topOf dC dI cs (va_A [(aA0, .inl (cs 0, nA0, .inl A0))] sz) ad aA0 nA0 A0) (va_A [(aA0, .inl (cs 0, nA0, .inl A0))] sz)) 0 0 (va_A [(aA0, .inl (cs 0, nA0, .inl A0))] sz) := by
  unfold vc_x_topOf at hv
  refine Met.ofW (cc := b_x_topOf) (maxL := 3) (ret := (some .int)) (by decide) rfl ?_
  intro p e s m args below meth c s₁ B hml hpc
  obtain ⟨rfl, hsz, hP, ⟨hK, hN⟩, hD0⟩ := hpc
  have hx := B.exec
  have hb := B.bytes
  have hr := B.returns
  have hts : ∀ w ∈ vwWS, w.before _ s = true := fun w h => atoms_spec (ws := w_x_topOf) B.pre w (List.mem_cons_of_mem _ h)
  have hown : s.vm.findClass "SpaceBasis" = some m.cls := findClass_of_methodNamed B.named
  have hlocks := B.notSynchronized
  subst hsz
  have hD := hD0.self (sz := s.heap.size)
  generalize hAe : va_A [(aA0, .inl (cs 0, nA0, .inl A0))] s.heap.size = A at hD ⊢
  have hA : ∀ q : Nat, s.heap.size ≤ q → A q := fun q h => by rw [← hAe]; exact Or.inr h
  have hS : va_S A s.heap s.heap [] := va_S.rf
  have hl := lv_entry ([.ref aA0, .int p1]) (n := 3) (Nat.le_of_ble_eq_true rfl)
  rw [lg_entry_eq]
  generalize (lg_sl ([.ref aA0, .int p1]) ++ List.replicate (3 - (lg_sl ([.ref aA0, .int p1])).length) Slot.unset).toArray = ls at hl ⊢
  have hl : lv_has ls 3 [(0, .ref aA0), (1, .int p1)] := hl
  refine lv_iload_n hx hb d_x_topOf_0 rfl (lv_at hl 1 rfl) ?_
  refine lv_aload_n hx hb d_x_topOf_1 rfl (lv_at hl 0 rfl) ?_
  refine va_alen hx hb hK hP 0 0 rfl rfl (v := (Int32.ofNat nA0)) rfl d_x_topOf_2 ?_
  refine lv_iconst (v := 1) hx hb d_x_topOf_3 (by decide) ?_
  refine lv_isub hx hb d_x_topOf_4 ?_
  refine va_mmin hx hb (by rw [hml]; exact hl.1.symm) hown (hts _ kw_444) (hts _ kw_445) (hts _ kw_46) (hts _ kw_446) (Nat.le_of_ble_eq_true rfl) (Nat.le_of_ble_eq_true rfl) (Nat.zero_le _) (Nat.zero_le _) d_x_topOf_5 ?_
  refine lv_topi (fun x2_1 ex2_1 => ?_)
  have hv := hv x2_1 ex2_1
  refine lv_istore_n (lv' := [(2, .int x2_1), (0, .ref aA0), (1, .int p1)]) hx hb d_x_topOf_8 rfl hl (by decide) rfl (fun ls hl => ?_)
  obtain ⟨I9_3, mu9_4, hi0, hv⟩ := hv
  have hP := hP.sub (ws' := [(aA0, .inl (cs 0, nA0, .inl A0))]) [0] rfl
  have hD := hD.sub (ws' := [(aA0, .inl (cs 0, nA0, .inl A0))]) [0] (by decide) rfl
  have hl := lv_sub (l' := [(0, .ref aA0), (1, .int p1), (2, .int x2_1)]) hl [1, 2, 0] rfl
  have loop9 : ∀ (nn : Nat) (x2_2 : Int32), mu9_4 x2_2 < nn → I9_3 x2_2 → ∀ (H : Heap) (locs : List Loc) (ls : Array Slot), va_P (dC, dI) vwCl [(aA0, .inl (cs 0, nA0, .inl A0))] H → va_D A [(aA0, .inl (cs 0, nA0, .inl A0))] → va_S A s.heap H locs → lv_has ls 3 [(0, .ref aA0), (1, .int p1), (2, .int x2_2)] → W p l e (headSpec w_x_topOf { frames := 1, cells := 0, slots := 0, locals := 32 }).room s m ([.ref aA0, .int p1] : List Value).toArray below meth c H locs 0 0 (MQ below (va_Qi (fun (r : Int32) (u : Unit) => Q r) (at_x_topOf dC dI cs A ad aA0 nA0 A0) A) ([.ref aA0, .int p1] : List Value).toArray s 0 0 A) (F0 m 9 ls []) := by
    intro nn
    induction nn with
    | zero => intro x2_2 hlt; exact absurd hlt (Nat.not_lt_zero _)
    | succ nn ih9 =>
      intro x2_2 hlt9 hI H locs ls hP hD hS hl
      have hv := hv x2_2 hI
      refine lv_iload_n hx hb d_x_topOf_9 rfl (lv_at hl 2 rfl) ?_
      refine lv_if_lt (tgt := 27) hx hb d_x_topOf_10 (by decide) (fun c_5 => ?_) (fun c_5 => ?_)
      · have hv := hv.1 c_5
        refine lv_iconst (v := (-1)) hx hb d_x_topOf_27 (by decide) ?_
        have hP9 := hP.sub (ws' := [(aA0, .inl (cs 0, nA0, .inl A0))]) [0] rfl
        have hD9 := hD.sub (ws' := [(aA0, .inl (cs 0, nA0, .inl A0))]) [0] (by decide) rfl
        exact W.iret (v := (-1)) hx hb hr (fun t ht hW => ⟨⟨(-1), (), rfl, hv, by rw [ht]; exact hP9, hD9⟩, hS.F ht⟩) hS.2.2 d_x_topOf_28
      · have hv := hv.2 c_5
        refine lv_aload_n hx hb d_x_topOf_13 rfl (lv_at hl 0 rfl) ?_
        refine lv_iload_n hx hb d_x_topOf_14 rfl (lv_at hl 2 rfl) ?_
        obtain ⟨hi_6, hv⟩ := hv
        refine va_iald hx hb hK hP 0 0 rfl rfl hi_6 d_x_topOf_15 ?_
        refine lv_if_eq (tgt := 21) hx hb d_x_topOf_16 (by decide) (fun c_7 => ?_) (fun c_7 => ?_)
        · have hv := hv.1 c_7
          obtain ⟨x2_8, ex2_8⟩ : ∃ y : Int32, y = x2_2 + (-1) := ⟨_, rfl⟩
          have hv := hv x2_8 ex2_8
          refine lv_iinc (v := x2_8) (lv' := [(2, .int x2_8), (0, .ref aA0), (1, .int p1)]) hx hb d_x_topOf_21 hl (k := 2) rfl (by rw [ex2_8]; rfl) (by decide) rfl (fun ls hl => ?_)
          refine lv_goto (tgt := 9) hx hb d_x_topOf_24 (by decide) ?_
          exact ih9 x2_8 (Nat.lt_of_lt_of_le hv.2 (Nat.le_of_lt_succ hlt9)) hv.1 _ _ _ (hP.sub [0] rfl) (hD.sub [0] (by decide) rfl) hS (lv_sub hl [1, 2, 0] rfl)
        · have hv := hv.2 c_7
          refine lv_iload_n hx hb d_x_topOf_19 rfl (lv_at hl 2 rfl) ?_
          have hP9 := hP.sub (ws' := [(aA0, .inl (cs 0, nA0, .inl A0))]) [0] rfl
          have hD9 := hD.sub (ws' := [(aA0, .inl (cs 0, nA0, .inl A0))]) [0] (by decide) rfl
          exact W.iret (v := x2_2) hx hb hr (fun t ht hW => ⟨⟨x2_2, (), rfl, hv, by rw [ht]; exact hP9, hD9⟩, hS.F ht⟩) hS.2.2 d_x_topOf_20
  exact loop9 _ x2_1 (Nat.lt_succ_self _) hi0 _ _ _ hP hD hS hl
abbrev b_x_startOfLine : ByteArray := prog_1_method_19_code
def y_x_startOfLine : MethodName := ⟨"SpaceBasis", "startOfLine", "(I)I"⟩
def w_x_startOfLine : List Cond := Cond.code y_x_startOfLine b_x_startOfLine 1 (some .int) :: vwWS
theorem d_x_startOfLine_0 : decode b_x_startOfLine 0 = .ok (.iload_n 0, 1) := by decide +kernel
theorem d_x_startOfLine_1 : decode b_x_startOfLine 1 = .ok (.iload_n 0, 1) := by decide +kernel
theorem d_x_startOfLine_2 : decode b_x_startOfLine 2 = .ok (.iconst 1, 1) := by decide +kernel
theorem d_x_startOfLine_3 : decode b_x_startOfLine 3 = .ok (.iadd, 1) := by decide +kernel
theorem d_x_startOfLine_4 : decode b_x_startOfLine 4 = .ok (.imul, 1) := by decide +kernel
theorem d_x_startOfLine_5 : decode b_x_startOfLine 5 = .ok (.iconst 2, 1) := by decide +kernel
theorem d_x_startOfLine_6 : decode b_x_startOfLine 6 = .ok (.idiv, 1) := by decide +kernel
theorem d_x_startOfLine_7 : decode b_x_startOfLine 7 = .ok (.ireturn, 1) := by decide +kernel
/-- SpaceBasis.startOfLine(I)I -/
def vc_x_startOfLine (p0 : Int32) (Q : Int32 → Prop) : Prop :=
  (¬ (2 : Int32) = 0) ∧ Q ((p0 * (p0 + 1)) / 2)
abbrev at_x_startOfLine (dC : Nat → ClassId) (dI : Nat → Nat → Nat) (cs : Nat → ClassId) (A : Nat → Prop) (ad : Nat → Nat)  (u : Unit) (t : State) : Prop := match u with
  | _ => va_P (dC, dI) vwCl [] t.heap ∧ va_D A []
set_option maxHeartbeats 4000000 in
set_option maxRecDepth 100000 in
theorem c_x_startOfLine (l : Launch) (dC : Nat → ClassId) (dI : Nat → Nat → Nat) (cs : Nat → ClassId) (ad : Nat → Nat)  (sz : Nat) (p0 : Int32) (Q : Int32 → Prop) (hv : vc_x_startOfLine p0 Q) : Met l y_x_startOfLine w_x_startOfLine ({ frames := 0, cells := 0, slots := 0, locals := 0 }) (va_Pc [.int p0] (fun U => U.heap.size = sz ∧ va_P (dC, dI) vwCl [] U.heap ∧ vwK dC dI cs U ∧ va_D (fun _ => True) [])) (va_Qi (fun (r : Int32) (u : Unit) => Q r) (at_x_startOfLine dC dI cs (va_A [] sz) ad ) (va_A [] sz)) 0 0 (va_A [] sz) := by
  unfold vc_x_startOfLine at hv
  refine Met.ofW (cc := b_x_startOfLine) (maxL := 1) (ret := (some .int)) (by decide) rfl ?_
  intro p e s m args below meth c s₁ B hml hpc
  obtain ⟨rfl, hsz, hP, ⟨hK, hN⟩, hD0⟩ := hpc
  have hx := B.exec
  have hb := B.bytes
  have hr := B.returns
  have hts : ∀ w ∈ vwWS, w.before _ s = true := fun w h => atoms_spec (ws := w_x_startOfLine) B.pre w (List.mem_cons_of_mem _ h)
  have hown : s.vm.findClass "SpaceBasis" = some m.cls := findClass_of_methodNamed B.named
  have hlocks := B.notSynchronized
  subst hsz
  have hD := hD0.self (sz := s.heap.size)
  generalize hAe : va_A [] s.heap.size = A at hD ⊢
  have hA : ∀ q : Nat, s.heap.size ≤ q → A q := fun q h => by rw [← hAe]; exact Or.inr h
  have hS : va_S A s.heap s.heap [] := va_S.rf
  have hl := lv_entry ([.int p0]) (n := 1) (Nat.le_of_ble_eq_true rfl)
  rw [lg_entry_eq]
  generalize (lg_sl ([.int p0]) ++ List.replicate (1 - (lg_sl ([.int p0])).length) Slot.unset).toArray = ls at hl ⊢
  have hl : lv_has ls 1 [(0, .int p0)] := hl
  refine lv_iload_n hx hb d_x_startOfLine_0 rfl (lv_at hl 0 rfl) ?_
  refine lv_iload_n hx hb d_x_startOfLine_1 rfl (lv_at hl 0 rfl) ?_
  refine lv_iconst (v := 1) hx hb d_x_startOfLine_2 (by decide) ?_
  refine lv_iadd hx hb d_x_startOfLine_3 ?_
  refine lv_imul hx hb d_x_startOfLine_4 ?_
  refine lv_iconst (v := 2) hx hb d_x_startOfLine_5 (by decide) ?_
  obtain ⟨hz_1, hv⟩ := hv
  refine lv_idiv hx hb d_x_startOfLine_6 hz_1 ?_
  have hP9 := hP.sub (ws' := []) [] rfl
  have hD9 := hD.sub (ws' := []) [] (by decide) rfl
  exact W.iret (v := ((p0 * (p0 + 1)) / 2)) hx hb hr (fun t ht hW => ⟨⟨((p0 * (p0 + 1)) / 2), (), rfl, hv, by rw [ht]; exact hP9, hD9⟩, hS.F ht⟩) hS.2.2 d_x_startOfLine_7
abbrev b_mo_isPrime : ByteArray := prog_4_method_2_code
def y_mo_isPrime : MethodName := ⟨"SpaceBasis$Modulus", "isPrime", "(I)Z"⟩
def w_mo_isPrime : List Cond := Cond.code y_mo_isPrime b_mo_isPrime 2 (some .boolean) :: vwWS
theorem d_mo_isPrime_0 : decode b_mo_isPrime 0 = .ok (.iload_n 0, 1) := by decide +kernel
theorem d_mo_isPrime_1 : decode b_mo_isPrime 1 = .ok (.iconst 2, 1) := by decide +kernel
theorem d_mo_isPrime_2 : decode b_mo_isPrime 2 = .ok (.if_icmp .lt 10, 3) := by decide +kernel
theorem d_mo_isPrime_5 : decode b_mo_isPrime 5 = .ok (.iload_n 0, 1) := by decide +kernel
theorem d_mo_isPrime_6 : decode b_mo_isPrime 6 = .ok (.sipush 32003, 3) := by decide +kernel
theorem d_mo_isPrime_9 : decode b_mo_isPrime 9 = .ok (.if_icmp .le 5, 3) := by decide +kernel
theorem d_mo_isPrime_12 : decode b_mo_isPrime 12 = .ok (.iconst 0, 1) := by decide +kernel
theorem d_mo_isPrime_13 : decode b_mo_isPrime 13 = .ok (.ireturn, 1) := by decide +kernel
theorem d_mo_isPrime_14 : decode b_mo_isPrime 14 = .ok (.iconst 2, 1) := by decide +kernel
theorem d_mo_isPrime_15 : decode b_mo_isPrime 15 = .ok (.istore_n 1, 1) := by decide +kernel
theorem d_mo_isPrime_16 : decode b_mo_isPrime 16 = .ok (.iload_n 1, 1) := by decide +kernel
theorem d_mo_isPrime_17 : decode b_mo_isPrime 17 = .ok (.iload_n 1, 1) := by decide +kernel
theorem d_mo_isPrime_18 : decode b_mo_isPrime 18 = .ok (.imul, 1) := by decide +kernel
theorem d_mo_isPrime_19 : decode b_mo_isPrime 19 = .ok (.iload_n 0, 1) := by decide +kernel
theorem d_mo_isPrime_20 : decode b_mo_isPrime 20 = .ok (.if_icmp .gt 17, 3) := by decide +kernel
theorem d_mo_isPrime_23 : decode b_mo_isPrime 23 = .ok (.iload_n 0, 1) := by decide +kernel
theorem d_mo_isPrime_24 : decode b_mo_isPrime 24 = .ok (.iload_n 1, 1) := by decide +kernel
theorem d_mo_isPrime_25 : decode b_mo_isPrime 25 = .ok (.irem, 1) := by decide +kernel
theorem d_mo_isPrime_26 : decode b_mo_isPrime 26 = .ok (.ifCond .ne 5, 3) := by decide +kernel
theorem d_mo_isPrime_29 : decode b_mo_isPrime 29 = .ok (.iconst 0, 1) := by decide +kernel
theorem d_mo_isPrime_30 : decode b_mo_isPrime 30 = .ok (.ireturn, 1) := by decide +kernel
theorem d_mo_isPrime_31 : decode b_mo_isPrime 31 = .ok (.iinc 1 1, 3) := by decide +kernel
theorem d_mo_isPrime_34 : decode b_mo_isPrime 34 = .ok (.goto (-18), 3) := by decide +kernel
theorem d_mo_isPrime_37 : decode b_mo_isPrime 37 = .ok (.iconst 1, 1) := by decide +kernel
theorem d_mo_isPrime_38 : decode b_mo_isPrime 38 = .ok (.ireturn, 1) := by decide +kernel
/-- SpaceBasis$Modulus.isPrime(I)Z -/
def vc_mo_isPrime (p0 : Int32) (Q : Int32 → Prop) : Prop :=
  (((p0 < 2) → (Q 0)) ∧ ((¬ (p0 < 2)) → ((((p0 ≤ 32003) → (∃ (I16_4 : Int32 → Prop) (mu16_5 : Int32 → Nat), I16_4 2 ∧ ∀ (x1_3 : Int32), I16_4 x1_3 → ((((p0 < (x1_3 * x1_3)) → (Q 1)) ∧ ((¬ (p0 < (x1_3 * x1_3))) → ((¬ (x1_3 : Int32) = 0) ∧ (((¬ ((p0 - p0 / x1_3 * x1_3) = 0)) → (∀ x1_9 : Int32, x1_9 = x1_3 + 1 → (I16_4 x1_9 ∧ mu16_5 x1_9 < mu16_5 x1_3))) ∧ (((p0 - p0 / x1_3 * x1_3) = 0) → (Q 0))))))))) ∧ ((¬ (p0 ≤ 32003)) → (Q 0))))))
abbrev at_mo_isPrime (dC : Nat → ClassId) (dI : Nat → Nat → Nat) (cs : Nat → ClassId) (A : Nat → Prop) (ad : Nat → Nat)  (u : Unit) (t : State) : Prop := match u with
  | _ => va_P (dC, dI) vwCl [] t.heap ∧ va_D A []
set_option maxHeartbeats 4000000 in
set_option maxRecDepth 100000 in
theorem c_mo_isPrime (l : Launch) (dC : Nat → ClassId) (dI : Nat → Nat → Nat) (cs : Nat → ClassId) (ad : Nat → Nat)  (sz : Nat) (p0 : Int32) (Q : Int32 → Prop) (hv : vc_mo_isPrime p0 Q) : Met l y_mo_isPrime w_mo_isPrime ({ frames := 0, cells := 0, slots := 0, locals := 0 }) (va_Pc [.int p0] (fun U => U.heap.size = sz ∧ va_P (dC, dI) vwCl [] U.heap ∧ vwK dC dI cs U ∧ va_D (fun _ => True) [])) (va_Qi (fun (r : Int32) (u : Unit) => Q r) (at_mo_isPrime dC dI cs (va_A [] sz) ad ) (va_A [] sz)) 0 0 (va_A [] sz) := by
  unfold vc_mo_isPrime at hv
  refine Met.ofW (cc := b_mo_isPrime) (maxL := 2) (ret := (some .boolean)) (by decide) rfl ?_
  intro p e s m args below meth c s₁ B hml hpc
  obtain ⟨rfl, hsz, hP, ⟨hK, hN⟩, hD0⟩ := hpc
  have hx := B.exec
  have hb := B.bytes
  have hr := B.returns
  have hts : ∀ w ∈ vwWS, w.before _ s = true := fun w h => atoms_spec (ws := w_mo_isPrime) B.pre w (List.mem_cons_of_mem _ h)
  have hown : s.vm.findClass "SpaceBasis$Modulus" = some m.cls := findClass_of_methodNamed B.named
  have hlocks := B.notSynchronized
  subst hsz
  have hD := hD0.self (sz := s.heap.size)
  generalize hAe : va_A [] s.heap.size = A at hD ⊢
  have hA : ∀ q : Nat, s.heap.size ≤ q → A q := fun q h => by rw [← hAe]; exact Or.inr h
  have hS : va_S A s.heap s.heap [] := va_S.rf
  have hl := lv_entry ([.int p0]) (n := 2) (Nat.le_of_ble_eq_true rfl)
  rw [lg_entry_eq]
  generalize (lg_sl ([.int p0]) ++ List.replicate (2 - (lg_sl ([.int p0])).length) Slot.unset).toArray = ls at hl ⊢
  have hl : lv_has ls 2 [(0, .int p0)] := hl
  refine lv_iload_n hx hb d_mo_isPrime_0 rfl (lv_at hl 0 rfl) ?_
  refine lv_iconst (v := 2) hx hb d_mo_isPrime_1 (by decide) ?_
  refine lv_icmp_lt (tgt := 12) hx hb d_mo_isPrime_2 (by decide) (fun c_1 => ?_) (fun c_1 => ?_)
  · have hv := hv.1 c_1
    refine lv_iconst (v := 0) hx hb d_mo_isPrime_12 (by decide) ?_
    have hP9 := hP.sub (ws' := []) [] rfl
    have hD9 := hD.sub (ws' := []) [] (by decide) rfl
    exact W.zret (v := 0) hx hb hr rfl (fun t ht hW => ⟨⟨0, (), rfl, hv, by rw [ht]; exact hP9, hD9⟩, hS.F ht⟩) hS.2.2 d_mo_isPrime_13
  · have hv := hv.2 c_1
    refine lv_iload_n hx hb d_mo_isPrime_5 rfl (lv_at hl 0 rfl) ?_
    refine lv_sipush (v := 32003) hx hb d_mo_isPrime_6 (by decide) ?_
    refine lv_icmp_le (tgt := 14) hx hb d_mo_isPrime_9 (by decide) (fun c_2 => ?_) (fun c_2 => ?_)
    · have hv := hv.1 c_2
      refine lv_iconst (v := 2) hx hb d_mo_isPrime_14 (by decide) ?_
      refine lv_istore_n (lv' := [(1, .int 2), (0, .int p0)]) hx hb d_mo_isPrime_15 rfl hl (by decide) rfl (fun ls hl => ?_)
      obtain ⟨I16_4, mu16_5, hi0, hv⟩ := hv
      have hP := hP.sub (ws' := []) [] rfl
      have hD := hD.sub (ws' := []) [] (by decide) rfl
      have hl := lv_sub (l' := [(0, .int p0), (1, .int 2)]) hl [1, 0] rfl
      have loop16 : ∀ (nn : Nat) (x1_3 : Int32), mu16_5 x1_3 < nn → I16_4 x1_3 → ∀ (H : Heap) (locs : List Loc) (ls : Array Slot), va_P (dC, dI) vwCl [] H → va_D A [] → va_S A s.heap H locs → lv_has ls 2 [(0, .int p0), (1, .int x1_3)] → W p l e (headSpec w_mo_isPrime { frames := 0, cells := 0, slots := 0, locals := 0 }).room s m ([.int p0] : List Value).toArray below meth c H locs 0 0 (MQ below (va_Qi (fun (r : Int32) (u : Unit) => Q r) (at_mo_isPrime dC dI cs A ad ) A) ([.int p0] : List Value).toArray s 0 0 A) (F0 m 16 ls []) := by
        intro nn
        induction nn with
        | zero => intro x1_3 hlt; exact absurd hlt (Nat.not_lt_zero _)
        | succ nn ih16 =>
          intro x1_3 hlt16 hI H locs ls hP hD hS hl
          have hv := hv x1_3 hI
          refine lv_iload_n hx hb d_mo_isPrime_16 rfl (lv_at hl 1 rfl) ?_
          refine lv_iload_n hx hb d_mo_isPrime_17 rfl (lv_at hl 1 rfl) ?_
          refine lv_imul hx hb d_mo_isPrime_18 ?_
          refine lv_iload_n hx hb d_mo_isPrime_19 rfl (lv_at hl 0 rfl) ?_
          refine lv_icmp_gt (tgt := 37) hx hb d_mo_isPrime_20 (by decide) (fun c_6 => ?_) (fun c_6 => ?_)
          · have hv := hv.1 c_6
            refine lv_iconst (v := 1) hx hb d_mo_isPrime_37 (by decide) ?_
            have hP9 := hP.sub (ws' := []) [] rfl
            have hD9 := hD.sub (ws' := []) [] (by decide) rfl
            exact W.zret (v := 1) hx hb hr rfl (fun t ht hW => ⟨⟨1, (), rfl, hv, by rw [ht]; exact hP9, hD9⟩, hS.F ht⟩) hS.2.2 d_mo_isPrime_38
          · have hv := hv.2 c_6
            refine lv_iload_n hx hb d_mo_isPrime_23 rfl (lv_at hl 0 rfl) ?_
            refine lv_iload_n hx hb d_mo_isPrime_24 rfl (lv_at hl 1 rfl) ?_
            obtain ⟨hz_7, hv⟩ := hv
            refine lv_irem hx hb d_mo_isPrime_25 hz_7 ?_
            refine lv_if_ne (tgt := 31) hx hb d_mo_isPrime_26 (by decide) (fun c_8 => ?_) (fun c_8 => ?_)
            · have hv := hv.1 c_8
              obtain ⟨x1_9, ex1_9⟩ : ∃ y : Int32, y = x1_3 + 1 := ⟨_, rfl⟩
              have hv := hv x1_9 ex1_9
              refine lv_iinc (v := x1_9) (lv' := [(1, .int x1_9), (0, .int p0)]) hx hb d_mo_isPrime_31 hl (k := 1) rfl (by rw [ex1_9]; rfl) (by decide) rfl (fun ls hl => ?_)
              refine lv_goto (tgt := 16) hx hb d_mo_isPrime_34 (by decide) ?_
              exact ih16 x1_9 (Nat.lt_of_lt_of_le hv.2 (Nat.le_of_lt_succ hlt16)) hv.1 _ _ _ (hP.sub [] rfl) (hD.sub [] (by decide) rfl) hS (lv_sub hl [1, 0] rfl)
            · have hv := hv.2 c_8
              refine lv_iconst (v := 0) hx hb d_mo_isPrime_29 (by decide) ?_
              have hP9 := hP.sub (ws' := []) [] rfl
              have hD9 := hD.sub (ws' := []) [] (by decide) rfl
              exact W.zret (v := 0) hx hb hr rfl (fun t ht hW => ⟨⟨0, (), rfl, hv, by rw [ht]; exact hP9, hD9⟩, hS.F ht⟩) hS.2.2 d_mo_isPrime_30
      exact loop16 _ 2 (Nat.lt_succ_self _) hi0 _ _ _ hP hD hS hl
    · have hv := hv.2 c_2
      refine lv_iconst (v := 0) hx hb d_mo_isPrime_12 (by decide) ?_
      have hP9 := hP.sub (ws' := []) [] rfl
      have hD9 := hD.sub (ws' := []) [] (by decide) rfl
      exact W.zret (v := 0) hx hb hr rfl (fun t ht hW => ⟨⟨0, (), rfl, hv, by rw [ht]; exact hP9, hD9⟩, hS.F ht⟩) hS.2.2 d_mo_isPrime_13
abbrev b_mo_within : ByteArray := prog_4_method_3_code
def y_mo_within : MethodName := ⟨"SpaceBasis$Modulus", "within", "(I)I"⟩
def w_mo_within : List Cond := Cond.code y_mo_within b_mo_within 2 (some .int) :: vwWS
theorem d_mo_within_0 : decode b_mo_within 0 = .ok (.iload_n 1, 1) := by decide +kernel
theorem d_mo_within_1 : decode b_mo_within 1 = .ok (.aload_n 0, 1) := by decide +kernel
theorem d_mo_within_2 : decode b_mo_within 2 = .ok (.getfield 9, 3) := by decide +kernel
theorem d_mo_within_5 : decode b_mo_within 5 = .ok (.invokestatic 15, 3) := by decide +kernel
theorem d_mo_within_8 : decode b_mo_within 8 = .ok (.ireturn, 1) := by decide +kernel
/-- SpaceBasis$Modulus.within(I)I -/
def vc_mo_within (mo_prime : Int32) (p0 : Int32) (Q : Int32 → Prop) : Prop :=
  vc_Ma_floorMod p0 mo_prime (fun (r_1 : Int32) => Q r_1)
abbrev at_mo_within (dC : Nat → ClassId) (dI : Nat → Nat → Nat) (cs : Nat → ClassId) (A : Nat → Prop) (ad : Nat → Nat) (mo_prime : Int32) (u : Unit) (t : State) : Prop := match u with
  | _ => va_P (dC, dI) vwCl [((ad 3), .inr (1, [.int mo_prime]))] t.heap ∧ va_D A [((ad 3), .inr (1, [.int mo_prime]))]
set_option maxHeartbeats 4000000 in
set_option maxRecDepth 100000 in
theorem c_mo_within (l : Launch) (dC : Nat → ClassId) (dI : Nat → Nat → Nat) (cs : Nat → ClassId) (ad : Nat → Nat)  (sz : Nat) (mo_prime : Int32) (p0 : Int32) (Q : Int32 → Prop) (hv : vc_mo_within mo_prime p0 Q) : Met l y_mo_within w_mo_within ({ frames := 1, cells := 0, slots := 0, locals := 22 }) (va_Pc [.ref (ad 3), .int p0] (fun U => U.heap.size = sz ∧ va_P (dC, dI) vwCl [((ad 3), .inr (1, [.int mo_prime]))] U.heap ∧ vwK dC dI cs U ∧ va_D (fun _ => True) [((ad 3), .inr (1, [.int mo_prime]))])) (va_Qi (fun (r : Int32) (u : Unit) => Q r) (at_mo_within dC dI cs (va_A [((ad 3), .inr (1, [.int mo_prime]))] sz) ad mo_prime) (va_A [((ad 3), .inr (1, [.int mo_prime]))] sz)) 0 0 (va_A [((ad 3), .inr (1, [.int mo_prime]))] sz) := by
  unfold vc_mo_within at hv
  refine Met.ofW (cc := b_mo_within) (maxL := 2) (ret := (some .int)) (by decide) rfl ?_
  intro p e s m args below meth c s₁ B hml hpc
  obtain ⟨rfl, hsz, hP, ⟨hK, hN⟩, hD0⟩ := hpc
  have hx := B.exec
  have hb := B.bytes
  have hr := B.returns
  have hts : ∀ w ∈ vwWS, w.before _ s = true := fun w h => atoms_spec (ws := w_mo_within) B.pre w (List.mem_cons_of_mem _ h)
  have hown : s.vm.findClass "SpaceBasis$Modulus" = some m.cls := findClass_of_methodNamed B.named
  have hlocks := B.notSynchronized
  subst hsz
  have hD := hD0.self (sz := s.heap.size)
  generalize hAe : va_A [((ad 3), .inr (1, [.int mo_prime]))] s.heap.size = A at hD ⊢
  have hA : ∀ q : Nat, s.heap.size ≤ q → A q := fun q h => by rw [← hAe]; exact Or.inr h
  have hS : va_S A s.heap s.heap [] := va_S.rf
  have hl := lv_entry ([.ref (ad 3), .int p0]) (n := 2) (Nat.le_of_ble_eq_true rfl)
  rw [lg_entry_eq]
  generalize (lg_sl ([.ref (ad 3), .int p0]) ++ List.replicate (2 - (lg_sl ([.ref (ad 3), .int p0])).length) Slot.unset).toArray = ls at hl ⊢
  have hl : lv_has ls 2 [(0, .ref (ad 3)), (1, .int p0)] := hl
  refine lv_iload_n hx hb d_mo_within_0 rfl (lv_at hl 1 rfl) ?_
  refine lv_aload_n hx hb d_mo_within_1 rfl (lv_at hl 0 rfl) ?_
  refine va_get (D := (dC, dI)) (ci := 1) (v := .int mo_prime) (C := R_mo) (T := F_mo) (N := 1) hx hb hts in_mo hown hK hP 0 rfl rfl 0 (by decide) (hts _ kw_63) (fun _ h9 => h9) rfl d_mo_within_2 ?_
  have hPc := hP.sub (ws' := []) [] rfl
  have hDc := hD.sub (ws' := []) [] (by decide) rfl
  have hFc := va_free (wc := []) hD hS hA [] rfl
  refine va_calli (va_runS (As := [.int p0, .int mo_prime]) (rest := []) ⟨hx, hb, hml, hown, hts⟩ (c_Ma_floorMod l dC dI cs ad  s.heap.size p0 mo_prime _ hv) (va_cwS 2 hts (gd_S kw_430 kw_431 kw_46 kw_432) rfl rfl rfl (by decide +kernel) ⟨Nat.le_of_ble_eq_true rfl, Nat.le_of_ble_eq_true rfl⟩) ⟨fun a U g mk q => by obtain ⟨q0, q1, qP, qK, qD⟩ := q; exact ⟨q0, q1, qP, qK.call, qD⟩, fun U hU hW => ⟨rfl, by rw [hU], by rw [hU]; exact hPc, vwK.warm hW ⟨hK, hN⟩, hDc.weaken (fun _ _ _ _ => trivial)⟩⟩ rfl rfl hl.1 rfl (lv_room (Nat.le_of_ble_eq_true rfl)) d_mo_within_5 ⟨Nat.zero_le _, Nat.zero_le _⟩) hS (fun q _ h => hFc q h) hFc (fun r_1 _u t H1 locs1 ht hvm hw hB hz1 hk1 hS => ?_)
  obtain ⟨hP1, hD1⟩ := hB
  rw [ht] at hP1
  obtain ⟨hP, hD⟩ := va_join (wr := [((ad 3), .inr (1, [.int mo_prime]))]) (w1 := []) hP hD [] [0] rfl rfl (by decide) (by decide) hk1 hFc hP1 hD1
  generalize H1 = H at hP hS ⊢
  generalize locs1 = locs at hS ⊢
  have hP : va_P (dC, dI) vwCl [((ad 3), .inr (1, [.int mo_prime]))] H := hP
  have hD : va_D A [((ad 3), .inr (1, [.int mo_prime]))] := hD
  have hv := hw
  try dsimp only at hv
  have hP9 := hP.sub (ws' := [((ad 3), .inr (1, [.int mo_prime]))]) [0] rfl
  have hD9 := hD.sub (ws' := [((ad 3), .inr (1, [.int mo_prime]))]) [0] (by decide) rfl
  exact W.iret (v := r_1) hx hb hr (fun t ht hW => ⟨⟨r_1, (), rfl, hv, by rw [ht]; exact hP9, hD9⟩, hS.F ht⟩) hS.2.2 d_mo_within_8
abbrev b_mo_opposite : ByteArray := prog_4_method_4_code
def y_mo_opposite : MethodName := ⟨"SpaceBasis$Modulus", "opposite", "(I)I"⟩
def w_mo_opposite : List Cond := Cond.code y_mo_opposite b_mo_opposite 2 (some .int) :: vwWS
theorem d_mo_opposite_0 : decode b_mo_opposite 0 = .ok (.iload_n 1, 1) := by decide +kernel
theorem d_mo_opposite_1 : decode b_mo_opposite 1 = .ok (.ifCond .ne 7, 3) := by decide +kernel
theorem d_mo_opposite_4 : decode b_mo_opposite 4 = .ok (.iconst 0, 1) := by decide +kernel
theorem d_mo_opposite_5 : decode b_mo_opposite 5 = .ok (.goto 9, 3) := by decide +kernel
theorem d_mo_opposite_8 : decode b_mo_opposite 8 = .ok (.aload_n 0, 1) := by decide +kernel
theorem d_mo_opposite_9 : decode b_mo_opposite 9 = .ok (.getfield 9, 3) := by decide +kernel
theorem d_mo_opposite_12 : decode b_mo_opposite 12 = .ok (.iload_n 1, 1) := by decide +kernel
theorem d_mo_opposite_13 : decode b_mo_opposite 13 = .ok (.isub, 1) := by decide +kernel
theorem d_mo_opposite_14 : decode b_mo_opposite 14 = .ok (.ireturn, 1) := by decide +kernel
/-- SpaceBasis$Modulus.opposite(I)I -/
def vc_mo_opposite (mo_prime : Int32) (p0 : Int32) (Q : Int32 → Prop) : Prop :=
  (((¬ (p0 = 0)) → (Q (mo_prime - p0))) ∧ ((p0 = 0) → (Q 0)))
abbrev at_mo_opposite (dC : Nat → ClassId) (dI : Nat → Nat → Nat) (cs : Nat → ClassId) (A : Nat → Prop) (ad : Nat → Nat) (mo_prime : Int32) (u : Unit) (t : State) : Prop := match u with
  | _ => va_P (dC, dI) vwCl [((ad 3), .inr (1, [.int mo_prime]))] t.heap ∧ va_D A [((ad 3), .inr (1, [.int mo_prime]))]
set_option maxHeartbeats 4000000 in
set_option maxRecDepth 100000 in
theorem c_mo_opposite (l : Launch) (dC : Nat → ClassId) (dI : Nat → Nat → Nat) (cs : Nat → ClassId) (ad : Nat → Nat)  (sz : Nat) (mo_prime : Int32) (p0 : Int32) (Q : Int32 → Prop) (hv : vc_mo_opposite mo_prime p0 Q) : Met l y_mo_opposite w_mo_opposite ({ frames := 0, cells := 0, slots := 0, locals := 0 }) (va_Pc [.ref (ad 3), .int p0] (fun U => U.heap.size = sz ∧ va_P (dC, dI) vwCl [((ad 3), .inr (1, [.int mo_prime]))] U.heap ∧ vwK dC dI cs U ∧ va_D (fun _ => True) [((ad 3), .inr (1, [.int mo_prime]))])) (va_Qi (fun (r : Int32) (u : Unit) => Q r) (at_mo_opposite dC dI cs (va_A [((ad 3), .inr (1, [.int mo_prime]))] sz) ad mo_prime) (va_A [((ad 3), .inr (1, [.int mo_prime]))] sz)) 0 0 (va_A [((ad 3), .inr (1, [.int mo_prime]))] sz) := by
  unfold vc_mo_opposite at hv
  refine Met.ofW (cc := b_mo_opposite) (maxL := 2) (ret := (some .int)) (by decide) rfl ?_
  intro p e s m args below meth c s₁ B hml hpc
  obtain ⟨rfl, hsz, hP, ⟨hK, hN⟩, hD0⟩ := hpc
  have hx := B.exec
  have hb := B.bytes
  have hr := B.returns
  have hts : ∀ w ∈ vwWS, w.before _ s = true := fun w h => atoms_spec (ws := w_mo_opposite) B.pre w (List.mem_cons_of_mem _ h)
  have hown : s.vm.findClass "SpaceBasis$Modulus" = some m.cls := findClass_of_methodNamed B.named
  have hlocks := B.notSynchronized
  subst hsz
  have hD := hD0.self (sz := s.heap.size)
  generalize hAe : va_A [((ad 3), .inr (1, [.int mo_prime]))] s.heap.size = A at hD ⊢
  have hA : ∀ q : Nat, s.heap.size ≤ q → A q := fun q h => by rw [← hAe]; exact Or.inr h
  have hS : va_S A s.heap s.heap [] := va_S.rf
  have hl := lv_entry ([.ref (ad 3), .int p0]) (n := 2) (Nat.le_of_ble_eq_true rfl)
  rw [lg_entry_eq]
  generalize (lg_sl ([.ref (ad 3), .int p0]) ++ List.replicate (2 - (lg_sl ([.ref (ad 3), .int p0])).length) Slot.unset).toArray = ls at hl ⊢
  have hl : lv_has ls 2 [(0, .ref (ad 3)), (1, .int p0)] := hl
  refine lv_iload_n hx hb d_mo_opposite_0 rfl (lv_at hl 1 rfl) ?_
  refine lv_if_ne (tgt := 8) hx hb d_mo_opposite_1 (by decide) (fun c_1 => ?_) (fun c_1 => ?_)
  · have hv := hv.1 c_1
    refine lv_aload_n hx hb d_mo_opposite_8 rfl (lv_at hl 0 rfl) ?_
    refine va_get (D := (dC, dI)) (ci := 1) (v := .int mo_prime) (C := R_mo) (T := F_mo) (N := 1) hx hb hts in_mo hown hK hP 0 rfl rfl 0 (by decide) (hts _ kw_63) (fun _ h9 => h9) rfl d_mo_opposite_9 ?_
    refine lv_iload_n hx hb d_mo_opposite_12 rfl (lv_at hl 1 rfl) ?_
    refine lv_isub hx hb d_mo_opposite_13 ?_
    have hP9 := hP.sub (ws' := [((ad 3), .inr (1, [.int mo_prime]))]) [0] rfl
    have hD9 := hD.sub (ws' := [((ad 3), .inr (1, [.int mo_prime]))]) [0] (by decide) rfl
    exact W.iret (v := (mo_prime - p0)) hx hb hr (fun t ht hW => ⟨⟨(mo_prime - p0), (), rfl, hv, by rw [ht]; exact hP9, hD9⟩, hS.F ht⟩) hS.2.2 d_mo_opposite_14
  · have hv := hv.2 c_1
    refine lv_iconst (v := 0) hx hb d_mo_opposite_4 (by decide) ?_
    refine lv_goto (tgt := 14) hx hb d_mo_opposite_5 (by decide) ?_
    have hP9 := hP.sub (ws' := [((ad 3), .inr (1, [.int mo_prime]))]) [0] rfl
    have hD9 := hD.sub (ws' := [((ad 3), .inr (1, [.int mo_prime]))]) [0] (by decide) rfl
    exact W.iret (v := 0) hx hb hr (fun t ht hW => ⟨⟨0, (), rfl, hv, by rw [ht]; exact hP9, hD9⟩, hS.F ht⟩) hS.2.2 d_mo_opposite_14
abbrev b_mo_product : ByteArray := prog_4_method_5_code
def y_mo_product : MethodName := ⟨"SpaceBasis$Modulus", "product", "(II)I"⟩
def w_mo_product : List Cond := Cond.code y_mo_product b_mo_product 3 (some .int) :: vwWS
theorem d_mo_product_0 : decode b_mo_product 0 = .ok (.iload_n 1, 1) := by decide +kernel
theorem d_mo_product_1 : decode b_mo_product 1 = .ok (.iload_n 2, 1) := by decide +kernel
theorem d_mo_product_2 : decode b_mo_product 2 = .ok (.imul, 1) := by decide +kernel
theorem d_mo_product_3 : decode b_mo_product 3 = .ok (.aload_n 0, 1) := by decide +kernel
theorem d_mo_product_4 : decode b_mo_product 4 = .ok (.getfield 9, 3) := by decide +kernel
theorem d_mo_product_7 : decode b_mo_product 7 = .ok (.irem, 1) := by decide +kernel
theorem d_mo_product_8 : decode b_mo_product 8 = .ok (.ireturn, 1) := by decide +kernel
/-- SpaceBasis$Modulus.product(II)I -/
def vc_mo_product (mo_prime : Int32) (p0 : Int32) (p1 : Int32) (Q : Int32 → Prop) : Prop :=
  (¬ (mo_prime : Int32) = 0) ∧ Q ((p0 * p1) - (p0 * p1) / mo_prime * mo_prime)
abbrev at_mo_product (dC : Nat → ClassId) (dI : Nat → Nat → Nat) (cs : Nat → ClassId) (A : Nat → Prop) (ad : Nat → Nat) (mo_prime : Int32) (u : Unit) (t : State) : Prop := match u with
  | _ => va_P (dC, dI) vwCl [((ad 3), .inr (1, [.int mo_prime]))] t.heap ∧ va_D A [((ad 3), .inr (1, [.int mo_prime]))]
set_option maxHeartbeats 4000000 in
set_option maxRecDepth 100000 in
theorem c_mo_product (l : Launch) (dC : Nat → ClassId) (dI : Nat → Nat → Nat) (cs : Nat → ClassId) (ad : Nat → Nat)  (sz : Nat) (mo_prime : Int32) (p0 : Int32) (p1 : Int32) (Q : Int32 → Prop) (hv : vc_mo_product mo_prime p0 p1 Q) : Met l y_mo_product w_mo_product ({ frames := 0, cells := 0, slots := 0, locals := 0 }) (va_Pc [.ref (ad 3), .int p0, .int p1] (fun U => U.heap.size = sz ∧ va_P (dC, dI) vwCl [((ad 3), .inr (1, [.int mo_prime]))] U.heap ∧ vwK dC dI cs U ∧ va_D (fun _ => True) [((ad 3), .inr (1, [.int mo_prime]))])) (va_Qi (fun (r : Int32) (u : Unit) => Q r) (at_mo_product dC dI cs (va_A [((ad 3), .inr (1, [.int mo_prime]))] sz) ad mo_prime) (va_A [((ad 3), .inr (1, [.int mo_prime]))] sz)) 0 0 (va_A [((ad 3), .inr (1, [.int mo_prime]))] sz) := by
  unfold vc_mo_product at hv
  refine Met.ofW (cc := b_mo_product) (maxL := 3) (ret := (some .int)) (by decide) rfl ?_
  intro p e s m args below meth c s₁ B hml hpc
  obtain ⟨rfl, hsz, hP, ⟨hK, hN⟩, hD0⟩ := hpc
  have hx := B.exec
  have hb := B.bytes
  have hr := B.returns
  have hts : ∀ w ∈ vwWS, w.before _ s = true := fun w h => atoms_spec (ws := w_mo_product) B.pre w (List.mem_cons_of_mem _ h)
  have hown : s.vm.findClass "SpaceBasis$Modulus" = some m.cls := findClass_of_methodNamed B.named
  have hlocks := B.notSynchronized
  subst hsz
  have hD := hD0.self (sz := s.heap.size)
  generalize hAe : va_A [((ad 3), .inr (1, [.int mo_prime]))] s.heap.size = A at hD ⊢
  have hA : ∀ q : Nat, s.heap.size ≤ q → A q := fun q h => by rw [← hAe]; exact Or.inr h
  have hS : va_S A s.heap s.heap [] := va_S.rf
  have hl := lv_entry ([.ref (ad 3), .int p0, .int p1]) (n := 3) (Nat.le_of_ble_eq_true rfl)
  rw [lg_entry_eq]
  generalize (lg_sl ([.ref (ad 3), .int p0, .int p1]) ++ List.replicate (3 - (lg_sl ([.ref (ad 3), .int p0, .int p1])).length) Slot.unset).toArray = ls at hl ⊢
  have hl : lv_has ls 3 [(0, .ref (ad 3)), (1, .int p0), (2, .int p1)] := hl
  refine lv_iload_n hx hb d_mo_product_0 rfl (lv_at hl 1 rfl) ?_
  refine lv_iload_n hx hb d_mo_product_1 rfl (lv_at hl 2 rfl) ?_
  refine lv_imul hx hb d_mo_product_2 ?_
  refine lv_aload_n hx hb d_mo_product_3 rfl (lv_at hl 0 rfl) ?_
  refine va_get (D := (dC, dI)) (ci := 1) (v := .int mo_prime) (C := R_mo) (T := F_mo) (N := 1) hx hb hts in_mo hown hK hP 0 rfl rfl 0 (by decide) (hts _ kw_63) (fun _ h9 => h9) rfl d_mo_product_4 ?_
  obtain ⟨hz_1, hv⟩ := hv
  refine lv_irem hx hb d_mo_product_7 hz_1 ?_
  have hP9 := hP.sub (ws' := [((ad 3), .inr (1, [.int mo_prime]))]) [0] rfl
  have hD9 := hD.sub (ws' := [((ad 3), .inr (1, [.int mo_prime]))]) [0] (by decide) rfl
  exact W.iret (v := ((p0 * p1) - (p0 * p1) / mo_prime * mo_prime)) hx hb hr (fun t ht hW => ⟨⟨((p0 * p1) - (p0 * p1) / mo_prime * mo_prime), (), rfl, hv, by rw [ht]; exact hP9, hD9⟩, hS.F ht⟩) hS.2.2 d_mo_product_8
abbrev b_mo_inverse : ByteArray := prog_4_method_6_code
def y_mo_inverse : MethodName := ⟨"SpaceBasis$Modulus", "inverse", "(I)I"⟩
def w_mo_inverse : List Cond := Cond.code y_mo_inverse b_mo_inverse 5 (some .int) :: vwWS
theorem d_mo_inverse_0 : decode b_mo_inverse 0 = .ok (.iconst 1, 1) := by decide +kernel
theorem d_mo_inverse_1 : decode b_mo_inverse 1 = .ok (.istore_n 2, 1) := by decide +kernel
theorem d_mo_inverse_2 : decode b_mo_inverse 2 = .ok (.iload_n 1, 1) := by decide +kernel
theorem d_mo_inverse_3 : decode b_mo_inverse 3 = .ok (.istore_n 3, 1) := by decide +kernel
theorem d_mo_inverse_4 : decode b_mo_inverse 4 = .ok (.aload_n 0, 1) := by decide +kernel
theorem d_mo_inverse_5 : decode b_mo_inverse 5 = .ok (.getfield 9, 3) := by decide +kernel
theorem d_mo_inverse_8 : decode b_mo_inverse 8 = .ok (.iconst 2, 1) := by decide +kernel
theorem d_mo_inverse_9 : decode b_mo_inverse 9 = .ok (.isub, 1) := by decide +kernel
theorem d_mo_inverse_10 : decode b_mo_inverse 10 = .ok (.istore 4, 2) := by decide +kernel
theorem d_mo_inverse_12 : decode b_mo_inverse 12 = .ok (.iload 4, 2) := by decide +kernel
theorem d_mo_inverse_14 : decode b_mo_inverse 14 = .ok (.ifCond .le 34, 3) := by decide +kernel
theorem d_mo_inverse_17 : decode b_mo_inverse 17 = .ok (.iload 4, 2) := by decide +kernel
theorem d_mo_inverse_19 : decode b_mo_inverse 19 = .ok (.iconst 1, 1) := by decide +kernel
theorem d_mo_inverse_20 : decode b_mo_inverse 20 = .ok (.iand, 1) := by decide +kernel
theorem d_mo_inverse_21 : decode b_mo_inverse 21 = .ok (.iconst 1, 1) := by decide +kernel
theorem d_mo_inverse_22 : decode b_mo_inverse 22 = .ok (.if_icmp .ne 10, 3) := by decide +kernel
theorem d_mo_inverse_25 : decode b_mo_inverse 25 = .ok (.aload_n 0, 1) := by decide +kernel
theorem d_mo_inverse_26 : decode b_mo_inverse 26 = .ok (.iload_n 2, 1) := by decide +kernel
theorem d_mo_inverse_27 : decode b_mo_inverse 27 = .ok (.iload_n 3, 1) := by decide +kernel
theorem d_mo_inverse_28 : decode b_mo_inverse 28 = .ok (.invokevirtual 21, 3) := by decide +kernel
theorem d_mo_inverse_31 : decode b_mo_inverse 31 = .ok (.istore_n 2, 1) := by decide +kernel
theorem d_mo_inverse_32 : decode b_mo_inverse 32 = .ok (.aload_n 0, 1) := by decide +kernel
theorem d_mo_inverse_33 : decode b_mo_inverse 33 = .ok (.iload_n 3, 1) := by decide +kernel
theorem d_mo_inverse_34 : decode b_mo_inverse 34 = .ok (.iload_n 3, 1) := by decide +kernel
theorem d_mo_inverse_35 : decode b_mo_inverse 35 = .ok (.invokevirtual 21, 3) := by decide +kernel
theorem d_mo_inverse_38 : decode b_mo_inverse 38 = .ok (.istore_n 3, 1) := by decide +kernel
theorem d_mo_inverse_39 : decode b_mo_inverse 39 = .ok (.iload 4, 2) := by decide +kernel
theorem d_mo_inverse_41 : decode b_mo_inverse 41 = .ok (.iconst 1, 1) := by decide +kernel
theorem d_mo_inverse_42 : decode b_mo_inverse 42 = .ok (.ishr, 1) := by decide +kernel
theorem d_mo_inverse_43 : decode b_mo_inverse 43 = .ok (.istore 4, 2) := by decide +kernel
theorem d_mo_inverse_45 : decode b_mo_inverse 45 = .ok (.goto (-33), 3) := by decide +kernel
theorem d_mo_inverse_48 : decode b_mo_inverse 48 = .ok (.iload_n 2, 1) := by decide +kernel
theorem d_mo_inverse_49 : decode b_mo_inverse 49 = .ok (.ireturn, 1) := by decide +kernel
/-- SpaceBasis$Modulus.inverse(I)I -/
def vc_mo_inverse (mo_prime : Int32) (p0 : Int32) (Q : Int32 → Prop) : Prop :=
  ∀ x4_1 : Int32, x4_1 = (mo_prime - 2) → ∃ (I12_5 : Int32 → Int32 → Int32 → Prop) (mu12_6 : Int32 → Int32 → Int32 → Nat), I12_5 1 p0 x4_1 ∧ ∀ (x2_2 : Int32) (x3_3 : Int32) (x4_4 : Int32), I12_5 x2_2 x3_3 x4_4 → ((((x4_4 ≤ 0) → (Q x2_2)) ∧ ((¬ (x4_4 ≤ 0)) → ((((¬ ((x4_4 &&& 1) = 1)) → (vc_mo_product mo_prime x3_3 x3_3 (fun (r_9 : Int32) => ∀ x4_10 : Int32, x4_10 = (x4_4 >>> (1 &&& 31)) → (I12_5 x2_2 r_9 x4_10 ∧ mu12_6 x2_2 r_9 x4_10 < mu12_6 x2_2 x3_3 x4_4)))) ∧ (((x4_4 &&& 1) = 1) → (vc_mo_product mo_prime x2_2 x3_3 (fun (r_11 : Int32) => vc_mo_product mo_prime x3_3 x3_3 (fun (r_12 : Int32) => ∀ x4_13 : Int32, x4_13 = (x4_4 >>> (1 &&& 31)) → (I12_5 r_11 r_12 x4_13 ∧ mu12_6 r_11 r_12 x4_13 < mu12_6 x2_2 x3_3 x4_4))))))))))
abbrev at_mo_inverse (dC : Nat → ClassId) (dI : Nat → Nat → Nat) (cs : Nat → ClassId) (A : Nat → Prop) (ad : Nat → Nat) (mo_prime : Int32) (u : Unit) (t : State) : Prop := match u with
  | _ => va_P (dC, dI) vwCl [((ad 3), .inr (1, [.int mo_prime]))] t.heap ∧ va_D A [((ad 3), .inr (1, [.int mo_prime]))]
set_option maxHeartbeats 4000000 in
set_option maxRecDepth 100000 in
theorem c_mo_inverse (l : Launch) (dC : Nat → ClassId) (dI : Nat → Nat → Nat) (cs : Nat → ClassId) (ad : Nat → Nat)  (sz : Nat) (mo_prime : Int32) (p0 : Int32) (Q : Int32 → Prop) (hv : vc_mo_inverse mo_prime p0 Q) : Met l y_mo_inverse w_mo_inverse ({ frames := 1, cells := 0, slots := 0, locals := 22 }) (va_Pc [.ref (ad 3), .int p0] (fun U => U.heap.size = sz ∧ va_P (dC, dI) vwCl [((ad 3), .inr (1, [.int mo_prime]))] U.heap ∧ vwK dC dI cs U ∧ va_D (fun _ => True) [((ad 3), .inr (1, [.int mo_prime]))])) (va_Qi (fun (r : Int32) (u : Unit) => Q r) (at_mo_inverse dC dI cs (va_A [((ad 3), .inr (1, [.int mo_prime]))] sz) ad mo_prime) (va_A [((ad 3), .inr (1, [.int mo_prime]))] sz)) 0 0 (va_A [((ad 3), .inr (1, [.int mo_prime]))] sz) := by
  unfold vc_mo_inverse at hv
  refine Met.ofW (cc := b_mo_inverse) (maxL := 5) (ret := (some .int)) (by decide) rfl ?_
  intro p e s m args below meth c s₁ B hml hpc
  obtain ⟨rfl, hsz, hP, ⟨hK, hN⟩, hD0⟩ := hpc
  have hx := B.exec
  have hb := B.bytes
  have hr := B.returns
  have hts : ∀ w ∈ vwWS, w.before _ s = true := fun w h => atoms_spec (ws := w_mo_inverse) B.pre w (List.mem_cons_of_mem _ h)
  have hown : s.vm.findClass "SpaceBasis$Modulus" = some m.cls := findClass_of_methodNamed B.named
  have hlocks := B.notSynchronized
  subst hsz
  have hD := hD0.self (sz := s.heap.size)
  generalize hAe : va_A [((ad 3), .inr (1, [.int mo_prime]))] s.heap.size = A at hD ⊢
  have hA : ∀ q : Nat, s.heap.size ≤ q → A q := fun q h => by rw [← hAe]; exact Or.inr h
  have hS : va_S A s.heap s.heap [] := va_S.rf
  have hl := lv_entry ([.ref (ad 3), .int p0]) (n := 5) (Nat.le_of_ble_eq_true rfl)
  rw [lg_entry_eq]
  generalize (lg_sl ([.ref (ad 3), .int p0]) ++ List.replicate (5 - (lg_sl ([.ref (ad 3), .int p0])).length) Slot.unset).toArray = ls at hl ⊢
  have hl : lv_has ls 5 [(0, .ref (ad 3)), (1, .int p0)] := hl
  refine lv_iconst (v := 1) hx hb d_mo_inverse_0 (by decide) ?_
  refine lv_istore_n (lv' := [(2, .int 1), (0, .ref (ad 3)), (1, .int p0)]) hx hb d_mo_inverse_1 rfl hl (by decide) rfl (fun ls hl => ?_)
  refine lv_iload_n hx hb d_mo_inverse_2 rfl (lv_at hl 2 rfl) ?_
  refine lv_istore_n (lv' := [(3, .int p0), (2, .int 1), (0, .ref (ad 3)), (1, .int p0)]) hx hb d_mo_inverse_3 rfl hl (by decide) rfl (fun ls hl => ?_)
  refine lv_aload_n hx hb d_mo_inverse_4 rfl (lv_at hl 2 rfl) ?_
  refine va_get (D := (dC, dI)) (ci := 1) (v := .int mo_prime) (C := R_mo) (T := F_mo) (N := 1) hx hb hts in_mo hown hK hP 0 rfl rfl 0 (by decide) (hts _ kw_63) (fun _ h9 => h9) rfl d_mo_inverse_5 ?_
  refine lv_iconst (v := 2) hx hb d_mo_inverse_8 (by decide) ?_
  refine lv_isub hx hb d_mo_inverse_9 ?_
  refine lv_topi (fun x4_1 ex4_1 => ?_)
  have hv := hv x4_1 ex4_1
  refine lv_istore (lv' := [(4, .int x4_1), (3, .int p0), (2, .int 1), (0, .ref (ad 3)), (1, .int p0)]) hx hb d_mo_inverse_10 hl (by decide) rfl (fun ls hl => ?_)
  obtain ⟨I12_5, mu12_6, hi0, hv⟩ := hv
  have hP := hP.sub (ws' := [((ad 3), .inr (1, [.int mo_prime]))]) [0] rfl
  have hD := hD.sub (ws' := [((ad 3), .inr (1, [.int mo_prime]))]) [0] (by decide) rfl
  have hl := lv_sub (l' := [(0, .ref (ad 3)), (1, .int p0), (2, .int 1), (3, .int p0), (4, .int x4_1)]) hl [3, 4, 2, 1, 0] rfl
  have loop12 : ∀ (nn : Nat) (x2_2 : Int32) (x3_3 : Int32) (x4_4 : Int32), mu12_6 x2_2 x3_3 x4_4 < nn → I12_5 x2_2 x3_3 x4_4 → ∀ (H : Heap) (locs : List Loc) (ls : Array Slot), va_P (dC, dI) vwCl [((ad 3), .inr (1, [.int mo_prime]))] H → va_D A [((ad 3), .inr (1, [.int mo_prime]))] → va_S A s.heap H locs → lv_has ls 5 [(0, .ref (ad 3)), (1, .int p0), (2, .int x2_2), (3, .int x3_3), (4, .int x4_4)] → W p l e (headSpec w_mo_inverse { frames := 1, cells := 0, slots := 0, locals := 22 }).room s m ([.ref (ad 3), .int p0] : List Value).toArray below meth c H locs 0 0 (MQ below (va_Qi (fun (r : Int32) (u : Unit) => Q r) (at_mo_inverse dC dI cs A ad mo_prime) A) ([.ref (ad 3), .int p0] : List Value).toArray s 0 0 A) (F0 m 12 ls []) := by
    intro nn
    induction nn with
    | zero => intro x2_2 x3_3 x4_4 hlt; exact absurd hlt (Nat.not_lt_zero _)
    | succ nn ih12 =>
      intro x2_2 x3_3 x4_4 hlt12 hI H locs ls hP hD hS hl
      have hv := hv x2_2 x3_3 x4_4 hI
      refine lv_iload hx hb d_mo_inverse_12 (lv_at hl 4 rfl) ?_
      refine lv_if_le (tgt := 48) hx hb d_mo_inverse_14 (by decide) (fun c_7 => ?_) (fun c_7 => ?_)
      · have hv := hv.1 c_7
        refine lv_iload_n hx hb d_mo_inverse_48 rfl (lv_at hl 2 rfl) ?_
        have hP9 := hP.sub (ws' := [((ad 3), .inr (1, [.int mo_prime]))]) [0] rfl
        have hD9 := hD.sub (ws' := [((ad 3), .inr (1, [.int mo_prime]))]) [0] (by decide) rfl
        exact W.iret (v := x2_2) hx hb hr (fun t ht hW => ⟨⟨x2_2, (), rfl, hv, by rw [ht]; exact hP9, hD9⟩, hS.F ht⟩) hS.2.2 d_mo_inverse_49
      · have hv := hv.2 c_7
        refine lv_iload hx hb d_mo_inverse_17 (lv_at hl 4 rfl) ?_
        refine lv_iconst (v := 1) hx hb d_mo_inverse_19 (by decide) ?_
        refine lv_iand hx hb d_mo_inverse_20 ?_
        refine lv_iconst (v := 1) hx hb d_mo_inverse_21 (by decide) ?_
        refine lv_icmp_ne (tgt := 32) hx hb d_mo_inverse_22 (by decide) (fun c_8 => ?_) (fun c_8 => ?_)
        · have hv := hv.1 c_8
          refine lv_aload_n hx hb d_mo_inverse_32 rfl (lv_at hl 0 rfl) ?_
          refine lv_iload_n hx hb d_mo_inverse_33 rfl (lv_at hl 3 rfl) ?_
          refine lv_iload_n hx hb d_mo_inverse_34 rfl (lv_at hl 3 rfl) ?_
          have hPc := hP.sub (ws' := [((ad 3), .inr (1, [.int mo_prime]))]) [0] rfl
          have hDc := hD.sub (ws' := [((ad 3), .inr (1, [.int mo_prime]))]) [0] (by decide) rfl
          have hFc := va_free (wc := [((ad 3), .inr (1, [.int mo_prime]))]) hD hS hA [0] rfl
          refine va_calli (va_runV (As := [.int x3_3, .int x3_3]) (rest := []) ⟨hx, hb, hml, hown, hts⟩ (c_mo_product l dC dI cs ad  H.size mo_prime x3_3 x3_3 _ hv) (cwV 2 hts (gd_V kw_500 kw_501 kw_502 kw_33 kw_503) rfl rfl rfl (by decide +kernel) ⟨Nat.le_of_ble_eq_true rfl, Nat.le_of_ble_eq_true rfl⟩) ⟨fun a U g mk q => by obtain ⟨q0, q1, qP, qK, qD⟩ := q; exact ⟨q0, q1, qP, qK.call, qD⟩, va_recv hK hPc (ci := 1) (q0 := 0) rfl rfl, fun U hU hW => ⟨rfl, by rw [hU], by rw [hU]; exact hPc, vwK.warm hW ⟨hK, hN⟩, hDc.weaken (fun _ _ _ _ => trivial)⟩⟩ rfl rfl hl.1 rfl (lv_room (Nat.le_of_ble_eq_true rfl)) d_mo_inverse_35 ⟨Nat.zero_le _, Nat.zero_le _⟩) hS (fun q _ h => hFc q h) hFc (fun r_9 _u t H1 locs1 ht hvm hw hB hz1 hk1 hS => ?_)
          obtain ⟨hP1, hD1⟩ := hB
          rw [ht] at hP1
          obtain ⟨hP, hD⟩ := va_join (wr := []) (w1 := [((ad 3), .inr (1, [.int mo_prime]))]) hP hD [0] [] rfl rfl (by decide) (by decide) hk1 hFc hP1 hD1
          generalize H1 = H at hP hS ⊢
          generalize locs1 = locs at hS ⊢
          have hP : va_P (dC, dI) vwCl [((ad 3), .inr (1, [.int mo_prime]))] H := hP
          have hD : va_D A [((ad 3), .inr (1, [.int mo_prime]))] := hD
          have hv := hw
          try dsimp only at hv
          refine lv_istore_n (lv' := [(3, .int r_9), (0, .ref (ad 3)), (1, .int p0), (2, .int x2_2), (4, .int x4_4)]) hx hb d_mo_inverse_38 rfl hl (by decide) rfl (fun ls hl => ?_)
          refine lv_iload hx hb d_mo_inverse_39 (lv_at hl 4 rfl) ?_
          refine lv_iconst (v := 1) hx hb d_mo_inverse_41 (by decide) ?_
          refine lv_ishr hx hb d_mo_inverse_42 ?_
          refine lv_topi (fun x4_10 ex4_10 => ?_)
          have hv := hv x4_10 ex4_10
          refine lv_istore (lv' := [(4, .int x4_10), (3, .int r_9), (0, .ref (ad 3)), (1, .int p0), (2, .int x2_2)]) hx hb d_mo_inverse_43 hl (by decide) rfl (fun ls hl => ?_)
          refine lv_goto (tgt := 12) hx hb d_mo_inverse_45 (by decide) ?_
          exact ih12 x2_2 r_9 x4_10 (Nat.lt_of_lt_of_le hv.2 (Nat.le_of_lt_succ hlt12)) hv.1 _ _ _ (hP.sub [0] rfl) (hD.sub [0] (by decide) rfl) hS (lv_sub hl [2, 3, 4, 1, 0] rfl)
        · have hv := hv.2 c_8
          refine lv_aload_n hx hb d_mo_inverse_25 rfl (lv_at hl 0 rfl) ?_
          refine lv_iload_n hx hb d_mo_inverse_26 rfl (lv_at hl 2 rfl) ?_
          refine lv_iload_n hx hb d_mo_inverse_27 rfl (lv_at hl 3 rfl) ?_
          have hPc := hP.sub (ws' := [((ad 3), .inr (1, [.int mo_prime]))]) [0] rfl
          have hDc := hD.sub (ws' := [((ad 3), .inr (1, [.int mo_prime]))]) [0] (by decide) rfl
          have hFc := va_free (wc := [((ad 3), .inr (1, [.int mo_prime]))]) hD hS hA [0] rfl
          refine va_calli (va_runV (As := [.int x2_2, .int x3_3]) (rest := []) ⟨hx, hb, hml, hown, hts⟩ (c_mo_product l dC dI cs ad  H.size mo_prime x2_2 x3_3 _ hv) (cwV 2 hts (gd_V kw_500 kw_501 kw_502 kw_33 kw_503) rfl rfl rfl (by decide +kernel) ⟨Nat.le_of_ble_eq_true rfl, Nat.le_of_ble_eq_true rfl⟩) ⟨fun a U g mk q => by obtain ⟨q0, q1, qP, qK, qD⟩ := q; exact ⟨q0, q1, qP, qK.call, qD⟩, va_recv hK hPc (ci := 1) (q0 := 0) rfl rfl, fun U hU hW => ⟨rfl, by rw [hU], by rw [hU]; exact hPc, vwK.warm hW ⟨hK, hN⟩, hDc.weaken (fun _ _ _ _ => trivial)⟩⟩ rfl rfl hl.1 rfl (lv_room (Nat.le_of_ble_eq_true rfl)) d_mo_inverse_28 ⟨Nat.zero_le _, Nat.zero_le _⟩) hS (fun q _ h => hFc q h) hFc (fun r_11 _u t H1 locs1 ht hvm hw hB hz1 hk1 hS => ?_)
          obtain ⟨hP1, hD1⟩ := hB
          rw [ht] at hP1
          obtain ⟨hP, hD⟩ := va_join (wr := []) (w1 := [((ad 3), .inr (1, [.int mo_prime]))]) hP hD [0] [] rfl rfl (by decide) (by decide) hk1 hFc hP1 hD1
          generalize H1 = H at hP hS ⊢
          generalize locs1 = locs at hS ⊢
          have hP : va_P (dC, dI) vwCl [((ad 3), .inr (1, [.int mo_prime]))] H := hP
          have hD : va_D A [((ad 3), .inr (1, [.int mo_prime]))] := hD
          have hv := hw
          try dsimp only at hv
          refine lv_istore_n (lv' := [(2, .int r_11), (0, .ref (ad 3)), (1, .int p0), (3, .int x3_3), (4, .int x4_4)]) hx hb d_mo_inverse_31 rfl hl (by decide) rfl (fun ls hl => ?_)
          refine lv_aload_n hx hb d_mo_inverse_32 rfl (lv_at hl 1 rfl) ?_
          refine lv_iload_n hx hb d_mo_inverse_33 rfl (lv_at hl 3 rfl) ?_
          refine lv_iload_n hx hb d_mo_inverse_34 rfl (lv_at hl 3 rfl) ?_
          have hPc := hP.sub (ws' := [((ad 3), .inr (1, [.int mo_prime]))]) [0] rfl
          have hDc := hD.sub (ws' := [((ad 3), .inr (1, [.int mo_prime]))]) [0] (by decide) rfl
          have hFc := va_free (wc := [((ad 3), .inr (1, [.int mo_prime]))]) hD hS hA [0] rfl
          refine va_calli (va_runV (As := [.int x3_3, .int x3_3]) (rest := []) ⟨hx, hb, hml, hown, hts⟩ (c_mo_product l dC dI cs ad  H.size mo_prime x3_3 x3_3 _ hv) (cwV 2 hts (gd_V kw_500 kw_501 kw_502 kw_33 kw_503) rfl rfl rfl (by decide +kernel) ⟨Nat.le_of_ble_eq_true rfl, Nat.le_of_ble_eq_true rfl⟩) ⟨fun a U g mk q => by obtain ⟨q0, q1, qP, qK, qD⟩ := q; exact ⟨q0, q1, qP, qK.call, qD⟩, va_recv hK hPc (ci := 1) (q0 := 0) rfl rfl, fun U hU hW => ⟨rfl, by rw [hU], by rw [hU]; exact hPc, vwK.warm hW ⟨hK, hN⟩, hDc.weaken (fun _ _ _ _ => trivial)⟩⟩ rfl rfl hl.1 rfl (lv_room (Nat.le_of_ble_eq_true rfl)) d_mo_inverse_35 ⟨Nat.zero_le _, Nat.zero_le _⟩) hS (fun q _ h => hFc q h) hFc (fun r_12 _u t H1 locs1 ht hvm hw hB hz1 hk1 hS => ?_)
          obtain ⟨hP1, hD1⟩ := hB
          rw [ht] at hP1
          obtain ⟨hP, hD⟩ := va_join (wr := []) (w1 := [((ad 3), .inr (1, [.int mo_prime]))]) hP hD [0] [] rfl rfl (by decide) (by decide) hk1 hFc hP1 hD1
          generalize H1 = H at hP hS ⊢
          generalize locs1 = locs at hS ⊢
          have hP : va_P (dC, dI) vwCl [((ad 3), .inr (1, [.int mo_prime]))] H := hP
          have hD : va_D A [((ad 3), .inr (1, [.int mo_prime]))] := hD
          have hv := hw
          try dsimp only at hv
          refine lv_istore_n (lv' := [(3, .int r_12), (2, .int r_11), (0, .ref (ad 3)), (1, .int p0), (4, .int x4_4)]) hx hb d_mo_inverse_38 rfl hl (by decide) rfl (fun ls hl => ?_)
          refine lv_iload hx hb d_mo_inverse_39 (lv_at hl 4 rfl) ?_
          refine lv_iconst (v := 1) hx hb d_mo_inverse_41 (by decide) ?_
          refine lv_ishr hx hb d_mo_inverse_42 ?_
          refine lv_topi (fun x4_13 ex4_13 => ?_)
          have hv := hv x4_13 ex4_13
          refine lv_istore (lv' := [(4, .int x4_13), (3, .int r_12), (2, .int r_11), (0, .ref (ad 3)), (1, .int p0)]) hx hb d_mo_inverse_43 hl (by decide) rfl (fun ls hl => ?_)
          refine lv_goto (tgt := 12) hx hb d_mo_inverse_45 (by decide) ?_
          exact ih12 r_11 r_12 x4_13 (Nat.lt_of_lt_of_le hv.2 (Nat.le_of_lt_succ hlt12)) hv.1 _ _ _ (hP.sub [0] rfl) (hD.sub [0] (by decide) rfl) hS (lv_sub hl [3, 4, 2, 1, 0] rfl)
  exact loop12 _ 1 p0 x4_1 (Nat.lt_succ_self _) hi0 _ _ _ hP hD hS hl
