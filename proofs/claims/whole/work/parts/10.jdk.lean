abbrev b_Ar_fill : ByteArray := prog_20_method_103_code
def y_Ar_fill : MethodName := ⟨"java/util/Arrays", "fill", "([II)V"⟩
def w_Ar_fill : List Cond := Cond.code y_Ar_fill b_Ar_fill 4 none :: vwWS
theorem d_Ar_fill_0 : decode b_Ar_fill 0 = .ok (.iconst 0, 1) := by decide +kernel
theorem d_Ar_fill_1 : decode b_Ar_fill 1 = .ok (.istore_n 2, 1) := by decide +kernel
theorem d_Ar_fill_2 : decode b_Ar_fill 2 = .ok (.aload_n 0, 1) := by decide +kernel
theorem d_Ar_fill_3 : decode b_Ar_fill 3 = .ok (.arraylength, 1) := by decide +kernel
theorem d_Ar_fill_4 : decode b_Ar_fill 4 = .ok (.istore_n 3, 1) := by decide +kernel
theorem d_Ar_fill_5 : decode b_Ar_fill 5 = .ok (.iload_n 2, 1) := by decide +kernel
theorem d_Ar_fill_6 : decode b_Ar_fill 6 = .ok (.iload_n 3, 1) := by decide +kernel
theorem d_Ar_fill_7 : decode b_Ar_fill 7 = .ok (.if_icmp .ge 13, 3) := by decide +kernel
theorem d_Ar_fill_10 : decode b_Ar_fill 10 = .ok (.aload_n 0, 1) := by decide +kernel
theorem d_Ar_fill_11 : decode b_Ar_fill 11 = .ok (.iload_n 2, 1) := by decide +kernel
theorem d_Ar_fill_12 : decode b_Ar_fill 12 = .ok (.iload_n 1, 1) := by decide +kernel
theorem d_Ar_fill_13 : decode b_Ar_fill 13 = .ok (.iastore, 1) := by decide +kernel
theorem d_Ar_fill_14 : decode b_Ar_fill 14 = .ok (.iinc 2 1, 3) := by decide +kernel
theorem d_Ar_fill_17 : decode b_Ar_fill 17 = .ok (.goto (-12), 3) := by decide +kernel
theorem d_Ar_fill_20 : decode b_Ar_fill 20 = .ok (.return_, 1) := by decide +kernel
/-- java/util/Arrays.fill([II)V -/
def vc_Ar_fill (nA0 : Nat) (A0 : Nat → Int32) (p1 : Int32) (Q : (Nat → Int32) → Prop) : Prop :=
  ∀ x3_1 : Int32, x3_1 = (Int32.ofNat nA0) → ∃ (I5_4 : Int32 → (Nat → Int32) → Prop) (mu5_5 : Int32 → (Nat → Int32) → Nat), I5_4 0 A0 ∧ ∀ (x2_2 : Int32) (A0_3 : Nat → Int32), I5_4 x2_2 A0_3 → ((((x3_1 ≤ x2_2) → (Q A0_3)) ∧ ((¬ (x3_1 ≤ x2_2)) → (vp_in x2_2 nA0 ∧ ∀ A0_8 : Nat → Int32, A0_8 = upd A0_3 x2_2.toNatClampNeg p1 → ∀ x2_9 : Int32, x2_9 = x2_2 + 1 → (I5_4 x2_9 A0_8 ∧ mu5_5 x2_9 A0_8 < mu5_5 x2_2 A0_3)))))
abbrev at_Ar_fill (dC : Nat → ClassId) (dI : Nat → Nat → Nat) (cs : Nat → ClassId) (A : Nat → Prop) (ad : Nat → Nat) (aA0 : Nat) (nA0 : Nat) (u : (Nat → Int32)) (t : State) : Prop := match u with
  | A0 => va_P (dC, dI) vwCl [(aA0, .inl (cs 0, nA0, .inl A0))] t.heap ∧ va_D A [(aA0, .inl (cs 0, nA0, .inl A0))]
set_option maxHeartbeats 4000000 in
set_option maxRecDepth 100000 in
theorem c_Ar_fill (l : Launch) (dC : Nat → ClassId) (dI : Nat → Nat → Nat) (cs : Nat → ClassId) (ad : Nat → Nat) (aA0 : Nat) (sz : Nat) (nA0 : Nat) (A0 : Nat → Int32) (p1 : Int32) (Q : (Nat → Int32) → Prop) (hv : vc_Ar_fill nA0 A0 p1 Q) : Met l y_Ar_fill w_Ar_fill ({ frames := 0, cells := 0, slots := 0, locals := 0 }) (va_Pc [.ref aA0, .int p1] (fun U => U.heap.size = sz ∧ va_P (dC, dI) vwCl [(aA0, .inl (cs 0, nA0, .inl A0))] U.heap ∧ vwK dC dI cs U ∧ va_D (fun _ => True) [(aA0, .inl (cs 0, nA0, .inl A0))])) (va_Qv (fun (u : (Nat → Int32)) => Q u) (at_Ar_fill dC dI cs (va_A [(aA0, .inl (cs 0, nA0, .inl A0))] sz) ad aA0 nA0) (va_A [(aA0, .inl (cs 0, nA0, .inl A0))] sz)) 0 0 (va_A [(aA0, .inl (cs 0, nA0, .inl A0))] sz) := by
  unfold vc_Ar_fill at hv
  refine va_MetF (cc := b_Ar_fill) (maxL := 4) (ret := none) (by decide +kernel) rfl ?_
  intro p e s m args below meth c s₁ B hml hpc
  obtain ⟨rfl, hsz, hP, ⟨hK, hN⟩, hD0⟩ := hpc
  have hx := B.exec
  have hb := B.bytes
  have hr := B.returns
  have hts : ∀ w ∈ vwWS, w.before _ s = true := fun w h => atoms_spec (ws := w_Ar_fill) B.pre w (List.mem_cons_of_mem _ h)
  have hown : s.vm.findClass "java/util/Arrays" = some m.cls := findClass_of_methodNamed B.named
  have hlocks := B.notSynchronized
  subst hsz
  have hD := hD0.self (sz := s.heap.size)
  generalize hAe : va_A [(aA0, .inl (cs 0, nA0, .inl A0))] s.heap.size = A at hD ⊢
  have hA : ∀ q : Nat, s.heap.size ≤ q → A q := fun q h => by rw [← hAe]; exact Or.inr h
  have hS : va_S A s.heap s.heap [] := va_S.rf
  have hl := lv_entry ([.ref aA0, .int p1]) (n := 4) (Nat.le_of_ble_eq_true rfl)
  rw [lg_entry_eq]
  generalize (lg_sl ([.ref aA0, .int p1]) ++ List.replicate (4 - (lg_sl ([.ref aA0, .int p1])).length) Slot.unset).toArray = ls at hl ⊢
  have hl : lv_has ls 4 [(0, .ref aA0), (1, .int p1)] := hl
  refine lv_iconst (v := 0) hx hb d_Ar_fill_0 (by decide) ?_
  refine lv_istore_n (lv' := [(2, .int 0), (0, .ref aA0), (1, .int p1)]) hx hb d_Ar_fill_1 rfl hl (by decide) rfl (fun ls hl => ?_)
  refine lv_aload_n hx hb d_Ar_fill_2 rfl (lv_at hl 1 rfl) ?_
  refine va_alen hx hb hK hP 0 0 rfl rfl (v := (Int32.ofNat nA0)) rfl d_Ar_fill_3 ?_
  refine lv_topi (fun x3_1 ex3_1 => ?_)
  have hv := hv x3_1 ex3_1
  refine lv_istore_n (lv' := [(3, .int x3_1), (2, .int 0), (0, .ref aA0), (1, .int p1)]) hx hb d_Ar_fill_4 rfl hl (by decide) rfl (fun ls hl => ?_)
  obtain ⟨I5_4, mu5_5, hi0, hv⟩ := hv
  have hP := hP.sub (ws' := [(aA0, .inl (cs 0, nA0, .inl A0))]) [0] rfl
  have hD := hD.sub (ws' := [(aA0, .inl (cs 0, nA0, .inl A0))]) [0] (by decide) rfl
  have hl := lv_sub (l' := [(0, .ref aA0), (1, .int p1), (2, .int 0), (3, .int x3_1)]) hl [2, 3, 1, 0] rfl
  have loop5 : ∀ (nn : Nat) (x2_2 : Int32) (A0_3 : Nat → Int32), mu5_5 x2_2 A0_3 < nn → I5_4 x2_2 A0_3 → ∀ (H : Heap) (locs : List Loc) (ls : Array Slot), va_P (dC, dI) vwCl [(aA0, .inl (cs 0, nA0, .inl A0_3))] H → va_D A [(aA0, .inl (cs 0, nA0, .inl A0_3))] → va_S A s.heap H locs → lv_has ls 4 [(0, .ref aA0), (1, .int p1), (2, .int x2_2), (3, .int x3_1)] → W p l e (headSpec w_Ar_fill { frames := 0, cells := 0, slots := 0, locals := 0 }).room s m ([.ref aA0, .int p1] : List Value).toArray below meth c H locs 0 0 (MQ below (va_Qv (fun (u : (Nat → Int32)) => Q u) (at_Ar_fill dC dI cs A ad aA0 nA0) A) ([.ref aA0, .int p1] : List Value).toArray s 0 0 A) (F0 m 5 ls []) := by
    intro nn
    induction nn with
    | zero => intro x2_2 A0_3 hlt; exact absurd hlt (Nat.not_lt_zero _)
    | succ nn ih5 =>
      intro x2_2 A0_3 hlt5 hI H locs ls hP hD hS hl
      have hv := hv x2_2 A0_3 hI
      refine lv_iload_n hx hb d_Ar_fill_5 rfl (lv_at hl 2 rfl) ?_
      refine lv_iload_n hx hb d_Ar_fill_6 rfl (lv_at hl 3 rfl) ?_
      refine lv_icmp_ge (tgt := 20) hx hb d_Ar_fill_7 (by decide) (fun c_6 => ?_) (fun c_6 => ?_)
      · have hv := hv.1 c_6
        have hP9 := hP.sub (ws' := [(aA0, .inl (cs 0, nA0, .inl A0_3))]) [0] rfl
        have hD9 := hD.sub (ws' := [(aA0, .inl (cs 0, nA0, .inl A0_3))]) [0] (by decide) rfl
        exact W.vret hx hb hr (fun t ht hW => ⟨⟨A0_3, rfl, hv, by rw [ht]; exact hP9, hD9⟩, hS.F ht⟩) hS.2.2 d_Ar_fill_20
      · have hv := hv.2 c_6
        refine lv_aload_n hx hb d_Ar_fill_10 rfl (lv_at hl 0 rfl) ?_
        refine lv_iload_n hx hb d_Ar_fill_11 rfl (lv_at hl 2 rfl) ?_
        refine lv_iload_n hx hb d_Ar_fill_12 rfl (lv_at hl 1 rfl) ?_
        obtain ⟨hi_7, hv⟩ := hv
        refine va_iast hx hb hK hP hD hS 0 0 rfl rfl hi_7 d_Ar_fill_13 (fun H locs hP hD hS => ?_)
        have hP : va_P (dC, dI) vwCl [(aA0, .inl (cs 0, nA0, .inl (upd A0_3 x2_2.toNatClampNeg p1)))] H := hP
        have hD : va_D A [(aA0, .inl (cs 0, nA0, .inl (upd A0_3 x2_2.toNatClampNeg p1)))] := hD
        generalize eA0_8 : upd A0_3 x2_2.toNatClampNeg p1 = A0_8 at hP hD
        have hv := hv A0_8 eA0_8.symm
        obtain ⟨x2_9, ex2_9⟩ : ∃ y : Int32, y = x2_2 + 1 := ⟨_, rfl⟩
        have hv := hv x2_9 ex2_9
        refine lv_iinc (v := x2_9) (lv' := [(2, .int x2_9), (0, .ref aA0), (1, .int p1), (3, .int x3_1)]) hx hb d_Ar_fill_14 hl (k := 2) rfl (by rw [ex2_9]; rfl) (by decide) rfl (fun ls hl => ?_)
        refine lv_goto (tgt := 5) hx hb d_Ar_fill_17 (by decide) ?_
        exact ih5 x2_9 A0_8 (Nat.lt_of_lt_of_le hv.2 (Nat.le_of_lt_succ hlt5)) hv.1 _ _ _ (hP.sub [0] rfl) (hD.sub [0] (by decide) rfl) hS (lv_sub hl [1, 2, 0, 3] rfl)
  exact loop5 _ 0 A0 (Nat.lt_succ_self _) hi0 _ _ _ hP hD hS hl
abbrev b_Ma_floorMod : ByteArray := prog_15_method_50_code
def y_Ma_floorMod : MethodName := ⟨"java/lang/Math", "floorMod", "(II)I"⟩
def w_Ma_floorMod : List Cond := Cond.code y_Ma_floorMod b_Ma_floorMod 3 (some .int) :: vwWS
theorem d_Ma_floorMod_0 : decode b_Ma_floorMod 0 = .ok (.iload_n 0, 1) := by decide +kernel
theorem d_Ma_floorMod_1 : decode b_Ma_floorMod 1 = .ok (.iload_n 1, 1) := by decide +kernel
theorem d_Ma_floorMod_2 : decode b_Ma_floorMod 2 = .ok (.irem, 1) := by decide +kernel
theorem d_Ma_floorMod_3 : decode b_Ma_floorMod 3 = .ok (.istore_n 2, 1) := by decide +kernel
theorem d_Ma_floorMod_4 : decode b_Ma_floorMod 4 = .ok (.iload_n 0, 1) := by decide +kernel
theorem d_Ma_floorMod_5 : decode b_Ma_floorMod 5 = .ok (.iload_n 1, 1) := by decide +kernel
theorem d_Ma_floorMod_6 : decode b_Ma_floorMod 6 = .ok (.ixor, 1) := by decide +kernel
theorem d_Ma_floorMod_7 : decode b_Ma_floorMod 7 = .ok (.ifCond .ge 11, 3) := by decide +kernel
theorem d_Ma_floorMod_10 : decode b_Ma_floorMod 10 = .ok (.iload_n 2, 1) := by decide +kernel
theorem d_Ma_floorMod_11 : decode b_Ma_floorMod 11 = .ok (.ifCond .eq 7, 3) := by decide +kernel
theorem d_Ma_floorMod_14 : decode b_Ma_floorMod 14 = .ok (.iload_n 2, 1) := by decide +kernel
theorem d_Ma_floorMod_15 : decode b_Ma_floorMod 15 = .ok (.iload_n 1, 1) := by decide +kernel
theorem d_Ma_floorMod_16 : decode b_Ma_floorMod 16 = .ok (.iadd, 1) := by decide +kernel
theorem d_Ma_floorMod_17 : decode b_Ma_floorMod 17 = .ok (.ireturn, 1) := by decide +kernel
theorem d_Ma_floorMod_18 : decode b_Ma_floorMod 18 = .ok (.iload_n 2, 1) := by decide +kernel
theorem d_Ma_floorMod_19 : decode b_Ma_floorMod 19 = .ok (.ireturn, 1) := by decide +kernel
/-- java/lang/Math.floorMod(II)I -/
def vc_Ma_floorMod (p0 : Int32) (p1 : Int32) (Q : Int32 → Prop) : Prop :=
  (¬ (p1 : Int32) = 0) ∧ ∀ x2_2 : Int32, x2_2 = (p0 - p0 / p1 * p1) → (((0 ≤ (p0 ^^^ p1)) → (Q x2_2)) ∧ ((¬ (0 ≤ (p0 ^^^ p1))) → ((((x2_2 = 0) → (Q x2_2)) ∧ ((¬ (x2_2 = 0)) → (Q (x2_2 + p1)))))))
abbrev at_Ma_floorMod (dC : Nat → ClassId) (dI : Nat → Nat → Nat) (cs : Nat → ClassId) (A : Nat → Prop) (ad : Nat → Nat)  (u : Unit) (t : State) : Prop := match u with
  | _ => va_P (dC, dI) vwCl [] t.heap ∧ va_D A []
set_option maxHeartbeats 4000000 in
set_option maxRecDepth 100000 in
theorem c_Ma_floorMod (l : Launch) (dC : Nat → ClassId) (dI : Nat → Nat → Nat) (cs : Nat → ClassId) (ad : Nat → Nat)  (sz : Nat) (p0 : Int32) (p1 : Int32) (Q : Int32 → Prop) (hv : vc_Ma_floorMod p0 p1 Q) : Met l y_Ma_floorMod w_Ma_floorMod ({ frames := 0, cells := 0, slots := 0, locals := 0 }) (va_Pc [.int p0, .int p1] (fun U => U.heap.size = sz ∧ va_P (dC, dI) vwCl [] U.heap ∧ vwK dC dI cs U ∧ va_D (fun _ => True) [])) (va_Qi (fun (r : Int32) (u : Unit) => Q r) (at_Ma_floorMod dC dI cs (va_A [] sz) ad ) (va_A [] sz)) 0 0 (va_A [] sz) := by
  unfold vc_Ma_floorMod at hv
  refine va_MetF (cc := b_Ma_floorMod) (maxL := 3) (ret := (some .int)) (by decide +kernel) rfl ?_
  intro p e s m args below meth c s₁ B hml hpc
  obtain ⟨rfl, hsz, hP, ⟨hK, hN⟩, hD0⟩ := hpc
  have hx := B.exec
  have hb := B.bytes
  have hr := B.returns
  have hts : ∀ w ∈ vwWS, w.before _ s = true := fun w h => atoms_spec (ws := w_Ma_floorMod) B.pre w (List.mem_cons_of_mem _ h)
  have hown : s.vm.findClass "java/lang/Math" = some m.cls := findClass_of_methodNamed B.named
  have hlocks := B.notSynchronized
  subst hsz
  have hD := hD0.self (sz := s.heap.size)
  generalize hAe : va_A [] s.heap.size = A at hD ⊢
  have hA : ∀ q : Nat, s.heap.size ≤ q → A q := fun q h => by rw [← hAe]; exact Or.inr h
  have hS : va_S A s.heap s.heap [] := va_S.rf
  have hl := lv_entry ([.int p0, .int p1]) (n := 3) (Nat.le_of_ble_eq_true rfl)
  rw [lg_entry_eq]
  generalize (lg_sl ([.int p0, .int p1]) ++ List.replicate (3 - (lg_sl ([.int p0, .int p1])).length) Slot.unset).toArray = ls at hl ⊢
  have hl : lv_has ls 3 [(0, .int p0), (1, .int p1)] := hl
  refine lv_iload_n hx hb d_Ma_floorMod_0 rfl (lv_at hl 0 rfl) ?_
  refine lv_iload_n hx hb d_Ma_floorMod_1 rfl (lv_at hl 1 rfl) ?_
  obtain ⟨hz_1, hv⟩ := hv
  refine lv_irem hx hb d_Ma_floorMod_2 hz_1 ?_
  refine lv_topi (fun x2_2 ex2_2 => ?_)
  have hv := hv x2_2 ex2_2
  refine lv_istore_n (lv' := [(2, .int x2_2), (0, .int p0), (1, .int p1)]) hx hb d_Ma_floorMod_3 rfl hl (by decide) rfl (fun ls hl => ?_)
  refine lv_iload_n hx hb d_Ma_floorMod_4 rfl (lv_at hl 1 rfl) ?_
  refine lv_iload_n hx hb d_Ma_floorMod_5 rfl (lv_at hl 2 rfl) ?_
  refine lv_ixor hx hb d_Ma_floorMod_6 ?_
  refine lv_if_ge (tgt := 18) hx hb d_Ma_floorMod_7 (by decide) (fun c_3 => ?_) (fun c_3 => ?_)
  · have hv := hv.1 c_3
    refine lv_iload_n hx hb d_Ma_floorMod_18 rfl (lv_at hl 0 rfl) ?_
    have hP9 := hP.sub (ws' := []) [] rfl
    have hD9 := hD.sub (ws' := []) [] (by decide) rfl
    exact W.iret (v := x2_2) hx hb hr (fun t ht hW => ⟨⟨x2_2, (), rfl, hv, by rw [ht]; exact hP9, hD9⟩, hS.F ht⟩) hS.2.2 d_Ma_floorMod_19
  · have hv := hv.2 c_3
    refine lv_iload_n hx hb d_Ma_floorMod_10 rfl (lv_at hl 0 rfl) ?_
    refine lv_if_eq (tgt := 18) hx hb d_Ma_floorMod_11 (by decide) (fun c_4 => ?_) (fun c_4 => ?_)
    · have hv := hv.1 c_4
      refine lv_iload_n hx hb d_Ma_floorMod_18 rfl (lv_at hl 0 rfl) ?_
      have hP9 := hP.sub (ws' := []) [] rfl
      have hD9 := hD.sub (ws' := []) [] (by decide) rfl
      exact W.iret (v := x2_2) hx hb hr (fun t ht hW => ⟨⟨x2_2, (), rfl, hv, by rw [ht]; exact hP9, hD9⟩, hS.F ht⟩) hS.2.2 d_Ma_floorMod_19
    · have hv := hv.2 c_4
      refine lv_iload_n hx hb d_Ma_floorMod_14 rfl (lv_at hl 0 rfl) ?_
      refine lv_iload_n hx hb d_Ma_floorMod_15 rfl (lv_at hl 2 rfl) ?_
      refine lv_iadd hx hb d_Ma_floorMod_16 ?_
      have hP9 := hP.sub (ws' := []) [] rfl
      have hD9 := hD.sub (ws' := []) [] (by decide) rfl
      exact W.iret (v := (x2_2 + p1)) hx hb hr (fun t ht hW => ⟨⟨(x2_2 + p1), (), rfl, hv, by rw [ht]; exact hP9, hD9⟩, hS.F ht⟩) hS.2.2 d_Ma_floorMod_17
abbrev b_In_bitCount : ByteArray := prog_14_method_49_code
def y_In_bitCount : MethodName := ⟨"java/lang/Integer", "bitCount", "(I)I"⟩
def w_In_bitCount : List Cond := Cond.code y_In_bitCount b_In_bitCount 1 (some .int) :: vwWS
theorem d_In_bitCount_0 : decode b_In_bitCount 0 = .ok (.iload_n 0, 1) := by decide +kernel
theorem d_In_bitCount_1 : decode b_In_bitCount 1 = .ok (.iload_n 0, 1) := by decide +kernel
theorem d_In_bitCount_2 : decode b_In_bitCount 2 = .ok (.iconst 1, 1) := by decide +kernel
theorem d_In_bitCount_3 : decode b_In_bitCount 3 = .ok (.iushr, 1) := by decide +kernel
theorem d_In_bitCount_4 : decode b_In_bitCount 4 = .ok (.ldc_w 265, 3) := by decide +kernel
theorem d_In_bitCount_7 : decode b_In_bitCount 7 = .ok (.iand, 1) := by decide +kernel
theorem d_In_bitCount_8 : decode b_In_bitCount 8 = .ok (.isub, 1) := by decide +kernel
theorem d_In_bitCount_9 : decode b_In_bitCount 9 = .ok (.istore_n 0, 1) := by decide +kernel
theorem d_In_bitCount_10 : decode b_In_bitCount 10 = .ok (.iload_n 0, 1) := by decide +kernel
theorem d_In_bitCount_11 : decode b_In_bitCount 11 = .ok (.ldc_w 266, 3) := by decide +kernel
theorem d_In_bitCount_14 : decode b_In_bitCount 14 = .ok (.iand, 1) := by decide +kernel
theorem d_In_bitCount_15 : decode b_In_bitCount 15 = .ok (.iload_n 0, 1) := by decide +kernel
theorem d_In_bitCount_16 : decode b_In_bitCount 16 = .ok (.iconst 2, 1) := by decide +kernel
theorem d_In_bitCount_17 : decode b_In_bitCount 17 = .ok (.iushr, 1) := by decide +kernel
theorem d_In_bitCount_18 : decode b_In_bitCount 18 = .ok (.ldc_w 266, 3) := by decide +kernel
theorem d_In_bitCount_21 : decode b_In_bitCount 21 = .ok (.iand, 1) := by decide +kernel
theorem d_In_bitCount_22 : decode b_In_bitCount 22 = .ok (.iadd, 1) := by decide +kernel
theorem d_In_bitCount_23 : decode b_In_bitCount 23 = .ok (.istore_n 0, 1) := by decide +kernel
theorem d_In_bitCount_24 : decode b_In_bitCount 24 = .ok (.iload_n 0, 1) := by decide +kernel
theorem d_In_bitCount_25 : decode b_In_bitCount 25 = .ok (.iload_n 0, 1) := by decide +kernel
theorem d_In_bitCount_26 : decode b_In_bitCount 26 = .ok (.iconst 4, 1) := by decide +kernel
theorem d_In_bitCount_27 : decode b_In_bitCount 27 = .ok (.iushr, 1) := by decide +kernel
theorem d_In_bitCount_28 : decode b_In_bitCount 28 = .ok (.iadd, 1) := by decide +kernel
theorem d_In_bitCount_29 : decode b_In_bitCount 29 = .ok (.ldc_w 267, 3) := by decide +kernel
theorem d_In_bitCount_32 : decode b_In_bitCount 32 = .ok (.iand, 1) := by decide +kernel
theorem d_In_bitCount_33 : decode b_In_bitCount 33 = .ok (.istore_n 0, 1) := by decide +kernel
theorem d_In_bitCount_34 : decode b_In_bitCount 34 = .ok (.iload_n 0, 1) := by decide +kernel
theorem d_In_bitCount_35 : decode b_In_bitCount 35 = .ok (.iload_n 0, 1) := by decide +kernel
theorem d_In_bitCount_36 : decode b_In_bitCount 36 = .ok (.bipush 8, 2) := by decide +kernel
theorem d_In_bitCount_38 : decode b_In_bitCount 38 = .ok (.iushr, 1) := by decide +kernel
theorem d_In_bitCount_39 : decode b_In_bitCount 39 = .ok (.iadd, 1) := by decide +kernel
theorem d_In_bitCount_40 : decode b_In_bitCount 40 = .ok (.istore_n 0, 1) := by decide +kernel
theorem d_In_bitCount_41 : decode b_In_bitCount 41 = .ok (.iload_n 0, 1) := by decide +kernel
theorem d_In_bitCount_42 : decode b_In_bitCount 42 = .ok (.iload_n 0, 1) := by decide +kernel
theorem d_In_bitCount_43 : decode b_In_bitCount 43 = .ok (.bipush 16, 2) := by decide +kernel
theorem d_In_bitCount_45 : decode b_In_bitCount 45 = .ok (.iushr, 1) := by decide +kernel
theorem d_In_bitCount_46 : decode b_In_bitCount 46 = .ok (.iadd, 1) := by decide +kernel
theorem d_In_bitCount_47 : decode b_In_bitCount 47 = .ok (.istore_n 0, 1) := by decide +kernel
theorem d_In_bitCount_48 : decode b_In_bitCount 48 = .ok (.iload_n 0, 1) := by decide +kernel
theorem d_In_bitCount_49 : decode b_In_bitCount 49 = .ok (.bipush 63, 2) := by decide +kernel
theorem d_In_bitCount_51 : decode b_In_bitCount 51 = .ok (.iand, 1) := by decide +kernel
theorem d_In_bitCount_52 : decode b_In_bitCount 52 = .ok (.ireturn, 1) := by decide +kernel
/-- java/lang/Integer.bitCount(I)I -/
def vc_In_bitCount (p0 : Int32) (Q : Int32 → Prop) : Prop :=
  ∀ x0_1 : Int32, x0_1 = (p0 - (((p0 : Int32).toUInt32 >>> ((1 : Int32).toUInt32 &&& Int32.toUInt32 31)).toInt32 &&& 1431655765)) → ∀ x0_2 : Int32, x0_2 = ((x0_1 &&& 858993459) + (((x0_1 : Int32).toUInt32 >>> ((2 : Int32).toUInt32 &&& Int32.toUInt32 31)).toInt32 &&& 858993459)) → ∀ x0_3 : Int32, x0_3 = ((x0_2 + ((x0_2 : Int32).toUInt32 >>> ((4 : Int32).toUInt32 &&& Int32.toUInt32 31)).toInt32) &&& 252645135) → ∀ x0_4 : Int32, x0_4 = (x0_3 + ((x0_3 : Int32).toUInt32 >>> ((8 : Int32).toUInt32 &&& Int32.toUInt32 31)).toInt32) → ∀ x0_5 : Int32, x0_5 = (x0_4 + ((x0_4 : Int32).toUInt32 >>> ((16 : Int32).toUInt32 &&& Int32.toUInt32 31)).toInt32) → Q (x0_5 &&& 63)
abbrev at_In_bitCount (dC : Nat → ClassId) (dI : Nat → Nat → Nat) (cs : Nat → ClassId) (A : Nat → Prop) (ad : Nat → Nat)  (u : Unit) (t : State) : Prop := match u with
  | _ => va_P (dC, dI) vwCl [] t.heap ∧ va_D A []
set_option maxHeartbeats 4000000 in
set_option maxRecDepth 100000 in
theorem c_In_bitCount (l : Launch) (dC : Nat → ClassId) (dI : Nat → Nat → Nat) (cs : Nat → ClassId) (ad : Nat → Nat)  (sz : Nat) (p0 : Int32) (Q : Int32 → Prop) (hv : vc_In_bitCount p0 Q) : Met l y_In_bitCount w_In_bitCount ({ frames := 0, cells := 0, slots := 0, locals := 0 }) (va_Pc [.int p0] (fun U => U.heap.size = sz ∧ va_P (dC, dI) vwCl [] U.heap ∧ vwK dC dI cs U ∧ va_D (fun _ => True) [])) (va_Qi (fun (r : Int32) (u : Unit) => Q r) (at_In_bitCount dC dI cs (va_A [] sz) ad ) (va_A [] sz)) 0 0 (va_A [] sz) := by
  unfold vc_In_bitCount at hv
  refine va_MetF (cc := b_In_bitCount) (maxL := 1) (ret := (some .int)) (by decide +kernel) rfl ?_
  intro p e s m args below meth c s₁ B hml hpc
  obtain ⟨rfl, hsz, hP, ⟨hK, hN⟩, hD0⟩ := hpc
  have hx := B.exec
  have hb := B.bytes
  have hr := B.returns
  have hts : ∀ w ∈ vwWS, w.before _ s = true := fun w h => atoms_spec (ws := w_In_bitCount) B.pre w (List.mem_cons_of_mem _ h)
  have hown : s.vm.findClass "java/lang/Integer" = some m.cls := findClass_of_methodNamed B.named
  have hlocks := B.notSynchronized
  subst hsz
  have hD := hD0.self (sz := s.heap.size)
  generalize hAe : va_A [] s.heap.size = A at hD ⊢
  have hA : ∀ q : Nat, s.heap.size ≤ q → A q := fun q h => by rw [← hAe]; exact Or.inr h
  have hS : va_S A s.heap s.heap [] := va_S.rf
  have hl := lv_entry ([.int p0]) (n := 1) (Nat.le_of_ble_eq_true rfl)
  rw [lg_entry_eq]
  generalize (lg_sl ([.int p0]) ++ List.replicate (1 - (lg_sl ([.int p0])).length) Slot.unset).toArray = ls at hl ⊢
  have hl : lv_has ls 1 [(0, .int p0)] := hl
  refine lv_iload_n hx hb d_In_bitCount_0 rfl (lv_at hl 0 rfl) ?_
  refine lv_iload_n hx hb d_In_bitCount_1 rfl (lv_at hl 0 rfl) ?_
  refine lv_iconst (v := 1) hx hb d_In_bitCount_2 (by decide) ?_
  refine lv_iushr (v := ((p0 : Int32).toUInt32 >>> ((1 : Int32).toUInt32 &&& Int32.toUInt32 31)).toInt32) hx hb d_In_bitCount_3 rfl ?_
  refine lv_ldcw (v := 1431655765) hx hb hown (hts _ kw_330) d_In_bitCount_4 ?_
  refine lv_iand hx hb d_In_bitCount_7 ?_
  refine lv_isub hx hb d_In_bitCount_8 ?_
  refine lv_topi (fun x0_1 ex0_1 => ?_)
  have hv := hv x0_1 ex0_1
  refine lv_istore_n (lv' := [(0, .int x0_1)]) hx hb d_In_bitCount_9 rfl hl (by decide) rfl (fun ls hl => ?_)
  refine lv_iload_n hx hb d_In_bitCount_10 rfl (lv_at hl 0 rfl) ?_
  refine lv_ldcw (v := 858993459) hx hb hown (hts _ kw_331) d_In_bitCount_11 ?_
  refine lv_iand hx hb d_In_bitCount_14 ?_
  refine lv_iload_n hx hb d_In_bitCount_15 rfl (lv_at hl 0 rfl) ?_
  refine lv_iconst (v := 2) hx hb d_In_bitCount_16 (by decide) ?_
  refine lv_iushr (v := ((x0_1 : Int32).toUInt32 >>> ((2 : Int32).toUInt32 &&& Int32.toUInt32 31)).toInt32) hx hb d_In_bitCount_17 rfl ?_
  refine lv_ldcw (v := 858993459) hx hb hown (hts _ kw_331) d_In_bitCount_18 ?_
  refine lv_iand hx hb d_In_bitCount_21 ?_
  refine lv_iadd hx hb d_In_bitCount_22 ?_
  refine lv_topi (fun x0_2 ex0_2 => ?_)
  have hv := hv x0_2 ex0_2
  refine lv_istore_n (lv' := [(0, .int x0_2)]) hx hb d_In_bitCount_23 rfl hl (by decide) rfl (fun ls hl => ?_)
  refine lv_iload_n hx hb d_In_bitCount_24 rfl (lv_at hl 0 rfl) ?_
  refine lv_iload_n hx hb d_In_bitCount_25 rfl (lv_at hl 0 rfl) ?_
  refine lv_iconst (v := 4) hx hb d_In_bitCount_26 (by decide) ?_
  refine lv_iushr (v := ((x0_2 : Int32).toUInt32 >>> ((4 : Int32).toUInt32 &&& Int32.toUInt32 31)).toInt32) hx hb d_In_bitCount_27 rfl ?_
  refine lv_iadd hx hb d_In_bitCount_28 ?_
  refine lv_ldcw (v := 252645135) hx hb hown (hts _ kw_332) d_In_bitCount_29 ?_
  refine lv_iand hx hb d_In_bitCount_32 ?_
  refine lv_topi (fun x0_3 ex0_3 => ?_)
  have hv := hv x0_3 ex0_3
  refine lv_istore_n (lv' := [(0, .int x0_3)]) hx hb d_In_bitCount_33 rfl hl (by decide) rfl (fun ls hl => ?_)
  refine lv_iload_n hx hb d_In_bitCount_34 rfl (lv_at hl 0 rfl) ?_
  refine lv_iload_n hx hb d_In_bitCount_35 rfl (lv_at hl 0 rfl) ?_
  refine lv_bipush (v := 8) hx hb d_In_bitCount_36 (by decide) ?_
  refine lv_iushr (v := ((x0_3 : Int32).toUInt32 >>> ((8 : Int32).toUInt32 &&& Int32.toUInt32 31)).toInt32) hx hb d_In_bitCount_38 rfl ?_
  refine lv_iadd hx hb d_In_bitCount_39 ?_
  refine lv_topi (fun x0_4 ex0_4 => ?_)
  have hv := hv x0_4 ex0_4
  refine lv_istore_n (lv' := [(0, .int x0_4)]) hx hb d_In_bitCount_40 rfl hl (by decide) rfl (fun ls hl => ?_)
  refine lv_iload_n hx hb d_In_bitCount_41 rfl (lv_at hl 0 rfl) ?_
  refine lv_iload_n hx hb d_In_bitCount_42 rfl (lv_at hl 0 rfl) ?_
  refine lv_bipush (v := 16) hx hb d_In_bitCount_43 (by decide) ?_
  refine lv_iushr (v := ((x0_4 : Int32).toUInt32 >>> ((16 : Int32).toUInt32 &&& Int32.toUInt32 31)).toInt32) hx hb d_In_bitCount_45 rfl ?_
  refine lv_iadd hx hb d_In_bitCount_46 ?_
  refine lv_topi (fun x0_5 ex0_5 => ?_)
  have hv := hv x0_5 ex0_5
  refine lv_istore_n (lv' := [(0, .int x0_5)]) hx hb d_In_bitCount_47 rfl hl (by decide) rfl (fun ls hl => ?_)
  refine lv_iload_n hx hb d_In_bitCount_48 rfl (lv_at hl 0 rfl) ?_
  refine lv_bipush (v := 63) hx hb d_In_bitCount_49 (by decide) ?_
  refine lv_iand hx hb d_In_bitCount_51 ?_
  have hP9 := hP.sub (ws' := []) [] rfl
  have hD9 := hD.sub (ws' := []) [] (by decide) rfl
  exact W.iret (v := (x0_5 &&& 63)) hx hb hr (fun t ht hW => ⟨⟨(x0_5 &&& 63), (), rfl, hv, by rw [ht]; exact hP9, hD9⟩, hS.F ht⟩) hS.2.2 d_In_bitCount_52
