set_option maxHeartbeats 4000000 in
set_option maxRecDepth 100000 in
theorem cr_x_topOf (l : Launch) (dC : Nat → ClassId) (dI : Nat → Nat → Nat) (cs : Nat → ClassId) (ad : Nat → Nat) (aA0 : Nat) (sz : Nat) (nA0 : Nat) (A0 : Nat → Int32) (p1 : Int32) (Q : Int32 → Prop) (hv : vc_x_topOf nA0 A0 p1 Q) : Met l y_x_topOf w_x_topOf ({ frames := 1, cells := 0, slots := 0, locals := 32 }) (va_Pc [.ref aA0, .int p1] (fun U => U.heap.size = sz ∧ va_P (dC, dI) vwCl [(aA0, .inl (cs 0, nA0, .inl A0))] U.heap ∧ vwK dC dI cs U ∧ va_D (fun _ => True) [(aA0, .inl (cs 0, nA0, .inl A0))])) (va_Qi (fun (r : Int32) (_ : Unit) => Q r) (fun _ _ => True) (fun q => sz ≤ q)) 0 0 (fun q => sz ≤ q) := by
  unfold vc_x_topOf at hv
  refine Met.ofW (cc := b_x_topOf) (maxL := 3) (ret := (some .int)) (by decide) rfl ?_
  intro p e s m args below meth c s₁ B hml hpc
  obtain ⟨rfl, hsz, hP, ⟨hK, hN⟩, hD⟩ := hpc
  have hx := B.exec
  have hb := B.bytes
  have hr := B.returns
  have hts : ∀ w ∈ vwWS, w.before _ s = true := fun w h => atoms_spec (ws := w_x_topOf) B.pre w (List.mem_cons_of_mem _ h)
  have hown : s.vm.findClass "SpaceBasis" = some m.cls := findClass_of_methodNamed B.named
  have hlocks := B.notSynchronized
  subst hsz
  have hS : va_S (fun q => s.heap.size ≤ q) s.heap s.heap [] := va_S.rf
  have hl := lv_entry ([.ref aA0, .int p1]) (n := 3) (Nat.le_of_ble_eq_true rfl)
  rw [lg_entry_eq]
  generalize (lg_sl ([.ref aA0, .int p1]) ++ List.replicate (3 - (lg_sl ([.ref aA0, .int p1])).length) Slot.unset).toArray = ls at hl ⊢
  have hl : lv_has ls 3 [(0, .ref aA0), (1, .int p1)] := hl
  refine lv_iload_n hx hb d_x_topOf_0 rfl (lv_at hl 1 rfl) ?_
  refine lv_aload_n hx hb d_x_topOf_1 rfl (lv_at hl 0 rfl) ?_
  refine va_alen hx hb hK hP 0 0 rfl rfl (v := (Int32.ofNat nA0)) rfl d_x_topOf_2 ?_
  refine lv_iconst (v := 1) hx hb d_x_topOf_3 (by decide) ?_
  refine lv_isub hx hb d_x_topOf_4 ?_
  refine va_mmin hx hb (by rw [hml]; exact hl.1.symm) hown (hts _ kw_444) (hts _ kw_445) (hts _ kw_46) (hts _ kw_446) (Nat.le_of_ble_eq_true rfl) (Nat.le_of_ble_eq_true rfl) (Nat.zero_le _) (Nat.zero_le _) d_x_topOf_5 ?_
  refine lv_topi (fun x2_1 ex2_1 => ?_)
  have hv := hv x2_1 ex2_1
  refine lv_istore_n (lv' := [(2, .int x2_1), (0, .ref aA0), (1, .int p1)]) hx hb d_x_topOf_8 rfl hl (by decide) rfl (fun ls hl => ?_)
  obtain ⟨I9_3, mu9_4, hi0, hv⟩ := hv
  have hP := hP.sub (ws' := [(aA0, .inl (cs 0, nA0, .inl A0))]) [0] rfl
  have hD := hD.sub (ws' := [(aA0, .inl (cs 0, nA0, .inl A0))]) [0] (by decide) rfl
  have hl := lv_sub (l' := [(0, .ref aA0), (1, .int p1), (2, .int x2_1)]) hl [1, 2, 0] rfl
  have loop9 : ∀ (nn : Nat) (x2_2 : Int32), mu9_4 x2_2 < nn → I9_3 x2_2 → ∀ (H : Heap) (locs : List Loc) (ls : Array Slot), va_P (dC, dI) vwCl [(aA0, .inl (cs 0, nA0, .inl A0))] H → va_D (fun _ => True) [(aA0, .inl (cs 0, nA0, .inl A0))] → va_S (fun q => s.heap.size ≤ q) s.heap H locs → lv_has ls 3 [(0, .ref aA0), (1, .int p1), (2, .int x2_2)] → W p l e (headSpec w_x_topOf { frames := 1, cells := 0, slots := 0, locals := 32 }).room s m ([.ref aA0, .int p1] : List Value).toArray below meth c H locs 0 0 (MQ below (va_Qi (fun (r : Int32) (_ : Unit) => Q r) (fun _ _ => True) (fun q => s.heap.size ≤ q)) ([.ref aA0, .int p1] : List Value).toArray s 0 0 (fun q => s.heap.size ≤ q)) (F0 m 9 ls []) := by
    intro nn
    induction nn with
    | zero => intro x2_2 hlt; exact absurd hlt (Nat.not_lt_zero _)
    | succ nn ih9 =>
      intro x2_2 hlt9 hI H locs ls hP hD hS hl
      have hv := hv x2_2 hI
      refine lv_iload_n hx hb d_x_topOf_9 rfl (lv_at hl 2 rfl) ?_
      refine lv_if_lt (tgt := 27) hx hb d_x_topOf_10 (by decide) (fun c_5 => ?_) (fun c_5 => ?_)
      · have hv := hv.1 c_5
        refine lv_iconst (v := (-1)) hx hb d_x_topOf_27 (by decide) ?_
        exact W.iret (v := (-1)) hx hb hr (fun t ht hW => ⟨⟨(-1), (), rfl, hv, trivial⟩, hS.F ht⟩) hS.2.2 d_x_topOf_28
      · have hv := hv.2 c_5
        refine lv_aload_n hx hb d_x_topOf_13 rfl (lv_at hl 0 rfl) ?_
        refine lv_iload_n hx hb d_x_topOf_14 rfl (lv_at hl 2 rfl) ?_
        obtain ⟨hi_6, hv⟩ := hv
        refine va_iald hx hb hK hP 0 0 rfl rfl hi_6 d_x_topOf_15 ?_
        refine lv_if_eq (tgt := 21) hx hb d_x_topOf_16 (by decide) (fun c_7 => ?_) (fun c_7 => ?_)
        · have hv := hv.1 c_7
          obtain ⟨x2_8, ex2_8⟩ : ∃ y : Int32, y = x2_2 + (-1) := ⟨_, rfl⟩
          have hv := hv x2_8 ex2_8
          refine lv_iinc (v := x2_8) (lv' := [(2, .int x2_8), (0, .ref aA0), (1, .int p1)]) hx hb d_x_topOf_21 hl (k := 2) rfl (by rw [ex2_8]; rfl) (by decide) rfl (fun ls hl => ?_)
          refine lv_goto (tgt := 9) hx hb d_x_topOf_24 (by decide) ?_
          exact ih9 x2_8 (Nat.lt_of_lt_of_le hv.2 (Nat.le_of_lt_succ hlt9)) hv.1 _ _ _ (hP.sub [0] rfl) (hD.sub [0] (by decide) rfl) hS (lv_sub hl [1, 2, 0] rfl)
        · have hv := hv.2 c_7
          refine lv_iload_n hx hb d_x_topOf_19 rfl (lv_at hl 2 rfl) ?_
          exact W.iret (v := x2_2) hx hb hr (fun t ht hW => ⟨⟨x2_2, (), rfl, hv, trivial⟩, hS.F ht⟩) hS.2.2 d_x_topOf_20
  exact loop9 _ x2_1 (Nat.lt_succ_self _) hi0 _ _ _ hP hD hS hl
set_option maxHeartbeats 4000000 in
set_option maxRecDepth 100000 in
theorem cr_mn_placeOf (l : Launch) (dC : Nat → ClassId) (dI : Nat → Nat → Nat) (cs : Nat → ClassId) (ad : Nat → Nat)  (sz : Nat) (mn_variables : Int32) (mn_order : Int32) (mn_highest : Int32) (mn_count : Int32) (mn_codes : Nat → Int32) (mn_firstOfDegree : Nat → Int32) (p0 : Int32) (Q : Int32 → Prop) (hv : vc_mn_placeOf mn_variables mn_order mn_highest mn_count mn_codes mn_firstOfDegree p0 Q) : Met l y_mn_placeOf w_mn_placeOf ({ frames := 1, cells := 0, slots := 0, locals := 21 }) (va_Pc [.ref (ad 4), .int p0] (fun U => U.heap.size = sz ∧ va_P (dC, dI) vwCl [((ad 4), .inr (2, [.ref (ad 5), .ref (ad 6), .ref (ad 7), .ref (ad 8), .int mn_variables, .int mn_order, .int mn_highest, .int mn_count])), ((ad 5), .inl (cs 0, 126, .inl mn_codes)), ((ad 7), .inl (cs 0, 32, .inl mn_firstOfDegree))] U.heap ∧ vwK dC dI cs U ∧ va_D (fun _ => True) [((ad 4), .inr (2, [.ref (ad 5), .ref (ad 6), .ref (ad 7), .ref (ad 8), .int mn_variables, .int mn_order, .int mn_highest, .int mn_count])), ((ad 5), .inl (cs 0, 126, .inl mn_codes)), ((ad 7), .inl (cs 0, 32, .inl mn_firstOfDegree))])) (va_Qi (fun (r : Int32) (_ : Unit) => Q r) (fun _ _ => True) (fun q => sz ≤ q)) 0 0 (fun q => sz ≤ q) := by
  unfold vc_mn_placeOf at hv
  refine Met.ofW (cc := b_mn_placeOf) (maxL := 5) (ret := (some .int)) (by decide) rfl ?_
  intro p e s m args below meth c s₁ B hml hpc
  obtain ⟨rfl, hsz, hP, ⟨hK, hN⟩, hD⟩ := hpc
  have hx := B.exec
  have hb := B.bytes
  have hr := B.returns
  have hts : ∀ w ∈ vwWS, w.before _ s = true := fun w h => atoms_spec (ws := w_mn_placeOf) B.pre w (List.mem_cons_of_mem _ h)
  have hown : s.vm.findClass "SpaceBasis$Monomials" = some m.cls := findClass_of_methodNamed B.named
  have hlocks := B.notSynchronized
  subst hsz
  have hS : va_S (fun q => s.heap.size ≤ q) s.heap s.heap [] := va_S.rf
  have hl := lv_entry ([.ref (ad 4), .int p0]) (n := 5) (Nat.le_of_ble_eq_true rfl)
  rw [lg_entry_eq]
  generalize (lg_sl ([.ref (ad 4), .int p0]) ++ List.replicate (5 - (lg_sl ([.ref (ad 4), .int p0])).length) Slot.unset).toArray = ls at hl ⊢
  have hl : lv_has ls 5 [(0, .ref (ad 4)), (1, .int p0)] := hl
  refine lv_iconst (v := 0) hx hb d_mn_placeOf_0 (by decide) ?_
  refine lv_istore_n (lv' := [(2, .int 0), (0, .ref (ad 4)), (1, .int p0)]) hx hb d_mn_placeOf_1 rfl hl (by decide) rfl (fun ls hl => ?_)
  refine lv_iconst (v := 0) hx hb d_mn_placeOf_2 (by decide) ?_
  refine lv_istore_n (lv' := [(3, .int 0), (2, .int 0), (0, .ref (ad 4)), (1, .int p0)]) hx hb d_mn_placeOf_3 rfl hl (by decide) rfl (fun ls hl => ?_)
  obtain ⟨I4_3, mu4_4, hi0, hv⟩ := hv
  have hP := hP.sub (ws' := [((ad 4), .inr (2, [.ref (ad 5), .ref (ad 6), .ref (ad 7), .ref (ad 8), .int mn_variables, .int mn_order, .int mn_highest, .int mn_count])), ((ad 5), .inl (cs 0, 126, .inl mn_codes)), ((ad 7), .inl (cs 0, 32, .inl mn_firstOfDegree))]) [0, 1, 2] rfl
  have hD := hD.sub (ws' := [((ad 4), .inr (2, [.ref (ad 5), .ref (ad 6), .ref (ad 7), .ref (ad 8), .int mn_variables, .int mn_order, .int mn_highest, .int mn_count])), ((ad 5), .inl (cs 0, 126, .inl mn_codes)), ((ad 7), .inl (cs 0, 32, .inl mn_firstOfDegree))]) [0, 1, 2] (by decide) rfl
  have hl := lv_sub (l' := [(0, .ref (ad 4)), (1, .int p0), (2, .int 0), (3, .int 0)]) hl [2, 3, 1, 0] rfl
  have loop4 : ∀ (nn : Nat) (x2_1 : Int32) (x3_2 : Int32), mu4_4 x2_1 x3_2 < nn → I4_3 x2_1 x3_2 → ∀ (H : Heap) (locs : List Loc) (ls : Array Slot), va_P (dC, dI) vwCl [((ad 4), .inr (2, [.ref (ad 5), .ref (ad 6), .ref (ad 7), .ref (ad 8), .int mn_variables, .int mn_order, .int mn_highest, .int mn_count])), ((ad 5), .inl (cs 0, 126, .inl mn_codes)), ((ad 7), .inl (cs 0, 32, .inl mn_firstOfDegree))] H → va_D (fun _ => True) [((ad 4), .inr (2, [.ref (ad 5), .ref (ad 6), .ref (ad 7), .ref (ad 8), .int mn_variables, .int mn_order, .int mn_highest, .int mn_count])), ((ad 5), .inl (cs 0, 126, .inl mn_codes)), ((ad 7), .inl (cs 0, 32, .inl mn_firstOfDegree))] → va_S (fun q => s.heap.size ≤ q) s.heap H locs → lv_has ls 5 [(0, .ref (ad 4)), (1, .int p0), (2, .int x2_1), (3, .int x3_2)] → W p l e (headSpec w_mn_placeOf { frames := 1, cells := 0, slots := 0, locals := 21 }).room s m ([.ref (ad 4), .int p0] : List Value).toArray below meth c H locs 0 0 (MQ below (va_Qi (fun (r : Int32) (_ : Unit) => Q r) (fun _ _ => True) (fun q => s.heap.size ≤ q)) ([.ref (ad 4), .int p0] : List Value).toArray s 0 0 (fun q => s.heap.size ≤ q)) (F0 m 4 ls []) := by
    intro nn
    induction nn with
    | zero => intro x2_1 x3_2 hlt; exact absurd hlt (Nat.not_lt_zero _)
    | succ nn ih4 =>
      intro x2_1 x3_2 hlt4 hI H locs ls hP hD hS hl
      have hv := hv x2_1 x3_2 hI
      refine lv_iload_n hx hb d_mn_placeOf_4 rfl (lv_at hl 3 rfl) ?_
      refine lv_iconst (v := 4) hx hb d_mn_placeOf_5 (by decide) ?_
      refine lv_icmp_ge (tgt := 42) hx hb d_mn_placeOf_6 (by decide) (fun c_5 => ?_) (fun c_5 => ?_)
      · have hv := hv.1 c_5
        refine lv_iload_n hx hb d_mn_placeOf_42 rfl (lv_at hl 2 rfl) ?_
        refine lv_aload_n hx hb d_mn_placeOf_43 rfl (lv_at hl 0 rfl) ?_
        refine va_get (D := (dC, dI)) (ci := 2) (v := .int mn_highest) (C := R_mn) (T := F_mn) (N := 8) hx hb hts in_mn hown hK hP 0 rfl rfl 6 (by decide) (hts _ kw_78) (fun _ h9 => h9) rfl d_mn_placeOf_44 ?_
        refine lv_icmp_le (tgt := 52) hx hb d_mn_placeOf_47 (by decide) (fun c_6 => ?_) (fun c_6 => ?_)
        · have hv := hv.1 c_6
          refine lv_aload_n hx hb d_mn_placeOf_52 rfl (lv_at hl 0 rfl) ?_
          refine va_get (D := (dC, dI)) (ci := 2) (v := .ref (ad 7)) (C := R_mn) (T := F_mn) (N := 8) hx hb hts in_mn hown hK hP 0 rfl rfl 2 (by decide) (hts _ kw_74) (fun _ h9 => h9) rfl d_mn_placeOf_53 ?_
          refine lv_iload_n hx hb d_mn_placeOf_56 rfl (lv_at hl 2 rfl) ?_
          obtain ⟨hi_7, hv⟩ := hv
          refine va_iald hx hb hK hP 2 0 rfl rfl hi_7 d_mn_placeOf_57 ?_
          refine lv_topi (fun x3_8 ex3_8 => ?_)
          have hv := hv x3_8 ex3_8
          refine lv_istore_n (lv' := [(3, .int x3_8), (0, .ref (ad 4)), (1, .int p0), (2, .int x2_1)]) hx hb d_mn_placeOf_58 rfl hl (by decide) rfl (fun ls hl => ?_)
          obtain ⟨I59_10, mu59_11, hi0, hv⟩ := hv
          have hP := hP.sub (ws' := [((ad 4), .inr (2, [.ref (ad 5), .ref (ad 6), .ref (ad 7), .ref (ad 8), .int mn_variables, .int mn_order, .int mn_highest, .int mn_count])), ((ad 5), .inl (cs 0, 126, .inl mn_codes)), ((ad 7), .inl (cs 0, 32, .inl mn_firstOfDegree))]) [0, 1, 2] rfl
          have hD := hD.sub (ws' := [((ad 4), .inr (2, [.ref (ad 5), .ref (ad 6), .ref (ad 7), .ref (ad 8), .int mn_variables, .int mn_order, .int mn_highest, .int mn_count])), ((ad 5), .inl (cs 0, 126, .inl mn_codes)), ((ad 7), .inl (cs 0, 32, .inl mn_firstOfDegree))]) [0, 1, 2] (by decide) rfl
          have hl := lv_sub (l' := [(0, .ref (ad 4)), (1, .int p0), (2, .int x2_1), (3, .int x3_8)]) hl [1, 2, 3, 0] rfl
          have loop59 : ∀ (nn : Nat) (x3_9 : Int32), mu59_11 x3_9 < nn → I59_10 x3_9 → ∀ (H : Heap) (locs : List Loc) (ls : Array Slot), va_P (dC, dI) vwCl [((ad 4), .inr (2, [.ref (ad 5), .ref (ad 6), .ref (ad 7), .ref (ad 8), .int mn_variables, .int mn_order, .int mn_highest, .int mn_count])), ((ad 5), .inl (cs 0, 126, .inl mn_codes)), ((ad 7), .inl (cs 0, 32, .inl mn_firstOfDegree))] H → va_D (fun _ => True) [((ad 4), .inr (2, [.ref (ad 5), .ref (ad 6), .ref (ad 7), .ref (ad 8), .int mn_variables, .int mn_order, .int mn_highest, .int mn_count])), ((ad 5), .inl (cs 0, 126, .inl mn_codes)), ((ad 7), .inl (cs 0, 32, .inl mn_firstOfDegree))] → va_S (fun q => s.heap.size ≤ q) s.heap H locs → lv_has ls 5 [(0, .ref (ad 4)), (1, .int p0), (2, .int x2_1), (3, .int x3_9)] → W p l e (headSpec w_mn_placeOf { frames := 1, cells := 0, slots := 0, locals := 21 }).room s m ([.ref (ad 4), .int p0] : List Value).toArray below meth c H locs 0 0 (MQ below (va_Qi (fun (r : Int32) (_ : Unit) => Q r) (fun _ _ => True) (fun q => s.heap.size ≤ q)) ([.ref (ad 4), .int p0] : List Value).toArray s 0 0 (fun q => s.heap.size ≤ q)) (F0 m 59 ls []) := by
            intro nn
            induction nn with
            | zero => intro x3_9 hlt; exact absurd hlt (Nat.not_lt_zero _)
            | succ nn ih59 =>
              intro x3_9 hlt59 hI H locs ls hP hD hS hl
              have hv := hv x3_9 hI
              refine lv_iload_n hx hb d_mn_placeOf_59 rfl (lv_at hl 3 rfl) ?_
              refine lv_aload_n hx hb d_mn_placeOf_60 rfl (lv_at hl 0 rfl) ?_
              refine va_get (D := (dC, dI)) (ci := 2) (v := .ref (ad 7)) (C := R_mn) (T := F_mn) (N := 8) hx hb hts in_mn hown hK hP 0 rfl rfl 2 (by decide) (hts _ kw_74) (fun _ h9 => h9) rfl d_mn_placeOf_61 ?_
              refine lv_iload_n hx hb d_mn_placeOf_64 rfl (lv_at hl 2 rfl) ?_
              refine lv_iconst (v := 1) hx hb d_mn_placeOf_65 (by decide) ?_
              refine lv_iadd hx hb d_mn_placeOf_66 ?_
              obtain ⟨hi_12, hv⟩ := hv
              refine va_iald hx hb hK hP 2 0 rfl rfl hi_12 d_mn_placeOf_67 ?_
              refine lv_icmp_ge (tgt := 89) hx hb d_mn_placeOf_68 (by decide) (fun c_13 => ?_) (fun c_13 => ?_)
              · have hv := hv.1 c_13
                refine lv_iconst (v := (-1)) hx hb d_mn_placeOf_89 (by decide) ?_
                exact W.iret (v := (-1)) hx hb hr (fun t ht hW => ⟨⟨(-1), (), rfl, hv, trivial⟩, hS.F ht⟩) hS.2.2 d_mn_placeOf_90
              · have hv := hv.2 c_13
                refine lv_aload_n hx hb d_mn_placeOf_71 rfl (lv_at hl 0 rfl) ?_
                refine va_get (D := (dC, dI)) (ci := 2) (v := .ref (ad 5)) (C := R_mn) (T := F_mn) (N := 8) hx hb hts in_mn hown hK hP 0 rfl rfl 0 (by decide) (hts _ kw_72) (fun _ h9 => h9) rfl d_mn_placeOf_72 ?_
                refine lv_iload_n hx hb d_mn_placeOf_75 rfl (lv_at hl 3 rfl) ?_
                obtain ⟨hi_14, hv⟩ := hv
                refine va_iald hx hb hK hP 1 0 rfl rfl hi_14 d_mn_placeOf_76 ?_
                refine lv_iload_n hx hb d_mn_placeOf_77 rfl (lv_at hl 1 rfl) ?_
                refine lv_icmp_ne (tgt := 83) hx hb d_mn_placeOf_78 (by decide) (fun c_15 => ?_) (fun c_15 => ?_)
                · have hv := hv.1 c_15
                  obtain ⟨x3_16, ex3_16⟩ : ∃ y : Int32, y = x3_9 + 1 := ⟨_, rfl⟩
                  have hv := hv x3_16 ex3_16
                  refine lv_iinc (v := x3_16) (lv' := [(3, .int x3_16), (0, .ref (ad 4)), (1, .int p0), (2, .int x2_1)]) hx hb d_mn_placeOf_83 hl (k := 3) rfl (by rw [ex3_16]; rfl) (by decide) rfl (fun ls hl => ?_)
                  refine lv_goto (tgt := 59) hx hb d_mn_placeOf_86 (by decide) ?_
                  exact ih59 x3_16 (Nat.lt_of_lt_of_le hv.2 (Nat.le_of_lt_succ hlt59)) hv.1 _ _ _ (hP.sub [0, 1, 2] rfl) (hD.sub [0, 1, 2] (by decide) rfl) hS (lv_sub hl [1, 2, 3, 0] rfl)
                · have hv := hv.2 c_15
                  refine lv_iload_n hx hb d_mn_placeOf_81 rfl (lv_at hl 3 rfl) ?_
                  exact W.iret (v := x3_9) hx hb hr (fun t ht hW => ⟨⟨x3_9, (), rfl, hv, trivial⟩, hS.F ht⟩) hS.2.2 d_mn_placeOf_82
          exact loop59 _ x3_8 (Nat.lt_succ_self _) hi0 _ _ _ hP hD hS hl
        · have hv := hv.2 c_6
          refine lv_iconst (v := (-1)) hx hb d_mn_placeOf_50 (by decide) ?_
          exact W.iret (v := (-1)) hx hb hr (fun t ht hW => ⟨⟨(-1), (), rfl, hv, trivial⟩, hS.F ht⟩) hS.2.2 d_mn_placeOf_51
      · have hv := hv.2 c_5
        refine lv_iload_n hx hb d_mn_placeOf_9 rfl (lv_at hl 1 rfl) ?_
        refine lv_iload_n hx hb d_mn_placeOf_10 rfl (lv_at hl 3 rfl) ?_
        have hPc := hP.sub (ws' := []) [] rfl
        have hDc := hD.sub (ws' := []) [] (by decide) rfl
        have hFc : ∀ q, va_A [] H.size q → s.heap.size ≤ q := fun q h => by
          rcases h with ⟨k9, e9, h9⟩ | h9
          · simp at h9
          · exact Nat.le_trans hS.1 h9
        refine va_calli (va_runS (As := [.int p0, .int x3_2]) (rest := []) ⟨hx, hb, hml, hown, hts⟩ (c_mn_exponentIn l dC dI cs ad  H.size p0 x3_2 _ hv) (va_cwS 2 hts (gd_S kw_242 kw_243 kw_34 kw_244) rfl rfl rfl (by decide +kernel) ⟨Nat.le_of_ble_eq_true rfl, Nat.le_of_ble_eq_true rfl⟩) ⟨fun a U g mk q => by obtain ⟨q0, q1, qP, qK, qD⟩ := q; exact ⟨q0, q1, qP, qK.call, qD⟩, fun U hU hW => ⟨rfl, by rw [hU], by rw [hU]; exact hPc, vwK.warm hW ⟨hK, hN⟩, hDc.weaken (fun _ _ _ _ => trivial)⟩⟩ rfl rfl hl.1 rfl (lv_room (Nat.le_of_ble_eq_true rfl)) d_mn_placeOf_11 ⟨Nat.zero_le _, Nat.zero_le _⟩) hS (fun q _ h => hFc q h) hFc (fun r_17 _u t H1 locs1 ht hvm hw hB hz1 hk1 hS => ?_)
        obtain ⟨hP1, hD1⟩ := hB
        rw [ht] at hP1
        obtain ⟨hP, hD⟩ := va_join (wr := [((ad 4), .inr (2, [.ref (ad 5), .ref (ad 6), .ref (ad 7), .ref (ad 8), .int mn_variables, .int mn_order, .int mn_highest, .int mn_count])), ((ad 5), .inl (cs 0, 126, .inl mn_codes)), ((ad 7), .inl (cs 0, 32, .inl mn_firstOfDegree))]) (w1 := []) hP hD [] [0, 1, 2] rfl rfl (by decide) (by decide) hk1 (fun _ _ => trivial) hP1 hD1
        generalize H1 = H at hP hS ⊢
        generalize locs1 = locs at hS ⊢
        have hP : va_P (dC, dI) vwCl [((ad 4), .inr (2, [.ref (ad 5), .ref (ad 6), .ref (ad 7), .ref (ad 8), .int mn_variables, .int mn_order, .int mn_highest, .int mn_count])), ((ad 5), .inl (cs 0, 126, .inl mn_codes)), ((ad 7), .inl (cs 0, 32, .inl mn_firstOfDegree))] H := hP
        have hD : va_D (fun _ => True) [((ad 4), .inr (2, [.ref (ad 5), .ref (ad 6), .ref (ad 7), .ref (ad 8), .int mn_variables, .int mn_order, .int mn_highest, .int mn_count])), ((ad 5), .inl (cs 0, 126, .inl mn_codes)), ((ad 7), .inl (cs 0, 32, .inl mn_firstOfDegree))] := hD
        have hv := hw
        try dsimp only at hv
        refine lv_istore (lv' := [(4, .int r_17), (0, .ref (ad 4)), (1, .int p0), (2, .int x2_1), (3, .int x3_2)]) hx hb d_mn_placeOf_14 hl (by decide) rfl (fun ls hl => ?_)
        refine lv_iload_n hx hb d_mn_placeOf_16 rfl (lv_at hl 4 rfl) ?_
        refine lv_aload_n hx hb d_mn_placeOf_17 rfl (lv_at hl 1 rfl) ?_
        refine va_get (D := (dC, dI)) (ci := 2) (v := .int mn_variables) (C := R_mn) (T := F_mn) (N := 8) hx hb hts in_mn hown hK hP 0 rfl rfl 4 (by decide) (hts _ kw_76) (fun _ h9 => h9) rfl d_mn_placeOf_18 ?_
        refine lv_icmp_lt (tgt := 31) hx hb d_mn_placeOf_21 (by decide) (fun c_18 => ?_) (fun c_18 => ?_)
        · have hv := hv.1 c_18
          refine lv_iload_n hx hb d_mn_placeOf_31 rfl (lv_at hl 3 rfl) ?_
          refine lv_iload hx hb d_mn_placeOf_32 (lv_at hl 0 rfl) ?_
          refine lv_iadd hx hb d_mn_placeOf_34 ?_
          refine lv_topi (fun x2_19 ex2_19 => ?_)
          have hv := hv x2_19 ex2_19
          refine lv_istore_n (lv' := [(2, .int x2_19), (4, .int r_17), (0, .ref (ad 4)), (1, .int p0), (3, .int x3_2)]) hx hb d_mn_placeOf_35 rfl hl (by decide) rfl (fun ls hl => ?_)
          obtain ⟨x3_20, ex3_20⟩ : ∃ y : Int32, y = x3_2 + 1 := ⟨_, rfl⟩
          have hv := hv x3_20 ex3_20
          refine lv_iinc (v := x3_20) (lv' := [(3, .int x3_20), (2, .int x2_19), (4, .int r_17), (0, .ref (ad 4)), (1, .int p0)]) hx hb d_mn_placeOf_36 hl (k := 4) rfl (by rw [ex3_20]; rfl) (by decide) rfl (fun ls hl => ?_)
          refine lv_goto (tgt := 4) hx hb d_mn_placeOf_39 (by decide) ?_
          exact ih4 x2_19 x3_20 (Nat.lt_of_lt_of_le hv.2 (Nat.le_of_lt_succ hlt4)) hv.1 _ _ _ (hP.sub [0, 1, 2] rfl) (hD.sub [0, 1, 2] (by decide) rfl) hS (lv_sub hl [3, 4, 1, 0] rfl)
        · have hv := hv.2 c_18
          refine lv_iload hx hb d_mn_placeOf_24 (lv_at hl 0 rfl) ?_
          refine lv_if_eq (tgt := 31) hx hb d_mn_placeOf_26 (by decide) (fun c_21 => ?_) (fun c_21 => ?_)
          · have hv := hv.1 c_21
            refine lv_iload_n hx hb d_mn_placeOf_31 rfl (lv_at hl 3 rfl) ?_
            refine lv_iload hx hb d_mn_placeOf_32 (lv_at hl 0 rfl) ?_
            refine lv_iadd hx hb d_mn_placeOf_34 ?_
            refine lv_topi (fun x2_22 ex2_22 => ?_)
            have hv := hv x2_22 ex2_22
            refine lv_istore_n (lv' := [(2, .int x2_22), (4, .int r_17), (0, .ref (ad 4)), (1, .int p0), (3, .int x3_2)]) hx hb d_mn_placeOf_35 rfl hl (by decide) rfl (fun ls hl => ?_)
            obtain ⟨x3_23, ex3_23⟩ : ∃ y : Int32, y = x3_2 + 1 := ⟨_, rfl⟩
            have hv := hv x3_23 ex3_23
            refine lv_iinc (v := x3_23) (lv' := [(3, .int x3_23), (2, .int x2_22), (4, .int r_17), (0, .ref (ad 4)), (1, .int p0)]) hx hb d_mn_placeOf_36 hl (k := 4) rfl (by rw [ex3_23]; rfl) (by decide) rfl (fun ls hl => ?_)
            refine lv_goto (tgt := 4) hx hb d_mn_placeOf_39 (by decide) ?_
            exact ih4 x2_22 x3_23 (Nat.lt_of_lt_of_le hv.2 (Nat.le_of_lt_succ hlt4)) hv.1 _ _ _ (hP.sub [0, 1, 2] rfl) (hD.sub [0, 1, 2] (by decide) rfl) hS (lv_sub hl [3, 4, 1, 0] rfl)
          · have hv := hv.2 c_21
            refine lv_iconst (v := (-1)) hx hb d_mn_placeOf_29 (by decide) ?_
            exact W.iret (v := (-1)) hx hb hr (fun t ht hW => ⟨⟨(-1), (), rfl, hv, trivial⟩, hS.F ht⟩) hS.2.2 d_mn_placeOf_30
  exact loop4 _ 0 0 (Nat.lt_succ_self _) hi0 _ _ _ hP hD hS hl
set_option maxHeartbeats 4000000 in
set_option maxRecDepth 100000 in
theorem cr_mo_isPrime (l : Launch) (dC : Nat → ClassId) (dI : Nat → Nat → Nat) (cs : Nat → ClassId) (ad : Nat → Nat)  (sz : Nat) (p0 : Int32) (Q : Int32 → Prop) (hv : vc_mo_isPrime p0 Q) : Met l y_mo_isPrime w_mo_isPrime ({ frames := 0, cells := 0, slots := 0, locals := 0 }) (va_Pc [.int p0] (fun U => U.heap.size = sz ∧ va_P (dC, dI) vwCl [] U.heap ∧ vwK dC dI cs U ∧ va_D (fun _ => True) [])) (va_Qi (fun (r : Int32) (_ : Unit) => Q r) (fun _ _ => True) (fun q => sz ≤ q)) 0 0 (fun q => sz ≤ q) := by
  unfold vc_mo_isPrime at hv
  refine Met.ofW (cc := b_mo_isPrime) (maxL := 2) (ret := (some .boolean)) (by decide) rfl ?_
  intro p e s m args below meth c s₁ B hml hpc
  obtain ⟨rfl, hsz, hP, ⟨hK, hN⟩, hD⟩ := hpc
  have hx := B.exec
  have hb := B.bytes
  have hr := B.returns
  have hts : ∀ w ∈ vwWS, w.before _ s = true := fun w h => atoms_spec (ws := w_mo_isPrime) B.pre w (List.mem_cons_of_mem _ h)
  have hown : s.vm.findClass "SpaceBasis$Modulus" = some m.cls := findClass_of_methodNamed B.named
  have hlocks := B.notSynchronized
  subst hsz
  have hS : va_S (fun q => s.heap.size ≤ q) s.heap s.heap [] := va_S.rf
  have hl := lv_entry ([.int p0]) (n := 2) (Nat.le_of_ble_eq_true rfl)
  rw [lg_entry_eq]
  generalize (lg_sl ([.int p0]) ++ List.replicate (2 - (lg_sl ([.int p0])).length) Slot.unset).toArray = ls at hl ⊢
  have hl : lv_has ls 2 [(0, .int p0)] := hl
  refine lv_iload_n hx hb d_mo_isPrime_0 rfl (lv_at hl 0 rfl) ?_
  refine lv_iconst (v := 2) hx hb d_mo_isPrime_1 (by decide) ?_
  refine lv_icmp_lt (tgt := 12) hx hb d_mo_isPrime_2 (by decide) (fun c_1 => ?_) (fun c_1 => ?_)
  · have hv := hv.1 c_1
    refine lv_iconst (v := 0) hx hb d_mo_isPrime_12 (by decide) ?_
    exact W.zret (v := 0) hx hb hr rfl (fun t ht hW => ⟨⟨0, (), rfl, hv, trivial⟩, hS.F ht⟩) hS.2.2 d_mo_isPrime_13
  · have hv := hv.2 c_1
    refine lv_iload_n hx hb d_mo_isPrime_5 rfl (lv_at hl 0 rfl) ?_
    refine lv_sipush (v := 32003) hx hb d_mo_isPrime_6 (by decide) ?_
    refine lv_icmp_le (tgt := 14) hx hb d_mo_isPrime_9 (by decide) (fun c_2 => ?_) (fun c_2 => ?_)
    · have hv := hv.1 c_2
      refine lv_iconst (v := 2) hx hb d_mo_isPrime_14 (by decide) ?_
      refine lv_istore_n (lv' := [(1, .int 2), (0, .int p0)]) hx hb d_mo_isPrime_15 rfl hl (by decide) rfl (fun ls hl => ?_)
      obtain ⟨I16_4, mu16_5, hi0, hv⟩ := hv
      have hP := hP.sub (ws' := []) [] rfl
      have hD := hD.sub (ws' := []) [] (by decide) rfl
      have hl := lv_sub (l' := [(0, .int p0), (1, .int 2)]) hl [1, 0] rfl
      have loop16 : ∀ (nn : Nat) (x1_3 : Int32), mu16_5 x1_3 < nn → I16_4 x1_3 → ∀ (H : Heap) (locs : List Loc) (ls : Array Slot), va_P (dC, dI) vwCl [] H → va_D (fun _ => True) [] → va_S (fun q => s.heap.size ≤ q) s.heap H locs → lv_has ls 2 [(0, .int p0), (1, .int x1_3)] → W p l e (headSpec w_mo_isPrime { frames := 0, cells := 0, slots := 0, locals := 0 }).room s m ([.int p0] : List Value).toArray below meth c H locs 0 0 (MQ below (va_Qi (fun (r : Int32) (_ : Unit) => Q r) (fun _ _ => True) (fun q => s.heap.size ≤ q)) ([.int p0] : List Value).toArray s 0 0 (fun q => s.heap.size ≤ q)) (F0 m 16 ls []) := by
        intro nn
        induction nn with
        | zero => intro x1_3 hlt; exact absurd hlt (Nat.not_lt_zero _)
        | succ nn ih16 =>
          intro x1_3 hlt16 hI H locs ls hP hD hS hl
          have hv := hv x1_3 hI
          refine lv_iload_n hx hb d_mo_isPrime_16 rfl (lv_at hl 1 rfl) ?_
          refine lv_iload_n hx hb d_mo_isPrime_17 rfl (lv_at hl 1 rfl) ?_
          refine lv_imul hx hb d_mo_isPrime_18 ?_
          refine lv_iload_n hx hb d_mo_isPrime_19 rfl (lv_at hl 0 rfl) ?_
          refine lv_icmp_gt (tgt := 37) hx hb d_mo_isPrime_20 (by decide) (fun c_6 => ?_) (fun c_6 => ?_)
          · have hv := hv.1 c_6
            refine lv_iconst (v := 1) hx hb d_mo_isPrime_37 (by decide) ?_
            exact W.zret (v := 1) hx hb hr rfl (fun t ht hW => ⟨⟨1, (), rfl, hv, trivial⟩, hS.F ht⟩) hS.2.2 d_mo_isPrime_38
          · have hv := hv.2 c_6
            refine lv_iload_n hx hb d_mo_isPrime_23 rfl (lv_at hl 0 rfl) ?_
            refine lv_iload_n hx hb d_mo_isPrime_24 rfl (lv_at hl 1 rfl) ?_
            obtain ⟨hz_7, hv⟩ := hv
            refine lv_irem hx hb d_mo_isPrime_25 hz_7 ?_
            refine lv_if_ne (tgt := 31) hx hb d_mo_isPrime_26 (by decide) (fun c_8 => ?_) (fun c_8 => ?_)
            · have hv := hv.1 c_8
              obtain ⟨x1_9, ex1_9⟩ : ∃ y : Int32, y = x1_3 + 1 := ⟨_, rfl⟩
              have hv := hv x1_9 ex1_9
              refine lv_iinc (v := x1_9) (lv' := [(1, .int x1_9), (0, .int p0)]) hx hb d_mo_isPrime_31 hl (k := 1) rfl (by rw [ex1_9]; rfl) (by decide) rfl (fun ls hl => ?_)
              refine lv_goto (tgt := 16) hx hb d_mo_isPrime_34 (by decide) ?_
              exact ih16 x1_9 (Nat.lt_of_lt_of_le hv.2 (Nat.le_of_lt_succ hlt16)) hv.1 _ _ _ (hP.sub [] rfl) (hD.sub [] (by decide) rfl) hS (lv_sub hl [1, 0] rfl)
            · have hv := hv.2 c_8
              refine lv_iconst (v := 0) hx hb d_mo_isPrime_29 (by decide) ?_
              exact W.zret (v := 0) hx hb hr rfl (fun t ht hW => ⟨⟨0, (), rfl, hv, trivial⟩, hS.F ht⟩) hS.2.2 d_mo_isPrime_30
      exact loop16 _ 2 (Nat.lt_succ_self _) hi0 _ _ _ hP hD hS hl
    · have hv := hv.2 c_2
      refine lv_iconst (v := 0) hx hb d_mo_isPrime_12 (by decide) ?_
      exact W.zret (v := 0) hx hb hr rfl (fun t ht hW => ⟨⟨0, (), rfl, hv, trivial⟩, hS.F ht⟩) hS.2.2 d_mo_isPrime_13
