abbrev b_md_field : ByteArray := prog_10_method_22_code
def y_md_field : MethodName := ⟨"SpaceBasisModel", "field", "(III)V"⟩
def w_md_field : List Cond := Cond.code y_md_field b_md_field 4 none :: vwWS
theorem d_md_field_0 : decode b_md_field 0 = .ok (.aload_n 0, 1) := by decide +kernel
theorem d_md_field_1 : decode b_md_field 1 = .ok (.iload_n 1, 1) := by decide +kernel
theorem d_md_field_2 : decode b_md_field 2 = .ok (.invokestatic 117, 3) := by decide +kernel
theorem d_md_field_5 : decode b_md_field 5 = .ok (.ifCond .eq 22, 3) := by decide +kernel
theorem d_md_field_8 : decode b_md_field 8 = .ok (.iload_n 2, 1) := by decide +kernel
theorem d_md_field_9 : decode b_md_field 9 = .ok (.iconst 1, 1) := by decide +kernel
theorem d_md_field_10 : decode b_md_field 10 = .ok (.if_icmp .lt 17, 3) := by decide +kernel
theorem d_md_field_13 : decode b_md_field 13 = .ok (.iload_n 2, 1) := by decide +kernel
theorem d_md_field_14 : decode b_md_field 14 = .ok (.iconst 4, 1) := by decide +kernel
theorem d_md_field_15 : decode b_md_field 15 = .ok (.if_icmp .gt 12, 3) := by decide +kernel
theorem d_md_field_18 : decode b_md_field 18 = .ok (.iload_n 3, 1) := by decide +kernel
theorem d_md_field_19 : decode b_md_field 19 = .ok (.ifCond .lt 8, 3) := by decide +kernel
theorem d_md_field_22 : decode b_md_field 22 = .ok (.iload_n 3, 1) := by decide +kernel
theorem d_md_field_23 : decode b_md_field 23 = .ok (.iconst 1, 1) := by decide +kernel
theorem d_md_field_24 : decode b_md_field 24 = .ok (.if_icmp .le 7, 3) := by decide +kernel
theorem d_md_field_27 : decode b_md_field 27 = .ok (.iconst 1, 1) := by decide +kernel
theorem d_md_field_28 : decode b_md_field 28 = .ok (.goto 4, 3) := by decide +kernel
theorem d_md_field_31 : decode b_md_field 31 = .ok (.iconst 0, 1) := by decide +kernel
theorem d_md_field_32 : decode b_md_field 32 = .ok (.putfield 7, 3) := by decide +kernel
theorem d_md_field_35 : decode b_md_field 35 = .ok (.aload_n 0, 1) := by decide +kernel
theorem d_md_field_36 : decode b_md_field 36 = .ok (.getfield 7, 3) := by decide +kernel
theorem d_md_field_39 : decode b_md_field 39 = .ok (.ifCond .ne 10, 3) := by decide +kernel
theorem d_md_field_42 : decode b_md_field 42 = .ok (.aload_n 0, 1) := by decide +kernel
theorem d_md_field_43 : decode b_md_field 43 = .ok (.iload_n 1, 1) := by decide +kernel
theorem d_md_field_44 : decode b_md_field 44 = .ok (.iload_n 2, 1) := by decide +kernel
theorem d_md_field_45 : decode b_md_field 45 = .ok (.iload_n 3, 1) := by decide +kernel
theorem d_md_field_46 : decode b_md_field 46 = .ok (.invokevirtual 67, 3) := by decide +kernel
theorem d_md_field_49 : decode b_md_field 49 = .ok (.return_, 1) := by decide +kernel
/-- SpaceBasisModel.field(III)V -/
def vc_md_field (md_thrownCode : Int32) (md_p : Int32) (md_n : Int32) (md_order : Int32) (md_monomials : Int32) (md_generators : Int32) (md_found : Int32) (md_upTo : Int32) (md_members : Int32) (md_provedNow : Int32) (md_mono : Nat → Int32) (md_degree : Nat → Int32) (md_hand : Nat → Int32) (p0 : Int32) (p1 : Int32) (p2 : Int32) (Q : Int32 → Int32 → Int32 → Int32 → Int32 → Int32 → Int32 → (Nat → Int32) → (Nat → Int32) → (Nat → Int32) → Prop) : Prop :=
  vc_md_prime p0 (fun (r_1 : Int32) => (((r_1 = 0) → ((((¬ ((1 : Int32) = 0)) → (Q 1 md_p md_n md_order md_monomials md_generators md_found md_mono md_degree md_hand)) ∧ (((1 : Int32) = 0) → (vc_md_fresh 1 md_p md_n md_order md_monomials md_generators md_found md_upTo md_members md_provedNow md_mono md_degree md_hand p0 p1 p2 (fun (md_p_5 : Int32) (md_n_6 : Int32) (md_order_7 : Int32) (md_monomials_8 : Int32) (md_generators_9 : Int32) (md_found_10 : Int32) (md_mono_11 : Nat → Int32) (md_degree_12 : Nat → Int32) (md_hand_13 : Nat → Int32) => Q 1 md_p_5 md_n_6 md_order_7 md_monomials_8 md_generators_9 md_found_10 md_mono_11 md_degree_12 md_hand_13)))))) ∧ ((¬ (r_1 = 0)) → ((((p1 < 1) → ((((¬ ((1 : Int32) = 0)) → (Q 1 md_p md_n md_order md_monomials md_generators md_found md_mono md_degree md_hand)) ∧ (((1 : Int32) = 0) → (vc_md_fresh 1 md_p md_n md_order md_monomials md_generators md_found md_upTo md_members md_provedNow md_mono md_degree md_hand p0 p1 p2 (fun (md_p_17 : Int32) (md_n_18 : Int32) (md_order_19 : Int32) (md_monomials_20 : Int32) (md_generators_21 : Int32) (md_found_22 : Int32) (md_mono_23 : Nat → Int32) (md_degree_24 : Nat → Int32) (md_hand_25 : Nat → Int32) => Q 1 md_p_17 md_n_18 md_order_19 md_monomials_20 md_generators_21 md_found_22 md_mono_23 md_degree_24 md_hand_25)))))) ∧ ((¬ (p1 < 1)) → ((((4 < p1) → ((((¬ ((1 : Int32) = 0)) → (Q 1 md_p md_n md_order md_monomials md_generators md_found md_mono md_degree md_hand)) ∧ (((1 : Int32) = 0) → (vc_md_fresh 1 md_p md_n md_order md_monomials md_generators md_found md_upTo md_members md_provedNow md_mono md_degree md_hand p0 p1 p2 (fun (md_p_29 : Int32) (md_n_30 : Int32) (md_order_31 : Int32) (md_monomials_32 : Int32) (md_generators_33 : Int32) (md_found_34 : Int32) (md_mono_35 : Nat → Int32) (md_degree_36 : Nat → Int32) (md_hand_37 : Nat → Int32) => Q 1 md_p_29 md_n_30 md_order_31 md_monomials_32 md_generators_33 md_found_34 md_mono_35 md_degree_36 md_hand_37)))))) ∧ ((¬ (4 < p1)) → ((((p2 < 0) → ((((¬ ((1 : Int32) = 0)) → (Q 1 md_p md_n md_order md_monomials md_generators md_found md_mono md_degree md_hand)) ∧ (((1 : Int32) = 0) → (vc_md_fresh 1 md_p md_n md_order md_monomials md_generators md_found md_upTo md_members md_provedNow md_mono md_degree md_hand p0 p1 p2 (fun (md_p_41 : Int32) (md_n_42 : Int32) (md_order_43 : Int32) (md_monomials_44 : Int32) (md_generators_45 : Int32) (md_found_46 : Int32) (md_mono_47 : Nat → Int32) (md_degree_48 : Nat → Int32) (md_hand_49 : Nat → Int32) => Q 1 md_p_41 md_n_42 md_order_43 md_monomials_44 md_generators_45 md_found_46 md_mono_47 md_degree_48 md_hand_49)))))) ∧ ((¬ (p2 < 0)) → ((((p2 ≤ 1) → ((((¬ ((0 : Int32) = 0)) → (Q 0 md_p md_n md_order md_monomials md_generators md_found md_mono md_degree md_hand)) ∧ (((0 : Int32) = 0) → (vc_md_fresh 0 md_p md_n md_order md_monomials md_generators md_found md_upTo md_members md_provedNow md_mono md_degree md_hand p0 p1 p2 (fun (md_p_53 : Int32) (md_n_54 : Int32) (md_order_55 : Int32) (md_monomials_56 : Int32) (md_generators_57 : Int32) (md_found_58 : Int32) (md_mono_59 : Nat → Int32) (md_degree_60 : Nat → Int32) (md_hand_61 : Nat → Int32) => Q 0 md_p_53 md_n_54 md_order_55 md_monomials_56 md_generators_57 md_found_58 md_mono_59 md_degree_60 md_hand_61)))))) ∧ ((¬ (p2 ≤ 1)) → ((((¬ ((1 : Int32) = 0)) → (Q 1 md_p md_n md_order md_monomials md_generators md_found md_mono md_degree md_hand)) ∧ (((1 : Int32) = 0) → (vc_md_fresh 1 md_p md_n md_order md_monomials md_generators md_found md_upTo md_members md_provedNow md_mono md_degree md_hand p0 p1 p2 (fun (md_p_64 : Int32) (md_n_65 : Int32) (md_order_66 : Int32) (md_monomials_67 : Int32) (md_generators_68 : Int32) (md_found_69 : Int32) (md_mono_70 : Nat → Int32) (md_degree_71 : Nat → Int32) (md_hand_72 : Nat → Int32) => Q 1 md_p_64 md_n_65 md_order_66 md_monomials_67 md_generators_68 md_found_69 md_mono_70 md_degree_71 md_hand_72))))))))))))))))))))
abbrev at_md_field (dC : Nat → ClassId) (dI : Nat → Nat → Nat) (cs : Nat → ClassId) (A : Nat → Prop) (ad : Nat → Nat) (md_upTo : Int32) (md_members : Int32) (md_provedNow : Int32) (u : Int32 × Int32 × Int32 × Int32 × Int32 × Int32 × Int32 × (Nat → Int32) × (Nat → Int32) × (Nat → Int32)) (t : State) : Prop := match u with
  | (md_thrownCode, md_p, md_n, md_order, md_monomials, md_generators, md_found, md_mono, md_degree, md_hand) => va_P (dC, dI) vwCl [((ad 0), .inr (8, [.int md_thrownCode, .int md_p, .int md_n, .int md_order, .int md_monomials, .ref (ad 1), .ref (ad 2), .int md_generators, .ref (ad 3), .ref (ad 4), .int md_found, .int md_upTo, .ref (ad 5), .ref (ad 6), .ref (ad 7), .ref (ad 8), .int md_members, .int md_provedNow])), ((ad 1), .inl (cs 0, 126, .inl md_mono)), ((ad 2), .inl (cs 0, 126, .inl md_degree)), ((ad 4), .inl (cs 0, 126, .inl md_hand))] t.heap ∧ va_D A [((ad 0), .inr (8, [.int md_thrownCode, .int md_p, .int md_n, .int md_order, .int md_monomials, .ref (ad 1), .ref (ad 2), .int md_generators, .ref (ad 3), .ref (ad 4), .int md_found, .int md_upTo, .ref (ad 5), .ref (ad 6), .ref (ad 7), .ref (ad 8), .int md_members, .int md_provedNow])), ((ad 1), .inl (cs 0, 126, .inl md_mono)), ((ad 2), .inl (cs 0, 126, .inl md_degree)), ((ad 4), .inl (cs 0, 126, .inl md_hand))]
set_option maxHeartbeats 4000000 in
set_option maxRecDepth 100000 in
theorem c_md_field (l : Launch) (dC : Nat → ClassId) (dI : Nat → Nat → Nat) (cs : Nat → ClassId) (ad : Nat → Nat)  (sz : Nat) (md_thrownCode : Int32) (md_p : Int32) (md_n : Int32) (md_order : Int32) (md_monomials : Int32) (md_generators : Int32) (md_found : Int32) (md_upTo : Int32) (md_members : Int32) (md_provedNow : Int32) (md_mono : Nat → Int32) (md_degree : Nat → Int32) (md_hand : Nat → Int32) (p0 : Int32) (p1 : Int32) (p2 : Int32) (Q : Int32 → Int32 → Int32 → Int32 → Int32 → Int32 → Int32 → (Nat → Int32) → (Nat → Int32) → (Nat → Int32) → Prop) (hv : vc_md_field md_thrownCode md_p md_n md_order md_monomials md_generators md_found md_upTo md_members md_provedNow md_mono md_degree md_hand p0 p1 p2 Q) : Met l y_md_field w_md_field ({ frames := 5, cells := 0, slots := 0, locals := 115 }) (va_Pc [.ref (ad 0), .int p0, .int p1, .int p2] (fun U => U.heap.size = sz ∧ va_P (dC, dI) vwCl [((ad 0), .inr (8, [.int md_thrownCode, .int md_p, .int md_n, .int md_order, .int md_monomials, .ref (ad 1), .ref (ad 2), .int md_generators, .ref (ad 3), .ref (ad 4), .int md_found, .int md_upTo, .ref (ad 5), .ref (ad 6), .ref (ad 7), .ref (ad 8), .int md_members, .int md_provedNow])), ((ad 1), .inl (cs 0, 126, .inl md_mono)), ((ad 2), .inl (cs 0, 126, .inl md_degree)), ((ad 4), .inl (cs 0, 126, .inl md_hand))] U.heap ∧ vwK dC dI cs U ∧ va_D (fun _ => True) [((ad 0), .inr (8, [.int md_thrownCode, .int md_p, .int md_n, .int md_order, .int md_monomials, .ref (ad 1), .ref (ad 2), .int md_generators, .ref (ad 3), .ref (ad 4), .int md_found, .int md_upTo, .ref (ad 5), .ref (ad 6), .ref (ad 7), .ref (ad 8), .int md_members, .int md_provedNow])), ((ad 1), .inl (cs 0, 126, .inl md_mono)), ((ad 2), .inl (cs 0, 126, .inl md_degree)), ((ad 4), .inl (cs 0, 126, .inl md_hand))])) (va_Qv (fun (u : Int32 × Int32 × Int32 × Int32 × Int32 × Int32 × Int32 × (Nat → Int32) × (Nat → Int32) × (Nat → Int32)) => Q u.1 u.2.1 u.2.2.1 u.2.2.2.1 u.2.2.2.2.1 u.2.2.2.2.2.1 u.2.2.2.2.2.2.1 u.2.2.2.2.2.2.2.1 u.2.2.2.2.2.2.2.2.1 u.2.2.2.2.2.2.2.2.2) (at_md_field dC dI cs (va_A [((ad 0), .inr (8, [.int md_thrownCode, .int md_p, .int md_n, .int md_order, .int md_monomials, .ref (ad 1), .ref (ad 2), .int md_generators, .ref (ad 3), .ref (ad 4), .int md_found, .int md_upTo, .ref (ad 5), .ref (ad 6), .ref (ad 7), .ref (ad 8), .int md_members, .int md_provedNow])), ((ad 1), .inl (cs 0, 126, .inl md_mono)), ((ad 2), .inl (cs 0, 126, .inl md_degree)), ((ad 4), .inl (cs 0, 126, .inl md_hand))] sz) ad md_upTo md_members md_provedNow) (va_A [((ad 0), .inr (8, [.int md_thrownCode, .int md_p, .int md_n, .int md_order, .int md_monomials, .ref (ad 1), .ref (ad 2), .int md_generators, .ref (ad 3), .ref (ad 4), .int md_found, .int md_upTo, .ref (ad 5), .ref (ad 6), .ref (ad 7), .ref (ad 8), .int md_members, .int md_provedNow])), ((ad 1), .inl (cs 0, 126, .inl md_mono)), ((ad 2), .inl (cs 0, 126, .inl md_degree)), ((ad 4), .inl (cs 0, 126, .inl md_hand))] sz)) 0 0 (va_A [((ad 0), .inr (8, [.int md_thrownCode, .int md_p, .int md_n, .int md_order, .int md_monomials, .ref (ad 1), .ref (ad 2), .int md_generators, .ref (ad 3), .ref (ad 4), .int md_found, .int md_upTo, .ref (ad 5), .ref (ad 6), .ref (ad 7), .ref (ad 8), .int md_members, .int md_provedNow])), ((ad 1), .inl (cs 0, 126, .inl md_mono)), ((ad 2), .inl (cs 0, 126, .inl md_degree)), ((ad 4), .inl (cs 0, 126, .inl md_hand))] sz) := by
  unfold vc_md_field at hv
  refine Met.ofW (cc := b_md_field) (maxL := 4) (ret := none) (by decide) rfl ?_
  intro p e s m args below meth c s₁ B hml hpc
  obtain ⟨rfl, hsz, hP, ⟨hK, hN⟩, hD0⟩ := hpc
  have hx := B.exec
  have hb := B.bytes
  have hr := B.returns
  have hts : ∀ w ∈ vwWS, w.before _ s = true := fun w h => atoms_spec (ws := w_md_field) B.pre w (List.mem_cons_of_mem _ h)
  have hown : s.vm.findClass "SpaceBasisModel" = some m.cls := findClass_of_methodNamed B.named
  have hlocks := B.notSynchronized
  subst hsz
  have hD := hD0.self (sz := s.heap.size)
  generalize hAe : va_A [((ad 0), .inr (8, [.int md_thrownCode, .int md_p, .int md_n, .int md_order, .int md_monomials, .ref (ad 1), .ref (ad 2), .int md_generators, .ref (ad 3), .ref (ad 4), .int md_found, .int md_upTo, .ref (ad 5), .ref (ad 6), .ref (ad 7), .ref (ad 8), .int md_members, .int md_provedNow])), ((ad 1), .inl (cs 0, 126, .inl md_mono)), ((ad 2), .inl (cs 0, 126, .inl md_degree)), ((ad 4), .inl (cs 0, 126, .inl md_hand))] s.heap.size = A at hD ⊢
  have hA : ∀ q : Nat, s.heap.size ≤ q → A q := fun q h => by rw [← hAe]; exact Or.inr h
  have hS : va_S A s.heap s.heap [] := va_S.rf
  have hl := lv_entry ([.ref (ad 0), .int p0, .int p1, .int p2]) (n := 4) (Nat.le_of_ble_eq_true rfl)
  rw [lg_entry_eq]
  generalize (lg_sl ([.ref (ad 0), .int p0, .int p1, .int p2]) ++ List.replicate (4 - (lg_sl ([.ref (ad 0), .int p0, .int p1, .int p2])).length) Slot.unset).toArray = ls at hl ⊢
  have hl : lv_has ls 4 [(0, .ref (ad 0)), (1, .int p0), (2, .int p1), (3, .int p2)] := hl
  refine lv_aload_n hx hb d_md_field_0 rfl (lv_at hl 0 rfl) ?_
  refine lv_iload_n hx hb d_md_field_1 rfl (lv_at hl 1 rfl) ?_
  have hPc := hP.sub (ws' := []) [] rfl
  have hDc := hD.sub (ws' := []) [] (by decide) rfl
  have hFc := va_free (wc := []) hD hS hA [] rfl
  refine va_calli (va_runS (As := [.int p0]) (rest := [.ref (ad 0)]) ⟨hx, hb, hml, hown, hts⟩ (c_md_prime l dC dI cs ad  s.heap.size p0 _ hv) (va_cwS 1 hts (gd_S kw_682 kw_683 kw_41 kw_684) rfl rfl rfl (by decide +kernel) ⟨Nat.le_of_ble_eq_true rfl, Nat.le_of_ble_eq_true rfl⟩) ⟨fun a U g mk q => by obtain ⟨q0, q1, qP, qK, qD⟩ := q; exact ⟨q0, q1, qP, qK.call, qD⟩, fun U hU hW => ⟨rfl, by rw [hU], by rw [hU]; exact hPc, vwK.warm hW ⟨hK, hN⟩, hDc.weaken (fun _ _ _ _ => trivial)⟩⟩ rfl rfl hl.1 rfl (lv_room (Nat.le_of_ble_eq_true rfl)) d_md_field_2 ⟨Nat.zero_le _, Nat.zero_le _⟩) hS (fun q _ h => hFc q h) hFc (fun r_1 _u t H1 locs1 ht hvm hw hB hz1 hk1 hS => ?_)
  obtain ⟨hP1, hD1⟩ := hB
  rw [ht] at hP1
  obtain ⟨hP, hD⟩ := va_join (wr := [((ad 0), .inr (8, [.int md_thrownCode, .int md_p, .int md_n, .int md_order, .int md_monomials, .ref (ad 1), .ref (ad 2), .int md_generators, .ref (ad 3), .ref (ad 4), .int md_found, .int md_upTo, .ref (ad 5), .ref (ad 6), .ref (ad 7), .ref (ad 8), .int md_members, .int md_provedNow])), ((ad 1), .inl (cs 0, 126, .inl md_mono)), ((ad 2), .inl (cs 0, 126, .inl md_degree)), ((ad 4), .inl (cs 0, 126, .inl md_hand))]) (w1 := []) hP hD [] [0, 1, 2, 3] rfl rfl (by decide) (by decide) hk1 hFc hP1 hD1
  generalize H1 = H at hP hS ⊢
  generalize locs1 = locs at hS ⊢
  have hP : va_P (dC, dI) vwCl [((ad 0), .inr (8, [.int md_thrownCode, .int md_p, .int md_n, .int md_order, .int md_monomials, .ref (ad 1), .ref (ad 2), .int md_generators, .ref (ad 3), .ref (ad 4), .int md_found, .int md_upTo, .ref (ad 5), .ref (ad 6), .ref (ad 7), .ref (ad 8), .int md_members, .int md_provedNow])), ((ad 1), .inl (cs 0, 126, .inl md_mono)), ((ad 2), .inl (cs 0, 126, .inl md_degree)), ((ad 4), .inl (cs 0, 126, .inl md_hand))] H := hP
  have hD : va_D A [((ad 0), .inr (8, [.int md_thrownCode, .int md_p, .int md_n, .int md_order, .int md_monomials, .ref (ad 1), .ref (ad 2), .int md_generators, .ref (ad 3), .ref (ad 4), .int md_found, .int md_upTo, .ref (ad 5), .ref (ad 6), .ref (ad 7), .ref (ad 8), .int md_members, .int md_provedNow])), ((ad 1), .inl (cs 0, 126, .inl md_mono)), ((ad 2), .inl (cs 0, 126, .inl md_degree)), ((ad 4), .inl (cs 0, 126, .inl md_hand))] := hD
  have hv := hw
  try dsimp only at hv
  refine lv_if_eq (tgt := 27) hx hb d_md_field_5 (by decide) (fun c_2 => ?_) (fun c_2 => ?_)
  · have hv := hv.1 c_2
    refine lv_iconst (v := 1) hx hb d_md_field_27 (by decide) ?_
    refine lv_goto (tgt := 32) hx hb d_md_field_28 (by decide) ?_
    refine va_put (D := (dC, dI)) (ci := 8) (v := .int 1) (ty := .int) (C := R_md) (T := F_md) (N := 18) hx hb hts in_md t_md t_md_ok n_md hown hK hP hD hS 0 rfl rfl 0 (by decide) (hts _ kw_618) (fun _ h9 => h9) rfl (by decide +kernel) rfl rfl (Nat.le_of_ble_eq_true rfl) d_md_field_32 (fun H locs hP hD hS => ?_)
    have hP : va_P (dC, dI) vwCl [((ad 0), .inr (8, [.int 1, .int md_p, .int md_n, .int md_order, .int md_monomials, .ref (ad 1), .ref (ad 2), .int md_generators, .ref (ad 3), .ref (ad 4), .int md_found, .int md_upTo, .ref (ad 5), .ref (ad 6), .ref (ad 7), .ref (ad 8), .int md_members, .int md_provedNow])), ((ad 1), .inl (cs 0, 126, .inl md_mono)), ((ad 2), .inl (cs 0, 126, .inl md_degree)), ((ad 4), .inl (cs 0, 126, .inl md_hand))] H := hP
    have hD : va_D A [((ad 0), .inr (8, [.int 1, .int md_p, .int md_n, .int md_order, .int md_monomials, .ref (ad 1), .ref (ad 2), .int md_generators, .ref (ad 3), .ref (ad 4), .int md_found, .int md_upTo, .ref (ad 5), .ref (ad 6), .ref (ad 7), .ref (ad 8), .int md_members, .int md_provedNow])), ((ad 1), .inl (cs 0, 126, .inl md_mono)), ((ad 2), .inl (cs 0, 126, .inl md_degree)), ((ad 4), .inl (cs 0, 126, .inl md_hand))] := hD
    refine lv_aload_n hx hb d_md_field_35 rfl (lv_at hl 0 rfl) ?_
    refine va_get (D := (dC, dI)) (ci := 8) (v := .int 1) (C := R_md) (T := F_md) (N := 18) hx hb hts in_md hown hK hP 0 rfl rfl 0 (by decide) (hts _ kw_618) (fun _ h9 => h9) rfl d_md_field_36 ?_
    refine lv_if_ne (tgt := 49) hx hb d_md_field_39 (by decide) (fun c_4 => ?_) (fun c_4 => ?_)
    · have hv := hv.1 c_4
      have hP9 := hP.sub (ws' := [((ad 0), .inr (8, [.int 1, .int md_p, .int md_n, .int md_order, .int md_monomials, .ref (ad 1), .ref (ad 2), .int md_generators, .ref (ad 3), .ref (ad 4), .int md_found, .int md_upTo, .ref (ad 5), .ref (ad 6), .ref (ad 7), .ref (ad 8), .int md_members, .int md_provedNow])), ((ad 1), .inl (cs 0, 126, .inl md_mono)), ((ad 2), .inl (cs 0, 126, .inl md_degree)), ((ad 4), .inl (cs 0, 126, .inl md_hand))]) [0, 1, 2, 3] rfl
      have hD9 := hD.sub (ws' := [((ad 0), .inr (8, [.int 1, .int md_p, .int md_n, .int md_order, .int md_monomials, .ref (ad 1), .ref (ad 2), .int md_generators, .ref (ad 3), .ref (ad 4), .int md_found, .int md_upTo, .ref (ad 5), .ref (ad 6), .ref (ad 7), .ref (ad 8), .int md_members, .int md_provedNow])), ((ad 1), .inl (cs 0, 126, .inl md_mono)), ((ad 2), .inl (cs 0, 126, .inl md_degree)), ((ad 4), .inl (cs 0, 126, .inl md_hand))]) [0, 1, 2, 3] (by decide) rfl
      exact W.vret hx hb hr (fun t ht hW => ⟨⟨(1, md_p, md_n, md_order, md_monomials, md_generators, md_found, md_mono, md_degree, md_hand), rfl, hv, by rw [ht]; exact hP9, hD9⟩, hS.F ht⟩) hS.2.2 d_md_field_49
    · have hv := hv.2 c_4
      refine lv_aload_n hx hb d_md_field_42 rfl (lv_at hl 0 rfl) ?_
      refine lv_iload_n hx hb d_md_field_43 rfl (lv_at hl 1 rfl) ?_
      refine lv_iload_n hx hb d_md_field_44 rfl (lv_at hl 2 rfl) ?_
      refine lv_iload_n hx hb d_md_field_45 rfl (lv_at hl 3 rfl) ?_
      have hPc := hP.sub (ws' := [((ad 0), .inr (8, [.int 1, .int md_p, .int md_n, .int md_order, .int md_monomials, .ref (ad 1), .ref (ad 2), .int md_generators, .ref (ad 3), .ref (ad 4), .int md_found, .int md_upTo, .ref (ad 5), .ref (ad 6), .ref (ad 7), .ref (ad 8), .int md_members, .int md_provedNow])), ((ad 1), .inl (cs 0, 126, .inl md_mono)), ((ad 2), .inl (cs 0, 126, .inl md_degree)), ((ad 4), .inl (cs 0, 126, .inl md_hand))]) [0, 1, 2, 3] rfl
      have hDc := hD.sub (ws' := [((ad 0), .inr (8, [.int 1, .int md_p, .int md_n, .int md_order, .int md_monomials, .ref (ad 1), .ref (ad 2), .int md_generators, .ref (ad 3), .ref (ad 4), .int md_found, .int md_upTo, .ref (ad 5), .ref (ad 6), .ref (ad 7), .ref (ad 8), .int md_members, .int md_provedNow])), ((ad 1), .inl (cs 0, 126, .inl md_mono)), ((ad 2), .inl (cs 0, 126, .inl md_degree)), ((ad 4), .inl (cs 0, 126, .inl md_hand))]) [0, 1, 2, 3] (by decide) rfl
      have hFc := va_free (wc := [((ad 0), .inr (8, [.int 1, .int md_p, .int md_n, .int md_order, .int md_monomials, .ref (ad 1), .ref (ad 2), .int md_generators, .ref (ad 3), .ref (ad 4), .int md_found, .int md_upTo, .ref (ad 5), .ref (ad 6), .ref (ad 7), .ref (ad 8), .int md_members, .int md_provedNow])), ((ad 1), .inl (cs 0, 126, .inl md_mono)), ((ad 2), .inl (cs 0, 126, .inl md_degree)), ((ad 4), .inl (cs 0, 126, .inl md_hand))]) hD hS hA [0, 1, 2, 3] rfl
      refine va_callv (va_runV (As := [.int p0, .int p1, .int p2]) (rest := []) ⟨hx, hb, hml, hown, hts⟩ (c_md_fresh l dC dI cs ad  H.size 1 md_p md_n md_order md_monomials md_generators md_found md_upTo md_members md_provedNow md_mono md_degree md_hand p0 p1 p2 _ hv) (cwV 3 hts (gd_V kw_600 kw_601 kw_17 kw_41 kw_602) rfl rfl rfl (by decide +kernel) ⟨Nat.le_of_ble_eq_true rfl, Nat.le_of_ble_eq_true rfl⟩) ⟨fun a U g mk q => by obtain ⟨q0, q1, qP, qK, qD⟩ := q; exact ⟨q0, q1, qP, qK.call, qD⟩, va_recv hK hPc (ci := 8) (q0 := 0) rfl rfl, fun U hU hW => ⟨rfl, by rw [hU], by rw [hU]; exact hPc, vwK.warm hW ⟨hK, hN⟩, hDc.weaken (fun _ _ _ _ => trivial)⟩⟩ rfl rfl hl.1 rfl (lv_room (Nat.le_of_ble_eq_true rfl)) d_md_field_46 ⟨Nat.zero_le _, Nat.zero_le _⟩) hS (fun q _ h => hFc q h) hFc (fun u t H1 locs1 ht hvm hw hB hz1 hk1 hS => ?_)
      obtain ⟨md_p_5, md_n_6, md_order_7, md_monomials_8, md_generators_9, md_found_10, md_mono_11, md_degree_12, md_hand_13⟩ := u
      obtain ⟨hP1, hD1⟩ := hB
      rw [ht] at hP1
      obtain ⟨hP, hD⟩ := va_join (wr := []) (w1 := [((ad 0), .inr (8, [.int 1, .int md_p_5, .int md_n_6, .int md_order_7, .int md_monomials_8, .ref (ad 1), .ref (ad 2), .int md_generators_9, .ref (ad 3), .ref (ad 4), .int md_found_10, .int md_upTo, .ref (ad 5), .ref (ad 6), .ref (ad 7), .ref (ad 8), .int md_members, .int md_provedNow])), ((ad 1), .inl (cs 0, 126, .inl md_mono_11)), ((ad 2), .inl (cs 0, 126, .inl md_degree_12)), ((ad 4), .inl (cs 0, 126, .inl md_hand_13))]) hP hD [0, 1, 2, 3] [] rfl rfl (by decide) (by decide) hk1 hFc hP1 hD1
      generalize H1 = H at hP hS ⊢
      generalize locs1 = locs at hS ⊢
      have hP : va_P (dC, dI) vwCl [((ad 0), .inr (8, [.int 1, .int md_p_5, .int md_n_6, .int md_order_7, .int md_monomials_8, .ref (ad 1), .ref (ad 2), .int md_generators_9, .ref (ad 3), .ref (ad 4), .int md_found_10, .int md_upTo, .ref (ad 5), .ref (ad 6), .ref (ad 7), .ref (ad 8), .int md_members, .int md_provedNow])), ((ad 1), .inl (cs 0, 126, .inl md_mono_11)), ((ad 2), .inl (cs 0, 126, .inl md_degree_12)), ((ad 4), .inl (cs 0, 126, .inl md_hand_13))] H := hP
      have hD : va_D A [((ad 0), .inr (8, [.int 1, .int md_p_5, .int md_n_6, .int md_order_7, .int md_monomials_8, .ref (ad 1), .ref (ad 2), .int md_generators_9, .ref (ad 3), .ref (ad 4), .int md_found_10, .int md_upTo, .ref (ad 5), .ref (ad 6), .ref (ad 7), .ref (ad 8), .int md_members, .int md_provedNow])), ((ad 1), .inl (cs 0, 126, .inl md_mono_11)), ((ad 2), .inl (cs 0, 126, .inl md_degree_12)), ((ad 4), .inl (cs 0, 126, .inl md_hand_13))] := hD
      have hv := hw
      try dsimp only at hv
      have hP9 := hP.sub (ws' := [((ad 0), .inr (8, [.int 1, .int md_p_5, .int md_n_6, .int md_order_7, .int md_monomials_8, .ref (ad 1), .ref (ad 2), .int md_generators_9, .ref (ad 3), .ref (ad 4), .int md_found_10, .int md_upTo, .ref (ad 5), .ref (ad 6), .ref (ad 7), .ref (ad 8), .int md_members, .int md_provedNow])), ((ad 1), .inl (cs 0, 126, .inl md_mono_11)), ((ad 2), .inl (cs 0, 126, .inl md_degree_12)), ((ad 4), .inl (cs 0, 126, .inl md_hand_13))]) [0, 1, 2, 3] rfl
      have hD9 := hD.sub (ws' := [((ad 0), .inr (8, [.int 1, .int md_p_5, .int md_n_6, .int md_order_7, .int md_monomials_8, .ref (ad 1), .ref (ad 2), .int md_generators_9, .ref (ad 3), .ref (ad 4), .int md_found_10, .int md_upTo, .ref (ad 5), .ref (ad 6), .ref (ad 7), .ref (ad 8), .int md_members, .int md_provedNow])), ((ad 1), .inl (cs 0, 126, .inl md_mono_11)), ((ad 2), .inl (cs 0, 126, .inl md_degree_12)), ((ad 4), .inl (cs 0, 126, .inl md_hand_13))]) [0, 1, 2, 3] (by decide) rfl
      exact W.vret hx hb hr (fun t ht hW => ⟨⟨(1, md_p_5, md_n_6, md_order_7, md_monomials_8, md_generators_9, md_found_10, md_mono_11, md_degree_12, md_hand_13), rfl, hv, by rw [ht]; exact hP9, hD9⟩, hS.F ht⟩) hS.2.2 d_md_field_49
  · have hv := hv.2 c_2
    refine lv_iload_n hx hb d_md_field_8 rfl (lv_at hl 2 rfl) ?_
    refine lv_iconst (v := 1) hx hb d_md_field_9 (by decide) ?_
    refine lv_icmp_lt (tgt := 27) hx hb d_md_field_10 (by decide) (fun c_14 => ?_) (fun c_14 => ?_)
    · have hv := hv.1 c_14
      refine lv_iconst (v := 1) hx hb d_md_field_27 (by decide) ?_
      refine lv_goto (tgt := 32) hx hb d_md_field_28 (by decide) ?_
      refine va_put (D := (dC, dI)) (ci := 8) (v := .int 1) (ty := .int) (C := R_md) (T := F_md) (N := 18) hx hb hts in_md t_md t_md_ok n_md hown hK hP hD hS 0 rfl rfl 0 (by decide) (hts _ kw_618) (fun _ h9 => h9) rfl (by decide +kernel) rfl rfl (Nat.le_of_ble_eq_true rfl) d_md_field_32 (fun H locs hP hD hS => ?_)
      have hP : va_P (dC, dI) vwCl [((ad 0), .inr (8, [.int 1, .int md_p, .int md_n, .int md_order, .int md_monomials, .ref (ad 1), .ref (ad 2), .int md_generators, .ref (ad 3), .ref (ad 4), .int md_found, .int md_upTo, .ref (ad 5), .ref (ad 6), .ref (ad 7), .ref (ad 8), .int md_members, .int md_provedNow])), ((ad 1), .inl (cs 0, 126, .inl md_mono)), ((ad 2), .inl (cs 0, 126, .inl md_degree)), ((ad 4), .inl (cs 0, 126, .inl md_hand))] H := hP
      have hD : va_D A [((ad 0), .inr (8, [.int 1, .int md_p, .int md_n, .int md_order, .int md_monomials, .ref (ad 1), .ref (ad 2), .int md_generators, .ref (ad 3), .ref (ad 4), .int md_found, .int md_upTo, .ref (ad 5), .ref (ad 6), .ref (ad 7), .ref (ad 8), .int md_members, .int md_provedNow])), ((ad 1), .inl (cs 0, 126, .inl md_mono)), ((ad 2), .inl (cs 0, 126, .inl md_degree)), ((ad 4), .inl (cs 0, 126, .inl md_hand))] := hD
      refine lv_aload_n hx hb d_md_field_35 rfl (lv_at hl 0 rfl) ?_
      refine va_get (D := (dC, dI)) (ci := 8) (v := .int 1) (C := R_md) (T := F_md) (N := 18) hx hb hts in_md hown hK hP 0 rfl rfl 0 (by decide) (hts _ kw_618) (fun _ h9 => h9) rfl d_md_field_36 ?_
      refine lv_if_ne (tgt := 49) hx hb d_md_field_39 (by decide) (fun c_16 => ?_) (fun c_16 => ?_)
      · have hv := hv.1 c_16
        have hP9 := hP.sub (ws' := [((ad 0), .inr (8, [.int 1, .int md_p, .int md_n, .int md_order, .int md_monomials, .ref (ad 1), .ref (ad 2), .int md_generators, .ref (ad 3), .ref (ad 4), .int md_found, .int md_upTo, .ref (ad 5), .ref (ad 6), .ref (ad 7), .ref (ad 8), .int md_members, .int md_provedNow])), ((ad 1), .inl (cs 0, 126, .inl md_mono)), ((ad 2), .inl (cs 0, 126, .inl md_degree)), ((ad 4), .inl (cs 0, 126, .inl md_hand))]) [0, 1, 2, 3] rfl
        have hD9 := hD.sub (ws' := [((ad 0), .inr (8, [.int 1, .int md_p, .int md_n, .int md_order, .int md_monomials, .ref (ad 1), .ref (ad 2), .int md_generators, .ref (ad 3), .ref (ad 4), .int md_found, .int md_upTo, .ref (ad 5), .ref (ad 6), .ref (ad 7), .ref (ad 8), .int md_members, .int md_provedNow])), ((ad 1), .inl (cs 0, 126, .inl md_mono)), ((ad 2), .inl (cs 0, 126, .inl md_degree)), ((ad 4), .inl (cs 0, 126, .inl md_hand))]) [0, 1, 2, 3] (by decide) rfl
        exact W.vret hx hb hr (fun t ht hW => ⟨⟨(1, md_p, md_n, md_order, md_monomials, md_generators, md_found, md_mono, md_degree, md_hand), rfl, hv, by rw [ht]; exact hP9, hD9⟩, hS.F ht⟩) hS.2.2 d_md_field_49
      · have hv := hv.2 c_16
        refine lv_aload_n hx hb d_md_field_42 rfl (lv_at hl 0 rfl) ?_
        refine lv_iload_n hx hb d_md_field_43 rfl (lv_at hl 1 rfl) ?_
        refine lv_iload_n hx hb d_md_field_44 rfl (lv_at hl 2 rfl) ?_
        refine lv_iload_n hx hb d_md_field_45 rfl (lv_at hl 3 rfl) ?_
        have hPc := hP.sub (ws' := [((ad 0), .inr (8, [.int 1, .int md_p, .int md_n, .int md_order, .int md_monomials, .ref (ad 1), .ref (ad 2), .int md_generators, .ref (ad 3), .ref (ad 4), .int md_found, .int md_upTo, .ref (ad 5), .ref (ad 6), .ref (ad 7), .ref (ad 8), .int md_members, .int md_provedNow])), ((ad 1), .inl (cs 0, 126, .inl md_mono)), ((ad 2), .inl (cs 0, 126, .inl md_degree)), ((ad 4), .inl (cs 0, 126, .inl md_hand))]) [0, 1, 2, 3] rfl
        have hDc := hD.sub (ws' := [((ad 0), .inr (8, [.int 1, .int md_p, .int md_n, .int md_order, .int md_monomials, .ref (ad 1), .ref (ad 2), .int md_generators, .ref (ad 3), .ref (ad 4), .int md_found, .int md_upTo, .ref (ad 5), .ref (ad 6), .ref (ad 7), .ref (ad 8), .int md_members, .int md_provedNow])), ((ad 1), .inl (cs 0, 126, .inl md_mono)), ((ad 2), .inl (cs 0, 126, .inl md_degree)), ((ad 4), .inl (cs 0, 126, .inl md_hand))]) [0, 1, 2, 3] (by decide) rfl
        have hFc := va_free (wc := [((ad 0), .inr (8, [.int 1, .int md_p, .int md_n, .int md_order, .int md_monomials, .ref (ad 1), .ref (ad 2), .int md_generators, .ref (ad 3), .ref (ad 4), .int md_found, .int md_upTo, .ref (ad 5), .ref (ad 6), .ref (ad 7), .ref (ad 8), .int md_members, .int md_provedNow])), ((ad 1), .inl (cs 0, 126, .inl md_mono)), ((ad 2), .inl (cs 0, 126, .inl md_degree)), ((ad 4), .inl (cs 0, 126, .inl md_hand))]) hD hS hA [0, 1, 2, 3] rfl
        refine va_callv (va_runV (As := [.int p0, .int p1, .int p2]) (rest := []) ⟨hx, hb, hml, hown, hts⟩ (c_md_fresh l dC dI cs ad  H.size 1 md_p md_n md_order md_monomials md_generators md_found md_upTo md_members md_provedNow md_mono md_degree md_hand p0 p1 p2 _ hv) (cwV 3 hts (gd_V kw_600 kw_601 kw_17 kw_41 kw_602) rfl rfl rfl (by decide +kernel) ⟨Nat.le_of_ble_eq_true rfl, Nat.le_of_ble_eq_true rfl⟩) ⟨fun a U g mk q => by obtain ⟨q0, q1, qP, qK, qD⟩ := q; exact ⟨q0, q1, qP, qK.call, qD⟩, va_recv hK hPc (ci := 8) (q0 := 0) rfl rfl, fun U hU hW => ⟨rfl, by rw [hU], by rw [hU]; exact hPc, vwK.warm hW ⟨hK, hN⟩, hDc.weaken (fun _ _ _ _ => trivial)⟩⟩ rfl rfl hl.1 rfl (lv_room (Nat.le_of_ble_eq_true rfl)) d_md_field_46 ⟨Nat.zero_le _, Nat.zero_le _⟩) hS (fun q _ h => hFc q h) hFc (fun u t H1 locs1 ht hvm hw hB hz1 hk1 hS => ?_)
        obtain ⟨md_p_17, md_n_18, md_order_19, md_monomials_20, md_generators_21, md_found_22, md_mono_23, md_degree_24, md_hand_25⟩ := u
        obtain ⟨hP1, hD1⟩ := hB
        rw [ht] at hP1
        obtain ⟨hP, hD⟩ := va_join (wr := []) (w1 := [((ad 0), .inr (8, [.int 1, .int md_p_17, .int md_n_18, .int md_order_19, .int md_monomials_20, .ref (ad 1), .ref (ad 2), .int md_generators_21, .ref (ad 3), .ref (ad 4), .int md_found_22, .int md_upTo, .ref (ad 5), .ref (ad 6), .ref (ad 7), .ref (ad 8), .int md_members, .int md_provedNow])), ((ad 1), .inl (cs 0, 126, .inl md_mono_23)), ((ad 2), .inl (cs 0, 126, .inl md_degree_24)), ((ad 4), .inl (cs 0, 126, .inl md_hand_25))]) hP hD [0, 1, 2, 3] [] rfl rfl (by decide) (by decide) hk1 hFc hP1 hD1
        generalize H1 = H at hP hS ⊢
        generalize locs1 = locs at hS ⊢
        have hP : va_P (dC, dI) vwCl [((ad 0), .inr (8, [.int 1, .int md_p_17, .int md_n_18, .int md_order_19, .int md_monomials_20, .ref (ad 1), .ref (ad 2), .int md_generators_21, .ref (ad 3), .ref (ad 4), .int md_found_22, .int md_upTo, .ref (ad 5), .ref (ad 6), .ref (ad 7), .ref (ad 8), .int md_members, .int md_provedNow])), ((ad 1), .inl (cs 0, 126, .inl md_mono_23)), ((ad 2), .inl (cs 0, 126, .inl md_degree_24)), ((ad 4), .inl (cs 0, 126, .inl md_hand_25))] H := hP
        have hD : va_D A [((ad 0), .inr (8, [.int 1, .int md_p_17, .int md_n_18, .int md_order_19, .int md_monomials_20, .ref (ad 1), .ref (ad 2), .int md_generators_21, .ref (ad 3), .ref (ad 4), .int md_found_22, .int md_upTo, .ref (ad 5), .ref (ad 6), .ref (ad 7), .ref (ad 8), .int md_members, .int md_provedNow])), ((ad 1), .inl (cs 0, 126, .inl md_mono_23)), ((ad 2), .inl (cs 0, 126, .inl md_degree_24)), ((ad 4), .inl (cs 0, 126, .inl md_hand_25))] := hD
        have hv := hw
        try dsimp only at hv
        have hP9 := hP.sub (ws' := [((ad 0), .inr (8, [.int 1, .int md_p_17, .int md_n_18, .int md_order_19, .int md_monomials_20, .ref (ad 1), .ref (ad 2), .int md_generators_21, .ref (ad 3), .ref (ad 4), .int md_found_22, .int md_upTo, .ref (ad 5), .ref (ad 6), .ref (ad 7), .ref (ad 8), .int md_members, .int md_provedNow])), ((ad 1), .inl (cs 0, 126, .inl md_mono_23)), ((ad 2), .inl (cs 0, 126, .inl md_degree_24)), ((ad 4), .inl (cs 0, 126, .inl md_hand_25))]) [0, 1, 2, 3] rfl
        have hD9 := hD.sub (ws' := [((ad 0), .inr (8, [.int 1, .int md_p_17, .int md_n_18, .int md_order_19, .int md_monomials_20, .ref (ad 1), .ref (ad 2), .int md_generators_21, .ref (ad 3), .ref (ad 4), .int md_found_22, .int md_upTo, .ref (ad 5), .ref (ad 6), .ref (ad 7), .ref (ad 8), .int md_members, .int md_provedNow])), ((ad 1), .inl (cs 0, 126, .inl md_mono_23)), ((ad 2), .inl (cs 0, 126, .inl md_degree_24)), ((ad 4), .inl (cs 0, 126, .inl md_hand_25))]) [0, 1, 2, 3] (by decide) rfl
        exact W.vret hx hb hr (fun t ht hW => ⟨⟨(1, md_p_17, md_n_18, md_order_19, md_monomials_20, md_generators_21, md_found_22, md_mono_23, md_degree_24, md_hand_25), rfl, hv, by rw [ht]; exact hP9, hD9⟩, hS.F ht⟩) hS.2.2 d_md_field_49
    · have hv := hv.2 c_14
      refine lv_iload_n hx hb d_md_field_13 rfl (lv_at hl 2 rfl) ?_
      refine lv_iconst (v := 4) hx hb d_md_field_14 (by decide) ?_
      refine lv_icmp_gt (tgt := 27) hx hb d_md_field_15 (by decide) (fun c_26 => ?_) (fun c_26 => ?_)
      · have hv := hv.1 c_26
        refine lv_iconst (v := 1) hx hb d_md_field_27 (by decide) ?_
        refine lv_goto (tgt := 32) hx hb d_md_field_28 (by decide) ?_
        refine va_put (D := (dC, dI)) (ci := 8) (v := .int 1) (ty := .int) (C := R_md) (T := F_md) (N := 18) hx hb hts in_md t_md t_md_ok n_md hown hK hP hD hS 0 rfl rfl 0 (by decide) (hts _ kw_618) (fun _ h9 => h9) rfl (by decide +kernel) rfl rfl (Nat.le_of_ble_eq_true rfl) d_md_field_32 (fun H locs hP hD hS => ?_)
        have hP : va_P (dC, dI) vwCl [((ad 0), .inr (8, [.int 1, .int md_p, .int md_n, .int md_order, .int md_monomials, .ref (ad 1), .ref (ad 2), .int md_generators, .ref (ad 3), .ref (ad 4), .int md_found, .int md_upTo, .ref (ad 5), .ref (ad 6), .ref (ad 7), .ref (ad 8), .int md_members, .int md_provedNow])), ((ad 1), .inl (cs 0, 126, .inl md_mono)), ((ad 2), .inl (cs 0, 126, .inl md_degree)), ((ad 4), .inl (cs 0, 126, .inl md_hand))] H := hP
        have hD : va_D A [((ad 0), .inr (8, [.int 1, .int md_p, .int md_n, .int md_order, .int md_monomials, .ref (ad 1), .ref (ad 2), .int md_generators, .ref (ad 3), .ref (ad 4), .int md_found, .int md_upTo, .ref (ad 5), .ref (ad 6), .ref (ad 7), .ref (ad 8), .int md_members, .int md_provedNow])), ((ad 1), .inl (cs 0, 126, .inl md_mono)), ((ad 2), .inl (cs 0, 126, .inl md_degree)), ((ad 4), .inl (cs 0, 126, .inl md_hand))] := hD
        refine lv_aload_n hx hb d_md_field_35 rfl (lv_at hl 0 rfl) ?_
        refine va_get (D := (dC, dI)) (ci := 8) (v := .int 1) (C := R_md) (T := F_md) (N := 18) hx hb hts in_md hown hK hP 0 rfl rfl 0 (by decide) (hts _ kw_618) (fun _ h9 => h9) rfl d_md_field_36 ?_
        refine lv_if_ne (tgt := 49) hx hb d_md_field_39 (by decide) (fun c_28 => ?_) (fun c_28 => ?_)
        · have hv := hv.1 c_28
          have hP9 := hP.sub (ws' := [((ad 0), .inr (8, [.int 1, .int md_p, .int md_n, .int md_order, .int md_monomials, .ref (ad 1), .ref (ad 2), .int md_generators, .ref (ad 3), .ref (ad 4), .int md_found, .int md_upTo, .ref (ad 5), .ref (ad 6), .ref (ad 7), .ref (ad 8), .int md_members, .int md_provedNow])), ((ad 1), .inl (cs 0, 126, .inl md_mono)), ((ad 2), .inl (cs 0, 126, .inl md_degree)), ((ad 4), .inl (cs 0, 126, .inl md_hand))]) [0, 1, 2, 3] rfl
          have hD9 := hD.sub (ws' := [((ad 0), .inr (8, [.int 1, .int md_p, .int md_n, .int md_order, .int md_monomials, .ref (ad 1), .ref (ad 2), .int md_generators, .ref (ad 3), .ref (ad 4), .int md_found, .int md_upTo, .ref (ad 5), .ref (ad 6), .ref (ad 7), .ref (ad 8), .int md_members, .int md_provedNow])), ((ad 1), .inl (cs 0, 126, .inl md_mono)), ((ad 2), .inl (cs 0, 126, .inl md_degree)), ((ad 4), .inl (cs 0, 126, .inl md_hand))]) [0, 1, 2, 3] (by decide) rfl
          exact W.vret hx hb hr (fun t ht hW => ⟨⟨(1, md_p, md_n, md_order, md_monomials, md_generators, md_found, md_mono, md_degree, md_hand), rfl, hv, by rw [ht]; exact hP9, hD9⟩, hS.F ht⟩) hS.2.2 d_md_field_49
        · have hv := hv.2 c_28
          refine lv_aload_n hx hb d_md_field_42 rfl (lv_at hl 0 rfl) ?_
          refine lv_iload_n hx hb d_md_field_43 rfl (lv_at hl 1 rfl) ?_
          refine lv_iload_n hx hb d_md_field_44 rfl (lv_at hl 2 rfl) ?_
          refine lv_iload_n hx hb d_md_field_45 rfl (lv_at hl 3 rfl) ?_
          have hPc := hP.sub (ws' := [((ad 0), .inr (8, [.int 1, .int md_p, .int md_n, .int md_order, .int md_monomials, .ref (ad 1), .ref (ad 2), .int md_generators, .ref (ad 3), .ref (ad 4), .int md_found, .int md_upTo, .ref (ad 5), .ref (ad 6), .ref (ad 7), .ref (ad 8), .int md_members, .int md_provedNow])), ((ad 1), .inl (cs 0, 126, .inl md_mono)), ((ad 2), .inl (cs 0, 126, .inl md_degree)), ((ad 4), .inl (cs 0, 126, .inl md_hand))]) [0, 1, 2, 3] rfl
          have hDc := hD.sub (ws' := [((ad 0), .inr (8, [.int 1, .int md_p, .int md_n, .int md_order, .int md_monomials, .ref (ad 1), .ref (ad 2), .int md_generators, .ref (ad 3), .ref (ad 4), .int md_found, .int md_upTo, .ref (ad 5), .ref (ad 6), .ref (ad 7), .ref (ad 8), .int md_members, .int md_provedNow])), ((ad 1), .inl (cs 0, 126, .inl md_mono)), ((ad 2), .inl (cs 0, 126, .inl md_degree)), ((ad 4), .inl (cs 0, 126, .inl md_hand))]) [0, 1, 2, 3] (by decide) rfl
          have hFc := va_free (wc := [((ad 0), .inr (8, [.int 1, .int md_p, .int md_n, .int md_order, .int md_monomials, .ref (ad 1), .ref (ad 2), .int md_generators, .ref (ad 3), .ref (ad 4), .int md_found, .int md_upTo, .ref (ad 5), .ref (ad 6), .ref (ad 7), .ref (ad 8), .int md_members, .int md_provedNow])), ((ad 1), .inl (cs 0, 126, .inl md_mono)), ((ad 2), .inl (cs 0, 126, .inl md_degree)), ((ad 4), .inl (cs 0, 126, .inl md_hand))]) hD hS hA [0, 1, 2, 3] rfl
          refine va_callv (va_runV (As := [.int p0, .int p1, .int p2]) (rest := []) ⟨hx, hb, hml, hown, hts⟩ (c_md_fresh l dC dI cs ad  H.size 1 md_p md_n md_order md_monomials md_generators md_found md_upTo md_members md_provedNow md_mono md_degree md_hand p0 p1 p2 _ hv) (cwV 3 hts (gd_V kw_600 kw_601 kw_17 kw_41 kw_602) rfl rfl rfl (by decide +kernel) ⟨Nat.le_of_ble_eq_true rfl, Nat.le_of_ble_eq_true rfl⟩) ⟨fun a U g mk q => by obtain ⟨q0, q1, qP, qK, qD⟩ := q; exact ⟨q0, q1, qP, qK.call, qD⟩, va_recv hK hPc (ci := 8) (q0 := 0) rfl rfl, fun U hU hW => ⟨rfl, by rw [hU], by rw [hU]; exact hPc, vwK.warm hW ⟨hK, hN⟩, hDc.weaken (fun _ _ _ _ => trivial)⟩⟩ rfl rfl hl.1 rfl (lv_room (Nat.le_of_ble_eq_true rfl)) d_md_field_46 ⟨Nat.zero_le _, Nat.zero_le _⟩) hS (fun q _ h => hFc q h) hFc (fun u t H1 locs1 ht hvm hw hB hz1 hk1 hS => ?_)
          obtain ⟨md_p_29, md_n_30, md_order_31, md_monomials_32, md_generators_33, md_found_34, md_mono_35, md_degree_36, md_hand_37⟩ := u
          obtain ⟨hP1, hD1⟩ := hB
          rw [ht] at hP1
          obtain ⟨hP, hD⟩ := va_join (wr := []) (w1 := [((ad 0), .inr (8, [.int 1, .int md_p_29, .int md_n_30, .int md_order_31, .int md_monomials_32, .ref (ad 1), .ref (ad 2), .int md_generators_33, .ref (ad 3), .ref (ad 4), .int md_found_34, .int md_upTo, .ref (ad 5), .ref (ad 6), .ref (ad 7), .ref (ad 8), .int md_members, .int md_provedNow])), ((ad 1), .inl (cs 0, 126, .inl md_mono_35)), ((ad 2), .inl (cs 0, 126, .inl md_degree_36)), ((ad 4), .inl (cs 0, 126, .inl md_hand_37))]) hP hD [0, 1, 2, 3] [] rfl rfl (by decide) (by decide) hk1 hFc hP1 hD1
          generalize H1 = H at hP hS ⊢
          generalize locs1 = locs at hS ⊢
          have hP : va_P (dC, dI) vwCl [((ad 0), .inr (8, [.int 1, .int md_p_29, .int md_n_30, .int md_order_31, .int md_monomials_32, .ref (ad 1), .ref (ad 2), .int md_generators_33, .ref (ad 3), .ref (ad 4), .int md_found_34, .int md_upTo, .ref (ad 5), .ref (ad 6), .ref (ad 7), .ref (ad 8), .int md_members, .int md_provedNow])), ((ad 1), .inl (cs 0, 126, .inl md_mono_35)), ((ad 2), .inl (cs 0, 126, .inl md_degree_36)), ((ad 4), .inl (cs 0, 126, .inl md_hand_37))] H := hP
          have hD : va_D A [((ad 0), .inr (8, [.int 1, .int md_p_29, .int md_n_30, .int md_order_31, .int md_monomials_32, .ref (ad 1), .ref (ad 2), .int md_generators_33, .ref (ad 3), .ref (ad 4), .int md_found_34, .int md_upTo, .ref (ad 5), .ref (ad 6), .ref (ad 7), .ref (ad 8), .int md_members, .int md_provedNow])), ((ad 1), .inl (cs 0, 126, .inl md_mono_35)), ((ad 2), .inl (cs 0, 126, .inl md_degree_36)), ((ad 4), .inl (cs 0, 126, .inl md_hand_37))] := hD
          have hv := hw
          try dsimp only at hv
          have hP9 := hP.sub (ws' := [((ad 0), .inr (8, [.int 1, .int md_p_29, .int md_n_30, .int md_order_31, .int md_monomials_32, .ref (ad 1), .ref (ad 2), .int md_generators_33, .ref (ad 3), .ref (ad 4), .int md_found_34, .int md_upTo, .ref (ad 5), .ref (ad 6), .ref (ad 7), .ref (ad 8), .int md_members, .int md_provedNow])), ((ad 1), .inl (cs 0, 126, .inl md_mono_35)), ((ad 2), .inl (cs 0, 126, .inl md_degree_36)), ((ad 4), .inl (cs 0, 126, .inl md_hand_37))]) [0, 1, 2, 3] rfl
          have hD9 := hD.sub (ws' := [((ad 0), .inr (8, [.int 1, .int md_p_29, .int md_n_30, .int md_order_31, .int md_monomials_32, .ref (ad 1), .ref (ad 2), .int md_generators_33, .ref (ad 3), .ref (ad 4), .int md_found_34, .int md_upTo, .ref (ad 5), .ref (ad 6), .ref (ad 7), .ref (ad 8), .int md_members, .int md_provedNow])), ((ad 1), .inl (cs 0, 126, .inl md_mono_35)), ((ad 2), .inl (cs 0, 126, .inl md_degree_36)), ((ad 4), .inl (cs 0, 126, .inl md_hand_37))]) [0, 1, 2, 3] (by decide) rfl
          exact W.vret hx hb hr (fun t ht hW => ⟨⟨(1, md_p_29, md_n_30, md_order_31, md_monomials_32, md_generators_33, md_found_34, md_mono_35, md_degree_36, md_hand_37), rfl, hv, by rw [ht]; exact hP9, hD9⟩, hS.F ht⟩) hS.2.2 d_md_field_49
      · have hv := hv.2 c_26
        refine lv_iload_n hx hb d_md_field_18 rfl (lv_at hl 3 rfl) ?_
        refine lv_if_lt (tgt := 27) hx hb d_md_field_19 (by decide) (fun c_38 => ?_) (fun c_38 => ?_)
        · have hv := hv.1 c_38
          refine lv_iconst (v := 1) hx hb d_md_field_27 (by decide) ?_
          refine lv_goto (tgt := 32) hx hb d_md_field_28 (by decide) ?_
          refine va_put (D := (dC, dI)) (ci := 8) (v := .int 1) (ty := .int) (C := R_md) (T := F_md) (N := 18) hx hb hts in_md t_md t_md_ok n_md hown hK hP hD hS 0 rfl rfl 0 (by decide) (hts _ kw_618) (fun _ h9 => h9) rfl (by decide +kernel) rfl rfl (Nat.le_of_ble_eq_true rfl) d_md_field_32 (fun H locs hP hD hS => ?_)
          have hP : va_P (dC, dI) vwCl [((ad 0), .inr (8, [.int 1, .int md_p, .int md_n, .int md_order, .int md_monomials, .ref (ad 1), .ref (ad 2), .int md_generators, .ref (ad 3), .ref (ad 4), .int md_found, .int md_upTo, .ref (ad 5), .ref (ad 6), .ref (ad 7), .ref (ad 8), .int md_members, .int md_provedNow])), ((ad 1), .inl (cs 0, 126, .inl md_mono)), ((ad 2), .inl (cs 0, 126, .inl md_degree)), ((ad 4), .inl (cs 0, 126, .inl md_hand))] H := hP
          have hD : va_D A [((ad 0), .inr (8, [.int 1, .int md_p, .int md_n, .int md_order, .int md_monomials, .ref (ad 1), .ref (ad 2), .int md_generators, .ref (ad 3), .ref (ad 4), .int md_found, .int md_upTo, .ref (ad 5), .ref (ad 6), .ref (ad 7), .ref (ad 8), .int md_members, .int md_provedNow])), ((ad 1), .inl (cs 0, 126, .inl md_mono)), ((ad 2), .inl (cs 0, 126, .inl md_degree)), ((ad 4), .inl (cs 0, 126, .inl md_hand))] := hD
          refine lv_aload_n hx hb d_md_field_35 rfl (lv_at hl 0 rfl) ?_
          refine va_get (D := (dC, dI)) (ci := 8) (v := .int 1) (C := R_md) (T := F_md) (N := 18) hx hb hts in_md hown hK hP 0 rfl rfl 0 (by decide) (hts _ kw_618) (fun _ h9 => h9) rfl d_md_field_36 ?_
          refine lv_if_ne (tgt := 49) hx hb d_md_field_39 (by decide) (fun c_40 => ?_) (fun c_40 => ?_)
          · have hv := hv.1 c_40
            have hP9 := hP.sub (ws' := [((ad 0), .inr (8, [.int 1, .int md_p, .int md_n, .int md_order, .int md_monomials, .ref (ad 1), .ref (ad 2), .int md_generators, .ref (ad 3), .ref (ad 4), .int md_found, .int md_upTo, .ref (ad 5), .ref (ad 6), .ref (ad 7), .ref (ad 8), .int md_members, .int md_provedNow])), ((ad 1), .inl (cs 0, 126, .inl md_mono)), ((ad 2), .inl (cs 0, 126, .inl md_degree)), ((ad 4), .inl (cs 0, 126, .inl md_hand))]) [0, 1, 2, 3] rfl
            have hD9 := hD.sub (ws' := [((ad 0), .inr (8, [.int 1, .int md_p, .int md_n, .int md_order, .int md_monomials, .ref (ad 1), .ref (ad 2), .int md_generators, .ref (ad 3), .ref (ad 4), .int md_found, .int md_upTo, .ref (ad 5), .ref (ad 6), .ref (ad 7), .ref (ad 8), .int md_members, .int md_provedNow])), ((ad 1), .inl (cs 0, 126, .inl md_mono)), ((ad 2), .inl (cs 0, 126, .inl md_degree)), ((ad 4), .inl (cs 0, 126, .inl md_hand))]) [0, 1, 2, 3] (by decide) rfl
            exact W.vret hx hb hr (fun t ht hW => ⟨⟨(1, md_p, md_n, md_order, md_monomials, md_generators, md_found, md_mono, md_degree, md_hand), rfl, hv, by rw [ht]; exact hP9, hD9⟩, hS.F ht⟩) hS.2.2 d_md_field_49
          · have hv := hv.2 c_40
            refine lv_aload_n hx hb d_md_field_42 rfl (lv_at hl 0 rfl) ?_
            refine lv_iload_n hx hb d_md_field_43 rfl (lv_at hl 1 rfl) ?_
            refine lv_iload_n hx hb d_md_field_44 rfl (lv_at hl 2 rfl) ?_
            refine lv_iload_n hx hb d_md_field_45 rfl (lv_at hl 3 rfl) ?_
            have hPc := hP.sub (ws' := [((ad 0), .inr (8, [.int 1, .int md_p, .int md_n, .int md_order, .int md_monomials, .ref (ad 1), .ref (ad 2), .int md_generators, .ref (ad 3), .ref (ad 4), .int md_found, .int md_upTo, .ref (ad 5), .ref (ad 6), .ref (ad 7), .ref (ad 8), .int md_members, .int md_provedNow])), ((ad 1), .inl (cs 0, 126, .inl md_mono)), ((ad 2), .inl (cs 0, 126, .inl md_degree)), ((ad 4), .inl (cs 0, 126, .inl md_hand))]) [0, 1, 2, 3] rfl
            have hDc := hD.sub (ws' := [((ad 0), .inr (8, [.int 1, .int md_p, .int md_n, .int md_order, .int md_monomials, .ref (ad 1), .ref (ad 2), .int md_generators, .ref (ad 3), .ref (ad 4), .int md_found, .int md_upTo, .ref (ad 5), .ref (ad 6), .ref (ad 7), .ref (ad 8), .int md_members, .int md_provedNow])), ((ad 1), .inl (cs 0, 126, .inl md_mono)), ((ad 2), .inl (cs 0, 126, .inl md_degree)), ((ad 4), .inl (cs 0, 126, .inl md_hand))]) [0, 1, 2, 3] (by decide) rfl
            have hFc := va_free (wc := [((ad 0), .inr (8, [.int 1, .int md_p, .int md_n, .int md_order, .int md_monomials, .ref (ad 1), .ref (ad 2), .int md_generators, .ref (ad 3), .ref (ad 4), .int md_found, .int md_upTo, .ref (ad 5), .ref (ad 6), .ref (ad 7), .ref (ad 8), .int md_members, .int md_provedNow])), ((ad 1), .inl (cs 0, 126, .inl md_mono)), ((ad 2), .inl (cs 0, 126, .inl md_degree)), ((ad 4), .inl (cs 0, 126, .inl md_hand))]) hD hS hA [0, 1, 2, 3] rfl
            refine va_callv (va_runV (As := [.int p0, .int p1, .int p2]) (rest := []) ⟨hx, hb, hml, hown, hts⟩ (c_md_fresh l dC dI cs ad  H.size 1 md_p md_n md_order md_monomials md_generators md_found md_upTo md_members md_provedNow md_mono md_degree md_hand p0 p1 p2 _ hv) (cwV 3 hts (gd_V kw_600 kw_601 kw_17 kw_41 kw_602) rfl rfl rfl (by decide +kernel) ⟨Nat.le_of_ble_eq_true rfl, Nat.le_of_ble_eq_true rfl⟩) ⟨fun a U g mk q => by obtain ⟨q0, q1, qP, qK, qD⟩ := q; exact ⟨q0, q1, qP, qK.call, qD⟩, va_recv hK hPc (ci := 8) (q0 := 0) rfl rfl, fun U hU hW => ⟨rfl, by rw [hU], by rw [hU]; exact hPc, vwK.warm hW ⟨hK, hN⟩, hDc.weaken (fun _ _ _ _ => trivial)⟩⟩ rfl rfl hl.1 rfl (lv_room (Nat.le_of_ble_eq_true rfl)) d_md_field_46 ⟨Nat.zero_le _, Nat.zero_le _⟩) hS (fun q _ h => hFc q h) hFc (fun u t H1 locs1 ht hvm hw hB hz1 hk1 hS => ?_)
            obtain ⟨md_p_41, md_n_42, md_order_43, md_monomials_44, md_generators_45, md_found_46, md_mono_47, md_degree_48, md_hand_49⟩ := u
            obtain ⟨hP1, hD1⟩ := hB
            rw [ht] at hP1
            obtain ⟨hP, hD⟩ := va_join (wr := []) (w1 := [((ad 0), .inr (8, [.int 1, .int md_p_41, .int md_n_42, .int md_order_43, .int md_monomials_44, .ref (ad 1), .ref (ad 2), .int md_generators_45, .ref (ad 3), .ref (ad 4), .int md_found_46, .int md_upTo, .ref (ad 5), .ref (ad 6), .ref (ad 7), .ref (ad 8), .int md_members, .int md_provedNow])), ((ad 1), .inl (cs 0, 126, .inl md_mono_47)), ((ad 2), .inl (cs 0, 126, .inl md_degree_48)), ((ad 4), .inl (cs 0, 126, .inl md_hand_49))]) hP hD [0, 1, 2, 3] [] rfl rfl (by decide) (by decide) hk1 hFc hP1 hD1
            generalize H1 = H at hP hS ⊢
            generalize locs1 = locs at hS ⊢
            have hP : va_P (dC, dI) vwCl [((ad 0), .inr (8, [.int 1, .int md_p_41, .int md_n_42, .int md_order_43, .int md_monomials_44, .ref (ad 1), .ref (ad 2), .int md_generators_45, .ref (ad 3), .ref (ad 4), .int md_found_46, .int md_upTo, .ref (ad 5), .ref (ad 6), .ref (ad 7), .ref (ad 8), .int md_members, .int md_provedNow])), ((ad 1), .inl (cs 0, 126, .inl md_mono_47)), ((ad 2), .inl (cs 0, 126, .inl md_degree_48)), ((ad 4), .inl (cs 0, 126, .inl md_hand_49))] H := hP
            have hD : va_D A [((ad 0), .inr (8, [.int 1, .int md_p_41, .int md_n_42, .int md_order_43, .int md_monomials_44, .ref (ad 1), .ref (ad 2), .int md_generators_45, .ref (ad 3), .ref (ad 4), .int md_found_46, .int md_upTo, .ref (ad 5), .ref (ad 6), .ref (ad 7), .ref (ad 8), .int md_members, .int md_provedNow])), ((ad 1), .inl (cs 0, 126, .inl md_mono_47)), ((ad 2), .inl (cs 0, 126, .inl md_degree_48)), ((ad 4), .inl (cs 0, 126, .inl md_hand_49))] := hD
            have hv := hw
            try dsimp only at hv
            have hP9 := hP.sub (ws' := [((ad 0), .inr (8, [.int 1, .int md_p_41, .int md_n_42, .int md_order_43, .int md_monomials_44, .ref (ad 1), .ref (ad 2), .int md_generators_45, .ref (ad 3), .ref (ad 4), .int md_found_46, .int md_upTo, .ref (ad 5), .ref (ad 6), .ref (ad 7), .ref (ad 8), .int md_members, .int md_provedNow])), ((ad 1), .inl (cs 0, 126, .inl md_mono_47)), ((ad 2), .inl (cs 0, 126, .inl md_degree_48)), ((ad 4), .inl (cs 0, 126, .inl md_hand_49))]) [0, 1, 2, 3] rfl
            have hD9 := hD.sub (ws' := [((ad 0), .inr (8, [.int 1, .int md_p_41, .int md_n_42, .int md_order_43, .int md_monomials_44, .ref (ad 1), .ref (ad 2), .int md_generators_45, .ref (ad 3), .ref (ad 4), .int md_found_46, .int md_upTo, .ref (ad 5), .ref (ad 6), .ref (ad 7), .ref (ad 8), .int md_members, .int md_provedNow])), ((ad 1), .inl (cs 0, 126, .inl md_mono_47)), ((ad 2), .inl (cs 0, 126, .inl md_degree_48)), ((ad 4), .inl (cs 0, 126, .inl md_hand_49))]) [0, 1, 2, 3] (by decide) rfl
            exact W.vret hx hb hr (fun t ht hW => ⟨⟨(1, md_p_41, md_n_42, md_order_43, md_monomials_44, md_generators_45, md_found_46, md_mono_47, md_degree_48, md_hand_49), rfl, hv, by rw [ht]; exact hP9, hD9⟩, hS.F ht⟩) hS.2.2 d_md_field_49
        · have hv := hv.2 c_38
          refine lv_iload_n hx hb d_md_field_22 rfl (lv_at hl 3 rfl) ?_
          refine lv_iconst (v := 1) hx hb d_md_field_23 (by decide) ?_
          refine lv_icmp_le (tgt := 31) hx hb d_md_field_24 (by decide) (fun c_50 => ?_) (fun c_50 => ?_)
          · have hv := hv.1 c_50
            refine lv_iconst (v := 0) hx hb d_md_field_31 (by decide) ?_
            refine va_put (D := (dC, dI)) (ci := 8) (v := .int 0) (ty := .int) (C := R_md) (T := F_md) (N := 18) hx hb hts in_md t_md t_md_ok n_md hown hK hP hD hS 0 rfl rfl 0 (by decide) (hts _ kw_618) (fun _ h9 => h9) rfl (by decide +kernel) rfl rfl (Nat.le_of_ble_eq_true rfl) d_md_field_32 (fun H locs hP hD hS => ?_)
            have hP : va_P (dC, dI) vwCl [((ad 0), .inr (8, [.int 0, .int md_p, .int md_n, .int md_order, .int md_monomials, .ref (ad 1), .ref (ad 2), .int md_generators, .ref (ad 3), .ref (ad 4), .int md_found, .int md_upTo, .ref (ad 5), .ref (ad 6), .ref (ad 7), .ref (ad 8), .int md_members, .int md_provedNow])), ((ad 1), .inl (cs 0, 126, .inl md_mono)), ((ad 2), .inl (cs 0, 126, .inl md_degree)), ((ad 4), .inl (cs 0, 126, .inl md_hand))] H := hP
            have hD : va_D A [((ad 0), .inr (8, [.int 0, .int md_p, .int md_n, .int md_order, .int md_monomials, .ref (ad 1), .ref (ad 2), .int md_generators, .ref (ad 3), .ref (ad 4), .int md_found, .int md_upTo, .ref (ad 5), .ref (ad 6), .ref (ad 7), .ref (ad 8), .int md_members, .int md_provedNow])), ((ad 1), .inl (cs 0, 126, .inl md_mono)), ((ad 2), .inl (cs 0, 126, .inl md_degree)), ((ad 4), .inl (cs 0, 126, .inl md_hand))] := hD
            refine lv_aload_n hx hb d_md_field_35 rfl (lv_at hl 0 rfl) ?_
            refine va_get (D := (dC, dI)) (ci := 8) (v := .int 0) (C := R_md) (T := F_md) (N := 18) hx hb hts in_md hown hK hP 0 rfl rfl 0 (by decide) (hts _ kw_618) (fun _ h9 => h9) rfl d_md_field_36 ?_
            refine lv_if_ne (tgt := 49) hx hb d_md_field_39 (by decide) (fun c_52 => ?_) (fun c_52 => ?_)
            · have hv := hv.1 c_52
              have hP9 := hP.sub (ws' := [((ad 0), .inr (8, [.int 0, .int md_p, .int md_n, .int md_order, .int md_monomials, .ref (ad 1), .ref (ad 2), .int md_generators, .ref (ad 3), .ref (ad 4), .int md_found, .int md_upTo, .ref (ad 5), .ref (ad 6), .ref (ad 7), .ref (ad 8), .int md_members, .int md_provedNow])), ((ad 1), .inl (cs 0, 126, .inl md_mono)), ((ad 2), .inl (cs 0, 126, .inl md_degree)), ((ad 4), .inl (cs 0, 126, .inl md_hand))]) [0, 1, 2, 3] rfl
              have hD9 := hD.sub (ws' := [((ad 0), .inr (8, [.int 0, .int md_p, .int md_n, .int md_order, .int md_monomials, .ref (ad 1), .ref (ad 2), .int md_generators, .ref (ad 3), .ref (ad 4), .int md_found, .int md_upTo, .ref (ad 5), .ref (ad 6), .ref (ad 7), .ref (ad 8), .int md_members, .int md_provedNow])), ((ad 1), .inl (cs 0, 126, .inl md_mono)), ((ad 2), .inl (cs 0, 126, .inl md_degree)), ((ad 4), .inl (cs 0, 126, .inl md_hand))]) [0, 1, 2, 3] (by decide) rfl
              exact W.vret hx hb hr (fun t ht hW => ⟨⟨(0, md_p, md_n, md_order, md_monomials, md_generators, md_found, md_mono, md_degree, md_hand), rfl, hv, by rw [ht]; exact hP9, hD9⟩, hS.F ht⟩) hS.2.2 d_md_field_49
            · have hv := hv.2 c_52
              refine lv_aload_n hx hb d_md_field_42 rfl (lv_at hl 0 rfl) ?_
              refine lv_iload_n hx hb d_md_field_43 rfl (lv_at hl 1 rfl) ?_
              refine lv_iload_n hx hb d_md_field_44 rfl (lv_at hl 2 rfl) ?_
              refine lv_iload_n hx hb d_md_field_45 rfl (lv_at hl 3 rfl) ?_
              have hPc := hP.sub (ws' := [((ad 0), .inr (8, [.int 0, .int md_p, .int md_n, .int md_order, .int md_monomials, .ref (ad 1), .ref (ad 2), .int md_generators, .ref (ad 3), .ref (ad 4), .int md_found, .int md_upTo, .ref (ad 5), .ref (ad 6), .ref (ad 7), .ref (ad 8), .int md_members, .int md_provedNow])), ((ad 1), .inl (cs 0, 126, .inl md_mono)), ((ad 2), .inl (cs 0, 126, .inl md_degree)), ((ad 4), .inl (cs 0, 126, .inl md_hand))]) [0, 1, 2, 3] rfl
              have hDc := hD.sub (ws' := [((ad 0), .inr (8, [.int 0, .int md_p, .int md_n, .int md_order, .int md_monomials, .ref (ad 1), .ref (ad 2), .int md_generators, .ref (ad 3), .ref (ad 4), .int md_found, .int md_upTo, .ref (ad 5), .ref (ad 6), .ref (ad 7), .ref (ad 8), .int md_members, .int md_provedNow])), ((ad 1), .inl (cs 0, 126, .inl md_mono)), ((ad 2), .inl (cs 0, 126, .inl md_degree)), ((ad 4), .inl (cs 0, 126, .inl md_hand))]) [0, 1, 2, 3] (by decide) rfl
              have hFc := va_free (wc := [((ad 0), .inr (8, [.int 0, .int md_p, .int md_n, .int md_order, .int md_monomials, .ref (ad 1), .ref (ad 2), .int md_generators, .ref (ad 3), .ref (ad 4), .int md_found, .int md_upTo, .ref (ad 5), .ref (ad 6), .ref (ad 7), .ref (ad 8), .int md_members, .int md_provedNow])), ((ad 1), .inl (cs 0, 126, .inl md_mono)), ((ad 2), .inl (cs 0, 126, .inl md_degree)), ((ad 4), .inl (cs 0, 126, .inl md_hand))]) hD hS hA [0, 1, 2, 3] rfl
              refine va_callv (va_runV (As := [.int p0, .int p1, .int p2]) (rest := []) ⟨hx, hb, hml, hown, hts⟩ (c_md_fresh l dC dI cs ad  H.size 0 md_p md_n md_order md_monomials md_generators md_found md_upTo md_members md_provedNow md_mono md_degree md_hand p0 p1 p2 _ hv) (cwV 3 hts (gd_V kw_600 kw_601 kw_17 kw_41 kw_602) rfl rfl rfl (by decide +kernel) ⟨Nat.le_of_ble_eq_true rfl, Nat.le_of_ble_eq_true rfl⟩) ⟨fun a U g mk q => by obtain ⟨q0, q1, qP, qK, qD⟩ := q; exact ⟨q0, q1, qP, qK.call, qD⟩, va_recv hK hPc (ci := 8) (q0 := 0) rfl rfl, fun U hU hW => ⟨rfl, by rw [hU], by rw [hU]; exact hPc, vwK.warm hW ⟨hK, hN⟩, hDc.weaken (fun _ _ _ _ => trivial)⟩⟩ rfl rfl hl.1 rfl (lv_room (Nat.le_of_ble_eq_true rfl)) d_md_field_46 ⟨Nat.zero_le _, Nat.zero_le _⟩) hS (fun q _ h => hFc q h) hFc (fun u t H1 locs1 ht hvm hw hB hz1 hk1 hS => ?_)
              obtain ⟨md_p_53, md_n_54, md_order_55, md_monomials_56, md_generators_57, md_found_58, md_mono_59, md_degree_60, md_hand_61⟩ := u
              obtain ⟨hP1, hD1⟩ := hB
              rw [ht] at hP1
              obtain ⟨hP, hD⟩ := va_join (wr := []) (w1 := [((ad 0), .inr (8, [.int 0, .int md_p_53, .int md_n_54, .int md_order_55, .int md_monomials_56, .ref (ad 1), .ref (ad 2), .int md_generators_57, .ref (ad 3), .ref (ad 4), .int md_found_58, .int md_upTo, .ref (ad 5), .ref (ad 6), .ref (ad 7), .ref (ad 8), .int md_members, .int md_provedNow])), ((ad 1), .inl (cs 0, 126, .inl md_mono_59)), ((ad 2), .inl (cs 0, 126, .inl md_degree_60)), ((ad 4), .inl (cs 0, 126, .inl md_hand_61))]) hP hD [0, 1, 2, 3] [] rfl rfl (by decide) (by decide) hk1 hFc hP1 hD1
              generalize H1 = H at hP hS ⊢
              generalize locs1 = locs at hS ⊢
              have hP : va_P (dC, dI) vwCl [((ad 0), .inr (8, [.int 0, .int md_p_53, .int md_n_54, .int md_order_55, .int md_monomials_56, .ref (ad 1), .ref (ad 2), .int md_generators_57, .ref (ad 3), .ref (ad 4), .int md_found_58, .int md_upTo, .ref (ad 5), .ref (ad 6), .ref (ad 7), .ref (ad 8), .int md_members, .int md_provedNow])), ((ad 1), .inl (cs 0, 126, .inl md_mono_59)), ((ad 2), .inl (cs 0, 126, .inl md_degree_60)), ((ad 4), .inl (cs 0, 126, .inl md_hand_61))] H := hP
              have hD : va_D A [((ad 0), .inr (8, [.int 0, .int md_p_53, .int md_n_54, .int md_order_55, .int md_monomials_56, .ref (ad 1), .ref (ad 2), .int md_generators_57, .ref (ad 3), .ref (ad 4), .int md_found_58, .int md_upTo, .ref (ad 5), .ref (ad 6), .ref (ad 7), .ref (ad 8), .int md_members, .int md_provedNow])), ((ad 1), .inl (cs 0, 126, .inl md_mono_59)), ((ad 2), .inl (cs 0, 126, .inl md_degree_60)), ((ad 4), .inl (cs 0, 126, .inl md_hand_61))] := hD
              have hv := hw
              try dsimp only at hv
              have hP9 := hP.sub (ws' := [((ad 0), .inr (8, [.int 0, .int md_p_53, .int md_n_54, .int md_order_55, .int md_monomials_56, .ref (ad 1), .ref (ad 2), .int md_generators_57, .ref (ad 3), .ref (ad 4), .int md_found_58, .int md_upTo, .ref (ad 5), .ref (ad 6), .ref (ad 7), .ref (ad 8), .int md_members, .int md_provedNow])), ((ad 1), .inl (cs 0, 126, .inl md_mono_59)), ((ad 2), .inl (cs 0, 126, .inl md_degree_60)), ((ad 4), .inl (cs 0, 126, .inl md_hand_61))]) [0, 1, 2, 3] rfl
              have hD9 := hD.sub (ws' := [((ad 0), .inr (8, [.int 0, .int md_p_53, .int md_n_54, .int md_order_55, .int md_monomials_56, .ref (ad 1), .ref (ad 2), .int md_generators_57, .ref (ad 3), .ref (ad 4), .int md_found_58, .int md_upTo, .ref (ad 5), .ref (ad 6), .ref (ad 7), .ref (ad 8), .int md_members, .int md_provedNow])), ((ad 1), .inl (cs 0, 126, .inl md_mono_59)), ((ad 2), .inl (cs 0, 126, .inl md_degree_60)), ((ad 4), .inl (cs 0, 126, .inl md_hand_61))]) [0, 1, 2, 3] (by decide) rfl
              exact W.vret hx hb hr (fun t ht hW => ⟨⟨(0, md_p_53, md_n_54, md_order_55, md_monomials_56, md_generators_57, md_found_58, md_mono_59, md_degree_60, md_hand_61), rfl, hv, by rw [ht]; exact hP9, hD9⟩, hS.F ht⟩) hS.2.2 d_md_field_49
          · have hv := hv.2 c_50
            refine lv_iconst (v := 1) hx hb d_md_field_27 (by decide) ?_
            refine lv_goto (tgt := 32) hx hb d_md_field_28 (by decide) ?_
            refine va_put (D := (dC, dI)) (ci := 8) (v := .int 1) (ty := .int) (C := R_md) (T := F_md) (N := 18) hx hb hts in_md t_md t_md_ok n_md hown hK hP hD hS 0 rfl rfl 0 (by decide) (hts _ kw_618) (fun _ h9 => h9) rfl (by decide +kernel) rfl rfl (Nat.le_of_ble_eq_true rfl) d_md_field_32 (fun H locs hP hD hS => ?_)
            have hP : va_P (dC, dI) vwCl [((ad 0), .inr (8, [.int 1, .int md_p, .int md_n, .int md_order, .int md_monomials, .ref (ad 1), .ref (ad 2), .int md_generators, .ref (ad 3), .ref (ad 4), .int md_found, .int md_upTo, .ref (ad 5), .ref (ad 6), .ref (ad 7), .ref (ad 8), .int md_members, .int md_provedNow])), ((ad 1), .inl (cs 0, 126, .inl md_mono)), ((ad 2), .inl (cs 0, 126, .inl md_degree)), ((ad 4), .inl (cs 0, 126, .inl md_hand))] H := hP
            have hD : va_D A [((ad 0), .inr (8, [.int 1, .int md_p, .int md_n, .int md_order, .int md_monomials, .ref (ad 1), .ref (ad 2), .int md_generators, .ref (ad 3), .ref (ad 4), .int md_found, .int md_upTo, .ref (ad 5), .ref (ad 6), .ref (ad 7), .ref (ad 8), .int md_members, .int md_provedNow])), ((ad 1), .inl (cs 0, 126, .inl md_mono)), ((ad 2), .inl (cs 0, 126, .inl md_degree)), ((ad 4), .inl (cs 0, 126, .inl md_hand))] := hD
            refine lv_aload_n hx hb d_md_field_35 rfl (lv_at hl 0 rfl) ?_
            refine va_get (D := (dC, dI)) (ci := 8) (v := .int 1) (C := R_md) (T := F_md) (N := 18) hx hb hts in_md hown hK hP 0 rfl rfl 0 (by decide) (hts _ kw_618) (fun _ h9 => h9) rfl d_md_field_36 ?_
            refine lv_if_ne (tgt := 49) hx hb d_md_field_39 (by decide) (fun c_63 => ?_) (fun c_63 => ?_)
            · have hv := hv.1 c_63
              have hP9 := hP.sub (ws' := [((ad 0), .inr (8, [.int 1, .int md_p, .int md_n, .int md_order, .int md_monomials, .ref (ad 1), .ref (ad 2), .int md_generators, .ref (ad 3), .ref (ad 4), .int md_found, .int md_upTo, .ref (ad 5), .ref (ad 6), .ref (ad 7), .ref (ad 8), .int md_members, .int md_provedNow])), ((ad 1), .inl (cs 0, 126, .inl md_mono)), ((ad 2), .inl (cs 0, 126, .inl md_degree)), ((ad 4), .inl (cs 0, 126, .inl md_hand))]) [0, 1, 2, 3] rfl
              have hD9 := hD.sub (ws' := [((ad 0), .inr (8, [.int 1, .int md_p, .int md_n, .int md_order, .int md_monomials, .ref (ad 1), .ref (ad 2), .int md_generators, .ref (ad 3), .ref (ad 4), .int md_found, .int md_upTo, .ref (ad 5), .ref (ad 6), .ref (ad 7), .ref (ad 8), .int md_members, .int md_provedNow])), ((ad 1), .inl (cs 0, 126, .inl md_mono)), ((ad 2), .inl (cs 0, 126, .inl md_degree)), ((ad 4), .inl (cs 0, 126, .inl md_hand))]) [0, 1, 2, 3] (by decide) rfl
              exact W.vret hx hb hr (fun t ht hW => ⟨⟨(1, md_p, md_n, md_order, md_monomials, md_generators, md_found, md_mono, md_degree, md_hand), rfl, hv, by rw [ht]; exact hP9, hD9⟩, hS.F ht⟩) hS.2.2 d_md_field_49
            · have hv := hv.2 c_63
              refine lv_aload_n hx hb d_md_field_42 rfl (lv_at hl 0 rfl) ?_
              refine lv_iload_n hx hb d_md_field_43 rfl (lv_at hl 1 rfl) ?_
              refine lv_iload_n hx hb d_md_field_44 rfl (lv_at hl 2 rfl) ?_
              refine lv_iload_n hx hb d_md_field_45 rfl (lv_at hl 3 rfl) ?_
              have hPc := hP.sub (ws' := [((ad 0), .inr (8, [.int 1, .int md_p, .int md_n, .int md_order, .int md_monomials, .ref (ad 1), .ref (ad 2), .int md_generators, .ref (ad 3), .ref (ad 4), .int md_found, .int md_upTo, .ref (ad 5), .ref (ad 6), .ref (ad 7), .ref (ad 8), .int md_members, .int md_provedNow])), ((ad 1), .inl (cs 0, 126, .inl md_mono)), ((ad 2), .inl (cs 0, 126, .inl md_degree)), ((ad 4), .inl (cs 0, 126, .inl md_hand))]) [0, 1, 2, 3] rfl
              have hDc := hD.sub (ws' := [((ad 0), .inr (8, [.int 1, .int md_p, .int md_n, .int md_order, .int md_monomials, .ref (ad 1), .ref (ad 2), .int md_generators, .ref (ad 3), .ref (ad 4), .int md_found, .int md_upTo, .ref (ad 5), .ref (ad 6), .ref (ad 7), .ref (ad 8), .int md_members, .int md_provedNow])), ((ad 1), .inl (cs 0, 126, .inl md_mono)), ((ad 2), .inl (cs 0, 126, .inl md_degree)), ((ad 4), .inl (cs 0, 126, .inl md_hand))]) [0, 1, 2, 3] (by decide) rfl
              have hFc := va_free (wc := [((ad 0), .inr (8, [.int 1, .int md_p, .int md_n, .int md_order, .int md_monomials, .ref (ad 1), .ref (ad 2), .int md_generators, .ref (ad 3), .ref (ad 4), .int md_found, .int md_upTo, .ref (ad 5), .ref (ad 6), .ref (ad 7), .ref (ad 8), .int md_members, .int md_provedNow])), ((ad 1), .inl (cs 0, 126, .inl md_mono)), ((ad 2), .inl (cs 0, 126, .inl md_degree)), ((ad 4), .inl (cs 0, 126, .inl md_hand))]) hD hS hA [0, 1, 2, 3] rfl
              refine va_callv (va_runV (As := [.int p0, .int p1, .int p2]) (rest := []) ⟨hx, hb, hml, hown, hts⟩ (c_md_fresh l dC dI cs ad  H.size 1 md_p md_n md_order md_monomials md_generators md_found md_upTo md_members md_provedNow md_mono md_degree md_hand p0 p1 p2 _ hv) (cwV 3 hts (gd_V kw_600 kw_601 kw_17 kw_41 kw_602) rfl rfl rfl (by decide +kernel) ⟨Nat.le_of_ble_eq_true rfl, Nat.le_of_ble_eq_true rfl⟩) ⟨fun a U g mk q => by obtain ⟨q0, q1, qP, qK, qD⟩ := q; exact ⟨q0, q1, qP, qK.call, qD⟩, va_recv hK hPc (ci := 8) (q0 := 0) rfl rfl, fun U hU hW => ⟨rfl, by rw [hU], by rw [hU]; exact hPc, vwK.warm hW ⟨hK, hN⟩, hDc.weaken (fun _ _ _ _ => trivial)⟩⟩ rfl rfl hl.1 rfl (lv_room (Nat.le_of_ble_eq_true rfl)) d_md_field_46 ⟨Nat.zero_le _, Nat.zero_le _⟩) hS (fun q _ h => hFc q h) hFc (fun u t H1 locs1 ht hvm hw hB hz1 hk1 hS => ?_)
              obtain ⟨md_p_64, md_n_65, md_order_66, md_monomials_67, md_generators_68, md_found_69, md_mono_70, md_degree_71, md_hand_72⟩ := u
              obtain ⟨hP1, hD1⟩ := hB
              rw [ht] at hP1
              obtain ⟨hP, hD⟩ := va_join (wr := []) (w1 := [((ad 0), .inr (8, [.int 1, .int md_p_64, .int md_n_65, .int md_order_66, .int md_monomials_67, .ref (ad 1), .ref (ad 2), .int md_generators_68, .ref (ad 3), .ref (ad 4), .int md_found_69, .int md_upTo, .ref (ad 5), .ref (ad 6), .ref (ad 7), .ref (ad 8), .int md_members, .int md_provedNow])), ((ad 1), .inl (cs 0, 126, .inl md_mono_70)), ((ad 2), .inl (cs 0, 126, .inl md_degree_71)), ((ad 4), .inl (cs 0, 126, .inl md_hand_72))]) hP hD [0, 1, 2, 3] [] rfl rfl (by decide) (by decide) hk1 hFc hP1 hD1
              generalize H1 = H at hP hS ⊢
              generalize locs1 = locs at hS ⊢
              have hP : va_P (dC, dI) vwCl [((ad 0), .inr (8, [.int 1, .int md_p_64, .int md_n_65, .int md_order_66, .int md_monomials_67, .ref (ad 1), .ref (ad 2), .int md_generators_68, .ref (ad 3), .ref (ad 4), .int md_found_69, .int md_upTo, .ref (ad 5), .ref (ad 6), .ref (ad 7), .ref (ad 8), .int md_members, .int md_provedNow])), ((ad 1), .inl (cs 0, 126, .inl md_mono_70)), ((ad 2), .inl (cs 0, 126, .inl md_degree_71)), ((ad 4), .inl (cs 0, 126, .inl md_hand_72))] H := hP
              have hD : va_D A [((ad 0), .inr (8, [.int 1, .int md_p_64, .int md_n_65, .int md_order_66, .int md_monomials_67, .ref (ad 1), .ref (ad 2), .int md_generators_68, .ref (ad 3), .ref (ad 4), .int md_found_69, .int md_upTo, .ref (ad 5), .ref (ad 6), .ref (ad 7), .ref (ad 8), .int md_members, .int md_provedNow])), ((ad 1), .inl (cs 0, 126, .inl md_mono_70)), ((ad 2), .inl (cs 0, 126, .inl md_degree_71)), ((ad 4), .inl (cs 0, 126, .inl md_hand_72))] := hD
              have hv := hw
              try dsimp only at hv
              have hP9 := hP.sub (ws' := [((ad 0), .inr (8, [.int 1, .int md_p_64, .int md_n_65, .int md_order_66, .int md_monomials_67, .ref (ad 1), .ref (ad 2), .int md_generators_68, .ref (ad 3), .ref (ad 4), .int md_found_69, .int md_upTo, .ref (ad 5), .ref (ad 6), .ref (ad 7), .ref (ad 8), .int md_members, .int md_provedNow])), ((ad 1), .inl (cs 0, 126, .inl md_mono_70)), ((ad 2), .inl (cs 0, 126, .inl md_degree_71)), ((ad 4), .inl (cs 0, 126, .inl md_hand_72))]) [0, 1, 2, 3] rfl
              have hD9 := hD.sub (ws' := [((ad 0), .inr (8, [.int 1, .int md_p_64, .int md_n_65, .int md_order_66, .int md_monomials_67, .ref (ad 1), .ref (ad 2), .int md_generators_68, .ref (ad 3), .ref (ad 4), .int md_found_69, .int md_upTo, .ref (ad 5), .ref (ad 6), .ref (ad 7), .ref (ad 8), .int md_members, .int md_provedNow])), ((ad 1), .inl (cs 0, 126, .inl md_mono_70)), ((ad 2), .inl (cs 0, 126, .inl md_degree_71)), ((ad 4), .inl (cs 0, 126, .inl md_hand_72))]) [0, 1, 2, 3] (by decide) rfl
              exact W.vret hx hb hr (fun t ht hW => ⟨⟨(1, md_p_64, md_n_65, md_order_66, md_monomials_67, md_generators_68, md_found_69, md_mono_70, md_degree_71, md_hand_72), rfl, hv, by rw [ht]; exact hP9, hD9⟩, hS.F ht⟩) hS.2.2 d_md_field_49
abbrev b_md_coefficient : ByteArray := prog_10_method_23_code
def y_md_coefficient : MethodName := ⟨"SpaceBasisModel", "coefficient", "(II)V"⟩
def w_md_coefficient : List Cond := Cond.code y_md_coefficient b_md_coefficient 4 none :: vwWS
theorem d_md_coefficient_0 : decode b_md_coefficient 0 = .ok (.aload_n 0, 1) := by decide +kernel
theorem d_md_coefficient_1 : decode b_md_coefficient 1 = .ok (.iload_n 1, 1) := by decide +kernel
theorem d_md_coefficient_2 : decode b_md_coefficient 2 = .ok (.invokevirtual 100, 3) := by decide +kernel
theorem d_md_coefficient_5 : decode b_md_coefficient 5 = .ok (.istore_n 3, 1) := by decide +kernel
theorem d_md_coefficient_6 : decode b_md_coefficient 6 = .ok (.aload_n 0, 1) := by decide +kernel
theorem d_md_coefficient_7 : decode b_md_coefficient 7 = .ok (.iload_n 3, 1) := by decide +kernel
theorem d_md_coefficient_8 : decode b_md_coefficient 8 = .ok (.ifCond .ge 7, 3) := by decide +kernel
theorem d_md_coefficient_11 : decode b_md_coefficient 11 = .ok (.iconst 1, 1) := by decide +kernel
theorem d_md_coefficient_12 : decode b_md_coefficient 12 = .ok (.goto 4, 3) := by decide +kernel
theorem d_md_coefficient_15 : decode b_md_coefficient 15 = .ok (.iconst 0, 1) := by decide +kernel
theorem d_md_coefficient_16 : decode b_md_coefficient 16 = .ok (.putfield 7, 3) := by decide +kernel
theorem d_md_coefficient_19 : decode b_md_coefficient 19 = .ok (.aload_n 0, 1) := by decide +kernel
theorem d_md_coefficient_20 : decode b_md_coefficient 20 = .ok (.getfield 7, 3) := by decide +kernel
theorem d_md_coefficient_23 : decode b_md_coefficient 23 = .ok (.ifCond .ne 25, 3) := by decide +kernel
theorem d_md_coefficient_26 : decode b_md_coefficient 26 = .ok (.aload_n 0, 1) := by decide +kernel
theorem d_md_coefficient_27 : decode b_md_coefficient 27 = .ok (.getfield 38, 3) := by decide +kernel
theorem d_md_coefficient_30 : decode b_md_coefficient 30 = .ok (.iload_n 3, 1) := by decide +kernel
theorem d_md_coefficient_31 : decode b_md_coefficient 31 = .ok (.iload_n 2, 1) := by decide +kernel
theorem d_md_coefficient_32 : decode b_md_coefficient 32 = .ok (.aload_n 0, 1) := by decide +kernel
theorem d_md_coefficient_33 : decode b_md_coefficient 33 = .ok (.getfield 13, 3) := by decide +kernel
theorem d_md_coefficient_36 : decode b_md_coefficient 36 = .ok (.irem, 1) := by decide +kernel
theorem d_md_coefficient_37 : decode b_md_coefficient 37 = .ok (.aload_n 0, 1) := by decide +kernel
theorem d_md_coefficient_38 : decode b_md_coefficient 38 = .ok (.getfield 13, 3) := by decide +kernel
theorem d_md_coefficient_41 : decode b_md_coefficient 41 = .ok (.iadd, 1) := by decide +kernel
theorem d_md_coefficient_42 : decode b_md_coefficient 42 = .ok (.aload_n 0, 1) := by decide +kernel
theorem d_md_coefficient_43 : decode b_md_coefficient 43 = .ok (.getfield 13, 3) := by decide +kernel
theorem d_md_coefficient_46 : decode b_md_coefficient 46 = .ok (.irem, 1) := by decide +kernel
theorem d_md_coefficient_47 : decode b_md_coefficient 47 = .ok (.iastore, 1) := by decide +kernel
theorem d_md_coefficient_48 : decode b_md_coefficient 48 = .ok (.return_, 1) := by decide +kernel
/-- SpaceBasisModel.coefficient(II)V -/
def vc_md_coefficient (md_thrownCode : Int32) (md_p : Int32) (md_n : Int32) (md_order : Int32) (md_monomials : Int32) (md_generators : Int32) (md_found : Int32) (md_upTo : Int32) (md_members : Int32) (md_provedNow : Int32) (md_mono : Nat → Int32) (md_hand : Nat → Int32) (p0 : Int32) (p1 : Int32) (Q : Int32 → (Nat → Int32) → Prop) : Prop :=
  vc_md_placeOf md_thrownCode md_p md_n md_order md_monomials md_generators md_found md_upTo md_members md_provedNow md_mono p0 (fun (r_1 : Int32) => (((0 ≤ r_1) → ((((¬ ((0 : Int32) = 0)) → (Q 0 md_hand)) ∧ (((0 : Int32) = 0) → ((¬ (md_p : Int32) = 0) ∧ (¬ (md_p : Int32) = 0) ∧ vp_in r_1 126 ∧ ∀ md_hand_8 : Nat → Int32, md_hand_8 = upd md_hand r_1.toNatClampNeg (((p1 - p1 / md_p * md_p) + md_p) - ((p1 - p1 / md_p * md_p) + md_p) / md_p * md_p) → Q 0 md_hand_8))))) ∧ ((¬ (0 ≤ r_1)) → ((((¬ ((1 : Int32) = 0)) → (Q 1 md_hand)) ∧ (((1 : Int32) = 0) → ((¬ (md_p : Int32) = 0) ∧ (¬ (md_p : Int32) = 0) ∧ vp_in r_1 126 ∧ ∀ md_hand_14 : Nat → Int32, md_hand_14 = upd md_hand r_1.toNatClampNeg (((p1 - p1 / md_p * md_p) + md_p) - ((p1 - p1 / md_p * md_p) + md_p) / md_p * md_p) → Q 1 md_hand_14)))))))
abbrev at_md_coefficient (dC : Nat → ClassId) (dI : Nat → Nat → Nat) (cs : Nat → ClassId) (A : Nat → Prop) (ad : Nat → Nat) (md_p : Int32) (md_n : Int32) (md_order : Int32) (md_monomials : Int32) (md_generators : Int32) (md_found : Int32) (md_upTo : Int32) (md_members : Int32) (md_provedNow : Int32) (md_mono : Nat → Int32) (u : Int32 × (Nat → Int32)) (t : State) : Prop := match u with
  | (md_thrownCode, md_hand) => va_P (dC, dI) vwCl [((ad 0), .inr (8, [.int md_thrownCode, .int md_p, .int md_n, .int md_order, .int md_monomials, .ref (ad 1), .ref (ad 2), .int md_generators, .ref (ad 3), .ref (ad 4), .int md_found, .int md_upTo, .ref (ad 5), .ref (ad 6), .ref (ad 7), .ref (ad 8), .int md_members, .int md_provedNow])), ((ad 1), .inl (cs 0, 126, .inl md_mono)), ((ad 4), .inl (cs 0, 126, .inl md_hand))] t.heap ∧ va_D A [((ad 0), .inr (8, [.int md_thrownCode, .int md_p, .int md_n, .int md_order, .int md_monomials, .ref (ad 1), .ref (ad 2), .int md_generators, .ref (ad 3), .ref (ad 4), .int md_found, .int md_upTo, .ref (ad 5), .ref (ad 6), .ref (ad 7), .ref (ad 8), .int md_members, .int md_provedNow])), ((ad 1), .inl (cs 0, 126, .inl md_mono)), ((ad 4), .inl (cs 0, 126, .inl md_hand))]
set_option maxHeartbeats 4000000 in
set_option maxRecDepth 100000 in
theorem c_md_coefficient (l : Launch) (dC : Nat → ClassId) (dI : Nat → Nat → Nat) (cs : Nat → ClassId) (ad : Nat → Nat)  (sz : Nat) (md_thrownCode : Int32) (md_p : Int32) (md_n : Int32) (md_order : Int32) (md_monomials : Int32) (md_generators : Int32) (md_found : Int32) (md_upTo : Int32) (md_members : Int32) (md_provedNow : Int32) (md_mono : Nat → Int32) (md_hand : Nat → Int32) (p0 : Int32) (p1 : Int32) (Q : Int32 → (Nat → Int32) → Prop) (hv : vc_md_coefficient md_thrownCode md_p md_n md_order md_monomials md_generators md_found md_upTo md_members md_provedNow md_mono md_hand p0 p1 Q) : Met l y_md_coefficient w_md_coefficient ({ frames := 1, cells := 0, slots := 0, locals := 22 }) (va_Pc [.ref (ad 0), .int p0, .int p1] (fun U => U.heap.size = sz ∧ va_P (dC, dI) vwCl [((ad 0), .inr (8, [.int md_thrownCode, .int md_p, .int md_n, .int md_order, .int md_monomials, .ref (ad 1), .ref (ad 2), .int md_generators, .ref (ad 3), .ref (ad 4), .int md_found, .int md_upTo, .ref (ad 5), .ref (ad 6), .ref (ad 7), .ref (ad 8), .int md_members, .int md_provedNow])), ((ad 1), .inl (cs 0, 126, .inl md_mono)), ((ad 4), .inl (cs 0, 126, .inl md_hand))] U.heap ∧ vwK dC dI cs U ∧ va_D (fun _ => True) [((ad 0), .inr (8, [.int md_thrownCode, .int md_p, .int md_n, .int md_order, .int md_monomials, .ref (ad 1), .ref (ad 2), .int md_generators, .ref (ad 3), .ref (ad 4), .int md_found, .int md_upTo, .ref (ad 5), .ref (ad 6), .ref (ad 7), .ref (ad 8), .int md_members, .int md_provedNow])), ((ad 1), .inl (cs 0, 126, .inl md_mono)), ((ad 4), .inl (cs 0, 126, .inl md_hand))])) (va_Qv (fun (u : Int32 × (Nat → Int32)) => Q u.1 u.2) (at_md_coefficient dC dI cs (va_A [((ad 0), .inr (8, [.int md_thrownCode, .int md_p, .int md_n, .int md_order, .int md_monomials, .ref (ad 1), .ref (ad 2), .int md_generators, .ref (ad 3), .ref (ad 4), .int md_found, .int md_upTo, .ref (ad 5), .ref (ad 6), .ref (ad 7), .ref (ad 8), .int md_members, .int md_provedNow])), ((ad 1), .inl (cs 0, 126, .inl md_mono)), ((ad 4), .inl (cs 0, 126, .inl md_hand))] sz) ad md_p md_n md_order md_monomials md_generators md_found md_upTo md_members md_provedNow md_mono) (va_A [((ad 0), .inr (8, [.int md_thrownCode, .int md_p, .int md_n, .int md_order, .int md_monomials, .ref (ad 1), .ref (ad 2), .int md_generators, .ref (ad 3), .ref (ad 4), .int md_found, .int md_upTo, .ref (ad 5), .ref (ad 6), .ref (ad 7), .ref (ad 8), .int md_members, .int md_provedNow])), ((ad 1), .inl (cs 0, 126, .inl md_mono)), ((ad 4), .inl (cs 0, 126, .inl md_hand))] sz)) 0 0 (va_A [((ad 0), .inr (8, [.int md_thrownCode, .int md_p, .int md_n, .int md_order, .int md_monomials, .ref (ad 1), .ref (ad 2), .int md_generators, .ref (ad 3), .ref (ad 4), .int md_found, .int md_upTo, .ref (ad 5), .ref (ad 6), .ref (ad 7), .ref (ad 8), .int md_members, .int md_provedNow])), ((ad 1), .inl (cs 0, 126, .inl md_mono)), ((ad 4), .inl (cs 0, 126, .inl md_hand))] sz) := by
  unfold vc_md_coefficient at hv
  refine Met.ofW (cc := b_md_coefficient) (maxL := 4) (ret := none) (by decide) rfl ?_
  intro p e s m args below meth c s₁ B hml hpc
  obtain ⟨rfl, hsz, hP, ⟨hK, hN⟩, hD0⟩ := hpc
  have hx := B.exec
  have hb := B.bytes
  have hr := B.returns
  have hts : ∀ w ∈ vwWS, w.before _ s = true := fun w h => atoms_spec (ws := w_md_coefficient) B.pre w (List.mem_cons_of_mem _ h)
  have hown : s.vm.findClass "SpaceBasisModel" = some m.cls := findClass_of_methodNamed B.named
  have hlocks := B.notSynchronized
  subst hsz
  have hD := hD0.self (sz := s.heap.size)
  generalize hAe : va_A [((ad 0), .inr (8, [.int md_thrownCode, .int md_p, .int md_n, .int md_order, .int md_monomials, .ref (ad 1), .ref (ad 2), .int md_generators, .ref (ad 3), .ref (ad 4), .int md_found, .int md_upTo, .ref (ad 5), .ref (ad 6), .ref (ad 7), .ref (ad 8), .int md_members, .int md_provedNow])), ((ad 1), .inl (cs 0, 126, .inl md_mono)), ((ad 4), .inl (cs 0, 126, .inl md_hand))] s.heap.size = A at hD ⊢
  have hA : ∀ q : Nat, s.heap.size ≤ q → A q := fun q h => by rw [← hAe]; exact Or.inr h
  have hS : va_S A s.heap s.heap [] := va_S.rf
  have hl := lv_entry ([.ref (ad 0), .int p0, .int p1]) (n := 4) (Nat.le_of_ble_eq_true rfl)
  rw [lg_entry_eq]
  generalize (lg_sl ([.ref (ad 0), .int p0, .int p1]) ++ List.replicate (4 - (lg_sl ([.ref (ad 0), .int p0, .int p1])).length) Slot.unset).toArray = ls at hl ⊢
  have hl : lv_has ls 4 [(0, .ref (ad 0)), (1, .int p0), (2, .int p1)] := hl
  refine lv_aload_n hx hb d_md_coefficient_0 rfl (lv_at hl 0 rfl) ?_
  refine lv_iload_n hx hb d_md_coefficient_1 rfl (lv_at hl 1 rfl) ?_
  have hPc := hP.sub (ws' := [((ad 0), .inr (8, [.int md_thrownCode, .int md_p, .int md_n, .int md_order, .int md_monomials, .ref (ad 1), .ref (ad 2), .int md_generators, .ref (ad 3), .ref (ad 4), .int md_found, .int md_upTo, .ref (ad 5), .ref (ad 6), .ref (ad 7), .ref (ad 8), .int md_members, .int md_provedNow])), ((ad 1), .inl (cs 0, 126, .inl md_mono))]) [0, 1] rfl
  have hDc := hD.sub (ws' := [((ad 0), .inr (8, [.int md_thrownCode, .int md_p, .int md_n, .int md_order, .int md_monomials, .ref (ad 1), .ref (ad 2), .int md_generators, .ref (ad 3), .ref (ad 4), .int md_found, .int md_upTo, .ref (ad 5), .ref (ad 6), .ref (ad 7), .ref (ad 8), .int md_members, .int md_provedNow])), ((ad 1), .inl (cs 0, 126, .inl md_mono))]) [0, 1] (by decide) rfl
  have hFc := va_free (wc := [((ad 0), .inr (8, [.int md_thrownCode, .int md_p, .int md_n, .int md_order, .int md_monomials, .ref (ad 1), .ref (ad 2), .int md_generators, .ref (ad 3), .ref (ad 4), .int md_found, .int md_upTo, .ref (ad 5), .ref (ad 6), .ref (ad 7), .ref (ad 8), .int md_members, .int md_provedNow])), ((ad 1), .inl (cs 0, 126, .inl md_mono))]) hD hS hA [0, 1] rfl
  refine va_calli (va_runV (As := [.int p0]) (rest := []) ⟨hx, hb, hml, hown, hts⟩ (c_md_placeOf l dC dI cs ad  s.heap.size md_thrownCode md_p md_n md_order md_monomials md_generators md_found md_upTo md_members md_provedNow md_mono p0 _ hv) (cwV 1 hts (gd_V kw_689 kw_690 kw_20 kw_41 kw_691) rfl rfl rfl (by decide +kernel) ⟨Nat.le_of_ble_eq_true rfl, Nat.le_of_ble_eq_true rfl⟩) ⟨fun a U g mk q => by obtain ⟨q0, q1, qP, qK, qD⟩ := q; exact ⟨q0, q1, qP, qK.call, qD⟩, va_recv hK hPc (ci := 8) (q0 := 0) rfl rfl, fun U hU hW => ⟨rfl, by rw [hU], by rw [hU]; exact hPc, vwK.warm hW ⟨hK, hN⟩, hDc.weaken (fun _ _ _ _ => trivial)⟩⟩ rfl rfl hl.1 rfl (lv_room (Nat.le_of_ble_eq_true rfl)) d_md_coefficient_2 ⟨Nat.zero_le _, Nat.zero_le _⟩) hS (fun q _ h => hFc q h) hFc (fun r_1 _u t H1 locs1 ht hvm hw hB hz1 hk1 hS => ?_)
  obtain ⟨hP1, hD1⟩ := hB
  rw [ht] at hP1
  obtain ⟨hP, hD⟩ := va_join (wr := [((ad 4), .inl (cs 0, 126, .inl md_hand))]) (w1 := [((ad 0), .inr (8, [.int md_thrownCode, .int md_p, .int md_n, .int md_order, .int md_monomials, .ref (ad 1), .ref (ad 2), .int md_generators, .ref (ad 3), .ref (ad 4), .int md_found, .int md_upTo, .ref (ad 5), .ref (ad 6), .ref (ad 7), .ref (ad 8), .int md_members, .int md_provedNow])), ((ad 1), .inl (cs 0, 126, .inl md_mono))]) hP hD [0, 1] [2] rfl rfl (by decide) (by decide) hk1 hFc hP1 hD1
  generalize H1 = H at hP hS ⊢
  generalize locs1 = locs at hS ⊢
  have hP : va_P (dC, dI) vwCl [((ad 4), .inl (cs 0, 126, .inl md_hand)), ((ad 0), .inr (8, [.int md_thrownCode, .int md_p, .int md_n, .int md_order, .int md_monomials, .ref (ad 1), .ref (ad 2), .int md_generators, .ref (ad 3), .ref (ad 4), .int md_found, .int md_upTo, .ref (ad 5), .ref (ad 6), .ref (ad 7), .ref (ad 8), .int md_members, .int md_provedNow])), ((ad 1), .inl (cs 0, 126, .inl md_mono))] H := hP
  have hD : va_D A [((ad 4), .inl (cs 0, 126, .inl md_hand)), ((ad 0), .inr (8, [.int md_thrownCode, .int md_p, .int md_n, .int md_order, .int md_monomials, .ref (ad 1), .ref (ad 2), .int md_generators, .ref (ad 3), .ref (ad 4), .int md_found, .int md_upTo, .ref (ad 5), .ref (ad 6), .ref (ad 7), .ref (ad 8), .int md_members, .int md_provedNow])), ((ad 1), .inl (cs 0, 126, .inl md_mono))] := hD
  have hv := hw
  try dsimp only at hv
  refine lv_istore_n (lv' := [(3, .int r_1), (0, .ref (ad 0)), (1, .int p0), (2, .int p1)]) hx hb d_md_coefficient_5 rfl hl (by decide) rfl (fun ls hl => ?_)
  refine lv_aload_n hx hb d_md_coefficient_6 rfl (lv_at hl 1 rfl) ?_
  refine lv_iload_n hx hb d_md_coefficient_7 rfl (lv_at hl 0 rfl) ?_
  refine lv_if_ge (tgt := 15) hx hb d_md_coefficient_8 (by decide) (fun c_2 => ?_) (fun c_2 => ?_)
  · have hv := hv.1 c_2
    refine lv_iconst (v := 0) hx hb d_md_coefficient_15 (by decide) ?_
    refine va_put (D := (dC, dI)) (ci := 8) (v := .int 0) (ty := .int) (C := R_md) (T := F_md) (N := 18) hx hb hts in_md t_md t_md_ok n_md hown hK hP hD hS 1 rfl rfl 0 (by decide) (hts _ kw_618) (fun _ h9 => h9) rfl (by decide +kernel) rfl rfl (Nat.le_of_ble_eq_true rfl) d_md_coefficient_16 (fun H locs hP hD hS => ?_)
    have hP : va_P (dC, dI) vwCl [((ad 4), .inl (cs 0, 126, .inl md_hand)), ((ad 0), .inr (8, [.int 0, .int md_p, .int md_n, .int md_order, .int md_monomials, .ref (ad 1), .ref (ad 2), .int md_generators, .ref (ad 3), .ref (ad 4), .int md_found, .int md_upTo, .ref (ad 5), .ref (ad 6), .ref (ad 7), .ref (ad 8), .int md_members, .int md_provedNow])), ((ad 1), .inl (cs 0, 126, .inl md_mono))] H := hP
    have hD : va_D A [((ad 4), .inl (cs 0, 126, .inl md_hand)), ((ad 0), .inr (8, [.int 0, .int md_p, .int md_n, .int md_order, .int md_monomials, .ref (ad 1), .ref (ad 2), .int md_generators, .ref (ad 3), .ref (ad 4), .int md_found, .int md_upTo, .ref (ad 5), .ref (ad 6), .ref (ad 7), .ref (ad 8), .int md_members, .int md_provedNow])), ((ad 1), .inl (cs 0, 126, .inl md_mono))] := hD
    refine lv_aload_n hx hb d_md_coefficient_19 rfl (lv_at hl 1 rfl) ?_
    refine va_get (D := (dC, dI)) (ci := 8) (v := .int 0) (C := R_md) (T := F_md) (N := 18) hx hb hts in_md hown hK hP 1 rfl rfl 0 (by decide) (hts _ kw_618) (fun _ h9 => h9) rfl d_md_coefficient_20 ?_
    refine lv_if_ne (tgt := 48) hx hb d_md_coefficient_23 (by decide) (fun c_4 => ?_) (fun c_4 => ?_)
    · have hv := hv.1 c_4
      have hP9 := hP.sub (ws' := [((ad 0), .inr (8, [.int 0, .int md_p, .int md_n, .int md_order, .int md_monomials, .ref (ad 1), .ref (ad 2), .int md_generators, .ref (ad 3), .ref (ad 4), .int md_found, .int md_upTo, .ref (ad 5), .ref (ad 6), .ref (ad 7), .ref (ad 8), .int md_members, .int md_provedNow])), ((ad 1), .inl (cs 0, 126, .inl md_mono)), ((ad 4), .inl (cs 0, 126, .inl md_hand))]) [1, 2, 0] rfl
      have hD9 := hD.sub (ws' := [((ad 0), .inr (8, [.int 0, .int md_p, .int md_n, .int md_order, .int md_monomials, .ref (ad 1), .ref (ad 2), .int md_generators, .ref (ad 3), .ref (ad 4), .int md_found, .int md_upTo, .ref (ad 5), .ref (ad 6), .ref (ad 7), .ref (ad 8), .int md_members, .int md_provedNow])), ((ad 1), .inl (cs 0, 126, .inl md_mono)), ((ad 4), .inl (cs 0, 126, .inl md_hand))]) [1, 2, 0] (by decide) rfl
      exact W.vret hx hb hr (fun t ht hW => ⟨⟨(0, md_hand), rfl, hv, by rw [ht]; exact hP9, hD9⟩, hS.F ht⟩) hS.2.2 d_md_coefficient_48
    · have hv := hv.2 c_4
      refine lv_aload_n hx hb d_md_coefficient_26 rfl (lv_at hl 1 rfl) ?_
      refine va_get (D := (dC, dI)) (ci := 8) (v := .ref (ad 4)) (C := R_md) (T := F_md) (N := 18) hx hb hts in_md hown hK hP 1 rfl rfl 9 (by decide) (hts _ kw_627) (fun _ h9 => h9) rfl d_md_coefficient_27 ?_
      refine lv_iload_n hx hb d_md_coefficient_30 rfl (lv_at hl 0 rfl) ?_
      refine lv_iload_n hx hb d_md_coefficient_31 rfl (lv_at hl 3 rfl) ?_
      refine lv_aload_n hx hb d_md_coefficient_32 rfl (lv_at hl 1 rfl) ?_
      refine va_get (D := (dC, dI)) (ci := 8) (v := .int md_p) (C := R_md) (T := F_md) (N := 18) hx hb hts in_md hown hK hP 1 rfl rfl 1 (by decide) (hts _ kw_619) (fun _ h9 => h9) rfl d_md_coefficient_33 ?_
      obtain ⟨hz_5, hv⟩ := hv
      refine lv_irem hx hb d_md_coefficient_36 hz_5 ?_
      refine lv_aload_n hx hb d_md_coefficient_37 rfl (lv_at hl 1 rfl) ?_
      refine va_get (D := (dC, dI)) (ci := 8) (v := .int md_p) (C := R_md) (T := F_md) (N := 18) hx hb hts in_md hown hK hP 1 rfl rfl 1 (by decide) (hts _ kw_619) (fun _ h9 => h9) rfl d_md_coefficient_38 ?_
      refine lv_iadd hx hb d_md_coefficient_41 ?_
      refine lv_aload_n hx hb d_md_coefficient_42 rfl (lv_at hl 1 rfl) ?_
      refine va_get (D := (dC, dI)) (ci := 8) (v := .int md_p) (C := R_md) (T := F_md) (N := 18) hx hb hts in_md hown hK hP 1 rfl rfl 1 (by decide) (hts _ kw_619) (fun _ h9 => h9) rfl d_md_coefficient_43 ?_
      obtain ⟨hz_6, hv⟩ := hv
      refine lv_irem hx hb d_md_coefficient_46 hz_6 ?_
      obtain ⟨hi_7, hv⟩ := hv
      refine va_iast hx hb hK hP hD hS 0 0 rfl rfl hi_7 d_md_coefficient_47 (fun H locs hP hD hS => ?_)
      have hP : va_P (dC, dI) vwCl [((ad 4), .inl (cs 0, 126, .inl (upd md_hand r_1.toNatClampNeg (((p1 - p1 / md_p * md_p) + md_p) - ((p1 - p1 / md_p * md_p) + md_p) / md_p * md_p)))), ((ad 0), .inr (8, [.int 0, .int md_p, .int md_n, .int md_order, .int md_monomials, .ref (ad 1), .ref (ad 2), .int md_generators, .ref (ad 3), .ref (ad 4), .int md_found, .int md_upTo, .ref (ad 5), .ref (ad 6), .ref (ad 7), .ref (ad 8), .int md_members, .int md_provedNow])), ((ad 1), .inl (cs 0, 126, .inl md_mono))] H := hP
      have hD : va_D A [((ad 4), .inl (cs 0, 126, .inl (upd md_hand r_1.toNatClampNeg (((p1 - p1 / md_p * md_p) + md_p) - ((p1 - p1 / md_p * md_p) + md_p) / md_p * md_p)))), ((ad 0), .inr (8, [.int 0, .int md_p, .int md_n, .int md_order, .int md_monomials, .ref (ad 1), .ref (ad 2), .int md_generators, .ref (ad 3), .ref (ad 4), .int md_found, .int md_upTo, .ref (ad 5), .ref (ad 6), .ref (ad 7), .ref (ad 8), .int md_members, .int md_provedNow])), ((ad 1), .inl (cs 0, 126, .inl md_mono))] := hD
      generalize emd_hand_8 : upd md_hand r_1.toNatClampNeg (((p1 - p1 / md_p * md_p) + md_p) - ((p1 - p1 / md_p * md_p) + md_p) / md_p * md_p) = md_hand_8 at hP hD
      have hv := hv md_hand_8 emd_hand_8.symm
      have hP9 := hP.sub (ws' := [((ad 0), .inr (8, [.int 0, .int md_p, .int md_n, .int md_order, .int md_monomials, .ref (ad 1), .ref (ad 2), .int md_generators, .ref (ad 3), .ref (ad 4), .int md_found, .int md_upTo, .ref (ad 5), .ref (ad 6), .ref (ad 7), .ref (ad 8), .int md_members, .int md_provedNow])), ((ad 1), .inl (cs 0, 126, .inl md_mono)), ((ad 4), .inl (cs 0, 126, .inl md_hand_8))]) [1, 2, 0] rfl
      have hD9 := hD.sub (ws' := [((ad 0), .inr (8, [.int 0, .int md_p, .int md_n, .int md_order, .int md_monomials, .ref (ad 1), .ref (ad 2), .int md_generators, .ref (ad 3), .ref (ad 4), .int md_found, .int md_upTo, .ref (ad 5), .ref (ad 6), .ref (ad 7), .ref (ad 8), .int md_members, .int md_provedNow])), ((ad 1), .inl (cs 0, 126, .inl md_mono)), ((ad 4), .inl (cs 0, 126, .inl md_hand_8))]) [1, 2, 0] (by decide) rfl
      exact W.vret hx hb hr (fun t ht hW => ⟨⟨(0, md_hand_8), rfl, hv, by rw [ht]; exact hP9, hD9⟩, hS.F ht⟩) hS.2.2 d_md_coefficient_48
  · have hv := hv.2 c_2
    refine lv_iconst (v := 1) hx hb d_md_coefficient_11 (by decide) ?_
    refine lv_goto (tgt := 16) hx hb d_md_coefficient_12 (by decide) ?_
    refine va_put (D := (dC, dI)) (ci := 8) (v := .int 1) (ty := .int) (C := R_md) (T := F_md) (N := 18) hx hb hts in_md t_md t_md_ok n_md hown hK hP hD hS 1 rfl rfl 0 (by decide) (hts _ kw_618) (fun _ h9 => h9) rfl (by decide +kernel) rfl rfl (Nat.le_of_ble_eq_true rfl) d_md_coefficient_16 (fun H locs hP hD hS => ?_)
    have hP : va_P (dC, dI) vwCl [((ad 4), .inl (cs 0, 126, .inl md_hand)), ((ad 0), .inr (8, [.int 1, .int md_p, .int md_n, .int md_order, .int md_monomials, .ref (ad 1), .ref (ad 2), .int md_generators, .ref (ad 3), .ref (ad 4), .int md_found, .int md_upTo, .ref (ad 5), .ref (ad 6), .ref (ad 7), .ref (ad 8), .int md_members, .int md_provedNow])), ((ad 1), .inl (cs 0, 126, .inl md_mono))] H := hP
    have hD : va_D A [((ad 4), .inl (cs 0, 126, .inl md_hand)), ((ad 0), .inr (8, [.int 1, .int md_p, .int md_n, .int md_order, .int md_monomials, .ref (ad 1), .ref (ad 2), .int md_generators, .ref (ad 3), .ref (ad 4), .int md_found, .int md_upTo, .ref (ad 5), .ref (ad 6), .ref (ad 7), .ref (ad 8), .int md_members, .int md_provedNow])), ((ad 1), .inl (cs 0, 126, .inl md_mono))] := hD
    refine lv_aload_n hx hb d_md_coefficient_19 rfl (lv_at hl 1 rfl) ?_
    refine va_get (D := (dC, dI)) (ci := 8) (v := .int 1) (C := R_md) (T := F_md) (N := 18) hx hb hts in_md hown hK hP 1 rfl rfl 0 (by decide) (hts _ kw_618) (fun _ h9 => h9) rfl d_md_coefficient_20 ?_
    refine lv_if_ne (tgt := 48) hx hb d_md_coefficient_23 (by decide) (fun c_10 => ?_) (fun c_10 => ?_)
    · have hv := hv.1 c_10
      have hP9 := hP.sub (ws' := [((ad 0), .inr (8, [.int 1, .int md_p, .int md_n, .int md_order, .int md_monomials, .ref (ad 1), .ref (ad 2), .int md_generators, .ref (ad 3), .ref (ad 4), .int md_found, .int md_upTo, .ref (ad 5), .ref (ad 6), .ref (ad 7), .ref (ad 8), .int md_members, .int md_provedNow])), ((ad 1), .inl (cs 0, 126, .inl md_mono)), ((ad 4), .inl (cs 0, 126, .inl md_hand))]) [1, 2, 0] rfl
      have hD9 := hD.sub (ws' := [((ad 0), .inr (8, [.int 1, .int md_p, .int md_n, .int md_order, .int md_monomials, .ref (ad 1), .ref (ad 2), .int md_generators, .ref (ad 3), .ref (ad 4), .int md_found, .int md_upTo, .ref (ad 5), .ref (ad 6), .ref (ad 7), .ref (ad 8), .int md_members, .int md_provedNow])), ((ad 1), .inl (cs 0, 126, .inl md_mono)), ((ad 4), .inl (cs 0, 126, .inl md_hand))]) [1, 2, 0] (by decide) rfl
      exact W.vret hx hb hr (fun t ht hW => ⟨⟨(1, md_hand), rfl, hv, by rw [ht]; exact hP9, hD9⟩, hS.F ht⟩) hS.2.2 d_md_coefficient_48
    · have hv := hv.2 c_10
      refine lv_aload_n hx hb d_md_coefficient_26 rfl (lv_at hl 1 rfl) ?_
      refine va_get (D := (dC, dI)) (ci := 8) (v := .ref (ad 4)) (C := R_md) (T := F_md) (N := 18) hx hb hts in_md hown hK hP 1 rfl rfl 9 (by decide) (hts _ kw_627) (fun _ h9 => h9) rfl d_md_coefficient_27 ?_
      refine lv_iload_n hx hb d_md_coefficient_30 rfl (lv_at hl 0 rfl) ?_
      refine lv_iload_n hx hb d_md_coefficient_31 rfl (lv_at hl 3 rfl) ?_
      refine lv_aload_n hx hb d_md_coefficient_32 rfl (lv_at hl 1 rfl) ?_
      refine va_get (D := (dC, dI)) (ci := 8) (v := .int md_p) (C := R_md) (T := F_md) (N := 18) hx hb hts in_md hown hK hP 1 rfl rfl 1 (by decide) (hts _ kw_619) (fun _ h9 => h9) rfl d_md_coefficient_33 ?_
      obtain ⟨hz_11, hv⟩ := hv
      refine lv_irem hx hb d_md_coefficient_36 hz_11 ?_
      refine lv_aload_n hx hb d_md_coefficient_37 rfl (lv_at hl 1 rfl) ?_
      refine va_get (D := (dC, dI)) (ci := 8) (v := .int md_p) (C := R_md) (T := F_md) (N := 18) hx hb hts in_md hown hK hP 1 rfl rfl 1 (by decide) (hts _ kw_619) (fun _ h9 => h9) rfl d_md_coefficient_38 ?_
      refine lv_iadd hx hb d_md_coefficient_41 ?_
      refine lv_aload_n hx hb d_md_coefficient_42 rfl (lv_at hl 1 rfl) ?_
      refine va_get (D := (dC, dI)) (ci := 8) (v := .int md_p) (C := R_md) (T := F_md) (N := 18) hx hb hts in_md hown hK hP 1 rfl rfl 1 (by decide) (hts _ kw_619) (fun _ h9 => h9) rfl d_md_coefficient_43 ?_
      obtain ⟨hz_12, hv⟩ := hv
      refine lv_irem hx hb d_md_coefficient_46 hz_12 ?_
      obtain ⟨hi_13, hv⟩ := hv
      refine va_iast hx hb hK hP hD hS 0 0 rfl rfl hi_13 d_md_coefficient_47 (fun H locs hP hD hS => ?_)
      have hP : va_P (dC, dI) vwCl [((ad 4), .inl (cs 0, 126, .inl (upd md_hand r_1.toNatClampNeg (((p1 - p1 / md_p * md_p) + md_p) - ((p1 - p1 / md_p * md_p) + md_p) / md_p * md_p)))), ((ad 0), .inr (8, [.int 1, .int md_p, .int md_n, .int md_order, .int md_monomials, .ref (ad 1), .ref (ad 2), .int md_generators, .ref (ad 3), .ref (ad 4), .int md_found, .int md_upTo, .ref (ad 5), .ref (ad 6), .ref (ad 7), .ref (ad 8), .int md_members, .int md_provedNow])), ((ad 1), .inl (cs 0, 126, .inl md_mono))] H := hP
      have hD : va_D A [((ad 4), .inl (cs 0, 126, .inl (upd md_hand r_1.toNatClampNeg (((p1 - p1 / md_p * md_p) + md_p) - ((p1 - p1 / md_p * md_p) + md_p) / md_p * md_p)))), ((ad 0), .inr (8, [.int 1, .int md_p, .int md_n, .int md_order, .int md_monomials, .ref (ad 1), .ref (ad 2), .int md_generators, .ref (ad 3), .ref (ad 4), .int md_found, .int md_upTo, .ref (ad 5), .ref (ad 6), .ref (ad 7), .ref (ad 8), .int md_members, .int md_provedNow])), ((ad 1), .inl (cs 0, 126, .inl md_mono))] := hD
      generalize emd_hand_14 : upd md_hand r_1.toNatClampNeg (((p1 - p1 / md_p * md_p) + md_p) - ((p1 - p1 / md_p * md_p) + md_p) / md_p * md_p) = md_hand_14 at hP hD
      have hv := hv md_hand_14 emd_hand_14.symm
      have hP9 := hP.sub (ws' := [((ad 0), .inr (8, [.int 1, .int md_p, .int md_n, .int md_order, .int md_monomials, .ref (ad 1), .ref (ad 2), .int md_generators, .ref (ad 3), .ref (ad 4), .int md_found, .int md_upTo, .ref (ad 5), .ref (ad 6), .ref (ad 7), .ref (ad 8), .int md_members, .int md_provedNow])), ((ad 1), .inl (cs 0, 126, .inl md_mono)), ((ad 4), .inl (cs 0, 126, .inl md_hand_14))]) [1, 2, 0] rfl
      have hD9 := hD.sub (ws' := [((ad 0), .inr (8, [.int 1, .int md_p, .int md_n, .int md_order, .int md_monomials, .ref (ad 1), .ref (ad 2), .int md_generators, .ref (ad 3), .ref (ad 4), .int md_found, .int md_upTo, .ref (ad 5), .ref (ad 6), .ref (ad 7), .ref (ad 8), .int md_members, .int md_provedNow])), ((ad 1), .inl (cs 0, 126, .inl md_mono)), ((ad 4), .inl (cs 0, 126, .inl md_hand_14))]) [1, 2, 0] (by decide) rfl
      exact W.vret hx hb hr (fun t ht hW => ⟨⟨(1, md_hand_14), rfl, hv, by rw [ht]; exact hP9, hD9⟩, hS.F ht⟩) hS.2.2 d_md_coefficient_48
abbrev b_md_hand : ByteArray := prog_10_method_24_code
def y_md_hand : MethodName := ⟨"SpaceBasisModel", "hand", "(I)I"⟩
def w_md_hand : List Cond := Cond.code y_md_hand b_md_hand 3 (some .int) :: vwWS
theorem d_md_hand_0 : decode b_md_hand 0 = .ok (.aload_n 0, 1) := by decide +kernel
theorem d_md_hand_1 : decode b_md_hand 1 = .ok (.iconst 0, 1) := by decide +kernel
theorem d_md_hand_2 : decode b_md_hand 2 = .ok (.putfield 7, 3) := by decide +kernel
theorem d_md_hand_5 : decode b_md_hand 5 = .ok (.aload_n 0, 1) := by decide +kernel
theorem d_md_hand_6 : decode b_md_hand 6 = .ok (.iload_n 1, 1) := by decide +kernel
theorem d_md_hand_7 : decode b_md_hand 7 = .ok (.invokevirtual 100, 3) := by decide +kernel
theorem d_md_hand_10 : decode b_md_hand 10 = .ok (.istore_n 2, 1) := by decide +kernel
theorem d_md_hand_11 : decode b_md_hand 11 = .ok (.iload_n 2, 1) := by decide +kernel
theorem d_md_hand_12 : decode b_md_hand 12 = .ok (.ifCond .ge 7, 3) := by decide +kernel
theorem d_md_hand_15 : decode b_md_hand 15 = .ok (.iconst 0, 1) := by decide +kernel
theorem d_md_hand_16 : decode b_md_hand 16 = .ok (.goto 9, 3) := by decide +kernel
theorem d_md_hand_19 : decode b_md_hand 19 = .ok (.aload_n 0, 1) := by decide +kernel
theorem d_md_hand_20 : decode b_md_hand 20 = .ok (.getfield 38, 3) := by decide +kernel
theorem d_md_hand_23 : decode b_md_hand 23 = .ok (.iload_n 2, 1) := by decide +kernel
theorem d_md_hand_24 : decode b_md_hand 24 = .ok (.iaload, 1) := by decide +kernel
theorem d_md_hand_25 : decode b_md_hand 25 = .ok (.ireturn, 1) := by decide +kernel
/-- SpaceBasisModel.hand(I)I -/
def vc_md_hand (md_thrownCode : Int32) (md_p : Int32) (md_n : Int32) (md_order : Int32) (md_monomials : Int32) (md_generators : Int32) (md_found : Int32) (md_upTo : Int32) (md_members : Int32) (md_provedNow : Int32) (md_mono : Nat → Int32) (md_hand : Nat → Int32) (p0 : Int32) (Q : Int32 → Int32 → Prop) : Prop :=
  vc_md_placeOf 0 md_p md_n md_order md_monomials md_generators md_found md_upTo md_members md_provedNow md_mono p0 (fun (r_2 : Int32) => (((0 ≤ r_2) → (vp_in r_2 126 ∧ Q (md_hand r_2.toNatClampNeg) 0)) ∧ ((¬ (0 ≤ r_2)) → (Q 0 0))))
abbrev at_md_hand (dC : Nat → ClassId) (dI : Nat → Nat → Nat) (cs : Nat → ClassId) (A : Nat → Prop) (ad : Nat → Nat) (md_p : Int32) (md_n : Int32) (md_order : Int32) (md_monomials : Int32) (md_generators : Int32) (md_found : Int32) (md_upTo : Int32) (md_members : Int32) (md_provedNow : Int32) (md_mono : Nat → Int32) (md_hand : Nat → Int32) (u : Int32) (t : State) : Prop := match u with
  | md_thrownCode => va_P (dC, dI) vwCl [((ad 0), .inr (8, [.int md_thrownCode, .int md_p, .int md_n, .int md_order, .int md_monomials, .ref (ad 1), .ref (ad 2), .int md_generators, .ref (ad 3), .ref (ad 4), .int md_found, .int md_upTo, .ref (ad 5), .ref (ad 6), .ref (ad 7), .ref (ad 8), .int md_members, .int md_provedNow])), ((ad 1), .inl (cs 0, 126, .inl md_mono)), ((ad 4), .inl (cs 0, 126, .inl md_hand))] t.heap ∧ va_D A [((ad 0), .inr (8, [.int md_thrownCode, .int md_p, .int md_n, .int md_order, .int md_monomials, .ref (ad 1), .ref (ad 2), .int md_generators, .ref (ad 3), .ref (ad 4), .int md_found, .int md_upTo, .ref (ad 5), .ref (ad 6), .ref (ad 7), .ref (ad 8), .int md_members, .int md_provedNow])), ((ad 1), .inl (cs 0, 126, .inl md_mono)), ((ad 4), .inl (cs 0, 126, .inl md_hand))]
set_option maxHeartbeats 4000000 in
set_option maxRecDepth 100000 in
theorem c_md_hand (l : Launch) (dC : Nat → ClassId) (dI : Nat → Nat → Nat) (cs : Nat → ClassId) (ad : Nat → Nat)  (sz : Nat) (md_thrownCode : Int32) (md_p : Int32) (md_n : Int32) (md_order : Int32) (md_monomials : Int32) (md_generators : Int32) (md_found : Int32) (md_upTo : Int32) (md_members : Int32) (md_provedNow : Int32) (md_mono : Nat → Int32) (md_hand : Nat → Int32) (p0 : Int32) (Q : Int32 → Int32 → Prop) (hv : vc_md_hand md_thrownCode md_p md_n md_order md_monomials md_generators md_found md_upTo md_members md_provedNow md_mono md_hand p0 Q) : Met l y_md_hand w_md_hand ({ frames := 1, cells := 0, slots := 0, locals := 22 }) (va_Pc [.ref (ad 0), .int p0] (fun U => U.heap.size = sz ∧ va_P (dC, dI) vwCl [((ad 0), .inr (8, [.int md_thrownCode, .int md_p, .int md_n, .int md_order, .int md_monomials, .ref (ad 1), .ref (ad 2), .int md_generators, .ref (ad 3), .ref (ad 4), .int md_found, .int md_upTo, .ref (ad 5), .ref (ad 6), .ref (ad 7), .ref (ad 8), .int md_members, .int md_provedNow])), ((ad 1), .inl (cs 0, 126, .inl md_mono)), ((ad 4), .inl (cs 0, 126, .inl md_hand))] U.heap ∧ vwK dC dI cs U ∧ va_D (fun _ => True) [((ad 0), .inr (8, [.int md_thrownCode, .int md_p, .int md_n, .int md_order, .int md_monomials, .ref (ad 1), .ref (ad 2), .int md_generators, .ref (ad 3), .ref (ad 4), .int md_found, .int md_upTo, .ref (ad 5), .ref (ad 6), .ref (ad 7), .ref (ad 8), .int md_members, .int md_provedNow])), ((ad 1), .inl (cs 0, 126, .inl md_mono)), ((ad 4), .inl (cs 0, 126, .inl md_hand))])) (va_Qi (fun (r : Int32) (u : Int32) => Q r u) (at_md_hand dC dI cs (va_A [((ad 0), .inr (8, [.int md_thrownCode, .int md_p, .int md_n, .int md_order, .int md_monomials, .ref (ad 1), .ref (ad 2), .int md_generators, .ref (ad 3), .ref (ad 4), .int md_found, .int md_upTo, .ref (ad 5), .ref (ad 6), .ref (ad 7), .ref (ad 8), .int md_members, .int md_provedNow])), ((ad 1), .inl (cs 0, 126, .inl md_mono)), ((ad 4), .inl (cs 0, 126, .inl md_hand))] sz) ad md_p md_n md_order md_monomials md_generators md_found md_upTo md_members md_provedNow md_mono md_hand) (va_A [((ad 0), .inr (8, [.int md_thrownCode, .int md_p, .int md_n, .int md_order, .int md_monomials, .ref (ad 1), .ref (ad 2), .int md_generators, .ref (ad 3), .ref (ad 4), .int md_found, .int md_upTo, .ref (ad 5), .ref (ad 6), .ref (ad 7), .ref (ad 8), .int md_members, .int md_provedNow])), ((ad 1), .inl (cs 0, 126, .inl md_mono)), ((ad 4), .inl (cs 0, 126, .inl md_hand))] sz)) 0 0 (va_A [((ad 0), .inr (8, [.int md_thrownCode, .int md_p, .int md_n, .int md_order, .int md_monomials, .ref (ad 1), .ref (ad 2), .int md_generators, .ref (ad 3), .ref (ad 4), .int md_found, .int md_upTo, .ref (ad 5), .ref (ad 6), .ref (ad 7), .ref (ad 8), .int md_members, .int md_provedNow])), ((ad 1), .inl (cs 0, 126, .inl md_mono)), ((ad 4), .inl (cs 0, 126, .inl md_hand))] sz) := by
  unfold vc_md_hand at hv
  refine Met.ofW (cc := b_md_hand) (maxL := 3) (ret := (some .int)) (by decide) rfl ?_
  intro p e s m args below meth c s₁ B hml hpc
  obtain ⟨rfl, hsz, hP, ⟨hK, hN⟩, hD0⟩ := hpc
  have hx := B.exec
  have hb := B.bytes
  have hr := B.returns
  have hts : ∀ w ∈ vwWS, w.before _ s = true := fun w h => atoms_spec (ws := w_md_hand) B.pre w (List.mem_cons_of_mem _ h)
  have hown : s.vm.findClass "SpaceBasisModel" = some m.cls := findClass_of_methodNamed B.named
  have hlocks := B.notSynchronized
  subst hsz
  have hD := hD0.self (sz := s.heap.size)
  generalize hAe : va_A [((ad 0), .inr (8, [.int md_thrownCode, .int md_p, .int md_n, .int md_order, .int md_monomials, .ref (ad 1), .ref (ad 2), .int md_generators, .ref (ad 3), .ref (ad 4), .int md_found, .int md_upTo, .ref (ad 5), .ref (ad 6), .ref (ad 7), .ref (ad 8), .int md_members, .int md_provedNow])), ((ad 1), .inl (cs 0, 126, .inl md_mono)), ((ad 4), .inl (cs 0, 126, .inl md_hand))] s.heap.size = A at hD ⊢
  have hA : ∀ q : Nat, s.heap.size ≤ q → A q := fun q h => by rw [← hAe]; exact Or.inr h
  have hS : va_S A s.heap s.heap [] := va_S.rf
  have hl := lv_entry ([.ref (ad 0), .int p0]) (n := 3) (Nat.le_of_ble_eq_true rfl)
  rw [lg_entry_eq]
  generalize (lg_sl ([.ref (ad 0), .int p0]) ++ List.replicate (3 - (lg_sl ([.ref (ad 0), .int p0])).length) Slot.unset).toArray = ls at hl ⊢
  have hl : lv_has ls 3 [(0, .ref (ad 0)), (1, .int p0)] := hl
  refine lv_aload_n hx hb d_md_hand_0 rfl (lv_at hl 0 rfl) ?_
  refine lv_iconst (v := 0) hx hb d_md_hand_1 (by decide) ?_
  refine va_put (D := (dC, dI)) (ci := 8) (v := .int 0) (ty := .int) (C := R_md) (T := F_md) (N := 18) hx hb hts in_md t_md t_md_ok n_md hown hK hP hD hS 0 rfl rfl 0 (by decide) (hts _ kw_618) (fun _ h9 => h9) rfl (by decide +kernel) rfl rfl (Nat.le_of_ble_eq_true rfl) d_md_hand_2 (fun H locs hP hD hS => ?_)
  have hP : va_P (dC, dI) vwCl [((ad 0), .inr (8, [.int 0, .int md_p, .int md_n, .int md_order, .int md_monomials, .ref (ad 1), .ref (ad 2), .int md_generators, .ref (ad 3), .ref (ad 4), .int md_found, .int md_upTo, .ref (ad 5), .ref (ad 6), .ref (ad 7), .ref (ad 8), .int md_members, .int md_provedNow])), ((ad 1), .inl (cs 0, 126, .inl md_mono)), ((ad 4), .inl (cs 0, 126, .inl md_hand))] H := hP
  have hD : va_D A [((ad 0), .inr (8, [.int 0, .int md_p, .int md_n, .int md_order, .int md_monomials, .ref (ad 1), .ref (ad 2), .int md_generators, .ref (ad 3), .ref (ad 4), .int md_found, .int md_upTo, .ref (ad 5), .ref (ad 6), .ref (ad 7), .ref (ad 8), .int md_members, .int md_provedNow])), ((ad 1), .inl (cs 0, 126, .inl md_mono)), ((ad 4), .inl (cs 0, 126, .inl md_hand))] := hD
  refine lv_aload_n hx hb d_md_hand_5 rfl (lv_at hl 0 rfl) ?_
  refine lv_iload_n hx hb d_md_hand_6 rfl (lv_at hl 1 rfl) ?_
  have hPc := hP.sub (ws' := [((ad 0), .inr (8, [.int 0, .int md_p, .int md_n, .int md_order, .int md_monomials, .ref (ad 1), .ref (ad 2), .int md_generators, .ref (ad 3), .ref (ad 4), .int md_found, .int md_upTo, .ref (ad 5), .ref (ad 6), .ref (ad 7), .ref (ad 8), .int md_members, .int md_provedNow])), ((ad 1), .inl (cs 0, 126, .inl md_mono))]) [0, 1] rfl
  have hDc := hD.sub (ws' := [((ad 0), .inr (8, [.int 0, .int md_p, .int md_n, .int md_order, .int md_monomials, .ref (ad 1), .ref (ad 2), .int md_generators, .ref (ad 3), .ref (ad 4), .int md_found, .int md_upTo, .ref (ad 5), .ref (ad 6), .ref (ad 7), .ref (ad 8), .int md_members, .int md_provedNow])), ((ad 1), .inl (cs 0, 126, .inl md_mono))]) [0, 1] (by decide) rfl
  have hFc := va_free (wc := [((ad 0), .inr (8, [.int 0, .int md_p, .int md_n, .int md_order, .int md_monomials, .ref (ad 1), .ref (ad 2), .int md_generators, .ref (ad 3), .ref (ad 4), .int md_found, .int md_upTo, .ref (ad 5), .ref (ad 6), .ref (ad 7), .ref (ad 8), .int md_members, .int md_provedNow])), ((ad 1), .inl (cs 0, 126, .inl md_mono))]) hD hS hA [0, 1] rfl
  refine va_calli (va_runV (As := [.int p0]) (rest := []) ⟨hx, hb, hml, hown, hts⟩ (c_md_placeOf l dC dI cs ad  H.size 0 md_p md_n md_order md_monomials md_generators md_found md_upTo md_members md_provedNow md_mono p0 _ hv) (cwV 1 hts (gd_V kw_689 kw_690 kw_20 kw_41 kw_691) rfl rfl rfl (by decide +kernel) ⟨Nat.le_of_ble_eq_true rfl, Nat.le_of_ble_eq_true rfl⟩) ⟨fun a U g mk q => by obtain ⟨q0, q1, qP, qK, qD⟩ := q; exact ⟨q0, q1, qP, qK.call, qD⟩, va_recv hK hPc (ci := 8) (q0 := 0) rfl rfl, fun U hU hW => ⟨rfl, by rw [hU], by rw [hU]; exact hPc, vwK.warm hW ⟨hK, hN⟩, hDc.weaken (fun _ _ _ _ => trivial)⟩⟩ rfl rfl hl.1 rfl (lv_room (Nat.le_of_ble_eq_true rfl)) d_md_hand_7 ⟨Nat.zero_le _, Nat.zero_le _⟩) hS (fun q _ h => hFc q h) hFc (fun r_2 _u t H1 locs1 ht hvm hw hB hz1 hk1 hS => ?_)
  obtain ⟨hP1, hD1⟩ := hB
  rw [ht] at hP1
  obtain ⟨hP, hD⟩ := va_join (wr := [((ad 4), .inl (cs 0, 126, .inl md_hand))]) (w1 := [((ad 0), .inr (8, [.int 0, .int md_p, .int md_n, .int md_order, .int md_monomials, .ref (ad 1), .ref (ad 2), .int md_generators, .ref (ad 3), .ref (ad 4), .int md_found, .int md_upTo, .ref (ad 5), .ref (ad 6), .ref (ad 7), .ref (ad 8), .int md_members, .int md_provedNow])), ((ad 1), .inl (cs 0, 126, .inl md_mono))]) hP hD [0, 1] [2] rfl rfl (by decide) (by decide) hk1 hFc hP1 hD1
  generalize H1 = H at hP hS ⊢
  generalize locs1 = locs at hS ⊢
  have hP : va_P (dC, dI) vwCl [((ad 4), .inl (cs 0, 126, .inl md_hand)), ((ad 0), .inr (8, [.int 0, .int md_p, .int md_n, .int md_order, .int md_monomials, .ref (ad 1), .ref (ad 2), .int md_generators, .ref (ad 3), .ref (ad 4), .int md_found, .int md_upTo, .ref (ad 5), .ref (ad 6), .ref (ad 7), .ref (ad 8), .int md_members, .int md_provedNow])), ((ad 1), .inl (cs 0, 126, .inl md_mono))] H := hP
  have hD : va_D A [((ad 4), .inl (cs 0, 126, .inl md_hand)), ((ad 0), .inr (8, [.int 0, .int md_p, .int md_n, .int md_order, .int md_monomials, .ref (ad 1), .ref (ad 2), .int md_generators, .ref (ad 3), .ref (ad 4), .int md_found, .int md_upTo, .ref (ad 5), .ref (ad 6), .ref (ad 7), .ref (ad 8), .int md_members, .int md_provedNow])), ((ad 1), .inl (cs 0, 126, .inl md_mono))] := hD
  have hv := hw
  try dsimp only at hv
  refine lv_istore_n (lv' := [(2, .int r_2), (0, .ref (ad 0)), (1, .int p0)]) hx hb d_md_hand_10 rfl hl (by decide) rfl (fun ls hl => ?_)
  refine lv_iload_n hx hb d_md_hand_11 rfl (lv_at hl 0 rfl) ?_
  refine lv_if_ge (tgt := 19) hx hb d_md_hand_12 (by decide) (fun c_3 => ?_) (fun c_3 => ?_)
  · have hv := hv.1 c_3
    refine lv_aload_n hx hb d_md_hand_19 rfl (lv_at hl 1 rfl) ?_
    refine va_get (D := (dC, dI)) (ci := 8) (v := .ref (ad 4)) (C := R_md) (T := F_md) (N := 18) hx hb hts in_md hown hK hP 1 rfl rfl 9 (by decide) (hts _ kw_627) (fun _ h9 => h9) rfl d_md_hand_20 ?_
    refine lv_iload_n hx hb d_md_hand_23 rfl (lv_at hl 0 rfl) ?_
    obtain ⟨hi_4, hv⟩ := hv
    refine va_iald hx hb hK hP 0 0 rfl rfl hi_4 d_md_hand_24 ?_
    have hP9 := hP.sub (ws' := [((ad 0), .inr (8, [.int 0, .int md_p, .int md_n, .int md_order, .int md_monomials, .ref (ad 1), .ref (ad 2), .int md_generators, .ref (ad 3), .ref (ad 4), .int md_found, .int md_upTo, .ref (ad 5), .ref (ad 6), .ref (ad 7), .ref (ad 8), .int md_members, .int md_provedNow])), ((ad 1), .inl (cs 0, 126, .inl md_mono)), ((ad 4), .inl (cs 0, 126, .inl md_hand))]) [1, 2, 0] rfl
    have hD9 := hD.sub (ws' := [((ad 0), .inr (8, [.int 0, .int md_p, .int md_n, .int md_order, .int md_monomials, .ref (ad 1), .ref (ad 2), .int md_generators, .ref (ad 3), .ref (ad 4), .int md_found, .int md_upTo, .ref (ad 5), .ref (ad 6), .ref (ad 7), .ref (ad 8), .int md_members, .int md_provedNow])), ((ad 1), .inl (cs 0, 126, .inl md_mono)), ((ad 4), .inl (cs 0, 126, .inl md_hand))]) [1, 2, 0] (by decide) rfl
    exact W.iret (v := (md_hand r_2.toNatClampNeg)) hx hb hr (fun t ht hW => ⟨⟨(md_hand r_2.toNatClampNeg), 0, rfl, hv, by rw [ht]; exact hP9, hD9⟩, hS.F ht⟩) hS.2.2 d_md_hand_25
  · have hv := hv.2 c_3
    refine lv_iconst (v := 0) hx hb d_md_hand_15 (by decide) ?_
    refine lv_goto (tgt := 25) hx hb d_md_hand_16 (by decide) ?_
    have hP9 := hP.sub (ws' := [((ad 0), .inr (8, [.int 0, .int md_p, .int md_n, .int md_order, .int md_monomials, .ref (ad 1), .ref (ad 2), .int md_generators, .ref (ad 3), .ref (ad 4), .int md_found, .int md_upTo, .ref (ad 5), .ref (ad 6), .ref (ad 7), .ref (ad 8), .int md_members, .int md_provedNow])), ((ad 1), .inl (cs 0, 126, .inl md_mono)), ((ad 4), .inl (cs 0, 126, .inl md_hand))]) [1, 2, 0] rfl
    have hD9 := hD.sub (ws' := [((ad 0), .inr (8, [.int 0, .int md_p, .int md_n, .int md_order, .int md_monomials, .ref (ad 1), .ref (ad 2), .int md_generators, .ref (ad 3), .ref (ad 4), .int md_found, .int md_upTo, .ref (ad 5), .ref (ad 6), .ref (ad 7), .ref (ad 8), .int md_members, .int md_provedNow])), ((ad 1), .inl (cs 0, 126, .inl md_mono)), ((ad 4), .inl (cs 0, 126, .inl md_hand))]) [1, 2, 0] (by decide) rfl
    exact W.iret (v := 0) hx hb hr (fun t ht hW => ⟨⟨0, 0, rfl, hv, by rw [ht]; exact hP9, hD9⟩, hS.F ht⟩) hS.2.2 d_md_hand_25
abbrev b_md_join : ByteArray := prog_10_method_25_code
def y_md_join : MethodName := ⟨"SpaceBasisModel", "join", "()I"⟩
def w_md_join : List Cond := Cond.code y_md_join b_md_join 3 (some .int) :: vwWS
theorem d_md_join_0 : decode b_md_join 0 = .ok (.iconst 0, 1) := by decide +kernel
theorem d_md_join_1 : decode b_md_join 1 = .ok (.istore_n 1, 1) := by decide +kernel
theorem d_md_join_2 : decode b_md_join 2 = .ok (.iconst 0, 1) := by decide +kernel
theorem d_md_join_3 : decode b_md_join 3 = .ok (.istore_n 2, 1) := by decide +kernel
theorem d_md_join_4 : decode b_md_join 4 = .ok (.iload_n 2, 1) := by decide +kernel
theorem d_md_join_5 : decode b_md_join 5 = .ok (.aload_n 0, 1) := by decide +kernel
theorem d_md_join_6 : decode b_md_join 6 = .ok (.getfield 22, 3) := by decide +kernel
theorem d_md_join_9 : decode b_md_join 9 = .ok (.if_icmp .ge 20, 3) := by decide +kernel
theorem d_md_join_12 : decode b_md_join 12 = .ok (.aload_n 0, 1) := by decide +kernel
theorem d_md_join_13 : decode b_md_join 13 = .ok (.getfield 38, 3) := by decide +kernel
theorem d_md_join_16 : decode b_md_join 16 = .ok (.iload_n 2, 1) := by decide +kernel
theorem d_md_join_17 : decode b_md_join 17 = .ok (.iaload, 1) := by decide +kernel
theorem d_md_join_18 : decode b_md_join 18 = .ok (.ifCond .eq 5, 3) := by decide +kernel
theorem d_md_join_21 : decode b_md_join 21 = .ok (.iconst 1, 1) := by decide +kernel
theorem d_md_join_22 : decode b_md_join 22 = .ok (.istore_n 1, 1) := by decide +kernel
theorem d_md_join_23 : decode b_md_join 23 = .ok (.iinc 2 1, 3) := by decide +kernel
theorem d_md_join_26 : decode b_md_join 26 = .ok (.goto (-22), 3) := by decide +kernel
theorem d_md_join_29 : decode b_md_join 29 = .ok (.aload_n 0, 1) := by decide +kernel
theorem d_md_join_30 : decode b_md_join 30 = .ok (.iload_n 1, 1) := by decide +kernel
theorem d_md_join_31 : decode b_md_join 31 = .ok (.ifCond .ne 7, 3) := by decide +kernel
theorem d_md_join_34 : decode b_md_join 34 = .ok (.iconst 1, 1) := by decide +kernel
theorem d_md_join_35 : decode b_md_join 35 = .ok (.goto 17, 3) := by decide +kernel
theorem d_md_join_38 : decode b_md_join 38 = .ok (.aload_n 0, 1) := by decide +kernel
theorem d_md_join_39 : decode b_md_join 39 = .ok (.getfield 32, 3) := by decide +kernel
theorem d_md_join_42 : decode b_md_join 42 = .ok (.bipush 8, 2) := by decide +kernel
theorem d_md_join_44 : decode b_md_join 44 = .ok (.if_icmp .ne 7, 3) := by decide +kernel
theorem d_md_join_47 : decode b_md_join 47 = .ok (.iconst 2, 1) := by decide +kernel
theorem d_md_join_48 : decode b_md_join 48 = .ok (.goto 4, 3) := by decide +kernel
theorem d_md_join_51 : decode b_md_join 51 = .ok (.iconst 0, 1) := by decide +kernel
theorem d_md_join_52 : decode b_md_join 52 = .ok (.putfield 7, 3) := by decide +kernel
theorem d_md_join_55 : decode b_md_join 55 = .ok (.aload_n 0, 1) := by decide +kernel
theorem d_md_join_56 : decode b_md_join 56 = .ok (.getfield 7, 3) := by decide +kernel
theorem d_md_join_59 : decode b_md_join 59 = .ok (.ifCond .eq 5, 3) := by decide +kernel
theorem d_md_join_62 : decode b_md_join 62 = .ok (.iconst 0, 1) := by decide +kernel
theorem d_md_join_63 : decode b_md_join 63 = .ok (.ireturn, 1) := by decide +kernel
theorem d_md_join_64 : decode b_md_join 64 = .ok (.iconst 0, 1) := by decide +kernel
theorem d_md_join_65 : decode b_md_join 65 = .ok (.istore_n 2, 1) := by decide +kernel
theorem d_md_join_66 : decode b_md_join 66 = .ok (.iload_n 2, 1) := by decide +kernel
theorem d_md_join_67 : decode b_md_join 67 = .ok (.bipush 126, 2) := by decide +kernel
theorem d_md_join_69 : decode b_md_join 69 = .ok (.if_icmp .ge 24, 3) := by decide +kernel
theorem d_md_join_72 : decode b_md_join 72 = .ok (.aload_n 0, 1) := by decide +kernel
theorem d_md_join_73 : decode b_md_join 73 = .ok (.getfield 35, 3) := by decide +kernel
theorem d_md_join_76 : decode b_md_join 76 = .ok (.bipush 126, 2) := by decide +kernel
theorem d_md_join_78 : decode b_md_join 78 = .ok (.aload_n 0, 1) := by decide +kernel
theorem d_md_join_79 : decode b_md_join 79 = .ok (.getfield 32, 3) := by decide +kernel
theorem d_md_join_82 : decode b_md_join 82 = .ok (.imul, 1) := by decide +kernel
theorem d_md_join_83 : decode b_md_join 83 = .ok (.iload_n 2, 1) := by decide +kernel
theorem d_md_join_84 : decode b_md_join 84 = .ok (.iadd, 1) := by decide +kernel
theorem d_md_join_85 : decode b_md_join 85 = .ok (.iconst 0, 1) := by decide +kernel
theorem d_md_join_86 : decode b_md_join 86 = .ok (.iastore, 1) := by decide +kernel
theorem d_md_join_87 : decode b_md_join 87 = .ok (.iinc 2 1, 3) := by decide +kernel
theorem d_md_join_90 : decode b_md_join 90 = .ok (.goto (-24), 3) := by decide +kernel
theorem d_md_join_93 : decode b_md_join 93 = .ok (.iconst 0, 1) := by decide +kernel
theorem d_md_join_94 : decode b_md_join 94 = .ok (.istore_n 2, 1) := by decide +kernel
theorem d_md_join_95 : decode b_md_join 95 = .ok (.iload_n 2, 1) := by decide +kernel
theorem d_md_join_96 : decode b_md_join 96 = .ok (.aload_n 0, 1) := by decide +kernel
theorem d_md_join_97 : decode b_md_join 97 = .ok (.getfield 22, 3) := by decide +kernel
theorem d_md_join_100 : decode b_md_join 100 = .ok (.if_icmp .ge 36, 3) := by decide +kernel
theorem d_md_join_103 : decode b_md_join 103 = .ok (.aload_n 0, 1) := by decide +kernel
theorem d_md_join_104 : decode b_md_join 104 = .ok (.getfield 35, 3) := by decide +kernel
theorem d_md_join_107 : decode b_md_join 107 = .ok (.bipush 126, 2) := by decide +kernel
theorem d_md_join_109 : decode b_md_join 109 = .ok (.aload_n 0, 1) := by decide +kernel
theorem d_md_join_110 : decode b_md_join 110 = .ok (.getfield 32, 3) := by decide +kernel
theorem d_md_join_113 : decode b_md_join 113 = .ok (.imul, 1) := by decide +kernel
theorem d_md_join_114 : decode b_md_join 114 = .ok (.iload_n 2, 1) := by decide +kernel
theorem d_md_join_115 : decode b_md_join 115 = .ok (.iadd, 1) := by decide +kernel
theorem d_md_join_116 : decode b_md_join 116 = .ok (.aload_n 0, 1) := by decide +kernel
theorem d_md_join_117 : decode b_md_join 117 = .ok (.getfield 38, 3) := by decide +kernel
theorem d_md_join_120 : decode b_md_join 120 = .ok (.iload_n 2, 1) := by decide +kernel
theorem d_md_join_121 : decode b_md_join 121 = .ok (.iaload, 1) := by decide +kernel
theorem d_md_join_122 : decode b_md_join 122 = .ok (.iastore, 1) := by decide +kernel
theorem d_md_join_123 : decode b_md_join 123 = .ok (.aload_n 0, 1) := by decide +kernel
theorem d_md_join_124 : decode b_md_join 124 = .ok (.getfield 38, 3) := by decide +kernel
theorem d_md_join_127 : decode b_md_join 127 = .ok (.iload_n 2, 1) := by decide +kernel
theorem d_md_join_128 : decode b_md_join 128 = .ok (.iconst 0, 1) := by decide +kernel
theorem d_md_join_129 : decode b_md_join 129 = .ok (.iastore, 1) := by decide +kernel
theorem d_md_join_130 : decode b_md_join 130 = .ok (.iinc 2 1, 3) := by decide +kernel
theorem d_md_join_133 : decode b_md_join 133 = .ok (.goto (-38), 3) := by decide +kernel
theorem d_md_join_136 : decode b_md_join 136 = .ok (.aload_n 0, 1) := by decide +kernel
theorem d_md_join_137 : decode b_md_join 137 = .ok (.dup, 1) := by decide +kernel
theorem d_md_join_138 : decode b_md_join 138 = .ok (.getfield 32, 3) := by decide +kernel
theorem d_md_join_141 : decode b_md_join 141 = .ok (.iconst 1, 1) := by decide +kernel
theorem d_md_join_142 : decode b_md_join 142 = .ok (.iadd, 1) := by decide +kernel
theorem d_md_join_143 : decode b_md_join 143 = .ok (.putfield 32, 3) := by decide +kernel
theorem d_md_join_146 : decode b_md_join 146 = .ok (.aload_n 0, 1) := by decide +kernel
theorem d_md_join_147 : decode b_md_join 147 = .ok (.iconst 0, 1) := by decide +kernel
theorem d_md_join_148 : decode b_md_join 148 = .ok (.putfield 41, 3) := by decide +kernel
theorem d_md_join_151 : decode b_md_join 151 = .ok (.aload_n 0, 1) := by decide +kernel
theorem d_md_join_152 : decode b_md_join 152 = .ok (.getfield 32, 3) := by decide +kernel
theorem d_md_join_155 : decode b_md_join 155 = .ok (.ireturn, 1) := by decide +kernel
/-- SpaceBasisModel.join()I -/
def vc_md_join (md_thrownCode : Int32) (md_p : Int32) (md_n : Int32) (md_order : Int32) (md_monomials : Int32) (md_generators : Int32) (md_found : Int32) (md_upTo : Int32) (md_members : Int32) (md_provedNow : Int32) (md_generator : Nat → Int32) (md_hand : Nat → Int32) (Q : Int32 → Int32 → Int32 → Int32 → (Nat → Int32) → (Nat → Int32) → Prop) : Prop :=
  ∃ (I4_3 : Int32 → Int32 → Prop) (mu4_4 : Int32 → Int32 → Nat), I4_3 0 0 ∧ ∀ (x1_1 : Int32) (x2_2 : Int32), I4_3 x1_1 x2_2 → ((((md_monomials ≤ x2_2) → ((((¬ (x1_1 = 0)) → ((((¬ (md_generators = 8)) → (((((0 : Int32) = 0) → (∃ (I66_12 : Int32 → (Nat → Int32) → Prop) (mu66_13 : Int32 → (Nat → Int32) → Nat), I66_12 0 md_generator ∧ ∀ (x2_10 : Int32) (md_generator_11 : Nat → Int32), I66_12 x2_10 md_generator_11 → ((((126 ≤ x2_10) → (∃ (I95_18 : Int32 → (Nat → Int32) → (Nat → Int32) → Prop) (mu95_19 : Int32 → (Nat → Int32) → (Nat → Int32) → Nat), I95_18 0 md_generator_11 md_hand ∧ ∀ (x2_15 : Int32) (md_generator_16 : Nat → Int32) (md_hand_17 : Nat → Int32), I95_18 x2_15 md_generator_16 md_hand_17 → ((((md_monomials ≤ x2_15) → (∀ y_22 : Int32, y_22 = (md_generators + 1) → Q y_22 0 y_22 0 md_generator_16 md_hand_17)) ∧ ((¬ (md_monomials ≤ x2_15)) → (vp_in x2_15 126 ∧ vp_in ((126 * md_generators) + x2_15) 1008 ∧ ∀ md_generator_26 : Nat → Int32, md_generator_26 = upd md_generator_16 (((126 * md_generators) + x2_15)).toNatClampNeg (md_hand_17 x2_15.toNatClampNeg) → vp_in x2_15 126 ∧ ∀ md_hand_28 : Nat → Int32, md_hand_28 = upd md_hand_17 x2_15.toNatClampNeg 0 → ∀ x2_29 : Int32, x2_29 = x2_15 + 1 → (I95_18 x2_29 md_generator_26 md_hand_28 ∧ mu95_19 x2_29 md_generator_26 md_hand_28 < mu95_19 x2_15 md_generator_16 md_hand_17))))))) ∧ ((¬ (126 ≤ x2_10)) → (vp_in ((126 * md_generators) + x2_10) 1008 ∧ ∀ md_generator_31 : Nat → Int32, md_generator_31 = upd md_generator_11 (((126 * md_generators) + x2_10)).toNatClampNeg 0 → ∀ x2_32 : Int32, x2_32 = x2_10 + 1 → (I66_12 x2_32 md_generator_31 ∧ mu66_13 x2_32 md_generator_31 < mu66_13 x2_10 md_generator_11))))))) ∧ ((¬ ((0 : Int32) = 0)) → (Q 0 0 md_generators md_found md_generator md_hand))))) ∧ ((md_generators = 8) → (((((2 : Int32) = 0) → (∃ (I66_37 : Int32 → (Nat → Int32) → Prop) (mu66_38 : Int32 → (Nat → Int32) → Nat), I66_37 0 md_generator ∧ ∀ (x2_35 : Int32) (md_generator_36 : Nat → Int32), I66_37 x2_35 md_generator_36 → ((((126 ≤ x2_35) → (∃ (I95_43 : Int32 → (Nat → Int32) → (Nat → Int32) → Prop) (mu95_44 : Int32 → (Nat → Int32) → (Nat → Int32) → Nat), I95_43 0 md_generator_36 md_hand ∧ ∀ (x2_40 : Int32) (md_generator_41 : Nat → Int32) (md_hand_42 : Nat → Int32), I95_43 x2_40 md_generator_41 md_hand_42 → ((((md_monomials ≤ x2_40) → (∀ y_47 : Int32, y_47 = (md_generators + 1) → Q y_47 2 y_47 0 md_generator_41 md_hand_42)) ∧ ((¬ (md_monomials ≤ x2_40)) → (vp_in x2_40 126 ∧ vp_in ((126 * md_generators) + x2_40) 1008 ∧ ∀ md_generator_51 : Nat → Int32, md_generator_51 = upd md_generator_41 (((126 * md_generators) + x2_40)).toNatClampNeg (md_hand_42 x2_40.toNatClampNeg) → vp_in x2_40 126 ∧ ∀ md_hand_53 : Nat → Int32, md_hand_53 = upd md_hand_42 x2_40.toNatClampNeg 0 → ∀ x2_54 : Int32, x2_54 = x2_40 + 1 → (I95_43 x2_54 md_generator_51 md_hand_53 ∧ mu95_44 x2_54 md_generator_51 md_hand_53 < mu95_44 x2_40 md_generator_41 md_hand_42))))))) ∧ ((¬ (126 ≤ x2_35)) → (vp_in ((126 * md_generators) + x2_35) 1008 ∧ ∀ md_generator_56 : Nat → Int32, md_generator_56 = upd md_generator_36 (((126 * md_generators) + x2_35)).toNatClampNeg 0 → ∀ x2_57 : Int32, x2_57 = x2_35 + 1 → (I66_37 x2_57 md_generator_56 ∧ mu66_38 x2_57 md_generator_56 < mu66_38 x2_35 md_generator_36))))))) ∧ ((¬ ((2 : Int32) = 0)) → (Q 0 2 md_generators md_found md_generator md_hand)))))))) ∧ ((x1_1 = 0) → (((((1 : Int32) = 0) → (∃ (I66_62 : Int32 → (Nat → Int32) → Prop) (mu66_63 : Int32 → (Nat → Int32) → Nat), I66_62 0 md_generator ∧ ∀ (x2_60 : Int32) (md_generator_61 : Nat → Int32), I66_62 x2_60 md_generator_61 → ((((126 ≤ x2_60) → (∃ (I95_68 : Int32 → (Nat → Int32) → (Nat → Int32) → Prop) (mu95_69 : Int32 → (Nat → Int32) → (Nat → Int32) → Nat), I95_68 0 md_generator_61 md_hand ∧ ∀ (x2_65 : Int32) (md_generator_66 : Nat → Int32) (md_hand_67 : Nat → Int32), I95_68 x2_65 md_generator_66 md_hand_67 → ((((md_monomials ≤ x2_65) → (∀ y_72 : Int32, y_72 = (md_generators + 1) → Q y_72 1 y_72 0 md_generator_66 md_hand_67)) ∧ ((¬ (md_monomials ≤ x2_65)) → (vp_in x2_65 126 ∧ vp_in ((126 * md_generators) + x2_65) 1008 ∧ ∀ md_generator_76 : Nat → Int32, md_generator_76 = upd md_generator_66 (((126 * md_generators) + x2_65)).toNatClampNeg (md_hand_67 x2_65.toNatClampNeg) → vp_in x2_65 126 ∧ ∀ md_hand_78 : Nat → Int32, md_hand_78 = upd md_hand_67 x2_65.toNatClampNeg 0 → ∀ x2_79 : Int32, x2_79 = x2_65 + 1 → (I95_68 x2_79 md_generator_76 md_hand_78 ∧ mu95_69 x2_79 md_generator_76 md_hand_78 < mu95_69 x2_65 md_generator_66 md_hand_67))))))) ∧ ((¬ (126 ≤ x2_60)) → (vp_in ((126 * md_generators) + x2_60) 1008 ∧ ∀ md_generator_81 : Nat → Int32, md_generator_81 = upd md_generator_61 (((126 * md_generators) + x2_60)).toNatClampNeg 0 → ∀ x2_82 : Int32, x2_82 = x2_60 + 1 → (I66_62 x2_82 md_generator_81 ∧ mu66_63 x2_82 md_generator_81 < mu66_63 x2_60 md_generator_61))))))) ∧ ((¬ ((1 : Int32) = 0)) → (Q 0 1 md_generators md_found md_generator md_hand)))))))) ∧ ((¬ (md_monomials ≤ x2_2)) → (vp_in x2_2 126 ∧ ((((md_hand x2_2.toNatClampNeg) = 0) → (∀ x2_85 : Int32, x2_85 = x2_2 + 1 → (I4_3 x1_1 x2_85 ∧ mu4_4 x1_1 x2_85 < mu4_4 x1_1 x2_2))) ∧ ((¬ ((md_hand x2_2.toNatClampNeg) = 0)) → (∀ x2_86 : Int32, x2_86 = x2_2 + 1 → (I4_3 1 x2_86 ∧ mu4_4 1 x2_86 < mu4_4 x1_1 x2_2))))))))
abbrev at_md_join (dC : Nat → ClassId) (dI : Nat → Nat → Nat) (cs : Nat → ClassId) (A : Nat → Prop) (ad : Nat → Nat) (md_p : Int32) (md_n : Int32) (md_order : Int32) (md_monomials : Int32) (md_upTo : Int32) (md_members : Int32) (md_provedNow : Int32) (u : Int32 × Int32 × Int32 × (Nat → Int32) × (Nat → Int32)) (t : State) : Prop := match u with
  | (md_thrownCode, md_generators, md_found, md_generator, md_hand) => va_P (dC, dI) vwCl [((ad 0), .inr (8, [.int md_thrownCode, .int md_p, .int md_n, .int md_order, .int md_monomials, .ref (ad 1), .ref (ad 2), .int md_generators, .ref (ad 3), .ref (ad 4), .int md_found, .int md_upTo, .ref (ad 5), .ref (ad 6), .ref (ad 7), .ref (ad 8), .int md_members, .int md_provedNow])), ((ad 3), .inl (cs 0, 1008, .inl md_generator)), ((ad 4), .inl (cs 0, 126, .inl md_hand))] t.heap ∧ va_D A [((ad 0), .inr (8, [.int md_thrownCode, .int md_p, .int md_n, .int md_order, .int md_monomials, .ref (ad 1), .ref (ad 2), .int md_generators, .ref (ad 3), .ref (ad 4), .int md_found, .int md_upTo, .ref (ad 5), .ref (ad 6), .ref (ad 7), .ref (ad 8), .int md_members, .int md_provedNow])), ((ad 3), .inl (cs 0, 1008, .inl md_generator)), ((ad 4), .inl (cs 0, 126, .inl md_hand))]
set_option maxHeartbeats 4000000 in
set_option maxRecDepth 100000 in
theorem c_md_join (l : Launch) (dC : Nat → ClassId) (dI : Nat → Nat → Nat) (cs : Nat → ClassId) (ad : Nat → Nat)  (sz : Nat) (md_thrownCode : Int32) (md_p : Int32) (md_n : Int32) (md_order : Int32) (md_monomials : Int32) (md_generators : Int32) (md_found : Int32) (md_upTo : Int32) (md_members : Int32) (md_provedNow : Int32) (md_generator : Nat → Int32) (md_hand : Nat → Int32) (Q : Int32 → Int32 → Int32 → Int32 → (Nat → Int32) → (Nat → Int32) → Prop) (hv : vc_md_join md_thrownCode md_p md_n md_order md_monomials md_generators md_found md_upTo md_members md_provedNow md_generator md_hand Q) : Met l y_md_join w_md_join ({ frames := 0, cells := 0, slots := 0, locals := 0 }) (va_Pc [.ref (ad 0)] (fun U => U.heap.size = sz ∧ va_P (dC, dI) vwCl [((ad 0), .inr (8, [.int md_thrownCode, .int md_p, .int md_n, .int md_order, .int md_monomials, .ref (ad 1), .ref (ad 2), .int md_generators, .ref (ad 3), .ref (ad 4), .int md_found, .int md_upTo, .ref (ad 5), .ref (ad 6), .ref (ad 7), .ref (ad 8), .int md_members, .int md_provedNow])), ((ad 3), .inl (cs 0, 1008, .inl md_generator)), ((ad 4), .inl (cs 0, 126, .inl md_hand))] U.heap ∧ vwK dC dI cs U ∧ va_D (fun _ => True) [((ad 0), .inr (8, [.int md_thrownCode, .int md_p, .int md_n, .int md_order, .int md_monomials, .ref (ad 1), .ref (ad 2), .int md_generators, .ref (ad 3), .ref (ad 4), .int md_found, .int md_upTo, .ref (ad 5), .ref (ad 6), .ref (ad 7), .ref (ad 8), .int md_members, .int md_provedNow])), ((ad 3), .inl (cs 0, 1008, .inl md_generator)), ((ad 4), .inl (cs 0, 126, .inl md_hand))])) (va_Qi (fun (r : Int32) (u : Int32 × Int32 × Int32 × (Nat → Int32) × (Nat → Int32)) => Q r u.1 u.2.1 u.2.2.1 u.2.2.2.1 u.2.2.2.2) (at_md_join dC dI cs (va_A [((ad 0), .inr (8, [.int md_thrownCode, .int md_p, .int md_n, .int md_order, .int md_monomials, .ref (ad 1), .ref (ad 2), .int md_generators, .ref (ad 3), .ref (ad 4), .int md_found, .int md_upTo, .ref (ad 5), .ref (ad 6), .ref (ad 7), .ref (ad 8), .int md_members, .int md_provedNow])), ((ad 3), .inl (cs 0, 1008, .inl md_generator)), ((ad 4), .inl (cs 0, 126, .inl md_hand))] sz) ad md_p md_n md_order md_monomials md_upTo md_members md_provedNow) (va_A [((ad 0), .inr (8, [.int md_thrownCode, .int md_p, .int md_n, .int md_order, .int md_monomials, .ref (ad 1), .ref (ad 2), .int md_generators, .ref (ad 3), .ref (ad 4), .int md_found, .int md_upTo, .ref (ad 5), .ref (ad 6), .ref (ad 7), .ref (ad 8), .int md_members, .int md_provedNow])), ((ad 3), .inl (cs 0, 1008, .inl md_generator)), ((ad 4), .inl (cs 0, 126, .inl md_hand))] sz)) 0 0 (va_A [((ad 0), .inr (8, [.int md_thrownCode, .int md_p, .int md_n, .int md_order, .int md_monomials, .ref (ad 1), .ref (ad 2), .int md_generators, .ref (ad 3), .ref (ad 4), .int md_found, .int md_upTo, .ref (ad 5), .ref (ad 6), .ref (ad 7), .ref (ad 8), .int md_members, .int md_provedNow])), ((ad 3), .inl (cs 0, 1008, .inl md_generator)), ((ad 4), .inl (cs 0, 126, .inl md_hand))] sz) := by
  unfold vc_md_join at hv
  refine Met.ofW (cc := b_md_join) (maxL := 3) (ret := (some .int)) (by decide) rfl ?_
  intro p e s m args below meth c s₁ B hml hpc
  obtain ⟨rfl, hsz, hP, ⟨hK, hN⟩, hD0⟩ := hpc
  have hx := B.exec
  have hb := B.bytes
  have hr := B.returns
  have hts : ∀ w ∈ vwWS, w.before _ s = true := fun w h => atoms_spec (ws := w_md_join) B.pre w (List.mem_cons_of_mem _ h)
  have hown : s.vm.findClass "SpaceBasisModel" = some m.cls := findClass_of_methodNamed B.named
  have hlocks := B.notSynchronized
  subst hsz
  have hD := hD0.self (sz := s.heap.size)
  generalize hAe : va_A [((ad 0), .inr (8, [.int md_thrownCode, .int md_p, .int md_n, .int md_order, .int md_monomials, .ref (ad 1), .ref (ad 2), .int md_generators, .ref (ad 3), .ref (ad 4), .int md_found, .int md_upTo, .ref (ad 5), .ref (ad 6), .ref (ad 7), .ref (ad 8), .int md_members, .int md_provedNow])), ((ad 3), .inl (cs 0, 1008, .inl md_generator)), ((ad 4), .inl (cs 0, 126, .inl md_hand))] s.heap.size = A at hD ⊢
  have hA : ∀ q : Nat, s.heap.size ≤ q → A q := fun q h => by rw [← hAe]; exact Or.inr h
  have hS : va_S A s.heap s.heap [] := va_S.rf
  have hl := lv_entry ([.ref (ad 0)]) (n := 3) (Nat.le_of_ble_eq_true rfl)
  rw [lg_entry_eq]
  generalize (lg_sl ([.ref (ad 0)]) ++ List.replicate (3 - (lg_sl ([.ref (ad 0)])).length) Slot.unset).toArray = ls at hl ⊢
  have hl : lv_has ls 3 [(0, .ref (ad 0))] := hl
  refine lv_iconst (v := 0) hx hb d_md_join_0 (by decide) ?_
  refine lv_istore_n (lv' := [(1, .int 0), (0, .ref (ad 0))]) hx hb d_md_join_1 rfl hl (by decide) rfl (fun ls hl => ?_)
  refine lv_iconst (v := 0) hx hb d_md_join_2 (by decide) ?_
  refine lv_istore_n (lv' := [(2, .int 0), (1, .int 0), (0, .ref (ad 0))]) hx hb d_md_join_3 rfl hl (by decide) rfl (fun ls hl => ?_)
  obtain ⟨I4_3, mu4_4, hi0, hv⟩ := hv
  have hP := hP.sub (ws' := [((ad 0), .inr (8, [.int md_thrownCode, .int md_p, .int md_n, .int md_order, .int md_monomials, .ref (ad 1), .ref (ad 2), .int md_generators, .ref (ad 3), .ref (ad 4), .int md_found, .int md_upTo, .ref (ad 5), .ref (ad 6), .ref (ad 7), .ref (ad 8), .int md_members, .int md_provedNow])), ((ad 3), .inl (cs 0, 1008, .inl md_generator)), ((ad 4), .inl (cs 0, 126, .inl md_hand))]) [0, 1, 2] rfl
  have hD := hD.sub (ws' := [((ad 0), .inr (8, [.int md_thrownCode, .int md_p, .int md_n, .int md_order, .int md_monomials, .ref (ad 1), .ref (ad 2), .int md_generators, .ref (ad 3), .ref (ad 4), .int md_found, .int md_upTo, .ref (ad 5), .ref (ad 6), .ref (ad 7), .ref (ad 8), .int md_members, .int md_provedNow])), ((ad 3), .inl (cs 0, 1008, .inl md_generator)), ((ad 4), .inl (cs 0, 126, .inl md_hand))]) [0, 1, 2] (by decide) rfl
  have hl := lv_sub (l' := [(0, .ref (ad 0)), (1, .int 0), (2, .int 0)]) hl [2, 1, 0] rfl
  have loop4 : ∀ (nn : Nat) (x1_1 : Int32) (x2_2 : Int32), mu4_4 x1_1 x2_2 < nn → I4_3 x1_1 x2_2 → ∀ (H : Heap) (locs : List Loc) (ls : Array Slot), va_P (dC, dI) vwCl [((ad 0), .inr (8, [.int md_thrownCode, .int md_p, .int md_n, .int md_order, .int md_monomials, .ref (ad 1), .ref (ad 2), .int md_generators, .ref (ad 3), .ref (ad 4), .int md_found, .int md_upTo, .ref (ad 5), .ref (ad 6), .ref (ad 7), .ref (ad 8), .int md_members, .int md_provedNow])), ((ad 3), .inl (cs 0, 1008, .inl md_generator)), ((ad 4), .inl (cs 0, 126, .inl md_hand))] H → va_D A [((ad 0), .inr (8, [.int md_thrownCode, .int md_p, .int md_n, .int md_order, .int md_monomials, .ref (ad 1), .ref (ad 2), .int md_generators, .ref (ad 3), .ref (ad 4), .int md_found, .int md_upTo, .ref (ad 5), .ref (ad 6), .ref (ad 7), .ref (ad 8), .int md_members, .int md_provedNow])), ((ad 3), .inl (cs 0, 1008, .inl md_generator)), ((ad 4), .inl (cs 0, 126, .inl md_hand))] → va_S A s.heap H locs → lv_has ls 3 [(0, .ref (ad 0)), (1, .int x1_1), (2, .int x2_2)] → W p l e (headSpec w_md_join { frames := 0, cells := 0, slots := 0, locals := 0 }).room s m ([.ref (ad 0)] : List Value).toArray below meth c H locs 0 0 (MQ below (va_Qi (fun (r : Int32) (u : Int32 × Int32 × Int32 × (Nat → Int32) × (Nat → Int32)) => Q r u.1 u.2.1 u.2.2.1 u.2.2.2.1 u.2.2.2.2) (at_md_join dC dI cs A ad md_p md_n md_order md_monomials md_upTo md_members md_provedNow) A) ([.ref (ad 0)] : List Value).toArray s 0 0 A) (F0 m 4 ls []) := by
    intro nn
    induction nn with
    | zero => intro x1_1 x2_2 hlt; exact absurd hlt (Nat.not_lt_zero _)
    | succ nn ih4 =>
      intro x1_1 x2_2 hlt4 hI H locs ls hP hD hS hl
      have hv := hv x1_1 x2_2 hI
      refine lv_iload_n hx hb d_md_join_4 rfl (lv_at hl 2 rfl) ?_
      refine lv_aload_n hx hb d_md_join_5 rfl (lv_at hl 0 rfl) ?_
      refine va_get (D := (dC, dI)) (ci := 8) (v := .int md_monomials) (C := R_md) (T := F_md) (N := 18) hx hb hts in_md hown hK hP 0 rfl rfl 4 (by decide) (hts _ kw_622) (fun _ h9 => h9) rfl d_md_join_6 ?_
      refine lv_icmp_ge (tgt := 29) hx hb d_md_join_9 (by decide) (fun c_5 => ?_) (fun c_5 => ?_)
      · have hv := hv.1 c_5
        refine lv_aload_n hx hb d_md_join_29 rfl (lv_at hl 0 rfl) ?_
        refine lv_iload_n hx hb d_md_join_30 rfl (lv_at hl 1 rfl) ?_
        refine lv_if_ne (tgt := 38) hx hb d_md_join_31 (by decide) (fun c_6 => ?_) (fun c_6 => ?_)
        · have hv := hv.1 c_6
          refine lv_aload_n hx hb d_md_join_38 rfl (lv_at hl 0 rfl) ?_
          refine va_get (D := (dC, dI)) (ci := 8) (v := .int md_generators) (C := R_md) (T := F_md) (N := 18) hx hb hts in_md hown hK hP 0 rfl rfl 7 (by decide) (hts _ kw_625) (fun _ h9 => h9) rfl d_md_join_39 ?_
          refine lv_bipush (v := 8) hx hb d_md_join_42 (by decide) ?_
          refine lv_icmp_ne (tgt := 51) hx hb d_md_join_44 (by decide) (fun c_7 => ?_) (fun c_7 => ?_)
          · have hv := hv.1 c_7
            refine lv_iconst (v := 0) hx hb d_md_join_51 (by decide) ?_
            refine va_put (D := (dC, dI)) (ci := 8) (v := .int 0) (ty := .int) (C := R_md) (T := F_md) (N := 18) hx hb hts in_md t_md t_md_ok n_md hown hK hP hD hS 0 rfl rfl 0 (by decide) (hts _ kw_618) (fun _ h9 => h9) rfl (by decide +kernel) rfl rfl (Nat.le_of_ble_eq_true rfl) d_md_join_52 (fun H locs hP hD hS => ?_)
            have hP : va_P (dC, dI) vwCl [((ad 0), .inr (8, [.int 0, .int md_p, .int md_n, .int md_order, .int md_monomials, .ref (ad 1), .ref (ad 2), .int md_generators, .ref (ad 3), .ref (ad 4), .int md_found, .int md_upTo, .ref (ad 5), .ref (ad 6), .ref (ad 7), .ref (ad 8), .int md_members, .int md_provedNow])), ((ad 3), .inl (cs 0, 1008, .inl md_generator)), ((ad 4), .inl (cs 0, 126, .inl md_hand))] H := hP
            have hD : va_D A [((ad 0), .inr (8, [.int 0, .int md_p, .int md_n, .int md_order, .int md_monomials, .ref (ad 1), .ref (ad 2), .int md_generators, .ref (ad 3), .ref (ad 4), .int md_found, .int md_upTo, .ref (ad 5), .ref (ad 6), .ref (ad 7), .ref (ad 8), .int md_members, .int md_provedNow])), ((ad 3), .inl (cs 0, 1008, .inl md_generator)), ((ad 4), .inl (cs 0, 126, .inl md_hand))] := hD
            refine lv_aload_n hx hb d_md_join_55 rfl (lv_at hl 0 rfl) ?_
            refine va_get (D := (dC, dI)) (ci := 8) (v := .int 0) (C := R_md) (T := F_md) (N := 18) hx hb hts in_md hown hK hP 0 rfl rfl 0 (by decide) (hts _ kw_618) (fun _ h9 => h9) rfl d_md_join_56 ?_
            refine lv_if_eq (tgt := 64) hx hb d_md_join_59 (by decide) (fun c_9 => ?_) (fun c_9 => ?_)
            · have hv := hv.1 c_9
              refine lv_iconst (v := 0) hx hb d_md_join_64 (by decide) ?_
              refine lv_istore_n (lv' := [(2, .int 0), (0, .ref (ad 0)), (1, .int x1_1)]) hx hb d_md_join_65 rfl hl (by decide) rfl (fun ls hl => ?_)
              obtain ⟨I66_12, mu66_13, hi0, hv⟩ := hv
              have hP := hP.sub (ws' := [((ad 0), .inr (8, [.int 0, .int md_p, .int md_n, .int md_order, .int md_monomials, .ref (ad 1), .ref (ad 2), .int md_generators, .ref (ad 3), .ref (ad 4), .int md_found, .int md_upTo, .ref (ad 5), .ref (ad 6), .ref (ad 7), .ref (ad 8), .int md_members, .int md_provedNow])), ((ad 3), .inl (cs 0, 1008, .inl md_generator)), ((ad 4), .inl (cs 0, 126, .inl md_hand))]) [0, 1, 2] rfl
              have hD := hD.sub (ws' := [((ad 0), .inr (8, [.int 0, .int md_p, .int md_n, .int md_order, .int md_monomials, .ref (ad 1), .ref (ad 2), .int md_generators, .ref (ad 3), .ref (ad 4), .int md_found, .int md_upTo, .ref (ad 5), .ref (ad 6), .ref (ad 7), .ref (ad 8), .int md_members, .int md_provedNow])), ((ad 3), .inl (cs 0, 1008, .inl md_generator)), ((ad 4), .inl (cs 0, 126, .inl md_hand))]) [0, 1, 2] (by decide) rfl
              have hl := lv_sub (l' := [(0, .ref (ad 0)), (1, .int x1_1), (2, .int 0)]) hl [1, 2, 0] rfl
              have loop66 : ∀ (nn : Nat) (x2_10 : Int32) (md_generator_11 : Nat → Int32), mu66_13 x2_10 md_generator_11 < nn → I66_12 x2_10 md_generator_11 → ∀ (H : Heap) (locs : List Loc) (ls : Array Slot), va_P (dC, dI) vwCl [((ad 0), .inr (8, [.int 0, .int md_p, .int md_n, .int md_order, .int md_monomials, .ref (ad 1), .ref (ad 2), .int md_generators, .ref (ad 3), .ref (ad 4), .int md_found, .int md_upTo, .ref (ad 5), .ref (ad 6), .ref (ad 7), .ref (ad 8), .int md_members, .int md_provedNow])), ((ad 3), .inl (cs 0, 1008, .inl md_generator_11)), ((ad 4), .inl (cs 0, 126, .inl md_hand))] H → va_D A [((ad 0), .inr (8, [.int 0, .int md_p, .int md_n, .int md_order, .int md_monomials, .ref (ad 1), .ref (ad 2), .int md_generators, .ref (ad 3), .ref (ad 4), .int md_found, .int md_upTo, .ref (ad 5), .ref (ad 6), .ref (ad 7), .ref (ad 8), .int md_members, .int md_provedNow])), ((ad 3), .inl (cs 0, 1008, .inl md_generator_11)), ((ad 4), .inl (cs 0, 126, .inl md_hand))] → va_S A s.heap H locs → lv_has ls 3 [(0, .ref (ad 0)), (1, .int x1_1), (2, .int x2_10)] → W p l e (headSpec w_md_join { frames := 0, cells := 0, slots := 0, locals := 0 }).room s m ([.ref (ad 0)] : List Value).toArray below meth c H locs 0 0 (MQ below (va_Qi (fun (r : Int32) (u : Int32 × Int32 × Int32 × (Nat → Int32) × (Nat → Int32)) => Q r u.1 u.2.1 u.2.2.1 u.2.2.2.1 u.2.2.2.2) (at_md_join dC dI cs A ad md_p md_n md_order md_monomials md_upTo md_members md_provedNow) A) ([.ref (ad 0)] : List Value).toArray s 0 0 A) (F0 m 66 ls []) := by
                intro nn
                induction nn with
                | zero => intro x2_10 md_generator_11 hlt; exact absurd hlt (Nat.not_lt_zero _)
                | succ nn ih66 =>
                  intro x2_10 md_generator_11 hlt66 hI H locs ls hP hD hS hl
                  have hv := hv x2_10 md_generator_11 hI
                  refine lv_iload_n hx hb d_md_join_66 rfl (lv_at hl 2 rfl) ?_
                  refine lv_bipush (v := 126) hx hb d_md_join_67 (by decide) ?_
                  refine lv_icmp_ge (tgt := 93) hx hb d_md_join_69 (by decide) (fun c_14 => ?_) (fun c_14 => ?_)
                  · have hv := hv.1 c_14
                    refine lv_iconst (v := 0) hx hb d_md_join_93 (by decide) ?_
                    refine lv_istore_n (lv' := [(2, .int 0), (0, .ref (ad 0)), (1, .int x1_1)]) hx hb d_md_join_94 rfl hl (by decide) rfl (fun ls hl => ?_)
                    obtain ⟨I95_18, mu95_19, hi0, hv⟩ := hv
                    have hP := hP.sub (ws' := [((ad 0), .inr (8, [.int 0, .int md_p, .int md_n, .int md_order, .int md_monomials, .ref (ad 1), .ref (ad 2), .int md_generators, .ref (ad 3), .ref (ad 4), .int md_found, .int md_upTo, .ref (ad 5), .ref (ad 6), .ref (ad 7), .ref (ad 8), .int md_members, .int md_provedNow])), ((ad 3), .inl (cs 0, 1008, .inl md_generator_11)), ((ad 4), .inl (cs 0, 126, .inl md_hand))]) [0, 1, 2] rfl
                    have hD := hD.sub (ws' := [((ad 0), .inr (8, [.int 0, .int md_p, .int md_n, .int md_order, .int md_monomials, .ref (ad 1), .ref (ad 2), .int md_generators, .ref (ad 3), .ref (ad 4), .int md_found, .int md_upTo, .ref (ad 5), .ref (ad 6), .ref (ad 7), .ref (ad 8), .int md_members, .int md_provedNow])), ((ad 3), .inl (cs 0, 1008, .inl md_generator_11)), ((ad 4), .inl (cs 0, 126, .inl md_hand))]) [0, 1, 2] (by decide) rfl
                    have hl := lv_sub (l' := [(0, .ref (ad 0)), (1, .int x1_1), (2, .int 0)]) hl [1, 2, 0] rfl
                    have loop95 : ∀ (nn : Nat) (x2_15 : Int32) (md_generator_16 : Nat → Int32) (md_hand_17 : Nat → Int32), mu95_19 x2_15 md_generator_16 md_hand_17 < nn → I95_18 x2_15 md_generator_16 md_hand_17 → ∀ (H : Heap) (locs : List Loc) (ls : Array Slot), va_P (dC, dI) vwCl [((ad 0), .inr (8, [.int 0, .int md_p, .int md_n, .int md_order, .int md_monomials, .ref (ad 1), .ref (ad 2), .int md_generators, .ref (ad 3), .ref (ad 4), .int md_found, .int md_upTo, .ref (ad 5), .ref (ad 6), .ref (ad 7), .ref (ad 8), .int md_members, .int md_provedNow])), ((ad 3), .inl (cs 0, 1008, .inl md_generator_16)), ((ad 4), .inl (cs 0, 126, .inl md_hand_17))] H → va_D A [((ad 0), .inr (8, [.int 0, .int md_p, .int md_n, .int md_order, .int md_monomials, .ref (ad 1), .ref (ad 2), .int md_generators, .ref (ad 3), .ref (ad 4), .int md_found, .int md_upTo, .ref (ad 5), .ref (ad 6), .ref (ad 7), .ref (ad 8), .int md_members, .int md_provedNow])), ((ad 3), .inl (cs 0, 1008, .inl md_generator_16)), ((ad 4), .inl (cs 0, 126, .inl md_hand_17))] → va_S A s.heap H locs → lv_has ls 3 [(0, .ref (ad 0)), (1, .int x1_1), (2, .int x2_15)] → W p l e (headSpec w_md_join { frames := 0, cells := 0, slots := 0, locals := 0 }).room s m ([.ref (ad 0)] : List Value).toArray below meth c H locs 0 0 (MQ below (va_Qi (fun (r : Int32) (u : Int32 × Int32 × Int32 × (Nat → Int32) × (Nat → Int32)) => Q r u.1 u.2.1 u.2.2.1 u.2.2.2.1 u.2.2.2.2) (at_md_join dC dI cs A ad md_p md_n md_order md_monomials md_upTo md_members md_provedNow) A) ([.ref (ad 0)] : List Value).toArray s 0 0 A) (F0 m 95 ls []) := by
                      intro nn
                      induction nn with
                      | zero => intro x2_15 md_generator_16 md_hand_17 hlt; exact absurd hlt (Nat.not_lt_zero _)
                      | succ nn ih95 =>
                        intro x2_15 md_generator_16 md_hand_17 hlt95 hI H locs ls hP hD hS hl
                        have hv := hv x2_15 md_generator_16 md_hand_17 hI
                        refine lv_iload_n hx hb d_md_join_95 rfl (lv_at hl 2 rfl) ?_
                        refine lv_aload_n hx hb d_md_join_96 rfl (lv_at hl 0 rfl) ?_
                        refine va_get (D := (dC, dI)) (ci := 8) (v := .int md_monomials) (C := R_md) (T := F_md) (N := 18) hx hb hts in_md hown hK hP 0 rfl rfl 4 (by decide) (hts _ kw_622) (fun _ h9 => h9) rfl d_md_join_97 ?_
                        refine lv_icmp_ge (tgt := 136) hx hb d_md_join_100 (by decide) (fun c_20 => ?_) (fun c_20 => ?_)
                        · have hv := hv.1 c_20
                          refine lv_aload_n hx hb d_md_join_136 rfl (lv_at hl 0 rfl) ?_
                          refine lv_dup hx hb d_md_join_137 rfl ?_
                          refine va_get (D := (dC, dI)) (ci := 8) (v := .int md_generators) (C := R_md) (T := F_md) (N := 18) hx hb hts in_md hown hK hP 0 rfl rfl 7 (by decide) (hts _ kw_625) (fun _ h9 => h9) rfl d_md_join_138 ?_
                          refine lv_iconst (v := 1) hx hb d_md_join_141 (by decide) ?_
                          refine lv_iadd hx hb d_md_join_142 ?_
                          refine lv_topi (fun y_22 ey_22 => ?_)
                          have hv := hv y_22 ey_22
                          refine va_put (D := (dC, dI)) (ci := 8) (v := .int y_22) (ty := .int) (C := R_md) (T := F_md) (N := 18) hx hb hts in_md t_md t_md_ok n_md hown hK hP hD hS 0 rfl rfl 7 (by decide) (hts _ kw_625) (fun _ h9 => h9) rfl (by decide +kernel) rfl rfl (Nat.le_of_ble_eq_true rfl) d_md_join_143 (fun H locs hP hD hS => ?_)
                          have hP : va_P (dC, dI) vwCl [((ad 0), .inr (8, [.int 0, .int md_p, .int md_n, .int md_order, .int md_monomials, .ref (ad 1), .ref (ad 2), .int y_22, .ref (ad 3), .ref (ad 4), .int md_found, .int md_upTo, .ref (ad 5), .ref (ad 6), .ref (ad 7), .ref (ad 8), .int md_members, .int md_provedNow])), ((ad 3), .inl (cs 0, 1008, .inl md_generator_16)), ((ad 4), .inl (cs 0, 126, .inl md_hand_17))] H := hP
                          have hD : va_D A [((ad 0), .inr (8, [.int 0, .int md_p, .int md_n, .int md_order, .int md_monomials, .ref (ad 1), .ref (ad 2), .int y_22, .ref (ad 3), .ref (ad 4), .int md_found, .int md_upTo, .ref (ad 5), .ref (ad 6), .ref (ad 7), .ref (ad 8), .int md_members, .int md_provedNow])), ((ad 3), .inl (cs 0, 1008, .inl md_generator_16)), ((ad 4), .inl (cs 0, 126, .inl md_hand_17))] := hD
                          refine lv_aload_n hx hb d_md_join_146 rfl (lv_at hl 0 rfl) ?_
                          refine lv_iconst (v := 0) hx hb d_md_join_147 (by decide) ?_
                          refine va_put (D := (dC, dI)) (ci := 8) (v := .int 0) (ty := .boolean) (C := R_md) (T := F_md) (N := 18) hx hb hts in_md t_md t_md_ok n_md hown hK hP hD hS 0 rfl rfl 10 (by decide) (hts _ kw_628) (fun _ h9 => h9) rfl (by decide +kernel) rfl rfl (Nat.le_of_ble_eq_true rfl) d_md_join_148 (fun H locs hP hD hS => ?_)
                          have hP : va_P (dC, dI) vwCl [((ad 0), .inr (8, [.int 0, .int md_p, .int md_n, .int md_order, .int md_monomials, .ref (ad 1), .ref (ad 2), .int y_22, .ref (ad 3), .ref (ad 4), .int 0, .int md_upTo, .ref (ad 5), .ref (ad 6), .ref (ad 7), .ref (ad 8), .int md_members, .int md_provedNow])), ((ad 3), .inl (cs 0, 1008, .inl md_generator_16)), ((ad 4), .inl (cs 0, 126, .inl md_hand_17))] H := hP
                          have hD : va_D A [((ad 0), .inr (8, [.int 0, .int md_p, .int md_n, .int md_order, .int md_monomials, .ref (ad 1), .ref (ad 2), .int y_22, .ref (ad 3), .ref (ad 4), .int 0, .int md_upTo, .ref (ad 5), .ref (ad 6), .ref (ad 7), .ref (ad 8), .int md_members, .int md_provedNow])), ((ad 3), .inl (cs 0, 1008, .inl md_generator_16)), ((ad 4), .inl (cs 0, 126, .inl md_hand_17))] := hD
                          refine lv_aload_n hx hb d_md_join_151 rfl (lv_at hl 0 rfl) ?_
                          refine va_get (D := (dC, dI)) (ci := 8) (v := .int y_22) (C := R_md) (T := F_md) (N := 18) hx hb hts in_md hown hK hP 0 rfl rfl 7 (by decide) (hts _ kw_625) (fun _ h9 => h9) rfl d_md_join_152 ?_
                          have hP9 := hP.sub (ws' := [((ad 0), .inr (8, [.int 0, .int md_p, .int md_n, .int md_order, .int md_monomials, .ref (ad 1), .ref (ad 2), .int y_22, .ref (ad 3), .ref (ad 4), .int 0, .int md_upTo, .ref (ad 5), .ref (ad 6), .ref (ad 7), .ref (ad 8), .int md_members, .int md_provedNow])), ((ad 3), .inl (cs 0, 1008, .inl md_generator_16)), ((ad 4), .inl (cs 0, 126, .inl md_hand_17))]) [0, 1, 2] rfl
                          have hD9 := hD.sub (ws' := [((ad 0), .inr (8, [.int 0, .int md_p, .int md_n, .int md_order, .int md_monomials, .ref (ad 1), .ref (ad 2), .int y_22, .ref (ad 3), .ref (ad 4), .int 0, .int md_upTo, .ref (ad 5), .ref (ad 6), .ref (ad 7), .ref (ad 8), .int md_members, .int md_provedNow])), ((ad 3), .inl (cs 0, 1008, .inl md_generator_16)), ((ad 4), .inl (cs 0, 126, .inl md_hand_17))]) [0, 1, 2] (by decide) rfl
                          exact W.iret (v := y_22) hx hb hr (fun t ht hW => ⟨⟨y_22, (0, y_22, 0, md_generator_16, md_hand_17), rfl, hv, by rw [ht]; exact hP9, hD9⟩, hS.F ht⟩) hS.2.2 d_md_join_155
                        · have hv := hv.2 c_20
                          refine lv_aload_n hx hb d_md_join_103 rfl (lv_at hl 0 rfl) ?_
                          refine va_get (D := (dC, dI)) (ci := 8) (v := .ref (ad 3)) (C := R_md) (T := F_md) (N := 18) hx hb hts in_md hown hK hP 0 rfl rfl 8 (by decide) (hts _ kw_626) (fun _ h9 => h9) rfl d_md_join_104 ?_
                          refine lv_bipush (v := 126) hx hb d_md_join_107 (by decide) ?_
                          refine lv_aload_n hx hb d_md_join_109 rfl (lv_at hl 0 rfl) ?_
                          refine va_get (D := (dC, dI)) (ci := 8) (v := .int md_generators) (C := R_md) (T := F_md) (N := 18) hx hb hts in_md hown hK hP 0 rfl rfl 7 (by decide) (hts _ kw_625) (fun _ h9 => h9) rfl d_md_join_110 ?_
                          refine lv_imul hx hb d_md_join_113 ?_
                          refine lv_iload_n hx hb d_md_join_114 rfl (lv_at hl 2 rfl) ?_
                          refine lv_iadd hx hb d_md_join_115 ?_
                          refine lv_aload_n hx hb d_md_join_116 rfl (lv_at hl 0 rfl) ?_
                          refine va_get (D := (dC, dI)) (ci := 8) (v := .ref (ad 4)) (C := R_md) (T := F_md) (N := 18) hx hb hts in_md hown hK hP 0 rfl rfl 9 (by decide) (hts _ kw_627) (fun _ h9 => h9) rfl d_md_join_117 ?_
                          refine lv_iload_n hx hb d_md_join_120 rfl (lv_at hl 2 rfl) ?_
                          obtain ⟨hi_24, hv⟩ := hv
                          refine va_iald hx hb hK hP 2 0 rfl rfl hi_24 d_md_join_121 ?_
                          obtain ⟨hi_25, hv⟩ := hv
                          refine va_iast hx hb hK hP hD hS 1 0 rfl rfl hi_25 d_md_join_122 (fun H locs hP hD hS => ?_)
                          have hP : va_P (dC, dI) vwCl [((ad 0), .inr (8, [.int 0, .int md_p, .int md_n, .int md_order, .int md_monomials, .ref (ad 1), .ref (ad 2), .int md_generators, .ref (ad 3), .ref (ad 4), .int md_found, .int md_upTo, .ref (ad 5), .ref (ad 6), .ref (ad 7), .ref (ad 8), .int md_members, .int md_provedNow])), ((ad 3), .inl (cs 0, 1008, .inl (upd md_generator_16 (((126 * md_generators) + x2_15)).toNatClampNeg (md_hand_17 x2_15.toNatClampNeg)))), ((ad 4), .inl (cs 0, 126, .inl md_hand_17))] H := hP
                          have hD : va_D A [((ad 0), .inr (8, [.int 0, .int md_p, .int md_n, .int md_order, .int md_monomials, .ref (ad 1), .ref (ad 2), .int md_generators, .ref (ad 3), .ref (ad 4), .int md_found, .int md_upTo, .ref (ad 5), .ref (ad 6), .ref (ad 7), .ref (ad 8), .int md_members, .int md_provedNow])), ((ad 3), .inl (cs 0, 1008, .inl (upd md_generator_16 (((126 * md_generators) + x2_15)).toNatClampNeg (md_hand_17 x2_15.toNatClampNeg)))), ((ad 4), .inl (cs 0, 126, .inl md_hand_17))] := hD
                          generalize emd_generator_26 : upd md_generator_16 (((126 * md_generators) + x2_15)).toNatClampNeg (md_hand_17 x2_15.toNatClampNeg) = md_generator_26 at hP hD
                          have hv := hv md_generator_26 emd_generator_26.symm
                          refine lv_aload_n hx hb d_md_join_123 rfl (lv_at hl 0 rfl) ?_
                          refine va_get (D := (dC, dI)) (ci := 8) (v := .ref (ad 4)) (C := R_md) (T := F_md) (N := 18) hx hb hts in_md hown hK hP 0 rfl rfl 9 (by decide) (hts _ kw_627) (fun _ h9 => h9) rfl d_md_join_124 ?_
                          refine lv_iload_n hx hb d_md_join_127 rfl (lv_at hl 2 rfl) ?_
                          refine lv_iconst (v := 0) hx hb d_md_join_128 (by decide) ?_
                          obtain ⟨hi_27, hv⟩ := hv
                          refine va_iast hx hb hK hP hD hS 2 0 rfl rfl hi_27 d_md_join_129 (fun H locs hP hD hS => ?_)
                          have hP : va_P (dC, dI) vwCl [((ad 0), .inr (8, [.int 0, .int md_p, .int md_n, .int md_order, .int md_monomials, .ref (ad 1), .ref (ad 2), .int md_generators, .ref (ad 3), .ref (ad 4), .int md_found, .int md_upTo, .ref (ad 5), .ref (ad 6), .ref (ad 7), .ref (ad 8), .int md_members, .int md_provedNow])), ((ad 3), .inl (cs 0, 1008, .inl md_generator_26)), ((ad 4), .inl (cs 0, 126, .inl (upd md_hand_17 x2_15.toNatClampNeg 0)))] H := hP
                          have hD : va_D A [((ad 0), .inr (8, [.int 0, .int md_p, .int md_n, .int md_order, .int md_monomials, .ref (ad 1), .ref (ad 2), .int md_generators, .ref (ad 3), .ref (ad 4), .int md_found, .int md_upTo, .ref (ad 5), .ref (ad 6), .ref (ad 7), .ref (ad 8), .int md_members, .int md_provedNow])), ((ad 3), .inl (cs 0, 1008, .inl md_generator_26)), ((ad 4), .inl (cs 0, 126, .inl (upd md_hand_17 x2_15.toNatClampNeg 0)))] := hD
                          generalize emd_hand_28 : upd md_hand_17 x2_15.toNatClampNeg 0 = md_hand_28 at hP hD
                          have hv := hv md_hand_28 emd_hand_28.symm
                          obtain ⟨x2_29, ex2_29⟩ : ∃ y : Int32, y = x2_15 + 1 := ⟨_, rfl⟩
                          have hv := hv x2_29 ex2_29
                          refine lv_iinc (v := x2_29) (lv' := [(2, .int x2_29), (0, .ref (ad 0)), (1, .int x1_1)]) hx hb d_md_join_130 hl (k := 2) rfl (by rw [ex2_29]; rfl) (by decide) rfl (fun ls hl => ?_)
                          refine lv_goto (tgt := 95) hx hb d_md_join_133 (by decide) ?_
                          exact ih95 x2_29 md_generator_26 md_hand_28 (Nat.lt_of_lt_of_le hv.2 (Nat.le_of_lt_succ hlt95)) hv.1 _ _ _ (hP.sub [0, 1, 2] rfl) (hD.sub [0, 1, 2] (by decide) rfl) hS (lv_sub hl [1, 2, 0] rfl)
                    exact loop95 _ 0 md_generator_11 md_hand (Nat.lt_succ_self _) hi0 _ _ _ hP hD hS hl
                  · have hv := hv.2 c_14
                    refine lv_aload_n hx hb d_md_join_72 rfl (lv_at hl 0 rfl) ?_
                    refine va_get (D := (dC, dI)) (ci := 8) (v := .ref (ad 3)) (C := R_md) (T := F_md) (N := 18) hx hb hts in_md hown hK hP 0 rfl rfl 8 (by decide) (hts _ kw_626) (fun _ h9 => h9) rfl d_md_join_73 ?_
                    refine lv_bipush (v := 126) hx hb d_md_join_76 (by decide) ?_
                    refine lv_aload_n hx hb d_md_join_78 rfl (lv_at hl 0 rfl) ?_
                    refine va_get (D := (dC, dI)) (ci := 8) (v := .int md_generators) (C := R_md) (T := F_md) (N := 18) hx hb hts in_md hown hK hP 0 rfl rfl 7 (by decide) (hts _ kw_625) (fun _ h9 => h9) rfl d_md_join_79 ?_
                    refine lv_imul hx hb d_md_join_82 ?_
                    refine lv_iload_n hx hb d_md_join_83 rfl (lv_at hl 2 rfl) ?_
                    refine lv_iadd hx hb d_md_join_84 ?_
                    refine lv_iconst (v := 0) hx hb d_md_join_85 (by decide) ?_
                    obtain ⟨hi_30, hv⟩ := hv
                    refine va_iast hx hb hK hP hD hS 1 0 rfl rfl hi_30 d_md_join_86 (fun H locs hP hD hS => ?_)
                    have hP : va_P (dC, dI) vwCl [((ad 0), .inr (8, [.int 0, .int md_p, .int md_n, .int md_order, .int md_monomials, .ref (ad 1), .ref (ad 2), .int md_generators, .ref (ad 3), .ref (ad 4), .int md_found, .int md_upTo, .ref (ad 5), .ref (ad 6), .ref (ad 7), .ref (ad 8), .int md_members, .int md_provedNow])), ((ad 3), .inl (cs 0, 1008, .inl (upd md_generator_11 (((126 * md_generators) + x2_10)).toNatClampNeg 0))), ((ad 4), .inl (cs 0, 126, .inl md_hand))] H := hP
                    have hD : va_D A [((ad 0), .inr (8, [.int 0, .int md_p, .int md_n, .int md_order, .int md_monomials, .ref (ad 1), .ref (ad 2), .int md_generators, .ref (ad 3), .ref (ad 4), .int md_found, .int md_upTo, .ref (ad 5), .ref (ad 6), .ref (ad 7), .ref (ad 8), .int md_members, .int md_provedNow])), ((ad 3), .inl (cs 0, 1008, .inl (upd md_generator_11 (((126 * md_generators) + x2_10)).toNatClampNeg 0))), ((ad 4), .inl (cs 0, 126, .inl md_hand))] := hD
                    generalize emd_generator_31 : upd md_generator_11 (((126 * md_generators) + x2_10)).toNatClampNeg 0 = md_generator_31 at hP hD
                    have hv := hv md_generator_31 emd_generator_31.symm
                    obtain ⟨x2_32, ex2_32⟩ : ∃ y : Int32, y = x2_10 + 1 := ⟨_, rfl⟩
                    have hv := hv x2_32 ex2_32
                    refine lv_iinc (v := x2_32) (lv' := [(2, .int x2_32), (0, .ref (ad 0)), (1, .int x1_1)]) hx hb d_md_join_87 hl (k := 2) rfl (by rw [ex2_32]; rfl) (by decide) rfl (fun ls hl => ?_)
                    refine lv_goto (tgt := 66) hx hb d_md_join_90 (by decide) ?_
                    exact ih66 x2_32 md_generator_31 (Nat.lt_of_lt_of_le hv.2 (Nat.le_of_lt_succ hlt66)) hv.1 _ _ _ (hP.sub [0, 1, 2] rfl) (hD.sub [0, 1, 2] (by decide) rfl) hS (lv_sub hl [1, 2, 0] rfl)
              exact loop66 _ 0 md_generator (Nat.lt_succ_self _) hi0 _ _ _ hP hD hS hl
            · have hv := hv.2 c_9
              refine lv_iconst (v := 0) hx hb d_md_join_62 (by decide) ?_
              have hP9 := hP.sub (ws' := [((ad 0), .inr (8, [.int 0, .int md_p, .int md_n, .int md_order, .int md_monomials, .ref (ad 1), .ref (ad 2), .int md_generators, .ref (ad 3), .ref (ad 4), .int md_found, .int md_upTo, .ref (ad 5), .ref (ad 6), .ref (ad 7), .ref (ad 8), .int md_members, .int md_provedNow])), ((ad 3), .inl (cs 0, 1008, .inl md_generator)), ((ad 4), .inl (cs 0, 126, .inl md_hand))]) [0, 1, 2] rfl
              have hD9 := hD.sub (ws' := [((ad 0), .inr (8, [.int 0, .int md_p, .int md_n, .int md_order, .int md_monomials, .ref (ad 1), .ref (ad 2), .int md_generators, .ref (ad 3), .ref (ad 4), .int md_found, .int md_upTo, .ref (ad 5), .ref (ad 6), .ref (ad 7), .ref (ad 8), .int md_members, .int md_provedNow])), ((ad 3), .inl (cs 0, 1008, .inl md_generator)), ((ad 4), .inl (cs 0, 126, .inl md_hand))]) [0, 1, 2] (by decide) rfl
              exact W.iret (v := 0) hx hb hr (fun t ht hW => ⟨⟨0, (0, md_generators, md_found, md_generator, md_hand), rfl, hv, by rw [ht]; exact hP9, hD9⟩, hS.F ht⟩) hS.2.2 d_md_join_63
          · have hv := hv.2 c_7
            refine lv_iconst (v := 2) hx hb d_md_join_47 (by decide) ?_
            refine lv_goto (tgt := 52) hx hb d_md_join_48 (by decide) ?_
            refine va_put (D := (dC, dI)) (ci := 8) (v := .int 2) (ty := .int) (C := R_md) (T := F_md) (N := 18) hx hb hts in_md t_md t_md_ok n_md hown hK hP hD hS 0 rfl rfl 0 (by decide) (hts _ kw_618) (fun _ h9 => h9) rfl (by decide +kernel) rfl rfl (Nat.le_of_ble_eq_true rfl) d_md_join_52 (fun H locs hP hD hS => ?_)
            have hP : va_P (dC, dI) vwCl [((ad 0), .inr (8, [.int 2, .int md_p, .int md_n, .int md_order, .int md_monomials, .ref (ad 1), .ref (ad 2), .int md_generators, .ref (ad 3), .ref (ad 4), .int md_found, .int md_upTo, .ref (ad 5), .ref (ad 6), .ref (ad 7), .ref (ad 8), .int md_members, .int md_provedNow])), ((ad 3), .inl (cs 0, 1008, .inl md_generator)), ((ad 4), .inl (cs 0, 126, .inl md_hand))] H := hP
            have hD : va_D A [((ad 0), .inr (8, [.int 2, .int md_p, .int md_n, .int md_order, .int md_monomials, .ref (ad 1), .ref (ad 2), .int md_generators, .ref (ad 3), .ref (ad 4), .int md_found, .int md_upTo, .ref (ad 5), .ref (ad 6), .ref (ad 7), .ref (ad 8), .int md_members, .int md_provedNow])), ((ad 3), .inl (cs 0, 1008, .inl md_generator)), ((ad 4), .inl (cs 0, 126, .inl md_hand))] := hD
            refine lv_aload_n hx hb d_md_join_55 rfl (lv_at hl 0 rfl) ?_
            refine va_get (D := (dC, dI)) (ci := 8) (v := .int 2) (C := R_md) (T := F_md) (N := 18) hx hb hts in_md hown hK hP 0 rfl rfl 0 (by decide) (hts _ kw_618) (fun _ h9 => h9) rfl d_md_join_56 ?_
            refine lv_if_eq (tgt := 64) hx hb d_md_join_59 (by decide) (fun c_34 => ?_) (fun c_34 => ?_)
            · have hv := hv.1 c_34
              refine lv_iconst (v := 0) hx hb d_md_join_64 (by decide) ?_
              refine lv_istore_n (lv' := [(2, .int 0), (0, .ref (ad 0)), (1, .int x1_1)]) hx hb d_md_join_65 rfl hl (by decide) rfl (fun ls hl => ?_)
              obtain ⟨I66_37, mu66_38, hi0, hv⟩ := hv
              have hP := hP.sub (ws' := [((ad 0), .inr (8, [.int 2, .int md_p, .int md_n, .int md_order, .int md_monomials, .ref (ad 1), .ref (ad 2), .int md_generators, .ref (ad 3), .ref (ad 4), .int md_found, .int md_upTo, .ref (ad 5), .ref (ad 6), .ref (ad 7), .ref (ad 8), .int md_members, .int md_provedNow])), ((ad 3), .inl (cs 0, 1008, .inl md_generator)), ((ad 4), .inl (cs 0, 126, .inl md_hand))]) [0, 1, 2] rfl
              have hD := hD.sub (ws' := [((ad 0), .inr (8, [.int 2, .int md_p, .int md_n, .int md_order, .int md_monomials, .ref (ad 1), .ref (ad 2), .int md_generators, .ref (ad 3), .ref (ad 4), .int md_found, .int md_upTo, .ref (ad 5), .ref (ad 6), .ref (ad 7), .ref (ad 8), .int md_members, .int md_provedNow])), ((ad 3), .inl (cs 0, 1008, .inl md_generator)), ((ad 4), .inl (cs 0, 126, .inl md_hand))]) [0, 1, 2] (by decide) rfl
              have hl := lv_sub (l' := [(0, .ref (ad 0)), (1, .int x1_1), (2, .int 0)]) hl [1, 2, 0] rfl
              have loop66 : ∀ (nn : Nat) (x2_35 : Int32) (md_generator_36 : Nat → Int32), mu66_38 x2_35 md_generator_36 < nn → I66_37 x2_35 md_generator_36 → ∀ (H : Heap) (locs : List Loc) (ls : Array Slot), va_P (dC, dI) vwCl [((ad 0), .inr (8, [.int 2, .int md_p, .int md_n, .int md_order, .int md_monomials, .ref (ad 1), .ref (ad 2), .int md_generators, .ref (ad 3), .ref (ad 4), .int md_found, .int md_upTo, .ref (ad 5), .ref (ad 6), .ref (ad 7), .ref (ad 8), .int md_members, .int md_provedNow])), ((ad 3), .inl (cs 0, 1008, .inl md_generator_36)), ((ad 4), .inl (cs 0, 126, .inl md_hand))] H → va_D A [((ad 0), .inr (8, [.int 2, .int md_p, .int md_n, .int md_order, .int md_monomials, .ref (ad 1), .ref (ad 2), .int md_generators, .ref (ad 3), .ref (ad 4), .int md_found, .int md_upTo, .ref (ad 5), .ref (ad 6), .ref (ad 7), .ref (ad 8), .int md_members, .int md_provedNow])), ((ad 3), .inl (cs 0, 1008, .inl md_generator_36)), ((ad 4), .inl (cs 0, 126, .inl md_hand))] → va_S A s.heap H locs → lv_has ls 3 [(0, .ref (ad 0)), (1, .int x1_1), (2, .int x2_35)] → W p l e (headSpec w_md_join { frames := 0, cells := 0, slots := 0, locals := 0 }).room s m ([.ref (ad 0)] : List Value).toArray below meth c H locs 0 0 (MQ below (va_Qi (fun (r : Int32) (u : Int32 × Int32 × Int32 × (Nat → Int32) × (Nat → Int32)) => Q r u.1 u.2.1 u.2.2.1 u.2.2.2.1 u.2.2.2.2) (at_md_join dC dI cs A ad md_p md_n md_order md_monomials md_upTo md_members md_provedNow) A) ([.ref (ad 0)] : List Value).toArray s 0 0 A) (F0 m 66 ls []) := by
                intro nn
                induction nn with
                | zero => intro x2_35 md_generator_36 hlt; exact absurd hlt (Nat.not_lt_zero _)
                | succ nn ih66 =>
                  intro x2_35 md_generator_36 hlt66 hI H locs ls hP hD hS hl
                  have hv := hv x2_35 md_generator_36 hI
                  refine lv_iload_n hx hb d_md_join_66 rfl (lv_at hl 2 rfl) ?_
                  refine lv_bipush (v := 126) hx hb d_md_join_67 (by decide) ?_
                  refine lv_icmp_ge (tgt := 93) hx hb d_md_join_69 (by decide) (fun c_39 => ?_) (fun c_39 => ?_)
                  · have hv := hv.1 c_39
                    refine lv_iconst (v := 0) hx hb d_md_join_93 (by decide) ?_
                    refine lv_istore_n (lv' := [(2, .int 0), (0, .ref (ad 0)), (1, .int x1_1)]) hx hb d_md_join_94 rfl hl (by decide) rfl (fun ls hl => ?_)
                    obtain ⟨I95_43, mu95_44, hi0, hv⟩ := hv
                    have hP := hP.sub (ws' := [((ad 0), .inr (8, [.int 2, .int md_p, .int md_n, .int md_order, .int md_monomials, .ref (ad 1), .ref (ad 2), .int md_generators, .ref (ad 3), .ref (ad 4), .int md_found, .int md_upTo, .ref (ad 5), .ref (ad 6), .ref (ad 7), .ref (ad 8), .int md_members, .int md_provedNow])), ((ad 3), .inl (cs 0, 1008, .inl md_generator_36)), ((ad 4), .inl (cs 0, 126, .inl md_hand))]) [0, 1, 2] rfl
                    have hD := hD.sub (ws' := [((ad 0), .inr (8, [.int 2, .int md_p, .int md_n, .int md_order, .int md_monomials, .ref (ad 1), .ref (ad 2), .int md_generators, .ref (ad 3), .ref (ad 4), .int md_found, .int md_upTo, .ref (ad 5), .ref (ad 6), .ref (ad 7), .ref (ad 8), .int md_members, .int md_provedNow])), ((ad 3), .inl (cs 0, 1008, .inl md_generator_36)), ((ad 4), .inl (cs 0, 126, .inl md_hand))]) [0, 1, 2] (by decide) rfl
                    have hl := lv_sub (l' := [(0, .ref (ad 0)), (1, .int x1_1), (2, .int 0)]) hl [1, 2, 0] rfl
                    have loop95 : ∀ (nn : Nat) (x2_40 : Int32) (md_generator_41 : Nat → Int32) (md_hand_42 : Nat → Int32), mu95_44 x2_40 md_generator_41 md_hand_42 < nn → I95_43 x2_40 md_generator_41 md_hand_42 → ∀ (H : Heap) (locs : List Loc) (ls : Array Slot), va_P (dC, dI) vwCl [((ad 0), .inr (8, [.int 2, .int md_p, .int md_n, .int md_order, .int md_monomials, .ref (ad 1), .ref (ad 2), .int md_generators, .ref (ad 3), .ref (ad 4), .int md_found, .int md_upTo, .ref (ad 5), .ref (ad 6), .ref (ad 7), .ref (ad 8), .int md_members, .int md_provedNow])), ((ad 3), .inl (cs 0, 1008, .inl md_generator_41)), ((ad 4), .inl (cs 0, 126, .inl md_hand_42))] H → va_D A [((ad 0), .inr (8, [.int 2, .int md_p, .int md_n, .int md_order, .int md_monomials, .ref (ad 1), .ref (ad 2), .int md_generators, .ref (ad 3), .ref (ad 4), .int md_found, .int md_upTo, .ref (ad 5), .ref (ad 6), .ref (ad 7), .ref (ad 8), .int md_members, .int md_provedNow])), ((ad 3), .inl (cs 0, 1008, .inl md_generator_41)), ((ad 4), .inl (cs 0, 126, .inl md_hand_42))] → va_S A s.heap H locs → lv_has ls 3 [(0, .ref (ad 0)), (1, .int x1_1), (2, .int x2_40)] → W p l e (headSpec w_md_join { frames := 0, cells := 0, slots := 0, locals := 0 }).room s m ([.ref (ad 0)] : List Value).toArray below meth c H locs 0 0 (MQ below (va_Qi (fun (r : Int32) (u : Int32 × Int32 × Int32 × (Nat → Int32) × (Nat → Int32)) => Q r u.1 u.2.1 u.2.2.1 u.2.2.2.1 u.2.2.2.2) (at_md_join dC dI cs A ad md_p md_n md_order md_monomials md_upTo md_members md_provedNow) A) ([.ref (ad 0)] : List Value).toArray s 0 0 A) (F0 m 95 ls []) := by
                      intro nn
                      induction nn with
                      | zero => intro x2_40 md_generator_41 md_hand_42 hlt; exact absurd hlt (Nat.not_lt_zero _)
                      | succ nn ih95 =>
                        intro x2_40 md_generator_41 md_hand_42 hlt95 hI H locs ls hP hD hS hl
                        have hv := hv x2_40 md_generator_41 md_hand_42 hI
                        refine lv_iload_n hx hb d_md_join_95 rfl (lv_at hl 2 rfl) ?_
                        refine lv_aload_n hx hb d_md_join_96 rfl (lv_at hl 0 rfl) ?_
                        refine va_get (D := (dC, dI)) (ci := 8) (v := .int md_monomials) (C := R_md) (T := F_md) (N := 18) hx hb hts in_md hown hK hP 0 rfl rfl 4 (by decide) (hts _ kw_622) (fun _ h9 => h9) rfl d_md_join_97 ?_
                        refine lv_icmp_ge (tgt := 136) hx hb d_md_join_100 (by decide) (fun c_45 => ?_) (fun c_45 => ?_)
                        · have hv := hv.1 c_45
                          refine lv_aload_n hx hb d_md_join_136 rfl (lv_at hl 0 rfl) ?_
                          refine lv_dup hx hb d_md_join_137 rfl ?_
                          refine va_get (D := (dC, dI)) (ci := 8) (v := .int md_generators) (C := R_md) (T := F_md) (N := 18) hx hb hts in_md hown hK hP 0 rfl rfl 7 (by decide) (hts _ kw_625) (fun _ h9 => h9) rfl d_md_join_138 ?_
                          refine lv_iconst (v := 1) hx hb d_md_join_141 (by decide) ?_
                          refine lv_iadd hx hb d_md_join_142 ?_
                          refine lv_topi (fun y_47 ey_47 => ?_)
                          have hv := hv y_47 ey_47
                          refine va_put (D := (dC, dI)) (ci := 8) (v := .int y_47) (ty := .int) (C := R_md) (T := F_md) (N := 18) hx hb hts in_md t_md t_md_ok n_md hown hK hP hD hS 0 rfl rfl 7 (by decide) (hts _ kw_625) (fun _ h9 => h9) rfl (by decide +kernel) rfl rfl (Nat.le_of_ble_eq_true rfl) d_md_join_143 (fun H locs hP hD hS => ?_)
                          have hP : va_P (dC, dI) vwCl [((ad 0), .inr (8, [.int 2, .int md_p, .int md_n, .int md_order, .int md_monomials, .ref (ad 1), .ref (ad 2), .int y_47, .ref (ad 3), .ref (ad 4), .int md_found, .int md_upTo, .ref (ad 5), .ref (ad 6), .ref (ad 7), .ref (ad 8), .int md_members, .int md_provedNow])), ((ad 3), .inl (cs 0, 1008, .inl md_generator_41)), ((ad 4), .inl (cs 0, 126, .inl md_hand_42))] H := hP
                          have hD : va_D A [((ad 0), .inr (8, [.int 2, .int md_p, .int md_n, .int md_order, .int md_monomials, .ref (ad 1), .ref (ad 2), .int y_47, .ref (ad 3), .ref (ad 4), .int md_found, .int md_upTo, .ref (ad 5), .ref (ad 6), .ref (ad 7), .ref (ad 8), .int md_members, .int md_provedNow])), ((ad 3), .inl (cs 0, 1008, .inl md_generator_41)), ((ad 4), .inl (cs 0, 126, .inl md_hand_42))] := hD
                          refine lv_aload_n hx hb d_md_join_146 rfl (lv_at hl 0 rfl) ?_
                          refine lv_iconst (v := 0) hx hb d_md_join_147 (by decide) ?_
                          refine va_put (D := (dC, dI)) (ci := 8) (v := .int 0) (ty := .boolean) (C := R_md) (T := F_md) (N := 18) hx hb hts in_md t_md t_md_ok n_md hown hK hP hD hS 0 rfl rfl 10 (by decide) (hts _ kw_628) (fun _ h9 => h9) rfl (by decide +kernel) rfl rfl (Nat.le_of_ble_eq_true rfl) d_md_join_148 (fun H locs hP hD hS => ?_)
                          have hP : va_P (dC, dI) vwCl [((ad 0), .inr (8, [.int 2, .int md_p, .int md_n, .int md_order, .int md_monomials, .ref (ad 1), .ref (ad 2), .int y_47, .ref (ad 3), .ref (ad 4), .int 0, .int md_upTo, .ref (ad 5), .ref (ad 6), .ref (ad 7), .ref (ad 8), .int md_members, .int md_provedNow])), ((ad 3), .inl (cs 0, 1008, .inl md_generator_41)), ((ad 4), .inl (cs 0, 126, .inl md_hand_42))] H := hP
                          have hD : va_D A [((ad 0), .inr (8, [.int 2, .int md_p, .int md_n, .int md_order, .int md_monomials, .ref (ad 1), .ref (ad 2), .int y_47, .ref (ad 3), .ref (ad 4), .int 0, .int md_upTo, .ref (ad 5), .ref (ad 6), .ref (ad 7), .ref (ad 8), .int md_members, .int md_provedNow])), ((ad 3), .inl (cs 0, 1008, .inl md_generator_41)), ((ad 4), .inl (cs 0, 126, .inl md_hand_42))] := hD
                          refine lv_aload_n hx hb d_md_join_151 rfl (lv_at hl 0 rfl) ?_
                          refine va_get (D := (dC, dI)) (ci := 8) (v := .int y_47) (C := R_md) (T := F_md) (N := 18) hx hb hts in_md hown hK hP 0 rfl rfl 7 (by decide) (hts _ kw_625) (fun _ h9 => h9) rfl d_md_join_152 ?_
                          have hP9 := hP.sub (ws' := [((ad 0), .inr (8, [.int 2, .int md_p, .int md_n, .int md_order, .int md_monomials, .ref (ad 1), .ref (ad 2), .int y_47, .ref (ad 3), .ref (ad 4), .int 0, .int md_upTo, .ref (ad 5), .ref (ad 6), .ref (ad 7), .ref (ad 8), .int md_members, .int md_provedNow])), ((ad 3), .inl (cs 0, 1008, .inl md_generator_41)), ((ad 4), .inl (cs 0, 126, .inl md_hand_42))]) [0, 1, 2] rfl
                          have hD9 := hD.sub (ws' := [((ad 0), .inr (8, [.int 2, .int md_p, .int md_n, .int md_order, .int md_monomials, .ref (ad 1), .ref (ad 2), .int y_47, .ref (ad 3), .ref (ad 4), .int 0, .int md_upTo, .ref (ad 5), .ref (ad 6), .ref (ad 7), .ref (ad 8), .int md_members, .int md_provedNow])), ((ad 3), .inl (cs 0, 1008, .inl md_generator_41)), ((ad 4), .inl (cs 0, 126, .inl md_hand_42))]) [0, 1, 2] (by decide) rfl
                          exact W.iret (v := y_47) hx hb hr (fun t ht hW => ⟨⟨y_47, (2, y_47, 0, md_generator_41, md_hand_42), rfl, hv, by rw [ht]; exact hP9, hD9⟩, hS.F ht⟩) hS.2.2 d_md_join_155
                        · have hv := hv.2 c_45
                          refine lv_aload_n hx hb d_md_join_103 rfl (lv_at hl 0 rfl) ?_
                          refine va_get (D := (dC, dI)) (ci := 8) (v := .ref (ad 3)) (C := R_md) (T := F_md) (N := 18) hx hb hts in_md hown hK hP 0 rfl rfl 8 (by decide) (hts _ kw_626) (fun _ h9 => h9) rfl d_md_join_104 ?_
                          refine lv_bipush (v := 126) hx hb d_md_join_107 (by decide) ?_
                          refine lv_aload_n hx hb d_md_join_109 rfl (lv_at hl 0 rfl) ?_
                          refine va_get (D := (dC, dI)) (ci := 8) (v := .int md_generators) (C := R_md) (T := F_md) (N := 18) hx hb hts in_md hown hK hP 0 rfl rfl 7 (by decide) (hts _ kw_625) (fun _ h9 => h9) rfl d_md_join_110 ?_
                          refine lv_imul hx hb d_md_join_113 ?_
                          refine lv_iload_n hx hb d_md_join_114 rfl (lv_at hl 2 rfl) ?_
                          refine lv_iadd hx hb d_md_join_115 ?_
                          refine lv_aload_n hx hb d_md_join_116 rfl (lv_at hl 0 rfl) ?_
                          refine va_get (D := (dC, dI)) (ci := 8) (v := .ref (ad 4)) (C := R_md) (T := F_md) (N := 18) hx hb hts in_md hown hK hP 0 rfl rfl 9 (by decide) (hts _ kw_627) (fun _ h9 => h9) rfl d_md_join_117 ?_
                          refine lv_iload_n hx hb d_md_join_120 rfl (lv_at hl 2 rfl) ?_
                          obtain ⟨hi_49, hv⟩ := hv
                          refine va_iald hx hb hK hP 2 0 rfl rfl hi_49 d_md_join_121 ?_
                          obtain ⟨hi_50, hv⟩ := hv
                          refine va_iast hx hb hK hP hD hS 1 0 rfl rfl hi_50 d_md_join_122 (fun H locs hP hD hS => ?_)
                          have hP : va_P (dC, dI) vwCl [((ad 0), .inr (8, [.int 2, .int md_p, .int md_n, .int md_order, .int md_monomials, .ref (ad 1), .ref (ad 2), .int md_generators, .ref (ad 3), .ref (ad 4), .int md_found, .int md_upTo, .ref (ad 5), .ref (ad 6), .ref (ad 7), .ref (ad 8), .int md_members, .int md_provedNow])), ((ad 3), .inl (cs 0, 1008, .inl (upd md_generator_41 (((126 * md_generators) + x2_40)).toNatClampNeg (md_hand_42 x2_40.toNatClampNeg)))), ((ad 4), .inl (cs 0, 126, .inl md_hand_42))] H := hP
                          have hD : va_D A [((ad 0), .inr (8, [.int 2, .int md_p, .int md_n, .int md_order, .int md_monomials, .ref (ad 1), .ref (ad 2), .int md_generators, .ref (ad 3), .ref (ad 4), .int md_found, .int md_upTo, .ref (ad 5), .ref (ad 6), .ref (ad 7), .ref (ad 8), .int md_members, .int md_provedNow])), ((ad 3), .inl (cs 0, 1008, .inl (upd md_generator_41 (((126 * md_generators) + x2_40)).toNatClampNeg (md_hand_42 x2_40.toNatClampNeg)))), ((ad 4), .inl (cs 0, 126, .inl md_hand_42))] := hD
                          generalize emd_generator_51 : upd md_generator_41 (((126 * md_generators) + x2_40)).toNatClampNeg (md_hand_42 x2_40.toNatClampNeg) = md_generator_51 at hP hD
                          have hv := hv md_generator_51 emd_generator_51.symm
                          refine lv_aload_n hx hb d_md_join_123 rfl (lv_at hl 0 rfl) ?_
                          refine va_get (D := (dC, dI)) (ci := 8) (v := .ref (ad 4)) (C := R_md) (T := F_md) (N := 18) hx hb hts in_md hown hK hP 0 rfl rfl 9 (by decide) (hts _ kw_627) (fun _ h9 => h9) rfl d_md_join_124 ?_
                          refine lv_iload_n hx hb d_md_join_127 rfl (lv_at hl 2 rfl) ?_
                          refine lv_iconst (v := 0) hx hb d_md_join_128 (by decide) ?_
                          obtain ⟨hi_52, hv⟩ := hv
                          refine va_iast hx hb hK hP hD hS 2 0 rfl rfl hi_52 d_md_join_129 (fun H locs hP hD hS => ?_)
                          have hP : va_P (dC, dI) vwCl [((ad 0), .inr (8, [.int 2, .int md_p, .int md_n, .int md_order, .int md_monomials, .ref (ad 1), .ref (ad 2), .int md_generators, .ref (ad 3), .ref (ad 4), .int md_found, .int md_upTo, .ref (ad 5), .ref (ad 6), .ref (ad 7), .ref (ad 8), .int md_members, .int md_provedNow])), ((ad 3), .inl (cs 0, 1008, .inl md_generator_51)), ((ad 4), .inl (cs 0, 126, .inl (upd md_hand_42 x2_40.toNatClampNeg 0)))] H := hP
                          have hD : va_D A [((ad 0), .inr (8, [.int 2, .int md_p, .int md_n, .int md_order, .int md_monomials, .ref (ad 1), .ref (ad 2), .int md_generators, .ref (ad 3), .ref (ad 4), .int md_found, .int md_upTo, .ref (ad 5), .ref (ad 6), .ref (ad 7), .ref (ad 8), .int md_members, .int md_provedNow])), ((ad 3), .inl (cs 0, 1008, .inl md_generator_51)), ((ad 4), .inl (cs 0, 126, .inl (upd md_hand_42 x2_40.toNatClampNeg 0)))] := hD
                          generalize emd_hand_53 : upd md_hand_42 x2_40.toNatClampNeg 0 = md_hand_53 at hP hD
                          have hv := hv md_hand_53 emd_hand_53.symm
                          obtain ⟨x2_54, ex2_54⟩ : ∃ y : Int32, y = x2_40 + 1 := ⟨_, rfl⟩
                          have hv := hv x2_54 ex2_54
                          refine lv_iinc (v := x2_54) (lv' := [(2, .int x2_54), (0, .ref (ad 0)), (1, .int x1_1)]) hx hb d_md_join_130 hl (k := 2) rfl (by rw [ex2_54]; rfl) (by decide) rfl (fun ls hl => ?_)
                          refine lv_goto (tgt := 95) hx hb d_md_join_133 (by decide) ?_
                          exact ih95 x2_54 md_generator_51 md_hand_53 (Nat.lt_of_lt_of_le hv.2 (Nat.le_of_lt_succ hlt95)) hv.1 _ _ _ (hP.sub [0, 1, 2] rfl) (hD.sub [0, 1, 2] (by decide) rfl) hS (lv_sub hl [1, 2, 0] rfl)
                    exact loop95 _ 0 md_generator_36 md_hand (Nat.lt_succ_self _) hi0 _ _ _ hP hD hS hl
                  · have hv := hv.2 c_39
                    refine lv_aload_n hx hb d_md_join_72 rfl (lv_at hl 0 rfl) ?_
                    refine va_get (D := (dC, dI)) (ci := 8) (v := .ref (ad 3)) (C := R_md) (T := F_md) (N := 18) hx hb hts in_md hown hK hP 0 rfl rfl 8 (by decide) (hts _ kw_626) (fun _ h9 => h9) rfl d_md_join_73 ?_
                    refine lv_bipush (v := 126) hx hb d_md_join_76 (by decide) ?_
                    refine lv_aload_n hx hb d_md_join_78 rfl (lv_at hl 0 rfl) ?_
                    refine va_get (D := (dC, dI)) (ci := 8) (v := .int md_generators) (C := R_md) (T := F_md) (N := 18) hx hb hts in_md hown hK hP 0 rfl rfl 7 (by decide) (hts _ kw_625) (fun _ h9 => h9) rfl d_md_join_79 ?_
                    refine lv_imul hx hb d_md_join_82 ?_
                    refine lv_iload_n hx hb d_md_join_83 rfl (lv_at hl 2 rfl) ?_
                    refine lv_iadd hx hb d_md_join_84 ?_
                    refine lv_iconst (v := 0) hx hb d_md_join_85 (by decide) ?_
                    obtain ⟨hi_55, hv⟩ := hv
                    refine va_iast hx hb hK hP hD hS 1 0 rfl rfl hi_55 d_md_join_86 (fun H locs hP hD hS => ?_)
                    have hP : va_P (dC, dI) vwCl [((ad 0), .inr (8, [.int 2, .int md_p, .int md_n, .int md_order, .int md_monomials, .ref (ad 1), .ref (ad 2), .int md_generators, .ref (ad 3), .ref (ad 4), .int md_found, .int md_upTo, .ref (ad 5), .ref (ad 6), .ref (ad 7), .ref (ad 8), .int md_members, .int md_provedNow])), ((ad 3), .inl (cs 0, 1008, .inl (upd md_generator_36 (((126 * md_generators) + x2_35)).toNatClampNeg 0))), ((ad 4), .inl (cs 0, 126, .inl md_hand))] H := hP
                    have hD : va_D A [((ad 0), .inr (8, [.int 2, .int md_p, .int md_n, .int md_order, .int md_monomials, .ref (ad 1), .ref (ad 2), .int md_generators, .ref (ad 3), .ref (ad 4), .int md_found, .int md_upTo, .ref (ad 5), .ref (ad 6), .ref (ad 7), .ref (ad 8), .int md_members, .int md_provedNow])), ((ad 3), .inl (cs 0, 1008, .inl (upd md_generator_36 (((126 * md_generators) + x2_35)).toNatClampNeg 0))), ((ad 4), .inl (cs 0, 126, .inl md_hand))] := hD
                    generalize emd_generator_56 : upd md_generator_36 (((126 * md_generators) + x2_35)).toNatClampNeg 0 = md_generator_56 at hP hD
                    have hv := hv md_generator_56 emd_generator_56.symm
                    obtain ⟨x2_57, ex2_57⟩ : ∃ y : Int32, y = x2_35 + 1 := ⟨_, rfl⟩
                    have hv := hv x2_57 ex2_57
                    refine lv_iinc (v := x2_57) (lv' := [(2, .int x2_57), (0, .ref (ad 0)), (1, .int x1_1)]) hx hb d_md_join_87 hl (k := 2) rfl (by rw [ex2_57]; rfl) (by decide) rfl (fun ls hl => ?_)
                    refine lv_goto (tgt := 66) hx hb d_md_join_90 (by decide) ?_
                    exact ih66 x2_57 md_generator_56 (Nat.lt_of_lt_of_le hv.2 (Nat.le_of_lt_succ hlt66)) hv.1 _ _ _ (hP.sub [0, 1, 2] rfl) (hD.sub [0, 1, 2] (by decide) rfl) hS (lv_sub hl [1, 2, 0] rfl)
              exact loop66 _ 0 md_generator (Nat.lt_succ_self _) hi0 _ _ _ hP hD hS hl
            · have hv := hv.2 c_34
              refine lv_iconst (v := 0) hx hb d_md_join_62 (by decide) ?_
              have hP9 := hP.sub (ws' := [((ad 0), .inr (8, [.int 2, .int md_p, .int md_n, .int md_order, .int md_monomials, .ref (ad 1), .ref (ad 2), .int md_generators, .ref (ad 3), .ref (ad 4), .int md_found, .int md_upTo, .ref (ad 5), .ref (ad 6), .ref (ad 7), .ref (ad 8), .int md_members, .int md_provedNow])), ((ad 3), .inl (cs 0, 1008, .inl md_generator)), ((ad 4), .inl (cs 0, 126, .inl md_hand))]) [0, 1, 2] rfl
              have hD9 := hD.sub (ws' := [((ad 0), .inr (8, [.int 2, .int md_p, .int md_n, .int md_order, .int md_monomials, .ref (ad 1), .ref (ad 2), .int md_generators, .ref (ad 3), .ref (ad 4), .int md_found, .int md_upTo, .ref (ad 5), .ref (ad 6), .ref (ad 7), .ref (ad 8), .int md_members, .int md_provedNow])), ((ad 3), .inl (cs 0, 1008, .inl md_generator)), ((ad 4), .inl (cs 0, 126, .inl md_hand))]) [0, 1, 2] (by decide) rfl
              exact W.iret (v := 0) hx hb hr (fun t ht hW => ⟨⟨0, (2, md_generators, md_found, md_generator, md_hand), rfl, hv, by rw [ht]; exact hP9, hD9⟩, hS.F ht⟩) hS.2.2 d_md_join_63
        · have hv := hv.2 c_6
          refine lv_iconst (v := 1) hx hb d_md_join_34 (by decide) ?_
          refine lv_goto (tgt := 52) hx hb d_md_join_35 (by decide) ?_
          refine va_put (D := (dC, dI)) (ci := 8) (v := .int 1) (ty := .int) (C := R_md) (T := F_md) (N := 18) hx hb hts in_md t_md t_md_ok n_md hown hK hP hD hS 0 rfl rfl 0 (by decide) (hts _ kw_618) (fun _ h9 => h9) rfl (by decide +kernel) rfl rfl (Nat.le_of_ble_eq_true rfl) d_md_join_52 (fun H locs hP hD hS => ?_)
          have hP : va_P (dC, dI) vwCl [((ad 0), .inr (8, [.int 1, .int md_p, .int md_n, .int md_order, .int md_monomials, .ref (ad 1), .ref (ad 2), .int md_generators, .ref (ad 3), .ref (ad 4), .int md_found, .int md_upTo, .ref (ad 5), .ref (ad 6), .ref (ad 7), .ref (ad 8), .int md_members, .int md_provedNow])), ((ad 3), .inl (cs 0, 1008, .inl md_generator)), ((ad 4), .inl (cs 0, 126, .inl md_hand))] H := hP
          have hD : va_D A [((ad 0), .inr (8, [.int 1, .int md_p, .int md_n, .int md_order, .int md_monomials, .ref (ad 1), .ref (ad 2), .int md_generators, .ref (ad 3), .ref (ad 4), .int md_found, .int md_upTo, .ref (ad 5), .ref (ad 6), .ref (ad 7), .ref (ad 8), .int md_members, .int md_provedNow])), ((ad 3), .inl (cs 0, 1008, .inl md_generator)), ((ad 4), .inl (cs 0, 126, .inl md_hand))] := hD
          refine lv_aload_n hx hb d_md_join_55 rfl (lv_at hl 0 rfl) ?_
          refine va_get (D := (dC, dI)) (ci := 8) (v := .int 1) (C := R_md) (T := F_md) (N := 18) hx hb hts in_md hown hK hP 0 rfl rfl 0 (by decide) (hts _ kw_618) (fun _ h9 => h9) rfl d_md_join_56 ?_
          refine lv_if_eq (tgt := 64) hx hb d_md_join_59 (by decide) (fun c_59 => ?_) (fun c_59 => ?_)
          · have hv := hv.1 c_59
            refine lv_iconst (v := 0) hx hb d_md_join_64 (by decide) ?_
            refine lv_istore_n (lv' := [(2, .int 0), (0, .ref (ad 0)), (1, .int x1_1)]) hx hb d_md_join_65 rfl hl (by decide) rfl (fun ls hl => ?_)
            obtain ⟨I66_62, mu66_63, hi0, hv⟩ := hv
            have hP := hP.sub (ws' := [((ad 0), .inr (8, [.int 1, .int md_p, .int md_n, .int md_order, .int md_monomials, .ref (ad 1), .ref (ad 2), .int md_generators, .ref (ad 3), .ref (ad 4), .int md_found, .int md_upTo, .ref (ad 5), .ref (ad 6), .ref (ad 7), .ref (ad 8), .int md_members, .int md_provedNow])), ((ad 3), .inl (cs 0, 1008, .inl md_generator)), ((ad 4), .inl (cs 0, 126, .inl md_hand))]) [0, 1, 2] rfl
            have hD := hD.sub (ws' := [((ad 0), .inr (8, [.int 1, .int md_p, .int md_n, .int md_order, .int md_monomials, .ref (ad 1), .ref (ad 2), .int md_generators, .ref (ad 3), .ref (ad 4), .int md_found, .int md_upTo, .ref (ad 5), .ref (ad 6), .ref (ad 7), .ref (ad 8), .int md_members, .int md_provedNow])), ((ad 3), .inl (cs 0, 1008, .inl md_generator)), ((ad 4), .inl (cs 0, 126, .inl md_hand))]) [0, 1, 2] (by decide) rfl
            have hl := lv_sub (l' := [(0, .ref (ad 0)), (1, .int x1_1), (2, .int 0)]) hl [1, 2, 0] rfl
            have loop66 : ∀ (nn : Nat) (x2_60 : Int32) (md_generator_61 : Nat → Int32), mu66_63 x2_60 md_generator_61 < nn → I66_62 x2_60 md_generator_61 → ∀ (H : Heap) (locs : List Loc) (ls : Array Slot), va_P (dC, dI) vwCl [((ad 0), .inr (8, [.int 1, .int md_p, .int md_n, .int md_order, .int md_monomials, .ref (ad 1), .ref (ad 2), .int md_generators, .ref (ad 3), .ref (ad 4), .int md_found, .int md_upTo, .ref (ad 5), .ref (ad 6), .ref (ad 7), .ref (ad 8), .int md_members, .int md_provedNow])), ((ad 3), .inl (cs 0, 1008, .inl md_generator_61)), ((ad 4), .inl (cs 0, 126, .inl md_hand))] H → va_D A [((ad 0), .inr (8, [.int 1, .int md_p, .int md_n, .int md_order, .int md_monomials, .ref (ad 1), .ref (ad 2), .int md_generators, .ref (ad 3), .ref (ad 4), .int md_found, .int md_upTo, .ref (ad 5), .ref (ad 6), .ref (ad 7), .ref (ad 8), .int md_members, .int md_provedNow])), ((ad 3), .inl (cs 0, 1008, .inl md_generator_61)), ((ad 4), .inl (cs 0, 126, .inl md_hand))] → va_S A s.heap H locs → lv_has ls 3 [(0, .ref (ad 0)), (1, .int x1_1), (2, .int x2_60)] → W p l e (headSpec w_md_join { frames := 0, cells := 0, slots := 0, locals := 0 }).room s m ([.ref (ad 0)] : List Value).toArray below meth c H locs 0 0 (MQ below (va_Qi (fun (r : Int32) (u : Int32 × Int32 × Int32 × (Nat → Int32) × (Nat → Int32)) => Q r u.1 u.2.1 u.2.2.1 u.2.2.2.1 u.2.2.2.2) (at_md_join dC dI cs A ad md_p md_n md_order md_monomials md_upTo md_members md_provedNow) A) ([.ref (ad 0)] : List Value).toArray s 0 0 A) (F0 m 66 ls []) := by
              intro nn
              induction nn with
              | zero => intro x2_60 md_generator_61 hlt; exact absurd hlt (Nat.not_lt_zero _)
              | succ nn ih66 =>
                intro x2_60 md_generator_61 hlt66 hI H locs ls hP hD hS hl
                have hv := hv x2_60 md_generator_61 hI
                refine lv_iload_n hx hb d_md_join_66 rfl (lv_at hl 2 rfl) ?_
                refine lv_bipush (v := 126) hx hb d_md_join_67 (by decide) ?_
                refine lv_icmp_ge (tgt := 93) hx hb d_md_join_69 (by decide) (fun c_64 => ?_) (fun c_64 => ?_)
                · have hv := hv.1 c_64
                  refine lv_iconst (v := 0) hx hb d_md_join_93 (by decide) ?_
                  refine lv_istore_n (lv' := [(2, .int 0), (0, .ref (ad 0)), (1, .int x1_1)]) hx hb d_md_join_94 rfl hl (by decide) rfl (fun ls hl => ?_)
                  obtain ⟨I95_68, mu95_69, hi0, hv⟩ := hv
                  have hP := hP.sub (ws' := [((ad 0), .inr (8, [.int 1, .int md_p, .int md_n, .int md_order, .int md_monomials, .ref (ad 1), .ref (ad 2), .int md_generators, .ref (ad 3), .ref (ad 4), .int md_found, .int md_upTo, .ref (ad 5), .ref (ad 6), .ref (ad 7), .ref (ad 8), .int md_members, .int md_provedNow])), ((ad 3), .inl (cs 0, 1008, .inl md_generator_61)), ((ad 4), .inl (cs 0, 126, .inl md_hand))]) [0, 1, 2] rfl
                  have hD := hD.sub (ws' := [((ad 0), .inr (8, [.int 1, .int md_p, .int md_n, .int md_order, .int md_monomials, .ref (ad 1), .ref (ad 2), .int md_generators, .ref (ad 3), .ref (ad 4), .int md_found, .int md_upTo, .ref (ad 5), .ref (ad 6), .ref (ad 7), .ref (ad 8), .int md_members, .int md_provedNow])), ((ad 3), .inl (cs 0, 1008, .inl md_generator_61)), ((ad 4), .inl (cs 0, 126, .inl md_hand))]) [0, 1, 2] (by decide) rfl
                  have hl := lv_sub (l' := [(0, .ref (ad 0)), (1, .int x1_1), (2, .int 0)]) hl [1, 2, 0] rfl
                  have loop95 : ∀ (nn : Nat) (x2_65 : Int32) (md_generator_66 : Nat → Int32) (md_hand_67 : Nat → Int32), mu95_69 x2_65 md_generator_66 md_hand_67 < nn → I95_68 x2_65 md_generator_66 md_hand_67 → ∀ (H : Heap) (locs : List Loc) (ls : Array Slot), va_P (dC, dI) vwCl [((ad 0), .inr (8, [.int 1, .int md_p, .int md_n, .int md_order, .int md_monomials, .ref (ad 1), .ref (ad 2), .int md_generators, .ref (ad 3), .ref (ad 4), .int md_found, .int md_upTo, .ref (ad 5), .ref (ad 6), .ref (ad 7), .ref (ad 8), .int md_members, .int md_provedNow])), ((ad 3), .inl (cs 0, 1008, .inl md_generator_66)), ((ad 4), .inl (cs 0, 126, .inl md_hand_67))] H → va_D A [((ad 0), .inr (8, [.int 1, .int md_p, .int md_n, .int md_order, .int md_monomials, .ref (ad 1), .ref (ad 2), .int md_generators, .ref (ad 3), .ref (ad 4), .int md_found, .int md_upTo, .ref (ad 5), .ref (ad 6), .ref (ad 7), .ref (ad 8), .int md_members, .int md_provedNow])), ((ad 3), .inl (cs 0, 1008, .inl md_generator_66)), ((ad 4), .inl (cs 0, 126, .inl md_hand_67))] → va_S A s.heap H locs → lv_has ls 3 [(0, .ref (ad 0)), (1, .int x1_1), (2, .int x2_65)] → W p l e (headSpec w_md_join { frames := 0, cells := 0, slots := 0, locals := 0 }).room s m ([.ref (ad 0)] : List Value).toArray below meth c H locs 0 0 (MQ below (va_Qi (fun (r : Int32) (u : Int32 × Int32 × Int32 × (Nat → Int32) × (Nat → Int32)) => Q r u.1 u.2.1 u.2.2.1 u.2.2.2.1 u.2.2.2.2) (at_md_join dC dI cs A ad md_p md_n md_order md_monomials md_upTo md_members md_provedNow) A) ([.ref (ad 0)] : List Value).toArray s 0 0 A) (F0 m 95 ls []) := by
                    intro nn
                    induction nn with
                    | zero => intro x2_65 md_generator_66 md_hand_67 hlt; exact absurd hlt (Nat.not_lt_zero _)
                    | succ nn ih95 =>
                      intro x2_65 md_generator_66 md_hand_67 hlt95 hI H locs ls hP hD hS hl
                      have hv := hv x2_65 md_generator_66 md_hand_67 hI
                      refine lv_iload_n hx hb d_md_join_95 rfl (lv_at hl 2 rfl) ?_
                      refine lv_aload_n hx hb d_md_join_96 rfl (lv_at hl 0 rfl) ?_
                      refine va_get (D := (dC, dI)) (ci := 8) (v := .int md_monomials) (C := R_md) (T := F_md) (N := 18) hx hb hts in_md hown hK hP 0 rfl rfl 4 (by decide) (hts _ kw_622) (fun _ h9 => h9) rfl d_md_join_97 ?_
                      refine lv_icmp_ge (tgt := 136) hx hb d_md_join_100 (by decide) (fun c_70 => ?_) (fun c_70 => ?_)
                      · have hv := hv.1 c_70
                        refine lv_aload_n hx hb d_md_join_136 rfl (lv_at hl 0 rfl) ?_
                        refine lv_dup hx hb d_md_join_137 rfl ?_
                        refine va_get (D := (dC, dI)) (ci := 8) (v := .int md_generators) (C := R_md) (T := F_md) (N := 18) hx hb hts in_md hown hK hP 0 rfl rfl 7 (by decide) (hts _ kw_625) (fun _ h9 => h9) rfl d_md_join_138 ?_
                        refine lv_iconst (v := 1) hx hb d_md_join_141 (by decide) ?_
                        refine lv_iadd hx hb d_md_join_142 ?_
                        refine lv_topi (fun y_72 ey_72 => ?_)
                        have hv := hv y_72 ey_72
                        refine va_put (D := (dC, dI)) (ci := 8) (v := .int y_72) (ty := .int) (C := R_md) (T := F_md) (N := 18) hx hb hts in_md t_md t_md_ok n_md hown hK hP hD hS 0 rfl rfl 7 (by decide) (hts _ kw_625) (fun _ h9 => h9) rfl (by decide +kernel) rfl rfl (Nat.le_of_ble_eq_true rfl) d_md_join_143 (fun H locs hP hD hS => ?_)
                        have hP : va_P (dC, dI) vwCl [((ad 0), .inr (8, [.int 1, .int md_p, .int md_n, .int md_order, .int md_monomials, .ref (ad 1), .ref (ad 2), .int y_72, .ref (ad 3), .ref (ad 4), .int md_found, .int md_upTo, .ref (ad 5), .ref (ad 6), .ref (ad 7), .ref (ad 8), .int md_members, .int md_provedNow])), ((ad 3), .inl (cs 0, 1008, .inl md_generator_66)), ((ad 4), .inl (cs 0, 126, .inl md_hand_67))] H := hP
                        have hD : va_D A [((ad 0), .inr (8, [.int 1, .int md_p, .int md_n, .int md_order, .int md_monomials, .ref (ad 1), .ref (ad 2), .int y_72, .ref (ad 3), .ref (ad 4), .int md_found, .int md_upTo, .ref (ad 5), .ref (ad 6), .ref (ad 7), .ref (ad 8), .int md_members, .int md_provedNow])), ((ad 3), .inl (cs 0, 1008, .inl md_generator_66)), ((ad 4), .inl (cs 0, 126, .inl md_hand_67))] := hD
                        refine lv_aload_n hx hb d_md_join_146 rfl (lv_at hl 0 rfl) ?_
                        refine lv_iconst (v := 0) hx hb d_md_join_147 (by decide) ?_
                        refine va_put (D := (dC, dI)) (ci := 8) (v := .int 0) (ty := .boolean) (C := R_md) (T := F_md) (N := 18) hx hb hts in_md t_md t_md_ok n_md hown hK hP hD hS 0 rfl rfl 10 (by decide) (hts _ kw_628) (fun _ h9 => h9) rfl (by decide +kernel) rfl rfl (Nat.le_of_ble_eq_true rfl) d_md_join_148 (fun H locs hP hD hS => ?_)
                        have hP : va_P (dC, dI) vwCl [((ad 0), .inr (8, [.int 1, .int md_p, .int md_n, .int md_order, .int md_monomials, .ref (ad 1), .ref (ad 2), .int y_72, .ref (ad 3), .ref (ad 4), .int 0, .int md_upTo, .ref (ad 5), .ref (ad 6), .ref (ad 7), .ref (ad 8), .int md_members, .int md_provedNow])), ((ad 3), .inl (cs 0, 1008, .inl md_generator_66)), ((ad 4), .inl (cs 0, 126, .inl md_hand_67))] H := hP
                        have hD : va_D A [((ad 0), .inr (8, [.int 1, .int md_p, .int md_n, .int md_order, .int md_monomials, .ref (ad 1), .ref (ad 2), .int y_72, .ref (ad 3), .ref (ad 4), .int 0, .int md_upTo, .ref (ad 5), .ref (ad 6), .ref (ad 7), .ref (ad 8), .int md_members, .int md_provedNow])), ((ad 3), .inl (cs 0, 1008, .inl md_generator_66)), ((ad 4), .inl (cs 0, 126, .inl md_hand_67))] := hD
                        refine lv_aload_n hx hb d_md_join_151 rfl (lv_at hl 0 rfl) ?_
                        refine va_get (D := (dC, dI)) (ci := 8) (v := .int y_72) (C := R_md) (T := F_md) (N := 18) hx hb hts in_md hown hK hP 0 rfl rfl 7 (by decide) (hts _ kw_625) (fun _ h9 => h9) rfl d_md_join_152 ?_
                        have hP9 := hP.sub (ws' := [((ad 0), .inr (8, [.int 1, .int md_p, .int md_n, .int md_order, .int md_monomials, .ref (ad 1), .ref (ad 2), .int y_72, .ref (ad 3), .ref (ad 4), .int 0, .int md_upTo, .ref (ad 5), .ref (ad 6), .ref (ad 7), .ref (ad 8), .int md_members, .int md_provedNow])), ((ad 3), .inl (cs 0, 1008, .inl md_generator_66)), ((ad 4), .inl (cs 0, 126, .inl md_hand_67))]) [0, 1, 2] rfl
                        have hD9 := hD.sub (ws' := [((ad 0), .inr (8, [.int 1, .int md_p, .int md_n, .int md_order, .int md_monomials, .ref (ad 1), .ref (ad 2), .int y_72, .ref (ad 3), .ref (ad 4), .int 0, .int md_upTo, .ref (ad 5), .ref (ad 6), .ref (ad 7), .ref (ad 8), .int md_members, .int md_provedNow])), ((ad 3), .inl (cs 0, 1008, .inl md_generator_66)), ((ad 4), .inl (cs 0, 126, .inl md_hand_67))]) [0, 1, 2] (by decide) rfl
                        exact W.iret (v := y_72) hx hb hr (fun t ht hW => ⟨⟨y_72, (1, y_72, 0, md_generator_66, md_hand_67), rfl, hv, by rw [ht]; exact hP9, hD9⟩, hS.F ht⟩) hS.2.2 d_md_join_155
                      · have hv := hv.2 c_70
                        refine lv_aload_n hx hb d_md_join_103 rfl (lv_at hl 0 rfl) ?_
                        refine va_get (D := (dC, dI)) (ci := 8) (v := .ref (ad 3)) (C := R_md) (T := F_md) (N := 18) hx hb hts in_md hown hK hP 0 rfl rfl 8 (by decide) (hts _ kw_626) (fun _ h9 => h9) rfl d_md_join_104 ?_
                        refine lv_bipush (v := 126) hx hb d_md_join_107 (by decide) ?_
                        refine lv_aload_n hx hb d_md_join_109 rfl (lv_at hl 0 rfl) ?_
                        refine va_get (D := (dC, dI)) (ci := 8) (v := .int md_generators) (C := R_md) (T := F_md) (N := 18) hx hb hts in_md hown hK hP 0 rfl rfl 7 (by decide) (hts _ kw_625) (fun _ h9 => h9) rfl d_md_join_110 ?_
                        refine lv_imul hx hb d_md_join_113 ?_
                        refine lv_iload_n hx hb d_md_join_114 rfl (lv_at hl 2 rfl) ?_
                        refine lv_iadd hx hb d_md_join_115 ?_
                        refine lv_aload_n hx hb d_md_join_116 rfl (lv_at hl 0 rfl) ?_
                        refine va_get (D := (dC, dI)) (ci := 8) (v := .ref (ad 4)) (C := R_md) (T := F_md) (N := 18) hx hb hts in_md hown hK hP 0 rfl rfl 9 (by decide) (hts _ kw_627) (fun _ h9 => h9) rfl d_md_join_117 ?_
                        refine lv_iload_n hx hb d_md_join_120 rfl (lv_at hl 2 rfl) ?_
                        obtain ⟨hi_74, hv⟩ := hv
                        refine va_iald hx hb hK hP 2 0 rfl rfl hi_74 d_md_join_121 ?_
                        obtain ⟨hi_75, hv⟩ := hv
                        refine va_iast hx hb hK hP hD hS 1 0 rfl rfl hi_75 d_md_join_122 (fun H locs hP hD hS => ?_)
                        have hP : va_P (dC, dI) vwCl [((ad 0), .inr (8, [.int 1, .int md_p, .int md_n, .int md_order, .int md_monomials, .ref (ad 1), .ref (ad 2), .int md_generators, .ref (ad 3), .ref (ad 4), .int md_found, .int md_upTo, .ref (ad 5), .ref (ad 6), .ref (ad 7), .ref (ad 8), .int md_members, .int md_provedNow])), ((ad 3), .inl (cs 0, 1008, .inl (upd md_generator_66 (((126 * md_generators) + x2_65)).toNatClampNeg (md_hand_67 x2_65.toNatClampNeg)))), ((ad 4), .inl (cs 0, 126, .inl md_hand_67))] H := hP
                        have hD : va_D A [((ad 0), .inr (8, [.int 1, .int md_p, .int md_n, .int md_order, .int md_monomials, .ref (ad 1), .ref (ad 2), .int md_generators, .ref (ad 3), .ref (ad 4), .int md_found, .int md_upTo, .ref (ad 5), .ref (ad 6), .ref (ad 7), .ref (ad 8), .int md_members, .int md_provedNow])), ((ad 3), .inl (cs 0, 1008, .inl (upd md_generator_66 (((126 * md_generators) + x2_65)).toNatClampNeg (md_hand_67 x2_65.toNatClampNeg)))), ((ad 4), .inl (cs 0, 126, .inl md_hand_67))] := hD
                        generalize emd_generator_76 : upd md_generator_66 (((126 * md_generators) + x2_65)).toNatClampNeg (md_hand_67 x2_65.toNatClampNeg) = md_generator_76 at hP hD
                        have hv := hv md_generator_76 emd_generator_76.symm
                        refine lv_aload_n hx hb d_md_join_123 rfl (lv_at hl 0 rfl) ?_
                        refine va_get (D := (dC, dI)) (ci := 8) (v := .ref (ad 4)) (C := R_md) (T := F_md) (N := 18) hx hb hts in_md hown hK hP 0 rfl rfl 9 (by decide) (hts _ kw_627) (fun _ h9 => h9) rfl d_md_join_124 ?_
                        refine lv_iload_n hx hb d_md_join_127 rfl (lv_at hl 2 rfl) ?_
                        refine lv_iconst (v := 0) hx hb d_md_join_128 (by decide) ?_
                        obtain ⟨hi_77, hv⟩ := hv
                        refine va_iast hx hb hK hP hD hS 2 0 rfl rfl hi_77 d_md_join_129 (fun H locs hP hD hS => ?_)
                        have hP : va_P (dC, dI) vwCl [((ad 0), .inr (8, [.int 1, .int md_p, .int md_n, .int md_order, .int md_monomials, .ref (ad 1), .ref (ad 2), .int md_generators, .ref (ad 3), .ref (ad 4), .int md_found, .int md_upTo, .ref (ad 5), .ref (ad 6), .ref (ad 7), .ref (ad 8), .int md_members, .int md_provedNow])), ((ad 3), .inl (cs 0, 1008, .inl md_generator_76)), ((ad 4), .inl (cs 0, 126, .inl (upd md_hand_67 x2_65.toNatClampNeg 0)))] H := hP
                        have hD : va_D A [((ad 0), .inr (8, [.int 1, .int md_p, .int md_n, .int md_order, .int md_monomials, .ref (ad 1), .ref (ad 2), .int md_generators, .ref (ad 3), .ref (ad 4), .int md_found, .int md_upTo, .ref (ad 5), .ref (ad 6), .ref (ad 7), .ref (ad 8), .int md_members, .int md_provedNow])), ((ad 3), .inl (cs 0, 1008, .inl md_generator_76)), ((ad 4), .inl (cs 0, 126, .inl (upd md_hand_67 x2_65.toNatClampNeg 0)))] := hD
                        generalize emd_hand_78 : upd md_hand_67 x2_65.toNatClampNeg 0 = md_hand_78 at hP hD
                        have hv := hv md_hand_78 emd_hand_78.symm
                        obtain ⟨x2_79, ex2_79⟩ : ∃ y : Int32, y = x2_65 + 1 := ⟨_, rfl⟩
                        have hv := hv x2_79 ex2_79
                        refine lv_iinc (v := x2_79) (lv' := [(2, .int x2_79), (0, .ref (ad 0)), (1, .int x1_1)]) hx hb d_md_join_130 hl (k := 2) rfl (by rw [ex2_79]; rfl) (by decide) rfl (fun ls hl => ?_)
                        refine lv_goto (tgt := 95) hx hb d_md_join_133 (by decide) ?_
                        exact ih95 x2_79 md_generator_76 md_hand_78 (Nat.lt_of_lt_of_le hv.2 (Nat.le_of_lt_succ hlt95)) hv.1 _ _ _ (hP.sub [0, 1, 2] rfl) (hD.sub [0, 1, 2] (by decide) rfl) hS (lv_sub hl [1, 2, 0] rfl)
                  exact loop95 _ 0 md_generator_61 md_hand (Nat.lt_succ_self _) hi0 _ _ _ hP hD hS hl
                · have hv := hv.2 c_64
                  refine lv_aload_n hx hb d_md_join_72 rfl (lv_at hl 0 rfl) ?_
                  refine va_get (D := (dC, dI)) (ci := 8) (v := .ref (ad 3)) (C := R_md) (T := F_md) (N := 18) hx hb hts in_md hown hK hP 0 rfl rfl 8 (by decide) (hts _ kw_626) (fun _ h9 => h9) rfl d_md_join_73 ?_
                  refine lv_bipush (v := 126) hx hb d_md_join_76 (by decide) ?_
                  refine lv_aload_n hx hb d_md_join_78 rfl (lv_at hl 0 rfl) ?_
                  refine va_get (D := (dC, dI)) (ci := 8) (v := .int md_generators) (C := R_md) (T := F_md) (N := 18) hx hb hts in_md hown hK hP 0 rfl rfl 7 (by decide) (hts _ kw_625) (fun _ h9 => h9) rfl d_md_join_79 ?_
                  refine lv_imul hx hb d_md_join_82 ?_
                  refine lv_iload_n hx hb d_md_join_83 rfl (lv_at hl 2 rfl) ?_
                  refine lv_iadd hx hb d_md_join_84 ?_
                  refine lv_iconst (v := 0) hx hb d_md_join_85 (by decide) ?_
                  obtain ⟨hi_80, hv⟩ := hv
                  refine va_iast hx hb hK hP hD hS 1 0 rfl rfl hi_80 d_md_join_86 (fun H locs hP hD hS => ?_)
                  have hP : va_P (dC, dI) vwCl [((ad 0), .inr (8, [.int 1, .int md_p, .int md_n, .int md_order, .int md_monomials, .ref (ad 1), .ref (ad 2), .int md_generators, .ref (ad 3), .ref (ad 4), .int md_found, .int md_upTo, .ref (ad 5), .ref (ad 6), .ref (ad 7), .ref (ad 8), .int md_members, .int md_provedNow])), ((ad 3), .inl (cs 0, 1008, .inl (upd md_generator_61 (((126 * md_generators) + x2_60)).toNatClampNeg 0))), ((ad 4), .inl (cs 0, 126, .inl md_hand))] H := hP
                  have hD : va_D A [((ad 0), .inr (8, [.int 1, .int md_p, .int md_n, .int md_order, .int md_monomials, .ref (ad 1), .ref (ad 2), .int md_generators, .ref (ad 3), .ref (ad 4), .int md_found, .int md_upTo, .ref (ad 5), .ref (ad 6), .ref (ad 7), .ref (ad 8), .int md_members, .int md_provedNow])), ((ad 3), .inl (cs 0, 1008, .inl (upd md_generator_61 (((126 * md_generators) + x2_60)).toNatClampNeg 0))), ((ad 4), .inl (cs 0, 126, .inl md_hand))] := hD
                  generalize emd_generator_81 : upd md_generator_61 (((126 * md_generators) + x2_60)).toNatClampNeg 0 = md_generator_81 at hP hD
                  have hv := hv md_generator_81 emd_generator_81.symm
                  obtain ⟨x2_82, ex2_82⟩ : ∃ y : Int32, y = x2_60 + 1 := ⟨_, rfl⟩
                  have hv := hv x2_82 ex2_82
                  refine lv_iinc (v := x2_82) (lv' := [(2, .int x2_82), (0, .ref (ad 0)), (1, .int x1_1)]) hx hb d_md_join_87 hl (k := 2) rfl (by rw [ex2_82]; rfl) (by decide) rfl (fun ls hl => ?_)
                  refine lv_goto (tgt := 66) hx hb d_md_join_90 (by decide) ?_
                  exact ih66 x2_82 md_generator_81 (Nat.lt_of_lt_of_le hv.2 (Nat.le_of_lt_succ hlt66)) hv.1 _ _ _ (hP.sub [0, 1, 2] rfl) (hD.sub [0, 1, 2] (by decide) rfl) hS (lv_sub hl [1, 2, 0] rfl)
            exact loop66 _ 0 md_generator (Nat.lt_succ_self _) hi0 _ _ _ hP hD hS hl
          · have hv := hv.2 c_59
            refine lv_iconst (v := 0) hx hb d_md_join_62 (by decide) ?_
            have hP9 := hP.sub (ws' := [((ad 0), .inr (8, [.int 1, .int md_p, .int md_n, .int md_order, .int md_monomials, .ref (ad 1), .ref (ad 2), .int md_generators, .ref (ad 3), .ref (ad 4), .int md_found, .int md_upTo, .ref (ad 5), .ref (ad 6), .ref (ad 7), .ref (ad 8), .int md_members, .int md_provedNow])), ((ad 3), .inl (cs 0, 1008, .inl md_generator)), ((ad 4), .inl (cs 0, 126, .inl md_hand))]) [0, 1, 2] rfl
            have hD9 := hD.sub (ws' := [((ad 0), .inr (8, [.int 1, .int md_p, .int md_n, .int md_order, .int md_monomials, .ref (ad 1), .ref (ad 2), .int md_generators, .ref (ad 3), .ref (ad 4), .int md_found, .int md_upTo, .ref (ad 5), .ref (ad 6), .ref (ad 7), .ref (ad 8), .int md_members, .int md_provedNow])), ((ad 3), .inl (cs 0, 1008, .inl md_generator)), ((ad 4), .inl (cs 0, 126, .inl md_hand))]) [0, 1, 2] (by decide) rfl
            exact W.iret (v := 0) hx hb hr (fun t ht hW => ⟨⟨0, (1, md_generators, md_found, md_generator, md_hand), rfl, hv, by rw [ht]; exact hP9, hD9⟩, hS.F ht⟩) hS.2.2 d_md_join_63
      · have hv := hv.2 c_5
        refine lv_aload_n hx hb d_md_join_12 rfl (lv_at hl 0 rfl) ?_
        refine va_get (D := (dC, dI)) (ci := 8) (v := .ref (ad 4)) (C := R_md) (T := F_md) (N := 18) hx hb hts in_md hown hK hP 0 rfl rfl 9 (by decide) (hts _ kw_627) (fun _ h9 => h9) rfl d_md_join_13 ?_
        refine lv_iload_n hx hb d_md_join_16 rfl (lv_at hl 2 rfl) ?_
        obtain ⟨hi_83, hv⟩ := hv
        refine va_iald hx hb hK hP 2 0 rfl rfl hi_83 d_md_join_17 ?_
        refine lv_if_eq (tgt := 23) hx hb d_md_join_18 (by decide) (fun c_84 => ?_) (fun c_84 => ?_)
        · have hv := hv.1 c_84
          obtain ⟨x2_85, ex2_85⟩ : ∃ y : Int32, y = x2_2 + 1 := ⟨_, rfl⟩
          have hv := hv x2_85 ex2_85
          refine lv_iinc (v := x2_85) (lv' := [(2, .int x2_85), (0, .ref (ad 0)), (1, .int x1_1)]) hx hb d_md_join_23 hl (k := 2) rfl (by rw [ex2_85]; rfl) (by decide) rfl (fun ls hl => ?_)
          refine lv_goto (tgt := 4) hx hb d_md_join_26 (by decide) ?_
          exact ih4 x1_1 x2_85 (Nat.lt_of_lt_of_le hv.2 (Nat.le_of_lt_succ hlt4)) hv.1 _ _ _ (hP.sub [0, 1, 2] rfl) (hD.sub [0, 1, 2] (by decide) rfl) hS (lv_sub hl [1, 2, 0] rfl)
        · have hv := hv.2 c_84
          refine lv_iconst (v := 1) hx hb d_md_join_21 (by decide) ?_
          refine lv_istore_n (lv' := [(1, .int 1), (0, .ref (ad 0)), (2, .int x2_2)]) hx hb d_md_join_22 rfl hl (by decide) rfl (fun ls hl => ?_)
          obtain ⟨x2_86, ex2_86⟩ : ∃ y : Int32, y = x2_2 + 1 := ⟨_, rfl⟩
          have hv := hv x2_86 ex2_86
          refine lv_iinc (v := x2_86) (lv' := [(2, .int x2_86), (1, .int 1), (0, .ref (ad 0))]) hx hb d_md_join_23 hl (k := 2) rfl (by rw [ex2_86]; rfl) (by decide) rfl (fun ls hl => ?_)
          refine lv_goto (tgt := 4) hx hb d_md_join_26 (by decide) ?_
          exact ih4 1 x2_86 (Nat.lt_of_lt_of_le hv.2 (Nat.le_of_lt_succ hlt4)) hv.1 _ _ _ (hP.sub [0, 1, 2] rfl) (hD.sub [0, 1, 2] (by decide) rfl) hS (lv_sub hl [2, 1, 0] rfl)
  exact loop4 _ 0 0 (Nat.lt_succ_self _) hi0 _ _ _ hP hD hS hl
abbrev b_md_clear : ByteArray := prog_10_method_26_code
def y_md_clear : MethodName := ⟨"SpaceBasisModel", "clear", "()V"⟩
def w_md_clear : List Cond := Cond.code y_md_clear b_md_clear 2 none :: vwWS
theorem d_md_clear_0 : decode b_md_clear 0 = .ok (.aload_n 0, 1) := by decide +kernel
theorem d_md_clear_1 : decode b_md_clear 1 = .ok (.iconst 0, 1) := by decide +kernel
theorem d_md_clear_2 : decode b_md_clear 2 = .ok (.putfield 7, 3) := by decide +kernel
theorem d_md_clear_5 : decode b_md_clear 5 = .ok (.aload_n 0, 1) := by decide +kernel
theorem d_md_clear_6 : decode b_md_clear 6 = .ok (.iconst 0, 1) := by decide +kernel
theorem d_md_clear_7 : decode b_md_clear 7 = .ok (.putfield 32, 3) := by decide +kernel
theorem d_md_clear_10 : decode b_md_clear 10 = .ok (.aload_n 0, 1) := by decide +kernel
theorem d_md_clear_11 : decode b_md_clear 11 = .ok (.iconst 0, 1) := by decide +kernel
theorem d_md_clear_12 : decode b_md_clear 12 = .ok (.putfield 41, 3) := by decide +kernel
theorem d_md_clear_15 : decode b_md_clear 15 = .ok (.iconst 0, 1) := by decide +kernel
theorem d_md_clear_16 : decode b_md_clear 16 = .ok (.istore_n 1, 1) := by decide +kernel
theorem d_md_clear_17 : decode b_md_clear 17 = .ok (.iload_n 1, 1) := by decide +kernel
theorem d_md_clear_18 : decode b_md_clear 18 = .ok (.bipush 126, 2) := by decide +kernel
theorem d_md_clear_20 : decode b_md_clear 20 = .ok (.if_icmp .ge 16, 3) := by decide +kernel
theorem d_md_clear_23 : decode b_md_clear 23 = .ok (.aload_n 0, 1) := by decide +kernel
theorem d_md_clear_24 : decode b_md_clear 24 = .ok (.getfield 38, 3) := by decide +kernel
theorem d_md_clear_27 : decode b_md_clear 27 = .ok (.iload_n 1, 1) := by decide +kernel
theorem d_md_clear_28 : decode b_md_clear 28 = .ok (.iconst 0, 1) := by decide +kernel
theorem d_md_clear_29 : decode b_md_clear 29 = .ok (.iastore, 1) := by decide +kernel
theorem d_md_clear_30 : decode b_md_clear 30 = .ok (.iinc 1 1, 3) := by decide +kernel
theorem d_md_clear_33 : decode b_md_clear 33 = .ok (.goto (-16), 3) := by decide +kernel
theorem d_md_clear_36 : decode b_md_clear 36 = .ok (.return_, 1) := by decide +kernel
/-- SpaceBasisModel.clear()V -/
def vc_md_clear (md_thrownCode : Int32) (md_p : Int32) (md_n : Int32) (md_order : Int32) (md_monomials : Int32) (md_generators : Int32) (md_found : Int32) (md_upTo : Int32) (md_members : Int32) (md_provedNow : Int32) (md_hand : Nat → Int32) (Q : Int32 → Int32 → Int32 → (Nat → Int32) → Prop) : Prop :=
  ∃ (I17_6 : Int32 → (Nat → Int32) → Prop) (mu17_7 : Int32 → (Nat → Int32) → Nat), I17_6 0 md_hand ∧ ∀ (x1_4 : Int32) (md_hand_5 : Nat → Int32), I17_6 x1_4 md_hand_5 → ((((126 ≤ x1_4) → (Q 0 0 0 md_hand_5)) ∧ ((¬ (126 ≤ x1_4)) → (vp_in x1_4 126 ∧ ∀ md_hand_10 : Nat → Int32, md_hand_10 = upd md_hand_5 x1_4.toNatClampNeg 0 → ∀ x1_11 : Int32, x1_11 = x1_4 + 1 → (I17_6 x1_11 md_hand_10 ∧ mu17_7 x1_11 md_hand_10 < mu17_7 x1_4 md_hand_5)))))
abbrev at_md_clear (dC : Nat → ClassId) (dI : Nat → Nat → Nat) (cs : Nat → ClassId) (A : Nat → Prop) (ad : Nat → Nat) (md_p : Int32) (md_n : Int32) (md_order : Int32) (md_monomials : Int32) (md_upTo : Int32) (md_members : Int32) (md_provedNow : Int32) (u : Int32 × Int32 × Int32 × (Nat → Int32)) (t : State) : Prop := match u with
  | (md_thrownCode, md_generators, md_found, md_hand) => va_P (dC, dI) vwCl [((ad 0), .inr (8, [.int md_thrownCode, .int md_p, .int md_n, .int md_order, .int md_monomials, .ref (ad 1), .ref (ad 2), .int md_generators, .ref (ad 3), .ref (ad 4), .int md_found, .int md_upTo, .ref (ad 5), .ref (ad 6), .ref (ad 7), .ref (ad 8), .int md_members, .int md_provedNow])), ((ad 4), .inl (cs 0, 126, .inl md_hand))] t.heap ∧ va_D A [((ad 0), .inr (8, [.int md_thrownCode, .int md_p, .int md_n, .int md_order, .int md_monomials, .ref (ad 1), .ref (ad 2), .int md_generators, .ref (ad 3), .ref (ad 4), .int md_found, .int md_upTo, .ref (ad 5), .ref (ad 6), .ref (ad 7), .ref (ad 8), .int md_members, .int md_provedNow])), ((ad 4), .inl (cs 0, 126, .inl md_hand))]
set_option maxHeartbeats 4000000 in
set_option maxRecDepth 100000 in
theorem c_md_clear (l : Launch) (dC : Nat → ClassId) (dI : Nat → Nat → Nat) (cs : Nat → ClassId) (ad : Nat → Nat)  (sz : Nat) (md_thrownCode : Int32) (md_p : Int32) (md_n : Int32) (md_order : Int32) (md_monomials : Int32) (md_generators : Int32) (md_found : Int32) (md_upTo : Int32) (md_members : Int32) (md_provedNow : Int32) (md_hand : Nat → Int32) (Q : Int32 → Int32 → Int32 → (Nat → Int32) → Prop) (hv : vc_md_clear md_thrownCode md_p md_n md_order md_monomials md_generators md_found md_upTo md_members md_provedNow md_hand Q) : Met l y_md_clear w_md_clear ({ frames := 0, cells := 0, slots := 0, locals := 0 }) (va_Pc [.ref (ad 0)] (fun U => U.heap.size = sz ∧ va_P (dC, dI) vwCl [((ad 0), .inr (8, [.int md_thrownCode, .int md_p, .int md_n, .int md_order, .int md_monomials, .ref (ad 1), .ref (ad 2), .int md_generators, .ref (ad 3), .ref (ad 4), .int md_found, .int md_upTo, .ref (ad 5), .ref (ad 6), .ref (ad 7), .ref (ad 8), .int md_members, .int md_provedNow])), ((ad 4), .inl (cs 0, 126, .inl md_hand))] U.heap ∧ vwK dC dI cs U ∧ va_D (fun _ => True) [((ad 0), .inr (8, [.int md_thrownCode, .int md_p, .int md_n, .int md_order, .int md_monomials, .ref (ad 1), .ref (ad 2), .int md_generators, .ref (ad 3), .ref (ad 4), .int md_found, .int md_upTo, .ref (ad 5), .ref (ad 6), .ref (ad 7), .ref (ad 8), .int md_members, .int md_provedNow])), ((ad 4), .inl (cs 0, 126, .inl md_hand))])) (va_Qv (fun (u : Int32 × Int32 × Int32 × (Nat → Int32)) => Q u.1 u.2.1 u.2.2.1 u.2.2.2) (at_md_clear dC dI cs (va_A [((ad 0), .inr (8, [.int md_thrownCode, .int md_p, .int md_n, .int md_order, .int md_monomials, .ref (ad 1), .ref (ad 2), .int md_generators, .ref (ad 3), .ref (ad 4), .int md_found, .int md_upTo, .ref (ad 5), .ref (ad 6), .ref (ad 7), .ref (ad 8), .int md_members, .int md_provedNow])), ((ad 4), .inl (cs 0, 126, .inl md_hand))] sz) ad md_p md_n md_order md_monomials md_upTo md_members md_provedNow) (va_A [((ad 0), .inr (8, [.int md_thrownCode, .int md_p, .int md_n, .int md_order, .int md_monomials, .ref (ad 1), .ref (ad 2), .int md_generators, .ref (ad 3), .ref (ad 4), .int md_found, .int md_upTo, .ref (ad 5), .ref (ad 6), .ref (ad 7), .ref (ad 8), .int md_members, .int md_provedNow])), ((ad 4), .inl (cs 0, 126, .inl md_hand))] sz)) 0 0 (va_A [((ad 0), .inr (8, [.int md_thrownCode, .int md_p, .int md_n, .int md_order, .int md_monomials, .ref (ad 1), .ref (ad 2), .int md_generators, .ref (ad 3), .ref (ad 4), .int md_found, .int md_upTo, .ref (ad 5), .ref (ad 6), .ref (ad 7), .ref (ad 8), .int md_members, .int md_provedNow])), ((ad 4), .inl (cs 0, 126, .inl md_hand))] sz) := by
  unfold vc_md_clear at hv
  refine Met.ofW (cc := b_md_clear) (maxL := 2) (ret := none) (by decide) rfl ?_
  intro p e s m args below meth c s₁ B hml hpc
  obtain ⟨rfl, hsz, hP, ⟨hK, hN⟩, hD0⟩ := hpc
  have hx := B.exec
  have hb := B.bytes
  have hr := B.returns
  have hts : ∀ w ∈ vwWS, w.before _ s = true := fun w h => atoms_spec (ws := w_md_clear) B.pre w (List.mem_cons_of_mem _ h)
  have hown : s.vm.findClass "SpaceBasisModel" = some m.cls := findClass_of_methodNamed B.named
  have hlocks := B.notSynchronized
  subst hsz
  have hD := hD0.self (sz := s.heap.size)
  generalize hAe : va_A [((ad 0), .inr (8, [.int md_thrownCode, .int md_p, .int md_n, .int md_order, .int md_monomials, .ref (ad 1), .ref (ad 2), .int md_generators, .ref (ad 3), .ref (ad 4), .int md_found, .int md_upTo, .ref (ad 5), .ref (ad 6), .ref (ad 7), .ref (ad 8), .int md_members, .int md_provedNow])), ((ad 4), .inl (cs 0, 126, .inl md_hand))] s.heap.size = A at hD ⊢
  have hA : ∀ q : Nat, s.heap.size ≤ q → A q := fun q h => by rw [← hAe]; exact Or.inr h
  have hS : va_S A s.heap s.heap [] := va_S.rf
  have hl := lv_entry ([.ref (ad 0)]) (n := 2) (Nat.le_of_ble_eq_true rfl)
  rw [lg_entry_eq]
  generalize (lg_sl ([.ref (ad 0)]) ++ List.replicate (2 - (lg_sl ([.ref (ad 0)])).length) Slot.unset).toArray = ls at hl ⊢
  have hl : lv_has ls 2 [(0, .ref (ad 0))] := hl
  refine lv_aload_n hx hb d_md_clear_0 rfl (lv_at hl 0 rfl) ?_
  refine lv_iconst (v := 0) hx hb d_md_clear_1 (by decide) ?_
  refine va_put (D := (dC, dI)) (ci := 8) (v := .int 0) (ty := .int) (C := R_md) (T := F_md) (N := 18) hx hb hts in_md t_md t_md_ok n_md hown hK hP hD hS 0 rfl rfl 0 (by decide) (hts _ kw_618) (fun _ h9 => h9) rfl (by decide +kernel) rfl rfl (Nat.le_of_ble_eq_true rfl) d_md_clear_2 (fun H locs hP hD hS => ?_)
  have hP : va_P (dC, dI) vwCl [((ad 0), .inr (8, [.int 0, .int md_p, .int md_n, .int md_order, .int md_monomials, .ref (ad 1), .ref (ad 2), .int md_generators, .ref (ad 3), .ref (ad 4), .int md_found, .int md_upTo, .ref (ad 5), .ref (ad 6), .ref (ad 7), .ref (ad 8), .int md_members, .int md_provedNow])), ((ad 4), .inl (cs 0, 126, .inl md_hand))] H := hP
  have hD : va_D A [((ad 0), .inr (8, [.int 0, .int md_p, .int md_n, .int md_order, .int md_monomials, .ref (ad 1), .ref (ad 2), .int md_generators, .ref (ad 3), .ref (ad 4), .int md_found, .int md_upTo, .ref (ad 5), .ref (ad 6), .ref (ad 7), .ref (ad 8), .int md_members, .int md_provedNow])), ((ad 4), .inl (cs 0, 126, .inl md_hand))] := hD
  refine lv_aload_n hx hb d_md_clear_5 rfl (lv_at hl 0 rfl) ?_
  refine lv_iconst (v := 0) hx hb d_md_clear_6 (by decide) ?_
  refine va_put (D := (dC, dI)) (ci := 8) (v := .int 0) (ty := .int) (C := R_md) (T := F_md) (N := 18) hx hb hts in_md t_md t_md_ok n_md hown hK hP hD hS 0 rfl rfl 7 (by decide) (hts _ kw_625) (fun _ h9 => h9) rfl (by decide +kernel) rfl rfl (Nat.le_of_ble_eq_true rfl) d_md_clear_7 (fun H locs hP hD hS => ?_)
  have hP : va_P (dC, dI) vwCl [((ad 0), .inr (8, [.int 0, .int md_p, .int md_n, .int md_order, .int md_monomials, .ref (ad 1), .ref (ad 2), .int 0, .ref (ad 3), .ref (ad 4), .int md_found, .int md_upTo, .ref (ad 5), .ref (ad 6), .ref (ad 7), .ref (ad 8), .int md_members, .int md_provedNow])), ((ad 4), .inl (cs 0, 126, .inl md_hand))] H := hP
  have hD : va_D A [((ad 0), .inr (8, [.int 0, .int md_p, .int md_n, .int md_order, .int md_monomials, .ref (ad 1), .ref (ad 2), .int 0, .ref (ad 3), .ref (ad 4), .int md_found, .int md_upTo, .ref (ad 5), .ref (ad 6), .ref (ad 7), .ref (ad 8), .int md_members, .int md_provedNow])), ((ad 4), .inl (cs 0, 126, .inl md_hand))] := hD
  refine lv_aload_n hx hb d_md_clear_10 rfl (lv_at hl 0 rfl) ?_
  refine lv_iconst (v := 0) hx hb d_md_clear_11 (by decide) ?_
  refine va_put (D := (dC, dI)) (ci := 8) (v := .int 0) (ty := .boolean) (C := R_md) (T := F_md) (N := 18) hx hb hts in_md t_md t_md_ok n_md hown hK hP hD hS 0 rfl rfl 10 (by decide) (hts _ kw_628) (fun _ h9 => h9) rfl (by decide +kernel) rfl rfl (Nat.le_of_ble_eq_true rfl) d_md_clear_12 (fun H locs hP hD hS => ?_)
  have hP : va_P (dC, dI) vwCl [((ad 0), .inr (8, [.int 0, .int md_p, .int md_n, .int md_order, .int md_monomials, .ref (ad 1), .ref (ad 2), .int 0, .ref (ad 3), .ref (ad 4), .int 0, .int md_upTo, .ref (ad 5), .ref (ad 6), .ref (ad 7), .ref (ad 8), .int md_members, .int md_provedNow])), ((ad 4), .inl (cs 0, 126, .inl md_hand))] H := hP
  have hD : va_D A [((ad 0), .inr (8, [.int 0, .int md_p, .int md_n, .int md_order, .int md_monomials, .ref (ad 1), .ref (ad 2), .int 0, .ref (ad 3), .ref (ad 4), .int 0, .int md_upTo, .ref (ad 5), .ref (ad 6), .ref (ad 7), .ref (ad 8), .int md_members, .int md_provedNow])), ((ad 4), .inl (cs 0, 126, .inl md_hand))] := hD
  refine lv_iconst (v := 0) hx hb d_md_clear_15 (by decide) ?_
  refine lv_istore_n (lv' := [(1, .int 0), (0, .ref (ad 0))]) hx hb d_md_clear_16 rfl hl (by decide) rfl (fun ls hl => ?_)
  obtain ⟨I17_6, mu17_7, hi0, hv⟩ := hv
  have hP := hP.sub (ws' := [((ad 0), .inr (8, [.int 0, .int md_p, .int md_n, .int md_order, .int md_monomials, .ref (ad 1), .ref (ad 2), .int 0, .ref (ad 3), .ref (ad 4), .int 0, .int md_upTo, .ref (ad 5), .ref (ad 6), .ref (ad 7), .ref (ad 8), .int md_members, .int md_provedNow])), ((ad 4), .inl (cs 0, 126, .inl md_hand))]) [0, 1] rfl
  have hD := hD.sub (ws' := [((ad 0), .inr (8, [.int 0, .int md_p, .int md_n, .int md_order, .int md_monomials, .ref (ad 1), .ref (ad 2), .int 0, .ref (ad 3), .ref (ad 4), .int 0, .int md_upTo, .ref (ad 5), .ref (ad 6), .ref (ad 7), .ref (ad 8), .int md_members, .int md_provedNow])), ((ad 4), .inl (cs 0, 126, .inl md_hand))]) [0, 1] (by decide) rfl
  have hl := lv_sub (l' := [(0, .ref (ad 0)), (1, .int 0)]) hl [1, 0] rfl
  have loop17 : ∀ (nn : Nat) (x1_4 : Int32) (md_hand_5 : Nat → Int32), mu17_7 x1_4 md_hand_5 < nn → I17_6 x1_4 md_hand_5 → ∀ (H : Heap) (locs : List Loc) (ls : Array Slot), va_P (dC, dI) vwCl [((ad 0), .inr (8, [.int 0, .int md_p, .int md_n, .int md_order, .int md_monomials, .ref (ad 1), .ref (ad 2), .int 0, .ref (ad 3), .ref (ad 4), .int 0, .int md_upTo, .ref (ad 5), .ref (ad 6), .ref (ad 7), .ref (ad 8), .int md_members, .int md_provedNow])), ((ad 4), .inl (cs 0, 126, .inl md_hand_5))] H → va_D A [((ad 0), .inr (8, [.int 0, .int md_p, .int md_n, .int md_order, .int md_monomials, .ref (ad 1), .ref (ad 2), .int 0, .ref (ad 3), .ref (ad 4), .int 0, .int md_upTo, .ref (ad 5), .ref (ad 6), .ref (ad 7), .ref (ad 8), .int md_members, .int md_provedNow])), ((ad 4), .inl (cs 0, 126, .inl md_hand_5))] → va_S A s.heap H locs → lv_has ls 2 [(0, .ref (ad 0)), (1, .int x1_4)] → W p l e (headSpec w_md_clear { frames := 0, cells := 0, slots := 0, locals := 0 }).room s m ([.ref (ad 0)] : List Value).toArray below meth c H locs 0 0 (MQ below (va_Qv (fun (u : Int32 × Int32 × Int32 × (Nat → Int32)) => Q u.1 u.2.1 u.2.2.1 u.2.2.2) (at_md_clear dC dI cs A ad md_p md_n md_order md_monomials md_upTo md_members md_provedNow) A) ([.ref (ad 0)] : List Value).toArray s 0 0 A) (F0 m 17 ls []) := by
    intro nn
    induction nn with
    | zero => intro x1_4 md_hand_5 hlt; exact absurd hlt (Nat.not_lt_zero _)
    | succ nn ih17 =>
      intro x1_4 md_hand_5 hlt17 hI H locs ls hP hD hS hl
      have hv := hv x1_4 md_hand_5 hI
      refine lv_iload_n hx hb d_md_clear_17 rfl (lv_at hl 1 rfl) ?_
      refine lv_bipush (v := 126) hx hb d_md_clear_18 (by decide) ?_
      refine lv_icmp_ge (tgt := 36) hx hb d_md_clear_20 (by decide) (fun c_8 => ?_) (fun c_8 => ?_)
      · have hv := hv.1 c_8
        have hP9 := hP.sub (ws' := [((ad 0), .inr (8, [.int 0, .int md_p, .int md_n, .int md_order, .int md_monomials, .ref (ad 1), .ref (ad 2), .int 0, .ref (ad 3), .ref (ad 4), .int 0, .int md_upTo, .ref (ad 5), .ref (ad 6), .ref (ad 7), .ref (ad 8), .int md_members, .int md_provedNow])), ((ad 4), .inl (cs 0, 126, .inl md_hand_5))]) [0, 1] rfl
        have hD9 := hD.sub (ws' := [((ad 0), .inr (8, [.int 0, .int md_p, .int md_n, .int md_order, .int md_monomials, .ref (ad 1), .ref (ad 2), .int 0, .ref (ad 3), .ref (ad 4), .int 0, .int md_upTo, .ref (ad 5), .ref (ad 6), .ref (ad 7), .ref (ad 8), .int md_members, .int md_provedNow])), ((ad 4), .inl (cs 0, 126, .inl md_hand_5))]) [0, 1] (by decide) rfl
        exact W.vret hx hb hr (fun t ht hW => ⟨⟨(0, 0, 0, md_hand_5), rfl, hv, by rw [ht]; exact hP9, hD9⟩, hS.F ht⟩) hS.2.2 d_md_clear_36
      · have hv := hv.2 c_8
        refine lv_aload_n hx hb d_md_clear_23 rfl (lv_at hl 0 rfl) ?_
        refine va_get (D := (dC, dI)) (ci := 8) (v := .ref (ad 4)) (C := R_md) (T := F_md) (N := 18) hx hb hts in_md hown hK hP 0 rfl rfl 9 (by decide) (hts _ kw_627) (fun _ h9 => h9) rfl d_md_clear_24 ?_
        refine lv_iload_n hx hb d_md_clear_27 rfl (lv_at hl 1 rfl) ?_
        refine lv_iconst (v := 0) hx hb d_md_clear_28 (by decide) ?_
        obtain ⟨hi_9, hv⟩ := hv
        refine va_iast hx hb hK hP hD hS 1 0 rfl rfl hi_9 d_md_clear_29 (fun H locs hP hD hS => ?_)
        have hP : va_P (dC, dI) vwCl [((ad 0), .inr (8, [.int 0, .int md_p, .int md_n, .int md_order, .int md_monomials, .ref (ad 1), .ref (ad 2), .int 0, .ref (ad 3), .ref (ad 4), .int 0, .int md_upTo, .ref (ad 5), .ref (ad 6), .ref (ad 7), .ref (ad 8), .int md_members, .int md_provedNow])), ((ad 4), .inl (cs 0, 126, .inl (upd md_hand_5 x1_4.toNatClampNeg 0)))] H := hP
        have hD : va_D A [((ad 0), .inr (8, [.int 0, .int md_p, .int md_n, .int md_order, .int md_monomials, .ref (ad 1), .ref (ad 2), .int 0, .ref (ad 3), .ref (ad 4), .int 0, .int md_upTo, .ref (ad 5), .ref (ad 6), .ref (ad 7), .ref (ad 8), .int md_members, .int md_provedNow])), ((ad 4), .inl (cs 0, 126, .inl (upd md_hand_5 x1_4.toNatClampNeg 0)))] := hD
        generalize emd_hand_10 : upd md_hand_5 x1_4.toNatClampNeg 0 = md_hand_10 at hP hD
        have hv := hv md_hand_10 emd_hand_10.symm
        obtain ⟨x1_11, ex1_11⟩ : ∃ y : Int32, y = x1_4 + 1 := ⟨_, rfl⟩
        have hv := hv x1_11 ex1_11
        refine lv_iinc (v := x1_11) (lv' := [(1, .int x1_11), (0, .ref (ad 0))]) hx hb d_md_clear_30 hl (k := 1) rfl (by rw [ex1_11]; rfl) (by decide) rfl (fun ls hl => ?_)
        refine lv_goto (tgt := 17) hx hb d_md_clear_33 (by decide) ?_
        exact ih17 x1_11 md_hand_10 (Nat.lt_of_lt_of_le hv.2 (Nat.le_of_lt_succ hlt17)) hv.1 _ _ _ (hP.sub [0, 1] rfl) (hD.sub [0, 1] (by decide) rfl) hS (lv_sub hl [1, 0] rfl)
  exact loop17 _ 0 md_hand (Nat.lt_succ_self _) hi0 _ _ _ hP hD hS hl
abbrev b_md_lead : ByteArray := prog_10_method_28_code
def y_md_lead : MethodName := ⟨"SpaceBasisModel", "lead", "(I)I"⟩
def w_md_lead : List Cond := Cond.code y_md_lead b_md_lead 2 (some .int) :: vwWS
theorem d_md_lead_0 : decode b_md_lead 0 = .ok (.aload_n 0, 1) := by decide +kernel
theorem d_md_lead_1 : decode b_md_lead 1 = .ok (.iconst 0, 1) := by decide +kernel
theorem d_md_lead_2 : decode b_md_lead 2 = .ok (.putfield 7, 3) := by decide +kernel
theorem d_md_lead_5 : decode b_md_lead 5 = .ok (.aload_n 0, 1) := by decide +kernel
theorem d_md_lead_6 : decode b_md_lead 6 = .ok (.getfield 41, 3) := by decide +kernel
theorem d_md_lead_9 : decode b_md_lead 9 = .ok (.ifCond .eq 15, 3) := by decide +kernel
theorem d_md_lead_12 : decode b_md_lead 12 = .ok (.iload_n 1, 1) := by decide +kernel
theorem d_md_lead_13 : decode b_md_lead 13 = .ok (.ifCond .lt 11, 3) := by decide +kernel
theorem d_md_lead_16 : decode b_md_lead 16 = .ok (.iload_n 1, 1) := by decide +kernel
theorem d_md_lead_17 : decode b_md_lead 17 = .ok (.aload_n 0, 1) := by decide +kernel
theorem d_md_lead_18 : decode b_md_lead 18 = .ok (.getfield 61, 3) := by decide +kernel
theorem d_md_lead_21 : decode b_md_lead 21 = .ok (.if_icmp .lt 7, 3) := by decide +kernel
theorem d_md_lead_24 : decode b_md_lead 24 = .ok (.iconst (-1), 1) := by decide +kernel
theorem d_md_lead_25 : decode b_md_lead 25 = .ok (.goto 14, 3) := by decide +kernel
theorem d_md_lead_28 : decode b_md_lead 28 = .ok (.aload_n 0, 1) := by decide +kernel
theorem d_md_lead_29 : decode b_md_lead 29 = .ok (.getfield 25, 3) := by decide +kernel
theorem d_md_lead_32 : decode b_md_lead 32 = .ok (.aload_n 0, 1) := by decide +kernel
theorem d_md_lead_33 : decode b_md_lead 33 = .ok (.getfield 58, 3) := by decide +kernel
theorem d_md_lead_36 : decode b_md_lead 36 = .ok (.iload_n 1, 1) := by decide +kernel
theorem d_md_lead_37 : decode b_md_lead 37 = .ok (.iaload, 1) := by decide +kernel
theorem d_md_lead_38 : decode b_md_lead 38 = .ok (.iaload, 1) := by decide +kernel
theorem d_md_lead_39 : decode b_md_lead 39 = .ok (.ireturn, 1) := by decide +kernel
/-- SpaceBasisModel.lead(I)I -/
def vc_md_lead (md_thrownCode : Int32) (md_p : Int32) (md_n : Int32) (md_order : Int32) (md_monomials : Int32) (md_generators : Int32) (md_found : Int32) (md_upTo : Int32) (md_members : Int32) (md_provedNow : Int32) (md_mono : Nat → Int32) (md_basis : Nat → Int32) (p0 : Int32) (Q : Int32 → Int32 → Prop) : Prop :=
  (((md_found = 0) → (Q (-1) 0)) ∧ ((¬ (md_found = 0)) → ((((p0 < 0) → (Q (-1) 0)) ∧ ((¬ (p0 < 0)) → ((((p0 < md_members) → (vp_in p0 126 ∧ vp_in (md_basis p0.toNatClampNeg) 126 ∧ Q (md_mono ((md_basis p0.toNatClampNeg)).toNatClampNeg) 0)) ∧ ((¬ (p0 < md_members)) → (Q (-1) 0)))))))))
abbrev at_md_lead (dC : Nat → ClassId) (dI : Nat → Nat → Nat) (cs : Nat → ClassId) (A : Nat → Prop) (ad : Nat → Nat) (md_p : Int32) (md_n : Int32) (md_order : Int32) (md_monomials : Int32) (md_generators : Int32) (md_found : Int32) (md_upTo : Int32) (md_members : Int32) (md_provedNow : Int32) (md_mono : Nat → Int32) (md_basis : Nat → Int32) (u : Int32) (t : State) : Prop := match u with
  | md_thrownCode => va_P (dC, dI) vwCl [((ad 0), .inr (8, [.int md_thrownCode, .int md_p, .int md_n, .int md_order, .int md_monomials, .ref (ad 1), .ref (ad 2), .int md_generators, .ref (ad 3), .ref (ad 4), .int md_found, .int md_upTo, .ref (ad 5), .ref (ad 6), .ref (ad 7), .ref (ad 8), .int md_members, .int md_provedNow])), ((ad 1), .inl (cs 0, 126, .inl md_mono)), ((ad 8), .inl (cs 0, 126, .inl md_basis))] t.heap ∧ va_D A [((ad 0), .inr (8, [.int md_thrownCode, .int md_p, .int md_n, .int md_order, .int md_monomials, .ref (ad 1), .ref (ad 2), .int md_generators, .ref (ad 3), .ref (ad 4), .int md_found, .int md_upTo, .ref (ad 5), .ref (ad 6), .ref (ad 7), .ref (ad 8), .int md_members, .int md_provedNow])), ((ad 1), .inl (cs 0, 126, .inl md_mono)), ((ad 8), .inl (cs 0, 126, .inl md_basis))]
set_option maxHeartbeats 4000000 in
set_option maxRecDepth 100000 in
theorem c_md_lead (l : Launch) (dC : Nat → ClassId) (dI : Nat → Nat → Nat) (cs : Nat → ClassId) (ad : Nat → Nat)  (sz : Nat) (md_thrownCode : Int32) (md_p : Int32) (md_n : Int32) (md_order : Int32) (md_monomials : Int32) (md_generators : Int32) (md_found : Int32) (md_upTo : Int32) (md_members : Int32) (md_provedNow : Int32) (md_mono : Nat → Int32) (md_basis : Nat → Int32) (p0 : Int32) (Q : Int32 → Int32 → Prop) (hv : vc_md_lead md_thrownCode md_p md_n md_order md_monomials md_generators md_found md_upTo md_members md_provedNow md_mono md_basis p0 Q) : Met l y_md_lead w_md_lead ({ frames := 0, cells := 0, slots := 0, locals := 0 }) (va_Pc [.ref (ad 0), .int p0] (fun U => U.heap.size = sz ∧ va_P (dC, dI) vwCl [((ad 0), .inr (8, [.int md_thrownCode, .int md_p, .int md_n, .int md_order, .int md_monomials, .ref (ad 1), .ref (ad 2), .int md_generators, .ref (ad 3), .ref (ad 4), .int md_found, .int md_upTo, .ref (ad 5), .ref (ad 6), .ref (ad 7), .ref (ad 8), .int md_members, .int md_provedNow])), ((ad 1), .inl (cs 0, 126, .inl md_mono)), ((ad 8), .inl (cs 0, 126, .inl md_basis))] U.heap ∧ vwK dC dI cs U ∧ va_D (fun _ => True) [((ad 0), .inr (8, [.int md_thrownCode, .int md_p, .int md_n, .int md_order, .int md_monomials, .ref (ad 1), .ref (ad 2), .int md_generators, .ref (ad 3), .ref (ad 4), .int md_found, .int md_upTo, .ref (ad 5), .ref (ad 6), .ref (ad 7), .ref (ad 8), .int md_members, .int md_provedNow])), ((ad 1), .inl (cs 0, 126, .inl md_mono)), ((ad 8), .inl (cs 0, 126, .inl md_basis))])) (va_Qi (fun (r : Int32) (u : Int32) => Q r u) (at_md_lead dC dI cs (va_A [((ad 0), .inr (8, [.int md_thrownCode, .int md_p, .int md_n, .int md_order, .int md_monomials, .ref (ad 1), .ref (ad 2), .int md_generators, .ref (ad 3), .ref (ad 4), .int md_found, .int md_upTo, .ref (ad 5), .ref (ad 6), .ref (ad 7), .ref (ad 8), .int md_members, .int md_provedNow])), ((ad 1), .inl (cs 0, 126, .inl md_mono)), ((ad 8), .inl (cs 0, 126, .inl md_basis))] sz) ad md_p md_n md_order md_monomials md_generators md_found md_upTo md_members md_provedNow md_mono md_basis) (va_A [((ad 0), .inr (8, [.int md_thrownCode, .int md_p, .int md_n, .int md_order, .int md_monomials, .ref (ad 1), .ref (ad 2), .int md_generators, .ref (ad 3), .ref (ad 4), .int md_found, .int md_upTo, .ref (ad 5), .ref (ad 6), .ref (ad 7), .ref (ad 8), .int md_members, .int md_provedNow])), ((ad 1), .inl (cs 0, 126, .inl md_mono)), ((ad 8), .inl (cs 0, 126, .inl md_basis))] sz)) 0 0 (va_A [((ad 0), .inr (8, [.int md_thrownCode, .int md_p, .int md_n, .int md_order, .int md_monomials, .ref (ad 1), .ref (ad 2), .int md_generators, .ref (ad 3), .ref (ad 4), .int md_found, .int md_upTo, .ref (ad 5), .ref (ad 6), .ref (ad 7), .ref (ad 8), .int md_members, .int md_provedNow])), ((ad 1), .inl (cs 0, 126, .inl md_mono)), ((ad 8), .inl (cs 0, 126, .inl md_basis))] sz) := by
  unfold vc_md_lead at hv
  refine Met.ofW (cc := b_md_lead) (maxL := 2) (ret := (some .int)) (by decide) rfl ?_
  intro p e s m args below meth c s₁ B hml hpc
  obtain ⟨rfl, hsz, hP, ⟨hK, hN⟩, hD0⟩ := hpc
  have hx := B.exec
  have hb := B.bytes
  have hr := B.returns
  have hts : ∀ w ∈ vwWS, w.before _ s = true := fun w h => atoms_spec (ws := w_md_lead) B.pre w (List.mem_cons_of_mem _ h)
  have hown : s.vm.findClass "SpaceBasisModel" = some m.cls := findClass_of_methodNamed B.named
  have hlocks := B.notSynchronized
  subst hsz
  have hD := hD0.self (sz := s.heap.size)
  generalize hAe : va_A [((ad 0), .inr (8, [.int md_thrownCode, .int md_p, .int md_n, .int md_order, .int md_monomials, .ref (ad 1), .ref (ad 2), .int md_generators, .ref (ad 3), .ref (ad 4), .int md_found, .int md_upTo, .ref (ad 5), .ref (ad 6), .ref (ad 7), .ref (ad 8), .int md_members, .int md_provedNow])), ((ad 1), .inl (cs 0, 126, .inl md_mono)), ((ad 8), .inl (cs 0, 126, .inl md_basis))] s.heap.size = A at hD ⊢
  have hA : ∀ q : Nat, s.heap.size ≤ q → A q := fun q h => by rw [← hAe]; exact Or.inr h
  have hS : va_S A s.heap s.heap [] := va_S.rf
  have hl := lv_entry ([.ref (ad 0), .int p0]) (n := 2) (Nat.le_of_ble_eq_true rfl)
  rw [lg_entry_eq]
  generalize (lg_sl ([.ref (ad 0), .int p0]) ++ List.replicate (2 - (lg_sl ([.ref (ad 0), .int p0])).length) Slot.unset).toArray = ls at hl ⊢
  have hl : lv_has ls 2 [(0, .ref (ad 0)), (1, .int p0)] := hl
  refine lv_aload_n hx hb d_md_lead_0 rfl (lv_at hl 0 rfl) ?_
  refine lv_iconst (v := 0) hx hb d_md_lead_1 (by decide) ?_
  refine va_put (D := (dC, dI)) (ci := 8) (v := .int 0) (ty := .int) (C := R_md) (T := F_md) (N := 18) hx hb hts in_md t_md t_md_ok n_md hown hK hP hD hS 0 rfl rfl 0 (by decide) (hts _ kw_618) (fun _ h9 => h9) rfl (by decide +kernel) rfl rfl (Nat.le_of_ble_eq_true rfl) d_md_lead_2 (fun H locs hP hD hS => ?_)
  have hP : va_P (dC, dI) vwCl [((ad 0), .inr (8, [.int 0, .int md_p, .int md_n, .int md_order, .int md_monomials, .ref (ad 1), .ref (ad 2), .int md_generators, .ref (ad 3), .ref (ad 4), .int md_found, .int md_upTo, .ref (ad 5), .ref (ad 6), .ref (ad 7), .ref (ad 8), .int md_members, .int md_provedNow])), ((ad 1), .inl (cs 0, 126, .inl md_mono)), ((ad 8), .inl (cs 0, 126, .inl md_basis))] H := hP
  have hD : va_D A [((ad 0), .inr (8, [.int 0, .int md_p, .int md_n, .int md_order, .int md_monomials, .ref (ad 1), .ref (ad 2), .int md_generators, .ref (ad 3), .ref (ad 4), .int md_found, .int md_upTo, .ref (ad 5), .ref (ad 6), .ref (ad 7), .ref (ad 8), .int md_members, .int md_provedNow])), ((ad 1), .inl (cs 0, 126, .inl md_mono)), ((ad 8), .inl (cs 0, 126, .inl md_basis))] := hD
  refine lv_aload_n hx hb d_md_lead_5 rfl (lv_at hl 0 rfl) ?_
  refine va_get (D := (dC, dI)) (ci := 8) (v := .int md_found) (C := R_md) (T := F_md) (N := 18) hx hb hts in_md hown hK hP 0 rfl rfl 10 (by decide) (hts _ kw_628) (fun _ h9 => h9) rfl d_md_lead_6 ?_
  refine lv_if_eq (tgt := 24) hx hb d_md_lead_9 (by decide) (fun c_2 => ?_) (fun c_2 => ?_)
  · have hv := hv.1 c_2
    refine lv_iconst (v := (-1)) hx hb d_md_lead_24 (by decide) ?_
    refine lv_goto (tgt := 39) hx hb d_md_lead_25 (by decide) ?_
    have hP9 := hP.sub (ws' := [((ad 0), .inr (8, [.int 0, .int md_p, .int md_n, .int md_order, .int md_monomials, .ref (ad 1), .ref (ad 2), .int md_generators, .ref (ad 3), .ref (ad 4), .int md_found, .int md_upTo, .ref (ad 5), .ref (ad 6), .ref (ad 7), .ref (ad 8), .int md_members, .int md_provedNow])), ((ad 1), .inl (cs 0, 126, .inl md_mono)), ((ad 8), .inl (cs 0, 126, .inl md_basis))]) [0, 1, 2] rfl
    have hD9 := hD.sub (ws' := [((ad 0), .inr (8, [.int 0, .int md_p, .int md_n, .int md_order, .int md_monomials, .ref (ad 1), .ref (ad 2), .int md_generators, .ref (ad 3), .ref (ad 4), .int md_found, .int md_upTo, .ref (ad 5), .ref (ad 6), .ref (ad 7), .ref (ad 8), .int md_members, .int md_provedNow])), ((ad 1), .inl (cs 0, 126, .inl md_mono)), ((ad 8), .inl (cs 0, 126, .inl md_basis))]) [0, 1, 2] (by decide) rfl
    exact W.iret (v := (-1)) hx hb hr (fun t ht hW => ⟨⟨(-1), 0, rfl, hv, by rw [ht]; exact hP9, hD9⟩, hS.F ht⟩) hS.2.2 d_md_lead_39
  · have hv := hv.2 c_2
    refine lv_iload_n hx hb d_md_lead_12 rfl (lv_at hl 1 rfl) ?_
    refine lv_if_lt (tgt := 24) hx hb d_md_lead_13 (by decide) (fun c_3 => ?_) (fun c_3 => ?_)
    · have hv := hv.1 c_3
      refine lv_iconst (v := (-1)) hx hb d_md_lead_24 (by decide) ?_
      refine lv_goto (tgt := 39) hx hb d_md_lead_25 (by decide) ?_
      have hP9 := hP.sub (ws' := [((ad 0), .inr (8, [.int 0, .int md_p, .int md_n, .int md_order, .int md_monomials, .ref (ad 1), .ref (ad 2), .int md_generators, .ref (ad 3), .ref (ad 4), .int md_found, .int md_upTo, .ref (ad 5), .ref (ad 6), .ref (ad 7), .ref (ad 8), .int md_members, .int md_provedNow])), ((ad 1), .inl (cs 0, 126, .inl md_mono)), ((ad 8), .inl (cs 0, 126, .inl md_basis))]) [0, 1, 2] rfl
      have hD9 := hD.sub (ws' := [((ad 0), .inr (8, [.int 0, .int md_p, .int md_n, .int md_order, .int md_monomials, .ref (ad 1), .ref (ad 2), .int md_generators, .ref (ad 3), .ref (ad 4), .int md_found, .int md_upTo, .ref (ad 5), .ref (ad 6), .ref (ad 7), .ref (ad 8), .int md_members, .int md_provedNow])), ((ad 1), .inl (cs 0, 126, .inl md_mono)), ((ad 8), .inl (cs 0, 126, .inl md_basis))]) [0, 1, 2] (by decide) rfl
      exact W.iret (v := (-1)) hx hb hr (fun t ht hW => ⟨⟨(-1), 0, rfl, hv, by rw [ht]; exact hP9, hD9⟩, hS.F ht⟩) hS.2.2 d_md_lead_39
    · have hv := hv.2 c_3
      refine lv_iload_n hx hb d_md_lead_16 rfl (lv_at hl 1 rfl) ?_
      refine lv_aload_n hx hb d_md_lead_17 rfl (lv_at hl 0 rfl) ?_
      refine va_get (D := (dC, dI)) (ci := 8) (v := .int md_members) (C := R_md) (T := F_md) (N := 18) hx hb hts in_md hown hK hP 0 rfl rfl 16 (by decide) (hts _ kw_634) (fun _ h9 => h9) rfl d_md_lead_18 ?_
      refine lv_icmp_lt (tgt := 28) hx hb d_md_lead_21 (by decide) (fun c_4 => ?_) (fun c_4 => ?_)
      · have hv := hv.1 c_4
        refine lv_aload_n hx hb d_md_lead_28 rfl (lv_at hl 0 rfl) ?_
        refine va_get (D := (dC, dI)) (ci := 8) (v := .ref (ad 1)) (C := R_md) (T := F_md) (N := 18) hx hb hts in_md hown hK hP 0 rfl rfl 5 (by decide) (hts _ kw_623) (fun _ h9 => h9) rfl d_md_lead_29 ?_
        refine lv_aload_n hx hb d_md_lead_32 rfl (lv_at hl 0 rfl) ?_
        refine va_get (D := (dC, dI)) (ci := 8) (v := .ref (ad 8)) (C := R_md) (T := F_md) (N := 18) hx hb hts in_md hown hK hP 0 rfl rfl 15 (by decide) (hts _ kw_633) (fun _ h9 => h9) rfl d_md_lead_33 ?_
        refine lv_iload_n hx hb d_md_lead_36 rfl (lv_at hl 1 rfl) ?_
        obtain ⟨hi_5, hv⟩ := hv
        refine va_iald hx hb hK hP 2 0 rfl rfl hi_5 d_md_lead_37 ?_
        obtain ⟨hi_6, hv⟩ := hv
        refine va_iald hx hb hK hP 1 0 rfl rfl hi_6 d_md_lead_38 ?_
        have hP9 := hP.sub (ws' := [((ad 0), .inr (8, [.int 0, .int md_p, .int md_n, .int md_order, .int md_monomials, .ref (ad 1), .ref (ad 2), .int md_generators, .ref (ad 3), .ref (ad 4), .int md_found, .int md_upTo, .ref (ad 5), .ref (ad 6), .ref (ad 7), .ref (ad 8), .int md_members, .int md_provedNow])), ((ad 1), .inl (cs 0, 126, .inl md_mono)), ((ad 8), .inl (cs 0, 126, .inl md_basis))]) [0, 1, 2] rfl
        have hD9 := hD.sub (ws' := [((ad 0), .inr (8, [.int 0, .int md_p, .int md_n, .int md_order, .int md_monomials, .ref (ad 1), .ref (ad 2), .int md_generators, .ref (ad 3), .ref (ad 4), .int md_found, .int md_upTo, .ref (ad 5), .ref (ad 6), .ref (ad 7), .ref (ad 8), .int md_members, .int md_provedNow])), ((ad 1), .inl (cs 0, 126, .inl md_mono)), ((ad 8), .inl (cs 0, 126, .inl md_basis))]) [0, 1, 2] (by decide) rfl
        exact W.iret (v := (md_mono ((md_basis p0.toNatClampNeg)).toNatClampNeg)) hx hb hr (fun t ht hW => ⟨⟨(md_mono ((md_basis p0.toNatClampNeg)).toNatClampNeg), 0, rfl, hv, by rw [ht]; exact hP9, hD9⟩, hS.F ht⟩) hS.2.2 d_md_lead_39
      · have hv := hv.2 c_4
        refine lv_iconst (v := (-1)) hx hb d_md_lead_24 (by decide) ?_
        refine lv_goto (tgt := 39) hx hb d_md_lead_25 (by decide) ?_
        have hP9 := hP.sub (ws' := [((ad 0), .inr (8, [.int 0, .int md_p, .int md_n, .int md_order, .int md_monomials, .ref (ad 1), .ref (ad 2), .int md_generators, .ref (ad 3), .ref (ad 4), .int md_found, .int md_upTo, .ref (ad 5), .ref (ad 6), .ref (ad 7), .ref (ad 8), .int md_members, .int md_provedNow])), ((ad 1), .inl (cs 0, 126, .inl md_mono)), ((ad 8), .inl (cs 0, 126, .inl md_basis))]) [0, 1, 2] rfl
        have hD9 := hD.sub (ws' := [((ad 0), .inr (8, [.int 0, .int md_p, .int md_n, .int md_order, .int md_monomials, .ref (ad 1), .ref (ad 2), .int md_generators, .ref (ad 3), .ref (ad 4), .int md_found, .int md_upTo, .ref (ad 5), .ref (ad 6), .ref (ad 7), .ref (ad 8), .int md_members, .int md_provedNow])), ((ad 1), .inl (cs 0, 126, .inl md_mono)), ((ad 8), .inl (cs 0, 126, .inl md_basis))]) [0, 1, 2] (by decide) rfl
        exact W.iret (v := (-1)) hx hb hr (fun t ht hW => ⟨⟨(-1), 0, rfl, hv, by rw [ht]; exact hP9, hD9⟩, hS.F ht⟩) hS.2.2 d_md_lead_39
abbrev b_md_member : ByteArray := prog_10_method_29_code
def y_md_member : MethodName := ⟨"SpaceBasisModel", "member", "(II)I"⟩
def w_md_member : List Cond := Cond.code y_md_member b_md_member 4 (some .int) :: vwWS
theorem d_md_member_0 : decode b_md_member 0 = .ok (.aload_n 0, 1) := by decide +kernel
theorem d_md_member_1 : decode b_md_member 1 = .ok (.iconst 0, 1) := by decide +kernel
theorem d_md_member_2 : decode b_md_member 2 = .ok (.putfield 7, 3) := by decide +kernel
theorem d_md_member_5 : decode b_md_member 5 = .ok (.aload_n 0, 1) := by decide +kernel
theorem d_md_member_6 : decode b_md_member 6 = .ok (.iload_n 2, 1) := by decide +kernel
theorem d_md_member_7 : decode b_md_member 7 = .ok (.invokevirtual 100, 3) := by decide +kernel
theorem d_md_member_10 : decode b_md_member 10 = .ok (.istore_n 3, 1) := by decide +kernel
theorem d_md_member_11 : decode b_md_member 11 = .ok (.aload_n 0, 1) := by decide +kernel
theorem d_md_member_12 : decode b_md_member 12 = .ok (.getfield 41, 3) := by decide +kernel
theorem d_md_member_15 : decode b_md_member 15 = .ok (.ifCond .eq 29, 3) := by decide +kernel
theorem d_md_member_18 : decode b_md_member 18 = .ok (.iload_n 1, 1) := by decide +kernel
theorem d_md_member_19 : decode b_md_member 19 = .ok (.ifCond .lt 25, 3) := by decide +kernel
theorem d_md_member_22 : decode b_md_member 22 = .ok (.iload_n 1, 1) := by decide +kernel
theorem d_md_member_23 : decode b_md_member 23 = .ok (.aload_n 0, 1) := by decide +kernel
theorem d_md_member_24 : decode b_md_member 24 = .ok (.getfield 61, 3) := by decide +kernel
theorem d_md_member_27 : decode b_md_member 27 = .ok (.if_icmp .ge 17, 3) := by decide +kernel
theorem d_md_member_30 : decode b_md_member 30 = .ok (.iload_n 3, 1) := by decide +kernel
theorem d_md_member_31 : decode b_md_member 31 = .ok (.ifCond .lt 13, 3) := by decide +kernel
theorem d_md_member_34 : decode b_md_member 34 = .ok (.iload_n 3, 1) := by decide +kernel
theorem d_md_member_35 : decode b_md_member 35 = .ok (.aload_n 0, 1) := by decide +kernel
theorem d_md_member_36 : decode b_md_member 36 = .ok (.getfield 58, 3) := by decide +kernel
theorem d_md_member_39 : decode b_md_member 39 = .ok (.iload_n 1, 1) := by decide +kernel
theorem d_md_member_40 : decode b_md_member 40 = .ok (.iaload, 1) := by decide +kernel
theorem d_md_member_41 : decode b_md_member 41 = .ok (.if_icmp .le 7, 3) := by decide +kernel
theorem d_md_member_44 : decode b_md_member 44 = .ok (.iconst 0, 1) := by decide +kernel
theorem d_md_member_45 : decode b_md_member 45 = .ok (.goto 19, 3) := by decide +kernel
theorem d_md_member_48 : decode b_md_member 48 = .ok (.aload_n 0, 1) := by decide +kernel
theorem d_md_member_49 : decode b_md_member 49 = .ok (.getfield 52, 3) := by decide +kernel
theorem d_md_member_52 : decode b_md_member 52 = .ok (.bipush 126, 2) := by decide +kernel
theorem d_md_member_54 : decode b_md_member 54 = .ok (.aload_n 0, 1) := by decide +kernel
theorem d_md_member_55 : decode b_md_member 55 = .ok (.getfield 58, 3) := by decide +kernel
theorem d_md_member_58 : decode b_md_member 58 = .ok (.iload_n 1, 1) := by decide +kernel
theorem d_md_member_59 : decode b_md_member 59 = .ok (.iaload, 1) := by decide +kernel
theorem d_md_member_60 : decode b_md_member 60 = .ok (.imul, 1) := by decide +kernel
theorem d_md_member_61 : decode b_md_member 61 = .ok (.iload_n 3, 1) := by decide +kernel
theorem d_md_member_62 : decode b_md_member 62 = .ok (.iadd, 1) := by decide +kernel
theorem d_md_member_63 : decode b_md_member 63 = .ok (.iaload, 1) := by decide +kernel
theorem d_md_member_64 : decode b_md_member 64 = .ok (.ireturn, 1) := by decide +kernel
/-- SpaceBasisModel.member(II)I -/
def vc_md_member (md_thrownCode : Int32) (md_p : Int32) (md_n : Int32) (md_order : Int32) (md_monomials : Int32) (md_generators : Int32) (md_found : Int32) (md_upTo : Int32) (md_members : Int32) (md_provedNow : Int32) (md_mono : Nat → Int32) (md_row : Nat → Int32) (md_basis : Nat → Int32) (p0 : Int32) (p1 : Int32) (Q : Int32 → Int32 → Prop) : Prop :=
  vc_md_placeOf 0 md_p md_n md_order md_monomials md_generators md_found md_upTo md_members md_provedNow md_mono p1 (fun (r_2 : Int32) => (((md_found = 0) → (Q 0 0)) ∧ ((¬ (md_found = 0)) → ((((p0 < 0) → (Q 0 0)) ∧ ((¬ (p0 < 0)) → ((((md_members ≤ p0) → (Q 0 0)) ∧ ((¬ (md_members ≤ p0)) → ((((r_2 < 0) → (Q 0 0)) ∧ ((¬ (r_2 < 0)) → (vp_in p0 126 ∧ (((r_2 ≤ (md_basis p0.toNatClampNeg)) → (vp_in p0 126 ∧ vp_in ((126 * (md_basis p0.toNatClampNeg)) + r_2) 15876 ∧ Q (md_row (((126 * (md_basis p0.toNatClampNeg)) + r_2)).toNatClampNeg) 0)) ∧ ((¬ (r_2 ≤ (md_basis p0.toNatClampNeg))) → (Q 0 0))))))))))))))))
abbrev at_md_member (dC : Nat → ClassId) (dI : Nat → Nat → Nat) (cs : Nat → ClassId) (A : Nat → Prop) (ad : Nat → Nat) (md_p : Int32) (md_n : Int32) (md_order : Int32) (md_monomials : Int32) (md_generators : Int32) (md_found : Int32) (md_upTo : Int32) (md_members : Int32) (md_provedNow : Int32) (md_mono : Nat → Int32) (md_row : Nat → Int32) (md_basis : Nat → Int32) (u : Int32) (t : State) : Prop := match u with
  | md_thrownCode => va_P (dC, dI) vwCl [((ad 0), .inr (8, [.int md_thrownCode, .int md_p, .int md_n, .int md_order, .int md_monomials, .ref (ad 1), .ref (ad 2), .int md_generators, .ref (ad 3), .ref (ad 4), .int md_found, .int md_upTo, .ref (ad 5), .ref (ad 6), .ref (ad 7), .ref (ad 8), .int md_members, .int md_provedNow])), ((ad 1), .inl (cs 0, 126, .inl md_mono)), ((ad 6), .inl (cs 0, 15876, .inl md_row)), ((ad 8), .inl (cs 0, 126, .inl md_basis))] t.heap ∧ va_D A [((ad 0), .inr (8, [.int md_thrownCode, .int md_p, .int md_n, .int md_order, .int md_monomials, .ref (ad 1), .ref (ad 2), .int md_generators, .ref (ad 3), .ref (ad 4), .int md_found, .int md_upTo, .ref (ad 5), .ref (ad 6), .ref (ad 7), .ref (ad 8), .int md_members, .int md_provedNow])), ((ad 1), .inl (cs 0, 126, .inl md_mono)), ((ad 6), .inl (cs 0, 15876, .inl md_row)), ((ad 8), .inl (cs 0, 126, .inl md_basis))]
set_option maxHeartbeats 4000000 in
set_option maxRecDepth 100000 in
theorem c_md_member (l : Launch) (dC : Nat → ClassId) (dI : Nat → Nat → Nat) (cs : Nat → ClassId) (ad : Nat → Nat)  (sz : Nat) (md_thrownCode : Int32) (md_p : Int32) (md_n : Int32) (md_order : Int32) (md_monomials : Int32) (md_generators : Int32) (md_found : Int32) (md_upTo : Int32) (md_members : Int32) (md_provedNow : Int32) (md_mono : Nat → Int32) (md_row : Nat → Int32) (md_basis : Nat → Int32) (p0 : Int32) (p1 : Int32) (Q : Int32 → Int32 → Prop) (hv : vc_md_member md_thrownCode md_p md_n md_order md_monomials md_generators md_found md_upTo md_members md_provedNow md_mono md_row md_basis p0 p1 Q) : Met l y_md_member w_md_member ({ frames := 1, cells := 0, slots := 0, locals := 22 }) (va_Pc [.ref (ad 0), .int p0, .int p1] (fun U => U.heap.size = sz ∧ va_P (dC, dI) vwCl [((ad 0), .inr (8, [.int md_thrownCode, .int md_p, .int md_n, .int md_order, .int md_monomials, .ref (ad 1), .ref (ad 2), .int md_generators, .ref (ad 3), .ref (ad 4), .int md_found, .int md_upTo, .ref (ad 5), .ref (ad 6), .ref (ad 7), .ref (ad 8), .int md_members, .int md_provedNow])), ((ad 1), .inl (cs 0, 126, .inl md_mono)), ((ad 6), .inl (cs 0, 15876, .inl md_row)), ((ad 8), .inl (cs 0, 126, .inl md_basis))] U.heap ∧ vwK dC dI cs U ∧ va_D (fun _ => True) [((ad 0), .inr (8, [.int md_thrownCode, .int md_p, .int md_n, .int md_order, .int md_monomials, .ref (ad 1), .ref (ad 2), .int md_generators, .ref (ad 3), .ref (ad 4), .int md_found, .int md_upTo, .ref (ad 5), .ref (ad 6), .ref (ad 7), .ref (ad 8), .int md_members, .int md_provedNow])), ((ad 1), .inl (cs 0, 126, .inl md_mono)), ((ad 6), .inl (cs 0, 15876, .inl md_row)), ((ad 8), .inl (cs 0, 126, .inl md_basis))])) (va_Qi (fun (r : Int32) (u : Int32) => Q r u) (at_md_member dC dI cs (va_A [((ad 0), .inr (8, [.int md_thrownCode, .int md_p, .int md_n, .int md_order, .int md_monomials, .ref (ad 1), .ref (ad 2), .int md_generators, .ref (ad 3), .ref (ad 4), .int md_found, .int md_upTo, .ref (ad 5), .ref (ad 6), .ref (ad 7), .ref (ad 8), .int md_members, .int md_provedNow])), ((ad 1), .inl (cs 0, 126, .inl md_mono)), ((ad 6), .inl (cs 0, 15876, .inl md_row)), ((ad 8), .inl (cs 0, 126, .inl md_basis))] sz) ad md_p md_n md_order md_monomials md_generators md_found md_upTo md_members md_provedNow md_mono md_row md_basis) (va_A [((ad 0), .inr (8, [.int md_thrownCode, .int md_p, .int md_n, .int md_order, .int md_monomials, .ref (ad 1), .ref (ad 2), .int md_generators, .ref (ad 3), .ref (ad 4), .int md_found, .int md_upTo, .ref (ad 5), .ref (ad 6), .ref (ad 7), .ref (ad 8), .int md_members, .int md_provedNow])), ((ad 1), .inl (cs 0, 126, .inl md_mono)), ((ad 6), .inl (cs 0, 15876, .inl md_row)), ((ad 8), .inl (cs 0, 126, .inl md_basis))] sz)) 0 0 (va_A [((ad 0), .inr (8, [.int md_thrownCode, .int md_p, .int md_n, .int md_order, .int md_monomials, .ref (ad 1), .ref (ad 2), .int md_generators, .ref (ad 3), .ref (ad 4), .int md_found, .int md_upTo, .ref (ad 5), .ref (ad 6), .ref (ad 7), .ref (ad 8), .int md_members, .int md_provedNow])), ((ad 1), .inl (cs 0, 126, .inl md_mono)), ((ad 6), .inl (cs 0, 15876, .inl md_row)), ((ad 8), .inl (cs 0, 126, .inl md_basis))] sz) := by
  unfold vc_md_member at hv
  refine Met.ofW (cc := b_md_member) (maxL := 4) (ret := (some .int)) (by decide) rfl ?_
  intro p e s m args below meth c s₁ B hml hpc
  obtain ⟨rfl, hsz, hP, ⟨hK, hN⟩, hD0⟩ := hpc
  have hx := B.exec
  have hb := B.bytes
  have hr := B.returns
  have hts : ∀ w ∈ vwWS, w.before _ s = true := fun w h => atoms_spec (ws := w_md_member) B.pre w (List.mem_cons_of_mem _ h)
  have hown : s.vm.findClass "SpaceBasisModel" = some m.cls := findClass_of_methodNamed B.named
  have hlocks := B.notSynchronized
  subst hsz
  have hD := hD0.self (sz := s.heap.size)
  generalize hAe : va_A [((ad 0), .inr (8, [.int md_thrownCode, .int md_p, .int md_n, .int md_order, .int md_monomials, .ref (ad 1), .ref (ad 2), .int md_generators, .ref (ad 3), .ref (ad 4), .int md_found, .int md_upTo, .ref (ad 5), .ref (ad 6), .ref (ad 7), .ref (ad 8), .int md_members, .int md_provedNow])), ((ad 1), .inl (cs 0, 126, .inl md_mono)), ((ad 6), .inl (cs 0, 15876, .inl md_row)), ((ad 8), .inl (cs 0, 126, .inl md_basis))] s.heap.size = A at hD ⊢
  have hA : ∀ q : Nat, s.heap.size ≤ q → A q := fun q h => by rw [← hAe]; exact Or.inr h
  have hS : va_S A s.heap s.heap [] := va_S.rf
  have hl := lv_entry ([.ref (ad 0), .int p0, .int p1]) (n := 4) (Nat.le_of_ble_eq_true rfl)
  rw [lg_entry_eq]
  generalize (lg_sl ([.ref (ad 0), .int p0, .int p1]) ++ List.replicate (4 - (lg_sl ([.ref (ad 0), .int p0, .int p1])).length) Slot.unset).toArray = ls at hl ⊢
  have hl : lv_has ls 4 [(0, .ref (ad 0)), (1, .int p0), (2, .int p1)] := hl
  refine lv_aload_n hx hb d_md_member_0 rfl (lv_at hl 0 rfl) ?_
  refine lv_iconst (v := 0) hx hb d_md_member_1 (by decide) ?_
  refine va_put (D := (dC, dI)) (ci := 8) (v := .int 0) (ty := .int) (C := R_md) (T := F_md) (N := 18) hx hb hts in_md t_md t_md_ok n_md hown hK hP hD hS 0 rfl rfl 0 (by decide) (hts _ kw_618) (fun _ h9 => h9) rfl (by decide +kernel) rfl rfl (Nat.le_of_ble_eq_true rfl) d_md_member_2 (fun H locs hP hD hS => ?_)
  have hP : va_P (dC, dI) vwCl [((ad 0), .inr (8, [.int 0, .int md_p, .int md_n, .int md_order, .int md_monomials, .ref (ad 1), .ref (ad 2), .int md_generators, .ref (ad 3), .ref (ad 4), .int md_found, .int md_upTo, .ref (ad 5), .ref (ad 6), .ref (ad 7), .ref (ad 8), .int md_members, .int md_provedNow])), ((ad 1), .inl (cs 0, 126, .inl md_mono)), ((ad 6), .inl (cs 0, 15876, .inl md_row)), ((ad 8), .inl (cs 0, 126, .inl md_basis))] H := hP
  have hD : va_D A [((ad 0), .inr (8, [.int 0, .int md_p, .int md_n, .int md_order, .int md_monomials, .ref (ad 1), .ref (ad 2), .int md_generators, .ref (ad 3), .ref (ad 4), .int md_found, .int md_upTo, .ref (ad 5), .ref (ad 6), .ref (ad 7), .ref (ad 8), .int md_members, .int md_provedNow])), ((ad 1), .inl (cs 0, 126, .inl md_mono)), ((ad 6), .inl (cs 0, 15876, .inl md_row)), ((ad 8), .inl (cs 0, 126, .inl md_basis))] := hD
  refine lv_aload_n hx hb d_md_member_5 rfl (lv_at hl 0 rfl) ?_
  refine lv_iload_n hx hb d_md_member_6 rfl (lv_at hl 2 rfl) ?_
  have hPc := hP.sub (ws' := [((ad 0), .inr (8, [.int 0, .int md_p, .int md_n, .int md_order, .int md_monomials, .ref (ad 1), .ref (ad 2), .int md_generators, .ref (ad 3), .ref (ad 4), .int md_found, .int md_upTo, .ref (ad 5), .ref (ad 6), .ref (ad 7), .ref (ad 8), .int md_members, .int md_provedNow])), ((ad 1), .inl (cs 0, 126, .inl md_mono))]) [0, 1] rfl
  have hDc := hD.sub (ws' := [((ad 0), .inr (8, [.int 0, .int md_p, .int md_n, .int md_order, .int md_monomials, .ref (ad 1), .ref (ad 2), .int md_generators, .ref (ad 3), .ref (ad 4), .int md_found, .int md_upTo, .ref (ad 5), .ref (ad 6), .ref (ad 7), .ref (ad 8), .int md_members, .int md_provedNow])), ((ad 1), .inl (cs 0, 126, .inl md_mono))]) [0, 1] (by decide) rfl
  have hFc := va_free (wc := [((ad 0), .inr (8, [.int 0, .int md_p, .int md_n, .int md_order, .int md_monomials, .ref (ad 1), .ref (ad 2), .int md_generators, .ref (ad 3), .ref (ad 4), .int md_found, .int md_upTo, .ref (ad 5), .ref (ad 6), .ref (ad 7), .ref (ad 8), .int md_members, .int md_provedNow])), ((ad 1), .inl (cs 0, 126, .inl md_mono))]) hD hS hA [0, 1] rfl
  refine va_calli (va_runV (As := [.int p1]) (rest := []) ⟨hx, hb, hml, hown, hts⟩ (c_md_placeOf l dC dI cs ad  H.size 0 md_p md_n md_order md_monomials md_generators md_found md_upTo md_members md_provedNow md_mono p1 _ hv) (cwV 1 hts (gd_V kw_689 kw_690 kw_20 kw_41 kw_691) rfl rfl rfl (by decide +kernel) ⟨Nat.le_of_ble_eq_true rfl, Nat.le_of_ble_eq_true rfl⟩) ⟨fun a U g mk q => by obtain ⟨q0, q1, qP, qK, qD⟩ := q; exact ⟨q0, q1, qP, qK.call, qD⟩, va_recv hK hPc (ci := 8) (q0 := 0) rfl rfl, fun U hU hW => ⟨rfl, by rw [hU], by rw [hU]; exact hPc, vwK.warm hW ⟨hK, hN⟩, hDc.weaken (fun _ _ _ _ => trivial)⟩⟩ rfl rfl hl.1 rfl (lv_room (Nat.le_of_ble_eq_true rfl)) d_md_member_7 ⟨Nat.zero_le _, Nat.zero_le _⟩) hS (fun q _ h => hFc q h) hFc (fun r_2 _u t H1 locs1 ht hvm hw hB hz1 hk1 hS => ?_)
  obtain ⟨hP1, hD1⟩ := hB
  rw [ht] at hP1
  obtain ⟨hP, hD⟩ := va_join (wr := [((ad 6), .inl (cs 0, 15876, .inl md_row)), ((ad 8), .inl (cs 0, 126, .inl md_basis))]) (w1 := [((ad 0), .inr (8, [.int 0, .int md_p, .int md_n, .int md_order, .int md_monomials, .ref (ad 1), .ref (ad 2), .int md_generators, .ref (ad 3), .ref (ad 4), .int md_found, .int md_upTo, .ref (ad 5), .ref (ad 6), .ref (ad 7), .ref (ad 8), .int md_members, .int md_provedNow])), ((ad 1), .inl (cs 0, 126, .inl md_mono))]) hP hD [0, 1] [2, 3] rfl rfl (by decide) (by decide) hk1 hFc hP1 hD1
  generalize H1 = H at hP hS ⊢
  generalize locs1 = locs at hS ⊢
  have hP : va_P (dC, dI) vwCl [((ad 6), .inl (cs 0, 15876, .inl md_row)), ((ad 8), .inl (cs 0, 126, .inl md_basis)), ((ad 0), .inr (8, [.int 0, .int md_p, .int md_n, .int md_order, .int md_monomials, .ref (ad 1), .ref (ad 2), .int md_generators, .ref (ad 3), .ref (ad 4), .int md_found, .int md_upTo, .ref (ad 5), .ref (ad 6), .ref (ad 7), .ref (ad 8), .int md_members, .int md_provedNow])), ((ad 1), .inl (cs 0, 126, .inl md_mono))] H := hP
  have hD : va_D A [((ad 6), .inl (cs 0, 15876, .inl md_row)), ((ad 8), .inl (cs 0, 126, .inl md_basis)), ((ad 0), .inr (8, [.int 0, .int md_p, .int md_n, .int md_order, .int md_monomials, .ref (ad 1), .ref (ad 2), .int md_generators, .ref (ad 3), .ref (ad 4), .int md_found, .int md_upTo, .ref (ad 5), .ref (ad 6), .ref (ad 7), .ref (ad 8), .int md_members, .int md_provedNow])), ((ad 1), .inl (cs 0, 126, .inl md_mono))] := hD
  have hv := hw
  try dsimp only at hv
  refine lv_istore_n (lv' := [(3, .int r_2), (0, .ref (ad 0)), (1, .int p0), (2, .int p1)]) hx hb d_md_member_10 rfl hl (by decide) rfl (fun ls hl => ?_)
  refine lv_aload_n hx hb d_md_member_11 rfl (lv_at hl 1 rfl) ?_
  refine va_get (D := (dC, dI)) (ci := 8) (v := .int md_found) (C := R_md) (T := F_md) (N := 18) hx hb hts in_md hown hK hP 2 rfl rfl 10 (by decide) (hts _ kw_628) (fun _ h9 => h9) rfl d_md_member_12 ?_
  refine lv_if_eq (tgt := 44) hx hb d_md_member_15 (by decide) (fun c_3 => ?_) (fun c_3 => ?_)
  · have hv := hv.1 c_3
    refine lv_iconst (v := 0) hx hb d_md_member_44 (by decide) ?_
    refine lv_goto (tgt := 64) hx hb d_md_member_45 (by decide) ?_
    have hP9 := hP.sub (ws' := [((ad 0), .inr (8, [.int 0, .int md_p, .int md_n, .int md_order, .int md_monomials, .ref (ad 1), .ref (ad 2), .int md_generators, .ref (ad 3), .ref (ad 4), .int md_found, .int md_upTo, .ref (ad 5), .ref (ad 6), .ref (ad 7), .ref (ad 8), .int md_members, .int md_provedNow])), ((ad 1), .inl (cs 0, 126, .inl md_mono)), ((ad 6), .inl (cs 0, 15876, .inl md_row)), ((ad 8), .inl (cs 0, 126, .inl md_basis))]) [2, 3, 0, 1] rfl
    have hD9 := hD.sub (ws' := [((ad 0), .inr (8, [.int 0, .int md_p, .int md_n, .int md_order, .int md_monomials, .ref (ad 1), .ref (ad 2), .int md_generators, .ref (ad 3), .ref (ad 4), .int md_found, .int md_upTo, .ref (ad 5), .ref (ad 6), .ref (ad 7), .ref (ad 8), .int md_members, .int md_provedNow])), ((ad 1), .inl (cs 0, 126, .inl md_mono)), ((ad 6), .inl (cs 0, 15876, .inl md_row)), ((ad 8), .inl (cs 0, 126, .inl md_basis))]) [2, 3, 0, 1] (by decide) rfl
    exact W.iret (v := 0) hx hb hr (fun t ht hW => ⟨⟨0, 0, rfl, hv, by rw [ht]; exact hP9, hD9⟩, hS.F ht⟩) hS.2.2 d_md_member_64
  · have hv := hv.2 c_3
    refine lv_iload_n hx hb d_md_member_18 rfl (lv_at hl 2 rfl) ?_
    refine lv_if_lt (tgt := 44) hx hb d_md_member_19 (by decide) (fun c_4 => ?_) (fun c_4 => ?_)
    · have hv := hv.1 c_4
      refine lv_iconst (v := 0) hx hb d_md_member_44 (by decide) ?_
      refine lv_goto (tgt := 64) hx hb d_md_member_45 (by decide) ?_
      have hP9 := hP.sub (ws' := [((ad 0), .inr (8, [.int 0, .int md_p, .int md_n, .int md_order, .int md_monomials, .ref (ad 1), .ref (ad 2), .int md_generators, .ref (ad 3), .ref (ad 4), .int md_found, .int md_upTo, .ref (ad 5), .ref (ad 6), .ref (ad 7), .ref (ad 8), .int md_members, .int md_provedNow])), ((ad 1), .inl (cs 0, 126, .inl md_mono)), ((ad 6), .inl (cs 0, 15876, .inl md_row)), ((ad 8), .inl (cs 0, 126, .inl md_basis))]) [2, 3, 0, 1] rfl
      have hD9 := hD.sub (ws' := [((ad 0), .inr (8, [.int 0, .int md_p, .int md_n, .int md_order, .int md_monomials, .ref (ad 1), .ref (ad 2), .int md_generators, .ref (ad 3), .ref (ad 4), .int md_found, .int md_upTo, .ref (ad 5), .ref (ad 6), .ref (ad 7), .ref (ad 8), .int md_members, .int md_provedNow])), ((ad 1), .inl (cs 0, 126, .inl md_mono)), ((ad 6), .inl (cs 0, 15876, .inl md_row)), ((ad 8), .inl (cs 0, 126, .inl md_basis))]) [2, 3, 0, 1] (by decide) rfl
      exact W.iret (v := 0) hx hb hr (fun t ht hW => ⟨⟨0, 0, rfl, hv, by rw [ht]; exact hP9, hD9⟩, hS.F ht⟩) hS.2.2 d_md_member_64
    · have hv := hv.2 c_4
      refine lv_iload_n hx hb d_md_member_22 rfl (lv_at hl 2 rfl) ?_
      refine lv_aload_n hx hb d_md_member_23 rfl (lv_at hl 1 rfl) ?_
      refine va_get (D := (dC, dI)) (ci := 8) (v := .int md_members) (C := R_md) (T := F_md) (N := 18) hx hb hts in_md hown hK hP 2 rfl rfl 16 (by decide) (hts _ kw_634) (fun _ h9 => h9) rfl d_md_member_24 ?_
      refine lv_icmp_ge (tgt := 44) hx hb d_md_member_27 (by decide) (fun c_5 => ?_) (fun c_5 => ?_)
      · have hv := hv.1 c_5
        refine lv_iconst (v := 0) hx hb d_md_member_44 (by decide) ?_
        refine lv_goto (tgt := 64) hx hb d_md_member_45 (by decide) ?_
        have hP9 := hP.sub (ws' := [((ad 0), .inr (8, [.int 0, .int md_p, .int md_n, .int md_order, .int md_monomials, .ref (ad 1), .ref (ad 2), .int md_generators, .ref (ad 3), .ref (ad 4), .int md_found, .int md_upTo, .ref (ad 5), .ref (ad 6), .ref (ad 7), .ref (ad 8), .int md_members, .int md_provedNow])), ((ad 1), .inl (cs 0, 126, .inl md_mono)), ((ad 6), .inl (cs 0, 15876, .inl md_row)), ((ad 8), .inl (cs 0, 126, .inl md_basis))]) [2, 3, 0, 1] rfl
        have hD9 := hD.sub (ws' := [((ad 0), .inr (8, [.int 0, .int md_p, .int md_n, .int md_order, .int md_monomials, .ref (ad 1), .ref (ad 2), .int md_generators, .ref (ad 3), .ref (ad 4), .int md_found, .int md_upTo, .ref (ad 5), .ref (ad 6), .ref (ad 7), .ref (ad 8), .int md_members, .int md_provedNow])), ((ad 1), .inl (cs 0, 126, .inl md_mono)), ((ad 6), .inl (cs 0, 15876, .inl md_row)), ((ad 8), .inl (cs 0, 126, .inl md_basis))]) [2, 3, 0, 1] (by decide) rfl
        exact W.iret (v := 0) hx hb hr (fun t ht hW => ⟨⟨0, 0, rfl, hv, by rw [ht]; exact hP9, hD9⟩, hS.F ht⟩) hS.2.2 d_md_member_64
      · have hv := hv.2 c_5
        refine lv_iload_n hx hb d_md_member_30 rfl (lv_at hl 0 rfl) ?_
        refine lv_if_lt (tgt := 44) hx hb d_md_member_31 (by decide) (fun c_6 => ?_) (fun c_6 => ?_)
        · have hv := hv.1 c_6
          refine lv_iconst (v := 0) hx hb d_md_member_44 (by decide) ?_
          refine lv_goto (tgt := 64) hx hb d_md_member_45 (by decide) ?_
          have hP9 := hP.sub (ws' := [((ad 0), .inr (8, [.int 0, .int md_p, .int md_n, .int md_order, .int md_monomials, .ref (ad 1), .ref (ad 2), .int md_generators, .ref (ad 3), .ref (ad 4), .int md_found, .int md_upTo, .ref (ad 5), .ref (ad 6), .ref (ad 7), .ref (ad 8), .int md_members, .int md_provedNow])), ((ad 1), .inl (cs 0, 126, .inl md_mono)), ((ad 6), .inl (cs 0, 15876, .inl md_row)), ((ad 8), .inl (cs 0, 126, .inl md_basis))]) [2, 3, 0, 1] rfl
          have hD9 := hD.sub (ws' := [((ad 0), .inr (8, [.int 0, .int md_p, .int md_n, .int md_order, .int md_monomials, .ref (ad 1), .ref (ad 2), .int md_generators, .ref (ad 3), .ref (ad 4), .int md_found, .int md_upTo, .ref (ad 5), .ref (ad 6), .ref (ad 7), .ref (ad 8), .int md_members, .int md_provedNow])), ((ad 1), .inl (cs 0, 126, .inl md_mono)), ((ad 6), .inl (cs 0, 15876, .inl md_row)), ((ad 8), .inl (cs 0, 126, .inl md_basis))]) [2, 3, 0, 1] (by decide) rfl
          exact W.iret (v := 0) hx hb hr (fun t ht hW => ⟨⟨0, 0, rfl, hv, by rw [ht]; exact hP9, hD9⟩, hS.F ht⟩) hS.2.2 d_md_member_64
        · have hv := hv.2 c_6
          refine lv_iload_n hx hb d_md_member_34 rfl (lv_at hl 0 rfl) ?_
          refine lv_aload_n hx hb d_md_member_35 rfl (lv_at hl 1 rfl) ?_
          refine va_get (D := (dC, dI)) (ci := 8) (v := .ref (ad 8)) (C := R_md) (T := F_md) (N := 18) hx hb hts in_md hown hK hP 2 rfl rfl 15 (by decide) (hts _ kw_633) (fun _ h9 => h9) rfl d_md_member_36 ?_
          refine lv_iload_n hx hb d_md_member_39 rfl (lv_at hl 2 rfl) ?_
          obtain ⟨hi_7, hv⟩ := hv
          refine va_iald hx hb hK hP 1 0 rfl rfl hi_7 d_md_member_40 ?_
          refine lv_icmp_le (tgt := 48) hx hb d_md_member_41 (by decide) (fun c_8 => ?_) (fun c_8 => ?_)
          · have hv := hv.1 c_8
            refine lv_aload_n hx hb d_md_member_48 rfl (lv_at hl 1 rfl) ?_
            refine va_get (D := (dC, dI)) (ci := 8) (v := .ref (ad 6)) (C := R_md) (T := F_md) (N := 18) hx hb hts in_md hown hK hP 2 rfl rfl 13 (by decide) (hts _ kw_631) (fun _ h9 => h9) rfl d_md_member_49 ?_
            refine lv_bipush (v := 126) hx hb d_md_member_52 (by decide) ?_
            refine lv_aload_n hx hb d_md_member_54 rfl (lv_at hl 1 rfl) ?_
            refine va_get (D := (dC, dI)) (ci := 8) (v := .ref (ad 8)) (C := R_md) (T := F_md) (N := 18) hx hb hts in_md hown hK hP 2 rfl rfl 15 (by decide) (hts _ kw_633) (fun _ h9 => h9) rfl d_md_member_55 ?_
            refine lv_iload_n hx hb d_md_member_58 rfl (lv_at hl 2 rfl) ?_
            obtain ⟨hi_9, hv⟩ := hv
            refine va_iald hx hb hK hP 1 0 rfl rfl hi_9 d_md_member_59 ?_
            refine lv_imul hx hb d_md_member_60 ?_
            refine lv_iload_n hx hb d_md_member_61 rfl (lv_at hl 0 rfl) ?_
            refine lv_iadd hx hb d_md_member_62 ?_
            obtain ⟨hi_10, hv⟩ := hv
            refine va_iald hx hb hK hP 0 0 rfl rfl hi_10 d_md_member_63 ?_
            have hP9 := hP.sub (ws' := [((ad 0), .inr (8, [.int 0, .int md_p, .int md_n, .int md_order, .int md_monomials, .ref (ad 1), .ref (ad 2), .int md_generators, .ref (ad 3), .ref (ad 4), .int md_found, .int md_upTo, .ref (ad 5), .ref (ad 6), .ref (ad 7), .ref (ad 8), .int md_members, .int md_provedNow])), ((ad 1), .inl (cs 0, 126, .inl md_mono)), ((ad 6), .inl (cs 0, 15876, .inl md_row)), ((ad 8), .inl (cs 0, 126, .inl md_basis))]) [2, 3, 0, 1] rfl
            have hD9 := hD.sub (ws' := [((ad 0), .inr (8, [.int 0, .int md_p, .int md_n, .int md_order, .int md_monomials, .ref (ad 1), .ref (ad 2), .int md_generators, .ref (ad 3), .ref (ad 4), .int md_found, .int md_upTo, .ref (ad 5), .ref (ad 6), .ref (ad 7), .ref (ad 8), .int md_members, .int md_provedNow])), ((ad 1), .inl (cs 0, 126, .inl md_mono)), ((ad 6), .inl (cs 0, 15876, .inl md_row)), ((ad 8), .inl (cs 0, 126, .inl md_basis))]) [2, 3, 0, 1] (by decide) rfl
            exact W.iret (v := (md_row (((126 * (md_basis p0.toNatClampNeg)) + r_2)).toNatClampNeg)) hx hb hr (fun t ht hW => ⟨⟨(md_row (((126 * (md_basis p0.toNatClampNeg)) + r_2)).toNatClampNeg), 0, rfl, hv, by rw [ht]; exact hP9, hD9⟩, hS.F ht⟩) hS.2.2 d_md_member_64
          · have hv := hv.2 c_8
            refine lv_iconst (v := 0) hx hb d_md_member_44 (by decide) ?_
            refine lv_goto (tgt := 64) hx hb d_md_member_45 (by decide) ?_
            have hP9 := hP.sub (ws' := [((ad 0), .inr (8, [.int 0, .int md_p, .int md_n, .int md_order, .int md_monomials, .ref (ad 1), .ref (ad 2), .int md_generators, .ref (ad 3), .ref (ad 4), .int md_found, .int md_upTo, .ref (ad 5), .ref (ad 6), .ref (ad 7), .ref (ad 8), .int md_members, .int md_provedNow])), ((ad 1), .inl (cs 0, 126, .inl md_mono)), ((ad 6), .inl (cs 0, 15876, .inl md_row)), ((ad 8), .inl (cs 0, 126, .inl md_basis))]) [2, 3, 0, 1] rfl
            have hD9 := hD.sub (ws' := [((ad 0), .inr (8, [.int 0, .int md_p, .int md_n, .int md_order, .int md_monomials, .ref (ad 1), .ref (ad 2), .int md_generators, .ref (ad 3), .ref (ad 4), .int md_found, .int md_upTo, .ref (ad 5), .ref (ad 6), .ref (ad 7), .ref (ad 8), .int md_members, .int md_provedNow])), ((ad 1), .inl (cs 0, 126, .inl md_mono)), ((ad 6), .inl (cs 0, 15876, .inl md_row)), ((ad 8), .inl (cs 0, 126, .inl md_basis))]) [2, 3, 0, 1] (by decide) rfl
            exact W.iret (v := 0) hx hb hr (fun t ht hW => ⟨⟨0, 0, rfl, hv, by rw [ht]; exact hP9, hD9⟩, hS.F ht⟩) hS.2.2 d_md_member_64
abbrev b_md_ideal : ByteArray := prog_10_method_30_code
def y_md_ideal : MethodName := ⟨"SpaceBasisModel", "ideal", "(I)I"⟩
def w_md_ideal : List Cond := Cond.code y_md_ideal b_md_ideal 2 (some .int) :: vwWS
theorem d_md_ideal_0 : decode b_md_ideal 0 = .ok (.aload_n 0, 1) := by decide +kernel
theorem d_md_ideal_1 : decode b_md_ideal 1 = .ok (.iconst 0, 1) := by decide +kernel
theorem d_md_ideal_2 : decode b_md_ideal 2 = .ok (.putfield 7, 3) := by decide +kernel
theorem d_md_ideal_5 : decode b_md_ideal 5 = .ok (.aload_n 0, 1) := by decide +kernel
theorem d_md_ideal_6 : decode b_md_ideal 6 = .ok (.getfield 41, 3) := by decide +kernel
theorem d_md_ideal_9 : decode b_md_ideal 9 = .ok (.ifCond .ne 5, 3) := by decide +kernel
theorem d_md_ideal_12 : decode b_md_ideal 12 = .ok (.iconst (-1), 1) := by decide +kernel
theorem d_md_ideal_13 : decode b_md_ideal 13 = .ok (.ireturn, 1) := by decide +kernel
theorem d_md_ideal_14 : decode b_md_ideal 14 = .ok (.iload_n 1, 1) := by decide +kernel
theorem d_md_ideal_15 : decode b_md_ideal 15 = .ok (.ifCond .ne 16, 3) := by decide +kernel
theorem d_md_ideal_18 : decode b_md_ideal 18 = .ok (.aload_n 0, 1) := by decide +kernel
theorem d_md_ideal_19 : decode b_md_ideal 19 = .ok (.invokevirtual 127, 3) := by decide +kernel
theorem d_md_ideal_22 : decode b_md_ideal 22 = .ok (.ifCond .eq 7, 3) := by decide +kernel
theorem d_md_ideal_25 : decode b_md_ideal 25 = .ok (.iconst 1, 1) := by decide +kernel
theorem d_md_ideal_26 : decode b_md_ideal 26 = .ok (.goto 4, 3) := by decide +kernel
theorem d_md_ideal_29 : decode b_md_ideal 29 = .ok (.iconst 0, 1) := by decide +kernel
theorem d_md_ideal_30 : decode b_md_ideal 30 = .ok (.ireturn, 1) := by decide +kernel
theorem d_md_ideal_31 : decode b_md_ideal 31 = .ok (.iload_n 1, 1) := by decide +kernel
theorem d_md_ideal_32 : decode b_md_ideal 32 = .ok (.iconst 1, 1) := by decide +kernel
theorem d_md_ideal_33 : decode b_md_ideal 33 = .ok (.if_icmp .ne 8, 3) := by decide +kernel
theorem d_md_ideal_36 : decode b_md_ideal 36 = .ok (.aload_n 0, 1) := by decide +kernel
theorem d_md_ideal_37 : decode b_md_ideal 37 = .ok (.getfield 61, 3) := by decide +kernel
theorem d_md_ideal_40 : decode b_md_ideal 40 = .ok (.ireturn, 1) := by decide +kernel
theorem d_md_ideal_41 : decode b_md_ideal 41 = .ok (.iload_n 1, 1) := by decide +kernel
theorem d_md_ideal_42 : decode b_md_ideal 42 = .ok (.iconst 2, 1) := by decide +kernel
theorem d_md_ideal_43 : decode b_md_ideal 43 = .ok (.if_icmp .ne 8, 3) := by decide +kernel
theorem d_md_ideal_46 : decode b_md_ideal 46 = .ok (.aload_n 0, 1) := by decide +kernel
theorem d_md_ideal_47 : decode b_md_ideal 47 = .ok (.getfield 45, 3) := by decide +kernel
theorem d_md_ideal_50 : decode b_md_ideal 50 = .ok (.ireturn, 1) := by decide +kernel
theorem d_md_ideal_51 : decode b_md_ideal 51 = .ok (.iload_n 1, 1) := by decide +kernel
theorem d_md_ideal_52 : decode b_md_ideal 52 = .ok (.iconst 3, 1) := by decide +kernel
theorem d_md_ideal_53 : decode b_md_ideal 53 = .ok (.if_icmp .ne 17, 3) := by decide +kernel
theorem d_md_ideal_56 : decode b_md_ideal 56 = .ok (.aload_n 0, 1) := by decide +kernel
theorem d_md_ideal_57 : decode b_md_ideal 57 = .ok (.invokevirtual 127, 3) := by decide +kernel
theorem d_md_ideal_60 : decode b_md_ideal 60 = .ok (.ifCond .eq 10, 3) := by decide +kernel
theorem d_md_ideal_63 : decode b_md_ideal 63 = .ok (.aload_n 0, 1) := by decide +kernel
theorem d_md_ideal_64 : decode b_md_ideal 64 = .ok (.invokevirtual 130, 3) := by decide +kernel
theorem d_md_ideal_67 : decode b_md_ideal 67 = .ok (.goto 4, 3) := by decide +kernel
theorem d_md_ideal_70 : decode b_md_ideal 70 = .ok (.iconst (-1), 1) := by decide +kernel
theorem d_md_ideal_71 : decode b_md_ideal 71 = .ok (.ireturn, 1) := by decide +kernel
/-- SpaceBasisModel.ideal(I)I -/
def vc_md_ideal (md_thrownCode : Int32) (md_p : Int32) (md_n : Int32) (md_order : Int32) (md_monomials : Int32) (md_generators : Int32) (md_found : Int32) (md_upTo : Int32) (md_members : Int32) (md_provedNow : Int32) (md_mono : Nat → Int32) (md_degree : Nat → Int32) (md_generator : Nat → Int32) (md_basis : Nat → Int32) (p0 : Int32) (Q : Int32 → Int32 → Prop) : Prop :=
  (((¬ (md_found = 0)) → ((((¬ (p0 = 0)) → ((((¬ (p0 = 1)) → ((((¬ (p0 = 2)) → ((((¬ (p0 = 3)) → (Q (-1) 0)) ∧ ((p0 = 3) → (vc_md_complete 0 md_p md_n md_order md_monomials md_generators md_found md_upTo md_members md_provedNow md_mono md_degree md_generator md_basis (fun (r_7 : Int32) => (((r_7 = 0) → (Q (-1) 0)) ∧ ((¬ (r_7 = 0)) → (vc_md_dimension 0 md_p md_n md_order md_monomials md_generators md_found md_upTo md_members md_provedNow md_mono md_basis (fun (r_9 : Int32) => Q r_9 0)))))))))) ∧ ((p0 = 2) → (Q md_upTo 0))))) ∧ ((p0 = 1) → (Q md_members 0))))) ∧ ((p0 = 0) → (vc_md_complete 0 md_p md_n md_order md_monomials md_generators md_found md_upTo md_members md_provedNow md_mono md_degree md_generator md_basis (fun (r_10 : Int32) => (((r_10 = 0) → (Q 0 0)) ∧ ((¬ (r_10 = 0)) → (Q 1 0))))))))) ∧ ((md_found = 0) → (Q (-1) 0)))
abbrev at_md_ideal (dC : Nat → ClassId) (dI : Nat → Nat → Nat) (cs : Nat → ClassId) (A : Nat → Prop) (ad : Nat → Nat) (md_p : Int32) (md_n : Int32) (md_order : Int32) (md_monomials : Int32) (md_generators : Int32) (md_found : Int32) (md_upTo : Int32) (md_members : Int32) (md_provedNow : Int32) (md_mono : Nat → Int32) (md_degree : Nat → Int32) (md_generator : Nat → Int32) (md_basis : Nat → Int32) (u : Int32) (t : State) : Prop := match u with
  | md_thrownCode => va_P (dC, dI) vwCl [((ad 0), .inr (8, [.int md_thrownCode, .int md_p, .int md_n, .int md_order, .int md_monomials, .ref (ad 1), .ref (ad 2), .int md_generators, .ref (ad 3), .ref (ad 4), .int md_found, .int md_upTo, .ref (ad 5), .ref (ad 6), .ref (ad 7), .ref (ad 8), .int md_members, .int md_provedNow])), ((ad 1), .inl (cs 0, 126, .inl md_mono)), ((ad 2), .inl (cs 0, 126, .inl md_degree)), ((ad 3), .inl (cs 0, 1008, .inl md_generator)), ((ad 8), .inl (cs 0, 126, .inl md_basis))] t.heap ∧ va_D A [((ad 0), .inr (8, [.int md_thrownCode, .int md_p, .int md_n, .int md_order, .int md_monomials, .ref (ad 1), .ref (ad 2), .int md_generators, .ref (ad 3), .ref (ad 4), .int md_found, .int md_upTo, .ref (ad 5), .ref (ad 6), .ref (ad 7), .ref (ad 8), .int md_members, .int md_provedNow])), ((ad 1), .inl (cs 0, 126, .inl md_mono)), ((ad 2), .inl (cs 0, 126, .inl md_degree)), ((ad 3), .inl (cs 0, 1008, .inl md_generator)), ((ad 8), .inl (cs 0, 126, .inl md_basis))]
set_option maxHeartbeats 4000000 in
set_option maxRecDepth 100000 in
theorem c_md_ideal (l : Launch) (dC : Nat → ClassId) (dI : Nat → Nat → Nat) (cs : Nat → ClassId) (ad : Nat → Nat)  (sz : Nat) (md_thrownCode : Int32) (md_p : Int32) (md_n : Int32) (md_order : Int32) (md_monomials : Int32) (md_generators : Int32) (md_found : Int32) (md_upTo : Int32) (md_members : Int32) (md_provedNow : Int32) (md_mono : Nat → Int32) (md_degree : Nat → Int32) (md_generator : Nat → Int32) (md_basis : Nat → Int32) (p0 : Int32) (Q : Int32 → Int32 → Prop) (hv : vc_md_ideal md_thrownCode md_p md_n md_order md_monomials md_generators md_found md_upTo md_members md_provedNow md_mono md_degree md_generator md_basis p0 Q) : Met l y_md_ideal w_md_ideal ({ frames := 2, cells := 0, slots := 0, locals := 50 }) (va_Pc [.ref (ad 0), .int p0] (fun U => U.heap.size = sz ∧ va_P (dC, dI) vwCl [((ad 0), .inr (8, [.int md_thrownCode, .int md_p, .int md_n, .int md_order, .int md_monomials, .ref (ad 1), .ref (ad 2), .int md_generators, .ref (ad 3), .ref (ad 4), .int md_found, .int md_upTo, .ref (ad 5), .ref (ad 6), .ref (ad 7), .ref (ad 8), .int md_members, .int md_provedNow])), ((ad 1), .inl (cs 0, 126, .inl md_mono)), ((ad 2), .inl (cs 0, 126, .inl md_degree)), ((ad 3), .inl (cs 0, 1008, .inl md_generator)), ((ad 8), .inl (cs 0, 126, .inl md_basis))] U.heap ∧ vwK dC dI cs U ∧ va_D (fun _ => True) [((ad 0), .inr (8, [.int md_thrownCode, .int md_p, .int md_n, .int md_order, .int md_monomials, .ref (ad 1), .ref (ad 2), .int md_generators, .ref (ad 3), .ref (ad 4), .int md_found, .int md_upTo, .ref (ad 5), .ref (ad 6), .ref (ad 7), .ref (ad 8), .int md_members, .int md_provedNow])), ((ad 1), .inl (cs 0, 126, .inl md_mono)), ((ad 2), .inl (cs 0, 126, .inl md_degree)), ((ad 3), .inl (cs 0, 1008, .inl md_generator)), ((ad 8), .inl (cs 0, 126, .inl md_basis))])) (va_Qi (fun (r : Int32) (u : Int32) => Q r u) (at_md_ideal dC dI cs (va_A [((ad 0), .inr (8, [.int md_thrownCode, .int md_p, .int md_n, .int md_order, .int md_monomials, .ref (ad 1), .ref (ad 2), .int md_generators, .ref (ad 3), .ref (ad 4), .int md_found, .int md_upTo, .ref (ad 5), .ref (ad 6), .ref (ad 7), .ref (ad 8), .int md_members, .int md_provedNow])), ((ad 1), .inl (cs 0, 126, .inl md_mono)), ((ad 2), .inl (cs 0, 126, .inl md_degree)), ((ad 3), .inl (cs 0, 1008, .inl md_generator)), ((ad 8), .inl (cs 0, 126, .inl md_basis))] sz) ad md_p md_n md_order md_monomials md_generators md_found md_upTo md_members md_provedNow md_mono md_degree md_generator md_basis) (va_A [((ad 0), .inr (8, [.int md_thrownCode, .int md_p, .int md_n, .int md_order, .int md_monomials, .ref (ad 1), .ref (ad 2), .int md_generators, .ref (ad 3), .ref (ad 4), .int md_found, .int md_upTo, .ref (ad 5), .ref (ad 6), .ref (ad 7), .ref (ad 8), .int md_members, .int md_provedNow])), ((ad 1), .inl (cs 0, 126, .inl md_mono)), ((ad 2), .inl (cs 0, 126, .inl md_degree)), ((ad 3), .inl (cs 0, 1008, .inl md_generator)), ((ad 8), .inl (cs 0, 126, .inl md_basis))] sz)) 0 0 (va_A [((ad 0), .inr (8, [.int md_thrownCode, .int md_p, .int md_n, .int md_order, .int md_monomials, .ref (ad 1), .ref (ad 2), .int md_generators, .ref (ad 3), .ref (ad 4), .int md_found, .int md_upTo, .ref (ad 5), .ref (ad 6), .ref (ad 7), .ref (ad 8), .int md_members, .int md_provedNow])), ((ad 1), .inl (cs 0, 126, .inl md_mono)), ((ad 2), .inl (cs 0, 126, .inl md_degree)), ((ad 3), .inl (cs 0, 1008, .inl md_generator)), ((ad 8), .inl (cs 0, 126, .inl md_basis))] sz) := by
  unfold vc_md_ideal at hv
  refine Met.ofW (cc := b_md_ideal) (maxL := 2) (ret := (some .int)) (by decide) rfl ?_
  intro p e s m args below meth c s₁ B hml hpc
  obtain ⟨rfl, hsz, hP, ⟨hK, hN⟩, hD0⟩ := hpc
  have hx := B.exec
  have hb := B.bytes
  have hr := B.returns
  have hts : ∀ w ∈ vwWS, w.before _ s = true := fun w h => atoms_spec (ws := w_md_ideal) B.pre w (List.mem_cons_of_mem _ h)
  have hown : s.vm.findClass "SpaceBasisModel" = some m.cls := findClass_of_methodNamed B.named
  have hlocks := B.notSynchronized
  subst hsz
  have hD := hD0.self (sz := s.heap.size)
  generalize hAe : va_A [((ad 0), .inr (8, [.int md_thrownCode, .int md_p, .int md_n, .int md_order, .int md_monomials, .ref (ad 1), .ref (ad 2), .int md_generators, .ref (ad 3), .ref (ad 4), .int md_found, .int md_upTo, .ref (ad 5), .ref (ad 6), .ref (ad 7), .ref (ad 8), .int md_members, .int md_provedNow])), ((ad 1), .inl (cs 0, 126, .inl md_mono)), ((ad 2), .inl (cs 0, 126, .inl md_degree)), ((ad 3), .inl (cs 0, 1008, .inl md_generator)), ((ad 8), .inl (cs 0, 126, .inl md_basis))] s.heap.size = A at hD ⊢
  have hA : ∀ q : Nat, s.heap.size ≤ q → A q := fun q h => by rw [← hAe]; exact Or.inr h
  have hS : va_S A s.heap s.heap [] := va_S.rf
  have hl := lv_entry ([.ref (ad 0), .int p0]) (n := 2) (Nat.le_of_ble_eq_true rfl)
  rw [lg_entry_eq]
  generalize (lg_sl ([.ref (ad 0), .int p0]) ++ List.replicate (2 - (lg_sl ([.ref (ad 0), .int p0])).length) Slot.unset).toArray = ls at hl ⊢
  have hl : lv_has ls 2 [(0, .ref (ad 0)), (1, .int p0)] := hl
  refine lv_aload_n hx hb d_md_ideal_0 rfl (lv_at hl 0 rfl) ?_
  refine lv_iconst (v := 0) hx hb d_md_ideal_1 (by decide) ?_
  refine va_put (D := (dC, dI)) (ci := 8) (v := .int 0) (ty := .int) (C := R_md) (T := F_md) (N := 18) hx hb hts in_md t_md t_md_ok n_md hown hK hP hD hS 0 rfl rfl 0 (by decide) (hts _ kw_618) (fun _ h9 => h9) rfl (by decide +kernel) rfl rfl (Nat.le_of_ble_eq_true rfl) d_md_ideal_2 (fun H locs hP hD hS => ?_)
  have hP : va_P (dC, dI) vwCl [((ad 0), .inr (8, [.int 0, .int md_p, .int md_n, .int md_order, .int md_monomials, .ref (ad 1), .ref (ad 2), .int md_generators, .ref (ad 3), .ref (ad 4), .int md_found, .int md_upTo, .ref (ad 5), .ref (ad 6), .ref (ad 7), .ref (ad 8), .int md_members, .int md_provedNow])), ((ad 1), .inl (cs 0, 126, .inl md_mono)), ((ad 2), .inl (cs 0, 126, .inl md_degree)), ((ad 3), .inl (cs 0, 1008, .inl md_generator)), ((ad 8), .inl (cs 0, 126, .inl md_basis))] H := hP
  have hD : va_D A [((ad 0), .inr (8, [.int 0, .int md_p, .int md_n, .int md_order, .int md_monomials, .ref (ad 1), .ref (ad 2), .int md_generators, .ref (ad 3), .ref (ad 4), .int md_found, .int md_upTo, .ref (ad 5), .ref (ad 6), .ref (ad 7), .ref (ad 8), .int md_members, .int md_provedNow])), ((ad 1), .inl (cs 0, 126, .inl md_mono)), ((ad 2), .inl (cs 0, 126, .inl md_degree)), ((ad 3), .inl (cs 0, 1008, .inl md_generator)), ((ad 8), .inl (cs 0, 126, .inl md_basis))] := hD
  refine lv_aload_n hx hb d_md_ideal_5 rfl (lv_at hl 0 rfl) ?_
  refine va_get (D := (dC, dI)) (ci := 8) (v := .int md_found) (C := R_md) (T := F_md) (N := 18) hx hb hts in_md hown hK hP 0 rfl rfl 10 (by decide) (hts _ kw_628) (fun _ h9 => h9) rfl d_md_ideal_6 ?_
  refine lv_if_ne (tgt := 14) hx hb d_md_ideal_9 (by decide) (fun c_2 => ?_) (fun c_2 => ?_)
  · have hv := hv.1 c_2
    refine lv_iload_n hx hb d_md_ideal_14 rfl (lv_at hl 1 rfl) ?_
    refine lv_if_ne (tgt := 31) hx hb d_md_ideal_15 (by decide) (fun c_3 => ?_) (fun c_3 => ?_)
    · have hv := hv.1 c_3
      refine lv_iload_n hx hb d_md_ideal_31 rfl (lv_at hl 1 rfl) ?_
      refine lv_iconst (v := 1) hx hb d_md_ideal_32 (by decide) ?_
      refine lv_icmp_ne (tgt := 41) hx hb d_md_ideal_33 (by decide) (fun c_4 => ?_) (fun c_4 => ?_)
      · have hv := hv.1 c_4
        refine lv_iload_n hx hb d_md_ideal_41 rfl (lv_at hl 1 rfl) ?_
        refine lv_iconst (v := 2) hx hb d_md_ideal_42 (by decide) ?_
        refine lv_icmp_ne (tgt := 51) hx hb d_md_ideal_43 (by decide) (fun c_5 => ?_) (fun c_5 => ?_)
        · have hv := hv.1 c_5
          refine lv_iload_n hx hb d_md_ideal_51 rfl (lv_at hl 1 rfl) ?_
          refine lv_iconst (v := 3) hx hb d_md_ideal_52 (by decide) ?_
          refine lv_icmp_ne (tgt := 70) hx hb d_md_ideal_53 (by decide) (fun c_6 => ?_) (fun c_6 => ?_)
          · have hv := hv.1 c_6
            refine lv_iconst (v := (-1)) hx hb d_md_ideal_70 (by decide) ?_
            have hP9 := hP.sub (ws' := [((ad 0), .inr (8, [.int 0, .int md_p, .int md_n, .int md_order, .int md_monomials, .ref (ad 1), .ref (ad 2), .int md_generators, .ref (ad 3), .ref (ad 4), .int md_found, .int md_upTo, .ref (ad 5), .ref (ad 6), .ref (ad 7), .ref (ad 8), .int md_members, .int md_provedNow])), ((ad 1), .inl (cs 0, 126, .inl md_mono)), ((ad 2), .inl (cs 0, 126, .inl md_degree)), ((ad 3), .inl (cs 0, 1008, .inl md_generator)), ((ad 8), .inl (cs 0, 126, .inl md_basis))]) [0, 1, 2, 3, 4] rfl
            have hD9 := hD.sub (ws' := [((ad 0), .inr (8, [.int 0, .int md_p, .int md_n, .int md_order, .int md_monomials, .ref (ad 1), .ref (ad 2), .int md_generators, .ref (ad 3), .ref (ad 4), .int md_found, .int md_upTo, .ref (ad 5), .ref (ad 6), .ref (ad 7), .ref (ad 8), .int md_members, .int md_provedNow])), ((ad 1), .inl (cs 0, 126, .inl md_mono)), ((ad 2), .inl (cs 0, 126, .inl md_degree)), ((ad 3), .inl (cs 0, 1008, .inl md_generator)), ((ad 8), .inl (cs 0, 126, .inl md_basis))]) [0, 1, 2, 3, 4] (by decide) rfl
            exact W.iret (v := (-1)) hx hb hr (fun t ht hW => ⟨⟨(-1), 0, rfl, hv, by rw [ht]; exact hP9, hD9⟩, hS.F ht⟩) hS.2.2 d_md_ideal_71
          · have hv := hv.2 c_6
            refine lv_aload_n hx hb d_md_ideal_56 rfl (lv_at hl 0 rfl) ?_
            have hPc := hP.sub (ws' := [((ad 0), .inr (8, [.int 0, .int md_p, .int md_n, .int md_order, .int md_monomials, .ref (ad 1), .ref (ad 2), .int md_generators, .ref (ad 3), .ref (ad 4), .int md_found, .int md_upTo, .ref (ad 5), .ref (ad 6), .ref (ad 7), .ref (ad 8), .int md_members, .int md_provedNow])), ((ad 1), .inl (cs 0, 126, .inl md_mono)), ((ad 2), .inl (cs 0, 126, .inl md_degree)), ((ad 3), .inl (cs 0, 1008, .inl md_generator)), ((ad 8), .inl (cs 0, 126, .inl md_basis))]) [0, 1, 2, 3, 4] rfl
            have hDc := hD.sub (ws' := [((ad 0), .inr (8, [.int 0, .int md_p, .int md_n, .int md_order, .int md_monomials, .ref (ad 1), .ref (ad 2), .int md_generators, .ref (ad 3), .ref (ad 4), .int md_found, .int md_upTo, .ref (ad 5), .ref (ad 6), .ref (ad 7), .ref (ad 8), .int md_members, .int md_provedNow])), ((ad 1), .inl (cs 0, 126, .inl md_mono)), ((ad 2), .inl (cs 0, 126, .inl md_degree)), ((ad 3), .inl (cs 0, 1008, .inl md_generator)), ((ad 8), .inl (cs 0, 126, .inl md_basis))]) [0, 1, 2, 3, 4] (by decide) rfl
            have hFc := va_free (wc := [((ad 0), .inr (8, [.int 0, .int md_p, .int md_n, .int md_order, .int md_monomials, .ref (ad 1), .ref (ad 2), .int md_generators, .ref (ad 3), .ref (ad 4), .int md_found, .int md_upTo, .ref (ad 5), .ref (ad 6), .ref (ad 7), .ref (ad 8), .int md_members, .int md_provedNow])), ((ad 1), .inl (cs 0, 126, .inl md_mono)), ((ad 2), .inl (cs 0, 126, .inl md_degree)), ((ad 3), .inl (cs 0, 1008, .inl md_generator)), ((ad 8), .inl (cs 0, 126, .inl md_basis))]) hD hS hA [0, 1, 2, 3, 4] rfl
            refine va_calli (va_runV (As := []) (rest := []) ⟨hx, hb, hml, hown, hts⟩ (c_md_complete l dC dI cs ad  H.size 0 md_p md_n md_order md_monomials md_generators md_found md_upTo md_members md_provedNow md_mono md_degree md_generator md_basis _ hv) (cwV 0 hts (gd_V kw_747 kw_748 kw_29 kw_41 kw_749) rfl rfl rfl (by decide +kernel) ⟨Nat.le_of_ble_eq_true rfl, Nat.le_of_ble_eq_true rfl⟩) ⟨fun a U g mk q => by obtain ⟨q0, q1, qP, qK, qD⟩ := q; exact ⟨q0, q1, qP, qK.call, qD⟩, va_recv hK hPc (ci := 8) (q0 := 0) rfl rfl, fun U hU hW => ⟨rfl, by rw [hU], by rw [hU]; exact hPc, vwK.warm hW ⟨hK, hN⟩, hDc.weaken (fun _ _ _ _ => trivial)⟩⟩ rfl rfl hl.1 rfl (lv_room (Nat.le_of_ble_eq_true rfl)) d_md_ideal_57 ⟨Nat.zero_le _, Nat.zero_le _⟩) hS (fun q _ h => hFc q h) hFc (fun r_7 _u t H1 locs1 ht hvm hw hB hz1 hk1 hS => ?_)
            obtain ⟨hP1, hD1⟩ := hB
            rw [ht] at hP1
            obtain ⟨hP, hD⟩ := va_join (wr := []) (w1 := [((ad 0), .inr (8, [.int 0, .int md_p, .int md_n, .int md_order, .int md_monomials, .ref (ad 1), .ref (ad 2), .int md_generators, .ref (ad 3), .ref (ad 4), .int md_found, .int md_upTo, .ref (ad 5), .ref (ad 6), .ref (ad 7), .ref (ad 8), .int md_members, .int md_provedNow])), ((ad 1), .inl (cs 0, 126, .inl md_mono)), ((ad 2), .inl (cs 0, 126, .inl md_degree)), ((ad 3), .inl (cs 0, 1008, .inl md_generator)), ((ad 8), .inl (cs 0, 126, .inl md_basis))]) hP hD [0, 1, 2, 3, 4] [] rfl rfl (by decide) (by decide) hk1 hFc hP1 hD1
            generalize H1 = H at hP hS ⊢
            generalize locs1 = locs at hS ⊢
            have hP : va_P (dC, dI) vwCl [((ad 0), .inr (8, [.int 0, .int md_p, .int md_n, .int md_order, .int md_monomials, .ref (ad 1), .ref (ad 2), .int md_generators, .ref (ad 3), .ref (ad 4), .int md_found, .int md_upTo, .ref (ad 5), .ref (ad 6), .ref (ad 7), .ref (ad 8), .int md_members, .int md_provedNow])), ((ad 1), .inl (cs 0, 126, .inl md_mono)), ((ad 2), .inl (cs 0, 126, .inl md_degree)), ((ad 3), .inl (cs 0, 1008, .inl md_generator)), ((ad 8), .inl (cs 0, 126, .inl md_basis))] H := hP
            have hD : va_D A [((ad 0), .inr (8, [.int 0, .int md_p, .int md_n, .int md_order, .int md_monomials, .ref (ad 1), .ref (ad 2), .int md_generators, .ref (ad 3), .ref (ad 4), .int md_found, .int md_upTo, .ref (ad 5), .ref (ad 6), .ref (ad 7), .ref (ad 8), .int md_members, .int md_provedNow])), ((ad 1), .inl (cs 0, 126, .inl md_mono)), ((ad 2), .inl (cs 0, 126, .inl md_degree)), ((ad 3), .inl (cs 0, 1008, .inl md_generator)), ((ad 8), .inl (cs 0, 126, .inl md_basis))] := hD
            have hv := hw
            try dsimp only at hv
            refine lv_if_eq (tgt := 70) hx hb d_md_ideal_60 (by decide) (fun c_8 => ?_) (fun c_8 => ?_)
            · have hv := hv.1 c_8
              refine lv_iconst (v := (-1)) hx hb d_md_ideal_70 (by decide) ?_
              have hP9 := hP.sub (ws' := [((ad 0), .inr (8, [.int 0, .int md_p, .int md_n, .int md_order, .int md_monomials, .ref (ad 1), .ref (ad 2), .int md_generators, .ref (ad 3), .ref (ad 4), .int md_found, .int md_upTo, .ref (ad 5), .ref (ad 6), .ref (ad 7), .ref (ad 8), .int md_members, .int md_provedNow])), ((ad 1), .inl (cs 0, 126, .inl md_mono)), ((ad 2), .inl (cs 0, 126, .inl md_degree)), ((ad 3), .inl (cs 0, 1008, .inl md_generator)), ((ad 8), .inl (cs 0, 126, .inl md_basis))]) [0, 1, 2, 3, 4] rfl
              have hD9 := hD.sub (ws' := [((ad 0), .inr (8, [.int 0, .int md_p, .int md_n, .int md_order, .int md_monomials, .ref (ad 1), .ref (ad 2), .int md_generators, .ref (ad 3), .ref (ad 4), .int md_found, .int md_upTo, .ref (ad 5), .ref (ad 6), .ref (ad 7), .ref (ad 8), .int md_members, .int md_provedNow])), ((ad 1), .inl (cs 0, 126, .inl md_mono)), ((ad 2), .inl (cs 0, 126, .inl md_degree)), ((ad 3), .inl (cs 0, 1008, .inl md_generator)), ((ad 8), .inl (cs 0, 126, .inl md_basis))]) [0, 1, 2, 3, 4] (by decide) rfl
              exact W.iret (v := (-1)) hx hb hr (fun t ht hW => ⟨⟨(-1), 0, rfl, hv, by rw [ht]; exact hP9, hD9⟩, hS.F ht⟩) hS.2.2 d_md_ideal_71
            · have hv := hv.2 c_8
              refine lv_aload_n hx hb d_md_ideal_63 rfl (lv_at hl 0 rfl) ?_
              have hPc := hP.sub (ws' := [((ad 0), .inr (8, [.int 0, .int md_p, .int md_n, .int md_order, .int md_monomials, .ref (ad 1), .ref (ad 2), .int md_generators, .ref (ad 3), .ref (ad 4), .int md_found, .int md_upTo, .ref (ad 5), .ref (ad 6), .ref (ad 7), .ref (ad 8), .int md_members, .int md_provedNow])), ((ad 1), .inl (cs 0, 126, .inl md_mono)), ((ad 8), .inl (cs 0, 126, .inl md_basis))]) [0, 1, 4] rfl
              have hDc := hD.sub (ws' := [((ad 0), .inr (8, [.int 0, .int md_p, .int md_n, .int md_order, .int md_monomials, .ref (ad 1), .ref (ad 2), .int md_generators, .ref (ad 3), .ref (ad 4), .int md_found, .int md_upTo, .ref (ad 5), .ref (ad 6), .ref (ad 7), .ref (ad 8), .int md_members, .int md_provedNow])), ((ad 1), .inl (cs 0, 126, .inl md_mono)), ((ad 8), .inl (cs 0, 126, .inl md_basis))]) [0, 1, 4] (by decide) rfl
              have hFc := va_free (wc := [((ad 0), .inr (8, [.int 0, .int md_p, .int md_n, .int md_order, .int md_monomials, .ref (ad 1), .ref (ad 2), .int md_generators, .ref (ad 3), .ref (ad 4), .int md_found, .int md_upTo, .ref (ad 5), .ref (ad 6), .ref (ad 7), .ref (ad 8), .int md_members, .int md_provedNow])), ((ad 1), .inl (cs 0, 126, .inl md_mono)), ((ad 8), .inl (cs 0, 126, .inl md_basis))]) hD hS hA [0, 1, 4] rfl
              refine va_calli (va_runV (As := []) (rest := []) ⟨hx, hb, hml, hown, hts⟩ (c_md_dimension l dC dI cs ad  H.size 0 md_p md_n md_order md_monomials md_generators md_found md_upTo md_members md_provedNow md_mono md_basis _ hv) (cwV 0 hts (gd_V kw_750 kw_751 kw_30 kw_41 kw_752) rfl rfl rfl (by decide +kernel) ⟨Nat.le_of_ble_eq_true rfl, Nat.le_of_ble_eq_true rfl⟩) ⟨fun a U g mk q => by obtain ⟨q0, q1, qP, qK, qD⟩ := q; exact ⟨q0, q1, qP, qK.call, qD⟩, va_recv hK hPc (ci := 8) (q0 := 0) rfl rfl, fun U hU hW => ⟨rfl, by rw [hU], by rw [hU]; exact hPc, vwK.warm hW ⟨hK, hN⟩, hDc.weaken (fun _ _ _ _ => trivial)⟩⟩ rfl rfl hl.1 rfl (lv_room (Nat.le_of_ble_eq_true rfl)) d_md_ideal_64 ⟨Nat.zero_le _, Nat.zero_le _⟩) hS (fun q _ h => hFc q h) hFc (fun r_9 _u t H1 locs1 ht hvm hw hB hz1 hk1 hS => ?_)
              obtain ⟨hP1, hD1⟩ := hB
              rw [ht] at hP1
              obtain ⟨hP, hD⟩ := va_join (wr := [((ad 2), .inl (cs 0, 126, .inl md_degree)), ((ad 3), .inl (cs 0, 1008, .inl md_generator))]) (w1 := [((ad 0), .inr (8, [.int 0, .int md_p, .int md_n, .int md_order, .int md_monomials, .ref (ad 1), .ref (ad 2), .int md_generators, .ref (ad 3), .ref (ad 4), .int md_found, .int md_upTo, .ref (ad 5), .ref (ad 6), .ref (ad 7), .ref (ad 8), .int md_members, .int md_provedNow])), ((ad 1), .inl (cs 0, 126, .inl md_mono)), ((ad 8), .inl (cs 0, 126, .inl md_basis))]) hP hD [0, 1, 4] [2, 3] rfl rfl (by decide) (by decide) hk1 hFc hP1 hD1
              generalize H1 = H at hP hS ⊢
              generalize locs1 = locs at hS ⊢
              have hP : va_P (dC, dI) vwCl [((ad 2), .inl (cs 0, 126, .inl md_degree)), ((ad 3), .inl (cs 0, 1008, .inl md_generator)), ((ad 0), .inr (8, [.int 0, .int md_p, .int md_n, .int md_order, .int md_monomials, .ref (ad 1), .ref (ad 2), .int md_generators, .ref (ad 3), .ref (ad 4), .int md_found, .int md_upTo, .ref (ad 5), .ref (ad 6), .ref (ad 7), .ref (ad 8), .int md_members, .int md_provedNow])), ((ad 1), .inl (cs 0, 126, .inl md_mono)), ((ad 8), .inl (cs 0, 126, .inl md_basis))] H := hP
              have hD : va_D A [((ad 2), .inl (cs 0, 126, .inl md_degree)), ((ad 3), .inl (cs 0, 1008, .inl md_generator)), ((ad 0), .inr (8, [.int 0, .int md_p, .int md_n, .int md_order, .int md_monomials, .ref (ad 1), .ref (ad 2), .int md_generators, .ref (ad 3), .ref (ad 4), .int md_found, .int md_upTo, .ref (ad 5), .ref (ad 6), .ref (ad 7), .ref (ad 8), .int md_members, .int md_provedNow])), ((ad 1), .inl (cs 0, 126, .inl md_mono)), ((ad 8), .inl (cs 0, 126, .inl md_basis))] := hD
              have hv := hw
              try dsimp only at hv
              refine lv_goto (tgt := 71) hx hb d_md_ideal_67 (by decide) ?_
              have hP9 := hP.sub (ws' := [((ad 0), .inr (8, [.int 0, .int md_p, .int md_n, .int md_order, .int md_monomials, .ref (ad 1), .ref (ad 2), .int md_generators, .ref (ad 3), .ref (ad 4), .int md_found, .int md_upTo, .ref (ad 5), .ref (ad 6), .ref (ad 7), .ref (ad 8), .int md_members, .int md_provedNow])), ((ad 1), .inl (cs 0, 126, .inl md_mono)), ((ad 2), .inl (cs 0, 126, .inl md_degree)), ((ad 3), .inl (cs 0, 1008, .inl md_generator)), ((ad 8), .inl (cs 0, 126, .inl md_basis))]) [2, 3, 0, 1, 4] rfl
              have hD9 := hD.sub (ws' := [((ad 0), .inr (8, [.int 0, .int md_p, .int md_n, .int md_order, .int md_monomials, .ref (ad 1), .ref (ad 2), .int md_generators, .ref (ad 3), .ref (ad 4), .int md_found, .int md_upTo, .ref (ad 5), .ref (ad 6), .ref (ad 7), .ref (ad 8), .int md_members, .int md_provedNow])), ((ad 1), .inl (cs 0, 126, .inl md_mono)), ((ad 2), .inl (cs 0, 126, .inl md_degree)), ((ad 3), .inl (cs 0, 1008, .inl md_generator)), ((ad 8), .inl (cs 0, 126, .inl md_basis))]) [2, 3, 0, 1, 4] (by decide) rfl
              exact W.iret (v := r_9) hx hb hr (fun t ht hW => ⟨⟨r_9, 0, rfl, hv, by rw [ht]; exact hP9, hD9⟩, hS.F ht⟩) hS.2.2 d_md_ideal_71
        · have hv := hv.2 c_5
          refine lv_aload_n hx hb d_md_ideal_46 rfl (lv_at hl 0 rfl) ?_
          refine va_get (D := (dC, dI)) (ci := 8) (v := .int md_upTo) (C := R_md) (T := F_md) (N := 18) hx hb hts in_md hown hK hP 0 rfl rfl 11 (by decide) (hts _ kw_629) (fun _ h9 => h9) rfl d_md_ideal_47 ?_
          have hP9 := hP.sub (ws' := [((ad 0), .inr (8, [.int 0, .int md_p, .int md_n, .int md_order, .int md_monomials, .ref (ad 1), .ref (ad 2), .int md_generators, .ref (ad 3), .ref (ad 4), .int md_found, .int md_upTo, .ref (ad 5), .ref (ad 6), .ref (ad 7), .ref (ad 8), .int md_members, .int md_provedNow])), ((ad 1), .inl (cs 0, 126, .inl md_mono)), ((ad 2), .inl (cs 0, 126, .inl md_degree)), ((ad 3), .inl (cs 0, 1008, .inl md_generator)), ((ad 8), .inl (cs 0, 126, .inl md_basis))]) [0, 1, 2, 3, 4] rfl
          have hD9 := hD.sub (ws' := [((ad 0), .inr (8, [.int 0, .int md_p, .int md_n, .int md_order, .int md_monomials, .ref (ad 1), .ref (ad 2), .int md_generators, .ref (ad 3), .ref (ad 4), .int md_found, .int md_upTo, .ref (ad 5), .ref (ad 6), .ref (ad 7), .ref (ad 8), .int md_members, .int md_provedNow])), ((ad 1), .inl (cs 0, 126, .inl md_mono)), ((ad 2), .inl (cs 0, 126, .inl md_degree)), ((ad 3), .inl (cs 0, 1008, .inl md_generator)), ((ad 8), .inl (cs 0, 126, .inl md_basis))]) [0, 1, 2, 3, 4] (by decide) rfl
          exact W.iret (v := md_upTo) hx hb hr (fun t ht hW => ⟨⟨md_upTo, 0, rfl, hv, by rw [ht]; exact hP9, hD9⟩, hS.F ht⟩) hS.2.2 d_md_ideal_50
      · have hv := hv.2 c_4
        refine lv_aload_n hx hb d_md_ideal_36 rfl (lv_at hl 0 rfl) ?_
        refine va_get (D := (dC, dI)) (ci := 8) (v := .int md_members) (C := R_md) (T := F_md) (N := 18) hx hb hts in_md hown hK hP 0 rfl rfl 16 (by decide) (hts _ kw_634) (fun _ h9 => h9) rfl d_md_ideal_37 ?_
        have hP9 := hP.sub (ws' := [((ad 0), .inr (8, [.int 0, .int md_p, .int md_n, .int md_order, .int md_monomials, .ref (ad 1), .ref (ad 2), .int md_generators, .ref (ad 3), .ref (ad 4), .int md_found, .int md_upTo, .ref (ad 5), .ref (ad 6), .ref (ad 7), .ref (ad 8), .int md_members, .int md_provedNow])), ((ad 1), .inl (cs 0, 126, .inl md_mono)), ((ad 2), .inl (cs 0, 126, .inl md_degree)), ((ad 3), .inl (cs 0, 1008, .inl md_generator)), ((ad 8), .inl (cs 0, 126, .inl md_basis))]) [0, 1, 2, 3, 4] rfl
        have hD9 := hD.sub (ws' := [((ad 0), .inr (8, [.int 0, .int md_p, .int md_n, .int md_order, .int md_monomials, .ref (ad 1), .ref (ad 2), .int md_generators, .ref (ad 3), .ref (ad 4), .int md_found, .int md_upTo, .ref (ad 5), .ref (ad 6), .ref (ad 7), .ref (ad 8), .int md_members, .int md_provedNow])), ((ad 1), .inl (cs 0, 126, .inl md_mono)), ((ad 2), .inl (cs 0, 126, .inl md_degree)), ((ad 3), .inl (cs 0, 1008, .inl md_generator)), ((ad 8), .inl (cs 0, 126, .inl md_basis))]) [0, 1, 2, 3, 4] (by decide) rfl
        exact W.iret (v := md_members) hx hb hr (fun t ht hW => ⟨⟨md_members, 0, rfl, hv, by rw [ht]; exact hP9, hD9⟩, hS.F ht⟩) hS.2.2 d_md_ideal_40
    · have hv := hv.2 c_3
      refine lv_aload_n hx hb d_md_ideal_18 rfl (lv_at hl 0 rfl) ?_
      have hPc := hP.sub (ws' := [((ad 0), .inr (8, [.int 0, .int md_p, .int md_n, .int md_order, .int md_monomials, .ref (ad 1), .ref (ad 2), .int md_generators, .ref (ad 3), .ref (ad 4), .int md_found, .int md_upTo, .ref (ad 5), .ref (ad 6), .ref (ad 7), .ref (ad 8), .int md_members, .int md_provedNow])), ((ad 1), .inl (cs 0, 126, .inl md_mono)), ((ad 2), .inl (cs 0, 126, .inl md_degree)), ((ad 3), .inl (cs 0, 1008, .inl md_generator)), ((ad 8), .inl (cs 0, 126, .inl md_basis))]) [0, 1, 2, 3, 4] rfl
      have hDc := hD.sub (ws' := [((ad 0), .inr (8, [.int 0, .int md_p, .int md_n, .int md_order, .int md_monomials, .ref (ad 1), .ref (ad 2), .int md_generators, .ref (ad 3), .ref (ad 4), .int md_found, .int md_upTo, .ref (ad 5), .ref (ad 6), .ref (ad 7), .ref (ad 8), .int md_members, .int md_provedNow])), ((ad 1), .inl (cs 0, 126, .inl md_mono)), ((ad 2), .inl (cs 0, 126, .inl md_degree)), ((ad 3), .inl (cs 0, 1008, .inl md_generator)), ((ad 8), .inl (cs 0, 126, .inl md_basis))]) [0, 1, 2, 3, 4] (by decide) rfl
      have hFc := va_free (wc := [((ad 0), .inr (8, [.int 0, .int md_p, .int md_n, .int md_order, .int md_monomials, .ref (ad 1), .ref (ad 2), .int md_generators, .ref (ad 3), .ref (ad 4), .int md_found, .int md_upTo, .ref (ad 5), .ref (ad 6), .ref (ad 7), .ref (ad 8), .int md_members, .int md_provedNow])), ((ad 1), .inl (cs 0, 126, .inl md_mono)), ((ad 2), .inl (cs 0, 126, .inl md_degree)), ((ad 3), .inl (cs 0, 1008, .inl md_generator)), ((ad 8), .inl (cs 0, 126, .inl md_basis))]) hD hS hA [0, 1, 2, 3, 4] rfl
      refine va_calli (va_runV (As := []) (rest := []) ⟨hx, hb, hml, hown, hts⟩ (c_md_complete l dC dI cs ad  H.size 0 md_p md_n md_order md_monomials md_generators md_found md_upTo md_members md_provedNow md_mono md_degree md_generator md_basis _ hv) (cwV 0 hts (gd_V kw_747 kw_748 kw_29 kw_41 kw_749) rfl rfl rfl (by decide +kernel) ⟨Nat.le_of_ble_eq_true rfl, Nat.le_of_ble_eq_true rfl⟩) ⟨fun a U g mk q => by obtain ⟨q0, q1, qP, qK, qD⟩ := q; exact ⟨q0, q1, qP, qK.call, qD⟩, va_recv hK hPc (ci := 8) (q0 := 0) rfl rfl, fun U hU hW => ⟨rfl, by rw [hU], by rw [hU]; exact hPc, vwK.warm hW ⟨hK, hN⟩, hDc.weaken (fun _ _ _ _ => trivial)⟩⟩ rfl rfl hl.1 rfl (lv_room (Nat.le_of_ble_eq_true rfl)) d_md_ideal_19 ⟨Nat.zero_le _, Nat.zero_le _⟩) hS (fun q _ h => hFc q h) hFc (fun r_10 _u t H1 locs1 ht hvm hw hB hz1 hk1 hS => ?_)
      obtain ⟨hP1, hD1⟩ := hB
      rw [ht] at hP1
      obtain ⟨hP, hD⟩ := va_join (wr := []) (w1 := [((ad 0), .inr (8, [.int 0, .int md_p, .int md_n, .int md_order, .int md_monomials, .ref (ad 1), .ref (ad 2), .int md_generators, .ref (ad 3), .ref (ad 4), .int md_found, .int md_upTo, .ref (ad 5), .ref (ad 6), .ref (ad 7), .ref (ad 8), .int md_members, .int md_provedNow])), ((ad 1), .inl (cs 0, 126, .inl md_mono)), ((ad 2), .inl (cs 0, 126, .inl md_degree)), ((ad 3), .inl (cs 0, 1008, .inl md_generator)), ((ad 8), .inl (cs 0, 126, .inl md_basis))]) hP hD [0, 1, 2, 3, 4] [] rfl rfl (by decide) (by decide) hk1 hFc hP1 hD1
      generalize H1 = H at hP hS ⊢
      generalize locs1 = locs at hS ⊢
      have hP : va_P (dC, dI) vwCl [((ad 0), .inr (8, [.int 0, .int md_p, .int md_n, .int md_order, .int md_monomials, .ref (ad 1), .ref (ad 2), .int md_generators, .ref (ad 3), .ref (ad 4), .int md_found, .int md_upTo, .ref (ad 5), .ref (ad 6), .ref (ad 7), .ref (ad 8), .int md_members, .int md_provedNow])), ((ad 1), .inl (cs 0, 126, .inl md_mono)), ((ad 2), .inl (cs 0, 126, .inl md_degree)), ((ad 3), .inl (cs 0, 1008, .inl md_generator)), ((ad 8), .inl (cs 0, 126, .inl md_basis))] H := hP
      have hD : va_D A [((ad 0), .inr (8, [.int 0, .int md_p, .int md_n, .int md_order, .int md_monomials, .ref (ad 1), .ref (ad 2), .int md_generators, .ref (ad 3), .ref (ad 4), .int md_found, .int md_upTo, .ref (ad 5), .ref (ad 6), .ref (ad 7), .ref (ad 8), .int md_members, .int md_provedNow])), ((ad 1), .inl (cs 0, 126, .inl md_mono)), ((ad 2), .inl (cs 0, 126, .inl md_degree)), ((ad 3), .inl (cs 0, 1008, .inl md_generator)), ((ad 8), .inl (cs 0, 126, .inl md_basis))] := hD
      have hv := hw
      try dsimp only at hv
      refine lv_if_eq (tgt := 29) hx hb d_md_ideal_22 (by decide) (fun c_11 => ?_) (fun c_11 => ?_)
      · have hv := hv.1 c_11
        refine lv_iconst (v := 0) hx hb d_md_ideal_29 (by decide) ?_
        have hP9 := hP.sub (ws' := [((ad 0), .inr (8, [.int 0, .int md_p, .int md_n, .int md_order, .int md_monomials, .ref (ad 1), .ref (ad 2), .int md_generators, .ref (ad 3), .ref (ad 4), .int md_found, .int md_upTo, .ref (ad 5), .ref (ad 6), .ref (ad 7), .ref (ad 8), .int md_members, .int md_provedNow])), ((ad 1), .inl (cs 0, 126, .inl md_mono)), ((ad 2), .inl (cs 0, 126, .inl md_degree)), ((ad 3), .inl (cs 0, 1008, .inl md_generator)), ((ad 8), .inl (cs 0, 126, .inl md_basis))]) [0, 1, 2, 3, 4] rfl
        have hD9 := hD.sub (ws' := [((ad 0), .inr (8, [.int 0, .int md_p, .int md_n, .int md_order, .int md_monomials, .ref (ad 1), .ref (ad 2), .int md_generators, .ref (ad 3), .ref (ad 4), .int md_found, .int md_upTo, .ref (ad 5), .ref (ad 6), .ref (ad 7), .ref (ad 8), .int md_members, .int md_provedNow])), ((ad 1), .inl (cs 0, 126, .inl md_mono)), ((ad 2), .inl (cs 0, 126, .inl md_degree)), ((ad 3), .inl (cs 0, 1008, .inl md_generator)), ((ad 8), .inl (cs 0, 126, .inl md_basis))]) [0, 1, 2, 3, 4] (by decide) rfl
        exact W.iret (v := 0) hx hb hr (fun t ht hW => ⟨⟨0, 0, rfl, hv, by rw [ht]; exact hP9, hD9⟩, hS.F ht⟩) hS.2.2 d_md_ideal_30
      · have hv := hv.2 c_11
        refine lv_iconst (v := 1) hx hb d_md_ideal_25 (by decide) ?_
        refine lv_goto (tgt := 30) hx hb d_md_ideal_26 (by decide) ?_
        have hP9 := hP.sub (ws' := [((ad 0), .inr (8, [.int 0, .int md_p, .int md_n, .int md_order, .int md_monomials, .ref (ad 1), .ref (ad 2), .int md_generators, .ref (ad 3), .ref (ad 4), .int md_found, .int md_upTo, .ref (ad 5), .ref (ad 6), .ref (ad 7), .ref (ad 8), .int md_members, .int md_provedNow])), ((ad 1), .inl (cs 0, 126, .inl md_mono)), ((ad 2), .inl (cs 0, 126, .inl md_degree)), ((ad 3), .inl (cs 0, 1008, .inl md_generator)), ((ad 8), .inl (cs 0, 126, .inl md_basis))]) [0, 1, 2, 3, 4] rfl
        have hD9 := hD.sub (ws' := [((ad 0), .inr (8, [.int 0, .int md_p, .int md_n, .int md_order, .int md_monomials, .ref (ad 1), .ref (ad 2), .int md_generators, .ref (ad 3), .ref (ad 4), .int md_found, .int md_upTo, .ref (ad 5), .ref (ad 6), .ref (ad 7), .ref (ad 8), .int md_members, .int md_provedNow])), ((ad 1), .inl (cs 0, 126, .inl md_mono)), ((ad 2), .inl (cs 0, 126, .inl md_degree)), ((ad 3), .inl (cs 0, 1008, .inl md_generator)), ((ad 8), .inl (cs 0, 126, .inl md_basis))]) [0, 1, 2, 3, 4] (by decide) rfl
        exact W.iret (v := 1) hx hb hr (fun t ht hW => ⟨⟨1, 0, rfl, hv, by rw [ht]; exact hP9, hD9⟩, hS.F ht⟩) hS.2.2 d_md_ideal_30
  · have hv := hv.2 c_2
    refine lv_iconst (v := (-1)) hx hb d_md_ideal_12 (by decide) ?_
    have hP9 := hP.sub (ws' := [((ad 0), .inr (8, [.int 0, .int md_p, .int md_n, .int md_order, .int md_monomials, .ref (ad 1), .ref (ad 2), .int md_generators, .ref (ad 3), .ref (ad 4), .int md_found, .int md_upTo, .ref (ad 5), .ref (ad 6), .ref (ad 7), .ref (ad 8), .int md_members, .int md_provedNow])), ((ad 1), .inl (cs 0, 126, .inl md_mono)), ((ad 2), .inl (cs 0, 126, .inl md_degree)), ((ad 3), .inl (cs 0, 1008, .inl md_generator)), ((ad 8), .inl (cs 0, 126, .inl md_basis))]) [0, 1, 2, 3, 4] rfl
    have hD9 := hD.sub (ws' := [((ad 0), .inr (8, [.int 0, .int md_p, .int md_n, .int md_order, .int md_monomials, .ref (ad 1), .ref (ad 2), .int md_generators, .ref (ad 3), .ref (ad 4), .int md_found, .int md_upTo, .ref (ad 5), .ref (ad 6), .ref (ad 7), .ref (ad 8), .int md_members, .int md_provedNow])), ((ad 1), .inl (cs 0, 126, .inl md_mono)), ((ad 2), .inl (cs 0, 126, .inl md_degree)), ((ad 3), .inl (cs 0, 1008, .inl md_generator)), ((ad 8), .inl (cs 0, 126, .inl md_basis))]) [0, 1, 2, 3, 4] (by decide) rfl
    exact W.iret (v := (-1)) hx hb hr (fun t ht hW => ⟨⟨(-1), 0, rfl, hv, by rw [ht]; exact hP9, hD9⟩, hS.F ht⟩) hS.2.2 d_md_ideal_13
abbrev b_md_standard : ByteArray := prog_10_method_31_code
def y_md_standard : MethodName := ⟨"SpaceBasisModel", "standard", "(I)I"⟩
def w_md_standard : List Cond := Cond.code y_md_standard b_md_standard 4 (some .int) :: vwWS
theorem d_md_standard_0 : decode b_md_standard 0 = .ok (.aload_n 0, 1) := by decide +kernel
theorem d_md_standard_1 : decode b_md_standard 1 = .ok (.iconst 0, 1) := by decide +kernel
theorem d_md_standard_2 : decode b_md_standard 2 = .ok (.putfield 7, 3) := by decide +kernel
theorem d_md_standard_5 : decode b_md_standard 5 = .ok (.aload_n 0, 1) := by decide +kernel
theorem d_md_standard_6 : decode b_md_standard 6 = .ok (.getfield 41, 3) := by decide +kernel
theorem d_md_standard_9 : decode b_md_standard 9 = .ok (.ifCond .eq 15, 3) := by decide +kernel
theorem d_md_standard_12 : decode b_md_standard 12 = .ok (.iload_n 1, 1) := by decide +kernel
theorem d_md_standard_13 : decode b_md_standard 13 = .ok (.ifCond .lt 11, 3) := by decide +kernel
theorem d_md_standard_16 : decode b_md_standard 16 = .ok (.iload_n 1, 1) := by decide +kernel
theorem d_md_standard_17 : decode b_md_standard 17 = .ok (.aload_n 0, 1) := by decide +kernel
theorem d_md_standard_18 : decode b_md_standard 18 = .ok (.getfield 45, 3) := by decide +kernel
theorem d_md_standard_21 : decode b_md_standard 21 = .ok (.if_icmp .le 5, 3) := by decide +kernel
theorem d_md_standard_24 : decode b_md_standard 24 = .ok (.iconst (-1), 1) := by decide +kernel
theorem d_md_standard_25 : decode b_md_standard 25 = .ok (.ireturn, 1) := by decide +kernel
theorem d_md_standard_26 : decode b_md_standard 26 = .ok (.iconst 0, 1) := by decide +kernel
theorem d_md_standard_27 : decode b_md_standard 27 = .ok (.istore_n 2, 1) := by decide +kernel
theorem d_md_standard_28 : decode b_md_standard 28 = .ok (.iconst 0, 1) := by decide +kernel
theorem d_md_standard_29 : decode b_md_standard 29 = .ok (.istore_n 3, 1) := by decide +kernel
theorem d_md_standard_30 : decode b_md_standard 30 = .ok (.iload_n 3, 1) := by decide +kernel
theorem d_md_standard_31 : decode b_md_standard 31 = .ok (.aload_n 0, 1) := by decide +kernel
theorem d_md_standard_32 : decode b_md_standard 32 = .ok (.getfield 22, 3) := by decide +kernel
theorem d_md_standard_35 : decode b_md_standard 35 = .ok (.if_icmp .ge 36, 3) := by decide +kernel
theorem d_md_standard_38 : decode b_md_standard 38 = .ok (.iload_n 2, 1) := by decide +kernel
theorem d_md_standard_39 : decode b_md_standard 39 = .ok (.aload_n 0, 1) := by decide +kernel
theorem d_md_standard_40 : decode b_md_standard 40 = .ok (.getfield 29, 3) := by decide +kernel
theorem d_md_standard_43 : decode b_md_standard 43 = .ok (.iload_n 3, 1) := by decide +kernel
theorem d_md_standard_44 : decode b_md_standard 44 = .ok (.iaload, 1) := by decide +kernel
theorem d_md_standard_45 : decode b_md_standard 45 = .ok (.iload_n 1, 1) := by decide +kernel
theorem d_md_standard_46 : decode b_md_standard 46 = .ok (.if_icmp .ne 16, 3) := by decide +kernel
theorem d_md_standard_49 : decode b_md_standard 49 = .ok (.aload_n 0, 1) := by decide +kernel
theorem d_md_standard_50 : decode b_md_standard 50 = .ok (.getfield 48, 3) := by decide +kernel
theorem d_md_standard_53 : decode b_md_standard 53 = .ok (.iload_n 3, 1) := by decide +kernel
theorem d_md_standard_54 : decode b_md_standard 54 = .ok (.baload, 1) := by decide +kernel
theorem d_md_standard_55 : decode b_md_standard 55 = .ok (.ifCond .ne 7, 3) := by decide +kernel
theorem d_md_standard_58 : decode b_md_standard 58 = .ok (.iconst 1, 1) := by decide +kernel
theorem d_md_standard_59 : decode b_md_standard 59 = .ok (.goto 4, 3) := by decide +kernel
theorem d_md_standard_62 : decode b_md_standard 62 = .ok (.iconst 0, 1) := by decide +kernel
theorem d_md_standard_63 : decode b_md_standard 63 = .ok (.iadd, 1) := by decide +kernel
theorem d_md_standard_64 : decode b_md_standard 64 = .ok (.istore_n 2, 1) := by decide +kernel
theorem d_md_standard_65 : decode b_md_standard 65 = .ok (.iinc 3 1, 3) := by decide +kernel
theorem d_md_standard_68 : decode b_md_standard 68 = .ok (.goto (-38), 3) := by decide +kernel
theorem d_md_standard_71 : decode b_md_standard 71 = .ok (.iload_n 2, 1) := by decide +kernel
theorem d_md_standard_72 : decode b_md_standard 72 = .ok (.ireturn, 1) := by decide +kernel
/-- SpaceBasisModel.standard(I)I -/
def vc_md_standard (md_thrownCode : Int32) (md_p : Int32) (md_n : Int32) (md_order : Int32) (md_monomials : Int32) (md_generators : Int32) (md_found : Int32) (md_upTo : Int32) (md_members : Int32) (md_provedNow : Int32) (md_degree : Nat → Int32) (md_has : Nat → Int32) (p0 : Int32) (Q : Int32 → Int32 → Prop) : Prop :=
  (((md_found = 0) → (Q (-1) 0)) ∧ ((¬ (md_found = 0)) → ((((p0 < 0) → (Q (-1) 0)) ∧ ((¬ (p0 < 0)) → ((((p0 ≤ md_upTo) → (∃ (I30_7 : Int32 → Int32 → Prop) (mu30_8 : Int32 → Int32 → Nat), I30_7 0 0 ∧ ∀ (x2_5 : Int32) (x3_6 : Int32), I30_7 x2_5 x3_6 → ((((md_monomials ≤ x3_6) → (Q x2_5 0)) ∧ ((¬ (md_monomials ≤ x3_6)) → (vp_in x3_6 126 ∧ (((¬ ((md_degree x3_6.toNatClampNeg) = p0)) → (∀ x2_12 : Int32, x2_12 = (x2_5 + 0) → ∀ x3_13 : Int32, x3_13 = x3_6 + 1 → (I30_7 x2_12 x3_13 ∧ mu30_8 x2_12 x3_13 < mu30_8 x2_5 x3_6))) ∧ (((md_degree x3_6.toNatClampNeg) = p0) → (vp_in x3_6 126 ∧ (((¬ ((md_has x3_6.toNatClampNeg) = 0)) → (∀ x2_16 : Int32, x2_16 = (x2_5 + 0) → ∀ x3_17 : Int32, x3_17 = x3_6 + 1 → (I30_7 x2_16 x3_17 ∧ mu30_8 x2_16 x3_17 < mu30_8 x2_5 x3_6))) ∧ (((md_has x3_6.toNatClampNeg) = 0) → (∀ x2_18 : Int32, x2_18 = (x2_5 + 1) → ∀ x3_19 : Int32, x3_19 = x3_6 + 1 → (I30_7 x2_18 x3_19 ∧ mu30_8 x2_18 x3_19 < mu30_8 x2_5 x3_6))))))))))))) ∧ ((¬ (p0 ≤ md_upTo)) → (Q (-1) 0)))))))))
abbrev at_md_standard (dC : Nat → ClassId) (dI : Nat → Nat → Nat) (cs : Nat → ClassId) (A : Nat → Prop) (ad : Nat → Nat) (md_p : Int32) (md_n : Int32) (md_order : Int32) (md_monomials : Int32) (md_generators : Int32) (md_found : Int32) (md_upTo : Int32) (md_members : Int32) (md_provedNow : Int32) (md_degree : Nat → Int32) (md_has : Nat → Int32) (u : Int32) (t : State) : Prop := match u with
  | md_thrownCode => va_P (dC, dI) vwCl [((ad 0), .inr (8, [.int md_thrownCode, .int md_p, .int md_n, .int md_order, .int md_monomials, .ref (ad 1), .ref (ad 2), .int md_generators, .ref (ad 3), .ref (ad 4), .int md_found, .int md_upTo, .ref (ad 5), .ref (ad 6), .ref (ad 7), .ref (ad 8), .int md_members, .int md_provedNow])), ((ad 2), .inl (cs 0, 126, .inl md_degree)), ((ad 5), .inl (cs 2, 126, .inl md_has))] t.heap ∧ va_D A [((ad 0), .inr (8, [.int md_thrownCode, .int md_p, .int md_n, .int md_order, .int md_monomials, .ref (ad 1), .ref (ad 2), .int md_generators, .ref (ad 3), .ref (ad 4), .int md_found, .int md_upTo, .ref (ad 5), .ref (ad 6), .ref (ad 7), .ref (ad 8), .int md_members, .int md_provedNow])), ((ad 2), .inl (cs 0, 126, .inl md_degree)), ((ad 5), .inl (cs 2, 126, .inl md_has))]
set_option maxHeartbeats 4000000 in
set_option maxRecDepth 100000 in
theorem c_md_standard (l : Launch) (dC : Nat → ClassId) (dI : Nat → Nat → Nat) (cs : Nat → ClassId) (ad : Nat → Nat)  (sz : Nat) (md_thrownCode : Int32) (md_p : Int32) (md_n : Int32) (md_order : Int32) (md_monomials : Int32) (md_generators : Int32) (md_found : Int32) (md_upTo : Int32) (md_members : Int32) (md_provedNow : Int32) (md_degree : Nat → Int32) (md_has : Nat → Int32) (p0 : Int32) (Q : Int32 → Int32 → Prop) (hv : vc_md_standard md_thrownCode md_p md_n md_order md_monomials md_generators md_found md_upTo md_members md_provedNow md_degree md_has p0 Q) : Met l y_md_standard w_md_standard ({ frames := 0, cells := 0, slots := 0, locals := 0 }) (va_Pc [.ref (ad 0), .int p0] (fun U => U.heap.size = sz ∧ va_P (dC, dI) vwCl [((ad 0), .inr (8, [.int md_thrownCode, .int md_p, .int md_n, .int md_order, .int md_monomials, .ref (ad 1), .ref (ad 2), .int md_generators, .ref (ad 3), .ref (ad 4), .int md_found, .int md_upTo, .ref (ad 5), .ref (ad 6), .ref (ad 7), .ref (ad 8), .int md_members, .int md_provedNow])), ((ad 2), .inl (cs 0, 126, .inl md_degree)), ((ad 5), .inl (cs 2, 126, .inl md_has))] U.heap ∧ vwK dC dI cs U ∧ va_D (fun _ => True) [((ad 0), .inr (8, [.int md_thrownCode, .int md_p, .int md_n, .int md_order, .int md_monomials, .ref (ad 1), .ref (ad 2), .int md_generators, .ref (ad 3), .ref (ad 4), .int md_found, .int md_upTo, .ref (ad 5), .ref (ad 6), .ref (ad 7), .ref (ad 8), .int md_members, .int md_provedNow])), ((ad 2), .inl (cs 0, 126, .inl md_degree)), ((ad 5), .inl (cs 2, 126, .inl md_has))])) (va_Qi (fun (r : Int32) (u : Int32) => Q r u) (at_md_standard dC dI cs (va_A [((ad 0), .inr (8, [.int md_thrownCode, .int md_p, .int md_n, .int md_order, .int md_monomials, .ref (ad 1), .ref (ad 2), .int md_generators, .ref (ad 3), .ref (ad 4), .int md_found, .int md_upTo, .ref (ad 5), .ref (ad 6), .ref (ad 7), .ref (ad 8), .int md_members, .int md_provedNow])), ((ad 2), .inl (cs 0, 126, .inl md_degree)), ((ad 5), .inl (cs 2, 126, .inl md_has))] sz) ad md_p md_n md_order md_monomials md_generators md_found md_upTo md_members md_provedNow md_degree md_has) (va_A [((ad 0), .inr (8, [.int md_thrownCode, .int md_p, .int md_n, .int md_order, .int md_monomials, .ref (ad 1), .ref (ad 2), .int md_generators, .ref (ad 3), .ref (ad 4), .int md_found, .int md_upTo, .ref (ad 5), .ref (ad 6), .ref (ad 7), .ref (ad 8), .int md_members, .int md_provedNow])), ((ad 2), .inl (cs 0, 126, .inl md_degree)), ((ad 5), .inl (cs 2, 126, .inl md_has))] sz)) 0 0 (va_A [((ad 0), .inr (8, [.int md_thrownCode, .int md_p, .int md_n, .int md_order, .int md_monomials, .ref (ad 1), .ref (ad 2), .int md_generators, .ref (ad 3), .ref (ad 4), .int md_found, .int md_upTo, .ref (ad 5), .ref (ad 6), .ref (ad 7), .ref (ad 8), .int md_members, .int md_provedNow])), ((ad 2), .inl (cs 0, 126, .inl md_degree)), ((ad 5), .inl (cs 2, 126, .inl md_has))] sz) := by
  unfold vc_md_standard at hv
  refine Met.ofW (cc := b_md_standard) (maxL := 4) (ret := (some .int)) (by decide) rfl ?_
  intro p e s m args below meth c s₁ B hml hpc
  obtain ⟨rfl, hsz, hP, ⟨hK, hN⟩, hD0⟩ := hpc
  have hx := B.exec
  have hb := B.bytes
  have hr := B.returns
  have hts : ∀ w ∈ vwWS, w.before _ s = true := fun w h => atoms_spec (ws := w_md_standard) B.pre w (List.mem_cons_of_mem _ h)
  have hown : s.vm.findClass "SpaceBasisModel" = some m.cls := findClass_of_methodNamed B.named
  have hlocks := B.notSynchronized
  subst hsz
  have hD := hD0.self (sz := s.heap.size)
  generalize hAe : va_A [((ad 0), .inr (8, [.int md_thrownCode, .int md_p, .int md_n, .int md_order, .int md_monomials, .ref (ad 1), .ref (ad 2), .int md_generators, .ref (ad 3), .ref (ad 4), .int md_found, .int md_upTo, .ref (ad 5), .ref (ad 6), .ref (ad 7), .ref (ad 8), .int md_members, .int md_provedNow])), ((ad 2), .inl (cs 0, 126, .inl md_degree)), ((ad 5), .inl (cs 2, 126, .inl md_has))] s.heap.size = A at hD ⊢
  have hA : ∀ q : Nat, s.heap.size ≤ q → A q := fun q h => by rw [← hAe]; exact Or.inr h
  have hS : va_S A s.heap s.heap [] := va_S.rf
  have hl := lv_entry ([.ref (ad 0), .int p0]) (n := 4) (Nat.le_of_ble_eq_true rfl)
  rw [lg_entry_eq]
  generalize (lg_sl ([.ref (ad 0), .int p0]) ++ List.replicate (4 - (lg_sl ([.ref (ad 0), .int p0])).length) Slot.unset).toArray = ls at hl ⊢
  have hl : lv_has ls 4 [(0, .ref (ad 0)), (1, .int p0)] := hl
  refine lv_aload_n hx hb d_md_standard_0 rfl (lv_at hl 0 rfl) ?_
  refine lv_iconst (v := 0) hx hb d_md_standard_1 (by decide) ?_
  refine va_put (D := (dC, dI)) (ci := 8) (v := .int 0) (ty := .int) (C := R_md) (T := F_md) (N := 18) hx hb hts in_md t_md t_md_ok n_md hown hK hP hD hS 0 rfl rfl 0 (by decide) (hts _ kw_618) (fun _ h9 => h9) rfl (by decide +kernel) rfl rfl (Nat.le_of_ble_eq_true rfl) d_md_standard_2 (fun H locs hP hD hS => ?_)
  have hP : va_P (dC, dI) vwCl [((ad 0), .inr (8, [.int 0, .int md_p, .int md_n, .int md_order, .int md_monomials, .ref (ad 1), .ref (ad 2), .int md_generators, .ref (ad 3), .ref (ad 4), .int md_found, .int md_upTo, .ref (ad 5), .ref (ad 6), .ref (ad 7), .ref (ad 8), .int md_members, .int md_provedNow])), ((ad 2), .inl (cs 0, 126, .inl md_degree)), ((ad 5), .inl (cs 2, 126, .inl md_has))] H := hP
  have hD : va_D A [((ad 0), .inr (8, [.int 0, .int md_p, .int md_n, .int md_order, .int md_monomials, .ref (ad 1), .ref (ad 2), .int md_generators, .ref (ad 3), .ref (ad 4), .int md_found, .int md_upTo, .ref (ad 5), .ref (ad 6), .ref (ad 7), .ref (ad 8), .int md_members, .int md_provedNow])), ((ad 2), .inl (cs 0, 126, .inl md_degree)), ((ad 5), .inl (cs 2, 126, .inl md_has))] := hD
  refine lv_aload_n hx hb d_md_standard_5 rfl (lv_at hl 0 rfl) ?_
  refine va_get (D := (dC, dI)) (ci := 8) (v := .int md_found) (C := R_md) (T := F_md) (N := 18) hx hb hts in_md hown hK hP 0 rfl rfl 10 (by decide) (hts _ kw_628) (fun _ h9 => h9) rfl d_md_standard_6 ?_
  refine lv_if_eq (tgt := 24) hx hb d_md_standard_9 (by decide) (fun c_2 => ?_) (fun c_2 => ?_)
  · have hv := hv.1 c_2
    refine lv_iconst (v := (-1)) hx hb d_md_standard_24 (by decide) ?_
    have hP9 := hP.sub (ws' := [((ad 0), .inr (8, [.int 0, .int md_p, .int md_n, .int md_order, .int md_monomials, .ref (ad 1), .ref (ad 2), .int md_generators, .ref (ad 3), .ref (ad 4), .int md_found, .int md_upTo, .ref (ad 5), .ref (ad 6), .ref (ad 7), .ref (ad 8), .int md_members, .int md_provedNow])), ((ad 2), .inl (cs 0, 126, .inl md_degree)), ((ad 5), .inl (cs 2, 126, .inl md_has))]) [0, 1, 2] rfl
    have hD9 := hD.sub (ws' := [((ad 0), .inr (8, [.int 0, .int md_p, .int md_n, .int md_order, .int md_monomials, .ref (ad 1), .ref (ad 2), .int md_generators, .ref (ad 3), .ref (ad 4), .int md_found, .int md_upTo, .ref (ad 5), .ref (ad 6), .ref (ad 7), .ref (ad 8), .int md_members, .int md_provedNow])), ((ad 2), .inl (cs 0, 126, .inl md_degree)), ((ad 5), .inl (cs 2, 126, .inl md_has))]) [0, 1, 2] (by decide) rfl
    exact W.iret (v := (-1)) hx hb hr (fun t ht hW => ⟨⟨(-1), 0, rfl, hv, by rw [ht]; exact hP9, hD9⟩, hS.F ht⟩) hS.2.2 d_md_standard_25
  · have hv := hv.2 c_2
    refine lv_iload_n hx hb d_md_standard_12 rfl (lv_at hl 1 rfl) ?_
    refine lv_if_lt (tgt := 24) hx hb d_md_standard_13 (by decide) (fun c_3 => ?_) (fun c_3 => ?_)
    · have hv := hv.1 c_3
      refine lv_iconst (v := (-1)) hx hb d_md_standard_24 (by decide) ?_
      have hP9 := hP.sub (ws' := [((ad 0), .inr (8, [.int 0, .int md_p, .int md_n, .int md_order, .int md_monomials, .ref (ad 1), .ref (ad 2), .int md_generators, .ref (ad 3), .ref (ad 4), .int md_found, .int md_upTo, .ref (ad 5), .ref (ad 6), .ref (ad 7), .ref (ad 8), .int md_members, .int md_provedNow])), ((ad 2), .inl (cs 0, 126, .inl md_degree)), ((ad 5), .inl (cs 2, 126, .inl md_has))]) [0, 1, 2] rfl
      have hD9 := hD.sub (ws' := [((ad 0), .inr (8, [.int 0, .int md_p, .int md_n, .int md_order, .int md_monomials, .ref (ad 1), .ref (ad 2), .int md_generators, .ref (ad 3), .ref (ad 4), .int md_found, .int md_upTo, .ref (ad 5), .ref (ad 6), .ref (ad 7), .ref (ad 8), .int md_members, .int md_provedNow])), ((ad 2), .inl (cs 0, 126, .inl md_degree)), ((ad 5), .inl (cs 2, 126, .inl md_has))]) [0, 1, 2] (by decide) rfl
      exact W.iret (v := (-1)) hx hb hr (fun t ht hW => ⟨⟨(-1), 0, rfl, hv, by rw [ht]; exact hP9, hD9⟩, hS.F ht⟩) hS.2.2 d_md_standard_25
    · have hv := hv.2 c_3
      refine lv_iload_n hx hb d_md_standard_16 rfl (lv_at hl 1 rfl) ?_
      refine lv_aload_n hx hb d_md_standard_17 rfl (lv_at hl 0 rfl) ?_
      refine va_get (D := (dC, dI)) (ci := 8) (v := .int md_upTo) (C := R_md) (T := F_md) (N := 18) hx hb hts in_md hown hK hP 0 rfl rfl 11 (by decide) (hts _ kw_629) (fun _ h9 => h9) rfl d_md_standard_18 ?_
      refine lv_icmp_le (tgt := 26) hx hb d_md_standard_21 (by decide) (fun c_4 => ?_) (fun c_4 => ?_)
      · have hv := hv.1 c_4
        refine lv_iconst (v := 0) hx hb d_md_standard_26 (by decide) ?_
        refine lv_istore_n (lv' := [(2, .int 0), (0, .ref (ad 0)), (1, .int p0)]) hx hb d_md_standard_27 rfl hl (by decide) rfl (fun ls hl => ?_)
        refine lv_iconst (v := 0) hx hb d_md_standard_28 (by decide) ?_
        refine lv_istore_n (lv' := [(3, .int 0), (2, .int 0), (0, .ref (ad 0)), (1, .int p0)]) hx hb d_md_standard_29 rfl hl (by decide) rfl (fun ls hl => ?_)
        obtain ⟨I30_7, mu30_8, hi0, hv⟩ := hv
        have hP := hP.sub (ws' := [((ad 0), .inr (8, [.int 0, .int md_p, .int md_n, .int md_order, .int md_monomials, .ref (ad 1), .ref (ad 2), .int md_generators, .ref (ad 3), .ref (ad 4), .int md_found, .int md_upTo, .ref (ad 5), .ref (ad 6), .ref (ad 7), .ref (ad 8), .int md_members, .int md_provedNow])), ((ad 2), .inl (cs 0, 126, .inl md_degree)), ((ad 5), .inl (cs 2, 126, .inl md_has))]) [0, 1, 2] rfl
        have hD := hD.sub (ws' := [((ad 0), .inr (8, [.int 0, .int md_p, .int md_n, .int md_order, .int md_monomials, .ref (ad 1), .ref (ad 2), .int md_generators, .ref (ad 3), .ref (ad 4), .int md_found, .int md_upTo, .ref (ad 5), .ref (ad 6), .ref (ad 7), .ref (ad 8), .int md_members, .int md_provedNow])), ((ad 2), .inl (cs 0, 126, .inl md_degree)), ((ad 5), .inl (cs 2, 126, .inl md_has))]) [0, 1, 2] (by decide) rfl
        have hl := lv_sub (l' := [(0, .ref (ad 0)), (1, .int p0), (2, .int 0), (3, .int 0)]) hl [2, 3, 1, 0] rfl
        have loop30 : ∀ (nn : Nat) (x2_5 : Int32) (x3_6 : Int32), mu30_8 x2_5 x3_6 < nn → I30_7 x2_5 x3_6 → ∀ (H : Heap) (locs : List Loc) (ls : Array Slot), va_P (dC, dI) vwCl [((ad 0), .inr (8, [.int 0, .int md_p, .int md_n, .int md_order, .int md_monomials, .ref (ad 1), .ref (ad 2), .int md_generators, .ref (ad 3), .ref (ad 4), .int md_found, .int md_upTo, .ref (ad 5), .ref (ad 6), .ref (ad 7), .ref (ad 8), .int md_members, .int md_provedNow])), ((ad 2), .inl (cs 0, 126, .inl md_degree)), ((ad 5), .inl (cs 2, 126, .inl md_has))] H → va_D A [((ad 0), .inr (8, [.int 0, .int md_p, .int md_n, .int md_order, .int md_monomials, .ref (ad 1), .ref (ad 2), .int md_generators, .ref (ad 3), .ref (ad 4), .int md_found, .int md_upTo, .ref (ad 5), .ref (ad 6), .ref (ad 7), .ref (ad 8), .int md_members, .int md_provedNow])), ((ad 2), .inl (cs 0, 126, .inl md_degree)), ((ad 5), .inl (cs 2, 126, .inl md_has))] → va_S A s.heap H locs → lv_has ls 4 [(0, .ref (ad 0)), (1, .int p0), (2, .int x2_5), (3, .int x3_6)] → W p l e (headSpec w_md_standard { frames := 0, cells := 0, slots := 0, locals := 0 }).room s m ([.ref (ad 0), .int p0] : List Value).toArray below meth c H locs 0 0 (MQ below (va_Qi (fun (r : Int32) (u : Int32) => Q r u) (at_md_standard dC dI cs A ad md_p md_n md_order md_monomials md_generators md_found md_upTo md_members md_provedNow md_degree md_has) A) ([.ref (ad 0), .int p0] : List Value).toArray s 0 0 A) (F0 m 30 ls []) := by
          intro nn
          induction nn with
          | zero => intro x2_5 x3_6 hlt; exact absurd hlt (Nat.not_lt_zero _)
          | succ nn ih30 =>
            intro x2_5 x3_6 hlt30 hI H locs ls hP hD hS hl
            have hv := hv x2_5 x3_6 hI
            refine lv_iload_n hx hb d_md_standard_30 rfl (lv_at hl 3 rfl) ?_
            refine lv_aload_n hx hb d_md_standard_31 rfl (lv_at hl 0 rfl) ?_
            refine va_get (D := (dC, dI)) (ci := 8) (v := .int md_monomials) (C := R_md) (T := F_md) (N := 18) hx hb hts in_md hown hK hP 0 rfl rfl 4 (by decide) (hts _ kw_622) (fun _ h9 => h9) rfl d_md_standard_32 ?_
            refine lv_icmp_ge (tgt := 71) hx hb d_md_standard_35 (by decide) (fun c_9 => ?_) (fun c_9 => ?_)
            · have hv := hv.1 c_9
              refine lv_iload_n hx hb d_md_standard_71 rfl (lv_at hl 2 rfl) ?_
              have hP9 := hP.sub (ws' := [((ad 0), .inr (8, [.int 0, .int md_p, .int md_n, .int md_order, .int md_monomials, .ref (ad 1), .ref (ad 2), .int md_generators, .ref (ad 3), .ref (ad 4), .int md_found, .int md_upTo, .ref (ad 5), .ref (ad 6), .ref (ad 7), .ref (ad 8), .int md_members, .int md_provedNow])), ((ad 2), .inl (cs 0, 126, .inl md_degree)), ((ad 5), .inl (cs 2, 126, .inl md_has))]) [0, 1, 2] rfl
              have hD9 := hD.sub (ws' := [((ad 0), .inr (8, [.int 0, .int md_p, .int md_n, .int md_order, .int md_monomials, .ref (ad 1), .ref (ad 2), .int md_generators, .ref (ad 3), .ref (ad 4), .int md_found, .int md_upTo, .ref (ad 5), .ref (ad 6), .ref (ad 7), .ref (ad 8), .int md_members, .int md_provedNow])), ((ad 2), .inl (cs 0, 126, .inl md_degree)), ((ad 5), .inl (cs 2, 126, .inl md_has))]) [0, 1, 2] (by decide) rfl
              exact W.iret (v := x2_5) hx hb hr (fun t ht hW => ⟨⟨x2_5, 0, rfl, hv, by rw [ht]; exact hP9, hD9⟩, hS.F ht⟩) hS.2.2 d_md_standard_72
            · have hv := hv.2 c_9
              refine lv_iload_n hx hb d_md_standard_38 rfl (lv_at hl 2 rfl) ?_
              refine lv_aload_n hx hb d_md_standard_39 rfl (lv_at hl 0 rfl) ?_
              refine va_get (D := (dC, dI)) (ci := 8) (v := .ref (ad 2)) (C := R_md) (T := F_md) (N := 18) hx hb hts in_md hown hK hP 0 rfl rfl 6 (by decide) (hts _ kw_624) (fun _ h9 => h9) rfl d_md_standard_40 ?_
              refine lv_iload_n hx hb d_md_standard_43 rfl (lv_at hl 3 rfl) ?_
              obtain ⟨hi_10, hv⟩ := hv
              refine va_iald hx hb hK hP 1 0 rfl rfl hi_10 d_md_standard_44 ?_
              refine lv_iload_n hx hb d_md_standard_45 rfl (lv_at hl 1 rfl) ?_
              refine lv_icmp_ne (tgt := 62) hx hb d_md_standard_46 (by decide) (fun c_11 => ?_) (fun c_11 => ?_)
              · have hv := hv.1 c_11
                refine lv_iconst (v := 0) hx hb d_md_standard_62 (by decide) ?_
                refine lv_iadd hx hb d_md_standard_63 ?_
                refine lv_topi (fun x2_12 ex2_12 => ?_)
                have hv := hv x2_12 ex2_12
                refine lv_istore_n (lv' := [(2, .int x2_12), (0, .ref (ad 0)), (1, .int p0), (3, .int x3_6)]) hx hb d_md_standard_64 rfl hl (by decide) rfl (fun ls hl => ?_)
                obtain ⟨x3_13, ex3_13⟩ : ∃ y : Int32, y = x3_6 + 1 := ⟨_, rfl⟩
                have hv := hv x3_13 ex3_13
                refine lv_iinc (v := x3_13) (lv' := [(3, .int x3_13), (2, .int x2_12), (0, .ref (ad 0)), (1, .int p0)]) hx hb d_md_standard_65 hl (k := 3) rfl (by rw [ex3_13]; rfl) (by decide) rfl (fun ls hl => ?_)
                refine lv_goto (tgt := 30) hx hb d_md_standard_68 (by decide) ?_
                exact ih30 x2_12 x3_13 (Nat.lt_of_lt_of_le hv.2 (Nat.le_of_lt_succ hlt30)) hv.1 _ _ _ (hP.sub [0, 1, 2] rfl) (hD.sub [0, 1, 2] (by decide) rfl) hS (lv_sub hl [2, 3, 1, 0] rfl)
              · have hv := hv.2 c_11
                refine lv_aload_n hx hb d_md_standard_49 rfl (lv_at hl 0 rfl) ?_
                refine va_get (D := (dC, dI)) (ci := 8) (v := .ref (ad 5)) (C := R_md) (T := F_md) (N := 18) hx hb hts in_md hown hK hP 0 rfl rfl 12 (by decide) (hts _ kw_630) (fun _ h9 => h9) rfl d_md_standard_50 ?_
                refine lv_iload_n hx hb d_md_standard_53 rfl (lv_at hl 3 rfl) ?_
                obtain ⟨hi_14, hv⟩ := hv
                refine va_zald hx hb hK hP 2 2 rfl rfl hi_14 d_md_standard_54 ?_
                refine lv_if_ne (tgt := 62) hx hb d_md_standard_55 (by decide) (fun c_15 => ?_) (fun c_15 => ?_)
                · have hv := hv.1 c_15
                  refine lv_iconst (v := 0) hx hb d_md_standard_62 (by decide) ?_
                  refine lv_iadd hx hb d_md_standard_63 ?_
                  refine lv_topi (fun x2_16 ex2_16 => ?_)
                  have hv := hv x2_16 ex2_16
                  refine lv_istore_n (lv' := [(2, .int x2_16), (0, .ref (ad 0)), (1, .int p0), (3, .int x3_6)]) hx hb d_md_standard_64 rfl hl (by decide) rfl (fun ls hl => ?_)
                  obtain ⟨x3_17, ex3_17⟩ : ∃ y : Int32, y = x3_6 + 1 := ⟨_, rfl⟩
                  have hv := hv x3_17 ex3_17
                  refine lv_iinc (v := x3_17) (lv' := [(3, .int x3_17), (2, .int x2_16), (0, .ref (ad 0)), (1, .int p0)]) hx hb d_md_standard_65 hl (k := 3) rfl (by rw [ex3_17]; rfl) (by decide) rfl (fun ls hl => ?_)
                  refine lv_goto (tgt := 30) hx hb d_md_standard_68 (by decide) ?_
                  exact ih30 x2_16 x3_17 (Nat.lt_of_lt_of_le hv.2 (Nat.le_of_lt_succ hlt30)) hv.1 _ _ _ (hP.sub [0, 1, 2] rfl) (hD.sub [0, 1, 2] (by decide) rfl) hS (lv_sub hl [2, 3, 1, 0] rfl)
                · have hv := hv.2 c_15
                  refine lv_iconst (v := 1) hx hb d_md_standard_58 (by decide) ?_
                  refine lv_goto (tgt := 63) hx hb d_md_standard_59 (by decide) ?_
                  refine lv_iadd hx hb d_md_standard_63 ?_
                  refine lv_topi (fun x2_18 ex2_18 => ?_)
                  have hv := hv x2_18 ex2_18
                  refine lv_istore_n (lv' := [(2, .int x2_18), (0, .ref (ad 0)), (1, .int p0), (3, .int x3_6)]) hx hb d_md_standard_64 rfl hl (by decide) rfl (fun ls hl => ?_)
                  obtain ⟨x3_19, ex3_19⟩ : ∃ y : Int32, y = x3_6 + 1 := ⟨_, rfl⟩
                  have hv := hv x3_19 ex3_19
                  refine lv_iinc (v := x3_19) (lv' := [(3, .int x3_19), (2, .int x2_18), (0, .ref (ad 0)), (1, .int p0)]) hx hb d_md_standard_65 hl (k := 3) rfl (by rw [ex3_19]; rfl) (by decide) rfl (fun ls hl => ?_)
                  refine lv_goto (tgt := 30) hx hb d_md_standard_68 (by decide) ?_
                  exact ih30 x2_18 x3_19 (Nat.lt_of_lt_of_le hv.2 (Nat.le_of_lt_succ hlt30)) hv.1 _ _ _ (hP.sub [0, 1, 2] rfl) (hD.sub [0, 1, 2] (by decide) rfl) hS (lv_sub hl [2, 3, 1, 0] rfl)
        exact loop30 _ 0 0 (Nat.lt_succ_self _) hi0 _ _ _ hP hD hS hl
      · have hv := hv.2 c_4
        refine lv_iconst (v := (-1)) hx hb d_md_standard_24 (by decide) ?_
        have hP9 := hP.sub (ws' := [((ad 0), .inr (8, [.int 0, .int md_p, .int md_n, .int md_order, .int md_monomials, .ref (ad 1), .ref (ad 2), .int md_generators, .ref (ad 3), .ref (ad 4), .int md_found, .int md_upTo, .ref (ad 5), .ref (ad 6), .ref (ad 7), .ref (ad 8), .int md_members, .int md_provedNow])), ((ad 2), .inl (cs 0, 126, .inl md_degree)), ((ad 5), .inl (cs 2, 126, .inl md_has))]) [0, 1, 2] rfl
        have hD9 := hD.sub (ws' := [((ad 0), .inr (8, [.int 0, .int md_p, .int md_n, .int md_order, .int md_monomials, .ref (ad 1), .ref (ad 2), .int md_generators, .ref (ad 3), .ref (ad 4), .int md_found, .int md_upTo, .ref (ad 5), .ref (ad 6), .ref (ad 7), .ref (ad 8), .int md_members, .int md_provedNow])), ((ad 2), .inl (cs 0, 126, .inl md_degree)), ((ad 5), .inl (cs 2, 126, .inl md_has))]) [0, 1, 2] (by decide) rfl
        exact W.iret (v := (-1)) hx hb hr (fun t ht hW => ⟨⟨(-1), 0, rfl, hv, by rw [ht]; exact hP9, hD9⟩, hS.F ht⟩) hS.2.2 d_md_standard_25
abbrev b_md_proved : ByteArray := prog_10_method_33_code
def y_md_proved : MethodName := ⟨"SpaceBasisModel", "proved", "()I"⟩
def w_md_proved : List Cond := Cond.code y_md_proved b_md_proved 1 (some .int) :: vwWS
theorem d_md_proved_0 : decode b_md_proved 0 = .ok (.aload_n 0, 1) := by decide +kernel
theorem d_md_proved_1 : decode b_md_proved 1 = .ok (.iconst 0, 1) := by decide +kernel
theorem d_md_proved_2 : decode b_md_proved 2 = .ok (.putfield 7, 3) := by decide +kernel
theorem d_md_proved_5 : decode b_md_proved 5 = .ok (.aload_n 0, 1) := by decide +kernel
theorem d_md_proved_6 : decode b_md_proved 6 = .ok (.getfield 64, 3) := by decide +kernel
theorem d_md_proved_9 : decode b_md_proved 9 = .ok (.ireturn, 1) := by decide +kernel
/-- SpaceBasisModel.proved()I -/
def vc_md_proved (md_thrownCode : Int32) (md_p : Int32) (md_n : Int32) (md_order : Int32) (md_monomials : Int32) (md_generators : Int32) (md_found : Int32) (md_upTo : Int32) (md_members : Int32) (md_provedNow : Int32) (Q : Int32 → Int32 → Prop) : Prop :=
  Q md_provedNow 0
abbrev at_md_proved (dC : Nat → ClassId) (dI : Nat → Nat → Nat) (cs : Nat → ClassId) (A : Nat → Prop) (ad : Nat → Nat) (md_p : Int32) (md_n : Int32) (md_order : Int32) (md_monomials : Int32) (md_generators : Int32) (md_found : Int32) (md_upTo : Int32) (md_members : Int32) (md_provedNow : Int32) (u : Int32) (t : State) : Prop := match u with
  | md_thrownCode => va_P (dC, dI) vwCl [((ad 0), .inr (8, [.int md_thrownCode, .int md_p, .int md_n, .int md_order, .int md_monomials, .ref (ad 1), .ref (ad 2), .int md_generators, .ref (ad 3), .ref (ad 4), .int md_found, .int md_upTo, .ref (ad 5), .ref (ad 6), .ref (ad 7), .ref (ad 8), .int md_members, .int md_provedNow]))] t.heap ∧ va_D A [((ad 0), .inr (8, [.int md_thrownCode, .int md_p, .int md_n, .int md_order, .int md_monomials, .ref (ad 1), .ref (ad 2), .int md_generators, .ref (ad 3), .ref (ad 4), .int md_found, .int md_upTo, .ref (ad 5), .ref (ad 6), .ref (ad 7), .ref (ad 8), .int md_members, .int md_provedNow]))]
set_option maxHeartbeats 4000000 in
set_option maxRecDepth 100000 in
theorem c_md_proved (l : Launch) (dC : Nat → ClassId) (dI : Nat → Nat → Nat) (cs : Nat → ClassId) (ad : Nat → Nat)  (sz : Nat) (md_thrownCode : Int32) (md_p : Int32) (md_n : Int32) (md_order : Int32) (md_monomials : Int32) (md_generators : Int32) (md_found : Int32) (md_upTo : Int32) (md_members : Int32) (md_provedNow : Int32) (Q : Int32 → Int32 → Prop) (hv : vc_md_proved md_thrownCode md_p md_n md_order md_monomials md_generators md_found md_upTo md_members md_provedNow Q) : Met l y_md_proved w_md_proved ({ frames := 0, cells := 0, slots := 0, locals := 0 }) (va_Pc [.ref (ad 0)] (fun U => U.heap.size = sz ∧ va_P (dC, dI) vwCl [((ad 0), .inr (8, [.int md_thrownCode, .int md_p, .int md_n, .int md_order, .int md_monomials, .ref (ad 1), .ref (ad 2), .int md_generators, .ref (ad 3), .ref (ad 4), .int md_found, .int md_upTo, .ref (ad 5), .ref (ad 6), .ref (ad 7), .ref (ad 8), .int md_members, .int md_provedNow]))] U.heap ∧ vwK dC dI cs U ∧ va_D (fun _ => True) [((ad 0), .inr (8, [.int md_thrownCode, .int md_p, .int md_n, .int md_order, .int md_monomials, .ref (ad 1), .ref (ad 2), .int md_generators, .ref (ad 3), .ref (ad 4), .int md_found, .int md_upTo, .ref (ad 5), .ref (ad 6), .ref (ad 7), .ref (ad 8), .int md_members, .int md_provedNow]))])) (va_Qi (fun (r : Int32) (u : Int32) => Q r u) (at_md_proved dC dI cs (va_A [((ad 0), .inr (8, [.int md_thrownCode, .int md_p, .int md_n, .int md_order, .int md_monomials, .ref (ad 1), .ref (ad 2), .int md_generators, .ref (ad 3), .ref (ad 4), .int md_found, .int md_upTo, .ref (ad 5), .ref (ad 6), .ref (ad 7), .ref (ad 8), .int md_members, .int md_provedNow]))] sz) ad md_p md_n md_order md_monomials md_generators md_found md_upTo md_members md_provedNow) (va_A [((ad 0), .inr (8, [.int md_thrownCode, .int md_p, .int md_n, .int md_order, .int md_monomials, .ref (ad 1), .ref (ad 2), .int md_generators, .ref (ad 3), .ref (ad 4), .int md_found, .int md_upTo, .ref (ad 5), .ref (ad 6), .ref (ad 7), .ref (ad 8), .int md_members, .int md_provedNow]))] sz)) 0 0 (va_A [((ad 0), .inr (8, [.int md_thrownCode, .int md_p, .int md_n, .int md_order, .int md_monomials, .ref (ad 1), .ref (ad 2), .int md_generators, .ref (ad 3), .ref (ad 4), .int md_found, .int md_upTo, .ref (ad 5), .ref (ad 6), .ref (ad 7), .ref (ad 8), .int md_members, .int md_provedNow]))] sz) := by
  unfold vc_md_proved at hv
  refine Met.ofW (cc := b_md_proved) (maxL := 1) (ret := (some .int)) (by decide) rfl ?_
  intro p e s m args below meth c s₁ B hml hpc
  obtain ⟨rfl, hsz, hP, ⟨hK, hN⟩, hD0⟩ := hpc
  have hx := B.exec
  have hb := B.bytes
  have hr := B.returns
  have hts : ∀ w ∈ vwWS, w.before _ s = true := fun w h => atoms_spec (ws := w_md_proved) B.pre w (List.mem_cons_of_mem _ h)
  have hown : s.vm.findClass "SpaceBasisModel" = some m.cls := findClass_of_methodNamed B.named
  have hlocks := B.notSynchronized
  subst hsz
  have hD := hD0.self (sz := s.heap.size)
  generalize hAe : va_A [((ad 0), .inr (8, [.int md_thrownCode, .int md_p, .int md_n, .int md_order, .int md_monomials, .ref (ad 1), .ref (ad 2), .int md_generators, .ref (ad 3), .ref (ad 4), .int md_found, .int md_upTo, .ref (ad 5), .ref (ad 6), .ref (ad 7), .ref (ad 8), .int md_members, .int md_provedNow]))] s.heap.size = A at hD ⊢
  have hA : ∀ q : Nat, s.heap.size ≤ q → A q := fun q h => by rw [← hAe]; exact Or.inr h
  have hS : va_S A s.heap s.heap [] := va_S.rf
  have hl := lv_entry ([.ref (ad 0)]) (n := 1) (Nat.le_of_ble_eq_true rfl)
  rw [lg_entry_eq]
  generalize (lg_sl ([.ref (ad 0)]) ++ List.replicate (1 - (lg_sl ([.ref (ad 0)])).length) Slot.unset).toArray = ls at hl ⊢
  have hl : lv_has ls 1 [(0, .ref (ad 0))] := hl
  refine lv_aload_n hx hb d_md_proved_0 rfl (lv_at hl 0 rfl) ?_
  refine lv_iconst (v := 0) hx hb d_md_proved_1 (by decide) ?_
  refine va_put (D := (dC, dI)) (ci := 8) (v := .int 0) (ty := .int) (C := R_md) (T := F_md) (N := 18) hx hb hts in_md t_md t_md_ok n_md hown hK hP hD hS 0 rfl rfl 0 (by decide) (hts _ kw_618) (fun _ h9 => h9) rfl (by decide +kernel) rfl rfl (Nat.le_of_ble_eq_true rfl) d_md_proved_2 (fun H locs hP hD hS => ?_)
  have hP : va_P (dC, dI) vwCl [((ad 0), .inr (8, [.int 0, .int md_p, .int md_n, .int md_order, .int md_monomials, .ref (ad 1), .ref (ad 2), .int md_generators, .ref (ad 3), .ref (ad 4), .int md_found, .int md_upTo, .ref (ad 5), .ref (ad 6), .ref (ad 7), .ref (ad 8), .int md_members, .int md_provedNow]))] H := hP
  have hD : va_D A [((ad 0), .inr (8, [.int 0, .int md_p, .int md_n, .int md_order, .int md_monomials, .ref (ad 1), .ref (ad 2), .int md_generators, .ref (ad 3), .ref (ad 4), .int md_found, .int md_upTo, .ref (ad 5), .ref (ad 6), .ref (ad 7), .ref (ad 8), .int md_members, .int md_provedNow]))] := hD
  refine lv_aload_n hx hb d_md_proved_5 rfl (lv_at hl 0 rfl) ?_
  refine va_get (D := (dC, dI)) (ci := 8) (v := .int md_provedNow) (C := R_md) (T := F_md) (N := 18) hx hb hts in_md hown hK hP 0 rfl rfl 17 (by decide) (hts _ kw_635) (fun _ h9 => h9) rfl d_md_proved_6 ?_
  have hP9 := hP.sub (ws' := [((ad 0), .inr (8, [.int 0, .int md_p, .int md_n, .int md_order, .int md_monomials, .ref (ad 1), .ref (ad 2), .int md_generators, .ref (ad 3), .ref (ad 4), .int md_found, .int md_upTo, .ref (ad 5), .ref (ad 6), .ref (ad 7), .ref (ad 8), .int md_members, .int md_provedNow]))]) [0] rfl
  have hD9 := hD.sub (ws' := [((ad 0), .inr (8, [.int 0, .int md_p, .int md_n, .int md_order, .int md_monomials, .ref (ad 1), .ref (ad 2), .int md_generators, .ref (ad 3), .ref (ad 4), .int md_found, .int md_upTo, .ref (ad 5), .ref (ad 6), .ref (ad 7), .ref (ad 8), .int md_members, .int md_provedNow]))]) [0] (by decide) rfl
  exact W.iret (v := md_provedNow) hx hb hr (fun t ht hW => ⟨⟨md_provedNow, 0, rfl, hv, by rw [ht]; exact hP9, hD9⟩, hS.F ht⟩) hS.2.2 d_md_proved_9
