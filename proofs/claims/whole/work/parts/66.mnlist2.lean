/-! PURE: list: the table is laid -/
theorem tgt_get : ∀ (P : List (Nat × Nat)) (i : Nat) (c : Nat × Nat), P[i]? = some c → tgt P i = c
  | [], i, c, h => by cases h
  | x :: xs, 0, c, h => Option.some.inj h
  | x :: xs, i + 1, c, h => tgt_get xs i c h
theorem aP_tab {A B : Nat → Int32} {P : List (Nat × Nat)} (h : aP A B P) {i : Nat} (hi : i < P.length) : A i = nI (tcd P i) ∧ B i = nI (tdg P i) := by
  have e : P[i]? = some P[i] := List.getElem?_eq_getElem hi
  have := tgt_get P i _ e
  unfold tcd tdg
  rw [this]
  exact h i _ e
set_option maxHeartbeats 1000000 in
theorem s_list {n o H : Nat} {P : List (Nat × Nat)} (T : Tb n o H P.length (tcd P) (tdg P) (tfd P) (tpm P) (tdv P)) (hP : lsT (fun d => lsD n o d 4 0 d 0) (H + 1) = P) (hfd : ∀ d, d < H + 2 → (lsT (fun d => lsD n o d 4 0 d 0) d).length = tfd P d) (hH : vwHi n = nI H) {a b c e : Int32} {codes degs first prods : Nat → Int32}
    {Q : Int32 → Int32 → Int32 → Int32 → (Nat → Int32) → (Nat → Int32) → (Nat → Int32) → (Nat → Int32) → Prop} (hQ : ∀ codes' degs' first' prods', mnOK n H P.length (tcd P) (tdg P) (tfd P) (tpm P) codes' degs' first' prods' → Q (nI n) (nI o) (nI H) (nI P.length) codes' degs' first' prods') :
    vc_mn_list a b c e codes degs first prods (nI n) (nI o) Q := by
  have hN := T.N126
  have hn4 := T.n4
  have hn1 := T.n1
  have ho := T.o1
  have hH30 := T.H30
  refine ⟨pk_in n 5 (by omega), ?_⟩
  rw [nI_clamp (n := n) (by omega), hH]
  rintro h rfl
  refine ⟨fun x cn A B F => ∃ d, d ≤ H + 1 ∧ x = nI d ∧ cn = nI (lsT (fun d => lsD n o d 4 0 d 0) d).length ∧ aP A B (lsT (fun d => lsD n o d 4 0 d 0) d) ∧ ∀ q, q < d → F q = nI (tfd P q), fun x _ _ _ _ => 200 - x.toNatClampNeg, ⟨0, by omega, rfl, rfl, fun i c h => (by cases h), fun q hq => absurd hq (Nat.not_lt_zero q)⟩, ?_⟩
  rintro x cn A B F ⟨d, hd, rfl, rfl, hA, hF⟩
  refine pk_lt H d (fun h2 => ?_) (fun h2 => ?_)
  · obtain rfl : d = H + 1 := by omega
    rw [hP] at hA
    have hl : (lsT (fun d => lsD n o d 4 0 d 0) (H + 1)).length = P.length := by rw [hP]
    rw [hl, nI_1]
    refine ⟨pk_in (H + 1) 32 (by omega), ?_⟩
    rintro F1 hF1
    rw [nI_clamp (n := H + 1) (by omega)] at hF1
    subst hF1
    have hF2 : ∀ q, q ≤ H + 1 → upd F (H + 1) (nI P.length) q = nI (tfd P q) := fun q hq => by
      by_cases e : q = H + 1
      · subst e; rw [pk_us, ← hl, hfd _ (by omega)]
      · rw [pk_un e]; exact hF q (by omega)
    refine ⟨fun x M => ∃ v, v ≤ n ∧ x = nI v ∧ ∀ w i, w < v → i < P.length → M (w * 126 + i) = if tdg P i < H then nI (tpm P w i) else -1, fun x _ => 10 - x.toNatClampNeg, ⟨0, by omega, rfl, fun w i hw => absurd hw (Nat.not_lt_zero w)⟩, ?_⟩
    rintro x M ⟨v, hv, rfl, hM⟩
    refine pk_le n v (fun h3 => ?_) (fun h3 => ?_)
    · exact hQ A B _ M ⟨fun i hi => (aP_tab hA hi).1, fun i hi => (aP_tab hA hi).2, hF2, fun w i hw hi => hM w i (by omega) hi⟩
    · refine ⟨fun x M => ∃ i, i ≤ P.length ∧ x = nI i ∧ (∀ w q, w < v → q < P.length → M (w * 126 + q) = if tdg P q < H then nI (tpm P w q) else -1) ∧ ∀ q, q < i → M (v * 126 + q) = if tdg P q < H then nI (tpm P v q) else -1, fun x _ => 200 - x.toNatClampNeg, ⟨0, by omega, rfl, hM, fun q hq => absurd hq (Nat.not_lt_zero q)⟩, ?_⟩
      clear hM
      rintro x M ⟨i, hi, rfl, hM, hMv⟩
      refine pk_le P.length i (fun h4 => ?_) (fun h4 => ?_)
      · rintro y rfl
        rw [nI_1]
        refine ⟨⟨v + 1, by omega, rfl, fun w q hw hq => ?_⟩, ?_⟩
        · by_cases e : w = v
          · subst e; exact hMv q (by omega)
          · exact hM w q (by omega) hq
        · try dsimp only
          rw [nI_clamp (n := v + 1) (by omega), nI_clamp (n := v) (by omega)]; omega
      · refine ⟨pk_in i 126 (by omega), ?_⟩
        refine s_unit (by omega) ?_
        rw [nI_clamp (n := i) (by omega), (aP_tab hA h4).1, nI_add]
        have hcl := T.cdlt i h4
        have fin : ∀ r : Int32, r = (if tdg P i < H then nI (tpm P v i) else -1) → vp_in (nI v * 126 + nI i) 504 ∧ ∀ M1, M1 = upd M (nI v * 126 + nI i).toNatClampNeg r → ∀ y, y = nI i + 1 → (∃ i, i ≤ P.length ∧ y = nI i ∧ (∀ w q, w < v → q < P.length → M1 (w * 126 + q) = if tdg P q < H then nI (tpm P w q) else -1) ∧ ∀ q, q < i → M1 (v * 126 + q) = if tdg P q < H then nI (tpm P v q) else -1) ∧ 200 - y.toNatClampNeg < 200 - (nI i).toNatClampNeg := by
          rintro r rfl
          rw [show (126 : Int32) = nI 126 from rfl, pk_mul, nI_add]
          refine ⟨pk_in (v * 126 + i) 504 (by omega), ?_⟩
          rintro M1 rfl y rfl
          rw [nI_clamp (n := v * 126 + i) (by omega), nI_1, nI_clamp (n := i + 1) (by omega), nI_clamp (n := i) (by omega)]
          refine ⟨⟨i + 1, by omega, rfl, fun w q hw hq => ?_, fun q hq => ?_⟩, by omega⟩
          · rw [pk_un (by omega)]; exact hM w q hw hq
          · by_cases e : q = i
            · subst e; exact pk_us
            · rw [pk_un (by omega)]; exact hMv q (by omega)
        refine s_placeOf T (fun i hi => (aP_tab hA hi).1) hF2 (fun j hj he => fin _ ?_) (fun hno => fin _ ?_)
        · have hj2 := T.cdlt j hj
          have hU : tbU v ≤ 16777216 := by
            unfold tbU
            exact Nat.pow_le_pow_right (by decide) (Nat.sub_le 24 _)
          have e2 : (nI (tcd P i + tbU v)).toBitVec.toNat = (nI (tcd P j)).toBitVec.toNat := by rw [he]
          rw [pk_tn (by omega), pk_tn (by omega)] at e2
          by_cases c : tdg P i < H
          · rw [if_pos c]
            have h5 := T.pmN v i h3 h4 c
            rw [T.cdinj j (tpm P v i) hj h5.1 (by rw [h5.2.1]; exact e2.symm)]
          · exact absurd e2.symm (T.pmno v i h3 h4 c j hj)
        · by_cases c : tdg P i < H
          · have h5 := T.pmN v i h3 h4 c
            exact absurd (by rw [h5.2.1]) (hno _ h5.1)
          · rw [if_neg c]
  · refine ⟨pk_in d 32 (by omega), ?_⟩
    rintro F1 hF1
    rw [nI_clamp (n := d) (by omega)] at hF1
    subst hF1
    have hlen := lsT_le (fun d => lsD n o d 4 0 d 0) (j := d + 1) (H + 1) (by omega)
    rw [hP] at hlen
    refine s_listDegree hn4 ho 4 0 d 0 _ A B (by omega) (by omega) (by omega) hA (by show (lsT (fun d => lsD n o d 4 0 d 0) (d + 1)).length ≤ 126; omega) (fun A1 B1 hA1 => ?_)
    rintro y rfl
    rw [nI_1]
    refine ⟨⟨d + 1, by omega, rfl, rfl, hA1, fun q hq => ?_⟩, ?_⟩
    · by_cases e : q = d
      · subst e; rw [pk_us, hfd _ (by omega)]
      · rw [pk_un e]; exact hF q (by omega)
    · try dsimp only
      rw [nI_clamp (n := d + 1) (by omega), nI_clamp (n := d) (by omega)]; omega
