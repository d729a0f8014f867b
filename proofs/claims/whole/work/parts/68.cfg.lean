/-! PURE: the eight settings -/
def Cfg (n o H : Nat) (P : List (Nat × Nat)) : Prop :=
  Tb n o H P.length (tcd P) (tdg P) (tfd P) (tpm P) (tdv P) ∧ lsT (fun d => lsD n o d 4 0 d 0) (H + 1) = P ∧ (∀ d, d < H + 2 → (lsT (fun d => lsD n o d 4 0 d 0) d).length = tfd P d) ∧ vwHi n = nI H ∧
  (∀ Q : Int32 → Prop, Q (nI H) → vc_md_highest (nI n) Q) ∧
  ∀ (c0 c1 c2 c3 c4 c5 c6 c7 c8 c9 np : Int32) (mono dga hand : Nat → Int32) (Q : Int32 → Int32 → Int32 → Int32 → Int32 → Int32 → (Nat → Int32) → (Nat → Int32) → (Nat → Int32) → Prop),
    (∀ mono' dga' hand' : Nat → Int32, (∀ i, i < P.length → mono' i = nI (tcd P i) ∧ dga' i = nI (tdg P i) ∧ hand' i = 0) → Q np (nI n) (nI o) (nI P.length) 0 0 mono' dga' hand') → vc_md_fresh c0 c1 c2 c3 c4 c5 c6 c7 c8 c9 mono dga hand np (nI n) (nI o) Q
theorem fr_tab {n o H : Nat} {P : List (Nat × Nat)} (T : Tb n o H P.length (tcd P) (tdg P) (tfd P) (tpm P) (tdv P)) {L : List Nat} (hL : L.reverse = P.map Prod.fst) {mono dga hand : Nat → Int32} (h1 : rA mono L) (h2 : ∀ i c, i < L.length → mono i = nI c → c < 2147483648 → dga i = nI (tbS c 4)) (h3 : ∀ i, i < L.length → hand i = 0) : ∀ i, i < P.length → mono i = nI (tcd P i) ∧ dga i = nI (tdg P i) ∧ hand i = 0 := by
  have hl : L.length = P.length := by rw [← List.length_reverse, hL, List.length_map]
  intro i hi
  have e1 : P[i]? = some P[i] := List.getElem?_eq_getElem hi
  have e2 : (P.map Prod.fst)[i]? = some (tcd P i) := by
    rw [List.getElem?_map, e1]
    show some (P[i]).1 = _
    unfold tcd
    rw [tgt_get P i _ e1]
  rw [← hL, List.getElem?_reverse (by omega)] at e2
  have h5 := h1 _ _ e2
  rw [show L.length - 1 - (L.length - 1 - i) = i by omega] at h5
  refine ⟨h5.1, ?_, h3 i (by omega)⟩
  rw [h2 i _ (by omega) h5.1 h5.2, T.dgs i hi, ← tbS_4]
theorem fl10 : (frL 0 30 0 0 0).reverse = tl10.map Prod.fst := by decide +kernel
theorem cf10 : Cfg 1 0 30 tl10 := by
  have T : Tb 1 0 30 tl10.length (tcd tl10) (tdg tl10) (tfd tl10) (tpm tl10) (tdv tl10) := tb_of (by decide) (by decide) (by decide) (by decide) (by decide +kernel) (by decide +kernel) ck10
  refine ⟨T, by decide +kernel, by decide +kernel, by decide, fun Q hQ => ⟨fun q => absurd rfl q, fun _ => hQ⟩, fun c0 c1 c2 c3 c4 c5 c6 c7 c8 c9 np mono dga hand Q hQ => ?_⟩
  have hl : (frL 0 30 0 0 0).length = tl10.length := by rw [← List.length_reverse, fl10, List.length_map]
  refine s_md_fresh1 (by decide) (by rw [hl]; exact T.N126) (fun m d h h1 h2 h3 => ?_)
  rw [hl]
  exact hQ m d h (fr_tab T fl10 h1 h2 h3)
theorem fl11 : (frL 1 30 0 0 0).reverse = tl11.map Prod.fst := by decide +kernel
theorem cf11 : Cfg 1 1 30 tl11 := by
  have T : Tb 1 1 30 tl11.length (tcd tl11) (tdg tl11) (tfd tl11) (tpm tl11) (tdv tl11) := tb_of (by decide) (by decide) (by decide) (by decide) (by decide +kernel) (by decide +kernel) ck11
  refine ⟨T, by decide +kernel, by decide +kernel, by decide, fun Q hQ => ⟨fun q => absurd rfl q, fun _ => hQ⟩, fun c0 c1 c2 c3 c4 c5 c6 c7 c8 c9 np mono dga hand Q hQ => ?_⟩
  have hl : (frL 1 30 0 0 0).length = tl11.length := by rw [← List.length_reverse, fl11, List.length_map]
  refine s_md_fresh1 (by decide) (by rw [hl]; exact T.N126) (fun m d h h1 h2 h3 => ?_)
  rw [hl]
  exact hQ m d h (fr_tab T fl11 h1 h2 h3)
theorem fl20 : (frL 0 12 12 0 0).reverse = tl20.map Prod.fst := by decide +kernel
theorem cf20 : Cfg 2 0 12 tl20 := by
  have T : Tb 2 0 12 tl20.length (tcd tl20) (tdg tl20) (tfd tl20) (tpm tl20) (tdv tl20) := tb_of (by decide) (by decide) (by decide) (by decide) (by decide +kernel) (by decide +kernel) ck20
  refine ⟨T, by decide +kernel, by decide +kernel, by decide, fun Q hQ => ⟨fun _ => ⟨fun q => absurd rfl q, fun _ => hQ⟩, fun q => absurd q (by decide)⟩, fun c0 c1 c2 c3 c4 c5 c6 c7 c8 c9 np mono dga hand Q hQ => ?_⟩
  have hl : (frL 0 12 12 0 0).length = tl20.length := by rw [← List.length_reverse, fl20, List.length_map]
  refine s_md_fresh2 (by decide) (by rw [hl]; exact T.N126) (fun m d h h1 h2 h3 => ?_)
  rw [hl]
  exact hQ m d h (fr_tab T fl20 h1 h2 h3)
theorem fl21 : (frL 1 12 12 0 0).reverse = tl21.map Prod.fst := by decide +kernel
theorem cf21 : Cfg 2 1 12 tl21 := by
  have T : Tb 2 1 12 tl21.length (tcd tl21) (tdg tl21) (tfd tl21) (tpm tl21) (tdv tl21) := tb_of (by decide) (by decide) (by decide) (by decide) (by decide +kernel) (by decide +kernel) ck21
  refine ⟨T, by decide +kernel, by decide +kernel, by decide, fun Q hQ => ⟨fun _ => ⟨fun q => absurd rfl q, fun _ => hQ⟩, fun q => absurd q (by decide)⟩, fun c0 c1 c2 c3 c4 c5 c6 c7 c8 c9 np mono dga hand Q hQ => ?_⟩
  have hl : (frL 1 12 12 0 0).length = tl21.length := by rw [← List.length_reverse, fl21, List.length_map]
  refine s_md_fresh2 (by decide) (by rw [hl]; exact T.N126) (fun m d h h1 h2 h3 => ?_)
  rw [hl]
  exact hQ m d h (fr_tab T fl21 h1 h2 h3)
theorem fl30 : (frL 0 7 7 7 0).reverse = tl30.map Prod.fst := by decide +kernel
theorem cf30 : Cfg 3 0 7 tl30 := by
  have T : Tb 3 0 7 tl30.length (tcd tl30) (tdg tl30) (tfd tl30) (tpm tl30) (tdv tl30) := tb_of (by decide) (by decide) (by decide) (by decide) (by decide +kernel) (by decide +kernel) ck30
  refine ⟨T, by decide +kernel, by decide +kernel, by decide, fun Q hQ => ⟨fun _ => ⟨fun _ => ⟨fun q => absurd rfl q, fun _ => hQ⟩, fun q => absurd q (by decide)⟩, fun q => absurd q (by decide)⟩, fun c0 c1 c2 c3 c4 c5 c6 c7 c8 c9 np mono dga hand Q hQ => ?_⟩
  have hl : (frL 0 7 7 7 0).length = tl30.length := by rw [← List.length_reverse, fl30, List.length_map]
  refine s_md_fresh3 (by decide) (by rw [hl]; exact T.N126) (fun m d h h1 h2 h3 => ?_)
  rw [hl]
  exact hQ m d h (fr_tab T fl30 h1 h2 h3)
theorem fl31 : (frL 1 7 7 7 0).reverse = tl31.map Prod.fst := by decide +kernel
theorem cf31 : Cfg 3 1 7 tl31 := by
  have T : Tb 3 1 7 tl31.length (tcd tl31) (tdg tl31) (tfd tl31) (tpm tl31) (tdv tl31) := tb_of (by decide) (by decide) (by decide) (by decide) (by decide +kernel) (by decide +kernel) ck31
  refine ⟨T, by decide +kernel, by decide +kernel, by decide, fun Q hQ => ⟨fun _ => ⟨fun _ => ⟨fun q => absurd rfl q, fun _ => hQ⟩, fun q => absurd q (by decide)⟩, fun q => absurd q (by decide)⟩, fun c0 c1 c2 c3 c4 c5 c6 c7 c8 c9 np mono dga hand Q hQ => ?_⟩
  have hl : (frL 1 7 7 7 0).length = tl31.length := by rw [← List.length_reverse, fl31, List.length_map]
  refine s_md_fresh3 (by decide) (by rw [hl]; exact T.N126) (fun m d h h1 h2 h3 => ?_)
  rw [hl]
  exact hQ m d h (fr_tab T fl31 h1 h2 h3)
theorem fl40 : (frL 0 5 5 5 5).reverse = tl40.map Prod.fst := by decide +kernel
theorem cf40 : Cfg 4 0 5 tl40 := by
  have T : Tb 4 0 5 tl40.length (tcd tl40) (tdg tl40) (tfd tl40) (tpm tl40) (tdv tl40) := tb_of (by decide) (by decide) (by decide) (by decide) (by decide +kernel) (by decide +kernel) ck40
  refine ⟨T, by decide +kernel, by decide +kernel, by decide, fun Q hQ => ⟨fun _ => ⟨fun _ => ⟨fun _ => hQ, fun q => absurd q (by decide)⟩, fun q => absurd q (by decide)⟩, fun q => absurd q (by decide)⟩, fun c0 c1 c2 c3 c4 c5 c6 c7 c8 c9 np mono dga hand Q hQ => ?_⟩
  have hl : (frL 0 5 5 5 5).length = tl40.length := by rw [← List.length_reverse, fl40, List.length_map]
  refine s_md_fresh4 (by decide) (by rw [hl]; exact T.N126) (fun m d h h1 h2 h3 => ?_)
  rw [hl]
  exact hQ m d h (fr_tab T fl40 h1 h2 h3)
theorem fl41 : (frL 1 5 5 5 5).reverse = tl41.map Prod.fst := by decide +kernel
theorem cf41 : Cfg 4 1 5 tl41 := by
  have T : Tb 4 1 5 tl41.length (tcd tl41) (tdg tl41) (tfd tl41) (tpm tl41) (tdv tl41) := tb_of (by decide) (by decide) (by decide) (by decide) (by decide +kernel) (by decide +kernel) ck41
  refine ⟨T, by decide +kernel, by decide +kernel, by decide, fun Q hQ => ⟨fun _ => ⟨fun _ => ⟨fun _ => hQ, fun q => absurd q (by decide)⟩, fun q => absurd q (by decide)⟩, fun q => absurd q (by decide)⟩, fun c0 c1 c2 c3 c4 c5 c6 c7 c8 c9 np mono dga hand Q hQ => ?_⟩
  have hl : (frL 1 5 5 5 5).length = tl41.length := by rw [← List.length_reverse, fl41, List.length_map]
  refine s_md_fresh4 (by decide) (by rw [hl]; exact T.N126) (fun m d h h1 h2 h3 => ?_)
  rw [hl]
  exact hQ m d h (fr_tab T fl41 h1 h2 h3)
theorem cfg_all {n o : Nat} (h1 : 1 ≤ n) (h4 : n ≤ 4) (ho : o ≤ 1) : ∃ H P, Cfg n o H P := by
  have hn : n = 1 ∨ n = 2 ∨ n = 3 ∨ n = 4 := by omega
  have ho2 : o = 0 ∨ o = 1 := by omega
  rcases hn with rfl | rfl | rfl | rfl <;> rcases ho2 with rfl | rfl
  · exact ⟨_, _, cf10⟩
  · exact ⟨_, _, cf11⟩
  · exact ⟨_, _, cf20⟩
  · exact ⟨_, _, cf21⟩
  · exact ⟨_, _, cf30⟩
  · exact ⟨_, _, cf31⟩
  · exact ⟨_, _, cf40⟩
  · exact ⟨_, _, cf41⟩
