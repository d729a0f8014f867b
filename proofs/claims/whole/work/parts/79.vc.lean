/-! PURE: the law's condition for every call list -/
theorem p7 : fe_P 7 := by
  refine ⟨by omega, fun d h1 h2 h => ?_⟩
  have : d = 2 ∨ d = 3 ∨ d = 4 ∨ d = 5 ∨ d = 6 := by omega
  rcases this with rfl | rfl | rfl | rfl | rfl <;> revert h <;> decide
set_option maxHeartbeats 1000000 in
theorem whole_vc (L : Nat) (xs : Nat → Int32) : vc_law L xs := by
  unfold vc_law vc_x_init vc_x_beginField
  refine s_list (n := 2) (o := 0) (H := 12) (P := tl20) cf20.T cf20.2.1 cf20.2.2.1 cf20.2.2.2.1 (fun codes' degs' first' prods' hM' => ?_)
  refine s_fill (by omega) _ _ (fun B hB0 _ => ?_)
  dsimp only [vc_sp_forget]
  unfold vc_md_init
  refine cf20.2.2.2.2.2 _ _ _ _ _ _ _ _ _ _ _ _ _ _ _ (fun mono' dga' hand' hfr => ?_)
  refine ⟨fun _ => lwI, ?_, ?_⟩
  · exact ⟨7, ⟨by omega⟩, 2, 0, 12, tl20, fun _ => 0, 0, fun _ _ => 0, fun _ => 0, 0, ⟨p7, by omega, cf20, rfl, rfl, rfl, rfl, rfl, hM', rfl, rfl, rfl, rfl, fun i hi => (hfr i hi).1, fun i hi => (hfr i hi).2.1⟩, ⟨fun i hi => ⟨hB0 i hi, show 0 < 7 by decide⟩, fun _ _ => rfl, fun i hi => (hfr i hi).2.2⟩, ⟨rfl, rfl, ⟨by omega, fun g hg => absurd hg (Nat.not_lt_zero g)⟩, ⟨by omega, fun g hg => absurd hg (Nat.not_lt_zero g)⟩⟩, Or.inl ⟨rfl, rfl⟩, rfl, rfl, by omega⟩
  · intro i _ _ _ _ _ _ _ _ _ _ _ _ _ _ _ _ _ _ _ _ _ _ _ _ _ _ _ _ _ _ _ _ _ _ _ _ _ _ _ _ _ _ _ _ _ _ _ _ _ _ _ _ _ _ hI
    exact ⟨fun _ => lw_c0 hI (fun h => h), fun _ => lw_c1 hI (fun h => h), fun _ => lw_c2 hI (fun h => h), fun _ => lw_c3 hI (fun h => h), fun _ => lw_c4 hI (fun h => h), fun _ => lw_c5 hI (fun h => h), fun _ => lw_c6 hI (fun h => h), fun _ => lw_c7 hI (fun h => h), fun _ => lw_c8 hI (fun h => h), fun _ => lw_c9 hI (fun h => h), fun _ => lw_c10 hI (fun h => h), fun _ => lw_c11 hI (fun h => h), fun _ _ _ _ _ _ _ _ _ _ _ _ => hI⟩
