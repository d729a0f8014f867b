/-! PURE: numbers modulo p, as elements of Fin p -/
theorem en_val {p : Nat} [NeZero p] (x : Nat) : (Fin.ofNat p x).val = x % p := rfl
theorem en_add {p : Nat} [NeZero p] (x y : Nat) : Fin.ofNat p (x + y) = Fin.ofNat p x + Fin.ofNat p y := by
  apply Fin.ext
  rw [Fin.val_add, en_val, en_val, en_val, ← Nat.add_mod]
theorem en_mul {p : Nat} [NeZero p] (x y : Nat) : Fin.ofNat p (x * y) = Fin.ofNat p x * Fin.ofNat p y := by
  apply Fin.ext
  rw [Fin.val_mul, en_val, en_val, en_val, ← Nat.mul_mod]
theorem en_mod {p : Nat} [NeZero p] (x : Nat) : Fin.ofNat p (x % p) = Fin.ofNat p x := by
  apply Fin.ext
  rw [en_val, en_val, Nat.mod_mod]
theorem en_inj {p : Nat} [NeZero p] {x y : Nat} (hx : x < p) (hy : y < p) (h : Fin.ofNat p x = Fin.ofNat p y) : x = y := by
  have := congrArg Fin.val h
  rw [en_val, en_val, Nat.mod_eq_of_lt hx, Nat.mod_eq_of_lt hy] at this
  exact this
theorem en_0 {p : Nat} [NeZero p] : Fin.ofNat p 0 = (0 : Fin p) := rfl
theorem en_zero {p : Nat} [NeZero p] {x : Nat} (hx : x < p) : Fin.ofNat p x = 0 ↔ x = 0 := by
  refine ⟨fun h => en_inj hx (by omega) (h.trans en_0.symm), fun h => by rw [h]; rfl⟩
theorem en_self {p : Nat} [NeZero p] : Fin.ofNat p p = (0 : Fin p) := by
  apply Fin.ext
  rw [en_val, Nat.mod_self]
  rfl
theorem en_opp {p : Nat} [NeZero p] {x : Nat} (hx : x ≤ p) : Fin.ofNat p ((p - x) % p) = - Fin.ofNat p x := by
  rw [en_mod]
  have h : Fin.ofNat p (p - x) + Fin.ofNat p x = 0 := by rw [← en_add, Nat.sub_add_cancel hx, en_self]
  grind
theorem en_1 {p : Nat} [NeZero p] : Fin.ofNat p 1 = (1 : Fin p) := rfl
/-- a row is added to a polynomial, so many times -/
theorem s_addRow {p n ld r w : Nat} {A coef leads : Nat → Int32} {dg sz ct : Int32} (hp : 0 < p) (hpm : p ≤ 32003) (hr : r < 126) (hld : leads r = nI ld) (hl : ld < 126) (hn : ld < n) (hn31 : n < 2 ^ 31) {cf a : Nat → Nat} (hcf : ∀ i, i ≤ ld → coef (ld * (ld + 1) / 2 + i) = nI (cf i) ∧ cf i < p) (hw : w < p) (hA : ∀ i, i ≤ ld → A i = nI (a i) ∧ a i < p)
    {Q : (Nat → Int32) → Prop} (hQ : ∀ B : Nat → Int32, (∀ i, i ≤ ld → B i = nI ((a i + w * cf i) % p)) → (∀ i, ld < i → B i = A i) → Q B) : vc_sp_addRow n A (nI p) dg sz ct coef leads (nI r) (nI w) Q := by
  refine ⟨vp_in_nI hr (by omega), ?_⟩
  intro x hx
  rw [nI_clamp (by omega), hld] at hx
  subst hx
  refine s_startOfLine (by omega) ?_
  have hst : ld * (ld + 1) / 2 ≤ 125 * 126 / 2 := Nat.div_le_div_right (Nat.mul_le_mul (by omega) (by omega))
  generalize hS : ld * (ld + 1) / 2 = S at *
  refine ⟨fun x B => ∃ k : Nat, k ≤ ld + 1 ∧ x = nI k ∧ (∀ i, i < k → B i = nI ((a i + w * cf i) % p)) ∧ ∀ i, k ≤ i → B i = A i, fun x _ => ld + 1 - x.toNatClampNeg, ⟨0, by omega, rfl, fun i h => absurd h (Nat.not_lt_zero i), fun _ _ => rfl⟩, ?_⟩
  rintro x B ⟨k, hk, rfl, h1, h2⟩
  refine ⟨fun h => ?_, fun h => ?_⟩
  · have : ld < k := (nI_ltI (by omega) (by omega)).mp h
    obtain rfl : k = ld + 1 := by omega
    exact hQ B (fun i hi => h1 i (by omega)) (fun i hi => h2 i (by omega))
  · have hkl : k ≤ ld := by
      rcases Nat.lt_or_ge ld k with q | q
      · exact absurd ((nI_ltI (by omega) (by omega)).mpr q) h
      · exact q
    rw [nI_add]
    refine ⟨vp_in_nI (by omega) (by omega), ?_⟩
    intro y hy
    rw [nI_clamp (by omega), (hcf k hkl).1] at hy
    subst hy
    have hcp := (hcf k hkl).2
    have hap := (hA k hkl).2
    refine ⟨fun hz => ?_, fun hz => ⟨vp_in_nI (by omega) hn31, nI_ne0 hp (by omega), vp_in_nI (by omega) hn31, ?_⟩⟩
    · rintro z rfl
      have h0 : cf k = 0 := by
        rcases Nat.eq_zero_or_pos (cf k) with q | q
        · exact q
        · exact absurd hz (nI_ne0 q (by omega))
      rw [nI_1]
      dsimp only
      rw [nI_clamp (n := k + 1) (by omega), nI_clamp (n := k) (by omega)]
      refine ⟨⟨k + 1, by omega, rfl, fun i hi => ?_, fun i hi => h2 i (by omega)⟩, by omega⟩
      by_cases e : i = k
      · subst e
        rw [h2 i (Nat.le_refl i), (hA i hkl).1, h0, Nat.mul_zero, Nat.add_zero, Nat.mod_eq_of_lt hap]
      · exact h1 i (by omega)
    · rintro C rfl z rfl
      have hwc : w * cf k ≤ 32002 * 32002 := Nat.mul_le_mul (by omega) (by omega)
      rw [nI_clamp (n := k) (by omega), h2 k (Nat.le_refl k), (hA k hkl).1, pk_mul, nI_add, pk_rem (by omega) hp (by omega), nI_1]
      dsimp only
      rw [nI_clamp (n := k + 1) (by omega), nI_clamp (n := k) (by omega)]
      refine ⟨⟨k + 1, by omega, rfl, fun i hi => ?_, fun i hi => ?_⟩, by omega⟩
      · by_cases e : i = k
        · subst e; exact pk_us
        · rw [pk_un e]; exact h1 i (by omega)
      · rw [pk_un (by omega)]; exact h2 i (by omega)
/-- whether a place is a leading one -/
theorem s_isLead {k sz : Nat} {rol : Nat → Int32} {dg ct : Int32} (hk : k < 126) (hsz : sz ≤ 126) {Q : Int32 → Prop} (h1 : k < sz → ¬ rol k = -1 → Q 1) (h0 : (k < sz → rol k = -1) → Q 0) : vc_sp_isLead dg (nI sz) ct rol (nI k) Q := by
  refine ⟨fun h => absurd h (nI_pos (by omega)), fun _ => ⟨fun h => ?_, fun h => ⟨vp_in_nI hk (by omega), ?_⟩⟩⟩
  · have : sz ≤ k := (nI_leI (by omega) (by omega)).mp h
    exact h0 (fun q => absurd q (by omega))
  · have hks : k < sz := by
      rcases Nat.lt_or_ge k sz with q | q
      · exact q
      · exact absurd ((nI_leI (by omega) (by omega)).mpr q) h
    rw [nI_clamp (by omega)]
    exact ⟨fun hz => h0 (fun _ => hz), fun hz => h1 hks hz⟩
theorem s_isLead_none {sz ct dg : Int32} {rol : Nat → Int32} {Q : Int32 → Prop} (h0 : Q 0) : vc_sp_isLead dg sz ct rol (-1) Q :=
  ⟨fun _ => h0, fun h => absurd (by decide) h⟩
