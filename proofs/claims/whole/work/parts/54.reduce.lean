/-! PURE: the rows of the space, and what reduce does -/
theorem la_sm_upd {F : Type} [Lean.Grind.CommRing F] {g h : Nat → F} {n k : Nat} {d : F} (hk : k < n) (H : ∀ j, j < n → j ≠ k → h j = g j) (hd : h k = g k + d) : la_sm h n = la_sm g n + d := by
  induction n with
  | zero => exact absurd hk (Nat.not_lt_zero k)
  | succ n ih =>
    rw [la_sm_s, la_sm_s]
    by_cases e : k = n
    · subst e
      rw [la_sm_congr (fun j hj => H j (Nat.lt_succ_of_lt hj) (by omega)), hd]
      grind
    · rw [ih (by omega) (fun j hj hn => H j (Nat.lt_succ_of_lt hj) hn), H n (Nat.lt_succ_self n) (by omega)]
      grind
/-- the arrays of the space hold ct rows R with leading places ld, all below sz -/
def spOK (p sz ct : Nat) (coef leads rol : Nat → Int32) (R : Nat → Nat → Nat) (ld : Nat → Nat) : Prop :=
  sz ≤ 126 ∧ ct ≤ 126 ∧ (∀ r, r < ct → leads r = nI (ld r) ∧ ld r < sz ∧ rol (ld r) = nI r ∧ R r (ld r) = 1) ∧ (∀ i, i < 126 → (∀ r, r < ct → ld r ≠ i) → rol i = -1) ∧
  (∀ r, r < ct → ∀ i, i ≤ ld r → coef (ld r * (ld r + 1) / 2 + i) = nI (R r i) ∧ R r i < p) ∧ (∀ r, r < ct → ∀ i, ld r < i → R r i = 0)
theorem spOK_inj {p sz ct : Nat} {coef leads rol : Nat → Int32} {R : Nat → Nat → Nat} {ld : Nat → Nat} (h : spOK p sz ct coef leads rol R ld) {r t : Nat} (hr : r < ct) (ht : t < ct) (e : ld r = ld t) : r = t := by
  have h1 := (h.2.2.1 r hr).2.2.1
  have h2 := (h.2.2.1 t ht).2.2.1
  have hc := h.2.1
  rw [e, h2] at h1
  exact ((nI_eq (by omega) (by omega)).mp h1).symm
theorem spOK_lead {p sz ct : Nat} {coef leads rol : Nat → Int32} {R : Nat → Nat → Nat} {ld : Nat → Nat} (h : spOK p sz ct coef leads rol R ld) {j : Nat} (hj : j < 126) (hn : ¬ rol j = -1) : ∃ r, r < ct ∧ ld r = j := by
  by_cases q : ∃ r, r < ct ∧ ld r = j
  · exact q
  · exact absurd (h.2.2.2.1 j hj (fun r hr e => q ⟨r, hr, e⟩)) hn
set_option maxHeartbeats 1000000 in
theorem s_reduce {p n w m sz ct : Nat} [NeZero p] {A coef leads rol taken : Nat → Int32} {dg cti : Int32} {R : Nat → Nat → Nat} {ld : Nat → Nat} (hp : 2 ≤ p) (hpm : p ≤ 32003) (hS : spOK p sz ct coef leads rol R ld) (hm : m ≤ w) (hw : w ≤ n) (hn : n ≤ 126) {a : Nat → Nat} (hA : ∀ i, i < w → A i = nI (a i) ∧ a i < p)
    {Q : (Nat → Int32) → (Nat → Int32) → Prop}
    (hQ : ∀ (B tk : Nat → Int32) (b t : Nat → Nat), (∀ i, i < w → B i = nI (b i) ∧ b i < p) → (∀ i, w ≤ i → B i = A i) → (∀ r, r < 126 → tk r = nI (t r) ∧ t r < p) → (∀ r, ct ≤ r → t r = 0) → (∀ r, r < ct → m ≤ ld r → t r = 0) → (∀ i, m ≤ i → i < w → b i = a i) → (∀ r, r < ct → ld r < m → b (ld r) = 0) →
      (∀ i, i < w → Fin.ofNat p (b i) + la_sm (fun r => Fin.ofNat p (t r) * Fin.ofNat p (R r i)) ct = Fin.ofNat p (a i)) → Q B tk) :
    vc_sp_reduce n A (nI p) dg (nI sz) cti coef leads rol taken (nI m - 1) Q := by
  refine s_fill (by omega) _ _ (fun T0 hT0 _ => ?_)
  refine ⟨fun x B T => ∃ (k : Nat) (b t : Nat → Nat), k ≤ m ∧ x = nI k - 1 ∧ (∀ i, i < w → B i = nI (b i) ∧ b i < p) ∧ (∀ i, w ≤ i → B i = A i) ∧ (∀ r, r < 126 → T r = nI (t r) ∧ t r < p) ∧ (∀ r, ct ≤ r → t r = 0) ∧ (∀ r, r < ct → (ld r < k ∨ m ≤ ld r) → t r = 0) ∧ (∀ i, m ≤ i → i < w → b i = a i) ∧ (∀ r, r < ct → k ≤ ld r → ld r < m → b (ld r) = 0) ∧
      (∀ i, i < w → Fin.ofNat p (b i) + la_sm (fun r => Fin.ofNat p (t r) * Fin.ofNat p (R r i)) ct = Fin.ofNat p (a i)), fun x _ _ => (x + 1).toNatClampNeg, ?_, ?_⟩
  · refine ⟨m, a, fun _ => 0, Nat.le_refl m, rfl, hA, fun _ _ => rfl, fun r hr => ⟨hT0 r hr, by show 0 < p; omega⟩, fun _ _ => rfl, fun _ _ _ => rfl, fun _ _ _ => rfl, fun r _ h1 h2 => by omega, fun i _ => ?_⟩
    rw [la_sm_zero (fun j _ => by rw [en_0]; grind)]
    grind
  rintro x B T ⟨k, b, t, hk, rfl, hB, hBo, hT, hto, htz, hbo, hbz, hlin⟩
  refine ⟨fun h => ?_, fun h => ?_⟩
  · have h0 : k = 0 := by
      rw [Int32.lt_iff_toInt_lt, pn_pred (by omega), Int32.toInt_zero] at h
      omega
    subst h0
    exact hQ B T b t hB hBo hT hto (fun r hr h => htz r hr (Or.inr h)) hbo (fun r hr h => hbz r hr (Nat.zero_le _) h) hlin
  · have h0 : 0 < k := by
      rcases Nat.eq_zero_or_pos k with q | q
      · subst q; exact absurd (by decide) h
      · exact q
    obtain ⟨j, rfl⟩ : ∃ j, k = j + 1 := ⟨k - 1, by omega⟩
    rw [pn_pred_s, nI_clamp (by omega)]
    refine ⟨vp_in_nI (by omega) (by omega), ?_⟩
    intro c hc
    rw [(hB j (by omega)).1] at hc
    subst hc
    have hbp := (hB j (by omega)).2
    have e1 : nI j + -1 = nI j - 1 := by rw [Int32.sub_eq_add_neg]
    have e2 : nI j + -1 + 1 = nI j := by rw [Int32.add_assoc]; exact Int32.add_zero _
    have hmu : ((nI j + -1) + 1).toNatClampNeg < (nI j + 1).toNatClampNeg := by
      rw [e2, nI_1, nI_clamp (n := j) (by omega), nI_clamp (n := j + 1) (by omega)]
      omega
    have go : (∀ r, r < ct → ld r = j → b j = 0) → ∃ (k : Nat) (b t : Nat → Nat), k ≤ m ∧ nI j + -1 = nI k - 1 ∧ (∀ i, i < w → B i = nI (b i) ∧ b i < p) ∧ (∀ i, w ≤ i → B i = A i) ∧ (∀ r, r < 126 → T r = nI (t r) ∧ t r < p) ∧ (∀ r, ct ≤ r → t r = 0) ∧ (∀ r, r < ct → (ld r < k ∨ m ≤ ld r) → t r = 0) ∧ (∀ i, m ≤ i → i < w → b i = a i) ∧ (∀ r, r < ct → k ≤ ld r → ld r < m → b (ld r) = 0) ∧
        (∀ i, i < w → Fin.ofNat p (b i) + la_sm (fun r => Fin.ofNat p (t r) * Fin.ofNat p (R r i)) ct = Fin.ofNat p (a i)) := fun hz =>
      ⟨j, b, t, by omega, e1, hB, hBo, hT, hto, fun r hr q => htz r hr (by omega), hbo, fun r hr q1 q2 => by
        by_cases e : ld r = j
        · rw [e]; exact hz r hr e
        · exact hbz r hr (by omega) q2, hlin⟩
    refine ⟨fun hz => ?_, fun hz => ?_⟩
    · rintro y rfl
      have hb0 : b j = 0 := by
        rcases Nat.eq_zero_or_pos (b j) with q | q
        · exact q
        · exact absurd hz (nI_ne0 q (by omega))
      exact ⟨go (fun _ _ _ => hb0), hmu⟩
    · have hbpos : 0 < b j := by
        rcases Nat.eq_zero_or_pos (b j) with q | q
        · rw [q] at hz; exact absurd rfl hz
        · exact q
      refine s_isLead (by omega) hS.1 (fun hjs hrol => ?_) (fun hno => ?_)
      · obtain ⟨r, hr, rfl⟩ := spOK_lead hS (by omega) hrol
        obtain ⟨hld, hls, hrl, hR1⟩ := hS.2.2.1 r hr
        have hct := hS.2.1
        refine ⟨fun q => absurd q (by decide), fun _ => ⟨vp_in_nI (by omega) (by omega), ?_⟩⟩
        rw [hrl]
        refine ⟨vp_in_nI (by omega) (by omega), ?_⟩
        rintro T1 rfl
        refine ⟨vp_in_nI (by omega) (by omega), ?_⟩
        refine s_opposite hpm hbp ?_
        have hwp : (p - b (ld r)) % p < p := Nat.mod_lt _ (by omega)
        refine s_addRow (ld := ld r) (by omega) hpm (by omega) hld (by omega) (by omega) (by omega) (cf := R r) (a := b) (hS.2.2.2.2.1 r hr) hwp (fun i hi => hB i (by omega)) (fun B1 hB1 hB1o => ?_)
        rintro y rfl
        rw [nI_clamp (by omega)]
        refine ⟨⟨ld r, fun i => if i ≤ ld r then (b i + (p - b (ld r)) % p * R r i) % p else b i, fun q => if q = r then b (ld r) else t q, by omega, e1, fun i hi => ?_, fun i hi => ?_, fun q hq => ?_, fun q hq => ?_, fun q hq hq2 => ?_, fun i h1 h2 => ?_, fun q hq h1 h2 => ?_, fun i hi => ?_⟩, hmu⟩
        · by_cases e : i ≤ ld r
          · dsimp only; rw [if_pos e]; exact ⟨hB1 i e, Nat.mod_lt _ (by omega)⟩
          · dsimp only; rw [if_neg e, hB1o i (by omega)]; exact hB i hi
        · rw [hB1o i (by omega)]; exact hBo i hi
        · by_cases e : q = r
          · subst e; dsimp only; rw [if_pos rfl]; exact ⟨pk_us, hbp⟩
          · dsimp only; rw [if_neg e, pk_un e]; exact hT q hq
        · dsimp only; rw [if_neg (by omega)]; exact hto q hq
        · have e : q ≠ r := fun e => by subst e; omega
          dsimp only; rw [if_neg e]
          exact htz q hq (by omega)
        · dsimp only; rw [if_neg (by omega)]; exact hbo i h1 h2
        · by_cases e : q = r
          · subst e
            dsimp only; rw [if_pos (Nat.le_refl _), hR1, Nat.mul_one, Nat.mod_eq_of_lt (a := p - b (ld q)) (by omega), show b (ld q) + (p - b (ld q)) = p by omega, Nat.mod_self]
          · have hne : ld q ≠ ld r := fun e2 => e (spOK_inj hS hq hr e2)
            dsimp only; rw [if_neg (by omega)]
            exact hbz q hq (by omega) h2
        · have hz0 : t r = 0 := htz r hr (Or.inl (by omega))
          have hsum : la_sm (fun q => Fin.ofNat p (if q = r then b (ld r) else t q) * Fin.ofNat p (R q i)) ct = la_sm (fun q => Fin.ofNat p (t q) * Fin.ofNat p (R q i)) ct + Fin.ofNat p (b (ld r)) * Fin.ofNat p (R r i) := by
            refine la_sm_upd hr (fun q _ hqn => ?_) ?_
            · rw [if_neg hqn]
            · rw [if_pos rfl, hz0, en_0]; grind
          have hbi : Fin.ofNat p (if i ≤ ld r then (b i + (p - b (ld r)) % p * R r i) % p else b i) = Fin.ofNat p (b i) - Fin.ofNat p (b (ld r)) * Fin.ofNat p (R r i) := by
            by_cases e : i ≤ ld r
            · rw [if_pos e, en_mod, en_add, en_mul, en_opp (by omega)]; grind
            · rw [if_neg e, hS.2.2.2.2.2 r hr i (by omega), en_0]; grind
          rw [hsum, hbi, ← hlin i hi]
          grind
      · refine ⟨fun _ => ?_, fun q => absurd rfl q⟩
        rintro y rfl
        refine ⟨go (fun r hr e => ?_), hmu⟩
        obtain ⟨hld, hls, hrl, hR1⟩ := hS.2.2.1 r hr
        have hct := hS.2.1
        rw [e] at hls hrl
        rw [hno hls] at hrl
        exact absurd hrl.symm (pn_m1_ne r (by omega))
