-- sums over the first n places, in any commutative ring
def la_sm {F : Type} [Lean.Grind.CommRing F] (g : Nat → F) : Nat → F
  | 0 => 0
  | n + 1 => la_sm g n + g n
theorem la_sm_s {F : Type} [Lean.Grind.CommRing F] (g : Nat → F) (n : Nat) : la_sm g (n + 1) = la_sm g n + g n := rfl
theorem la_sm_0 {F : Type} [Lean.Grind.CommRing F] (g : Nat → F) : la_sm g 0 = 0 := rfl
theorem la_sm_congr {F : Type} [Lean.Grind.CommRing F] {g h : Nat → F} {n : Nat} (H : ∀ j, j < n → g j = h j) : la_sm g n = la_sm h n := by
  induction n with
  | zero => rfl
  | succ n ih =>
    rw [la_sm_s, la_sm_s, ih (fun j hj => H j (Nat.lt_succ_of_lt hj)), H n (Nat.lt_succ_self n)]
theorem la_sm_add {F : Type} [Lean.Grind.CommRing F] (g h : Nat → F) (n : Nat) : la_sm (fun j => g j + h j) n = la_sm g n + la_sm h n := by
  induction n with
  | zero => rw [la_sm_0, la_sm_0, la_sm_0]; grind
  | succ n ih => rw [la_sm_s, la_sm_s, la_sm_s, ih]; grind
theorem la_sm_mul {F : Type} [Lean.Grind.CommRing F] (a : F) (g : Nat → F) (n : Nat) : la_sm (fun j => a * g j) n = a * la_sm g n := by
  induction n with
  | zero => rw [la_sm_0, la_sm_0]; grind
  | succ n ih => rw [la_sm_s, la_sm_s, ih]; grind
theorem la_sm_zero {F : Type} [Lean.Grind.CommRing F] {g : Nat → F} {n : Nat} (H : ∀ j, j < n → g j = 0) : la_sm g n = 0 := by
  induction n with
  | zero => rfl
  | succ n ih =>
    rw [la_sm_s, ih (fun j hj => H j (Nat.lt_succ_of_lt hj)), H n (Nat.lt_succ_self n)]
    grind
theorem la_sm_one {F : Type} [Lean.Grind.CommRing F] {g : Nat → F} {n k : Nat} (hk : k < n) (H : ∀ j, j < n → j ≠ k → g j = 0) : la_sm g n = g k := by
  induction n with
  | zero => exact absurd hk (Nat.not_lt_zero k)
  | succ n ih =>
    rw [la_sm_s]
    by_cases h : k = n
    · subst h
      rw [la_sm_zero (fun j hj => H j (Nat.lt_succ_of_lt hj) (by omega))]
      grind
    · rw [ih (by omega) (fun j hj hn => H j (Nat.lt_succ_of_lt hj) hn), H n (Nat.lt_succ_self n) (by omega)]
      grind
/-- f is a sum of numbers times the first k rows -/
def la_in {F : Type} [Lean.Grind.CommRing F] (k : Nat) (R : Nat → Nat → F) (f : Nat → F) : Prop := ∃ c : Nat → F, ∀ i, f i = la_sm (fun j => c j * R j i) k
theorem la_in_add {F : Type} [Lean.Grind.CommRing F] {k : Nat} {R : Nat → Nat → F} {f g : Nat → F} (hf : la_in k R f) (hg : la_in k R g) : la_in k R (fun i => f i + g i) := by
  obtain ⟨c, hc⟩ := hf
  obtain ⟨d, hd⟩ := hg
  refine ⟨fun j => c j + d j, fun i => ?_⟩
  show f i + g i = _
  rw [hc i, hd i, ← la_sm_add]
  exact la_sm_congr (fun j _ => by grind)
theorem la_in_mul {F : Type} [Lean.Grind.CommRing F] {k : Nat} {R : Nat → Nat → F} {f : Nat → F} (a : F) (hf : la_in k R f) : la_in k R (fun i => a * f i) := by
  obtain ⟨c, hc⟩ := hf
  refine ⟨fun j => a * c j, fun i => ?_⟩
  show a * f i = _
  rw [hc i, ← la_sm_mul]
  exact la_sm_congr (fun j _ => by grind)
theorem la_in_zero {F : Type} [Lean.Grind.CommRing F] {k : Nat} {R : Nat → Nat → F} : la_in k R (fun _ => 0) :=
  ⟨fun _ => 0, fun i => (la_sm_zero (fun j _ => by grind)).symm⟩
theorem la_in_row {F : Type} [Lean.Grind.CommRing F] {k j : Nat} {R : Nat → Nat → F} (hj : j < k) : la_in k R (R j) := by
  refine ⟨fun t => if t = j then 1 else 0, fun i => ?_⟩
  have e := la_sm_one (g := fun t => (if t = j then (1 : F) else 0) * R t i) hj (fun t _ hn => by show (if t = j then (1 : F) else 0) * R t i = 0; rw [if_neg hn]; grind)
  refine Eq.trans ?_ e.symm
  show R j i = (if j = j then (1 : F) else 0) * R j i
  rw [if_pos rfl]
  grind
theorem la_in_ext {F : Type} [Lean.Grind.CommRing F] {k : Nat} {R : Nat → Nat → F} {f g : Nat → F} (hf : la_in k R f) (h : ∀ i, g i = f i) : la_in k R g := by
  obtain ⟨c, hc⟩ := hf
  exact ⟨c, fun i => (h i).trans (hc i)⟩
theorem la_in_sm {F : Type} [Lean.Grind.CommRing F] {k : Nat} {R : Nat → Nat → F} {G : Nat → Nat → F} (a : Nat → F) : ∀ n : Nat, (∀ j, j < n → la_in k R (G j)) → la_in k R (fun i => la_sm (fun j => a j * G j i) n)
  | 0, _ => la_in_ext la_in_zero (fun i => rfl)
  | n + 1, H => la_in_ext (la_in_add (la_in_sm a n (fun j hj => H j (Nat.lt_succ_of_lt hj))) (la_in_mul (a n) (H n (Nat.lt_succ_self n)))) (fun i => rfl)
theorem la_in_mono {F : Type} [Lean.Grind.CommRing F] {k n : Nat} {R T : Nat → Nat → F} {f : Nat → F} (hf : la_in k R f) (h : ∀ j, j < k → la_in n T (R j)) : la_in n T f := by
  obtain ⟨c, hc⟩ := hf
  exact la_in_ext (la_in_sm c k h) hc
/-- rows with 1 at their leading place, nothing above it, leading places apart -/
def la_ech {F : Type} [Lean.Grind.CommRing F] (k : Nat) (R : Nat → Nat → F) (ld : Nat → Nat) : Prop :=
  (∀ j, j < k → R j (ld j) = 1 ∧ ∀ i, ld j < i → R j i = 0) ∧ ∀ j t, j < k → t < k → ld j = ld t → j = t
/-- the greatest of finitely many -/
theorem la_max (P : Nat → Prop) (v : Nat → Nat) : ∀ n : Nat, (∃ j, j < n ∧ P j) → ∃ j, j < n ∧ P j ∧ ∀ t, t < n → P t → v t ≤ v j := by
  intro n
  induction n with
  | zero => rintro ⟨j, hj, -⟩; exact absurd hj (Nat.not_lt_zero j)
  | succ n ih =>
    rintro ⟨j, hj, hp⟩
    by_cases hq : ∃ j, j < n ∧ P j
    · obtain ⟨a, ha, pa, ma⟩ := ih hq
      by_cases hn : P n ∧ v a < v n
      · exact ⟨n, Nat.lt_succ_self n, hn.1, fun t ht pt => by
          by_cases e : t = n
          · subst e; exact Nat.le_refl _
          · have := ma t (by omega) pt; omega⟩
      · refine ⟨a, by omega, pa, fun t ht pt => ?_⟩
        by_cases e : t = n
        · subst e
          have : ¬ v a < v t := fun h => hn ⟨pt, h⟩
          omega
        · exact ma t (by omega) pt
    · have e : j = n := by
        by_cases e : j = n
        · exact e
        · exact absurd ⟨j, by omega, hp⟩ hq
      subst e
      exact ⟨j, Nat.lt_succ_self j, hp, fun t ht pt => by
        by_cases e : t = j
        · subst e; exact Nat.le_refl _
        · exact absurd ⟨t, by omega, pt⟩ hq⟩
/-- what is in the space and has no leading place is nothing; and the top of what is in the space is a leading place -/
theorem la_top {F : Type} [Lean.Grind.CommRing F] {k : Nat} {R : Nat → Nat → F} {ld : Nat → Nat} (hE : la_ech k R ld) {f : Nat → F} (hf : la_in k R f) :
    (∀ i, f i = 0) ∨ ∃ j, j < k ∧ ¬ f (ld j) = 0 ∧ ∀ i, ld j < i → f i = 0 := by
  obtain ⟨c, hc⟩ := hf
  by_cases h : ∃ j, j < k ∧ ¬ c j = 0
  · obtain ⟨j, hj, hcj, hm⟩ := la_max (fun j => ¬ c j = 0) ld k h
    have hz : ∀ t, t < k → ∀ i, ld j ≤ i → t ≠ j → c t * R t i = 0 := fun t ht i hi hn => by
      by_cases h0 : c t = 0
      · rw [h0]; grind
      · have h1 := hm t ht h0
        have h2 : ld t ≠ ld j := fun e => hn (hE.2 t j ht hj e)
        rw [(hE.1 t ht).2 i (by omega)]
        grind
    refine Or.inr ⟨j, hj, ?_, fun i hi => ?_⟩
    · rw [hc, la_sm_one hj (fun t ht hn => hz t ht _ (Nat.le_refl _) hn), (hE.1 j hj).1]
      intro q
      apply hcj
      grind
    · rw [hc, la_sm_one hj (fun t ht hn => hz t ht _ (Nat.le_of_lt hi) hn), (hE.1 j hj).2 i hi]
      grind
  · refine Or.inl fun i => ?_
    rw [hc]
    exact la_sm_zero (fun j hj => by
      have : c j = 0 := by
        by_cases q : c j = 0
        · exact q
        · exact absurd ⟨j, hj, q⟩ h
      rw [this]; grind)
theorem la_none {F : Type} [Lean.Grind.CommRing F] {k : Nat} {R : Nat → Nat → F} {ld : Nat → Nat} (hE : la_ech k R ld) {f : Nat → F} (hf : la_in k R f) (h : ∀ j, j < k → f (ld j) = 0) : ∀ i, f i = 0 := by
  rcases la_top hE hf with q | ⟨j, hj, hn, -⟩
  · exact q
  · exact absurd (h j hj) hn
