/-! PURE: what a table of monomials is; products of vectors with variables; closed sets -/
def tbU (v : Nat) : Nat := 2 ^ (24 - 8 * v)
def tbX (e v : Nat) : Nat := e / 2 ^ (24 - 8 * v) % 256
def Tb (n o H N : Nat) (cd dg fd : Nat → Nat) (pm dv : Nat → Nat → Nat) : Prop :=
  (1 ≤ n) ∧
  (n ≤ 4) ∧
  (o ≤ 1) ∧
  (H ≤ 30) ∧
  (0 < N) ∧
  (N ≤ 126) ∧
  (∀ i, i < N → cd i < 2 ^ 31) ∧
  (∀ i j, i < N → j < N → cd i = cd j → i = j) ∧
  (∀ i, i < N → dg i = tbX (cd i) 0 + tbX (cd i) 1 + tbX (cd i) 2 + tbX (cd i) 3) ∧
  (∀ i, i < N → ∀ v, n ≤ v → v < 4 → tbX (cd i) v = 0) ∧
  (∀ i, i < N → dg i ≤ H) ∧
  (∀ d, d ≤ H + 1 → fd d ≤ N) ∧
  (∀ i d, i < N → d ≤ H + 1 → (i < fd d ↔ dg i < d)) ∧
  (∀ v i, v < n → i < N → dg i < H → pm v i < N ∧ cd (pm v i) = cd i + tbU v ∧ dg (pm v i) = dg i + 1 ∧ ¬ tbX (cd (pm v i)) v = 0 ∧ dv v (pm v i) = i) ∧
  (∀ v i, v < n → i + 1 < N → dg (i + 1) < H → pm v i < pm v (i + 1)) ∧
  (∀ v j, v < n → j < N → ¬ tbX (cd j) v = 0 → dv v j < N ∧ pm v (dv v j) = j ∧ cd (dv v j) + tbU v = cd j ∧ dg (dv v j) + 1 = dg j) ∧
  (∀ v i, v < n → i < N → ¬ dg i < H → ∀ j, j < N → cd j ≠ cd i + tbU v)
theorem Tb.n1 {n o H N : Nat} {cd dg fd : Nat → Nat} {pm dv : Nat → Nat → Nat} (T : Tb n o H N cd dg fd pm dv) : 1 ≤ n := T.1
theorem Tb.n4 {n o H N : Nat} {cd dg fd : Nat → Nat} {pm dv : Nat → Nat → Nat} (T : Tb n o H N cd dg fd pm dv) : n ≤ 4 := T.2.1
theorem Tb.o1 {n o H N : Nat} {cd dg fd : Nat → Nat} {pm dv : Nat → Nat → Nat} (T : Tb n o H N cd dg fd pm dv) : o ≤ 1 := T.2.2.1
theorem Tb.H30 {n o H N : Nat} {cd dg fd : Nat → Nat} {pm dv : Nat → Nat → Nat} (T : Tb n o H N cd dg fd pm dv) : H ≤ 30 := T.2.2.2.1
theorem Tb.N0 {n o H N : Nat} {cd dg fd : Nat → Nat} {pm dv : Nat → Nat → Nat} (T : Tb n o H N cd dg fd pm dv) : 0 < N := T.2.2.2.2.1
theorem Tb.N126 {n o H N : Nat} {cd dg fd : Nat → Nat} {pm dv : Nat → Nat → Nat} (T : Tb n o H N cd dg fd pm dv) : N ≤ 126 := T.2.2.2.2.2.1
theorem Tb.cdlt {n o H N : Nat} {cd dg fd : Nat → Nat} {pm dv : Nat → Nat → Nat} (T : Tb n o H N cd dg fd pm dv) : ∀ i, i < N → cd i < 2 ^ 31 := T.2.2.2.2.2.2.1
theorem Tb.cdinj {n o H N : Nat} {cd dg fd : Nat → Nat} {pm dv : Nat → Nat → Nat} (T : Tb n o H N cd dg fd pm dv) : ∀ i j, i < N → j < N → cd i = cd j → i = j := T.2.2.2.2.2.2.2.1
theorem Tb.dgs {n o H N : Nat} {cd dg fd : Nat → Nat} {pm dv : Nat → Nat → Nat} (T : Tb n o H N cd dg fd pm dv) : ∀ i, i < N → dg i = tbX (cd i) 0 + tbX (cd i) 1 + tbX (cd i) 2 + tbX (cd i) 3 := T.2.2.2.2.2.2.2.2.1
theorem Tb.xz {n o H N : Nat} {cd dg fd : Nat → Nat} {pm dv : Nat → Nat → Nat} (T : Tb n o H N cd dg fd pm dv) : ∀ i, i < N → ∀ v, n ≤ v → v < 4 → tbX (cd i) v = 0 := T.2.2.2.2.2.2.2.2.2.1
theorem Tb.dgH {n o H N : Nat} {cd dg fd : Nat → Nat} {pm dv : Nat → Nat → Nat} (T : Tb n o H N cd dg fd pm dv) : ∀ i, i < N → dg i ≤ H := T.2.2.2.2.2.2.2.2.2.2.1
theorem Tb.fdN {n o H N : Nat} {cd dg fd : Nat → Nat} {pm dv : Nat → Nat → Nat} (T : Tb n o H N cd dg fd pm dv) : ∀ d, d ≤ H + 1 → fd d ≤ N := T.2.2.2.2.2.2.2.2.2.2.2.1
theorem Tb.fdl {n o H N : Nat} {cd dg fd : Nat → Nat} {pm dv : Nat → Nat → Nat} (T : Tb n o H N cd dg fd pm dv) : ∀ i d, i < N → d ≤ H + 1 → (i < fd d ↔ dg i < d) := T.2.2.2.2.2.2.2.2.2.2.2.2.1
theorem Tb.pmN {n o H N : Nat} {cd dg fd : Nat → Nat} {pm dv : Nat → Nat → Nat} (T : Tb n o H N cd dg fd pm dv) : ∀ v i, v < n → i < N → dg i < H → pm v i < N ∧ cd (pm v i) = cd i + tbU v ∧ dg (pm v i) = dg i + 1 ∧ ¬ tbX (cd (pm v i)) v = 0 ∧ dv v (pm v i) = i := T.2.2.2.2.2.2.2.2.2.2.2.2.2.1
theorem Tb.pmlt {n o H N : Nat} {cd dg fd : Nat → Nat} {pm dv : Nat → Nat → Nat} (T : Tb n o H N cd dg fd pm dv) : ∀ v i, v < n → i + 1 < N → dg (i + 1) < H → pm v i < pm v (i + 1) := T.2.2.2.2.2.2.2.2.2.2.2.2.2.2.1
theorem Tb.dvN {n o H N : Nat} {cd dg fd : Nat → Nat} {pm dv : Nat → Nat → Nat} (T : Tb n o H N cd dg fd pm dv) : ∀ v j, v < n → j < N → ¬ tbX (cd j) v = 0 → dv v j < N ∧ pm v (dv v j) = j ∧ cd (dv v j) + tbU v = cd j ∧ dg (dv v j) + 1 = dg j := T.2.2.2.2.2.2.2.2.2.2.2.2.2.2.2.1
theorem Tb.pmno {n o H N : Nat} {cd dg fd : Nat → Nat} {pm dv : Nat → Nat → Nat} (T : Tb n o H N cd dg fd pm dv) : ∀ v i, v < n → i < N → ¬ dg i < H → ∀ j, j < N → cd j ≠ cd i + tbU v := T.2.2.2.2.2.2.2.2.2.2.2.2.2.2.2.2
theorem Tb.mono {n o H N : Nat} {cd dg fd : Nat → Nat} {pm dv : Nat → Nat → Nat} (T : Tb n o H N cd dg fd pm dv) {i j : Nat} (h : i ≤ j) (hj : j < N) : dg i ≤ dg j := by
  have h1 := T.dgH j hj
  have h2 := (T.fdl j (dg j + 1) hj (by omega)).mpr (Nat.lt_succ_self _)
  have h3 := (T.fdl i (dg j + 1) (by omega) (by omega)).mp (by omega)
  omega
theorem Tb.pml {n o H N : Nat} {cd dg fd : Nat → Nat} {pm dv : Nat → Nat → Nat} (T : Tb n o H N cd dg fd pm dv) {v i : Nat} (hv : v < n) : ∀ j, i < j → j < N → dg j < H → pm v i < pm v j := by
  intro j
  induction j with
  | zero => intro h; exact absurd h (Nat.not_lt_zero i)
  | succ j ih =>
    intro h hj hd
    have h1 := T.pmlt v j hv hj hd
    by_cases e : i = j
    · subst e; exact h1
    · have := ih (by omega) (by omega) (by have := T.mono (i := j) (j := j + 1) (by omega) hj; omega)
      omega
theorem Tb.fdm {n o H N : Nat} {cd dg fd : Nat → Nat} {pm dv : Nat → Nat → Nat} (T : Tb n o H N cd dg fd pm dv) {a b : Nat} (h : a ≤ b) (hb : b ≤ H + 1) : fd a ≤ fd b := by
  rcases Nat.lt_or_ge (fd b) (fd a) with q | q
  · have h1 := T.fdN a (by omega)
    have h2 := (T.fdl (fd b) a (by omega) (by omega)).mp q
    have h3 := (T.fdl (fd b) b (by omega) hb).mpr (by omega)
    omega
  · exact q
theorem Tb.fd0 {n o H N : Nat} {cd dg fd : Nat → Nat} {pm dv : Nat → Nat → Nat} (T : Tb n o H N cd dg fd pm dv) : fd 0 = 0 := by
  rcases Nat.eq_zero_or_pos (fd 0) with q | q
  · exact q
  · have := (T.fdl 0 0 T.N0 (by omega)).mp q; omega
theorem Tb.fdH {n o H N : Nat} {cd dg fd : Nat → Nat} {pm dv : Nat → Nat → Nat} (T : Tb n o H N cd dg fd pm dv) : fd (H + 1) = N := by
  have h0 := T.N0
  have h1 := T.fdN (H + 1) (Nat.le_refl _)
  have h2 := T.dgH (N - 1) (by omega)
  have h3 := (T.fdl (N - 1) (H + 1) (by omega) (Nat.le_refl _)).mpr (by omega)
  omega
/-- the product of a vector with a variable -/
def mv {F : Type} [Lean.Grind.CommRing F] (N : Nat) (cd : Nat → Nat) (dv : Nat → Nat → Nat) (v : Nat) (f : Nat → F) : Nat → F := fun j => if j < N ∧ ¬ tbX (cd j) v = 0 then f (dv v j) else 0
theorem mv_sm {F : Type} [Lean.Grind.CommRing F] {N : Nat} {cd : Nat → Nat} {dv : Nat → Nat → Nat} (v : Nat) (c : Nat → F) (R : Nat → Nat → F) (k : Nat) : mv N cd dv v (fun i => la_sm (fun j => c j * R j i) k) = fun i => la_sm (fun j => c j * mv N cd dv v (R j) i) k := by
  funext i
  show (if i < N ∧ ¬ tbX (cd i) v = 0 then la_sm (fun j => c j * R j (dv v i)) k else 0) = la_sm (fun j => c j * (if i < N ∧ ¬ tbX (cd i) v = 0 then R j (dv v i) else 0)) k
  by_cases h : i < N ∧ ¬ tbX (cd i) v = 0
  · rw [if_pos h]
    exact la_sm_congr (fun j _ => by rw [if_pos h])
  · rw [if_neg h]
    exact (la_sm_zero (fun j _ => by rw [if_neg h]; grind)).symm
/-- what lies below a place is made of rows that lie below it -/
theorem la_low {F : Type} [Lean.Grind.CommRing F] {k s : Nat} {R : Nat → Nat → F} {ld : Nat → Nat} (hE : la_ech k R ld) {f : Nat → F} (hf : la_in k R f) (h : ∀ i, s ≤ i → f i = 0) : ∃ c : Nat → F, (∀ i, f i = la_sm (fun j => c j * R j i) k) ∧ ∀ j, j < k → c j = 0 ∨ ld j < s := by
  obtain ⟨c, hc⟩ := hf
  refine ⟨c, hc, fun t ht => ?_⟩
  by_cases h0 : c t = 0
  · exact Or.inl h0
  · obtain ⟨j, hj, hcj, hm⟩ := la_max (fun j => ¬ c j = 0) ld k ⟨t, ht, h0⟩
    have h1 : ¬ f (ld j) = 0 := by
      rw [hc, la_sm_one hj (fun t ht hn => by
        by_cases h0 : c t = 0
        · rw [h0]; grind
        · have h1 := hm t ht h0
          have h2 : ld t ≠ ld j := fun e => hn (hE.2 t j ht hj e)
          rw [(hE.1 t ht).2 _ (by omega)]
          grind), (hE.1 j hj).1]
      intro q
      apply hcj
      grind
    refine Or.inr ?_
    have h2 := hm t ht h0
    rcases Nat.lt_or_ge (ld j) s with q | q
    · omega
    · exact absurd (h _ q) h1
/-- rows on all places below sz give all that lies below sz -/
theorem la_full {F : Type} [Lean.Grind.CommRing F] {k sz : Nat} {R : Nat → Nat → F} {ld : Nat → Nat} (hE : la_ech k R ld) (hl : ∀ j, j < sz → ∃ r, r < k ∧ ld r = j) : ∀ (m : Nat) (f : Nat → F), m ≤ sz → (∀ i, m ≤ i → f i = 0) → la_in k R f := by
  intro m
  induction m with
  | zero => intro f _ h; exact la_in_ext la_in_zero (fun i => h i (Nat.zero_le i))
  | succ m ih =>
    intro f hm h
    obtain ⟨r, hr, hrm⟩ := hl m (by omega)
    have h1 := hE.1 r hr
    have h2 := ih (fun i => f i + (- f m) * R r i) (by omega) (fun i hi => by
      by_cases e : i = m
      · subst e; rw [← hrm, h1.1]; grind
      · rw [h i (by omega), h1.2 i (by omega)]; grind)
    refine la_in_ext (la_in_add h2 (la_in_mul (f m) (la_in_row hr))) (fun i => ?_)
    grind
/-- closed: sums, numbers, the given ones, products of what lies below s0 with variables -/
def clW {F : Type} [Lean.Grind.CommRing F] (n s0 N : Nat) (cd : Nat → Nat) (dv : Nat → Nat → Nat) (gs : Nat → Prop) (gv : Nat → Nat → F) (W : (Nat → F) → Prop) : Prop :=
  lsub W ∧ (∀ g, gs g → W (gv g)) ∧ ∀ v, v < n → ∀ f, W f → (∀ i, s0 ≤ i → f i = 0) → W (mv N cd dv v f)
theorem cl_rows {F : Type} [Lean.Grind.CommRing F] {k n s0 N : Nat} {cd : Nat → Nat} {dv : Nat → Nat → Nat} {R : Nat → Nat → F} {ld : Nat → Nat} (hE : la_ech k R ld) (h : ∀ r, r < k → ld r < s0 → ∀ v, v < n → la_in k R (mv N cd dv v (R r))) : ∀ v, v < n → ∀ f, la_in k R f → (∀ i, s0 ≤ i → f i = 0) → la_in k R (mv N cd dv v f) := by
  intro v hv f hf hz
  obtain ⟨c, hc, hc0⟩ := la_low hE hf hz
  have e : f = fun i => la_sm (fun j => c j * R j i) k := funext hc
  rw [e, mv_sm]
  exact lsub_sm (lsub_of_in k R) c k (fun j hj => by
    rcases hc0 j hj with q | q
    · exact Or.inr q
    · exact Or.inl (h j hj q v hv))
