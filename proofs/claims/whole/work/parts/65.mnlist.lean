/-! PURE: exponents, places, the list of monomials -/
theorem s_unit {v : Nat} (h : v < 4) {Q : Int32 → Prop} (hQ : Q (nI (tbU v))) : vc_mn_unit (nI v) Q := by
  unfold vc_mn_unit
  rw [un_shl h]; exact hQ
theorem s_expo {e : Int32} {v : Nat} (h : v < 4) {Q : Int32 → Prop} (hQ : Q (nI (tbX e.toBitVec.toNat v))) : vc_mn_exponentIn e (nI v) Q := by
  unfold vc_mn_exponentIn
  rw [pk_and _ 8 (by decide)]
  unfold tbX at hQ
  match v, h with
  | 0, _ => rw [pk_ushr e _ 24 (by decide)]; exact hQ
  | 1, _ => rw [pk_ushr e _ 16 (by decide)]; exact hQ
  | 2, _ => rw [pk_ushr e _ 8 (by decide)]; exact hQ
  | 3, _ => rw [pk_ushr e _ 0 (by decide)]; exact hQ
  | n + 4, h => omega
theorem s_expoN {c : Nat} {v : Nat} (hc : c < 2 ^ 31) (h : v < 4) {Q : Int32 → Prop} (hQ : Q (nI (tbX c v))) : vc_mn_exponentIn (nI c) (nI v) Q := by
  refine s_expo h ?_
  rw [pk_tn (by omega)]; exact hQ
theorem s_md_expo {c v : Nat} (hc : c < 2 ^ 31) (h : v < 4) {Q : Int32 → Prop} (hQ : Q (nI (tbX c v))) : vc_md_exponent (nI c) (nI v) Q := by
  unfold vc_md_exponent
  unfold tbX at hQ
  match v, h with
  | 0, _ => rw [pk_shrN hc _ 24 (by decide), pk_andN (by omega) 8 (by decide)]; exact hQ
  | 1, _ => rw [pk_shrN hc _ 16 (by decide), pk_andN (by omega) 8 (by decide)]; exact hQ
  | 2, _ => rw [pk_shrN hc _ 8 (by decide), pk_andN (by omega) 8 (by decide)]; exact hQ
  | 3, _ => rw [pk_shrN hc _ 0 (by decide), pk_andN (by omega) 8 (by decide)]; exact hQ
  | n + 4, h => omega
theorem tbX_lt (e v : Nat) : tbX e v < 256 := Nat.mod_lt _ (by decide)
/-- the sum of the first k exponents -/
def tbS (e : Nat) : Nat → Nat
  | 0 => 0
  | k + 1 => tbS e k + tbX e k
theorem tbS_s (e k : Nat) : tbS e (k + 1) = tbS e k + tbX e k := rfl
theorem tbS_lt (e : Nat) : ∀ k, tbS e k ≤ 256 * k
  | 0 => Nat.le_refl 0
  | k + 1 => by rw [tbS_s]; have := tbS_lt e k; have := tbX_lt e k; omega
theorem tbS_4 (e : Nat) : tbS e 4 = tbX e 0 + tbX e 1 + tbX e 2 + tbX e 3 := by
  rw [tbS_s, tbS_s, tbS_s, tbS_s]; show 0 + _ + _ + _ + _ = _; omega
set_option maxHeartbeats 1000000 in
theorem s_placeOf {n o H N : Nat} {cd dg fd : Nat → Nat} {pm dv : Nat → Nat → Nat} (T : Tb n o H N cd dg fd pm dv) {codes first : Nat → Int32} (hc : ∀ i, i < N → codes i = nI (cd i)) (hf : ∀ d, d ≤ H + 1 → first d = nI (fd d)) {e a b : Int32} {Q : Int32 → Prop} (hj : ∀ j, j < N → nI (cd j) = e → Q (nI j)) (hn : (∀ j, j < N → ¬ nI (cd j) = e) → Q (-1)) :
    vc_mn_placeOf (nI n) a (nI H) b codes first e Q := by
  have hN := T.N126
  have hn4 := T.n4
  have hH := T.H30
  obtain ⟨E, hE⟩ : ∃ E, E = e.toBitVec.toNat := ⟨_, rfl⟩
  have hEc : ∀ j, j < N → nI (cd j) = e → E = cd j := fun j hj he => by
    rw [hE, ← he, pk_tn (by have := T.cdlt j hj; omega)]
  refine ⟨fun x y => ∃ k, k ≤ 4 ∧ x = nI (tbS E k) ∧ y = nI k ∧ ∀ v, n ≤ v → v < k → tbX E v = 0, fun _ y => 10 - y.toNatClampNeg, ⟨0, by omega, rfl, rfl, fun v _ h => absurd h (Nat.not_lt_zero v)⟩, ?_⟩
  rintro x y ⟨k, hk, rfl, rfl, hz⟩
  have hSl := tbS_lt E k
  refine pk_le 4 k (fun h => ?_) (fun h => ?_)
  · obtain rfl : k = 4 := by omega
    refine pk_le (tbS E 4) H (fun h2 => ?_) (fun h2 => ?_)
    · obtain ⟨D, hD⟩ : ∃ D, D = tbS E 4 := ⟨_, rfl⟩
      rw [← hD] at h2 ⊢
      have hfN := T.fdN (D + 1) (by omega)
      have hfm := T.fdm (show D ≤ D + 1 by omega) (by omega)
      refine ⟨pk_in D 32 (by omega), ?_⟩
      rintro z rfl
      rw [nI_clamp (n := D) (by omega), hf D (by omega), nI_1]
      have hmem : ∀ j, j < N → nI (cd j) = e → fd D ≤ j ∧ j < fd (D + 1) := fun j hj he => by
        have h3 := hEc j hj he
        have h4 := T.dgs j hj
        rw [← h3, ← tbS_4, ← hD] at h4
        have h5 := T.fdl j D hj (by omega)
        have h6 := T.fdl j (D + 1) hj (by omega)
        omega
      refine ⟨fun z => ∃ i, fd D ≤ i ∧ i ≤ fd (D + 1) ∧ z = nI i ∧ ∀ j, j < i → j < N → ¬ nI (cd j) = e, fun z => 200 - z.toNatClampNeg, ⟨fd D, Nat.le_refl _, hfm, rfl, fun j h3 h4 h5 => by have := hmem j h4 h5; omega⟩, ?_⟩
      rintro z ⟨i, hi1, hi2, rfl, hno⟩
      refine ⟨pk_in (D + 1) 32 (by omega), ?_⟩
      rw [nI_clamp (n := D + 1) (by omega), hf (D + 1) (by omega)]
      refine pk_le (fd (D + 1)) i (fun h3 => hn (fun j hj he => ?_)) (fun h3 => ?_)
      · have := hmem j hj he
        exact hno j (by omega) hj he
      · refine ⟨pk_in i 126 (by omega), ?_⟩
        rw [nI_clamp (n := i) (by omega), hc i (by omega)]
        refine ⟨fun q => ?_, fun q => hj i (by omega) q⟩
        rintro z rfl
        rw [nI_1]
        refine ⟨⟨i + 1, by omega, by omega, rfl, fun j h4 h5 => ?_⟩, ?_⟩
        · by_cases e2 : j = i
          · subst e2; exact q
          · exact hno j (by omega) h5
        · try dsimp only
          rw [nI_clamp (n := i + 1) (by omega), nI_clamp (n := i) (by omega)]; omega
    · refine hn (fun j hj he => ?_)
      have h3 := hEc j hj he
      have h4 := T.dgs j hj
      have h5 := T.dgH j hj
      rw [← h3, ← tbS_4] at h4
      omega
  · refine s_expo (by omega) ?_
    rw [← hE]
    have hX := tbX_lt E k
    have step : (n ≤ k → tbX E k = 0) → ∀ x, x = nI (tbS E k) + nI (tbX E k) → ∀ y, y = nI k + 1 → (∃ k, k ≤ 4 ∧ x = nI (tbS E k) ∧ y = nI k ∧ ∀ v, n ≤ v → v < k → tbX E v = 0) ∧ 10 - y.toNatClampNeg < 10 - (nI k).toNatClampNeg := by
      rintro h2 x rfl y rfl
      rw [nI_1, nI_clamp (n := k + 1) (by omega), nI_clamp (n := k) (by omega), nI_add]
      refine ⟨⟨k + 1, by omega, rfl, rfl, fun v h3 h4 => ?_⟩, by omega⟩
      by_cases e2 : v = k
      · subst e2; exact h2 h3
      · exact hz v h3 (by omega)
    refine pk_lt k n (fun h2 => step (fun h3 => by omega)) (fun h2 => ?_)
    refine pk_eq (tbX E k) 0 (fun h3 => step (fun _ => h3)) (fun h3 => hn (fun j hj he => ?_))
    have h4 := hEc j hj he
    have h5 := T.xz j hj k h2 h
    rw [← h4] at h5
    exact h3 h5
/-- lists: of the first k, one behind the other -/
def lsT (f : Nat → List (Nat × Nat)) : Nat → List (Nat × Nat)
  | 0 => []
  | k + 1 => lsT f k ++ f k
def lsD (n o d : Nat) : Nat → Nat → Nat → Nat → List (Nat × Nat)
  | 0, _, _, _ => []
  | dd + 1, depth, rest, code => if depth + 1 < n then lsT (fun t => lsD n o d dd (depth + 1) (rest - (if o = 1 then t else rest - t)) (code + (if o = 1 then t else rest - t) * tbU (if o = 1 then depth else n - 1 - depth))) (rest + 1) else [(code + rest * tbU (if o = 1 then depth else n - 1 - depth), d)]
theorem lsT_le (f : Nat → List (Nat × Nat)) {j : Nat} : ∀ k, j ≤ k → (lsT f j).length ≤ (lsT f k).length := by
  intro k h
  induction k with
  | zero =>
    obtain rfl : j = 0 := by omega
    exact Nat.le_refl _
  | succ k ih =>
    by_cases e : j = k + 1
    · subst e; exact Nat.le_refl _
    · show _ ≤ (lsT f k ++ f k).length
      rw [List.length_append]
      have := ih (by omega)
      omega
def aP (A B : Nat → Int32) (L : List (Nat × Nat)) : Prop := ∀ i c, L[i]? = some c → A i = nI c.1 ∧ B i = nI c.2
theorem aP_app {A B : Nat → Int32} {L : List (Nat × Nat)} (h : aP A B L) (c d : Nat) : aP (upd A L.length (nI c)) (upd B L.length (nI d)) (L ++ [(c, d)]) := by
  intro i q hq
  rcases Nat.lt_trichotomy i L.length with e | e | e
  · rw [List.getElem?_append_left e] at hq
    rw [pk_un (by omega), pk_un (by omega)]
    exact h i q hq
  · subst e
    rw [List.getElem?_append_right (Nat.le_refl _), Nat.sub_self] at hq
    have : q = (c, d) := (Option.some.inj hq).symm
    subst this
    exact ⟨pk_us, pk_us⟩
  · have : (L ++ [(c, d)])[i]? = none := List.getElem?_eq_none (by rw [List.length_append]; show L.length + 1 ≤ i; omega)
    rw [this] at hq
    cases hq
theorem s_append {L : List (Nat × Nat)} {a b h : Int32} {A B : Nat → Int32} {c d : Nat} (hA : aP A B L) (hl : L.length < 126) {Q : Int32 → (Nat → Int32) → (Nat → Int32) → Prop} (hQ : ∀ A' B', aP A' B' (L ++ [(c, d)]) → Q (nI (L ++ [(c, d)]).length) A' B') : vc_mn_append a b h (nI L.length) A B (nI c) (nI d) Q := by
  refine pk_le 126 L.length (fun h => by omega) (fun _ => ?_)
  refine ⟨pk_in L.length 126 hl, ?_⟩
  rintro A1 rfl
  refine ⟨pk_in L.length 126 hl, ?_⟩
  rintro B1 rfl
  rintro y rfl
  rw [nI_clamp (by omega), nI_1]
  have := hQ _ _ (aP_app hA c d)
  rw [List.length_append] at this
  exact this
set_option maxHeartbeats 1000000 in
theorem s_listDegree {n o d : Nat} {h : Int32} (hn : n ≤ 4) (ho : o ≤ 1) : ∀ (dd depth rest code : Nat) (L : List (Nat × Nat)) (A B : Nat → Int32), n ≤ depth + dd → depth < n → rest ≤ 30 → aP A B L → (L ++ lsD n o d dd depth rest code).length ≤ 126 →
    ∀ {Q : Int32 → (Nat → Int32) → (Nat → Int32) → Prop}, (∀ A' B', aP A' B' (L ++ lsD n o d dd depth rest code) → Q (nI (L ++ lsD n o d dd depth rest code).length) A' B') → vc_mn_listDegree dd (nI n) (nI o) h (nI L.length) A B (nI d) (nI depth) (nI rest) (nI code) Q := by
  intro dd
  induction dd with
  | zero => intro depth rest code L A B h1 h2; omega
  | succ dd ih =>
    intro depth rest code L A B hf hdn hr hA hl Q hQ
    have hn1 : nI n - 1 = nI (n - 1) := by rw [show (1 : Int32) = nI 1 from rfl, pk_sub (by omega)]
    obtain ⟨var, hvar⟩ : ∃ var, var = if o = 1 then depth else n - 1 - depth := ⟨_, rfl⟩
    have hv4 : var < 4 := by rw [hvar]; by_cases c : o = 1 <;> simp only [c, if_true, if_false] <;> omega
    unfold lsD at hl hQ
    rw [← hvar] at hl hQ
    have body : ∀ (X : Int32), X = nI var → ∀ (T1 : Nat → Nat), (∀ t, T1 t = if o = 1 then t else rest - t) → depth + 1 < n →
      ∃ (I : Int32 → Int32 → (Nat → Int32) → (Nat → Int32) → Prop) (mu : Int32 → Int32 → (Nat → Int32) → (Nat → Int32) → Nat), I 0 (nI L.length) A B ∧ ∀ (x : Int32) (c : Int32) (A1 B1 : Nat → Int32), I x c A1 B1 → (nI rest < x → Q c A1 B1) ∧ (¬ nI rest < x → ∃ t, t ≤ rest ∧ x = nI t ∧ vc_mn_listDegree dd (nI n) (nI o) h c A1 B1 (nI d) (nI (depth + 1)) (nI (rest - T1 t)) (nI (code + T1 t * tbU var)) (fun c2 A2 B2 => ∀ y, y = x + 1 → I y c2 A2 B2 ∧ mu y c2 A2 B2 < mu x c A1 B1)) := by
      intro X hX T1 hT1 hdn1
      rw [if_pos hdn1] at hl hQ
      refine ⟨fun x c A1 B1 => ∃ t, t ≤ rest + 1 ∧ x = nI t ∧ c = nI (L ++ lsT (fun t => lsD n o d dd (depth + 1) (rest - (if o = 1 then t else rest - t)) (code + (if o = 1 then t else rest - t) * tbU var)) t).length ∧ aP A1 B1 (L ++ lsT (fun t => lsD n o d dd (depth + 1) (rest - (if o = 1 then t else rest - t)) (code + (if o = 1 then t else rest - t) * tbU var)) t), fun x _ _ _ => 200 - x.toNatClampNeg, ⟨0, by omega, rfl, by show _ = nI (L ++ []).length; rw [List.append_nil], by show aP A B (L ++ []); rw [List.append_nil]; exact hA⟩, ?_⟩
      rintro x c A1 B1 ⟨t, ht, rfl, rfl, hA1⟩
      refine pk_lt rest t (fun h2 => ?_) (fun h2 => ?_)
      · obtain rfl : t = rest + 1 := by omega
        exact hQ _ _ hA1
      · refine ⟨t, h2, rfl, ?_⟩
        have hT := hT1 t
        have hlen := lsT_le (fun t => lsD n o d dd (depth + 1) (rest - (if o = 1 then t else rest - t)) (code + (if o = 1 then t else rest - t) * tbU var)) (j := t + 1) (rest + 1) (by omega)
        refine ih (depth + 1) (rest - T1 t) (code + T1 t * tbU var) _ _ _ (by omega) hdn1 (by omega) hA1 ?_ ?_
        · rw [List.append_assoc, hT]
          rw [List.length_append] at hl ⊢
          have e : (lsT (fun t => lsD n o d dd (depth + 1) (rest - (if o = 1 then t else rest - t)) (code + (if o = 1 then t else rest - t) * tbU var)) t ++ lsD n o d dd (depth + 1) (rest - (if o = 1 then t else rest - t)) (code + (if o = 1 then t else rest - t) * tbU var)) = lsT (fun t => lsD n o d dd (depth + 1) (rest - (if o = 1 then t else rest - t)) (code + (if o = 1 then t else rest - t) * tbU var)) (t + 1) := rfl
          rw [e]
          omega
        · intro A2 B2 hA2 y hy
          subst hy
          rw [nI_1]
          refine ⟨⟨t + 1, by omega, rfl, ?_, ?_⟩, ?_⟩
          · rw [List.append_assoc, hT]; rfl
          · rw [List.append_assoc, hT] at hA2; exact hA2
          · try dsimp only
            rw [nI_clamp (n := t + 1) (by omega), nI_clamp (n := t) (by omega)]; omega
    have leaf : ¬ depth + 1 < n → vc_mn_append (nI n) (nI o) h (nI L.length) A B (nI code + nI rest * nI (tbU var)) (nI d) (fun c A1 B1 => Q c A1 B1) := by
      intro hdn1
      rw [if_neg hdn1] at hl hQ
      rw [pk_mul, nI_add]
      rw [List.length_append] at hl
      exact s_append hA (by have : ([(code + rest * tbU var, d)] : List (Nat × Nat)).length = 1 := rfl; omega) hQ
    unfold vc_mn_listDegree
    have ho2 : o = 0 ∨ o = 1 := by omega
    rcases ho2 with rfl | rfl
    · have hvar : var = n - 1 - depth := hvar
      refine ⟨fun _ => ?_, fun q => absurd q (by decide)⟩
      rintro X rfl
      rw [hn1, pk_sub (by omega), ← hvar]
      refine pk_lt depth (n - 1) (fun h2 => ?_) (fun h2 => ?_)
      · obtain ⟨I, mu, hI0, hI⟩ := body (nI var) rfl (fun t => rest - t) (fun t => rfl) (by omega)
        refine ⟨I, mu, hI0, fun x c A1 B1 hx => ⟨(hI x c A1 B1 hx).1, fun h3 => ?_⟩⟩
        obtain ⟨t, ht, rfl, hv⟩ := (hI x c A1 B1 hx).2 h3
        refine ⟨fun _ => ?_, fun q => absurd q (by decide)⟩
        rintro Y rfl
        rw [pk_sub ht]
        refine s_unit hv4 ?_
        rw [pk_sub (by omega), pk_mul, nI_add, nI_1]
        exact hv
      · exact s_unit hv4 (leaf (by omega))
    · have hvar : var = depth := hvar
      subst hvar
      refine ⟨fun q => absurd rfl q, fun _ => ?_⟩
      rw [hn1]
      refine pk_lt var (n - 1) (fun h2 => ?_) (fun h2 => ?_)
      · obtain ⟨I, mu, hI0, hI⟩ := body (nI var) rfl (fun t => t) (fun t => rfl) (by omega)
        refine ⟨I, mu, hI0, fun x c A1 B1 hx => ⟨(hI x c A1 B1 hx).1, fun h3 => ?_⟩⟩
        obtain ⟨t, ht, rfl, hv⟩ := (hI x c A1 B1 hx).2 h3
        refine ⟨fun q => absurd rfl q, fun _ => ?_⟩
        refine s_unit hv4 ?_
        rw [pk_sub ht, pk_mul, nI_add, nI_1]
        exact hv
      · exact s_unit hv4 (leaf (by omega))
