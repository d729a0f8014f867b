/-! PURE: the members of the basis -/
def ldB (ct : Nat) (ld : Nat → Nat) (hs : Nat → Bool) : Prop := ∀ i, hs i = true ↔ ∃ r, r < ct ∧ ld r = i
theorem ldB_ex (ct : Nat) (ld : Nat → Nat) : ∃ hs : Nat → Bool, ldB ct ld hs := by
  refine ⟨fun i => @decide (∃ r, r < ct ∧ ld r = i) (Classical.propDecidable _), fun i => ?_⟩
  exact @decide_eq_true_iff _ (Classical.propDecidable _)
theorem s_isLeadB {p sz ct k : Nat} {coef leads rol : Nat → Int32} {R : Nat → Nat → Nat} {ld : Nat → Nat} (hS : spOK p sz ct coef leads rol R ld) {hs : Nat → Bool} (hh : ldB ct ld hs) {dg c : Int32} (hk : k < 126) {Q : Int32 → Prop} (h1 : hs k = true → Q 1) (h0 : hs k = false → Q 0) : vc_sp_isLead dg (nI sz) c rol (nI k) Q := by
  refine s_isLead hk hS.1 (fun _ hr => h1 ((hh k).mpr (spOK_lead hS hk hr))) (fun hno => h0 ?_)
  cases h : hs k with
  | false => rfl
  | true =>
    obtain ⟨r, hr, rfl⟩ := (hh k).mp h
    obtain ⟨g1, g2, g3, g4⟩ := hS.2.2.1 r hr
    rw [hno g2] at g3
    exact absurd g3.symm (pn_m1_ne r (by have := hS.2.1; omega))
def anyB (f : Nat → Bool) : Nat → Bool
  | 0 => false
  | k + 1 => anyB f k || f k
theorem anyB_iff (f : Nat → Bool) : ∀ k, anyB f k = true ↔ ∃ v, v < k ∧ f v = true
  | 0 => ⟨fun h => absurd h Bool.false_ne_true, fun ⟨v, hv, _⟩ => absurd hv (Nat.not_lt_zero v)⟩
  | k + 1 => by
    show (anyB f k || f k) = true ↔ _
    rw [Bool.or_eq_true, anyB_iff f k]
    constructor
    · rintro (⟨v, hv, h⟩ | h)
      · exact ⟨v, by omega, h⟩
      · exact ⟨k, by omega, h⟩
    · rintro ⟨v, hv, h⟩
      by_cases e : v = k
      · subst e; exact Or.inr h
      · exact Or.inl ⟨v, by omega, h⟩
/-- a leading place that is divided by no other one -/
def mnB (n : Nat) (cd : Nat → Nat) (dv : Nat → Nat → Nat) (hs : Nat → Bool) (i : Nat) : Bool := hs i && !(anyB (fun v => decide (¬ tbX (cd i) v = 0) && hs (dv v i)) n)
theorem mnB_iff {n : Nat} {cd : Nat → Nat} {dv : Nat → Nat → Nat} {hs : Nat → Bool} {i : Nat} : mnB n cd dv hs i = true ↔ hs i = true ∧ ∀ v, v < n → ¬ tbX (cd i) v = 0 → hs (dv v i) = false := by
  unfold mnB
  rw [Bool.and_eq_true, Bool.not_eq_true', ← Bool.not_eq_true, anyB_iff]
  constructor
  · rintro ⟨h1, h2⟩
    refine ⟨h1, fun v hv hx => ?_⟩
    cases h : hs (dv v i) with
    | false => rfl
    | true => exact absurd ⟨v, hv, by rw [h, Bool.and_true]; exact decide_eq_true hx⟩ h2
  · rintro ⟨h1, h2⟩
    refine ⟨h1, ?_⟩
    rintro ⟨v, hv, h3⟩
    rw [Bool.and_eq_true] at h3
    have := h2 v hv (of_decide_eq_true h3.1)
    rw [this] at h3
    exact absurd h3.2 Bool.false_ne_true
def mnF (f : Nat → Bool) : Nat → List Nat
  | 0 => []
  | k + 1 => if f k = true then mnF f k ++ [k] else mnF f k
theorem mnF_len (f : Nat → Bool) : ∀ k, (mnF f k).length ≤ k
  | 0 => Nat.le_refl 0
  | k + 1 => by
    unfold mnF
    have := mnF_len f k
    by_cases c : f k = true
    · rw [if_pos c, List.length_append]; show _ + 1 ≤ _; omega
    · rw [if_neg c]; omega
theorem mnF_mem {f : Nat → Bool} : ∀ {k i c : Nat}, (mnF f k)[i]? = some c → c < k ∧ f c = true := by
  intro k
  induction k with
  | zero => intro i c h; cases h
  | succ k ih =>
    intro i c h
    unfold mnF at h
    by_cases q : f k = true
    · rw [if_pos q] at h
      rcases Nat.lt_trichotomy i (mnF f k).length with e | e | e
      · rw [List.getElem?_append_left e] at h
        have := ih h
        exact ⟨by omega, this.2⟩
      · subst e
        rw [List.getElem?_append_right (Nat.le_refl _), Nat.sub_self] at h
        have : k = c := Option.some.inj h
        subst this
        exact ⟨by omega, q⟩
      · rw [List.getElem?_eq_none (by rw [List.length_append]; show (mnF f k).length + 1 ≤ i; omega)] at h
        cases h
    · rw [if_neg q] at h
      have := ih h
      exact ⟨by omega, this.2⟩
theorem mnF_has {f : Nat → Bool} : ∀ {k c : Nat}, c < k → f c = true → ∃ i, i < (mnF f k).length ∧ (mnF f k)[i]? = some c := by
  intro k
  induction k with
  | zero => intro c h; omega
  | succ k ih =>
    intro c h hf
    unfold mnF
    by_cases q : f k = true
    · rw [if_pos q]
      by_cases e : c = k
      · subst e
        refine ⟨(mnF f c).length, by rw [List.length_append]; show _ < _ + 1; omega, ?_⟩
        rw [List.getElem?_append_right (Nat.le_refl _), Nat.sub_self]; rfl
      · obtain ⟨i, hi, hc⟩ := ih (by omega) hf
        refine ⟨i, by rw [List.length_append]; omega, ?_⟩
        rw [List.getElem?_append_left hi]; exact hc
    · rw [if_neg q]
      have e : c ≠ k := fun e => q (by rw [← e]; exact hf)
      exact ih (by omega) hf
theorem mnF_ext {f : Nat → Bool} {s : Nat} (h : ∀ i, s ≤ i → f i = false) : ∀ k, s ≤ k → mnF f k = mnF f s := by
  intro k
  induction k with
  | zero => intro hk; rw [show s = 0 by omega]
  | succ k ih =>
    intro hk
    by_cases e : s = k + 1
    · rw [e]
    · show (if f k = true then mnF f k ++ [k] else mnF f k) = _
      rw [if_neg (by rw [h k (by omega)]; decide)]
      exact ih (by omega)
def aN (A : Nat → Int32) (L : List Nat) : Prop := ∀ i c, L[i]? = some c → A i = nI c
theorem aN_app {A : Nat → Int32} {L : List Nat} (h : aN A L) (c : Nat) : aN (upd A L.length (nI c)) (L ++ [c]) := by
  intro i q hq
  rcases Nat.lt_trichotomy i L.length with e | e | e
  · rw [List.getElem?_append_left e] at hq
    rw [pk_un (by omega)]
    exact h i q hq
  · subst e
    rw [List.getElem?_append_right (Nat.le_refl _), Nat.sub_self] at hq
    have : c = q := Option.some.inj hq
    subst this
    exact pk_us
  · rw [List.getElem?_eq_none (by rw [List.length_append]; show L.length + 1 ≤ i; omega)] at hq
    cases hq
theorem aN_get {A : Nat → Int32} {L : List Nat} (h : aN A L) {i : Nat} (hi : i < L.length) : ∃ c, L[i]? = some c ∧ A i = nI c := ⟨_, List.getElem?_eq_getElem hi, h i _ (List.getElem?_eq_getElem hi)⟩
theorem s_byVariable {n o H N : Nat} {cd dg fd : Nat → Nat} {pm dv : Nat → Nat → Nat} (T : Tb n o H N cd dg fd pm dv) {codes first : Nat → Int32} (hc : ∀ i, i < N → codes i = nI (cd i)) (hf : ∀ d, d ≤ H + 1 → first d = nI (fd d)) {a b : Int32} {i v : Nat} (hi : i < N) (hv : v < n) {Q : Int32 → Prop} (h1 : ¬ tbX (cd i) v = 0 → Q (nI (dv v i))) (h0 : tbX (cd i) v = 0 → Q (-1)) :
    vc_mn_byVariable (nI n) a (nI H) b codes first (nI i) (nI v) Q := by
  have hN := T.N126
  have hn := T.n4
  have hcl := T.cdlt i hi
  refine ⟨pk_in i 126 (by omega), ?_⟩
  rintro x rfl
  rw [nI_clamp (n := i) (by omega), hc i hi]
  refine s_expoN hcl (by omega) ?_
  have hX := tbX_lt (cd i) v
  refine ⟨fun hne => ?_, fun he => h0 ?_⟩
  · have hx : ¬ tbX (cd i) v = 0 := fun e => hne (by rw [e]; rfl)
    obtain ⟨g1, g2, g3, g4⟩ := T.dvN v i hv hi hx
    refine s_unit (by omega) ?_
    rw [pk_sub (by omega), show cd i - tbU v = cd (dv v i) by omega]
    refine s_placeOf T hc hf (fun j hj he => ?_) (fun hno => absurd rfl (hno _ g1))
    rw [T.cdinj j (dv v i) hj g1 ((nI_eq (T.cdlt j hj) (T.cdlt _ g1)).mp he)]
    exact h1 hx
  · rcases Nat.eq_zero_or_pos (tbX (cd i) v) with q | q
    · exact q
    · exact absurd he (nI_ne0 q (by omega))
theorem s_hasDividing {p sz ct n o H N i : Nat} {cd dg fd : Nat → Nat} {pm dv : Nat → Nat → Nat} (T : Tb n o H N cd dg fd pm dv) {codes first coef leads rol : Nat → Int32} (hc : ∀ i, i < N → codes i = nI (cd i)) (hf : ∀ d, d ≤ H + 1 → first d = nI (fd d)) {R : Nat → Nat → Nat} {ld : Nat → Nat} (hS : spOK p sz ct coef leads rol R ld) {hs : Nat → Bool} (hh : ldB ct ld hs) {a b c d e f : Int32} (hi : i < N)
    {Q : Int32 → Prop} (h1 : (∃ v, v < n ∧ ¬ tbX (cd i) v = 0 ∧ hs (dv v i) = true) → Q 1) (h0 : (∀ v, v < n → ¬ tbX (cd i) v = 0 → hs (dv v i) = false) → Q 0) :
    vc_me_hasDividingLead (nI n) a (nI H) b codes first c (nI sz) d rol e f (nI i) Q := by
  have hN := T.N126
  have hn := T.n4
  refine ⟨fun x => ∃ k, k ≤ n ∧ x = nI k ∧ ∀ v, v < k → ¬ tbX (cd i) v = 0 → hs (dv v i) = false, fun x => 10 - x.toNatClampNeg, ⟨0, Nat.zero_le _, rfl, fun v hv => absurd hv (Nat.not_lt_zero v)⟩, ?_⟩
  rintro x ⟨k, hk, rfl, hno⟩
  refine pk_le n k (fun h => h0 (fun v hv => hno v (by omega))) (fun h => ?_)
  have step : (¬ tbX (cd i) k = 0 → hs (dv k i) = false) → ∀ y, y = nI k + 1 → (∃ k, k ≤ n ∧ y = nI k ∧ ∀ v, v < k → ¬ tbX (cd i) v = 0 → hs (dv v i) = false) ∧ 10 - y.toNatClampNeg < 10 - (nI k).toNatClampNeg := by
    rintro h2 y rfl
    rw [nI_1, nI_clamp (n := k + 1) (by omega), nI_clamp (n := k) (by omega)]
    refine ⟨⟨k + 1, by omega, rfl, fun v hv => ?_⟩, by omega⟩
    by_cases q : v = k
    · subst q; exact h2
    · exact hno v (by omega)
  refine s_byVariable T hc hf hi h (fun hx => ?_) (fun hx => ?_)
  · have g1 := (T.dvN k i h hi hx).1
    refine s_isLeadB hS hh (by omega) (fun hb => ?_) (fun hb => ?_)
    · exact ⟨fun q => absurd q (by decide), fun _ => h1 ⟨k, h, hx, hb⟩⟩
    · exact ⟨fun _ => step (fun _ => hb), fun q => absurd rfl q⟩
  · exact s_isLead_none ⟨fun _ => step (fun q => absurd hx q), fun q => absurd rfl q⟩
/-- the one row of the space with a leading place and no other leading place -/
def RedRow (p : Nat) [NeZero p] (S : (Nat → Fin p) → Prop) (hs : Nat → Bool) (i : Nat) (b : Nat → Nat) : Prop :=
  (∀ q, b q < p) ∧ b i = 1 ∧ (∀ q, i < q → b q = 0) ∧ (∀ j, hs j = true → j ≠ i → b j = 0) ∧ S (fun q => Fin.ofNat p (b q))
theorem red_uniq {p : Nat} [NeZero p] {S : (Nat → Fin p) → Prop} (hS : lsub S) {hs : Nat → Bool} (htop : ∀ f, S f → (∀ i, f i = 0) ∨ ∃ j, hs j = true ∧ ¬ f j = 0 ∧ ∀ i, j < i → f i = 0) {i : Nat} {b c : Nat → Nat} (hb : RedRow p S hs i b) (hc : RedRow p S hs i c) : ∀ q, b q = c q := by
  obtain ⟨b1, b2, b3, b4, b5⟩ := hb
  obtain ⟨c1, c2, c3, c4, c5⟩ := hc
  have hd := hS.2.1 _ _ b5 (hS.2.2 (-1) _ c5)
  rcases htop _ hd with h | ⟨j, hj, hne, -⟩
  · intro q
    refine en_inj (p := p) (b1 q) (c1 q) ?_
    have := h q
    grind
  · exfalso
    apply hne
    by_cases e : j = i
    · subst e; rw [b2, c2]; grind
    · rw [b4 j hj e, c4 j hj e]; grind
set_option maxHeartbeats 1000000 in
theorem s_addReduced {p sz ct i : Nat} [NeZero p] {coef leads rol taken mcoef mleads mwork : Nat → Int32} {R : Nat → Nat → Nat} {ld : Nat → Nat} (hp : 2 ≤ p) (hpm : p ≤ 32003) (hS : spOK p sz ct coef leads rol R ld) {hs : Nat → Bool} (hh : ldB ct ld hs) (hi : hs i = true) {a b c : Int32} {L : List Nat} (hl : L.length < 126) (hm : aN mleads L)
    {Q : (Nat → Int32) → Int32 → (Nat → Int32) → (Nat → Int32) → (Nat → Int32) → Prop} (hQ : ∀ (taken' mcoef' mleads' mwork' : Nat → Int32) (w : Nat → Nat), aN mleads' (L ++ [i]) → RedRow p (la_in ct (rv p R)) hs i w → (∀ q, q ≤ i → mcoef' (i * (i + 1) / 2 + q) = nI (w q)) → (∀ j q, j ≠ i → q ≤ j → mcoef' (j * (j + 1) / 2 + q) = mcoef (j * (j + 1) / 2 + q)) → Q taken' (nI (L ++ [i]).length) mcoef' mleads' mwork') :
    vc_me_addReduced (nI p) a (nI sz) b coef leads rol taken (nI L.length) c mcoef mleads mwork (nI i) Q := by
  obtain ⟨r, hr, rfl⟩ := (hh i).mp hi
  have hct := hS.2.1
  have hsz := hS.1
  obtain ⟨hld, hls, hrl, hR1⟩ := hS.2.2.1 r hr
  have hRz := hS.2.2.2.2.2 r hr
  refine s_fill (by decide) _ _ (fun W0 hW0 _ => ?_)
  refine ⟨pk_in (ld r) 126 (by omega), ?_⟩
  rw [nI_clamp (n := ld r) (by omega), hrl]
  refine s_addRow (w := 1) (by omega) hpm (by omega) hld (by omega) (by omega) (by omega) (cf := R r) (a := fun _ => 0) (hS.2.2.2.2.1 r hr) (by omega) (fun i hi => ⟨hW0 i (by omega), by omega⟩) (fun W1 hW1 hW1o => ?_)
  have hW : ∀ q, q < 126 → W1 q = nI (R r q) ∧ R r q < p := fun q hq => by
    by_cases c : q ≤ ld r
    · have := (hS.2.2.2.2.1 r hr q c).2
      refine ⟨?_, this⟩
      rw [hW1 q c, Nat.zero_add, Nat.one_mul, Nat.mod_eq_of_lt this]
    · rw [hRz q (by omega), hW1o q (by omega), hW0 q hq]
      exact ⟨rfl, by omega⟩
  refine s_reduce hp hpm hS (m := ld r) (w := 126) (by omega) (Nat.le_refl _) (Nat.le_refl _) hW (fun B tk b t hB _ htk hto htm hbo hbz hlin => ?_)
  refine s_startOfLine (by omega) ?_
  have htr := tr_in (show ld r < 126 by omega) (Nat.le_refl (ld r))
  rw [nI_1]
  refine ⟨by decide, nI_pos (by omega), nI_pos (by omega), ?_⟩
  rw [nI_clamp (n := ld r + 1) (by omega), nI_clamp (n := ld r * (ld r + 1) / 2) (by omega)]
  refine ⟨by show 0 + (ld r + 1) ≤ 126; omega, by omega, ?_⟩
  rintro C rfl
  refine ⟨pk_in L.length 126 hl, ?_⟩
  rintro M1 rfl
  rintro y rfl
  rw [nI_clamp (n := L.length) (by omega), nI_1]
  have e : L.length + 1 = (L ++ [ld r]).length := by rw [List.length_append]; rfl
  rw [e]
  have hb0 : ∀ q, ld r < q → q < 126 → b q = 0 := fun q h1 h2 => by rw [hbo q (by omega) h2]; exact hRz q h1
  obtain ⟨w, hw1, hw2⟩ : ∃ w : Nat → Nat, (∀ q, q < 126 → w q = b q) ∧ ∀ q, ¬ q < 126 → w q = 0 := ⟨fun q => if q < 126 then b q else 0, fun q h => if_pos h, fun q h => if_neg h⟩
  refine hQ tk _ _ B w (aN_app hm _) ⟨fun q => ?_, ?_, fun q hq => ?_, fun j hj hne => ?_, ?_⟩ (fun q hq => ?_) (fun j q hne hq => ?_)
  · by_cases c : q < 126
    · rw [hw1 q c]; exact (hB q c).2
    · rw [hw2 q c]; omega
  · rw [hw1 _ (by omega), hbo _ (Nat.le_refl _) (by omega)]; exact hR1
  · by_cases c : q < 126
    · rw [hw1 q c]; exact hb0 q hq c
    · rw [hw2 q c]
  · obtain ⟨r2, hr2, rfl⟩ := (hh j).mp hj
    have h3 := (hS.2.2.1 r2 hr2).2.1
    rw [hw1 _ (by omega)]
    by_cases c : ld r2 < ld r
    · exact hbz r2 hr2 c
    · exact hb0 _ (by omega) (by omega)
  · refine la_in_ext (la_in_add (la_in_row (R := rv p R) hr) (la_in_mul (-1) (⟨fun r => Fin.ofNat p (t r), fun i => rfl⟩ : la_in ct (rv p R) (fun i => la_sm (fun r => Fin.ofNat p (t r) * rv p R r i) ct)))) (fun q => ?_)
    by_cases c : q < 126
    · have h5 := hlin q c
      rw [hw1 q c]
      have h6 : rv p R r q = Fin.ofNat p (R r q) := rfl
      have h7 : la_sm (fun r => Fin.ofNat p (t r) * rv p R r q) ct = la_sm (fun r => Fin.ofNat p (t r) * Fin.ofNat p (R r q)) ct := rfl
      rw [h6, h7, ← h5]
      grind
    · rw [hw2 q c, en_0]
      have h6 : rv p R r q = 0 := by show Fin.ofNat p (R r q) = 0; rw [hRz q (by omega), en_0]
      rw [h6, la_sm_zero (fun j hj => by
        show _ * Fin.ofNat p (R j q) = 0
        have := (hS.2.2.1 j hj).2.1
        rw [hS.2.2.2.2.2 j hj q (by omega), en_0]; grind)]
      grind
  · have e0 : (0 : Int32).toNatClampNeg = 0 := by decide
    rw [e0, pk_cpy_in (by omega) (by omega), show 0 + (ld r * (ld r + 1) / 2 + q - ld r * (ld r + 1) / 2) = q by omega, hw1 q (by omega)]
    exact (hB q (by omega)).1
  · rw [pk_cpy_out]
    rcases Nat.lt_or_gt_of_ne hne with c | c
    · have := tr_lt c; omega
    · have := tr_lt c; omega
