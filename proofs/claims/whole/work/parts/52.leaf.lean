/-! PURE: what the small methods answer -/
theorem pn_lit0 : (0 : Int32) = nI 0 := rfl
theorem pn_m1_lt (n : Nat) (h : n < 2 ^ 31) : (-1 : Int32) < nI n := by
  rw [Int32.lt_iff_toInt_lt, nI_toInt h]
  have : (-1 : Int32).toInt = -1 := by decide
  omega
theorem pn_m1_ne (n : Nat) (h : n < 2 ^ 31) : ¬ nI n = (-1 : Int32) := fun e => by
  have a := nI_toInt h
  rw [e] at a
  have : (-1 : Int32).toInt = -1 := by decide
  omega
theorem pn_m1_neg : (-1 : Int32) < 0 := by decide
/-- Arrays.fill -/
theorem s_fill {n : Nat} (hn : n < 2 ^ 31) (A : Nat → Int32) (x : Int32) {Q : (Nat → Int32) → Prop} (hQ : ∀ B : Nat → Int32, (∀ j, j < n → B j = x) → (∀ j, n ≤ j → B j = A j) → Q B) : vc_Ar_fill n A x Q := by
  intro len hlen
  refine ⟨fun i B => ∃ k : Nat, k ≤ n ∧ i = nI k ∧ (∀ j, j < k → B j = x) ∧ ∀ j, k ≤ j → B j = A j, fun i _ => n - i.toNatClampNeg, ⟨0, Nat.zero_le _, rfl, fun j h => absurd h (Nat.not_lt_zero j), fun _ _ => rfl⟩, ?_⟩
  rintro i B ⟨k, hk, rfl, h1, h2⟩
  have hl : len = nI n := hlen
  subst hl
  refine ⟨fun h => ?_, fun h => ?_⟩
  · have : n ≤ k := (nI_leI hn (by omega)).mp h
    obtain rfl : k = n := by omega
    exact hQ B h1 h2
  · have hlt : k < n := by
      rcases Nat.lt_or_ge k n with q | q
      · exact q
      · exact absurd ((nI_leI hn (by omega)).mpr q) h
    refine ⟨vp_in_nI hlt hn, ?_⟩
    rintro B' rfl y rfl
    rw [nI_clamp (by omega), nI_1]
    dsimp only
    rw [nI_clamp (n := k + 1) (by omega), nI_clamp (n := k) (by omega)]
    refine ⟨⟨k + 1, hlt, rfl, fun j hj => ?_, fun j hj => ?_⟩, by omega⟩
    · by_cases e : j = k
      · subst e; exact pk_us
      · rw [pk_un e]; exact h1 j (by omega)
    · rw [pk_un (by omega)]; exact h2 j (by omega)
/-- where line i begins -/
theorem s_startOfLine {i : Nat} (hi : i ≤ 126) {Q : Int32 → Prop} (hQ : Q (nI (i * (i + 1) / 2))) : vc_x_startOfLine (nI i) Q := by
  have hb : i * (i + 1) ≤ 126 * 127 := Nat.mul_le_mul hi (by omega)
  refine ⟨by decide, ?_⟩
  rw [nI_1, pk_mul, show (2 : Int32) = nI 2 from rfl, pk_div (by omega) (by omega) (by omega)]
  exact hQ
/-- one more than the greatest place below m that holds something; 0 if there is none -/
def tp (A : Nat → Int32) : Nat → Nat
  | 0 => 0
  | m + 1 => if A m = 0 then tp A m else m + 1
theorem tp_s (A : Nat → Int32) (m : Nat) : tp A (m + 1) = if A m = 0 then tp A m else m + 1 := rfl
theorem tp_le (A : Nat → Int32) : ∀ m, tp A m ≤ m
  | 0 => Nat.le_refl 0
  | m + 1 => by
    unfold tp
    by_cases h : A m = 0
    · rw [if_pos h]; have := tp_le A m; omega
    · rw [if_neg h]; omega
theorem tp_above (A : Nat → Int32) : ∀ m j, tp A m ≤ j → j < m → A j = 0
  | 0, j, _, h => absurd h (Nat.not_lt_zero j)
  | m + 1, j, h1, h2 => by
    unfold tp at h1
    by_cases h : A m = 0
    · rw [if_pos h] at h1
      by_cases e : j = m
      · subst e; exact h
      · exact tp_above A m j h1 (by omega)
    · rw [if_neg h] at h1; omega
theorem tp_top (A : Nat → Int32) : ∀ m t, tp A m = t + 1 → ¬ A t = 0
  | 0, t, h => absurd h (by unfold tp; omega)
  | m + 1, t, h => by
    unfold tp at h
    by_cases q : A m = 0
    · rw [if_pos q] at h; exact tp_top A m t h
    · rw [if_neg q] at h
      obtain rfl : t = m := by omega
      exact q
theorem pn_pred {k : Nat} (h : k ≤ 2 ^ 29) : (nI k - 1).toInt = (k : Int) - 1 := by
  have := pk_sub_toInt (a := k) (b := 1) (by omega) (by omega)
  exact this
theorem pn_pred_s (k : Nat) : nI (k + 1) - 1 = nI k := nI_pred k
theorem s_topOf {A : Nat → Int32} {n m : Nat} (hn : n ≤ 2 ^ 29) (hm : m ≤ n) {Q : Int32 → Prop} (hQ : Q (nI (tp A m) - 1)) : vc_x_topOf n A (nI m - 1) Q := by
  intro x hx
  have hnl : ¬ (Int32.ofNat n - 1 < nI m - 1) := by
    rw [Int32.lt_iff_toInt_lt, show Int32.ofNat n - 1 = nI n - 1 from rfl, pn_pred hn, pn_pred (by omega)]
    omega
  rw [if_neg hnl] at hx
  refine ⟨fun x => ∃ k : Nat, k ≤ m ∧ x = nI k - 1 ∧ tp A m = tp A k, fun x => (x + 1).toNatClampNeg, ⟨m, Nat.le_refl m, hx, rfl⟩, ?_⟩
  rintro y ⟨k, hk, rfl, ht⟩
  refine ⟨fun h => ?_, fun h => ?_⟩
  · have h0 : k = 0 := by
      rw [Int32.lt_iff_toInt_lt, pn_pred (by omega), Int32.toInt_zero] at h
      omega
    subst h0
    rw [ht] at hQ
    exact hQ
  · have h0 : 0 < k := by
      rcases Nat.eq_zero_or_pos k with q | q
      · subst q; exact absurd (by decide) h
      · exact q
    obtain ⟨j, rfl⟩ : ∃ j, k = j + 1 := ⟨k - 1, by omega⟩
    rw [pn_pred_s, nI_clamp (by omega)]
    refine ⟨vp_in_nI (by omega) (by omega), fun hz => ?_, fun hz => ?_⟩
    · rintro z rfl
      have e1 : nI j + -1 = nI j - 1 := by rw [Int32.sub_eq_add_neg]
      refine ⟨⟨j, by omega, e1, ?_⟩, ?_⟩
      · rw [ht, tp_s, if_pos hz]
      · have e2 : nI j + -1 + 1 = nI j := by rw [Int32.add_assoc]; exact Int32.add_zero _
        dsimp only
        rw [e2, nI_1, nI_clamp (n := j) (by omega), nI_clamp (n := j + 1) (by omega)]
        omega
    · have e : tp A m = j + 1 := by rw [ht, tp_s, if_neg hz]
      rw [e, pn_pred_s] at hQ
      exact hQ
/-- products modulo p -/
theorem s_product {p a b : Nat} (hp : 0 < p) (hpm : p ≤ 32003) (ha : a < p) (hb : b < p) {Q : Int32 → Prop} (hQ : Q (nI (a * b % p))) : vc_mo_product (nI p) (nI a) (nI b) Q := by
  have hm : a * b ≤ 32002 * 32002 := Nat.mul_le_mul (by omega) (by omega)
  refine ⟨nI_ne0 hp (by omega), ?_⟩
  rw [pk_mul, pk_rem (by omega) hp (by omega)]
  exact hQ
theorem s_opposite {p a : Nat} (hpm : p ≤ 32003) (ha : a < p) {Q : Int32 → Prop} (hQ : Q (nI ((p - a) % p))) : vc_mo_opposite (nI p) (nI a) Q := by
  refine ⟨fun h => ?_, fun h => ?_⟩
  · have h0 : 0 < a := by
      rcases Nat.eq_zero_or_pos a with q | q
      · subst q; exact absurd rfl h
      · exact q
    rw [pk_sub (by omega)]
    rw [Nat.mod_eq_of_lt (by omega)] at hQ
    exact hQ
  · have h0 : a = 0 := by
      rcases Nat.eq_zero_or_pos a with q | q
      · exact q
      · exact absurd h (nI_ne0 q (by omega))
    subst h0
    rw [Nat.sub_zero, Nat.mod_self] at hQ
    exact hQ
theorem pn_par {k : Nat} (h : k < 2 ^ 31) : nI k &&& 1 = nI (k % 2) := pk_andN (by omega) 1 (by decide)
theorem pn_half {k : Nat} (h : k < 2 ^ 31) : nI k >>> ((1 : Int32) &&& 31) = nI (k / 2) := pk_shrN h _ 1 (by decide)
theorem pn_sq {p b k : Nat} : (b * b % p) ^ (k / 2) % p = b ^ (2 * (k / 2)) % p := by
  rw [← Nat.pow_mod, Nat.pow_mul, Nat.pow_two]
/-- the inverse: a power -/
theorem s_inverse {p c : Nat} (hp : 2 ≤ p) (hpm : p ≤ 32003) (hc : c < p) {Q : Int32 → Prop} (hQ : Q (nI (c ^ (p - 2) % p))) : vc_mo_inverse (nI p) (nI c) Q := by
  intro x hx
  have hx : x = nI (p - 2) := by rw [hx, show (2 : Int32) = nI 2 from rfl, pk_sub hp]
  subst hx
  refine ⟨fun r w x => ∃ a b k : Nat, a < p ∧ b < p ∧ k ≤ p ∧ r = nI a ∧ w = nI b ∧ x = nI k ∧ a * b ^ k % p = c ^ (p - 2) % p, fun _ _ x => x.toNatClampNeg,
    ⟨1, c, p - 2, by omega, hc, by omega, rfl, rfl, rfl, by rw [Nat.one_mul]⟩, ?_⟩
  rintro r w x ⟨a, b, k, ha, hb, hk, rfl, rfl, rfl, he⟩
  refine ⟨fun h => ?_, fun h => ?_⟩
  · have h0 : k ≤ 0 := (nI_leI (a := k) (b := 0) (by omega) (by omega)).mp h
    obtain rfl : k = 0 := by omega
    rw [Nat.pow_zero, Nat.mul_one, Nat.mod_eq_of_lt ha] at he
    rw [← he] at hQ
    exact hQ
  · have h0 : 0 < k := by
      rcases Nat.eq_zero_or_pos k with q | q
      · subst q; exact absurd (nI_le (Nat.le_refl 0) (by omega)) h
      · exact q
    have hbb : b * b % p < p := Nat.mod_lt _ (by omega)
    have hab : a * b % p < p := Nat.mod_lt _ (by omega)
    rw [pn_par (by omega)]
    refine ⟨fun hq => ?_, fun hq => ?_⟩
    · have hev : k % 2 = 0 := by
        rcases Nat.mod_two_eq_zero_or_one k with q | q
        · exact q
        · rw [q] at hq; exact absurd rfl hq
      refine s_product (by omega) hpm hb hb ?_
      rintro y rfl
      rw [pn_half (by omega)]
      dsimp only
      rw [nI_clamp (n := k / 2) (by omega), nI_clamp (n := k) (by omega)]
      refine ⟨⟨a, b * b % p, k / 2, ha, hbb, by omega, rfl, rfl, rfl, ?_⟩, by omega⟩
      rw [Nat.mul_mod, pn_sq, ← Nat.mul_mod, show 2 * (k / 2) = k by omega]
      exact he
    · have hod : k % 2 = 1 := by
        rcases Nat.mod_two_eq_zero_or_one k with q | q
        · rw [q] at hq; exact absurd hq (by decide)
        · exact q
      refine s_product (by omega) hpm ha hb ?_
      refine s_product (by omega) hpm hb hb ?_
      rintro y rfl
      rw [pn_half (by omega)]
      dsimp only
      rw [nI_clamp (n := k / 2) (by omega), nI_clamp (n := k) (by omega)]
      refine ⟨⟨a * b % p, b * b % p, k / 2, hab, hbb, by omega, rfl, rfl, rfl, ?_⟩, by omega⟩
      rw [Nat.mul_mod, pn_sq, Nat.mod_mod, ← Nat.mul_mod, Nat.mul_assoc, ← Nat.pow_succ', show (2 * (k / 2)).succ = k by omega]
      exact he
/-- primes -/
theorem s_isPrime (x : Int32) {Q : Int32 → Prop} (h1 : ∀ p : Nat, x = nI p → p ≤ 32003 → fe_P p → Q 1) (h0 : (∀ p : Nat, x = nI p → p ≤ 32003 → ¬ fe_P p) → Q 0) : vc_mo_isPrime x Q := by
  refine ⟨fun h => h0 (fun p e hp hP => ?_), fun h => ⟨fun hle => ?_, fun hle => h0 (fun p e hp hP => ?_)⟩⟩
  · rw [e] at h
    have := (nI_ltI (a := p) (b := 2) (by omega) (by omega)).mp h
    have := hP.1
    omega
  · have hnn : ¬ x < 0 := fun q => h (Int32.lt_trans q (by decide))
    obtain ⟨p, hp, rfl⟩ := nI_of hnn
    have hp3 : p ≤ 32003 := (nI_leI (a := p) (b := 32003) hp (by omega)).mp hle
    have hp2 : 2 ≤ p := by
      rcases Nat.lt_or_ge p 2 with q | q
      · exact absurd ((nI_ltI (a := p) (b := 2) hp (by omega)).mpr q) h
      · exact q
    refine ⟨fun d => ∃ k : Nat, 2 ≤ k ∧ k ≤ 200 ∧ d = nI k ∧ ∀ e, 2 ≤ e → e < k → ¬ e ∣ p, fun d => 200 - d.toNatClampNeg, ⟨2, Nat.le_refl 2, by omega, rfl, fun e h1 h2 => by omega⟩, ?_⟩
    rintro d ⟨k, hk2, hk, rfl, hd⟩
    have hkk : k * k ≤ 200 * 200 := Nat.mul_le_mul hk hk
    rw [pk_mul]
    refine ⟨fun hq => ?_, fun hq => ⟨nI_ne0 (by omega) (by omega), ?_⟩⟩
    · have hlt : p < k * k := (nI_ltI hp (by omega)).mp hq
      refine h1 p rfl hp3 ⟨hp2, fun e he1 he2 hdv => ?_⟩
      obtain ⟨f, hf⟩ := hdv
      have hek : k ≤ e := by
        rcases Nat.lt_or_ge e k with q | q
        · exact absurd ⟨f, hf⟩ (hd e he1 q)
        · exact q
      have hf2 : 2 ≤ f := by
        rcases Nat.lt_or_ge f 2 with q | q
        · have : f = 0 ∨ f = 1 := by omega
          rcases this with rfl | rfl
          · omega
          · omega
        · exact q
      have hfk : k ≤ f := by
        rcases Nat.lt_or_ge f k with q | q
        · exact absurd ⟨e, by rw [hf, Nat.mul_comm]⟩ (hd f hf2 q)
        · exact q
      have := Nat.mul_le_mul hek hfk
      omega
    · have hle2 : k * k ≤ p := by
        rcases Nat.lt_or_ge p (k * k) with q | q
        · exact absurd ((nI_ltI hp (by omega)).mpr q) hq
        · exact q
      have hk179 : k < 200 := by
        rcases Nat.lt_or_ge k 200 with q | q
        · exact q
        · have := Nat.mul_le_mul q q; omega
      rw [pk_rem hp (by omega) (by omega)]
      have hml : p % k < k := Nat.mod_lt _ (by omega)
      refine ⟨fun hr => ?_, fun hr => h0 (fun p' e hp' hP => ?_)⟩
      · rintro y rfl
        rw [nI_1]
        dsimp only
        rw [nI_clamp (n := k + 1) (by omega), nI_clamp (n := k) (by omega)]
        refine ⟨⟨k + 1, by omega, by omega, rfl, fun e h1 h2 => ?_⟩, by omega⟩
        by_cases q : e = k
        · subst q
          intro hdv
          rw [Nat.mod_eq_zero_of_dvd hdv] at hr
          exact hr rfl
        · exact hd e h1 (by omega)
      · obtain rfl : p' = p := (nI_eq (by omega) hp).mp e.symm
        have hz : p' % k = 0 := by
          rcases Nat.eq_zero_or_pos (p' % k) with q | q
          · exact q
          · exact absurd hr (nI_ne0 q (by omega))
        have hdv : k ∣ p' := Nat.dvd_of_mod_eq_zero hz
        have hkp : k < p' := by
          have : k * 2 ≤ k * k := Nat.mul_le_mul (Nat.le_refl k) hk2
          omega
        exact hP.2 k hk2 hkp hdv
  · rw [e] at hle
    exact hle (nI_le (b := 32003) hp (by decide))
