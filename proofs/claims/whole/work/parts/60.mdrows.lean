/-! PURE: the reference: inverse, takeRow, reduce -/
theorem md_rem {p a : Nat} (ha : a < 2 ^ 62) (hp : 0 < p) (hpm : p ≤ 32003) : (lN a - lN a / (nI p).toInt64 * (nI p).toInt64).toInt32 = nI (a % p) := by
  rw [nI_l (by omega), pk_lRem (by omega) hp (by omega), lN_i]
theorem md_p0 {p : Nat} (hp : 0 < p) (hpm : p ≤ 32003) : ¬ (nI p).toInt64 = 0 := by
  rw [nI_l (by omega), show (0 : Int64) = lN 0 from rfl, pk_lEQ (by omega) (by omega)]
  omega
theorem md_mulb {a b : Nat} (ha : a ≤ 32003) (hb : b ≤ 32003) : a * b ≤ 32003 * 32003 := Nat.mul_le_mul ha hb
set_option maxHeartbeats 1000000 in
theorem s_md_inverse {p c : Nat} {c0 c2 c3 c4 c5 c6 c7 c8 c9 : Int32} (hp : 2 ≤ p) (hpm : p ≤ 32003) (hc : c < p) {Q : Int32 → Prop} (hQ : Q (nI (c ^ (p - 2) % p))) : vc_md_inverse c0 (nI p) c2 c3 c4 c5 c6 c7 c8 c9 (nI c) Q := by
  intro x0 hx0 x hx
  have hx : x = nI (p - 2) := by rw [hx, show (2 : Int32) = nI 2 from rfl, pk_sub hp]
  have hx0 : x0 = lN c := by rw [hx0, nI_l (by omega)]
  subst hx hx0
  refine ⟨fun r w x => ∃ a b k : Nat, a < p ∧ b < p ∧ k ≤ p ∧ r = lN a ∧ w = lN b ∧ x = nI k ∧ a * b ^ k % p = c ^ (p - 2) % p, fun _ _ x => x.toNatClampNeg,
    ⟨1, c, p - 2, by omega, hc, by omega, rfl, rfl, rfl, by rw [Nat.one_mul]⟩, ?_⟩
  rintro r w x ⟨a, b, k, ha, hb, hk, rfl, rfl, rfl, he⟩
  have hab := md_mulb (a := a) (b := b) (by omega) (by omega)
  have hbb := md_mulb (a := b) (b := b) (by omega) (by omega)
  refine ⟨fun h => ?_, fun h => ?_⟩
  · have h0 : k ≤ 0 := (nI_leI (a := k) (b := 0) (by omega) (by omega)).mp h
    obtain rfl : k = 0 := by omega
    rw [Nat.pow_zero, Nat.mul_one, Nat.mod_eq_of_lt ha] at he
    rw [← he] at hQ
    rw [lN_i]
    exact hQ
  · have h0 : 0 < k := by
      rcases Nat.eq_zero_or_pos k with q | q
      · subst q; exact absurd (nI_le (Nat.le_refl 0) (by omega)) h
      · exact q
    have hbb1 : b * b % p < p := Nat.mod_lt _ (by omega)
    have hab1 : a * b % p < p := Nat.mod_lt _ (by omega)
    rw [pn_par (by omega)]
    refine ⟨fun hq => ⟨md_p0 (by omega) hpm, ?_⟩, fun hq => ⟨md_p0 (by omega) hpm, ?_⟩⟩
    · have hev : k % 2 = 0 := by
        rcases Nat.mod_two_eq_zero_or_one k with q | q
        · exact q
        · rw [q] at hq; exact absurd rfl hq
      rintro w1 rfl
      rintro y rfl
      rw [pn_half (by omega), lN_mul, nI_l (by omega), pk_lRem (by omega) (by omega) (by omega)]
      try dsimp only
      rw [nI_clamp (n := k / 2) (by omega), nI_clamp (n := k) (by omega)]
      refine ⟨⟨a, b * b % p, k / 2, ha, hbb1, by omega, rfl, rfl, rfl, ?_⟩, by omega⟩
      rw [Nat.mul_mod, pn_sq, ← Nat.mul_mod, show 2 * (k / 2) = k by omega]
      exact he
    · have hod : k % 2 = 1 := by
        rcases Nat.mod_two_eq_zero_or_one k with q | q
        · rw [q] at hq; exact absurd hq (by decide)
        · exact q
      rintro r1 rfl
      refine ⟨md_p0 (by omega) hpm, ?_⟩
      rintro w1 rfl
      rintro y rfl
      rw [pn_half (by omega), lN_mul, lN_mul, nI_l (by omega), pk_lRem (by omega) (by omega) (by omega), pk_lRem (by omega) (by omega) (by omega)]
      try dsimp only
      rw [nI_clamp (n := k / 2) (by omega), nI_clamp (n := k) (by omega)]
      refine ⟨⟨a * b % p, b * b % p, k / 2, hab1, hbb1, by omega, rfl, rfl, rfl, ?_⟩, by omega⟩
      rw [Nat.mul_mod, pn_sq, Nat.mod_mod, ← Nat.mul_mod, Nat.mul_assoc, ← Nat.pow_succ', show (2 * (k / 2)).succ = k by omega]
      exact he
theorem s_md_takeRow {p N i : Nat} {c0 c2 c3 c4 c5 c6 c7 c8 c9 : Int32} {row work : Nat → Int32} (hp : 2 ≤ p) (hpm : p ≤ 32003) (hN : N ≤ 126) (hi : i < N) {m a : Nat → Nat} (hm : ∀ k, k ≤ i → row (126 * i + k) = nI (m k) ∧ m k < p) (ha : ∀ k, k ≤ i → work k = nI (a k) ∧ a k < p)
    {Q : (Nat → Int32) → Prop} (hQ : ∀ B : Nat → Int32, (∀ k, k ≤ i → B k = nI ((a k + (p - a i) * m k) % p)) → (∀ k, i < k → B k = work k) → Q B) : vc_md_takeRow c0 (nI p) c2 c3 c4 c5 c6 c7 c8 c9 row work (nI i) Q := by
  refine ⟨pk_in i 126 (by omega), ?_⟩
  rintro x hx
  have hai := ha i (Nat.le_refl i)
  rw [nI_clamp (n := i) (by omega), hai.1, pk_sub (by omega), nI_l (by omega)] at hx
  subst hx
  refine ⟨fun y B => ∃ k, k ≤ i + 1 ∧ y = nI k ∧ (∀ j, j < k → B j = nI ((a j + (p - a i) * m j) % p)) ∧ ∀ j, k ≤ j → B j = work j, fun y _ => 200 - y.toNatClampNeg, ⟨0, by omega, rfl, fun j hj => absurd hj (Nat.not_lt_zero j), fun _ _ => rfl⟩, ?_⟩
  rintro y B ⟨k, hk, rfl, h1, h2⟩
  refine pk_lt i k (fun h => ?_) (fun h => ?_)
  · obtain rfl : k = i + 1 := by omega
    exact hQ B (fun j hj => h1 j (by omega)) (fun j hj => h2 j (by omega))
  · refine ⟨pk_in k 126 (by omega), ?_⟩
    rw [show (126 : Int32) = nI 126 from rfl, pk_mul, nI_add]
    refine ⟨pk_in (126 * i + k) 15876 (by omega), md_p0 (by omega) hpm, pk_in k 126 (by omega), ?_⟩
    rintro B1 rfl
    rintro y rfl
    have hmk := hm k h
    have hak := ha k h
    have hb := md_mulb (a := p - a i) (b := m k) (by omega) (by omega)
    rw [nI_clamp (n := k) (by omega), nI_clamp (n := 126 * i + k) (by omega), h2 k (Nat.le_refl k), hmk.1, hak.1, nI_l (n := a k) (by omega), nI_l (n := m k) (by omega), lN_mul, lN_add, md_rem (by omega) (by omega) hpm, nI_1]
    refine ⟨⟨k + 1, by omega, rfl, fun j hj => ?_, fun j hj => ?_⟩, ?_⟩
    · by_cases e : j = k
      · subst e; exact pk_us
      · rw [pk_un e]; exact h1 j (by omega)
    · rw [pk_un (by omega)]; exact h2 j (by omega)
    · try dsimp only
      rw [nI_clamp (n := k + 1) (by omega), nI_clamp (n := k) (by omega)]; omega
/-- the rows of the reference: by their leading places -/
def mdR (p N : Nat) (hs : Nat → Bool) (M : Nat → Nat → Nat) (has row : Nat → Int32) : Prop :=
  (∀ i, i < 126 → has i = if hs i then 1 else 0) ∧ (∀ i, hs i = true → i < N ∧ (∀ k, k < N → row (126 * i + k) = nI (M i k) ∧ M i k < p) ∧ M i i = 1 ∧ ∀ k, i < k → M i k = 0) ∧ ∀ i k, hs i = false → M i k = 0
set_option maxHeartbeats 2000000 in
theorem s_md_reduce {p N : Nat} [NeZero p] {c0 c2 c3 c5 c6 c7 c8 c9 : Int32} {has row work : Nat → Int32} {hs : Nat → Bool} {M : Nat → Nat → Nat} (hp : 2 ≤ p) (hpm : p ≤ 32003) (hN : N ≤ 126) (hR : mdR p N hs M has row) {a : Nat → Nat} (ha : ∀ i, i < N → work i = nI (a i) ∧ a i < p)
    {Q : Int32 → (Nat → Int32) → Prop} (hQ : ∀ (x : Int32) (B : Nat → Int32) (b : Nat → Nat) (t : Nat → Fin p), (∀ i, i < N → B i = nI (b i) ∧ b i < p) → (∀ i, i < N → hs i = true → b i = 0) → (∀ i, i < N → Fin.ofNat p (b i) + la_sm (fun j => t j * rv p M j i) N = Fin.ofNat p (a i)) →
      ((x = -1 ∧ ∀ i, i < N → b i = 0) ∨ ∃ l, x = nI l ∧ l < N ∧ ¬ b l = 0 ∧ ∀ i, l < i → i < N → b i = 0) → (∀ j, (∀ i, j ≤ i → i < N → a i = 0) → ∀ k, j ≤ k → k < N → t k = 0) → Q x B) :
    vc_md_reduce c0 (nI p) c2 c3 (nI N) c5 c6 c7 c8 c9 has row work Q := by
  rintro x rfl
  refine ⟨fun x y B => ∃ (k : Nat) (b : Nat → Nat) (t : Nat → Fin p), k ≤ N ∧ y = nI k - 1 ∧ (∀ i, i < N → B i = nI (b i) ∧ b i < p) ∧ (∀ i, k ≤ i → i < N → hs i = true → b i = 0) ∧ (∀ i, i < N → Fin.ofNat p (b i) + la_sm (fun j => t j * rv p M j i) N = Fin.ofNat p (a i)) ∧
      ((x = -1 ∧ ∀ i, k ≤ i → i < N → b i = 0) ∨ ∃ l, x = nI l ∧ k ≤ l ∧ l < N ∧ ¬ b l = 0 ∧ ∀ i, l < i → i < N → b i = 0) ∧ (∀ j, (∀ i, j ≤ i → i < N → a i = 0) → (∀ k, j ≤ k → k < N → t k = 0) ∧ ∀ k, j ≤ k → k < N → b k = 0), fun _ y _ => (y + 1).toNatClampNeg,
    ⟨N, a, fun _ => 0, Nat.le_refl N, rfl, ha, fun i h1 h2 => by omega, fun i hi => by rw [la_sm_zero (fun j _ => by grind)]; grind, Or.inl ⟨rfl, fun i h1 h2 => by omega⟩, fun j hj => ⟨fun _ _ _ => rfl, hj⟩⟩, ?_⟩
  rintro x y B ⟨k, b, t, hk, rfl, hB, hz, hlin, hl, htz⟩
  refine ⟨fun h => ?_, fun h => ?_⟩
  · have h0 : k = 0 := by
      rw [Int32.lt_iff_toInt_lt, pn_pred (by omega), Int32.toInt_zero] at h
      omega
    subst h0
    refine hQ x B b t hB (fun i hi => hz i (Nat.zero_le _) hi) hlin ?_ (fun j hj => (htz j hj).1)
    rcases hl with ⟨q1, q2⟩ | ⟨l, q1, q2, q3, q4, q5⟩
    · exact Or.inl ⟨q1, fun i hi => q2 i (Nat.zero_le _) hi⟩
    · exact Or.inr ⟨l, q1, q3, q4, q5⟩
  · have h0 : 0 < k := by
      rcases Nat.eq_zero_or_pos k with q | q
      · subst q; exact absurd (by decide) h
      · exact q
    obtain ⟨j, rfl⟩ : ∃ j, k = j + 1 := ⟨k - 1, by omega⟩
    rw [pn_pred_s, nI_clamp (n := j) (by omega)]
    refine ⟨pk_in j 126 (by omega), ?_⟩
    have hbj := hB j (by omega)
    rw [hbj.1]
    have e1 : nI j + -1 = nI j - 1 := by rw [Int32.sub_eq_add_neg]
    have e2 : nI j + -1 + 1 = nI j := by rw [Int32.add_assoc]; exact Int32.add_zero _
    have hmu : ((nI j + -1) + 1).toNatClampNeg < (nI j + 1).toNatClampNeg := by
      rw [e2, nI_1, nI_clamp (n := j) (by omega), nI_clamp (n := j + 1) (by omega)]
      omega
    refine pk_eq (b j) 0 (fun h3 => ?_) (fun h3 => ?_)
    · rintro y rfl
      refine ⟨⟨j, b, t, by omega, e1, hB, fun i h1 h2 h4 => ?_, hlin, ?_, htz⟩, hmu⟩
      · by_cases e : i = j
        · subst e; exact h3
        · exact hz i (by omega) h2 h4
      · rcases hl with ⟨q1, q2⟩ | ⟨l, q1, q2, q3, q4, q5⟩
        · refine Or.inl ⟨q1, fun i h1 h2 => ?_⟩
          by_cases e : i = j
          · subst e; exact h3
          · exact q2 i (by omega) h2
        · exact Or.inr ⟨l, q1, by omega, q3, q4, q5⟩
    · refine ⟨pk_in j 126 (by omega), ?_⟩
      rw [hR.1 j (by omega)]
      cases hj : hs j with
      | false =>
        rw [if_neg (by decide)]
        refine ⟨fun _ => ?_, fun q => absurd rfl q⟩
        rcases hl with ⟨q1, q2⟩ | ⟨l, q1, q2, q3, q4, q5⟩
        · subst q1
          refine ⟨fun q => absurd q (by decide), fun _ => ?_⟩
          rintro y rfl
          refine ⟨⟨j, b, t, by omega, e1, hB, fun i h1 h2 h4 => ?_, hlin, Or.inr ⟨j, rfl, Nat.le_refl j, by omega, h3, fun i h1 h2 => q2 i (by omega) h2⟩, htz⟩, hmu⟩
          by_cases e : i = j
          · subst e; rw [hj] at h4; exact absurd h4 (by decide)
          · exact hz i (by omega) h2 h4
        · subst q1
          refine ⟨fun _ => ?_, fun q => absurd (nI_pos' (by omega)) q⟩
          rintro y rfl
          refine ⟨⟨j, b, t, by omega, e1, hB, fun i h1 h2 h4 => ?_, hlin, Or.inr ⟨l, rfl, by omega, q3, q4, q5⟩, htz⟩, hmu⟩
          by_cases e : i = j
          · subst e; rw [hj] at h4; exact absurd h4 (by decide)
          · exact hz i (by omega) h2 h4
      | true =>
        rw [if_pos rfl]
        refine ⟨fun q => absurd q (by decide), fun _ => ?_⟩
        obtain ⟨g1, g2, g3, g4⟩ := hR.2.1 j hj
        refine s_md_takeRow hp hpm hN g1 (m := M j) (a := b) (fun k hk => g2 k (by omega)) (fun k hk => hB k (by omega)) (fun B1 hB1 hB1o => ?_)
        rintro y rfl
        have hnew : ∀ i, i < N → ∃ w, B1 i = nI w ∧ w < p ∧ Fin.ofNat p w = Fin.ofNat p (b i) - Fin.ofNat p (b j) * rv p M j i := fun i hi => by
          by_cases e : i ≤ j
          · refine ⟨_, hB1 i e, Nat.mod_lt _ (by omega), ?_⟩
            rw [en_mod, en_add, en_mul, ← en_mod (p - b j), en_opp (by omega)]
            show _ = _ - _ * Fin.ofNat p (M j i)
            grind
          · refine ⟨b i, by rw [hB1o i (by omega)]; exact (hB i hi).1, (hB i hi).2, ?_⟩
            show _ = _ - _ * Fin.ofNat p (M j i)
            rw [g4 i (by omega), en_0]; grind
        have hb1 : ∃ b1 : Nat → Nat, (∀ i, i < N → B1 i = nI (b1 i) ∧ b1 i < p ∧ Fin.ofNat p (b1 i) = Fin.ofNat p (b i) - Fin.ofNat p (b j) * rv p M j i) := by
          refine ⟨fun i => if h : i < N then Classical.choose (hnew i h) else 0, fun i hi => ?_⟩
          try dsimp only
          rw [dif_pos hi]
          exact Classical.choose_spec (hnew i hi)
        obtain ⟨b1, hb1⟩ := hb1
        have hhi : ∀ i, j < i → i < N → b1 i = b i := fun i h1 h2 => by
          have h5 := hb1 i h2
          refine en_inj (p := p) h5.2.1 (hB i h2).2 ?_
          rw [h5.2.2]
          show _ - _ * Fin.ofNat p (M j i) = _
          rw [g4 i h1, en_0]; grind
        have hjj : b1 j = 0 := by
          have h5 := hb1 j g1
          refine (en_zero h5.2.1).mp ?_
          rw [h5.2.2]
          show _ - _ * Fin.ofNat p (M j j) = _
          rw [g3, en_1]; grind
        refine ⟨⟨j, b1, fun q => if q = j then t q + Fin.ofNat p (b j) else t q, by omega, e1, fun i hi => ⟨(hb1 i hi).1, (hb1 i hi).2.1⟩, fun i h1 h2 h4 => ?_, fun i hi => ?_, ?_, fun q hq => ⟨fun i h1 h2 => ?_, fun i h1 h2 => ?_⟩⟩, hmu⟩
        · by_cases e : i = j
          · subst e; exact hjj
          · rw [hhi i (by omega) h2]; exact hz i (by omega) h2 h4
        · rw [la_sm_upd (g := fun q => t q * rv p M q i) (h := fun q => (if q = j then t q + Fin.ofNat p (b j) else t q) * rv p M q i) (d := Fin.ofNat p (b j) * rv p M j i) g1 (fun q _ hn => by rw [if_neg hn]) (by rw [if_pos rfl]; grind), (hb1 i hi).2.2, ← hlin i hi]
          grind
        · rcases hl with ⟨q1, q2⟩ | ⟨l, q1, q2, q3, q4, q5⟩
          · refine Or.inl ⟨q1, fun i h1 h2 => ?_⟩
            by_cases e : i = j
            · subst e; exact hjj
            · rw [hhi i (by omega) h2]; exact q2 i (by omega) h2
          · exact Or.inr ⟨l, q1, by omega, q3, by rw [hhi l (by omega) q3]; exact q4, fun i h1 h2 => by rw [hhi i (by omega) h2]; exact q5 i h1 h2⟩
        · have h5 := (htz q hq).2
          have hne : i ≠ j := fun e => h3 (by rw [← e]; exact h5 i h1 h2)
          try dsimp only
          rw [if_neg hne]; exact (htz q hq).1 i h1 h2
        · have h5 := (htz q hq).2
          by_cases e : i < j
          · exact absurd (h5 j (by omega) g1) h3
          · by_cases e2 : i = j
            · subst e2; exact hjj
            · rw [hhi i (by omega) h2]; exact h5 i h1 h2
