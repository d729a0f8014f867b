/-! PURE: the reference: places, products, degrees of generators, clean -/
theorem un_shl {v : Nat} (h : v < 4) : (1 : Int32) <<< ((24 - (8 * nI v)) &&& 31) = nI (tbU v) := by
  match v, h with
  | 0, _ => decide
  | 1, _ => decide
  | 2, _ => decide
  | 3, _ => decide
  | n + 4, h => omega
theorem tbU_lt {v : Nat} : tbU v < 2 ^ 31 := by
  unfold tbU
  exact Nat.lt_of_le_of_lt (Nat.pow_le_pow_right (by decide) (Nat.sub_le 24 _)) (by decide)
theorem s_md_placeOf {N : Nat} {c0 c1 c2 c3 c5 c6 c7 c8 c9 e : Int32} {mono : Nat → Int32} {cd : Nat → Nat} (hN : N ≤ 126) (hm : ∀ i, i < N → mono i = nI (cd i)) {Q : Int32 → Prop} (hj : ∀ j, j < N → nI (cd j) = e → Q (nI j)) (hn : (∀ j, j < N → ¬ nI (cd j) = e) → Q (-1)) : vc_md_placeOf c0 c1 c2 c3 (nI N) c5 c6 c7 c8 c9 mono e Q := by
  refine ⟨fun x => ∃ k, k ≤ N ∧ x = nI k ∧ ∀ j, j < k → ¬ nI (cd j) = e, fun x => 200 - x.toNatClampNeg, ⟨0, Nat.zero_le _, rfl, fun j hj => absurd hj (Nat.not_lt_zero j)⟩, ?_⟩
  rintro x ⟨k, hk, rfl, hk2⟩
  refine pk_le N k (fun h => ?_) (fun h => ?_)
  · obtain rfl : k = N := by omega
    exact hn hk2
  · refine ⟨pk_in k 126 (by omega), ?_⟩
    rw [nI_clamp (n := k) (by omega), hm k h]
    refine ⟨fun q => ?_, fun q => hj k h q⟩
    rintro y rfl
    rw [nI_1]
    refine ⟨⟨k + 1, by omega, rfl, fun j hj => ?_⟩, ?_⟩
    · by_cases e : j = k
      · subst e; exact q
      · exact hk2 j (by omega)
    · try dsimp only
      rw [nI_clamp (n := k + 1) (by omega), nI_clamp (n := k) (by omega)]; omega
set_option maxHeartbeats 1000000 in
theorem s_md_multiplied {p n o H N i v : Nat} [NeZero p] {cd dg fd : Nat → Nat} {pm dv : Nat → Nat → Nat} (T : Tb n o H N cd dg fd pm dv) {c0 c1 c2 c3 c5 c6 c7 c8 c9 : Int32} {mono has row work : Nat → Int32} (hm : ∀ i, i < N → mono i = nI (cd i)) {hs : Nat → Bool} {M : Nat → Nat → Nat} (hp : 0 < p) (hpm : p ≤ 32003) (hR : mdR p N hs M has row) (hi : hs i = true) (hv : v < n) (hd : dg i < H)
    {Q : (Nat → Int32) → Prop} (hQ : ∀ (B : Nat → Int32) (w : Nat → Nat), (∀ j, j < N → B j = nI (w j) ∧ w j < p) → (fun j => if j < N then Fin.ofNat p (w j) else 0) = mv N cd dv v (rv p M i) → Q B) :
    vc_md_multiplied c0 c1 c2 c3 (nI N) c5 c6 c7 c8 c9 mono row work (nI i) (nI v) Q := by
  have hN := T.N126
  have hn := T.n4
  obtain ⟨hiN, hrow, hM1, hMz⟩ := hR.2.1 i hi
  refine ⟨fun x B => ∃ k, k ≤ N ∧ x = nI k ∧ ∀ j, j < k → B j = 0, fun x _ => 200 - x.toNatClampNeg, ⟨0, Nat.zero_le _, rfl, fun j hj => absurd hj (Nat.not_lt_zero j)⟩, ?_⟩
  rintro x B ⟨k, hk, rfl, hB⟩
  refine pk_le N k (fun h => ?_) (fun h => ?_)
  · obtain rfl : k = N := by omega
    refine ⟨fun x C => ∃ q, q ≤ i + 1 ∧ x = nI q ∧ ∀ j, j < k → C j = nI (if (j < k ∧ ¬ tbX (cd j) v = 0) ∧ dv v j < q then M i (dv v j) else 0), fun x _ => 200 - x.toNatClampNeg, ⟨0, by omega, rfl, fun j hj => by rw [hB j hj, if_neg (by omega)]; rfl⟩, ?_⟩
    rintro x C ⟨q, hq, rfl, hC⟩
    refine pk_lt i q (fun h2 => ?_) (fun h2 => ?_)
    · obtain rfl : q = i + 1 := by omega
      refine hQ C (fun j => if (j < k ∧ ¬ tbX (cd j) v = 0) ∧ dv v j < i + 1 then M i (dv v j) else 0) (fun j hj => ⟨hC j hj, ?_⟩) ?_
      · by_cases q : (j < k ∧ ¬ tbX (cd j) v = 0) ∧ dv v j < i + 1
        · rw [if_pos q]; exact (hrow _ (by omega)).2
        · rw [if_neg q]; exact hp
      · funext j
        show (if j < k then Fin.ofNat p (if (j < k ∧ ¬ tbX (cd j) v = 0) ∧ dv v j < i + 1 then M i (dv v j) else 0) else 0) = if j < k ∧ ¬ tbX (cd j) v = 0 then Fin.ofNat p (M i (dv v j)) else 0
        by_cases q : j < k ∧ ¬ tbX (cd j) v = 0
        · rw [if_pos q, if_pos q.1]
          by_cases q2 : dv v j < i + 1
          · rw [if_pos ⟨q, q2⟩]
          · rw [if_neg (fun h => q2 h.2), hMz _ (by omega)]
        · rw [if_neg q]
          by_cases q1 : j < k
          · rw [if_pos q1, if_neg (fun h => q h.1), en_0]
          · rw [if_neg q1]
    · have hrq := hrow q (by omega)
      rw [show (126 : Int32) = nI 126 from rfl, pk_mul, nI_add]
      refine ⟨pk_in (126 * i + q) 15876 (by omega), ?_⟩
      rw [nI_clamp (n := 126 * i + q) (by omega), hrq.1]
      have hdq : dg q < H := by have := T.mono (show q ≤ i by omega) hiN; omega
      obtain ⟨g1, g2, g3, g4, g5⟩ := T.pmN v q hv (by omega) hdq
      have hcdp := T.cdlt _ g1
      have step : ∀ j, j < k → j ≠ pm v q → (if (j < k ∧ ¬ tbX (cd j) v = 0) ∧ dv v j < q then M i (dv v j) else 0) = if (j < k ∧ ¬ tbX (cd j) v = 0) ∧ dv v j < q + 1 then M i (dv v j) else 0 := fun j hj e => by
        by_cases c : j < k ∧ ¬ tbX (cd j) v = 0
        · obtain ⟨e1, e2, e3, e4⟩ := T.dvN v j hv c.1 c.2
          have ne : dv v j ≠ q := fun e3 => e (by rw [← e3]; exact e2.symm)
          by_cases q2 : dv v j < q
          · rw [if_pos ⟨c, q2⟩, if_pos ⟨c, by omega⟩]
          · rw [if_neg (fun h => q2 h.2), if_neg (fun h => q2 (by omega))]
        · rw [if_neg (fun h => c h.1), if_neg (fun h => c h.1)]
      refine pk_eq (M i q) 0 (fun h3 => ?_) (fun h3 => ?_)
      · rintro y rfl
        rw [nI_1]
        refine ⟨⟨q + 1, by omega, rfl, fun j hj => ?_⟩, ?_⟩
        · rw [hC j hj]
          by_cases e : j = pm v q
          · subst e
            rw [g5, if_neg (by omega), if_pos ⟨⟨g1, g4⟩, by omega⟩, h3]
          · rw [step j hj e]
        · try dsimp only
          rw [nI_clamp (n := q + 1) (by omega), nI_clamp (n := q) (by omega)]; omega
      · refine ⟨pk_in q 126 (by omega), ?_⟩
        rw [nI_clamp (n := q) (by omega), hm q (by omega), un_shl (by omega), nI_add, ← g2]
        refine s_md_placeOf hN hm (fun j hj he => ?_) (fun hno => absurd rfl (hno _ g1))
        have ej : j = pm v q := T.cdinj _ _ hj g1 ((nI_eq (T.cdlt j hj) hcdp).mp he)
        subst ej
        refine ⟨pk_in (126 * i + q) 15876 (by omega), pk_in (pm v q) 126 (by omega), ?_⟩
        rintro C1 rfl
        rintro y rfl
        rw [nI_clamp (n := pm v q) (by omega), nI_1]
        refine ⟨⟨q + 1, by omega, rfl, fun j hj => ?_⟩, ?_⟩
        · by_cases e : j = pm v q
          · subst e
            rw [pk_us, g5, if_pos ⟨⟨g1, g4⟩, by omega⟩]
          · rw [pk_un e, hC j hj, step j hj e]
        · try dsimp only
          rw [nI_clamp (n := q + 1) (by omega), nI_clamp (n := q) (by omega)]; omega
  · refine ⟨pk_in k 126 (by omega), ?_⟩
    rintro B1 rfl
    rintro y rfl
    rw [nI_clamp (n := k) (by omega), nI_1]
    refine ⟨⟨k + 1, by omega, rfl, fun j hj => ?_⟩, ?_⟩
    · by_cases e : j = k
      · subst e; exact pk_us
      · rw [pk_un e]; exact hB j (by omega)
    · try dsimp only
      rw [nI_clamp (n := k + 1) (by omega), nI_clamp (n := k) (by omega)]; omega
theorem s_md_degGen {p N g t : Nat} {c0 c1 c2 c3 c5 c6 c7 c8 c9 : Int32} {dga gen : Nat → Int32} {dg : Nat → Nat} {G : Nat → Nat} (hN : N ≤ 126) (hg : g < 8) (hp : p ≤ 32003) (hdg : ∀ i, i < N → dga i = nI (dg i)) (hG : ∀ k, k < N → gen (126 * g + k) = nI (G k) ∧ G k < p) (ht : t < N) (htz : ∀ i, t < i → G i = 0) (htn : ¬ G t = 0) {Q : Int32 → Prop} (hQ : Q (nI (dg t))) : vc_md_degreeOfGenerator c0 c1 c2 c3 (nI N) c5 c6 c7 c8 c9 dga gen (nI g) Q := by
  refine ⟨fun x y => ∃ k, k ≤ N ∧ y = nI k ∧ (t < k → x = nI (dg t)), fun _ y => 200 - y.toNatClampNeg, ⟨0, Nat.zero_le _, rfl, fun h => absurd h (Nat.not_lt_zero t)⟩, ?_⟩
  rintro x y ⟨k, hk, rfl, hx⟩
  refine pk_le N k (fun h => ?_) (fun h => ?_)
  · rw [hx (by omega)]; exact hQ
  · have hgk := hG k h
    rw [show (126 : Int32) = nI 126 from rfl, pk_mul, nI_add]
    refine ⟨pk_in (126 * g + k) 1008 (by omega), ?_⟩
    rw [nI_clamp (n := 126 * g + k) (by omega), hgk.1]
    refine pk_eq (G k) 0 (fun h3 => ?_) (fun h3 => ?_)
    · rintro y rfl
      rw [nI_1]
      refine ⟨⟨k + 1, by omega, rfl, fun h4 => hx ?_⟩, ?_⟩
      · have : t ≠ k := fun e => htn (by rw [e]; exact h3)
        omega
      · try dsimp only
        rw [nI_clamp (n := k + 1) (by omega), nI_clamp (n := k) (by omega)]; omega
    · refine ⟨pk_in k 126 (by omega), ?_⟩
      rintro x1 rfl
      rintro y rfl
      rw [nI_clamp (n := k) (by omega), hdg k h, nI_1]
      refine ⟨⟨k + 1, by omega, rfl, fun h4 => ?_⟩, ?_⟩
      · have : ¬ t < k := fun h5 => h3 (htz k h5)
        rw [show k = t by omega]
      · try dsimp only
        rw [nI_clamp (n := k + 1) (by omega), nI_clamp (n := k) (by omega)]; omega
set_option maxHeartbeats 1000000 in
theorem s_md_clean {p N i : Nat} [NeZero p] {c0 c2 c3 c5 c6 c7 c8 c9 : Int32} {has row work : Nat → Int32} {hs : Nat → Bool} {M : Nat → Nat → Nat} (hp : 2 ≤ p) (hpm : p ≤ 32003) (hN : N ≤ 126) (hR : mdR p N hs M has row) (hi : hs i = true)
    {Q : (Nat → Int32) → (Nat → Int32) → Prop} (hQ : ∀ (row' B : Nat → Int32) (M' : Nat → Nat → Nat) (t : Nat → Fin p), mdR p N hs M' has row' → (∀ j, j ≠ i → M' j = M j) → (∀ j, hs j = true → j ≠ i → M' i j = 0) → (∀ k, rv p M' i k = rv p M i k + la_sm (fun j => t j * rv p M j k) N) → Q row' B) :
    vc_md_clean c0 (nI p) c2 c3 (nI N) c5 c6 c7 c8 c9 has row work (nI i) Q := by
  obtain ⟨hiN, hrow, hM1, hMz⟩ := hR.2.1 i hi
  refine ⟨fun x B => ∃ k, k ≤ N ∧ x = nI k ∧ ∀ j, j < k → B j = nI (if j < i then M i j else 0), fun x _ => 200 - x.toNatClampNeg, ⟨0, Nat.zero_le _, rfl, fun j hj => absurd hj (Nat.not_lt_zero j)⟩, ?_⟩
  rintro x B ⟨k, hk, rfl, hB⟩
  refine pk_le N k (fun h => ?_) (fun h => ?_)
  · obtain rfl : k = N := by omega
    refine s_md_reduce hp hpm hN hR (a := fun j => if j < i then M i j else 0) (fun j hj => ⟨hB j hj, ?_⟩) (fun x C b t hC hz hlin _ htz => ?_)
    · by_cases c : j < i
      · rw [if_pos c]; exact (hrow j hj).2
      · rw [if_neg c]; omega
    refine ⟨fun x D => ∃ q, q ≤ i ∧ x = nI q ∧ (∀ j, j < q → D (126 * i + j) = nI (b j)) ∧ ∀ j, (j < 126 * i ∨ 126 * i + q ≤ j) → D j = row j, fun x _ => 200 - x.toNatClampNeg, ⟨0, Nat.zero_le _, rfl, fun j hj => absurd hj (Nat.not_lt_zero j), fun _ _ => rfl⟩, ?_⟩
    rintro x D ⟨q, hq, rfl, hD, hDo⟩
    refine pk_le i q (fun h2 => ?_) (fun h2 => ?_)
    · obtain rfl : q = i := by omega
      have hX : ∃ M' : Nat → Nat → Nat, (∀ r, r ≠ q → M' r = M r) ∧ ∀ j, M' q j = if j < q then b j else M q j := ⟨fun r => if r = q then (fun j => if j < q then b j else M q j) else M r, fun r hr => by try dsimp only; rw [if_neg hr], fun j => by try dsimp only; rw [if_pos rfl]⟩
      obtain ⟨M', hN1, hN2⟩ := hX
      have ht0 := htz q (fun j h1 h3 => by rw [if_neg (by omega)])
      refine hQ D C M' (fun j => - t j) ⟨hR.1, fun j hj => ?_, fun j l hj => ?_⟩ hN1 (fun j hj hne => ?_) (fun j => ?_)
      · by_cases e : j = q
        · subst e
          refine ⟨hiN, fun l hl => ?_, ?_, fun l hl => ?_⟩ <;> rw [hN2]
          · by_cases c : l < j
            · rw [if_pos c, hD l c]; exact ⟨rfl, (hC l hl).2⟩
            · rw [if_neg c, hDo _ (by omega)]; exact hrow l hl
          · rw [if_neg (by omega)]; exact hM1
          · rw [if_neg (by omega)]; exact hMz l hl
        · obtain ⟨g1, g2, g3, g4⟩ := hR.2.1 j hj
          rw [hN1 j e]
          refine ⟨g1, fun l hl => ?_, g3, g4⟩
          rw [hDo _ (by omega)]; exact g2 l hl
      · by_cases e : j = q
        · rw [e, hi] at hj; exact absurd hj (by decide)
        · rw [hN1 j e]; exact hR.2.2 j l hj
      · rw [hN2]
        by_cases c : j < q
        · rw [if_pos c]; exact hz j (by omega) hj
        · rw [if_neg c]; exact hMz j (by omega)
      · have hs0 : la_sm (fun l => - t l * rv p M l j) k = - la_sm (fun l => t l * rv p M l j) k := by
          rw [la_sm_congr (h := fun l => (-1) * (t l * rv p M l j)) (fun l _ => by grind), la_sm_mul]
          grind
        rw [hs0]
        show Fin.ofNat p (M' q j) = Fin.ofNat p (M q j) + _
        rw [hN2]
        by_cases c : j < q
        · have h5 := hlin j (by omega)
          rw [if_pos c] at h5
          rw [if_pos c, ← h5]
          grind
        · rw [if_neg c, la_sm_zero (fun l hl => ?_)]
          · grind
          · by_cases c2 : q ≤ l
            · rw [ht0 l c2 hl]; grind
            · cases hl2 : hs l with
              | false =>
                show _ * Fin.ofNat p (M l j) = 0
                rw [hR.2.2 l j hl2, en_0]; grind
              | true =>
                show _ * Fin.ofNat p (M l j) = 0
                rw [(hR.2.1 l hl2).2.2.2 j (by omega), en_0]; grind
    · refine ⟨pk_in q 126 (by omega), ?_⟩
      rw [show (126 : Int32) = nI 126 from rfl, pk_mul, nI_add]
      refine ⟨pk_in (126 * i + q) 15876 (by omega), ?_⟩
      rintro D1 rfl
      rintro y rfl
      rw [nI_clamp (n := q) (by omega), nI_clamp (n := 126 * i + q) (by omega), (hC q (by omega)).1, nI_1]
      refine ⟨⟨q + 1, by omega, rfl, fun j hj => ?_, fun j hj => ?_⟩, ?_⟩
      · by_cases e : j = q
        · subst e; exact pk_us
        · rw [pk_un (by omega)]; exact hD j (by omega)
      · rw [pk_un (by omega)]; exact hDo j (by omega)
      · try dsimp only
        rw [nI_clamp (n := q + 1) (by omega), nI_clamp (n := q) (by omega)]; omega
  · have fin : ∀ w : Int32, w = nI (if k < i then M i k else 0) → ∀ B1, B1 = upd B (nI k).toNatClampNeg w → ∀ y, y = nI k + 1 → (∃ q, q ≤ N ∧ y = nI q ∧ ∀ j, j < q → B1 j = nI (if j < i then M i j else 0)) ∧ 200 - y.toNatClampNeg < 200 - (nI k).toNatClampNeg := by
      rintro w rfl B1 rfl y rfl
      rw [nI_clamp (n := k) (by omega), nI_1]
      refine ⟨⟨k + 1, by omega, rfl, fun j hj => ?_⟩, ?_⟩
      · by_cases e : j = k
        · subst e; exact pk_us
        · rw [pk_un e]; exact hB j (by omega)
      · rw [nI_clamp (n := k + 1) (by omega)]; omega
    refine pk_le i k (fun h2 => ?_) (fun h2 => ?_)
    · exact ⟨pk_in k 126 (by omega), fun B1 h3 y h4 => fin 0 (by rw [if_neg (by omega)]; rfl) B1 h3 y h4⟩
    · rw [show (126 : Int32) = nI 126 from rfl, pk_mul, nI_add]
      refine ⟨pk_in (126 * i + k) 15876 (by omega), pk_in k 126 (by omega), ?_⟩
      rw [nI_clamp (n := 126 * i + k) (by omega), (hrow k h).1]
      exact fun B1 h3 y h4 => fin _ (by rw [if_pos h2]) B1 h3 y h4
