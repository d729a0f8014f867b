/-! PURE: the reference: comes, multiplied, the degree of a generator -/
theorem nar1 : vp_nar .boolean 1 = 1 := by decide +kernel
theorem nar0 : vp_nar .boolean 0 = 0 := by decide +kernel
/-- how many of the first n hold something -/
def cH (A : Nat → Int32) : Nat → Nat
  | 0 => 0
  | n + 1 => cH A n + if A n = 0 then 0 else 1
theorem cH_s (A : Nat → Int32) (n : Nat) : cH A (n + 1) = cH A n + if A n = 0 then 0 else 1 := rfl
theorem cH_le (A : Nat → Int32) : ∀ n, cH A n ≤ n
  | 0 => Nat.le_refl 0
  | n + 1 => by
    rw [cH_s]
    have := cH_le A n
    by_cases h : A n = 0
    · rw [if_pos h]; omega
    · rw [if_neg h]; omega
theorem cH_out {A : Nat → Int32} {l : Nat} {x : Int32} : ∀ n, n ≤ l → cH (upd A l x) n = cH A n
  | 0, _ => rfl
  | n + 1, h => by rw [cH_s, cH_s, cH_out n (by omega), pk_un (by omega)]
theorem cH_upd {A : Nat → Int32} {l : Nat} {x : Int32} (hx : ¬ x = 0) (hl : A l = 0) : ∀ n, l < n → cH (upd A l x) n = cH A n + 1
  | 0, h => absurd h (Nat.not_lt_zero l)
  | n + 1, h => by
    rw [cH_s, cH_s]
    by_cases e : l = n
    · subst e
      rw [cH_out l (Nat.le_refl l), pk_us, if_neg hx, hl, if_pos rfl]
    · rw [cH_upd hx hl n (by omega), pk_un (by omega)]; omega
set_option maxHeartbeats 2000000 in
theorem s_md_comes {p N : Nat} [NeZero p] {c0 c2 c3 c5 c6 c7 c8 c9 : Int32} {has row work : Nat → Int32} {hs : Nat → Bool} {M : Nat → Nat → Nat} (hp : fe_P p) (hpm : p ≤ 32003) (hN : N ≤ 126) (hR : mdR p N hs M has row) {a : Nat → Nat} (ha : ∀ i, i < N → work i = nI (a i) ∧ a i < p)
    {Q : Int32 → (Nat → Int32) → (Nat → Int32) → (Nat → Int32) → Prop}
    (h0 : ∀ B : Nat → Int32, la_in N (rv p M) (fun i => if i < N then Fin.ofNat p (a i) else 0) → Q 0 has row B)
    (h1 : ∀ (has' row' B : Nat → Int32) (hs' : Nat → Bool) (M' : Nat → Nat → Nat), mdR p N hs' M' has' row' → cH has' 126 = cH has 126 + 1 → (∀ i, hs i = true → hs' i = true ∧ M' i = M i) → la_in N (rv p M') (fun i => if i < N then Fin.ofNat p (a i) else 0) →
      (∀ f, la_in N (rv p M) f → la_in N (rv p M') f) → (∀ W, lsub W → (∀ j, hs j = true → W (rv p M j)) → W (fun i => if i < N then Fin.ofNat p (a i) else 0) → ∀ j, hs' j = true → W (rv p M' j)) → (∀ s, s ≤ N → (∀ i, s ≤ i → i < N → a i = 0) → ∀ j, hs' j = true → hs j = true ∨ j < s) → Q 1 has' row' B) :
    vc_md_comes c0 (nI p) c2 c3 (nI N) c5 c6 c7 c8 c9 has row work Q := by
  have hp2 := hp.1
  refine s_md_reduce hp2 hpm hN hR ha (fun x B b t hB hz hlin hl htz => ?_)
  have hMz : ∀ j i, N ≤ i → M j i = 0 := fun j i hi => by
    cases hj : hs j with
    | false => exact hR.2.2 j i hj
    | true => exact (hR.2.1 j hj).2.2.2 i (by have := (hR.2.1 j hj).1; omega)
  have hf : ∀ i, (if i < N then Fin.ofNat p (a i) else 0) = (if i < N then Fin.ofNat p (b i) else 0) + la_sm (fun j => t j * rv p M j i) N := fun i => by
    by_cases c : i < N
    · rw [if_pos c, if_pos c]; exact (hlin i c).symm
    · rw [if_neg c, if_neg c, la_sm_zero (fun j _ => by
        show _ * Fin.ofNat p (M j i) = 0
        rw [hMz j i (by omega), en_0]; grind)]
      grind
  rcases hl with ⟨rfl, q2⟩ | ⟨l, rfl, hlN, hbl, hla⟩
  · refine ⟨fun q => absurd q (by decide), fun _ => h0 B ?_⟩
    refine ⟨t, fun i => ?_⟩
    try dsimp only
    rw [hf i]
    have : (if i < N then Fin.ofNat p (b i) else (0 : Fin p)) = 0 := by
      by_cases c : i < N
      · rw [if_pos c, q2 i c, en_0]
      · rw [if_neg c]
    rw [this]; grind
  · have hsl : hs l = false := by
      cases h : hs l with
      | false => rfl
      | true => exact absurd (hz l hlN h) hbl
    refine ⟨fun _ => ?_, fun q => absurd (nI_pos' (by omega)) q⟩
    refine ⟨pk_in l 126 (by omega), ?_⟩
    rw [nI_clamp (n := l) (by omega), (hB l hlN).1]
    refine s_md_inverse hp2 hpm (hB l hlN).2 ?_
    obtain ⟨fac, hfac⟩ : ∃ fac, fac = b l ^ (p - 2) % p := ⟨_, rfl⟩
    rw [← hfac]
    have hfp : fac < p := by rw [hfac]; exact Nat.mod_lt _ (by omega)
    have hf1 : b l * fac % p = 1 := by
      have := fe_inv hp (a := b l) (fun ⟨q, hq⟩ => by
        have := (hB l hlN).2
        rcases Nat.eq_zero_or_pos q with z | z
        · rw [z] at hq; omega
        · have := Nat.mul_le_mul_left p z
          omega)
      rw [hfac, Nat.mul_mod, Nat.mod_mod, ← Nat.mul_mod]
      exact this
    rintro x hx
    rw [nI_l (by omega)] at hx
    subst hx
    refine ⟨fun y C => ∃ k, k ≤ N ∧ y = nI k ∧ (∀ i, i < k → C (126 * l + i) = nI (b i * fac % p)) ∧ ∀ j, (j < 126 * l ∨ 126 * l + 126 ≤ j) → C j = row j, fun y _ => 200 - y.toNatClampNeg, ⟨0, Nat.zero_le _, rfl, fun i hi => absurd hi (Nat.not_lt_zero i), fun _ _ => rfl⟩, ?_⟩
    rintro y C ⟨k, hk, rfl, hC, hCo⟩
    refine pk_le N k (fun h => ?_) (fun h => ?_)
    · obtain rfl : k = N := by omega
      refine ⟨pk_in l 126 (by omega), ?_⟩
      rintro has1 rfl
      rw [nar1]
      have hX : ∃ M' : Nat → Nat → Nat, (∀ r, r ≠ l → M' r = M r) ∧ ∀ i, M' l i = if i < k then b i * fac % p else 0 := ⟨fun r => if r = l then (fun i => if i < k then b i * fac % p else 0) else M r, fun r hr => by try dsimp only; rw [if_neg hr], fun i => by try dsimp only; rw [if_pos rfl]⟩
      obtain ⟨M', hM1, hM2⟩ := hX
      have hY : ∃ hs' : Nat → Bool, (∀ r, r ≠ l → hs' r = hs r) ∧ hs' l = true := ⟨fun r => if r = l then true else hs r, fun r hr => if_neg hr, if_pos rfl⟩
      obtain ⟨hs', hs1, hs2⟩ := hY
      have hrl : ∀ i, rv p M' l i = Fin.ofNat p fac * (if i < k then Fin.ofNat p (b i) else 0) := fun i => by
        show Fin.ofNat p (M' l i) = _
        rw [hM2]
        by_cases c : i < k
        · rw [if_pos c, if_pos c, en_mod, en_mul]; grind
        · rw [if_neg c, if_neg c, en_0]; grind
      have hl0 : rv p M l = fun _ => 0 := by
        funext i
        show Fin.ofNat p (M l i) = 0
        rw [hR.2.2 l i hsl, en_0]
      have hsub : ∀ f, la_in k (rv p M) f → la_in k (rv p M') f := fun f hf => la_in_mono hf (fun j hj => by
        by_cases e : j = l
        · subst e; rw [hl0]; exact la_in_zero
        · rw [← rv_eq (hM1 j e)]; exact la_in_row hj)
      have hb : la_in k (rv p M') (fun i => if i < k then Fin.ofNat p (b i) else 0) := by
        refine la_in_ext (la_in_mul (Fin.ofNat p (b l)) (la_in_row (R := rv p M') hlN)) (fun i => ?_)
        rw [hrl i]
        have h1 : Fin.ofNat p fac * Fin.ofNat p (b l) = 1 := by rw [← en_mul, Nat.mul_comm, ← en_mod, hf1, en_1]
        generalize (if i < k then Fin.ofNat p (b i) else 0) = u
        grind
      refine h1 _ C B hs' M' ⟨fun i hi => ?_, fun i hi => ?_, fun i q hi => ?_⟩ ?_ (fun i hi => ?_) ?_ hsub (fun W hW hWr hfW j hj => ?_) (fun s hsN hsz j hj => ?_)
      · by_cases e : i = l
        · subst e; rw [pk_us, hs2, if_pos rfl]
        · rw [pk_un e, hs1 i e]; exact hR.1 i hi
      · by_cases e : i = l
        · subst e
          refine ⟨hlN, fun q hq => ?_, ?_, fun q hq => ?_⟩ <;> rw [hM2]
          · rw [if_pos hq]; exact ⟨hC q hq, Nat.mod_lt _ (by omega)⟩
          · rw [if_pos hlN]; exact hf1
          · by_cases c : q < k
            · rw [if_pos c, hla q hq c, Nat.zero_mul, Nat.zero_mod]
            · rw [if_neg c]
        · rw [hs1 i e] at hi
          obtain ⟨g1, g2, g3, g4⟩ := hR.2.1 i hi
          rw [hM1 i e]
          refine ⟨g1, fun q hq => ?_, g3, g4⟩
          rw [hCo _ (by omega)]; exact g2 q hq
      · by_cases e : i = l
        · rw [e, hs2] at hi; exact absurd hi (by decide)
        · rw [hs1 i e] at hi
          rw [hM1 i e]; exact hR.2.2 i q hi
      · exact cH_upd (by decide) (by rw [hR.1 l (by omega), hsl, if_neg (by decide)]) 126 (by omega)
      · by_cases e : i = l
        · subst e; rw [hsl] at hi; exact absurd hi (by decide)
        · rw [hs1 i e]; exact ⟨hi, hM1 i e⟩
      · have e : (fun i => if i < k then Fin.ofNat p (a i) else 0) = fun i => (if i < k then Fin.ofNat p (b i) else 0) + la_sm (fun j => t j * rv p M j i) k := funext hf
        rw [e]
        exact la_in_add hb (hsub _ ⟨t, fun _ => rfl⟩)
      · by_cases e : j = l
        · subst e
          have e2 : rv p M' j = fun i => Fin.ofNat p fac * ((if i < k then Fin.ofNat p (a i) else 0) + (-1) * la_sm (fun q => t q * rv p M q i) k) := by
            funext i
            rw [hrl i, hf i]
            grind
          rw [e2]
          refine hW.2.2 _ _ (hW.2.1 _ _ hfW (hW.2.2 _ _ (lsub_sm hW _ k (fun q hq => ?_))))
          cases hq2 : hs q with
          | true => exact Or.inl (hWr q hq2)
          | false =>
            refine Or.inl ?_
            have : rv p M q = fun _ => 0 := by
              funext i
              show Fin.ofNat p (M q i) = 0
              rw [hR.2.2 q i hq2, en_0]
            rw [this]; exact hW.1
        · rw [hs1 j e] at hj
          rw [rv_eq (hM1 j e)]; exact hWr j hj
      · by_cases e : j = l
        · subst e
          refine Or.inr ?_
          rcases Nat.lt_or_ge j s with q | q
          · exact q
          · exfalso
            apply hbl
            have h5 := hlin j hlN
            rw [hsz j q hlN, en_0, la_sm_zero (fun i hi => ?_)] at h5
            · refine (en_zero (hB j hlN).2).mp ?_
              rw [← h5]; grind
            · by_cases c : s ≤ i
              · rw [htz s hsz i c hi]; grind
              · cases hq2 : hs i with
                | false =>
                  show _ * Fin.ofNat p (M i j) = 0
                  rw [hR.2.2 i j hq2, en_0]; grind
                | true =>
                  show _ * Fin.ofNat p (M i j) = 0
                  rw [(hR.2.1 i hq2).2.2.2 j (by omega), en_0]; grind
        · rw [hs1 j e] at hj; exact Or.inl hj
    · have hbk := hB k h
      have hb := md_mulb (a := b k) (b := fac) (by omega) (by omega)
      refine ⟨pk_in k 126 (by omega), md_p0 (by omega) hpm, ?_⟩
      rw [show (126 : Int32) = nI 126 from rfl, pk_mul, nI_add]
      refine ⟨pk_in (126 * l + k) 15876 (by omega), ?_⟩
      rintro C1 rfl
      rintro y rfl
      rw [nI_clamp (n := k) (by omega), nI_clamp (n := 126 * l + k) (by omega), hbk.1, nI_l (n := b k) (by omega), lN_mul, md_rem (by omega) (by omega) hpm, nI_1]
      refine ⟨⟨k + 1, by omega, rfl, fun j hj => ?_, fun j hj => ?_⟩, ?_⟩
      · by_cases e : j = k
        · subst e; exact pk_us
        · rw [pk_un (by omega)]; exact hC j (by omega)
      · rw [pk_un (by omega)]; exact hCo j hj
      · try dsimp only
        rw [nI_clamp (n := k + 1) (by omega), nI_clamp (n := k) (by omega)]; omega
