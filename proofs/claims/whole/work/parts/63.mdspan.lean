/-! PURE: the reference: findSpace -/
theorem lb_norm {F : Type} [Lean.Grind.CommRing F] {k : Nat} {R : Nat → Nat → F} (hE : ∀ j, j < k → (∀ i, R j i = 0) ∨ (R j j = 1 ∧ ∀ i, j < i → R j i = 0)) {f : Nat → F} (hf : la_in k R f) :
    ∃ c : Nat → F, (∀ i, f i = la_sm (fun j => c j * R j i) k) ∧ ((∀ j, j < k → c j = 0) ∨ ∃ j, j < k ∧ ¬ c j = 0 ∧ R j j = 1 ∧ ¬ f j = 0 ∧ (∀ t, t < k → j < t → c t = 0) ∧ ∀ i, j < i → f i = 0) := by
  obtain ⟨c, hc⟩ := hf
  have hd : ∃ d : Nat → F, ∀ j, j < k → (d j = c j ∧ R j j = 1 ∧ ∀ i, j < i → R j i = 0) ∨ (d j = 0 ∧ ∀ i, R j i = 0) := by
    refine ⟨fun j => Classical.epsilon (h := ⟨0⟩) (fun x : F => (x = c j ∧ R j j = 1 ∧ ∀ i, j < i → R j i = 0) ∨ (x = 0 ∧ ∀ i, R j i = 0)), fun j hj => ?_⟩
    refine Classical.epsilon_spec (p := fun x : F => (x = c j ∧ R j j = 1 ∧ ∀ i, j < i → R j i = 0) ∨ (x = 0 ∧ ∀ i, R j i = 0)) ?_
    rcases hE j hj with q | q
    · exact ⟨0, Or.inr ⟨rfl, q⟩⟩
    · exact ⟨c j, Or.inl ⟨rfl, q⟩⟩
  obtain ⟨d, hd⟩ := hd
  have hc2 : ∀ i, f i = la_sm (fun j => d j * R j i) k := fun i => by
    rw [hc i]
    refine la_sm_congr (fun j hj => ?_)
    rcases hd j hj with ⟨q, -⟩ | ⟨q, q2⟩
    · rw [q]
    · rw [q2 i]; grind
  refine ⟨d, hc2, ?_⟩
  by_cases h : ∃ j, j < k ∧ ¬ d j = 0
  · obtain ⟨j, hj, hdj, hm⟩ := la_max (fun j => ¬ d j = 0) id k h
    have ht : ∀ t, t < k → j < t → d t = 0 := fun t ht h2 => by
      by_cases q : d t = 0
      · exact q
      · have : t ≤ j := hm t ht q
        omega
    have hj1 : R j j = 1 ∧ ∀ i, j < i → R j i = 0 := by
      rcases hd j hj with ⟨-, q⟩ | ⟨q, -⟩
      · exact q
      · exact absurd q hdj
    have hz : ∀ t, t < k → ∀ i, j ≤ i → t ≠ j → d t * R t i = 0 := fun t ht2 i hi hn => by
      rcases Nat.lt_or_ge j t with q | q
      · rw [ht t ht2 q]; grind
      · rcases hd t ht2 with ⟨-, -, q2⟩ | ⟨q2, -⟩
        · rw [q2 i (by omega)]; grind
        · rw [q2]; grind
    refine Or.inr ⟨j, hj, hdj, hj1.1, ?_, ht, fun i hi => ?_⟩
    · rw [hc2, la_sm_one hj (fun t ht2 hn => hz t ht2 j (Nat.le_refl j) hn), hj1.1]
      intro q
      apply hdj
      grind
    · rw [hc2, la_sm_one hj (fun t ht2 hn => hz t ht2 i (by omega) hn), hj1.2 i hi]
      grind
  · refine Or.inl fun j hj => ?_
    by_cases q : d j = 0
    · exact q
    · exact absurd ⟨j, hj, q⟩ h
theorem mdR_ech {p N : Nat} [NeZero p] {has row : Nat → Int32} {hs : Nat → Bool} {M : Nat → Nat → Nat} (hR : mdR p N hs M has row) : ∀ j, j < N → (∀ i, rv p M j i = 0) ∨ (rv p M j j = 1 ∧ ∀ i, j < i → rv p M j i = 0) := fun j hj => by
  cases h : hs j with
  | false => exact Or.inl fun i => by show Fin.ofNat p (M j i) = 0; rw [hR.2.2 j i h, en_0]
  | true =>
    obtain ⟨-, -, g3, g4⟩ := hR.2.1 j h
    exact Or.inr ⟨by show Fin.ofNat p (M j j) = 1; rw [g3, en_1], fun i hi => by show Fin.ofNat p (M j i) = 0; rw [g4 i hi, en_0]⟩
theorem mdR_top {p N : Nat} [NeZero p] (hp : 2 ≤ p) {has row : Nat → Int32} {hs : Nat → Bool} {M : Nat → Nat → Nat} (hR : mdR p N hs M has row) {f : Nat → Fin p} (hf : la_in N (rv p M) f) : (∀ i, f i = 0) ∨ ∃ j, hs j = true ∧ ¬ f j = 0 ∧ ∀ i, j < i → f i = 0 := by
  obtain ⟨c, hc, h | ⟨j, hj, hcj, hj1, hfj, ht, hz⟩⟩ := lb_norm (mdR_ech hR) hf
  · exact Or.inl fun i => by rw [hc i]; exact la_sm_zero (fun j hj => by rw [h j hj]; grind)
  · refine Or.inr ⟨j, ?_, hfj, hz⟩
    cases h : hs j with
    | true => rfl
    | false =>
      have h1 : rv p M j j = 0 := by show Fin.ofNat p (M j j) = 0; rw [hR.2.2 j j h, en_0]
      rw [h1, ← en_0, ← en_1] at hj1
      have := en_inj (p := p) (by omega) (by omega) hj1
      omega
theorem mdR_cl {p N n s0 : Nat} [NeZero p] {cd : Nat → Nat} {dv : Nat → Nat → Nat} {has row : Nat → Int32} {hs : Nat → Bool} {M : Nat → Nat → Nat} (hR : mdR p N hs M has row) (h : ∀ j, hs j = true → j < s0 → ∀ v, v < n → la_in N (rv p M) (mv N cd dv v (rv p M j))) : ∀ v, v < n → ∀ f, la_in N (rv p M) f → (∀ i, s0 ≤ i → f i = 0) → la_in N (rv p M) (mv N cd dv v f) := by
  intro v hv f hf hz
  obtain ⟨c, hc, h2⟩ := lb_norm (mdR_ech hR) hf
  have e : f = fun i => la_sm (fun j => c j * rv p M j i) N := funext hc
  rw [e, mv_sm]
  refine lsub_sm (lsub_of_in N (rv p M)) c N (fun t ht => ?_)
  cases hst : hs t with
  | false =>
    refine Or.inl ?_
    have : mv N cd dv v (rv p M t) = fun _ => 0 := by
      funext i
      show (if i < N ∧ ¬ tbX (cd i) v = 0 then Fin.ofNat p (M t (dv v i)) else 0) = 0
      rw [hR.2.2 t _ hst, en_0]
      by_cases q : i < N ∧ ¬ tbX (cd i) v = 0
      · rw [if_pos q]
      · rw [if_neg q]
    rw [this]; exact la_in_zero
  | true =>
    rcases h2 with h2 | ⟨j, hj, hcj, hj1, hfj, htj, hzj⟩
    · exact Or.inr (h2 t ht)
    · by_cases q : j < t
      · exact Or.inr (htj t ht q)
      · refine Or.inl (h t hst ?_ v hv)
        rcases Nat.lt_or_ge j s0 with c1 | c1
        · omega
        · exact absurd (hz j c1) hfj
/-- what the reference holds of the generators -/
def mgOK (p N gc : Nat) (G : Nat → Nat → Nat) (tg : Nat → Nat) (gen : Nat → Int32) : Prop :=
  gc ≤ 8 ∧ ∀ g, g < gc → tg g < N ∧ (∀ i, i < N → gen (126 * g + i) = nI (G g i) ∧ G g i < p) ∧ (∀ i, tg g < i → G g i = 0) ∧ ¬ G g (tg g) = 0
set_option maxHeartbeats 4000000 in
theorem s_md_findSpace {p n o H N d gc : Nat} [NeZero p] {cd dg fd : Nat → Nat} {pm dv : Nat → Nat → Nat} (T : Tb n o H N cd dg fd pm dv) {c0 c3 c6 c7 c8 c9 : Int32} {mono dga gen has row work : Nat → Int32} (hm : ∀ i, i < N → mono i = nI (cd i)) (hdg : ∀ i, i < N → dga i = nI (dg i)) {G : Nat → Nat → Nat} {tg : Nat → Nat} (hG : mgOK p N gc G tg gen) (hp : fe_P p) (hpm : p ≤ 32003) (hd : d ≤ H)
    {Q : (Nat → Int32) → (Nat → Int32) → (Nat → Int32) → Prop}
    (hQ : ∀ (has' row' work' : Nat → Int32) (hs : Nat → Bool) (M : Nat → Nat → Nat) (S : (Nat → Fin p) → Prop), mdR p N hs M has' row' → clW n (fd d) N cd dv (fun g => g < gc ∧ tg g < fd (d + 1)) (rv p G) S → (∀ W, clW n (fd d) N cd dv (fun g => g < gc ∧ tg g < fd (d + 1)) (rv p G) W → ∀ f, S f → W f) →
      (∀ i, hs i = true → S (rv p M i)) → (∀ f, S f → (∀ i, f i = 0) ∨ ∃ j, hs j = true ∧ ¬ f j = 0 ∧ ∀ i, j < i → f i = 0) → (∀ i j, hs i = true → hs j = true → j ≠ i → M i j = 0) → Q has' row' work') :
    vc_md_findSpace c0 (nI p) (nI n) c3 (nI N) (nI gc) c6 c7 c8 c9 mono dga gen has row work (nI d) Q := by
  have hN := T.N126
  have hn := T.n4
  have hH := T.H30
  have hp2 := hp.1
  have hgc := hG.1
  obtain ⟨CL, hCL⟩ : ∃ CL : ((Nat → Fin p) → Prop) → Prop, CL = clW n (fd d) N cd dv (fun g => g < gc ∧ tg g < fd (d + 1)) (rv p G) := ⟨_, rfl⟩
  rw [← hCL] at hQ
  unfold vc_md_findSpace
  refine ⟨fun x B => ∃ k, k ≤ 126 ∧ x = nI k ∧ ∀ j, j < k → B j = 0, fun x _ => 200 - x.toNatClampNeg, ⟨0, Nat.zero_le _, rfl, fun j hj => absurd hj (Nat.not_lt_zero j)⟩, ?_⟩
  rintro x B ⟨k, hk, rfl, hB⟩
  refine pk_le 126 k (fun h => ?_) (fun h => ?_)
  · obtain rfl : k = 126 := by omega
    refine ⟨fun x A W K => ∃ (g : Nat) (hs : Nat → Bool) (M : Nat → Nat → Nat), g ≤ gc ∧ x = nI g ∧ mdR p N hs M A W ∧ (∀ q, q < g → tg q < fd (d + 1) → la_in N (rv p M) (rv p G q)) ∧ (∀ W, CL W → ∀ j, hs j = true → W (rv p M j)), fun x _ _ _ => 200 - x.toNatClampNeg,
      ⟨0, fun _ => false, fun _ _ => 0, Nat.zero_le _, rfl, ⟨fun i hi => by rw [hB i hi, if_neg Bool.false_ne_true], fun i hi => absurd hi Bool.false_ne_true, fun _ _ _ => rfl⟩, fun q hq => absurd hq (Nat.not_lt_zero q), fun _ _ j hj => absurd hj Bool.false_ne_true⟩, ?_⟩
    rintro x A W K ⟨g, hs, M, hg, rfl, hR, hin, hW⟩
    refine pk_le gc g (fun h2 => ?_) (fun h2 => ?_)
    · obtain rfl : g = gc := by omega
      refine ⟨fun x A W K => ∃ (hs : Nat → Bool) (M : Nat → Nat → Nat), mdR p N hs M A W ∧ (∀ q, q < g → tg q < fd (d + 1) → la_in N (rv p M) (rv p G q)) ∧ (∀ W, CL W → ∀ j, hs j = true → W (rv p M j)) ∧ (x = 1 ∨ (x = 0 ∧ ∀ i, hs i = true → dg i < d → ∀ v, v < n → la_in N (rv p M) (mv N cd dv v (rv p M i)))), fun x A _ _ => 2 * (126 - cH A 126) + if x = 0 then 0 else 1,
        ⟨hs, M, hR, hin, hW, Or.inl rfl⟩, ?_⟩
      clear hR hin hW hs M
      rintro x A W K ⟨hs, M, hR, hin, hW, hx⟩
      refine ⟨fun h3 => ?_, fun h3 => ?_⟩
      · -- nothing came: clean
        have hcl : ∀ i, hs i = true → dg i < d → ∀ v, v < n → la_in N (rv p M) (mv N cd dv v (rv p M i)) := by
          rcases hx with q | q
          · rw [q] at h3; exact absurd h3 (by decide)
          · exact q.2
        have hS : CL (la_in N (rv p M)) := by
          rw [hCL]
          refine ⟨lsub_of_in _ _, fun q hq => hin q hq.1 hq.2, mdR_cl hR (fun j hj hjs v hv => hcl j hj ?_ v hv)⟩
          exact (T.fdl j d (hR.2.1 j hj).1 (by omega)).mp hjs
        have hmin : ∀ W, CL W → ∀ f, la_in N (rv p M) f → W f := fun W hWc f hf => by
          have hl : lsub W := by rw [hCL] at hWc; exact hWc.1
          refine lsub_in hl (fun j hj => ?_) hf
          cases hj2 : hs j with
          | true => exact hW W hWc j hj2
          | false =>
            have : rv p M j = fun _ => 0 := by
              funext i
              show Fin.ofNat p (M j i) = 0
              rw [hR.2.2 j i hj2, en_0]
            rw [this]; exact hl.1
        have htop : ∀ f, la_in N (rv p M) f → (∀ i, f i = 0) ∨ ∃ j, hs j = true ∧ ¬ f j = 0 ∧ ∀ i, j < i → f i = 0 := fun f hf => mdR_top hp2 hR hf
        obtain ⟨S, hSe⟩ : ∃ S, S = la_in N (rv p M) := ⟨_, rfl⟩
        rw [← hSe] at hS hmin htop
        have hrows : ∀ i, hs i = true → S (rv p M i) := fun i hi => by rw [hSe]; exact la_in_row (hR.2.1 i hi).1
        have hSl : lsub S := by rw [hSe]; exact lsub_of_in _ _
        clear hSe hcl hin hW hx
        refine ⟨fun x W K => ∃ (i : Nat) (M : Nat → Nat → Nat), i ≤ N ∧ x = nI i ∧ mdR p N hs M A W ∧ (∀ i, hs i = true → S (rv p M i)) ∧ (∀ q j, q < i → hs q = true → hs j = true → j ≠ q → M q j = 0), fun x _ _ => 200 - x.toNatClampNeg, ⟨0, M, Nat.zero_le _, rfl, hR, hrows, fun q j hq => absurd hq (Nat.not_lt_zero q)⟩, ?_⟩
        clear hR hrows M
        rintro x W K ⟨i, M, hi, rfl, hR, hrows, hred⟩
        refine pk_le N i (fun h4 => ?_) (fun h4 => ?_)
        · exact hQ A W K hs M S hR hS hmin hrows htop (fun i j h5 h6 h7 => hred i j (by have := (hR.2.1 i h5).1; omega) h5 h6 h7)
        · refine ⟨pk_in i 126 (by omega), ?_⟩
          rw [nI_clamp (n := i) (by omega), hR.1 i (by omega)]
          cases hsi : hs i with
          | false =>
            rw [if_neg (by decide)]
            refine ⟨fun _ => ?_, fun q => absurd rfl q⟩
            rintro y rfl
            rw [nI_1]
            refine ⟨⟨i + 1, M, by omega, rfl, hR, hrows, fun q j hq h5 h6 h7 => ?_⟩, ?_⟩
            · by_cases e : q = i
              · rw [e, hsi] at h5; exact absurd h5 (by decide)
              · exact hred q j (by omega) h5 h6 h7
            · try dsimp only
              rw [nI_clamp (n := i + 1) (by omega), nI_clamp (n := i) (by omega)]; omega
          | true =>
            rw [if_pos rfl]
            refine ⟨fun q => absurd q (by decide), fun _ => ?_⟩
            refine s_md_clean hp2 hpm hN hR hsi (fun W1 K1 M1 t hR1 hM1 hz1 heq => ?_)
            rintro y rfl
            rw [nI_1]
            refine ⟨⟨i + 1, M1, by omega, rfl, hR1, fun j hj => ?_, fun q j hq h5 h6 h7 => ?_⟩, ?_⟩
            · by_cases e : j = i
              · subst e
                have e2 : rv p M1 j = fun k => rv p M j k + la_sm (fun l => t l * rv p M l k) N := funext heq
                rw [e2]
                refine hSl.2.1 _ _ (hrows j hj) (lsub_sm hSl t N (fun l _ => Or.inl ?_))
                cases hl2 : hs l with
                | true => exact hrows l hl2
                | false =>
                  have : rv p M l = fun _ => 0 := by
                    funext i
                    show Fin.ofNat p (M l i) = 0
                    rw [hR.2.2 l i hl2, en_0]
                  rw [this]; exact hSl.1
              · rw [rv_eq (hM1 j e)]; exact hrows j hj
            · by_cases e : q = i
              · subst e; exact hz1 j h6 h7
              · rw [hM1 q e]; exact hred q j (by omega) h5 h6 h7
            · try dsimp only
              rw [nI_clamp (n := i + 1) (by omega), nI_clamp (n := i) (by omega)]; omega
      · -- a pass over all rows
        refine ⟨fun x y A1 W1 K1 => ∃ (i : Nat) (hs : Nat → Bool) (M : Nat → Nat → Nat), i ≤ N ∧ y = nI i ∧ mdR p N hs M A1 W1 ∧ (∀ q, q < g → tg q < fd (d + 1) → la_in N (rv p M) (rv p G q)) ∧ (∀ W, CL W → ∀ j, hs j = true → W (rv p M j)) ∧
            ((x = 1 ∧ cH A 126 < cH A1 126) ∨ (x = 0 ∧ cH A 126 ≤ cH A1 126 ∧ ∀ q, q < i → hs q = true → dg q < d → ∀ v, v < n → la_in N (rv p M) (mv N cd dv v (rv p M q)))), fun _ y _ _ _ => 200 - y.toNatClampNeg,
          ⟨0, hs, M, Nat.zero_le _, rfl, hR, hin, hW, Or.inr ⟨rfl, Nat.le_refl _, fun q hq => absurd hq (Nat.not_lt_zero q)⟩⟩, ?_⟩
        clear hR hin hW hx hs M
        rintro x1 y A1 W1 K1 ⟨i, hs, M, hi, rfl, hR, hin, hW, hx⟩
        refine pk_le N i (fun h4 => ?_) (fun h4 => ?_)
        · obtain rfl : i = N := by omega
          have h5 := cH_le A1 126
          have h6 := cH_le A 126
          rcases hx with ⟨rfl, q⟩ | ⟨rfl, q1, q2⟩
          · refine ⟨⟨hs, M, hR, hin, hW, Or.inl rfl⟩, ?_⟩
            try dsimp only
            rw [if_neg (by decide), if_neg h3]; omega
          · refine ⟨⟨hs, M, hR, hin, hW, Or.inr ⟨rfl, fun j hj => q2 j (hR.2.1 j hj).1 hj⟩⟩, ?_⟩
            try dsimp only
            rw [if_pos rfl, if_neg h3]; omega
        · refine ⟨fun x z A2 W2 K2 => ∃ (v : Nat) (hs : Nat → Bool) (M : Nat → Nat → Nat), v ≤ n ∧ z = nI v ∧ mdR p N hs M A2 W2 ∧ (∀ q, q < g → tg q < fd (d + 1) → la_in N (rv p M) (rv p G q)) ∧ (∀ W, CL W → ∀ j, hs j = true → W (rv p M j)) ∧
            ((x = 1 ∧ cH A 126 < cH A2 126) ∨ (x = 0 ∧ cH A 126 ≤ cH A2 126 ∧ (∀ q, q < i → hs q = true → dg q < d → ∀ v, v < n → la_in N (rv p M) (mv N cd dv v (rv p M q))) ∧ (hs i = true → dg i < d → ∀ w, w < v → la_in N (rv p M) (mv N cd dv w (rv p M i))))), fun _ z _ _ _ => 200 - z.toNatClampNeg,
            ⟨0, hs, M, Nat.zero_le _, rfl, hR, hin, hW, ?_⟩, ?_⟩
          · rcases hx with q | ⟨q1, q2, q3⟩
            · exact Or.inl q
            · exact Or.inr ⟨q1, q2, q3, fun _ _ w hw => absurd hw (Nat.not_lt_zero w)⟩
          clear hR hin hW hx hs M
          rintro x2 z A2 W2 K2 ⟨v, hs, M, hv, rfl, hR, hin, hW, hx⟩
          have next : (x2 = 0 → hs i = true → dg i < d → ∀ w, w < n → la_in N (rv p M) (mv N cd dv w (rv p M i))) → ∀ y, y = nI i + 1 → (∃ (i : Nat) (hs : Nat → Bool) (M : Nat → Nat → Nat), i ≤ N ∧ y = nI i ∧ mdR p N hs M A2 W2 ∧ (∀ q, q < g → tg q < fd (d + 1) → la_in N (rv p M) (rv p G q)) ∧ (∀ W, CL W → ∀ j, hs j = true → W (rv p M j)) ∧
            ((x2 = 1 ∧ cH A 126 < cH A2 126) ∨ (x2 = 0 ∧ cH A 126 ≤ cH A2 126 ∧ ∀ q, q < i → hs q = true → dg q < d → ∀ v, v < n → la_in N (rv p M) (mv N cd dv v (rv p M q))))) ∧ 200 - y.toNatClampNeg < 200 - (nI i).toNatClampNeg := by
            rintro hq y rfl
            rw [nI_1, nI_clamp (n := i + 1) (by omega), nI_clamp (n := i) (by omega)]
            refine ⟨⟨i + 1, hs, M, by omega, rfl, hR, hin, hW, ?_⟩, by omega⟩
            rcases hx with q | ⟨q1, q2, q3, q4⟩
            · exact Or.inl q
            · refine Or.inr ⟨q1, q2, fun j hj h5 h6 => ?_⟩
              by_cases e : j = i
              · subst e; exact hq q1 h5 h6
              · exact q3 j (by omega) h5 h6
          refine pk_le n v (fun h5 => ?_) (fun h5 => ?_)
          · refine next (fun hx0 hsi hdi w hw => ?_)
            rcases hx with ⟨q, -⟩ | ⟨q1, q2, q3, q4⟩
            · rw [q] at hx0; exact absurd hx0 (by decide)
            · exact q4 hsi hdi w (by omega)
          · refine ⟨pk_in i 126 (by omega), ?_⟩
            rw [nI_clamp (n := i) (by omega), hR.1 i (by omega), hdg i h4]
            cases hsi : hs i with
            | false =>
              rw [if_neg (by decide)]
              refine ⟨fun _ => next (fun _ q => ?_), fun q => absurd rfl q⟩
              rw [hsi] at q; exact absurd q (by decide)
            | true =>
              rw [if_pos rfl]
              refine ⟨fun q => absurd q (by decide), fun _ => ⟨pk_in i 126 (by omega), ?_⟩⟩
              have hdi := T.dgH i h4
              refine pk_le d (dg i) (fun h6 => next (fun _ _ q => by omega)) (fun h6 => ?_)
              have hWm : ∀ W, CL W → W (mv N cd dv v (rv p M i)) := fun W hWc => by
                have h7 := hW W hWc i hsi
                rw [hCL] at hWc
                refine hWc.2.2 v h5 _ h7 (fun j hj => ?_)
                have := (T.fdl i d h4 (by omega)).mpr h6
                show Fin.ofNat p (M i j) = 0
                rw [(hR.2.1 i hsi).2.2.2 j (by omega), en_0]
              refine s_md_multiplied T hm (by omega) hpm hR hsi h5 (by omega) (fun B2 w hB2 hw => ?_)
              refine s_md_comes hp hpm hN hR hB2 (fun B3 hin3 => ?_) (fun A3 W3 B3 hs3 M3 hR3 hc3 hext hin3 hmono hW3 _ => ?_)
              · rw [hw] at hin3
                refine ⟨fun _ => ?_, fun q => absurd rfl q⟩
                rintro y rfl
                rw [nI_1]
                refine ⟨⟨v + 1, hs, M, by omega, rfl, hR, hin, hW, ?_⟩, ?_⟩
                · rcases hx with q | ⟨q1, q2, q3, q4⟩
                  · exact Or.inl q
                  · refine Or.inr ⟨q1, q2, q3, fun h7 h8 w hw => ?_⟩
                    by_cases e : w = v
                    · subst e; exact hin3
                    · exact q4 h7 h8 w (by omega)
                · try dsimp only
                  rw [nI_clamp (n := v + 1) (by omega), nI_clamp (n := v) (by omega)]; omega
              · refine ⟨fun q => absurd q (by decide), fun _ => ?_⟩
                rintro y rfl
                rw [nI_1]
                refine ⟨⟨v + 1, hs3, M3, by omega, rfl, hR3, fun q h7 h8 => hmono _ (hin q h7 h8), fun W hWc => hW3 W ?_ (hW W hWc) (by rw [hw]; exact hWm W hWc), Or.inl ⟨rfl, ?_⟩⟩, ?_⟩
                · rw [hCL] at hWc; exact hWc.1
                · rcases hx with ⟨-, q⟩ | ⟨-, q, -⟩ <;> omega
                · try dsimp only
                  rw [nI_clamp (n := v + 1) (by omega), nI_clamp (n := v) (by omega)]; omega
    · obtain ⟨g1, g2, g3, g4⟩ := hG.2 g h2
      refine s_md_degGen hN (by omega) hpm hdg g2 g1 g3 g4 ?_
      have hdt := T.dgH _ g1
      have hiff := T.fdl (tg g) (d + 1) g1 (by omega)
      refine pk_lt d (dg (tg g)) (fun h3 => ?_) (fun h3 => ?_)
      · rintro y rfl
        rw [nI_1]
        refine ⟨⟨g + 1, hs, M, by omega, rfl, hR, fun q hq ht => ?_, hW⟩, ?_⟩
        · by_cases e : q = g
          · subst e; have := hiff.mp ht; omega
          · exact hin q (by omega) ht
        · try dsimp only
          rw [nI_clamp (n := g + 1) (by omega), nI_clamp (n := g) (by omega)]; omega
      · refine ⟨fun x C => ∃ q, q ≤ N ∧ x = nI q ∧ ∀ j, j < q → C j = nI (G g j), fun x _ => 200 - x.toNatClampNeg, ⟨0, Nat.zero_le _, rfl, fun j hj => absurd hj (Nat.not_lt_zero j)⟩, ?_⟩
        rintro x C ⟨q, hq, rfl, hC⟩
        refine pk_le N q (fun h4 => ?_) (fun h4 => ?_)
        · obtain rfl : q = N := by omega
          have hfv : (fun i => if i < q then Fin.ofNat p (G g i) else 0) = rv p G g := by
            funext i
            by_cases c : i < q
            · rw [if_pos c]; rfl
            · rw [if_neg c]
              show 0 = Fin.ofNat p (G g i)
              rw [g3 i (by omega), en_0]
          refine s_md_comes hp hpm hN hR (a := G g) (fun i hi => ⟨hC i hi, (g2 i hi).2⟩) (fun B3 hin3 => ?_) (fun A3 W3 B3 hs3 M3 hR3 hc3 hext hin3 hmono hW3 _ => ?_)
          · rw [hfv] at hin3
            rintro y rfl
            rw [nI_1]
            refine ⟨⟨g + 1, hs, M, by omega, rfl, hR, fun t ht h5 => ?_, hW⟩, ?_⟩
            · by_cases e : t = g
              · subst e; exact hin3
              · exact hin t (by omega) h5
            · try dsimp only
              rw [nI_clamp (n := g + 1) (by omega), nI_clamp (n := g) (by omega)]; omega
          · rw [hfv] at hin3
            rintro y rfl
            rw [nI_1]
            refine ⟨⟨g + 1, hs3, M3, by omega, rfl, hR3, fun t ht h5 => ?_, fun W hWc => hW3 W ?_ (hW W hWc) ?_⟩, ?_⟩
            · by_cases e : t = g
              · subst e; exact hin3
              · exact hmono _ (hin t (by omega) h5)
            · rw [hCL] at hWc; exact hWc.1
            · rw [hfv]
              rw [hCL] at hWc
              exact hWc.2.1 g ⟨h2, hiff.mpr (by omega)⟩
            · try dsimp only
              rw [nI_clamp (n := g + 1) (by omega), nI_clamp (n := g) (by omega)]; omega
        · have hgq := g2 q h4
          rw [show (126 : Int32) = nI 126 from rfl, pk_mul, nI_add]
          refine ⟨pk_in (126 * g + q) 1008 (by omega), pk_in q 126 (by omega), ?_⟩
          rintro C1 rfl
          rintro y rfl
          rw [nI_clamp (n := 126 * g + q) (by omega), nI_clamp (n := q) (by omega), hgq.1, nI_1]
          refine ⟨⟨q + 1, by omega, rfl, fun j hj => ?_⟩, ?_⟩
          · by_cases e : j = q
            · subst e; exact pk_us
            · rw [pk_un e]; exact hC j (by omega)
          · try dsimp only
            rw [nI_clamp (n := q + 1) (by omega), nI_clamp (n := q) (by omega)]; omega
  · refine ⟨pk_in k 126 (by omega), ?_⟩
    rintro B1 rfl
    rintro y rfl
    rw [nI_clamp (n := k) (by omega), nI_1, nar0]
    refine ⟨⟨k + 1, by omega, rfl, fun j hj => ?_⟩, ?_⟩
    · by_cases e : j = k
      · subst e; exact pk_us
      · rw [pk_un e]; exact hB j (by omega)
    · try dsimp only
      rw [nI_clamp (n := k + 1) (by omega), nI_clamp (n := k) (by omega)]; omega
