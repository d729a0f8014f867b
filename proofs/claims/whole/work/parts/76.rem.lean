/-! PURE: the remainder on both sides -/
theorem s_md_remainder0 {N : Nat} {c0 c1 c2 c3 c5 c7 c8 c9 : Int32} {dga hand has row work : Nat → Int32} (hN : N ≤ 126) {Q : Int32 → Int32 → Int32 → (Nat → Int32) → (Nat → Int32) → Prop} (hQ : Q 0 1 c9 hand work) : vc_md_remainder c0 c1 c2 c3 (nI N) c5 0 c7 c8 c9 dga hand has row work Q := by
  refine ⟨fun _ => ?_, fun q => absurd rfl q⟩
  refine ⟨fun x y => ∃ k, k ≤ N ∧ x = nI k ∧ y = 1, fun x _ => 200 - x.toNatClampNeg, ⟨0, Nat.zero_le _, rfl, rfl⟩, ?_⟩
  rintro x y ⟨k, hk, rfl, rfl⟩
  have next : ∀ z, z = nI k + 1 → (∃ k, k ≤ N ∧ z = nI k ∧ (1 : Int32) = 1) ∧ 200 - z.toNatClampNeg < 200 - (nI k).toNatClampNeg ∨ N ≤ k := by
    rintro z rfl
    rcases Nat.lt_or_ge k N with q | q
    · rw [nI_1, nI_clamp (n := k + 1) (by omega), nI_clamp (n := k) (by omega)]
      exact Or.inl ⟨⟨k + 1, by omega, rfl, rfl⟩, by omega⟩
    · exact Or.inr q
  refine pk_le N k (fun h => ⟨fun q => absurd q (by decide), fun _ => hQ⟩) (fun h => ⟨pk_in k 126 (by omega), ?_⟩)
  have next2 : ∀ z, z = nI k + 1 → (∃ k, k ≤ N ∧ z = nI k ∧ (1 : Int32) = 1) ∧ 200 - z.toNatClampNeg < 200 - (nI k).toNatClampNeg := fun z hz => by
    rcases next z hz with q | q
    · exact q
    · omega
  exact ⟨fun _ => next2, fun _ => ⟨pk_in k 126 (by omega), fun _ => next2, fun _ => next2⟩⟩
theorem s_md_copy {N : Nat} {W : Nat → Int32} {hand : Nat → Int32} {P : (Nat → Int32) → Prop} (hN : N ≤ 126) (hP : ∀ B : Nat → Int32, (∀ i, i < N → B i = W i) → P B) :
    ∃ (I : Int32 → (Nat → Int32) → Prop) (mu : Int32 → (Nat → Int32) → Nat), I 0 hand ∧ ∀ (x : Int32) (B : Nat → Int32), I x B → (((nI N ≤ x) → P B) ∧ ((¬ (nI N ≤ x)) → (vp_in x 126 ∧ vp_in x 126 ∧ ∀ B' : Nat → Int32, B' = upd B x.toNatClampNeg (W x.toNatClampNeg) → ∀ y : Int32, y = x + 1 → (I y B' ∧ mu y B' < mu x B)))) := by
  refine ⟨fun x B => ∃ k, k ≤ N ∧ x = nI k ∧ ∀ i, i < k → B i = W i, fun x _ => 200 - x.toNatClampNeg, ⟨0, Nat.zero_le _, rfl, fun i hi => absurd hi (Nat.not_lt_zero i)⟩, ?_⟩
  rintro x B ⟨k, hk, rfl, hB⟩
  refine pk_le N k (fun h => hP B fun i hi => hB i (by omega)) (fun h => ⟨pk_in k 126 (by omega), pk_in k 126 (by omega), ?_⟩)
  rintro B' rfl y rfl
  rw [nI_1, nI_clamp (n := k) (by omega)]
  refine ⟨⟨k + 1, by omega, rfl, fun i hi => ?_⟩, ?_⟩
  · by_cases e : i = k
    · rw [e, pk_us]
    · rw [pk_un e]; exact hB i (by omega)
  · try dsimp only
    rw [nI_clamp (n := k + 1) (by omega), nI_clamp (n := k) (by omega)]; omega
set_option maxHeartbeats 1000000 in
theorem s_md_remainder {p n o H N d : Nat} [NeZero p] {cd dg fd : Nat → Nat} {pm dv : Nat → Nat → Nat} (T : Tb n o H N cd dg fd pm dv) {c0 c2 c3 c5 c8 c9 : Int32} {dga hand has row work : Nat → Int32} (hdg : ∀ i, i < N → dga i = nI (dg i)) {hs : Nat → Bool} {M : Nat → Nat → Nat} (hp : 2 ≤ p) (hpm : p ≤ 32003) (hR : mdR p N hs M has row) (hd : d ≤ H) {h : Nat → Nat} (hh : ∀ i, i < N → hand i = nI (h i) ∧ h i < p)
    {Q : Int32 → Int32 → Int32 → (Nat → Int32) → (Nat → Int32) → Prop} (h1 : ∀ i, i < N → ¬ h i = 0 → d < dg i → Q 0 1 c9 hand work)
    (hQ : (∀ i, i < N → ¬ h i = 0 → dg i ≤ d) → ∀ (B work' : Nat → Int32) (b : Nat → Nat) (t : Nat → Fin p), (∀ i, i < N → B i = nI (b i) ∧ b i < p) → (∀ i, i < N → hs i = true → b i = 0) → (∀ i, i < N → Fin.ofNat p (b i) + la_sm (fun j => t j * rv p M j i) N = Fin.ofNat p (h i)) → ((∀ i, i < N → b i = 0) → Q 1 0 (c9 + 1) B work') ∧ (¬ (∀ i, i < N → b i = 0) → Q 0 0 c9 B work')) :
    vc_md_remainder c0 (nI p) c2 c3 (nI N) c5 1 (nI d) c8 c9 dga hand has row work Q := by
  have hN := T.N126
  have hH := T.H30
  refine ⟨fun q => absurd q (by decide), fun _ => ?_⟩
  refine ⟨fun x y => ∃ k, k ≤ N ∧ x = nI k ∧ ((y = 0 ∧ ∀ i, i < k → ¬ h i = 0 → dg i ≤ d) ∨ (y = 1 ∧ ∃ i, i < N ∧ ¬ h i = 0 ∧ d < dg i)), fun x _ => 200 - x.toNatClampNeg, ⟨0, Nat.zero_le _, rfl, Or.inl ⟨rfl, fun i hi => absurd hi (Nat.not_lt_zero i)⟩⟩, ?_⟩
  rintro x y ⟨k, hk, rfl, hy⟩
  refine pk_le N k (fun hk2 => ?_) (fun hk2 => ⟨pk_in k 126 (by omega), ?_⟩)
  · rcases hy with ⟨rfl, hall⟩ | ⟨rfl, i, hi1, hi2, hi3⟩
    · refine ⟨fun _ => ?_, fun q => absurd rfl q⟩
      refine s_md_copy hN (fun W hW => ?_)
      refine s_md_reduce hp hpm hN hR (a := h) (fun i hi => by rw [hW i hi]; exact hh i hi) (fun x B b t hB hz heq hx _ => ?_)
      rcases hx with ⟨rfl, hall0⟩ | ⟨l, rfl, hl, hbl, -⟩
      · refine ⟨fun q => absurd q (by decide), fun _ => ?_⟩
        refine s_md_copy hN (fun B2 hB2 => ⟨fun q => absurd q (by decide), fun _ => ?_⟩)
        rintro y rfl
        exact (hQ (fun i hi => hall i (by omega)) B2 B b t (fun i hi => by rw [hB2 i hi]; exact hB i hi) hz heq).1 hall0
      · refine ⟨fun _ => ?_, fun q => absurd (nI_pos' (by omega)) q⟩
        refine s_md_copy hN (fun B2 hB2 => ⟨fun _ => ?_, fun q => absurd rfl q⟩)
        exact (hQ (fun i hi => hall i (by omega)) B2 B b t (fun i hi => by rw [hB2 i hi]; exact hB i hi) hz heq).2 (fun q => hbl (q l hl))
    · exact ⟨fun q => absurd q (by decide), fun _ => h1 i hi1 hi2 hi3⟩
  · obtain ⟨b1, b2⟩ := hh k hk2
    have hdk := T.dgH k hk2
    rw [nI_clamp (n := k) (by omega), b1, hdg k hk2]
    have next : (¬ h k = 0 → dg k ≤ d) → ∀ z, z = nI k + 1 → (∃ k, k ≤ N ∧ z = nI k ∧ ((y = 0 ∧ ∀ i, i < k → ¬ h i = 0 → dg i ≤ d) ∨ (y = 1 ∧ ∃ i, i < N ∧ ¬ h i = 0 ∧ d < dg i))) ∧ 200 - z.toNatClampNeg < 200 - (nI k).toNatClampNeg := by
      rintro hc z rfl
      rw [nI_1, nI_clamp (n := k + 1) (by omega), nI_clamp (n := k) (by omega)]
      refine ⟨⟨k + 1, by omega, rfl, ?_⟩, by omega⟩
      rcases hy with ⟨q1, q2⟩ | q
      · refine Or.inl ⟨q1, fun i hi => ?_⟩
        by_cases e : i = k
        · rw [e]; exact hc
        · exact q2 i (by omega)
      · exact Or.inr q
    refine pk_eq (h k) 0 (fun q => next (fun q2 => absurd q q2)) (fun q => ⟨pk_in k 126 (by omega), ?_⟩)
    refine pk_le (dg k) d (fun q2 => next (fun _ => q2)) (fun q2 => ?_)
    rintro z rfl
    rw [nI_1]
    refine ⟨⟨k + 1, by omega, rfl, Or.inr ⟨rfl, k, hk2, q, q2⟩⟩, ?_⟩
    try dsimp only
    rw [nI_clamp (n := k + 1) (by omega), nI_clamp (n := k) (by omega)]; omega
theorem fz_add {p : Nat} [NeZero p] (x : Fin p) : 0 + x = x := by grind
set_option maxHeartbeats 1000000 in
theorem s_x_remainder {p sz ct n o H N d gc rk : Nat} [NeZero p] {cd dg fd : Nat → Nat} {pm dv : Nat → Nat → Nat} (T : Tb n o H N cd dg fd pm dv) {codes degs first prods : Nat → Int32} (hM : mnOK n H N cd dg fd pm codes degs first prods) {G : Nat → Nat → Nat} {tg : Nat → Nat} {polys : Nat → Nat → Int32} {tops : Nat → Int32} (hG : geOK p N gc G tg polys tops)
    {coef leads rol os ov ofc on line taken A asked : Nat → Int32} {R : Nat → Nat → Nat} {ld : Nat → Nat} (hp : 2 ≤ p) (hpm : p ≤ 32003) (hd : d ≤ H) (hsz : sz = fd (d + 1)) (hS : spOK p sz ct coef leads rol R ld) (hO : ogOK p (srcK p n N d sz gc cd dg dv G tg) ct R ld os ov ofc on) (hrk : rk ≤ 126) {a : Nat → Nat} (hA : ∀ i, i < 126 → A i = nI (a i) ∧ a i < p) (haz : ∀ i, N ≤ i → a i = 0) {prc c1 c2 c3 : Int32}
    {Q : Int32 → Int32 → (Nat → Int32) → (Nat → Int32) → (Nat → Int32) → Int32 → (Nat → Int32) → Prop} {TH : Nat → Prop} (h2 : ∀ i, sz ≤ i → i < N → ¬ a i = 0 → TH 2)
    (hQ : (∀ i, sz ≤ i → a i = 0) → ∀ (B asked' tk line' : Nat → Int32) (b t : Nat → Nat) (k : Nat), k ≤ 126 → (∀ i, i < 126 → B i = nI (b i) ∧ b i < p) → (∀ i, N ≤ i → i < 126 → b i = 0) → (∀ r, r < ct → b (ld r) = 0) → (∀ i, i < 126 → Fin.ofNat p (b i) + la_sm (fun r => Fin.ofNat p (t r) * rv p R r i) ct = Fin.ofNat p (a i)) →
      ((∀ i, i < N → b i = 0) → Q 1 (prc + 1) B asked' tk (nI k) line') ∧ (¬ (∀ i, i < N → b i = 0) → Q 0 prc B asked' tk (nI k) line')) :
    vc_x_remainder prc A asked (nI p) c1 c2 c3 (nI N) prods (nI gc) polys tops (nI d) (nI sz) (nI ct) coef leads rol taken os ov ofc on (nI rk) line Q TH := by
  have hN := T.N126
  have hH := T.H30
  have hct := hS.2.1
  have hs126 := hS.1
  refine ⟨fun _ => ?_, fun q => absurd q (pn_m1_ne d (by omega))⟩
  refine s_topOf (by omega) hN ?_
  have ht := tp_le A N
  have e0 : ∀ i, i < N → (A i = 0 ↔ a i = 0) := fun i hi => by
    rw [(hA i (by omega)).1]
    have := (hA i (by omega)).2
    exact nI_eq (b := 0) (by omega) (by omega)
  have ha0 : ∀ i, tp A N ≤ i → a i = 0 := fun i hi => by
    rcases Nat.lt_or_ge i N with q | q
    · exact (e0 i q).mp (tp_above A N i hi q)
    · exact haz i q
  refine ⟨fun hlt => ?_, fun hlt => ?_⟩
  · have hts : tp A N ≤ sz := (tm_lt (by omega) (by omega)).mp hlt
    refine ⟨by decide, by decide, by decide, by decide, by decide, ?_⟩
    rintro asked' hask
    refine s_reduce hp hpm hS (w := 126) (n := 126) (m := tp A N) (by omega) (Nat.le_refl _) (Nat.le_refl _) hA (fun B tk b t hB _ htk hto htm hbm hbl heq => ?_)
    have hbu : ∀ i, tp A N ≤ i → i < 126 → b i = 0 := fun i hi hi2 => by rw [hbm i hi hi2]; exact ha0 i hi
    have hbld : ∀ r, r < ct → b (ld r) = 0 := fun r hr => by
      have := (hS.2.2.1 r hr).2.1
      rcases Nat.lt_or_ge (ld r) (tp A N) with q | q
      · exact hbl r hr q
      · exact hbu _ q (by omega)
    refine s_topOf (by omega) (by omega) ?_
    have ht2 := tp_le B (tp A N)
    have e1 : ∀ i, i < 126 → (B i = 0 ↔ b i = 0) := fun i hi => by
      rw [(hB i hi).1]
      have := (hB i hi).2
      exact nI_eq (b := 0) (by omega) (by omega)
    refine ⟨fun h => ?_, fun h => ?_⟩
    · have hz := tp_all ((tm_1 (by omega)).mp h)
      have hall : ∀ i, i < 126 → b i = 0 := fun i hi => by
        rcases Nat.lt_or_ge i (tp A N) with q | q
        · exact (e1 i hi).mp (hz i q)
        · exact hbu i q hi
      refine s_reckonsOut T hM hG hp hpm hd hsz hS hO hrk htk (ak := a) (fun i hi => ?_) (fun i hi => ?_) (fun k line' hk => ⟨fun q => absurd q (by decide), fun _ => ?_⟩)
      · rw [hask, pk_cpy_in (by show 0 ≤ i; omega) (by show i < 0 + 126; omega)]
        show A (0 + (i - 0)) = _ ∧ _
        rw [show 0 + (i - 0) = i by omega]; exact hA i hi
      · have := heq i hi
        rw [hall i hi, en_0] at this
        rw [← this]
        exact (fz_add _).symm
      · rintro y rfl
        exact (hQ (fun i hi => ha0 i (by omega)) B asked' tk line' b t k hk hB (fun i hi hi2 => hbu i (by omega) hi2) hbld heq).1 (fun i hi => hall i (by omega))
    · refine (hQ (fun i hi => ha0 i (by omega)) B asked' tk line b t rk hrk hB (fun i hi hi2 => hbu i (by omega) hi2) hbld heq).2 (fun q => h ?_)
      rw [tm_1 (by omega)]
      exact tp_zero fun i hi => (e1 i (by omega)).mpr (q i (by omega))
  · have hts : ¬ tp A N ≤ sz := fun q => hlt ((tm_lt (by omega) (by omega)).mpr q)
    obtain ⟨t, et⟩ : ∃ t, tp A N = t + 1 := ⟨tp A N - 1, by omega⟩
    exact h2 t (by omega) (by omega) (fun q => tp_top A N t et ((e0 t (by omega)).mpr q))
theorem rem_same {p sz ct N : Nat} [NeZero p] {coef leads rol has row : Nat → Int32} {R : Nat → Nat → Nat} {ld : Nat → Nat} {hs : Nat → Bool} {M : Nat → Nat → Nat} (hp : 2 ≤ p) (hS : spOK p sz ct coef leads rol R ld) (hszN : sz ≤ N) (hN : N ≤ 126) (hh : ldB ct ld hs) (hR : mdR p N hs M has row) (hred : ∀ i, hs i = true → RedRow p (la_in ct (rv p R)) hs i (M i))
    {a b b' t : Nat → Nat} {t' : Nat → Fin p} (hb : ∀ i, i < 126 → b i < p) (hbl : ∀ r, r < ct → b (ld r) = 0) (heq : ∀ i, i < 126 → Fin.ofNat p (b i) + la_sm (fun r => Fin.ofNat p (t r) * rv p R r i) ct = Fin.ofNat p (a i)) (hb' : ∀ i, i < N → b' i < p) (hbl' : ∀ i, i < N → hs i = true → b' i = 0) (heq' : ∀ i, i < N → Fin.ofNat p (b' i) + la_sm (fun j => t' j * rv p M j i) N = Fin.ofNat p (a i)) :
    ∀ i, i < N → b i = b' i := by
  have hin : la_in ct (rv p R) (fun i => la_sm (fun j => t' j * rv p M j i) N + (-1) * la_sm (fun r => Fin.ofNat p (t r) * rv p R r i) ct) := by
    refine la_in_add (la_in_sm t' N (fun j hj => ?_)) (la_in_mul (-1) ⟨fun r => Fin.ofNat p (t r), fun i => rfl⟩)
    cases hj2 : hs j with
    | true => exact (hred j hj2).2.2.2.2
    | false => exact la_in_ext la_in_zero (fun i => by show Fin.ofNat p (M j i) = 0; rw [hR.2.2 j i hj2, en_0])
  have hval : ∀ i, i < N → la_sm (fun j => t' j * rv p M j i) N + (-1) * la_sm (fun r => Fin.ofNat p (t r) * rv p R r i) ct = Fin.ofNat p (b i) - Fin.ofNat p (b' i) := fun i hi => by
    have h1 := heq i (by omega)
    have h2 := heq' i hi
    grind
  have h0 := la_none (sp_ech hS) hin (fun r hr => by
    have h1 := (hS.2.2.1 r hr).2.1
    have h2 : hs (ld r) = true := (hh (ld r)).mpr ⟨r, hr, rfl⟩
    show la_sm (fun j => t' j * rv p M j (ld r)) N + (-1) * la_sm (fun q => Fin.ofNat p (t q) * rv p R q (ld r)) ct = 0
    rw [hval (ld r) (by omega), hbl r hr, hbl' (ld r) (by omega) h2]
    grind)
  intro i hi
  have h1 := h0 i
  have h2 : Fin.ofNat p (b i) - Fin.ofNat p (b' i) = 0 := by rw [← hval i hi]; exact h1
  exact en_inj (p := p) (hb i (by omega)) (hb' i hi) (by grind)
