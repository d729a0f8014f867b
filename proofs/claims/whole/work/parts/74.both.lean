/-! PURE: both sides find one space; join, clear, standard -/
theorem both_one {p n N d gc sz ct : Nat} [NeZero p] {cd fd : Nat → Nat} {dv : Nat → Nat → Nat} (hp : 2 ≤ p) {G : Nat → Nat → Nat} {tg : Nat → Nat} {coef leads rol has row : Nat → Int32} {R : Nat → Nat → Nat} {ld : Nat → Nat} {hs : Nat → Bool} {M : Nat → Nat → Nat} {S : (Nat → Fin p) → Prop}
    (hS : spOK p sz ct coef leads rol R ld) (hcl : clW n (fd d) N cd dv (fun g => g < gc ∧ tg g < fd (d + 1)) (rv p G) (la_in ct (rv p R))) (hmin : ∀ W, clW n (fd d) N cd dv (fun g => g < gc ∧ tg g < fd (d + 1)) (rv p G) W → ∀ r, r < ct → W (rv p R r))
    (hR : mdR p N hs M has row) (hcl2 : clW n (fd d) N cd dv (fun g => g < gc ∧ tg g < fd (d + 1)) (rv p G) S) (hmin2 : ∀ W, clW n (fd d) N cd dv (fun g => g < gc ∧ tg g < fd (d + 1)) (rv p G) W → ∀ f, S f → W f) (hrows : ∀ i, hs i = true → S (rv p M i)) (htop : ∀ f, S f → (∀ i, f i = 0) ∨ ∃ j, hs j = true ∧ ¬ f j = 0 ∧ ∀ i, j < i → f i = 0) (hred : ∀ i j, hs i = true → hs j = true → j ≠ i → M i j = 0) :
    ldB ct ld hs ∧ ∀ i, hs i = true → RedRow p (la_in ct (rv p R)) hs i (M i) := by
  have h10 : ¬ Fin.ofNat p 1 = 0 := fun q => by have := (en_zero (p := p) (x := 1) (by omega)).mp q; omega
  have hin : ∀ f, S f → la_in ct (rv p R) f := hmin2 _ hcl
  have hE := sp_ech (p := p) hS
  have hone : ∀ j, hs j = true → ¬ rv p M j j = 0 := fun j hj => by
    show ¬ Fin.ofNat p (M j j) = 0
    rw [(hR.2.1 j hj).2.2.1]; exact h10
  have hup : ∀ j, hs j = true → ∀ i, j < i → rv p M j i = 0 := fun j hj i hi => by
    show Fin.ofNat p (M j i) = 0
    rw [(hR.2.1 j hj).2.2.2 i hi, en_0]
  refine ⟨fun i => ⟨fun hi => ?_, fun ⟨r, hr, hri⟩ => ?_⟩, fun i hi => ?_⟩
  · rcases la_top hE (hin _ (hrows i hi)) with hz | ⟨r, hr, hrn, hrz⟩
    · exact absurd (hz i) (hone i hi)
    · refine ⟨r, hr, ?_⟩
      rcases Nat.lt_trichotomy (ld r) i with q | q | q
      · exact absurd (hrz i q) (hone i hi)
      · exact q
      · exact absurd (hup i hi _ q) hrn
  · have h1 := (hE.1 r hr)
    rcases htop _ (hmin S hcl2 r hr) with hz | ⟨j, hj, hjn, hjz⟩
    · have := hz (ld r)
      rw [h1.1] at this
      exact absurd (by rw [en_1]; exact this) h10
    · have : j = i := by
        rcases Nat.lt_trichotomy j i with q | q | q
        · have := hjz (ld r) (by omega)
          rw [h1.1] at this
          exact absurd (by rw [en_1]; exact this) h10
        · exact q
        · exact absurd (h1.2 j (by omega)) hjn
      rw [← this]; exact hj
  · obtain ⟨g1, g2, g3, g4⟩ := hR.2.1 i hi
    refine ⟨fun q => ?_, g3, g4, fun j hj hji => hred i j hi hj hji, hin _ (hrows i hi)⟩
    rcases Nat.lt_or_ge q N with h | h
    · exact (g2 q h).2
    · rw [g4 q (by omega)]; omega
theorem ldB_eq {ct : Nat} {ld : Nat → Nat} {hs hs' : Nat → Bool} (h : ldB ct ld hs) (h' : ldB ct ld hs') : hs' = hs := by
  funext i
  have := (h i).trans (h' i).symm
  exact (Bool.eq_iff_iff.mpr this).symm
theorem hs_lt {n o H N d : Nat} {cd dg fd : Nat → Nat} {pm dv : Nat → Nat → Nat} (T : Tb n o H N cd dg fd pm dv) (hd : d ≤ H) {hs : Nat → Bool} (hC : hsC n N d dg pm hs) : mnF (mnB n cd dv hs) N = mnF (mnB n cd dv hs) (fd (d + 1)) := by
  refine mnF_ext (fun i hi => hs_no ?_) N (T.fdN (d + 1) (by omega))
  cases e : hs i with
  | false => rfl
  | true =>
    obtain ⟨h1, h2⟩ := hC.1 i e
    have := T.fdl i (d + 1) h1 (by omega)
    omega
set_option maxHeartbeats 1000000 in
theorem s_md_join {p N gc : Nat} {c0 c1 c2 c3 c6 c7 c8 c9 : Int32} {gen hand : Nat → Int32} {h : Nat → Nat} (hpm : p ≤ 32003) (hN : N ≤ 126) (hgc : gc ≤ 8) (hh : ∀ i, i < N → hand i = nI (h i) ∧ h i < p)
    {Q : Int32 → Int32 → Int32 → Int32 → (Nat → Int32) → (Nat → Int32) → Prop} (h1 : (∀ i, i < N → h i = 0) → Q 0 1 (nI gc) c6 gen hand) (h2 : ¬ (∀ i, i < N → h i = 0) → gc = 8 → Q 0 2 (nI gc) c6 gen hand)
    (h3 : ¬ (∀ i, i < N → h i = 0) → gc < 8 → ∀ gen' hand' : Nat → Int32, (∀ i, i < N → gen' (126 * gc + i) = nI (h i)) → (∀ j, j < 126 * gc → gen' j = gen j) → (∀ i, i < N → hand' i = 0) → Q (nI (gc + 1)) 0 (nI (gc + 1)) 0 gen' hand') :
    vc_md_join c0 c1 c2 c3 (nI N) (nI gc) c6 c7 c8 c9 gen hand Q := by
  refine ⟨fun x y => ∃ k, k ≤ N ∧ y = nI k ∧ ((x = 0 ∧ ∀ i, i < k → h i = 0) ∨ (x = 1 ∧ ¬ ∀ i, i < N → h i = 0)), fun _ y => 200 - y.toNatClampNeg, ⟨0, Nat.zero_le _, rfl, Or.inl ⟨rfl, fun i hi => absurd hi (Nat.not_lt_zero i)⟩⟩, ?_⟩
  rintro x y ⟨k, hk, rfl, hx⟩
  refine pk_le N k (fun hkN => ⟨fun hx0 => ?_, fun hx0 => ?_⟩) (fun hkN => ⟨pk_in k 126 (by omega), ?_⟩)
  · have hnz : ¬ ∀ i, i < N → h i = 0 := by
      rcases hx with ⟨q, -⟩ | ⟨-, q⟩
      · exact absurd q hx0
      · exact q
    refine ⟨fun h8 => ⟨fun _ => ?_, fun q => absurd rfl q⟩, fun h8 => ⟨fun q => absurd q (by decide), fun _ => h2 hnz ((nI_eq (b := 8) (by omega) (by omega)).mp h8)⟩⟩
    have hg8 : gc < 8 := by
      have : ¬ gc = 8 := fun q => h8 (by rw [q]; rfl)
      omega
    have ix : ∀ i, i < 126 → (126 : Int32) * nI gc + nI i = nI (126 * gc + i) := fun i _ => by rw [show (126 : Int32) = nI 126 from rfl, pk_mul, nI_add]
    refine ⟨fun z g => ∃ k, k ≤ 126 ∧ z = nI k ∧ ∀ j, j < 126 * gc → g j = gen j, fun z _ => 200 - z.toNatClampNeg, ⟨0, Nat.zero_le _, rfl, fun _ _ => rfl⟩, ?_⟩
    rintro z g ⟨k, hk, rfl, hg⟩
    refine pk_le 126 k (fun hk2 => ?_) (fun hk2 => ?_)
    · refine ⟨fun z g2 hd => ∃ k, k ≤ N ∧ z = nI k ∧ (∀ i, i < k → g2 (126 * gc + i) = nI (h i)) ∧ (∀ j, j < 126 * gc → g2 j = gen j) ∧ (∀ i, i < k → hd i = 0) ∧ ∀ i, k ≤ i → i < N → hd i = nI (h i), fun z _ _ => 200 - z.toNatClampNeg, ⟨0, Nat.zero_le _, rfl, fun i hi => absurd hi (Nat.not_lt_zero i), hg, fun i hi => absurd hi (Nat.not_lt_zero i), fun i _ hi => (hh i hi).1⟩, ?_⟩
      rintro z g2 hd ⟨k, hk, rfl, a1, a2, a3, a4⟩
      refine pk_le N k (fun hk3 => ?_) (fun hk3 => ?_)
      · obtain rfl : k = N := by omega
        rintro y rfl
        rw [nI_1]
        exact h3 hnz hg8 g2 hd a1 a2 a3
      · rw [ix k (by omega)]
        refine ⟨pk_in k 126 (by omega), pk_in (126 * gc + k) 1008 (by omega), ?_⟩
        rintro g3 rfl
        refine ⟨pk_in k 126 (by omega), ?_⟩
        rintro hd2 rfl z rfl
        rw [nI_1, nI_clamp (n := 126 * gc + k) (by omega), nI_clamp (n := k) (by omega)]
        refine ⟨⟨k + 1, by omega, rfl, fun i hi => ?_, fun j hj => ?_, fun i hi => ?_, fun i hi hi2 => ?_⟩, ?_⟩
        · by_cases e : i = k
          · rw [e, pk_us]; exact a4 k (Nat.le_refl k) hk3
          · rw [pk_un (by omega)]; exact a1 i (by omega)
        · rw [pk_un (by omega)]; exact a2 j hj
        · by_cases e : i = k
          · rw [e, pk_us]
          · rw [pk_un e]; exact a3 i (by omega)
        · rw [pk_un (by omega)]; exact a4 i (by omega) hi2
        · try dsimp only
          rw [nI_clamp (n := k + 1) (by omega), nI_clamp (n := k) (by omega)]; omega
    · rw [ix k hk2]
      refine ⟨pk_in (126 * gc + k) 1008 (by omega), ?_⟩
      rintro g2 rfl z rfl
      rw [nI_1, nI_clamp (n := 126 * gc + k) (by omega)]
      refine ⟨⟨k + 1, by omega, rfl, fun j hj => ?_⟩, ?_⟩
      · rw [pk_un (by omega)]; exact hg j hj
      · try dsimp only
        rw [nI_clamp (n := k + 1) (by omega), nI_clamp (n := k) (by omega)]; omega
  · have hz : ∀ i, i < N → h i = 0 := by
      rcases hx with ⟨-, q⟩ | ⟨q, -⟩
      · exact fun i hi => q i (by omega)
      · rw [q] at hx0; exact absurd hx0 (by decide)
    exact ⟨fun q => absurd q (by decide), fun _ => h1 hz⟩
  · obtain ⟨b1, b2⟩ := hh k hkN
    rw [nI_clamp (n := k) (by omega), b1]
    refine pk_eq (h k) 0 (fun e => ?_) (fun e => ?_)
    · rintro y rfl
      rw [nI_1]
      refine ⟨⟨k + 1, by omega, rfl, ?_⟩, ?_⟩
      · rcases hx with ⟨q1, q2⟩ | q
        · refine Or.inl ⟨q1, fun i hi => ?_⟩
          by_cases e2 : i = k
          · rw [e2]; exact e
          · exact q2 i (by omega)
        · exact Or.inr q
      · try dsimp only
        rw [nI_clamp (n := k + 1) (by omega), nI_clamp (n := k) (by omega)]; omega
    · rintro y rfl
      rw [nI_1]
      refine ⟨⟨k + 1, by omega, rfl, Or.inr ⟨rfl, fun q => e (q k hkN)⟩⟩, ?_⟩
      try dsimp only
      rw [nI_clamp (n := k + 1) (by omega), nI_clamp (n := k) (by omega)]; omega
theorem tp_zero {A : Nat → Int32} {N : Nat} (h : ∀ i, i < N → A i = 0) : tp A N = 0 := by
  have h1 := tp_le A N
  cases e : tp A N with
  | zero => rfl
  | succ t => exact absurd (h t (by omega)) (tp_top A N t e)
theorem tp_all {A : Nat → Int32} {N : Nat} (h : tp A N = 0) : ∀ i, i < N → A i = 0 := fun i hi => tp_above A N i (by omega) hi
theorem tm_1 {t : Nat} (ht : t ≤ 126) : (nI t - 1 = -1) ↔ t = 0 := by
  constructor
  · intro h
    have := congrArg Int32.toInt h
    rw [pn_pred (by omega), show (-1 : Int32).toInt = -1 from by decide] at this
    omega
  · rintro rfl; rfl
theorem tm_lt {t s : Nat} (ht : t ≤ 126) (hs : s ≤ 126) : (nI t - 1 < nI s) ↔ t ≤ s := by
  rw [Int32.lt_iff_toInt_lt, pn_pred (by omega), nI_toInt (by omega)]; omega
theorem s_x_join {p N gc : Nat} {c0 c1 c2 c3 s1 s2 s3 : Int32} {A : Nat → Int32} {polys : Nat → Nat → Int32} {tops : Nat → Int32} {h : Nat → Nat} (hpm : p ≤ 32003) (hN : N ≤ 126) (hgc : gc ≤ 8) (hA : ∀ i, i < 126 → A i = nI (h i) ∧ h i < p) (hz : ∀ i, N ≤ i → h i = 0)
    {Q : Int32 → (Nat → Int32) → Int32 → (Nat → Nat → Int32) → (Nat → Int32) → Int32 → Int32 → Int32 → Prop} {T : Nat → Prop} (h1 : (∀ i, i < N → h i = 0) → T 1) (h2 : ¬ (∀ i, i < N → h i = 0) → gc = 8 → T 2)
    (h3 : ¬ (∀ i, i < N → h i = 0) → gc < 8 → ∀ (t : Nat) (B : Nat → Int32) (polys' : Nat → Nat → Int32) (tops' : Nat → Int32), t < N → ¬ h t = 0 → (∀ i, t < i → h i = 0) → (∀ i, i < 126 → B i = 0) → (∀ i, i < 126 → polys' gc i = nI (h i)) → (∀ g, g ≠ gc → polys' g = polys g ∧ tops' g = tops g) → tops' gc = nI t → Q (nI (gc + 1)) B (nI (gc + 1)) polys' tops' (-1) 0 0) :
    vc_x_join c0 A c1 c2 c3 (nI N) (nI gc) polys tops s1 s2 s3 Q T := by
  refine s_topOf (by omega) hN ?_
  have ht := tp_le A N
  have e0 : ∀ i, i < N → (A i = 0 ↔ h i = 0) := fun i hi => by
    rw [(hA i (by omega)).1]
    have := (hA i (by omega)).2
    exact nI_eq (b := 0) (by omega) (by omega)
  refine ⟨fun hne => ?_, fun he => h1 fun i hi => (e0 i hi).mp (tp_all ((tm_1 (by omega)).mp he) i hi)⟩
  have hne : ¬ tp A N = 0 := fun q => hne ((tm_1 (by omega)).mpr q)
  obtain ⟨t, et⟩ : ∃ t, tp A N = t + 1 := ⟨tp A N - 1, by omega⟩
  have htn : ¬ h t = 0 := fun q => tp_top A N t et ((e0 t (by omega)).mpr q)
  have hnz : ¬ ∀ i, i < N → h i = 0 := fun q => htn (q t (by omega))
  rw [et, pn_pred_s]
  refine pk_lt gc 8 (fun hg => ?_) (fun hg => h2 hnz (by omega))
  refine pk_le 8 gc (fun q => by omega) (fun _ => ?_)
  refine ⟨pk_in gc 8 hg, by decide, by decide, by decide, by decide, by decide, ?_⟩
  rintro polys' rfl
  refine ⟨pk_in gc 8 hg, ?_⟩
  rintro tops' rfl y rfl
  refine s_fill (by omega) _ _ (fun B hB _ => ?_)
  rw [nI_1, nI_clamp (n := gc) (by omega)]
  refine h3 hnz hg t B _ _ (by omega) htn (fun i hi => ?_) hB (fun i hi => ?_) (fun g hg => ⟨va_up_ne _ _ hg, pk_un hg⟩) pk_us
  · rcases Nat.lt_or_ge i N with q | q
    · exact (e0 i q).mp (tp_above A N i (by omega) q)
    · exact hz i q
  · rw [va_up_self, pk_cpy_in (by show 0 ≤ i; omega) (by show i < 0 + 126; omega)]
    show A (0 + (i - 0)) = _
    rw [show 0 + (i - 0) = i by omega]; exact (hA i hi).1
theorem s_md_clear {c0 c1 c2 c3 c4 c5 c6 c7 c8 c9 : Int32} {hand : Nat → Int32} {Q : Int32 → Int32 → Int32 → (Nat → Int32) → Prop} (hQ : ∀ B : Nat → Int32, (∀ i, i < 126 → B i = 0) → Q 0 0 0 B) : vc_md_clear c0 c1 c2 c3 c4 c5 c6 c7 c8 c9 hand Q := by
  refine ⟨fun z B => ∃ k, k ≤ 126 ∧ z = nI k ∧ ∀ i, i < k → B i = 0, fun z _ => 200 - z.toNatClampNeg, ⟨0, Nat.zero_le _, rfl, fun i hi => absurd hi (Nat.not_lt_zero i)⟩, ?_⟩
  rintro z B ⟨k, hk, rfl, hB⟩
  refine pk_le 126 k (fun h => hQ B fun i hi => hB i (by omega)) (fun h => ⟨pk_in k 126 h, ?_⟩)
  rintro B' rfl z rfl
  rw [nI_1, nI_clamp (n := k) (by omega)]
  refine ⟨⟨k + 1, by omega, rfl, fun i hi => ?_⟩, ?_⟩
  · by_cases e : i = k
    · rw [e, pk_us]
    · rw [pk_un e]; exact hB i (by omega)
  · try dsimp only
    rw [nI_clamp (n := k + 1) (by omega), nI_clamp (n := k) (by omega)]; omega
/-! standard -/
def cSt (dg : Nat → Nat) (hs : Nat → Bool) (d : Nat) : Nat → Nat
  | 0 => 0
  | k + 1 => cSt dg hs d k + if dg k = d ∧ hs k = false then 1 else 0
theorem cSt_s (dg : Nat → Nat) (hs : Nat → Bool) (d k : Nat) : cSt dg hs d (k + 1) = cSt dg hs d k + if dg k = d ∧ hs k = false then 1 else 0 := rfl
theorem cSt_low {dg : Nat → Nat} {hs : Nat → Bool} {d : Nat} : ∀ k, (∀ i, i < k → ¬ dg i = d) → cSt dg hs d k = 0
  | 0, _ => rfl
  | k + 1, h => by rw [cSt_s, cSt_low k (fun i hi => h i (by omega)), if_neg (fun q => h k (by omega) q.1)]
theorem cSt_up {dg : Nat → Nat} {hs : Nat → Bool} {d s : Nat} : ∀ k, s ≤ k → (∀ i, s ≤ i → i < k → ¬ dg i = d) → cSt dg hs d k = cSt dg hs d s
  | 0, h, _ => by rw [show s = 0 by omega]
  | k + 1, h, h2 => by
    by_cases e : s = k + 1
    · rw [e]
    · rw [cSt_s, cSt_up k (by omega) (fun i hi hi2 => h2 i hi (by omega)), if_neg (fun q => h2 k (by omega) (by omega) q.1)]; omega
theorem s_standardOf {p sz ct n o H N d : Nat} {cd dg fd : Nat → Nat} {pm dv : Nat → Nat → Nat} (T : Tb n o H N cd dg fd pm dv) {first coef leads rol : Nat → Int32} (hf : ∀ d, d ≤ H + 1 → first d = nI (fd d)) {R : Nat → Nat → Nat} {ld : Nat → Nat} (hS : spOK p sz ct coef leads rol R ld) {hs : Nat → Bool} (hh : ldB ct ld hs) {a b c e f g : Int32} (hd : d ≤ H) {Q : Int32 → Prop} (hQ : Q (nI (cSt dg hs d N))) :
    vc_sp_standardOfDegree a b c e first f (nI sz) g rol (nI d) Q := by
  have hN := T.N126
  have hH := T.H30
  have h1 := T.fdN (d + 1) (by omega)
  have h2 := T.fdm (show d ≤ d + 1 by omega) (by omega)
  have e1 : cSt dg hs d N = cSt dg hs d (fd (d + 1)) := cSt_up N h1 (fun i hi hi2 => by have := T.fdl i (d + 1) hi2 (by omega); omega)
  have e0 : cSt dg hs d (fd d) = 0 := cSt_low (fd d) (fun i hi => by have := T.fdl i d (by omega) (by omega); omega)
  rw [e1] at hQ
  refine ⟨pk_in d 32 (by omega), ?_⟩
  rintro y rfl
  rw [nI_clamp (n := d) (by omega), hf d (by omega)]
  refine ⟨fun x y => ∃ k, fd d ≤ k ∧ k ≤ fd (d + 1) ∧ y = nI k ∧ x = nI (cSt dg hs d k), fun _ y => 200 - y.toNatClampNeg, ⟨fd d, Nat.le_refl _, h2, rfl, by rw [e0]; rfl⟩, ?_⟩
  rintro x y ⟨k, hk0, hk, rfl, rfl⟩
  rw [nI_1]
  refine ⟨pk_in (d + 1) 32 (by omega), ?_⟩
  rw [nI_clamp (n := d + 1) (by omega), hf (d + 1) (by omega)]
  refine pk_le (fd (d + 1)) k (fun h => ?_) (fun h => ?_)
  · rw [show k = fd (d + 1) by omega]; exact hQ
  have q1 := T.fdl k (d + 1) (by omega) (by omega)
  have q2 := T.fdl k d (by omega) (by omega)
  refine s_isLeadB hS hh (by omega) (fun hb => ⟨fun _ => ?_, fun q => absurd q (by decide)⟩) (fun hb => ⟨fun q => absurd rfl q, fun _ => ?_⟩)
  · rintro y rfl
    rw [nI_1]
    refine ⟨⟨k + 1, by omega, by omega, rfl, by rw [cSt_s, if_neg (fun q => by rw [hb] at q; exact absurd q.2 (by decide))]; rfl⟩, ?_⟩
    try dsimp only
    rw [nI_clamp (n := k + 1) (by omega), nI_clamp (n := k) (by omega)]; omega
  · rintro x rfl y rfl
    rw [nI_1, nI_1]
    refine ⟨⟨k + 1, by omega, by omega, rfl, by rw [cSt_s, if_pos ⟨by omega, hb⟩]⟩, ?_⟩
    try dsimp only
    rw [nI_clamp (n := k + 1) (by omega), nI_clamp (n := k) (by omega)]; omega
theorem s_md_standard {p n o H N d0 : Nat} {cd dg fd : Nat → Nat} {pm dv : Nat → Nat → Nat} (T : Tb n o H N cd dg fd pm dv) {c0 c1 c2 c3 c5 c8 c9 x : Int32} {dga has row : Nat → Int32} (hdg : ∀ i, i < N → dga i = nI (dg i)) {hs : Nat → Bool} {M : Nat → Nat → Nat} (hR : mdR p N hs M has row) (hd0 : d0 ≤ H)
    {Q : Int32 → Int32 → Prop} (hn : (∀ d, d ≤ d0 → x ≠ nI d) → Q (-1) 0) (hy : ∀ d, d ≤ d0 → x = nI d → Q (nI (cSt dg hs d N)) 0) :
    vc_md_standard c0 c1 c2 c3 (nI N) c5 1 (nI d0) c8 c9 dga has x Q := by
  have hN := T.N126
  have hH := T.H30
  refine ⟨fun q => absurd q (by decide), fun _ => ⟨fun hx => hn fun d hd e => ?_, fun hx => ?_⟩⟩
  · rw [e] at hx; exact nI_pos (by omega) hx
  obtain ⟨d, hd31, rfl⟩ := nI_of hx
  refine pk_le d d0 (fun hd => ?_) (fun hd => hn fun e he q => ?_) rfl rfl hd31 (by omega)
  · refine ⟨fun x y => ∃ k, k ≤ N ∧ y = nI k ∧ x = nI (cSt dg hs d k), fun _ y => 200 - y.toNatClampNeg, ⟨0, Nat.zero_le _, rfl, rfl⟩, ?_⟩
    rintro x y ⟨k, hk, rfl, rfl⟩
    refine pk_le N k (fun h => ?_) (fun h => ⟨pk_in k 126 (by omega), ?_⟩)
    · obtain rfl : k = N := by omega
      exact hy d hd rfl
    have hdk := T.dgH k h
    rw [nI_clamp (n := k) (by omega), hdg k h, hR.1 k (by omega)]
    have e1 : (nI (dg k) = nI d) ↔ dg k = d := nI_eq (by omega) (by omega)
    refine ⟨fun q => ?_, fun q => ⟨pk_in k 126 (by omega), ?_⟩⟩
    · rintro x rfl y rfl
      rw [nI_1, show (0 : Int32) = nI 0 from rfl, nI_add]
      refine ⟨⟨k + 1, by omega, rfl, by rw [cSt_s, if_neg (fun q2 => q (e1.mpr q2.1))]⟩, ?_⟩
      try dsimp only
      rw [nI_clamp (n := k + 1) (by omega), nI_clamp (n := k) (by omega)]; omega
    · cases hb : hs k with
      | true =>
        refine ⟨fun _ => ?_, fun q => absurd q (by decide)⟩
        rintro x rfl y rfl
        rw [nI_1, show (0 : Int32) = nI 0 from rfl, nI_add]
        refine ⟨⟨k + 1, by omega, rfl, by rw [cSt_s, if_neg (fun q2 => by rw [hb] at q2; exact absurd q2.2 (by decide))]⟩, ?_⟩
        try dsimp only
        rw [nI_clamp (n := k + 1) (by omega), nI_clamp (n := k) (by omega)]; omega
      | false =>
        refine ⟨fun q => absurd rfl q, fun _ => ?_⟩
        rintro x rfl y rfl
        rw [nI_1, nI_1]
        refine ⟨⟨k + 1, by omega, rfl, by rw [cSt_s, if_pos ⟨e1.mp q, hb⟩]⟩, ?_⟩
        try dsimp only
        rw [nI_clamp (n := k + 1) (by omega), nI_clamp (n := k) (by omega)]; omega
  · have := (nI_eq hd31 (by omega)).mp q; omega
