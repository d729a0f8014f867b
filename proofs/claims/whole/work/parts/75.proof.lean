/-! PURE: every remainder that is nothing is reckoned out -/
theorem s_writeSource {p sz ct n o H N d gc r : Nat} [NeZero p] {cd dg fd : Nat → Nat} {pm dv : Nat → Nat → Nat} (T : Tb n o H N cd dg fd pm dv) {codes degs first prods : Nat → Int32} (hM : mnOK n H N cd dg fd pm codes degs first prods) {G : Nat → Nat → Nat} {tg : Nat → Nat} {polys : Nat → Nat → Int32} {tops : Nat → Int32} (hG : geOK p N gc G tg polys tops)
    {coef leads rol os ov line : Nat → Int32} {R : Nat → Nat → Nat} {ld : Nat → Nat} (hp : 0 < p) (hd : d ≤ H) (hsz : sz = fd (d + 1)) (hS : spOK p sz ct coef leads rol R ld) (hr : r < ct) {f : Nat → Fin p} (hK : srcK p n N d sz gc cd dg dv G tg r R ld (os r) (ov r) f) {a b c e g h i : Int32}
    {Q : Int32 → (Nat → Int32) → Prop} (hQ : ∀ (B : Nat → Int32) (w : Nat → Nat), (∀ i, i < 126 → B i = nI (w i) ∧ w i < p ∧ Fin.ofNat p (w i) = f i) → Q 1 B) :
    vc_pr_writeSource a b c e prods (nI gc) polys tops g (nI sz) h coef leads os ov i line (nI r) Q := by
  have hN := T.N126
  have hct := hS.2.1
  have hszN : sz ≤ N := by rw [hsz]; exact T.fdN (d + 1) (by omega)
  have hgc := hG.1
  refine ⟨pk_in r 126 (by omega), ?_⟩
  rintro x2 hx2
  refine ⟨pk_in r 126 (by omega), ?_⟩
  rintro x3 hx3
  rw [nI_clamp (n := r) (by omega)] at hx2 hx3
  rcases hK with ⟨hy, q, hq, hsq, htq, hf⟩ | ⟨q, v, hq, hv, hsq, hvq, hdq, hf⟩
  · rw [hy] at hx3
    rw [hsq] at hx2
    subst hx3
    subst hx2
    obtain ⟨g1, g2, g3, g4, g5⟩ := hG.2 q hq
    refine ⟨fun q => absurd rfl q, fun _ => ?_⟩
    refine pk_le gc q (fun h => by omega) (fun _ => ⟨pk_in q 8 (by omega), ?_⟩)
    rw [nI_clamp (n := q) (by omega), g1]
    refine pk_lt (tg q) sz (fun _ => ⟨pk_in q 8 (by omega), by decide, by decide, by decide, by decide, by decide, ?_⟩) (fun h => by omega)
    rintro B rfl
    refine hQ _ (G q) (fun i hi => ?_)
    rw [pk_cpy_in (by show 0 ≤ i; omega) (by show i < 0 + 126; omega), hf]
    show polys q (0 + (i - 0)) = _ ∧ _
    rw [show 0 + (i - 0) = i by omega]
    exact ⟨(g3 i hi).1, (g3 i hi).2, rfl⟩
  · rw [hvq] at hx3
    rw [hsq] at hx2
    subst hx3
    subst hx2
    have hld := (hS.2.2.1 q (by omega)).2.1
    obtain ⟨e1, e2, e3, e4, e5⟩ := T.pmN v (ld q) hv (by omega) (by omega)
    have e6 := T.fdl (pm v (ld q)) (d + 1) e1 (by omega)
    have hn4 := T.n4
    refine ⟨fun _ => ?_, fun h => absurd h (pn_m1_ne v (by omega))⟩
    refine pk_le r q (fun h => by omega) (fun _ => ?_)
    refine s_writeProduct T hM hS hszN hp (by omega) hv (by omega) (fun B w hB hw hz => ?_)
    refine ⟨fun h => absurd h (pn_m1_ne _ (by omega)), fun _ => ?_⟩
    refine pk_le sz (pm v (ld q)) (fun h => by omega) (fun _ => ?_)
    exact hQ B w (fun i hi => ⟨(hB i hi).1, (hB i hi).2, by rw [hw i, hf]⟩)
theorem R_lt {p sz ct : Nat} {coef leads rol : Nat → Int32} {R : Nat → Nat → Nat} {ld : Nat → Nat} (hp : 0 < p) (hS : spOK p sz ct coef leads rol R ld) {r : Nat} (hr : r < ct) (i : Nat) : R r i < p := by
  rcases Nat.lt_or_ge (ld r) i with q | q
  · rw [hS.2.2.2.2.2 r hr i q]; exact hp
  · exact (hS.2.2.2.2.1 r hr i q).2
theorem s_coefficientOf {p sz ct r i : Nat} {coef leads rol : Nat → Int32} {R : Nat → Nat → Nat} {ld : Nat → Nat} (hS : spOK p sz ct coef leads rol R ld) (hr : r < ct) (hi : i < 126) {a b c : Int32} {Q : Int32 → Prop} (hQ : Q (nI (R r i))) : vc_sp_coefficientOf a b c coef leads (nI r) (nI i) Q := by
  have hct := hS.2.1
  have hsz := hS.1
  obtain ⟨g1, g2, g3, g4⟩ := hS.2.2.1 r hr
  refine ⟨pk_in r 126 (by omega), ?_⟩
  rw [nI_clamp (n := r) (by omega), g1]
  refine pk_lt (ld r) i (fun h => ?_) (fun h => ⟨pk_in r 126 (by omega), ?_⟩)
  · rw [hS.2.2.2.2.2 r hr i h] at hQ; exact hQ
  · refine s_startOfLine (by omega) ?_
    have hin := tr_in (a := ld r) (i := i) (by omega) h
    rw [nI_add]
    refine ⟨pk_in _ 8001 hin, ?_⟩
    rw [nI_clamp (n := ld r * (ld r + 1) / 2 + i) (by omega), (hS.2.2.2.2.1 r hr i h).1]
    exact hQ
/-- adding a multiple of a row, in the field -/
theorem add_row {p sz ct r w : Nat} [NeZero p] {A coef leads rol : Nat → Int32} {R : Nat → Nat → Nat} {ld : Nat → Nat} (hp : 0 < p) (hpm : p ≤ 32003) (hS : spOK p sz ct coef leads rol R ld) (hr : r < ct) (hw : w < p) {u : Nat → Nat} (hA : ∀ i, i < 126 → A i = nI (u i) ∧ u i < p) {a b c : Int32}
    {Q : (Nat → Int32) → Prop} (hQ : ∀ (B : Nat → Int32) (u' : Nat → Nat), (∀ i, i < 126 → B i = nI (u' i) ∧ u' i < p) → (∀ i, i < 126 → Fin.ofNat p (u' i) = Fin.ofNat p (u i) + Fin.ofNat p w * rv p R r i) → Q B) : vc_sp_addRow 126 A (nI p) a b c coef leads (nI r) (nI w) Q := by
  have hct := hS.2.1
  have hsz := hS.1
  obtain ⟨g1, g2, g3, g4⟩ := hS.2.2.1 r hr
  refine s_addRow hp hpm (by omega) g1 (by omega) (by omega) (by omega) (hS.2.2.2.2.1 r hr) hw (fun i hi => hA i (by omega)) (fun B hB hB2 => ?_)
  refine hQ B (fun i => if i ≤ ld r then (u i + w * R r i) % p else u i) (fun i hi => ?_) (fun i hi => ?_)
  · by_cases c : i ≤ ld r
    · rw [if_pos c]; exact ⟨hB i c, Nat.mod_lt _ hp⟩
    · rw [if_neg c, hB2 i (by omega)]; exact hA i hi
  · show Fin.ofNat p (if i ≤ ld r then (u i + w * R r i) % p else u i) = Fin.ofNat p (u i) + Fin.ofNat p w * Fin.ofNat p (R r i)
    by_cases c : i ≤ ld r
    · rw [if_pos c, en_mod, en_add, en_mul]
    · rw [if_neg c, hS.2.2.2.2.2 r hr i (by omega), en_0]; grind
theorem s_numberOf {on : Nat → Int32} {r e : Nat} (hr : r < 126) (he : e < r) {Q : Int32 → Prop} (hQ : Q (on (r * (r + 1) / 2 + e))) : vc_og_numberOf on (nI r) (nI e) Q := by
  refine s_startOfLine (by omega) ?_
  have hin := tr_in (a := r) (i := e) hr (by omega)
  rw [nI_add]
  refine ⟨pk_in _ 8001 hin, ?_⟩
  rw [nI_clamp (n := r * (r + 1) / 2 + e) (by omega)]
  exact hQ
set_option maxHeartbeats 1000000 in
theorem s_reckonsRow {p sz ct n o H N d gc r : Nat} [NeZero p] {cd dg fd : Nat → Nat} {pm dv : Nat → Nat → Nat} (T : Tb n o H N cd dg fd pm dv) {codes degs first prods : Nat → Int32} (hM : mnOK n H N cd dg fd pm codes degs first prods) {G : Nat → Nat → Nat} {tg : Nat → Nat} {polys : Nat → Nat → Int32} {tops : Nat → Int32} (hG : geOK p N gc G tg polys tops)
    {coef leads rol os ov ofc on line : Nat → Int32} {R : Nat → Nat → Nat} {ld : Nat → Nat} (hp : 2 ≤ p) (hpm : p ≤ 32003) (hd : d ≤ H) (hsz : sz = fd (d + 1)) (hS : spOK p sz ct coef leads rol R ld) (hO : ogOK p (srcK p n N d sz gc cd dg dv G tg) ct R ld os ov ofc on) (hr : r < ct) {a b c e g h i : Int32}
    {Q : Int32 → (Nat → Int32) → Prop} (hQ : ∀ B : Nat → Int32, Q 1 B) :
    vc_pr_reckonsRow (nI p) a b c e prods (nI gc) polys tops g (nI sz) h coef leads os ov ofc on i line (nI r) Q := by
  have hct := hS.2.1
  have hs126 := hS.1
  obtain ⟨fac, num, s, h1, h2, h3, h4, h5⟩ := hO r hr
  refine s_writeSource T hM hG (by omega) hd hsz hS hr h4 (fun B w hB => ?_)
  refine ⟨fun _ => ?_, fun q => absurd q (by decide)⟩
  refine ⟨fun x A => ∃ (k : Nat) (u : Nat → Nat), k ≤ sz ∧ x = nI k ∧ (∀ i, i < 126 → A i = nI (u i) ∧ u i < p) ∧ (∀ i, i < k → Fin.ofNat p (u i) = Fin.ofNat p fac * s i) ∧ ∀ i, k ≤ i → i < 126 → Fin.ofNat p (u i) = s i, fun x _ => 200 - x.toNatClampNeg, ⟨0, w, Nat.zero_le _, rfl, fun i hi => ⟨(hB i hi).1, (hB i hi).2.1⟩, fun i hi => absurd hi (Nat.not_lt_zero i), fun i _ hi => (hB i hi).2.2⟩, ?_⟩
  rintro x A ⟨k, u, hk, rfl, hA, hu1, hu2⟩
  refine pk_le sz k (fun hk2 => ?_) (fun hk2 => ?_)
  · obtain rfl : k = sz := by omega
    refine ⟨fun x A => ∃ (e : Nat) (u : Nat → Nat), e ≤ r ∧ x = nI e ∧ (∀ i, i < 126 → A i = nI (u i) ∧ u i < p) ∧ ∀ i, i < k → Fin.ofNat p (u i) = Fin.ofNat p fac * s i + la_sm (fun j => Fin.ofNat p (num j) * rv p R j i) e, fun x _ => 200 - x.toNatClampNeg, ⟨0, u, Nat.zero_le _, rfl, hA, fun i hi => by rw [hu1 i hi, la_sm_0]; grind⟩, ?_⟩
    rintro x A ⟨e, u, he, rfl, hA, hu⟩
    refine pk_le r e (fun he2 => ?_) (fun he2 => ?_)
    · obtain rfl : e = r := by omega
      refine ⟨fun x => ∃ j, j ≤ k ∧ x = nI j, fun x => 200 - x.toNatClampNeg, ⟨0, Nat.zero_le _, rfl⟩, ?_⟩
      rintro x ⟨j, hj, rfl⟩
      refine pk_le k j (fun _ => hQ A) (fun hj2 => ⟨pk_in j 126 (by omega), ?_⟩)
      refine s_coefficientOf hS hr (by omega) ?_
      rw [nI_clamp (n := j) (by omega), (hA j (by omega)).1]
      have huj := (hA j (by omega)).2
      have hRj := R_lt (by omega) hS hr j
      have hej : u j = R e j := en_inj (p := p) huj hRj (by rw [hu j hj2]; exact (h5 j).symm)
      refine pk_eq (u j) (R e j) (fun _ => ?_) (fun q => absurd hej q)
      rintro y rfl
      rw [nI_1]
      refine ⟨⟨j + 1, by omega, rfl⟩, ?_⟩
      try dsimp only
      rw [nI_clamp (n := j + 1) (by omega), nI_clamp (n := j) (by omega)]; omega
    · refine s_numberOf (by omega) he2 ?_
      obtain ⟨n1, n2⟩ := h3 e he2
      rw [n1]
      refine pk_eq (num e) 0 (fun q => ?_) (fun q => ?_)
      · rintro y rfl
        rw [nI_1]
        refine ⟨⟨e + 1, u, by omega, rfl, hA, fun i hi => ?_⟩, ?_⟩
        · rw [hu i hi, la_sm_s, q, en_0]; grind
        · try dsimp only
          rw [nI_clamp (n := e + 1) (by omega), nI_clamp (n := e) (by omega)]; omega
      · refine add_row (by omega) hpm hS (by omega) n2 hA (fun B u' hB hu' => ?_)
        rintro y rfl
        rw [nI_1]
        refine ⟨⟨e + 1, u', by omega, rfl, hB, fun i hi => ?_⟩, ?_⟩
        · rw [hu' i (by omega), hu i hi, la_sm_s]; grind
        · try dsimp only
          rw [nI_clamp (n := e + 1) (by omega), nI_clamp (n := e) (by omega)]; omega
  · refine ⟨pk_in r 126 (by omega), pk_in k 126 (by omega), ?_⟩
    rw [nI_clamp (n := r) (by omega), nI_clamp (n := k) (by omega), h1, (hA k (by omega)).1]
    refine s_product (by omega) hpm h2 (hA k (by omega)).2 ⟨pk_in k 126 (by omega), ?_⟩
    rintro A' rfl y rfl
    rw [nI_1]
    refine ⟨⟨k + 1, fun i => if i = k then fac * u k % p else u i, by omega, rfl, fun i hi => ?_, fun i hi => ?_, fun i hi hi2 => ?_⟩, ?_⟩
    · try dsimp only
      by_cases q : i = k
      · rw [if_pos q, q, pk_us]; exact ⟨rfl, Nat.mod_lt _ (by omega)⟩
      · rw [if_neg q, pk_un q]; exact hA i hi
    · try dsimp only
      by_cases q : i = k
      · rw [if_pos q, en_mod, en_mul, q, hu2 k (Nat.le_refl k) (by omega)]
      · rw [if_neg q]; exact hu1 i (by omega)
    · try dsimp only
      rw [if_neg (by omega)]; exact hu2 i (by omega) hi2
    · try dsimp only
      rw [nI_clamp (n := k + 1) (by omega), nI_clamp (n := k) (by omega)]; omega
theorem s_isLine {A line : Nat → Int32} {a : Int32} (h : ∀ i, i < 126 → line i = A i) {Q : Int32 → Prop} (hQ : Q 1) : vc_pr_isLine 126 A a line Q := by
  refine ⟨fun x => ∃ k, k ≤ 126 ∧ x = nI k, fun x => 200 - x.toNatClampNeg, ⟨0, Nat.zero_le _, rfl⟩, ?_⟩
  rintro x ⟨k, hk, rfl⟩
  refine pk_le 126 k (fun _ => hQ) (fun hk2 => ⟨pk_in k 126 hk2, pk_in k 126 hk2, ?_⟩)
  rw [nI_clamp (n := k) (by omega)]
  refine ⟨fun _ => ?_, fun q => absurd (h k hk2) q⟩
  rintro y rfl
  rw [nI_1]
  refine ⟨⟨k + 1, by omega, rfl⟩, ?_⟩
  try dsimp only
  rw [nI_clamp (n := k + 1) (by omega), nI_clamp (n := k) (by omega)]; omega
set_option maxHeartbeats 1000000 in
theorem s_reckonsOut {p sz ct n o H N d gc rk : Nat} [NeZero p] {cd dg fd : Nat → Nat} {pm dv : Nat → Nat → Nat} (T : Tb n o H N cd dg fd pm dv) {codes degs first prods : Nat → Int32} (hM : mnOK n H N cd dg fd pm codes degs first prods) {G : Nat → Nat → Nat} {tg : Nat → Nat} {polys : Nat → Nat → Int32} {tops : Nat → Int32} (hG : geOK p N gc G tg polys tops)
    {coef leads rol os ov ofc on line taken A : Nat → Int32} {R : Nat → Nat → Nat} {ld : Nat → Nat} (hp : 2 ≤ p) (hpm : p ≤ 32003) (hd : d ≤ H) (hsz : sz = fd (d + 1)) (hS : spOK p sz ct coef leads rol R ld) (hO : ogOK p (srcK p n N d sz gc cd dg dv G tg) ct R ld os ov ofc on) (hrk : rk ≤ 126) {t ak : Nat → Nat} (ht : ∀ r, r < 126 → taken r = nI (t r) ∧ t r < p) (hA : ∀ i, i < 126 → A i = nI (ak i) ∧ ak i < p) (heq : ∀ i, i < 126 → la_sm (fun r => Fin.ofNat p (t r) * rv p R r i) ct = Fin.ofNat p (ak i)) {a b c e g : Int32}
    {Q : Int32 → Int32 → (Nat → Int32) → Prop} (hQ : ∀ (k : Nat) (B : Nat → Int32), k ≤ 126 → Q 1 (nI k) B) :
    vc_pr_reckonsOut 126 A (nI p) a b c e prods (nI gc) polys tops g (nI sz) (nI ct) coef leads taken os ov ofc on (nI rk) line Q := by
  have hct := hS.2.1
  have hs126 := hS.1
  refine s_fill (by omega) _ _ (fun L0 hL0 _ => ?_)
  refine ⟨fun x y L => ∃ (m k : Nat) (u : Nat → Nat), k ≤ ct ∧ m ≤ k ∧ x = nI m ∧ y = nI k ∧ (∀ i, i < 126 → L i = nI (u i) ∧ u i < p) ∧ ∀ i, i < 126 → Fin.ofNat p (u i) = la_sm (fun r => Fin.ofNat p (t r) * rv p R r i) k, fun _ y _ => 200 - y.toNatClampNeg, ⟨0, 0, fun _ => 0, Nat.zero_le _, Nat.le_refl 0, rfl, rfl, fun i hi => ⟨hL0 i hi, by show 0 < p; omega⟩, fun i hi => rfl⟩, ?_⟩
  rintro x y L ⟨m, k, u, hk, hm, rfl, rfl, hL, hu⟩
  refine pk_le ct k (fun hk2 => ?_) (fun hk2 => ⟨pk_in k 126 (by omega), ?_⟩)
  · obtain rfl : k = ct := by omega
    refine s_isLine (fun i hi => ?_) ⟨fun q => absurd q (by decide), fun _ => ?_⟩
    · rw [(hL i hi).1, (hA i hi).1, en_inj (p := p) (hL i hi).2 (hA i hi).2 (by rw [hu i hi, heq i hi])]
    · refine ⟨fun x y _ => ∃ j, j ≤ 126 ∧ x = nI j ∧ y = nI j, fun x _ _ => 200 - x.toNatClampNeg, ⟨rk, hrk, rfl, rfl⟩, ?_⟩
      rintro x y L2 ⟨j, hj, rfl, rfl⟩
      refine pk_le m j (fun hj2 => ⟨fun q => absurd q (by decide), fun _ => hQ j L2 hj⟩) (fun hj2 => ?_)
      refine s_reckonsRow T hM hG hp hpm hd hsz hS hO (by omega) (fun B => ⟨fun _ => ?_, fun q => absurd q (by decide)⟩)
      rintro y rfl z rfl
      rw [nI_1]
      refine ⟨⟨j + 1, by omega, rfl, rfl⟩, ?_⟩
      try dsimp only
      rw [nI_clamp (n := j + 1) (by omega), nI_clamp (n := j) (by omega)]; omega
  · obtain ⟨t1, t2⟩ := ht k (by omega)
    rw [nI_clamp (n := k) (by omega), t1]
    refine pk_eq (t k) 0 (fun q => ?_) (fun q => ⟨pk_in k 126 (by omega), ?_⟩)
    · rintro y rfl
      rw [nI_1]
      refine ⟨⟨m, k + 1, u, by omega, by omega, rfl, rfl, hL, fun i hi => ?_⟩, ?_⟩
      · rw [hu i hi, la_sm_s, q, en_0]; grind
      · try dsimp only
        rw [nI_clamp (n := k + 1) (by omega), nI_clamp (n := k) (by omega)]; omega
    · refine add_row (by omega) hpm hS (by omega) t2 hL (fun B u' hB hu' => ?_)
      rintro x rfl y rfl
      rw [nI_1]
      refine ⟨⟨k + 1, k + 1, u', by omega, Nat.le_refl _, rfl, rfl, hB, fun i hi => ?_⟩, ?_⟩
      · rw [hu' i hi, hu i hi, la_sm_s]
      · try dsimp only
        rw [nI_clamp (n := k + 1) (by omega), nI_clamp (n := k) (by omega)]; omega
