/-! PURE: find, pairs -/
def tbM (e f : Nat) : Nat → Nat
  | 0 => 0
  | k + 1 => tbM e f k + if tbX e k < tbX f k then tbX f k else tbX e k
theorem tbM_s (e f k : Nat) : tbM e f (k + 1) = tbM e f k + if tbX e k < tbX f k then tbX f k else tbX e k := rfl
theorem tbM_le (e f : Nat) : ∀ k, tbM e f k ≤ 256 * k
  | 0 => Nat.le_refl 0
  | k + 1 => by
    rw [tbM_s]
    have := tbM_le e f k
    have := tbX_lt e k
    have := tbX_lt f k
    by_cases c : tbX e k < tbX f k
    · rw [if_pos c]; omega
    · rw [if_neg c]; omega
theorem tbM_n {e f n : Nat} (h1 : ∀ v, n ≤ v → v < 4 → tbX e v = 0) (h2 : ∀ v, n ≤ v → v < 4 → tbX f v = 0) : ∀ k, n ≤ k → k ≤ 4 → tbM e f k = tbM e f n := by
  intro k
  induction k with
  | zero => intro h _; rw [show n = 0 by omega]
  | succ k ih =>
    intro h h4
    by_cases e : n = k + 1
    · rw [e]
    · rw [tbM_s, h1 k (by omega) (by omega), h2 k (by omega) (by omega), if_neg (by omega), ih (by omega) (by omega)]; omega
theorem s_lcm {n o H N i j : Nat} {cd dg fd : Nat → Nat} {pm dv : Nat → Nat → Nat} (T : Tb n o H N cd dg fd pm dv) {codes : Nat → Int32} (hc : ∀ i, i < N → codes i = nI (cd i)) {a b c : Int32} (hi : i < N) (hj : j < N) {Q : Int32 → Prop} (hQ : Q (nI (tbM (cd i) (cd j) 4))) : vc_mn_degreeOfLeastCommonMultiple (nI n) a b c codes (nI i) (nI j) Q := by
  have hN := T.N126
  have hn := T.n4
  rw [tbM_n (fun v => T.xz i hi v) (fun v => T.xz j hj v) 4 hn (Nat.le_refl 4)] at hQ
  refine ⟨fun x y => ∃ k, k ≤ n ∧ x = nI (tbM (cd i) (cd j) k) ∧ y = nI k, fun _ y => 10 - y.toNatClampNeg, ⟨0, Nat.zero_le _, rfl, rfl⟩, ?_⟩
  rintro x y ⟨k, hk, rfl, rfl⟩
  refine pk_le n k (fun h => ?_) (fun h => ?_)
  · rw [show k = n by omega]; exact hQ
  · refine ⟨pk_in i 126 (by omega), ?_⟩
    rw [nI_clamp (n := i) (by omega), hc i hi]
    refine s_expoN (T.cdlt i hi) (by omega) ?_
    refine ⟨pk_in j 126 (by omega), ?_⟩
    rw [nI_clamp (n := j) (by omega), hc j hj]
    refine s_expoN (T.cdlt j hj) (by omega) ?_
    rintro x rfl
    rintro y rfl
    have hX := tbX_lt (cd i) k
    have hY := tbX_lt (cd j) k
    rw [nI_1]
    refine ⟨⟨k + 1, by omega, ?_, rfl⟩, ?_⟩
    · rw [tbM_s, ← nI_add]
      congr 1
      by_cases q : tbX (cd i) k < tbX (cd j) k
      · rw [if_pos q, if_pos (nI_lt q (by omega))]
      · rw [if_neg q, if_neg (nI_nlt (by omega) (by omega))]
    · try dsimp only
      rw [nI_clamp (n := k + 1) (by omega), nI_clamp (n := k) (by omega)]; omega
def prOK (d : Nat) (cd dg : Nat → Nat) (x y : Nat) : Prop := tbM (cd x) (cd y) 4 ≤ d ∨ tbM (cd x) (cd y) 4 = dg x + dg y
def pairsOK (d : Nat) (cd dg : Nat → Nat) (L : List Nat) : Prop := ∀ a b x y : Nat, L[a]? = some x → L[b]? = some y → b < a → prOK d cd dg x y
set_option maxHeartbeats 1000000 in
theorem s_allPairs {n o H N d : Nat} {cd dg fd : Nat → Nat} {pm dv : Nat → Nat → Nat} (T : Tb n o H N cd dg fd pm dv) {codes degs mleads : Nat → Int32} (hc : ∀ i, i < N → codes i = nI (cd i)) (hdg : ∀ i, i < N → degs i = nI (dg i)) {a b c e f g : Int32} {L : List Nat} (hL : aN mleads L) (hLN : ∀ i x : Nat, L[i]? = some x → x < N) (hl : L.length ≤ 126) (hd : d ≤ 30) {Q : Int32 → Prop} (h1 : pairsOK d cd dg L → Q 1) (h0 : ¬ pairsOK d cd dg L → Q 0) :
    vc_me_allPairsInside (nI n) a b c codes degs (nI d) e f (nI L.length) g mleads Q := by
  have hN := T.N126
  have hH := T.H30
  refine ⟨fun x => ∃ i, i ≤ L.length ∧ x = nI i ∧ ∀ a b x y : Nat, a < i → L[a]? = some x → L[b]? = some y → b < a → prOK d cd dg x y, fun x => 200 - x.toNatClampNeg, ⟨0, Nat.zero_le _, rfl, fun a b x y h => absurd h (Nat.not_lt_zero a)⟩, ?_⟩
  rintro x ⟨i, hi, rfl, hA⟩
  refine pk_le L.length i (fun h => h1 (fun a b x y ha hb hab => hA a b x y (by have := get_lt ha; omega) ha hb hab)) (fun h => ?_)
  obtain ⟨x, hx, hxa⟩ := aN_get hL h
  have hxN := hLN i x hx
  have hdx := T.dgH x hxN
  refine ⟨fun z => ∃ j, j ≤ i ∧ z = nI j ∧ ∀ b y : Nat, b < j → L[b]? = some y → prOK d cd dg x y, fun z => 200 - z.toNatClampNeg, ⟨0, Nat.zero_le _, rfl, fun b y h => absurd h (Nat.not_lt_zero b)⟩, ?_⟩
  rintro z ⟨j, hj, rfl, hB⟩
  refine pk_le i j (fun h2 => ?_) (fun h2 => ?_)
  · rintro y rfl
    rw [nI_1]
    refine ⟨⟨i + 1, by omega, rfl, fun a b u w ha hu hw hab => ?_⟩, ?_⟩
    · by_cases q : a = i
      · subst q
        rw [hx] at hu
        have : x = u := Option.some.inj hu
        subst this
        exact hB b w (by omega) hw
      · exact hA a b u w (by omega) hu hw hab
    · try dsimp only
      rw [nI_clamp (n := i + 1) (by omega), nI_clamp (n := i) (by omega)]; omega
  · obtain ⟨y, hy, hya⟩ := aN_get hL (show j < L.length by omega)
    have hyN := hLN j y hy
    have hdy := T.dgH y hyN
    have hM := tbM_le (cd x) (cd y) 4
    have step : prOK d cd dg x y → ∀ z, z = nI j + 1 → (∃ j, j ≤ i ∧ z = nI j ∧ ∀ b y : Nat, b < j → L[b]? = some y → prOK d cd dg x y) ∧ 200 - z.toNatClampNeg < 200 - (nI j).toNatClampNeg := by
      rintro h3 z rfl
      rw [nI_1, nI_clamp (n := j + 1) (by omega), nI_clamp (n := j) (by omega)]
      refine ⟨⟨j + 1, by omega, rfl, fun b w hb hw => ?_⟩, by omega⟩
      by_cases q : b = j
      · subst q
        rw [hy] at hw
        have : y = w := Option.some.inj hw
        subst this
        exact h3
      · exact hB b w (by omega) hw
    refine ⟨pk_in i 126 (by omega), pk_in j 126 (by omega), ?_⟩
    rw [nI_clamp (n := i) (by omega), nI_clamp (n := j) (by omega), hxa, hya]
    refine s_lcm T hc hxN hyN ?_
    refine ⟨pk_in i 126 (by omega), pk_in x 126 (by omega), pk_in j 126 (by omega), pk_in y 126 (by omega), ?_⟩
    rintro w rfl
    rw [nI_clamp (n := x) (by omega), nI_clamp (n := y) (by omega), hdg x hxN, hdg y hyN, nI_add]
    refine pk_le (tbM (cd x) (cd y) 4) d (fun h3 => step (Or.inl h3)) (fun h3 => ?_)
    refine pk_eq (tbM (cd x) (cd y) 4) (dg x + dg y) (fun h4 => step (Or.inr h4)) (fun h4 => h0 (fun hP => ?_))
    rcases hP i j x y hx hy h2 with q | q
    · omega
    · exact h4 q
/-- the rows of the members -/
def meOK (p : Nat) [NeZero p] (S : (Nat → Fin p) → Prop) (hs f : Nat → Bool) (k : Nat) (mcoef : Nat → Int32) : Prop := ∀ i, i < k → f i = true → ∃ w, RedRow p S hs i w ∧ ∀ q, q ≤ i → mcoef (i * (i + 1) / 2 + q) = nI (w q)
set_option maxHeartbeats 1000000 in
theorem s_find {p sz ct n o H N d : Nat} [NeZero p] {cd dg fd : Nat → Nat} {pm dv : Nat → Nat → Nat} (T : Tb n o H N cd dg fd pm dv) {codes degs first prods : Nat → Int32} (hM : mnOK n H N cd dg fd pm codes degs first prods) {coef leads rol taken mcoef mleads mwork : Nat → Int32} {R : Nat → Nat → Nat} {ld : Nat → Nat} (hp : 2 ≤ p) (hpm : p ≤ 32003) (hS : spOK p sz ct coef leads rol R ld) (hsz : sz ≤ N) (hd : d ≤ 30) {hs : Nat → Bool} (hh : ldB ct ld hs) {a b c e g x : Int32} {P : Prop} (hx : (x = 1 ∧ P) ∨ (x = 0 ∧ ¬ P))
    {Q : (Nat → Int32) → Int32 → Int32 → (Nat → Int32) → (Nat → Int32) → (Nat → Int32) → Prop} (hQ : ∀ (taken' mcoef' mleads' mwork' : Nat → Int32) (y : Int32), aN mleads' (mnF (mnB n cd dv hs) sz) → meOK p (la_in ct (rv p R)) hs (mnB n cd dv hs) sz mcoef' → ((y = 1 ∧ P ∧ pairsOK d cd dg (mnF (mnB n cd dv hs) sz)) ∨ (y = 0 ∧ ¬ (P ∧ pairsOK d cd dg (mnF (mnB n cd dv hs) sz)))) → Q taken' (nI (mnF (mnB n cd dv hs) sz).length) y mcoef' mleads' mwork') :
    vc_me_find (nI p) (nI n) a (nI H) b codes degs first (nI d) (nI sz) c coef leads rol taken e g mcoef mleads mwork x Q := by
  have hN := T.N126
  have hsz2 := hS.1
  have hct := hS.2.1
  refine ⟨fun z TK m C Le W => ∃ i, i ≤ sz ∧ z = nI i ∧ m = nI (mnF (mnB n cd dv hs) i).length ∧ aN Le (mnF (mnB n cd dv hs) i) ∧ meOK p (la_in ct (rv p R)) hs (mnB n cd dv hs) i C, fun z _ _ _ _ _ => 200 - z.toNatClampNeg, ⟨0, Nat.zero_le _, rfl, rfl, fun i c h => (by cases h), fun i hi => absurd hi (Nat.not_lt_zero i)⟩, ?_⟩
  rintro z TK m C Le W ⟨i, hi, rfl, rfl, hL, hC⟩
  refine pk_le sz i (fun h => ?_) (fun h => ?_)
  · obtain rfl : i = sz := by omega
    have hlen := mnF_len (mnB n cd dv hs) i
    rcases hx with ⟨rfl, hP⟩ | ⟨rfl, hP⟩
    · refine ⟨fun q => absurd q (by decide), fun _ => ?_⟩
      refine s_allPairs T hM.1 hM.2.1 hL (fun i x hx => by have := (mnF_mem hx).1; omega) (by omega) hd (fun hok => ?_) (fun hno => ?_)
      · exact ⟨fun q => absurd q (by decide), fun _ => hQ TK C Le W 1 hL hC (Or.inl ⟨rfl, hP, hok⟩)⟩
      · exact ⟨fun _ => hQ TK C Le W 0 hL hC (Or.inr ⟨rfl, fun q => hno q.2⟩), fun q => absurd rfl q⟩
    · exact ⟨fun _ => hQ TK C Le W 0 hL hC (Or.inr ⟨rfl, fun q => hP q.1⟩), fun q => absurd rfl q⟩
  · have keep : mnB n cd dv hs i = false → ∀ y, y = nI i + 1 → (∃ k, k ≤ sz ∧ y = nI k ∧ nI (mnF (mnB n cd dv hs) i).length = nI (mnF (mnB n cd dv hs) k).length ∧ aN Le (mnF (mnB n cd dv hs) k) ∧ meOK p (la_in ct (rv p R)) hs (mnB n cd dv hs) k C) ∧ 200 - y.toNatClampNeg < 200 - (nI i).toNatClampNeg := by
      rintro h2 y rfl
      rw [nI_1, nI_clamp (n := i + 1) (by omega), nI_clamp (n := i) (by omega)]
      have e : mnF (mnB n cd dv hs) (i + 1) = mnF (mnB n cd dv hs) i := if_neg (by rw [h2]; decide)
      refine ⟨⟨i + 1, by omega, rfl, by rw [e], by rw [e]; exact hL, fun j hj hjb => ?_⟩, by omega⟩
      by_cases q : j = i
      · rw [q, h2] at hjb; exact absurd hjb (by decide)
      · exact hC j (by omega) hjb
    have hminF : hs i = false → mnB n cd dv hs i = false := fun h2 => by
      cases h3 : mnB n cd dv hs i with
      | false => rfl
      | true => rw [(mnB_iff.mp h3).1] at h2; exact absurd h2 (by decide)
    refine s_isLeadB hS hh (by omega) (fun hb => ?_) (fun hb => ⟨fun _ => keep (hminF hb), fun q => absurd rfl q⟩)
    refine ⟨fun q => absurd q (by decide), fun _ => ?_⟩
    refine s_hasDividing T hM.1 hM.2.2.1 hS hh (by omega) (fun hdv => ?_) (fun hno => ?_)
    · refine ⟨fun _ => keep ?_, fun q => absurd q (by decide)⟩
      obtain ⟨v, hv, hx1, hx2⟩ := hdv
      cases h3 : mnB n cd dv hs i with
      | false => rfl
      | true => rw [(mnB_iff.mp h3).2 v hv hx1] at hx2; exact absurd hx2 (by decide)
    · refine ⟨fun q => absurd rfl q, fun _ => ?_⟩
      have hmin : mnB n cd dv hs i = true := mnB_iff.mpr ⟨hb, hno⟩
      have e : mnF (mnB n cd dv hs) (i + 1) = mnF (mnB n cd dv hs) i ++ [i] := if_pos hmin
      have hlen := mnF_len (mnB n cd dv hs) i
      refine s_addReduced hp hpm hS hh hb (by omega) hL (fun TK1 C1 Le1 W1 w hL1 hw hC1 hC1o => ?_)
      rintro y rfl
      rw [nI_1]
      refine ⟨⟨i + 1, by omega, rfl, by rw [e], by rw [e]; exact hL1, fun j hj hjb => ?_⟩, ?_⟩
      · by_cases q : j = i
        · subst q; exact ⟨w, hw, hC1⟩
        · obtain ⟨w2, hw2, hw3⟩ := hC j (by omega) hjb
          exact ⟨w2, hw2, fun t ht => by rw [hC1o j t q ht]; exact hw3 t ht⟩
      · try dsimp only
        rw [nI_clamp (n := i + 1) (by omega), nI_clamp (n := i) (by omega)]; omega
/-- the greatest of the tops: below a place just if all are -/
theorem s_greatestTop {p N gc sz : Nat} {G : Nat → Nat → Nat} {tg : Nat → Nat} {polys : Nat → Nat → Int32} {tops : Nat → Int32} (hG : geOK p N gc G tg polys tops) (hN : N ≤ 126) (hs : sz ≤ 126) {Q : Int32 → Prop} (hQ : ∀ x : Int32, ((¬ nI sz ≤ x) ↔ ∀ g, g < gc → tg g < sz) → Q x) : vc_ge_greatestTop (nI gc) tops Q := by
  have hgc := hG.1
  refine ⟨fun x y => ∃ k m, k ≤ gc ∧ y = nI k ∧ x = nI m - 1 ∧ m ≤ 126 ∧ ∀ s, m ≤ s ↔ ∀ g, g < k → tg g < s, fun _ y => 10 - y.toNatClampNeg, ⟨0, 0, Nat.zero_le _, rfl, rfl, by omega, fun s => ⟨fun _ g hg => absurd hg (Nat.not_lt_zero g), fun _ => Nat.zero_le s⟩⟩, ?_⟩
  rintro x y ⟨k, m, hk, rfl, rfl, hm, hiff⟩
  refine pk_le gc k (fun h => ?_) (fun h => ?_)
  · obtain rfl : k = gc := by omega
    refine hQ _ ?_
    rw [← hiff sz, Int32.le_iff_toInt_le, pn_pred (by omega), nI_toInt (by omega)]
    omega
  · obtain ⟨g1, g2, g3, g4, g5⟩ := hG.2 k h
    refine ⟨pk_in k 8 (by omega), ?_⟩
    rintro x hx
    rintro y rfl
    rw [nI_clamp (n := k) (by omega), g1] at hx
    rw [nI_1]
    refine ⟨⟨k + 1, if m < tg k + 1 then tg k + 1 else m, by omega, rfl, ?_, ?_, fun s => ?_⟩, ?_⟩
    · rw [hx]
      have e : (nI m - 1 < nI (tg k)) ↔ m < tg k + 1 := by
        rw [Int32.lt_iff_toInt_lt, pn_pred (by omega), nI_toInt (by omega)]; omega
      by_cases c : m < tg k + 1
      · rw [if_pos c, if_pos (e.mpr c), pn_pred_s]
      · rw [if_neg c, if_neg (fun q => c (e.mp q))]
    · by_cases c : m < tg k + 1
      · rw [if_pos c]; omega
      · rw [if_neg c]; exact hm
    · constructor
      · intro h1 g hg
        by_cases e : g = k
        · subst e
          by_cases c : m < tg g + 1
          · rw [if_pos c] at h1; omega
          · rw [if_neg c] at h1; omega
        · refine (hiff s).mp ?_ g (by omega)
          by_cases c : m < tg k + 1
          · rw [if_pos c] at h1; omega
          · rw [if_neg c] at h1; exact h1
      · intro h1
        have h2 := (hiff s).mpr (fun g hg => h1 g (by omega))
        have h3 := h1 k (by omega)
        by_cases c : m < tg k + 1
        · rw [if_pos c]; omega
        · rw [if_neg c]; exact h2
    · try dsimp only
      rw [nI_clamp (n := k + 1) (by omega), nI_clamp (n := k) (by omega)]; omega
