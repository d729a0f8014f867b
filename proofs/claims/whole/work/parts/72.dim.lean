/-! PURE: complete, dimension -/
set_option maxHeartbeats 1000000 in
theorem s_md_complete {p n o H N d gc : Nat} {cd dg fd : Nat → Nat} {pm dv : Nat → Nat → Nat} (T : Tb n o H N cd dg fd pm dv) {c0 c1 c3 c6 c9 : Int32} {mono dga gen basis : Nat → Int32} (hm : ∀ i, i < N → mono i = nI (cd i)) (hdg : ∀ i, i < N → dga i = nI (dg i)) {G : Nat → Nat → Nat} {tg : Nat → Nat} (hG : mgOK p N gc G tg gen) (hpm : p ≤ 32003) (hd : d ≤ H) {L : List Nat} (hL : aN basis L) (hLN : ∀ i x : Nat, L[i]? = some x → x < N) (hl : L.length ≤ 126)
    {Q : Int32 → Prop} (h1 : (∀ g, g < gc → tg g < fd (d + 1)) → pairsOK d cd dg L → Q 1) (h0 : ¬ ((∀ g, g < gc → tg g < fd (d + 1)) ∧ pairsOK d cd dg L) → Q 0) :
    vc_md_complete c0 c1 (nI n) c3 (nI N) (nI gc) c6 (nI d) (nI L.length) c9 mono dga gen basis Q := by
  have hN := T.N126
  have hH := T.H30
  have hgc := hG.1
  refine ⟨fun x => ∃ k, k ≤ gc ∧ x = nI k ∧ ∀ g, g < k → tg g < fd (d + 1), fun x => 20 - x.toNatClampNeg, ⟨0, Nat.zero_le _, rfl, fun g hg => absurd hg (Nat.not_lt_zero g)⟩, ?_⟩
  rintro x ⟨k, hk, rfl, hA⟩
  refine pk_le gc k (fun h => ?_) (fun h => ?_)
  · obtain rfl : k = gc := by omega
    refine ⟨fun x => ∃ i, i ≤ L.length ∧ x = nI i ∧ ∀ a b x y : Nat, a < i → L[a]? = some x → L[b]? = some y → b < a → prOK d cd dg x y, fun x => 200 - x.toNatClampNeg, ⟨0, Nat.zero_le _, rfl, fun a b x y h => absurd h (Nat.not_lt_zero a)⟩, ?_⟩
    rintro x ⟨i, hi, rfl, hB⟩
    refine pk_le L.length i (fun h2 => h1 hA (fun a b x y ha hb hab => hB a b x y (by have := get_lt ha; omega) ha hb hab)) (fun h2 => ?_)
    obtain ⟨x, hx, hxa⟩ := aN_get hL h2
    have hxN := hLN i x hx
    refine ⟨fun z => ∃ j, j ≤ i ∧ z = nI j ∧ ∀ b y : Nat, b < j → L[b]? = some y → prOK d cd dg x y, fun z => 200 - z.toNatClampNeg, ⟨0, Nat.zero_le _, rfl, fun b y h => absurd h (Nat.not_lt_zero b)⟩, ?_⟩
    rintro z ⟨j, hj, rfl, hD⟩
    refine pk_le i j (fun h3 => ?_) (fun h3 => ?_)
    · rintro y rfl
      rw [nI_1]
      refine ⟨⟨i + 1, by omega, rfl, fun a b u w ha hu hw hab => ?_⟩, ?_⟩
      · by_cases q : a = i
        · subst q
          rw [hx] at hu
          obtain rfl : x = u := Option.some.inj hu
          exact hD b w (by omega) hw
        · exact hB a b u w (by omega) hu hw hab
      · try dsimp only
        rw [nI_clamp (n := i + 1) (by omega), nI_clamp (n := i) (by omega)]; omega
    · obtain ⟨y, hy, hya⟩ := aN_get hL (show j < L.length by omega)
      have hyN := hLN j y hy
      refine ⟨fun u v w => ∃ k, k ≤ 4 ∧ u = nI (tbM (cd x) (cd y) k) ∧ v = nI (tbS (cd x) k + tbS (cd y) k) ∧ w = nI k, fun _ _ w => 10 - w.toNatClampNeg, ⟨0, Nat.zero_le _, rfl, rfl, rfl⟩, ?_⟩
      rintro u v w ⟨k, hk, rfl, rfl, rfl⟩
      have e1 := tbM_le (cd x) (cd y) k
      have e2 := tbS_lt (cd x) k
      have e3 := tbS_lt (cd y) k
      refine pk_le 4 k (fun h4 => ?_) (fun h4 => ?_)
      · obtain rfl : k = 4 := by omega
        have f1 := T.dgs x hxN
        have f2 := T.dgs y hyN
        rw [← tbS_4] at f1 f2
        have next : prOK d cd dg x y → ∀ x2_21 : Int32, x2_21 = nI j + 1 → (∃ j, j ≤ i ∧ x2_21 = nI j ∧ ∀ b y : Nat, b < j → L[b]? = some y → prOK d cd dg x y) ∧ 200 - x2_21.toNatClampNeg < 200 - (nI j).toNatClampNeg := by
          rintro hok z rfl
          rw [nI_1, nI_clamp (n := j + 1) (by omega), nI_clamp (n := j) (by omega)]
          refine ⟨⟨j + 1, by omega, rfl, fun b w hb hw => ?_⟩, by omega⟩
          by_cases q : b = j
          · subst q
            rw [hy] at hw
            obtain rfl : y = w := Option.some.inj hw
            exact hok
          · exact hD b w (by omega) hw
        refine pk_le (tbM (cd x) (cd y) 4) d (fun h5 => next (Or.inl h5)) (fun h5 => ?_)
        refine pk_eq (tbM (cd x) (cd y) 4) (tbS (cd x) 4 + tbS (cd y) 4) (fun h6 => next (Or.inr (by omega))) (fun h6 => h0 fun q => ?_)
        have := q.2 i j x y hx hy h3
        rcases this with q1 | q1 <;> omega
      · refine ⟨pk_in i 126 (by omega), ?_, ?_⟩
        · rw [nI_clamp (n := i) (by omega), hxa]; exact pk_in x 126 (by omega)
        rw [nI_clamp (n := i) (by omega), hxa, nI_clamp (n := x) (by omega), hm x hxN]
        refine s_md_expo (T.cdlt x hxN) (by omega) ?_
        refine ⟨pk_in j 126 (by omega), ?_, ?_⟩
        · rw [nI_clamp (n := j) (by omega), hya]; exact pk_in y 126 (by omega)
        rw [nI_clamp (n := j) (by omega), hya, nI_clamp (n := y) (by omega), hm y hyN]
        refine s_md_expo (T.cdlt y hyN) (by omega) ?_
        have f1 := tbX_lt (cd x) k
        have f2 := tbX_lt (cd y) k
        refine pk_le (tbX (cd x) k) (tbX (cd y) k) (fun h5 => ?_) (fun h5 => ?_)
        · rintro u rfl v rfl w rfl
          rw [nI_add, nI_add, nI_add, nI_1]
          refine ⟨⟨k + 1, by omega, ?_, ?_, rfl⟩, ?_⟩
          · rw [tbM_s]
            by_cases q : tbX (cd x) k < tbX (cd y) k
            · rw [if_pos q]
            · rw [if_neg q, show tbX (cd x) k = tbX (cd y) k by omega]
          · rw [tbS_s, tbS_s]; congr 1; omega
          · try dsimp only
            rw [nI_clamp (n := k + 1) (by omega), nI_clamp (n := k) (by omega)]; omega
        · rintro u rfl v rfl w rfl
          rw [nI_add, nI_add, nI_add, nI_1]
          refine ⟨⟨k + 1, by omega, ?_, ?_, rfl⟩, ?_⟩
          · rw [tbM_s, if_neg (by omega)]
          · rw [tbS_s, tbS_s]; congr 1; omega
          · try dsimp only
            rw [nI_clamp (n := k + 1) (by omega), nI_clamp (n := k) (by omega)]; omega
  · obtain ⟨g2, g3, g4, g5⟩ := hG.2 k h
    have hf := T.fdl (tg k) (d + 1) g2 (by omega)
    have hdH := T.dgH (tg k) g2
    refine s_md_degGen hN (by omega) hpm hdg g3 g2 g4 g5 ?_
    refine pk_le (dg (tg k)) d (fun h2 => ?_) (fun h2 => h0 fun q => by have := q.1 k h; omega)
    rintro y rfl
    rw [nI_1]
    refine ⟨⟨k + 1, by omega, rfl, fun g hg => ?_⟩, ?_⟩
    · by_cases q : g = k
      · rw [q]; omega
      · exact hA g (by omega)
    · try dsimp only
      rw [nI_clamp (n := k + 1) (by omega), nI_clamp (n := k) (by omega)]; omega
/-! bits of small sets -/
def bcN (s : Nat) : Nat := s % 2 + s / 2 % 2 + s / 4 % 2 + s / 8 % 2
def bitC (x : Int32) : Int32 :=
  let a := x - ((x.toUInt32 >>> ((1 : Int32).toUInt32 &&& Int32.toUInt32 31)).toInt32 &&& 1431655765)
  let b := (a &&& 858993459) + ((a.toUInt32 >>> ((2 : Int32).toUInt32 &&& Int32.toUInt32 31)).toInt32 &&& 858993459)
  let c := (b + (b.toUInt32 >>> ((4 : Int32).toUInt32 &&& Int32.toUInt32 31)).toInt32) &&& 252645135
  let d := c + (c.toUInt32 >>> ((8 : Int32).toUInt32 &&& Int32.toUInt32 31)).toInt32
  let e := d + (d.toUInt32 >>> ((16 : Int32).toUInt32 &&& Int32.toUInt32 31)).toInt32
  e &&& 63
theorem bitC_16 : ∀ s, s < 16 → bitC (nI s) = nI (bcN s) := by decide +kernel
theorem s_bitCount {s : Nat} (hs : s < 16) {Q : Int32 → Prop} (hQ : Q (nI (bcN s))) : vc_In_bitCount (nI s) Q := by
  rw [← bitC_16 s hs] at hQ
  rintro a rfl b rfl c rfl d rfl e rfl
  exact hQ
theorem bt_shl : ∀ n, n < 5 → (1 : Int32) <<< (nI n &&& 31) = nI (2 ^ n) := by decide +kernel
theorem bt_bit : ∀ s, s < 16 → ∀ v, v < 4 → (nI s >>> (nI v &&& 31)) &&& 1 = nI (s / 2 ^ v % 2) := by decide +kernel
theorem bt_or : ∀ v, v < 4 → ∀ m, m < 2 ^ v → nI m ||| (1 <<< (nI v &&& 31)) = nI (m + 2 ^ v) := by decide +kernel
theorem bt_sub : ∀ m, m < 16 → ∀ s, s < 16 → (((nI m &&& (nI s ^^^ (-1))) = 0) ↔ (∀ v, v < 4 → m / 2 ^ v % 2 = 1 → s / 2 ^ v % 2 = 1)) := by decide +kernel
def vmk (e : Nat) : Nat → Nat
  | 0 => 0
  | k + 1 => if tbX e k = 0 then vmk e k else vmk e k + 2 ^ k
theorem vmk_s (e k : Nat) : vmk e (k + 1) = if tbX e k = 0 then vmk e k else vmk e k + 2 ^ k := rfl
theorem vmk_lt (e : Nat) : ∀ k, vmk e k < 2 ^ k
  | 0 => Nat.one_pos
  | k + 1 => by
    have := vmk_lt e k
    rw [vmk_s, Nat.pow_succ]
    by_cases c : tbX e k = 0
    · rw [if_pos c]; omega
    · rw [if_neg c]; omega
theorem vmk_bit (e : Nat) : ∀ n, n ≤ 4 → ∀ v, v < 4 → (vmk e n / 2 ^ v % 2 = 1 ↔ v < n ∧ ¬ tbX e v = 0) := by
  intro n hn v hv
  have hv' : v = 0 ∨ v = 1 ∨ v = 2 ∨ v = 3 := by omega
  have hn' : n = 0 ∨ n = 1 ∨ n = 2 ∨ n = 3 ∨ n = 4 := by omega
  have h0 : vmk e 0 = 0 := rfl
  have h1 := vmk_s e 0
  have h2 := vmk_s e 1
  have h3 := vmk_s e 2
  have h4 := vmk_s e 3
  simp only [Nat.reduceAdd, Nat.reducePow] at h1 h2 h3 h4
  rcases hv' with rfl | rfl | rfl | rfl <;> rcases hn' with rfl | rfl | rfl | rfl | rfl <;> simp only [Nat.reducePow] <;> split at h1 <;> split at h2 <;> split at h3 <;> split at h4 <;> omega
/-- some lead lies wholly in the variables of the set -/
def bdB (n : Nat) (cd : Nat → Nat) (L : List Nat) (s : Nat) : Bool := L.any (fun x => !(anyB (fun v => decide (¬ tbX (cd x) v = 0) && decide (¬ s / 2 ^ v % 2 = 1)) n))
theorem bdB_iff {n : Nat} {cd : Nat → Nat} {L : List Nat} {s : Nat} : bdB n cd L s = true ↔ ∃ i x : Nat, L[i]? = some x ∧ ∀ v, v < n → ¬ tbX (cd x) v = 0 → s / 2 ^ v % 2 = 1 := by
  unfold bdB
  rw [List.any_eq_true]
  have key : ∀ x, (!(anyB (fun v => decide (¬ tbX (cd x) v = 0) && decide (¬ s / 2 ^ v % 2 = 1)) n)) = true ↔ ∀ v, v < n → ¬ tbX (cd x) v = 0 → s / 2 ^ v % 2 = 1 := by
    intro x
    rw [Bool.not_eq_true', ← Bool.not_eq_true, anyB_iff]
    constructor
    · intro h v hv hx
      refine Classical.byContradiction fun q => h ⟨v, hv, ?_⟩
      rw [Bool.and_eq_true, decide_eq_true_iff, decide_eq_true_iff]
      exact ⟨hx, q⟩
    · rintro h ⟨v, hv, hb⟩
      rw [Bool.and_eq_true, decide_eq_true_iff, decide_eq_true_iff] at hb
      exact hb.2 (h v hv hb.1)
  constructor
  · rintro ⟨x, hx, hb⟩
    obtain ⟨i, hi⟩ := List.mem_iff_getElem?.mp hx
    exact ⟨i, x, hi, (key x).mp hb⟩
  · rintro ⟨i, x, hi, hb⟩
    exact ⟨x, List.mem_iff_getElem?.mpr ⟨i, hi⟩, (key x).mpr hb⟩
def dmN (n : Nat) (cd : Nat → Nat) (L : List Nat) : Nat → Nat
  | 0 => 0
  | s + 1 => if bdB n cd L s = true then dmN n cd L s else if dmN n cd L s < bcN s + 1 then bcN s + 1 else dmN n cd L s
theorem dmN_s (n : Nat) (cd : Nat → Nat) (L : List Nat) (s : Nat) : dmN n cd L (s + 1) = if bdB n cd L s = true then dmN n cd L s else if dmN n cd L s < bcN s + 1 then bcN s + 1 else dmN n cd L s := rfl
theorem bcN_le (s : Nat) : bcN s ≤ 4 := by unfold bcN; omega
theorem dmN_le (n : Nat) (cd : Nat → Nat) (L : List Nat) : ∀ s, dmN n cd L s ≤ 5
  | 0 => Nat.zero_le _
  | s + 1 => by
    have := dmN_le n cd L s
    have := bcN_le s
    rw [dmN_s]
    by_cases c : bdB n cd L s = true
    · rw [if_pos c]; omega
    · rw [if_neg c]
      by_cases d : dmN n cd L s < bcN s + 1
      · rw [if_pos d]; omega
      · rw [if_neg d]; omega
theorem pw_16 {n : Nat} (h : n ≤ 4) : 2 ^ n ≤ 16 := by
  have : n = 0 ∨ n = 1 ∨ n = 2 ∨ n = 3 ∨ n = 4 := by omega
  rcases this with rfl | rfl | rfl | rfl | rfl <;> decide
theorem s_variablesIn {n o H N i : Nat} {cd dg fd : Nat → Nat} {pm dv : Nat → Nat → Nat} (T : Tb n o H N cd dg fd pm dv) {codes : Nat → Int32} (hc : ∀ i, i < N → codes i = nI (cd i)) {a b c : Int32} (hi : i < N) {Q : Int32 → Prop} (hQ : Q (nI (vmk (cd i) n))) : vc_mn_variablesIn (nI n) a b c codes (nI i) Q := by
  have hN := T.N126
  have hn := T.n4
  refine ⟨fun x y => ∃ k, k ≤ n ∧ x = nI (vmk (cd i) k) ∧ y = nI k, fun _ y => 10 - y.toNatClampNeg, ⟨0, Nat.zero_le _, rfl, rfl⟩, ?_⟩
  rintro x y ⟨k, hk, rfl, rfl⟩
  refine pk_le n k (fun h => ?_) (fun h => ⟨pk_in i 126 (by omega), ?_⟩)
  · rw [show k = n by omega]; exact hQ
  rw [nI_clamp (n := i) (by omega), hc i hi]
  refine s_expoN (T.cdlt i hi) (by omega) ?_
  have hX := tbX_lt (cd i) k
  refine pk_eq (tbX (cd i) k) 0 (fun h2 => ?_) (fun h2 => ?_)
  · rintro y rfl
    rw [nI_1]
    refine ⟨⟨k + 1, by omega, by rw [vmk_s, if_pos h2], rfl⟩, ?_⟩
    try dsimp only
    rw [nI_clamp (n := k + 1) (by omega), nI_clamp (n := k) (by omega)]; omega
  · rintro x rfl y rfl
    rw [nI_1]
    refine ⟨⟨k + 1, by omega, by rw [vmk_s, if_neg h2]; exact bt_or k (by omega) _ (vmk_lt _ k), rfl⟩, ?_⟩
    try dsimp only
    rw [nI_clamp (n := k + 1) (by omega), nI_clamp (n := k) (by omega)]; omega
theorem s_hasLeadOf {n o H N s : Nat} {cd dg fd : Nat → Nat} {pm dv : Nat → Nat → Nat} (T : Tb n o H N cd dg fd pm dv) {codes mleads : Nat → Int32} (hc : ∀ i, i < N → codes i = nI (cd i)) {a b c e : Int32} {L : List Nat} (hL : aN mleads L) (hLN : ∀ i x : Nat, L[i]? = some x → x < N) (hl : L.length ≤ 126) (hs : s < 16) {Q : Int32 → Prop} (h1 : bdB n cd L s = true → Q 1) (h0 : bdB n cd L s = false → Q 0) :
    vc_me_hasLeadOf (nI n) a b c codes (nI L.length) e mleads (nI s) Q := by
  have hN := T.N126
  have hn := T.n4
  refine ⟨fun x => ∃ k, k ≤ L.length ∧ x = nI k ∧ ∀ i x : Nat, i < k → L[i]? = some x → ¬ ∀ v, v < n → ¬ tbX (cd x) v = 0 → s / 2 ^ v % 2 = 1, fun y => 200 - y.toNatClampNeg, ⟨0, Nat.zero_le _, rfl, fun i x h => absurd h (Nat.not_lt_zero i)⟩, ?_⟩
  rintro x ⟨k, hk, rfl, hA⟩
  refine pk_le L.length k (fun h => h0 ?_) (fun h => ⟨pk_in k 126 (by omega), ?_⟩)
  · cases hb : bdB n cd L s with
    | false => rfl
    | true =>
      obtain ⟨i, x, hi, hx⟩ := bdB_iff.mp hb
      exact absurd hx (hA i x (by have := get_lt hi; omega) hi)
  obtain ⟨x, hx, hxa⟩ := aN_get hL h
  have hxN := hLN k x hx
  rw [nI_clamp (n := k) (by omega), hxa]
  refine s_variablesIn T hc hxN ?_
  have hlt : vmk (cd x) n < 16 := Nat.lt_of_lt_of_le (vmk_lt (cd x) n) (pw_16 hn)
  have hiff := bt_sub (vmk (cd x) n) hlt s hs
  have hif2 : (∀ v, v < 4 → vmk (cd x) n / 2 ^ v % 2 = 1 → s / 2 ^ v % 2 = 1) ↔ ∀ v, v < n → ¬ tbX (cd x) v = 0 → s / 2 ^ v % 2 = 1 :=
    ⟨fun q v hv hx => q v (by omega) ((vmk_bit (cd x) n hn v (by omega)).mpr ⟨hv, hx⟩), fun q v hv hx => by have := (vmk_bit (cd x) n hn v hv).mp hx; exact q v this.1 this.2⟩
  refine ⟨fun h2 => ?_, fun h2 => h1 (bdB_iff.mpr ⟨k, x, hx, hif2.mp (hiff.mp h2)⟩)⟩
  rintro y rfl
  rw [nI_1]
  refine ⟨⟨k + 1, by omega, rfl, fun i u hi hu => ?_⟩, ?_⟩
  · by_cases q : i = k
    · subst q
      rw [hx] at hu
      obtain rfl : x = u := Option.some.inj hu
      exact fun q => h2 (hiff.mpr (hif2.mpr q))
    · exact hA i u (by omega) hu
  · try dsimp only
    rw [nI_clamp (n := k + 1) (by omega), nI_clamp (n := k) (by omega)]; omega
theorem dm_lt {m b : Nat} (hm : m ≤ 5) (hb : b ≤ 4) : (nI m - 1 < nI b) ↔ m < b + 1 := by
  rw [Int32.lt_iff_toInt_lt, pn_pred (by omega), nI_toInt (by omega)]; omega
theorem dm_le {m b : Nat} (hm : m ≤ 5) (hb : b ≤ 4) : (nI b ≤ nI m - 1) ↔ b + 1 ≤ m := by
  rw [Int32.le_iff_toInt_le, pn_pred (by omega), nI_toInt (by omega)]; omega
theorem s_dimension {n o H N : Nat} {cd dg fd : Nat → Nat} {pm dv : Nat → Nat → Nat} (T : Tb n o H N cd dg fd pm dv) {codes mleads : Nat → Int32} (hc : ∀ i, i < N → codes i = nI (cd i)) {a b c e : Int32} {L : List Nat} (hL : aN mleads L) (hLN : ∀ i x : Nat, L[i]? = some x → x < N) (hl : L.length ≤ 126) {Q : Int32 → Prop} (hQ : Q (nI (dmN n cd L (2 ^ n)) - 1)) :
    vc_me_dimension (nI n) a b c codes (nI L.length) e mleads Q := by
  have hN := T.N126
  have hn := T.n4
  have hp := pw_16 hn
  refine ⟨fun x y => ∃ s, s ≤ 2 ^ n ∧ x = nI (dmN n cd L s) - 1 ∧ y = nI s, fun _ y => 20 - y.toNatClampNeg, ⟨0, Nat.zero_le _, rfl, rfl⟩, ?_⟩
  rintro x y ⟨s, hs, rfl, rfl⟩
  rw [bt_shl n (by omega)]
  refine pk_le (2 ^ n) s (fun h => ?_) (fun h => ?_)
  · rw [show s = 2 ^ n by omega]; exact hQ
  · refine s_hasLeadOf T hc hL hLN hl (by omega) (fun hb => ⟨fun _ => ?_, fun q => absurd q (by decide)⟩) (fun hb => ⟨fun q => absurd rfl q, fun _ => ?_⟩)
    · rintro y rfl
      rw [nI_1]
      refine ⟨⟨s + 1, by omega, by rw [dmN_s, if_pos hb], rfl⟩, ?_⟩
      try dsimp only
      rw [nI_clamp (n := s + 1) (by omega), nI_clamp (n := s) (by omega)]; omega
    · refine s_bitCount (by omega) ?_
      rintro x rfl y rfl
      rw [nI_1]
      have h1 := dmN_le n cd L s
      have h2 := bcN_le s
      refine ⟨⟨s + 1, by omega, ?_, rfl⟩, ?_⟩
      · rw [dmN_s, if_neg (c := bdB n cd L s = true) (by rw [hb]; decide)]
        by_cases c : dmN n cd L s < bcN s + 1
        · rw [if_pos c, if_pos ((dm_lt h1 h2).mpr c), pn_pred_s]
        · rw [if_neg c, if_neg (fun q => c ((dm_lt h1 h2).mp q))]
      · try dsimp only
        rw [nI_clamp (n := s + 1) (by omega), nI_clamp (n := s) (by omega)]; omega
def bsN (s : Nat) : Nat → Nat
  | 0 => 0
  | k + 1 => bsN s k + s / 2 ^ k % 2
theorem bsN_s (s k : Nat) : bsN s (k + 1) = bsN s k + s / 2 ^ k % 2 := rfl
theorem bsN_le (s : Nat) : ∀ k, bsN s k ≤ k
  | 0 => Nat.le_refl 0
  | k + 1 => by have := bsN_le s k; rw [bsN_s]; omega
theorem bsN_n {n s : Nat} (h1 : 1 ≤ n) (h : n ≤ 4) (hs : s < 2 ^ n) : bsN s n = bcN s := by
  have : n = 1 ∨ n = 2 ∨ n = 3 ∨ n = 4 := by omega
  rcases this with rfl | rfl | rfl | rfl <;> simp only [bsN, bcN, Nat.reducePow] at hs ⊢ <;> omega
set_option maxHeartbeats 1000000 in
theorem s_md_dimension {n o H N : Nat} {cd dg fd : Nat → Nat} {pm dv : Nat → Nat → Nat} (T : Tb n o H N cd dg fd pm dv) {c0 c1 c3 c4 c5 c6 c7 c9 : Int32} {mono basis : Nat → Int32} (hm : ∀ i, i < N → mono i = nI (cd i)) {L : List Nat} (hL : aN basis L) (hLN : ∀ i x : Nat, L[i]? = some x → x < N) (hl : L.length ≤ 126) {Q : Int32 → Prop} (hQ : Q (nI (dmN n cd L (2 ^ n)) - 1)) :
    vc_md_dimension c0 c1 (nI n) c3 c4 c5 c6 c7 (nI L.length) c9 mono basis Q := by
  have hN := T.N126
  have hn := T.n4
  have hn1 := T.n1
  have hp := pw_16 hn
  refine ⟨fun x y => ∃ s, s ≤ 2 ^ n ∧ x = nI (dmN n cd L s) - 1 ∧ y = nI s, fun _ y => 20 - y.toNatClampNeg, ⟨0, Nat.zero_le _, rfl, rfl⟩, ?_⟩
  rintro x y ⟨s, hs, rfl, rfl⟩
  rw [bt_shl n (by omega)]
  refine pk_le (2 ^ n) s (fun h => ?_) (fun h => ?_)
  · rw [show s = 2 ^ n by omega]; exact hQ
  have h1 := dmN_le n cd L s
  have h2 := bcN_le s
  refine ⟨fun u w => ∃ k, k ≤ n ∧ u = nI (bsN s k) ∧ w = nI k, fun _ w => 10 - w.toNatClampNeg, ⟨0, Nat.zero_le _, rfl, rfl⟩, ?_⟩
  rintro u w ⟨k, hk, rfl, rfl⟩
  refine pk_le n k (fun hkn => ?_) (fun hkn => ?_)
  · obtain rfl : k = n := by omega
    rw [bsN_n hn1 hn h]
    refine ⟨fun u w => ∃ j, j ≤ L.length ∧ w = nI j ∧ ((u = 1 ∧ ∀ i x : Nat, i < j → L[i]? = some x → ¬ ∀ v, v < k → ¬ tbX (cd x) v = 0 → s / 2 ^ v % 2 = 1) ∨ (u = 0 ∧ bdB k cd L s = true)), fun _ w => 200 - w.toNatClampNeg, ⟨0, Nat.zero_le _, rfl, Or.inl ⟨rfl, fun i x h => absurd h (Nat.not_lt_zero i)⟩⟩, ?_⟩
    rintro u w ⟨j, hj, rfl, hu⟩
    refine pk_le L.length j (fun h3 => ?_) (fun h3 => ?_)
    · have hu2 : (u = 1 ∧ bdB k cd L s = false) ∨ (u = 0 ∧ bdB k cd L s = true) := by
        rcases hu with ⟨q, hA⟩ | q
        · refine Or.inl ⟨q, ?_⟩
          cases hb : bdB k cd L s with
          | false => rfl
          | true =>
            obtain ⟨i, x, hi, hx⟩ := bdB_iff.mp hb
            exact absurd hx (hA i x (by have := get_lt hi; omega) hi)
        · exact Or.inr q
      rcases hu2 with ⟨rfl, hb⟩ | ⟨rfl, hb⟩
      · refine ⟨fun q => absurd q (by decide), fun _ => ?_⟩
        refine ⟨fun q => ?_, fun q => ?_⟩
        · rintro y rfl
          rw [nI_1]
          have q2 := (dm_le h1 h2).mp q
          refine ⟨⟨s + 1, by omega, by rw [dmN_s, if_neg (by rw [hb]; decide), if_neg (by omega)], rfl⟩, ?_⟩
          try dsimp only
          rw [nI_clamp (n := s + 1) (by omega), nI_clamp (n := s) (by omega)]; omega
        · rintro y rfl
          rw [nI_1]
          have q2 : ¬ bcN s + 1 ≤ dmN k cd L s := fun q3 => q ((dm_le h1 h2).mpr q3)
          refine ⟨⟨s + 1, by omega, by rw [dmN_s, if_neg (by rw [hb]; decide), if_pos (by omega), pn_pred_s], rfl⟩, ?_⟩
          try dsimp only
          rw [nI_clamp (n := s + 1) (by omega), nI_clamp (n := s) (by omega)]; omega
      · refine ⟨fun _ => ?_, fun q => absurd rfl q⟩
        rintro y rfl
        rw [nI_1]
        refine ⟨⟨s + 1, by omega, by rw [dmN_s, if_pos hb], rfl⟩, ?_⟩
        try dsimp only
        rw [nI_clamp (n := s + 1) (by omega), nI_clamp (n := s) (by omega)]; omega
    · obtain ⟨x, hx, hxa⟩ := aN_get hL h3
      have hxN := hLN j x hx
      refine ⟨fun y w => ∃ i, i ≤ k ∧ w = nI i ∧ ((y = 1 ∧ ∀ v, v < i → ¬ tbX (cd x) v = 0 → s / 2 ^ v % 2 = 1) ∨ (y = 0 ∧ ¬ ∀ v, v < k → ¬ tbX (cd x) v = 0 → s / 2 ^ v % 2 = 1)), fun _ w => 10 - w.toNatClampNeg, ⟨0, Nat.zero_le _, rfl, Or.inl ⟨rfl, fun v hv => absurd hv (Nat.not_lt_zero v)⟩⟩, ?_⟩
      rintro y w ⟨i, hi, rfl, hy⟩
      refine pk_le k i (fun h4 => ?_) (fun h4 => ?_)
      · obtain rfl : i = k := by omega
        rcases hy with ⟨rfl, hA⟩ | ⟨rfl, hA⟩
        · refine ⟨fun q => absurd q (by decide), fun _ => ?_⟩
          rintro w rfl
          rw [nI_1]
          refine ⟨⟨j + 1, by omega, rfl, Or.inr ⟨rfl, bdB_iff.mpr ⟨j, x, hx, hA⟩⟩⟩, ?_⟩
          try dsimp only
          rw [nI_clamp (n := j + 1) (by omega), nI_clamp (n := j) (by omega)]; omega
        · refine ⟨fun _ => ?_, fun q => absurd rfl q⟩
          rintro w rfl
          rw [nI_1]
          refine ⟨⟨j + 1, by omega, rfl, ?_⟩, ?_⟩
          · rcases hu with ⟨q1, q2⟩ | q
            · refine Or.inl ⟨q1, fun t z ht hz => ?_⟩
              by_cases e : t = j
              · subst e
                rw [hx] at hz
                obtain rfl : x = z := Option.some.inj hz
                exact hA
              · exact q2 t z (by omega) hz
            · exact Or.inr q
          · try dsimp only
            rw [nI_clamp (n := j + 1) (by omega), nI_clamp (n := j) (by omega)]; omega
      · refine ⟨pk_in j 126 (by omega), ?_, ?_⟩
        · rw [nI_clamp (n := j) (by omega), hxa]; exact pk_in x 126 (by omega)
        rw [nI_clamp (n := j) (by omega), hxa, nI_clamp (n := x) (by omega), hm x hxN]
        refine s_md_expo (T.cdlt x hxN) (by omega) ?_
        have hX := tbX_lt (cd x) i
        rw [bt_bit s (by omega) i (by omega)]
        have next : ((y = 1 ∧ ∀ v, v < i → ¬ tbX (cd x) v = 0 → s / 2 ^ v % 2 = 1) ∨ (y = 0 ∧ ¬ ∀ v, v < k → ¬ tbX (cd x) v = 0 → s / 2 ^ v % 2 = 1)) → (¬ tbX (cd x) i = 0 → s / 2 ^ i % 2 = 1) → ((y = 1 ∧ ∀ v, v < i + 1 → ¬ tbX (cd x) v = 0 → s / 2 ^ v % 2 = 1) ∨ (y = 0 ∧ ¬ ∀ v, v < k → ¬ tbX (cd x) v = 0 → s / 2 ^ v % 2 = 1)) := by
          rintro (⟨q1, q2⟩ | q) h5
          · refine Or.inl ⟨q1, fun v hv hx => ?_⟩
            by_cases e : v = i
            · rw [e] at hx ⊢; exact h5 hx
            · exact q2 v (by omega) hx
          · exact Or.inr q
        refine pk_le (tbX (cd x) i) 0 (fun h5 => ?_) (fun h5 => ?_)
        · rintro w rfl
          rw [nI_1]
          refine ⟨⟨i + 1, by omega, rfl, next hy (fun q => absurd (by omega) q)⟩, ?_⟩
          try dsimp only
          rw [nI_clamp (n := i + 1) (by omega), nI_clamp (n := i) (by omega)]; omega
        · have hb2 : s / 2 ^ i % 2 < 2 := Nat.mod_lt _ (by decide)
          refine ⟨fun h6 => ?_, fun h6 => ?_⟩
          · rintro w rfl
            rw [nI_1]
            have h7 : ¬ s / 2 ^ i % 2 = 0 := fun q => h6 (by rw [q]; rfl)
            refine ⟨⟨i + 1, by omega, rfl, next hy (fun _ => by omega)⟩, ?_⟩
            try dsimp only
            rw [nI_clamp (n := i + 1) (by omega), nI_clamp (n := i) (by omega)]; omega
          · rintro w rfl
            rw [nI_1]
            have h7 : s / 2 ^ i % 2 = 0 := (nI_eq (b := 0) (by omega) (by omega)).mp h6
            refine ⟨⟨i + 1, by omega, rfl, Or.inr ⟨rfl, fun q => ?_⟩⟩, ?_⟩
            · have := q i h4 (by omega); omega
            · try dsimp only
              rw [nI_clamp (n := i + 1) (by omega), nI_clamp (n := i) (by omega)]; omega
  · rintro u rfl w rfl
    rw [bt_bit s (by omega) k (by omega), nI_add, nI_1]
    refine ⟨⟨k + 1, by omega, by rw [bsN_s], rfl⟩, ?_⟩
    try dsimp only
    rw [nI_clamp (n := k + 1) (by omega), nI_clamp (n := k) (by omega)]; omega
