/-! PURE: the reference: greater, put, fresh -/
theorem nI_or {a b : Nat} (ha : a < 2 ^ 32) (hb : b < 2 ^ 32) : nI a ||| nI b = nI (a ||| b) := by
  apply Int32.toBitVec_inj.mp
  apply BitVec.eq_of_toNat_eq
  rw [Int32.toBitVec_or, BitVec.toNat_or, pk_tn ha, pk_tn hb, pk_tn (Nat.or_lt_two_pow ha hb)]
theorem fr_code {a b c d : Nat} (ha : a < 128) (hb : b < 256) (hc : c < 256) (hd : d < 256) : (((nI a <<< ((24 : Int32) &&& 31)) ||| (nI b <<< ((16 : Int32) &&& 31))) ||| (nI c <<< ((8 : Int32) &&& 31))) ||| nI d = nI (a * 16777216 + b * 65536 + c * 256 + d) := by
  rw [pk_shlN _ 24 (by decide) (by omega), pk_shlN _ 16 (by decide) (by omega), pk_shlN _ 8 (by decide) (by omega)]
  have h1 : a * 2 ^ 24 ||| b * 2 ^ 16 = a * 16777216 + b * 65536 := by
    rw [Nat.mul_comm a, ← Nat.two_pow_add_eq_or_of_lt (by omega)]
    try omega
  have h2 : (a * 16777216 + b * 65536) ||| c * 2 ^ 8 = a * 16777216 + b * 65536 + c * 256 := by
    rw [show a * 16777216 + b * 65536 = 2 ^ 16 * (a * 256 + b) by omega, ← Nat.two_pow_add_eq_or_of_lt (by omega)]
  have h3 : (a * 16777216 + b * 65536 + c * 256) ||| d = a * 16777216 + b * 65536 + c * 256 + d := by
    rw [show a * 16777216 + b * 65536 + c * 256 = 2 ^ 8 * (a * 65536 + b * 256 + c) by omega, ← Nat.two_pow_add_eq_or_of_lt (by omega)]
  rw [nI_or (by omega) (by omega), h1, nI_or (by omega) (by omega), h2, nI_or (by omega) (by omega), h3]
theorem s_md_degreeOf {a : Nat} (ha : a < 2 ^ 31) {Q : Int32 → Prop} (hQ : Q (nI (tbS a 4))) : vc_md_degreeOf (nI a) Q := by
  refine s_md_expo (v := 0) ha (by decide) ?_
  refine s_md_expo (v := 1) ha (by decide) ?_
  refine s_md_expo (v := 2) ha (by decide) ?_
  refine s_md_expo (v := 3) ha (by decide) ?_
  rw [nI_add, nI_add, nI_add, ← tbS_4]; exact hQ
def gtl (o a b : Nat) : Nat → Bool
  | 0 => false
  | m + 1 => if tbX a (if o = 0 then m else 3 - m) = tbX b (if o = 0 then m else 3 - m) then gtl o a b m else if o = 0 then decide (tbX a m < tbX b m) else decide (tbX b (3 - m) < tbX a (3 - m))
def gtb (o a b : Nat) : Bool := if tbS a 4 = tbS b 4 then gtl o a b 4 else decide (tbS b 4 < tbS a 4)
theorem s_md_greater {o a b : Nat} {c0 c1 c2 c4 c5 c6 c7 c8 c9 : Int32} (ho : o ≤ 1) (ha : a < 2 ^ 31) (hb : b < 2 ^ 31) {Q : Int32 → Prop} (h1 : gtb o a b = true → Q 1) (h0 : gtb o a b = false → Q 0) : vc_md_greater c0 c1 c2 (nI o) c4 c5 c6 c7 c8 c9 (nI a) (nI b) Q := by
  have hSa := tbS_lt a 4
  have hSb := tbS_lt b 4
  refine s_md_degreeOf ha (s_md_degreeOf hb ?_)
  refine pk_eq (tbS a 4) (tbS b 4) (fun h => ?_) (fun h => ?_)
  · have e : gtb o a b = gtl o a b 4 := if_pos h
    rw [e] at h1 h0
    refine ⟨fun x => ∃ k, k ≤ 4 ∧ x = nI k ∧ gtl o a b 4 = gtl o a b (4 - k), fun x => 10 - x.toNatClampNeg, ⟨0, by omega, rfl, rfl⟩, ?_⟩
    rintro x ⟨k, hk, rfl, hg⟩
    refine pk_le 4 k (fun h2 => ?_) (fun h2 => ?_)
    · obtain rfl : k = 4 := by omega
      exact h0 hg
    · obtain ⟨m, hm⟩ : ∃ m, m = 3 - k := ⟨_, rfl⟩
      have hk4 : 4 - k = m + 1 := by omega
      have hn4 : 4 - (k + 1) = m := by omega
      rw [hk4] at hg
      have step : gtl o a b (m + 1) = gtl o a b m → ∀ y, y = nI k + 1 → (∃ k, k ≤ 4 ∧ y = nI k ∧ gtl o a b 4 = gtl o a b (4 - k)) ∧ 10 - y.toNatClampNeg < 10 - (nI k).toNatClampNeg := by
        rintro h3 y rfl
        rw [nI_1, nI_clamp (n := k + 1) (by omega), nI_clamp (n := k) (by omega)]
        exact ⟨⟨k + 1, by omega, rfl, by rw [hn4, hg, h3]⟩, by omega⟩
      have ho2 : o = 0 ∨ o = 1 := by omega
      rcases ho2 with rfl | rfl
      · refine ⟨fun q => absurd rfl q, fun _ => ?_⟩
        rintro z hz
        rw [show (3 : Int32) = nI 3 from rfl, pk_sub (by omega), ← hm] at hz
        subst hz
        have hXa := tbX_lt a m
        have hXb := tbX_lt b m
        refine s_md_expo ha (by omega) (s_md_expo hb (by omega) ?_)
        refine pk_eq (tbX a m) (tbX b m) (fun h3 => step (if_pos h3)) (fun h3 => ?_)
        refine ⟨fun q => absurd rfl q, fun _ => ?_⟩
        refine s_md_expo ha (by omega) (s_md_expo hb (by omega) ?_)
        have e2 : gtl 0 a b (m + 1) = decide (tbX a m < tbX b m) := (if_neg h3).trans (if_pos rfl)
        rw [e2] at hg
        refine pk_le (tbX b m) (tbX a m) (fun h4 => h0 ?_) (fun h4 => h1 ?_)
        · rw [hg]; exact decide_eq_false (by omega)
        · rw [hg]; exact decide_eq_true (by omega)
      · refine ⟨fun _ => ?_, fun q => absurd q (by decide)⟩
        have hm3 : 3 - m = k := by omega
        have hXa := tbX_lt a k
        have hXb := tbX_lt b k
        refine s_md_expo ha (by omega) (s_md_expo hb (by omega) ?_)
        have ez : (if (1 : Nat) = 0 then m else 3 - m) = k := by rw [if_neg (by decide), hm3]
        refine pk_eq (tbX a k) (tbX b k) (fun h3 => step (if_pos (by rw [ez]; exact h3))) (fun h3 => ?_)
        refine ⟨fun _ => ?_, fun q => absurd q (by decide)⟩
        refine s_md_expo ha (by omega) (s_md_expo hb (by omega) ?_)
        have e2 : gtl 1 a b (m + 1) = decide (tbX b (3 - m) < tbX a (3 - m)) := (if_neg (by rw [ez]; exact h3)).trans (if_neg (by decide))
        rw [e2, hm3] at hg
        refine pk_le (tbX a k) (tbX b k) (fun h4 => h0 ?_) (fun h4 => h1 ?_)
        · rw [hg]; exact decide_eq_false (by omega)
        · rw [hg]; exact decide_eq_true (by omega)
  · have e : gtb o a b = decide (tbS b 4 < tbS a 4) := if_neg h
    rw [e] at h1 h0
    refine s_md_degreeOf ha (s_md_degreeOf hb ?_)
    refine pk_le (tbS a 4) (tbS b 4) (fun h4 => h0 ?_) (fun h4 => h1 ?_)
    · exact decide_eq_false (by omega)
    · exact decide_eq_true (by omega)
/-- where a code comes in; the greatest stands first -/
def insr (o e : Nat) : List Nat → List Nat
  | [] => [e]
  | x :: xs => if gtb o x e = true then x :: insr o e xs else e :: x :: xs
theorem insr_len (o e : Nat) : ∀ R : List Nat, (insr o e R).length = R.length + 1
  | [] => rfl
  | x :: xs => by
    unfold insr
    by_cases c : gtb o x e = true
    · rw [if_pos c]; show (insr o e xs).length + 1 = _; rw [insr_len o e xs]; rfl
    · rw [if_neg c]; rfl
def rA (A : Nat → Int32) (R : List Nat) : Prop := ∀ i c, R[i]? = some c → A (R.length - 1 - i) = nI c ∧ c < 2147483648
theorem get_lt {α : Type} {L : List α} {i : Nat} {c : α} (h : L[i]? = some c) : i < L.length := by
  rcases Nat.lt_or_ge i L.length with q | q
  · exact q
  · rw [List.getElem?_eq_none q] at h; cases h
set_option maxHeartbeats 1000000 in
theorem s_md_put {o e : Nat} {c0 c1 c2 c5 c6 c7 c8 c9 : Int32} {A : Nat → Int32} {R : List Nat} (ho : o ≤ 1) (he : e < 2147483648) (hA : rA A R) (hl : R.length < 126) {Q : Int32 → (Nat → Int32) → Prop} (hQ : ∀ B, rA B (insr o e R) → Q (nI (insr o e R).length) B) : vc_md_put c0 c1 c2 (nI o) (nI R.length) c5 c6 c7 c8 c9 A (nI e) Q := by
  rw [insr_len] at hQ
  refine ⟨fun x B => ∃ F xs, R = F ++ xs ∧ x = nI xs.length ∧ insr o e R = F ++ insr o e xs ∧ (∀ i c, xs[i]? = some c → B (xs.length - 1 - i) = nI c ∧ c < 2147483648) ∧ (∀ i c, F[i]? = some c → B (R.length - i) = nI c ∧ c < 2147483648), fun x _ => x.toNatClampNeg, ⟨[], R, rfl, rfl, rfl, hA, fun i c h => by cases h⟩, ?_⟩
  rintro x B ⟨F, xs, hR, rfl, hins, hxs, hF⟩
  have hlen : R.length = F.length + xs.length := by rw [hR, List.length_append]
  have fin : insr o e xs = e :: xs → vp_in (nI xs.length) 126 ∧ ∀ B1, B1 = upd B (nI xs.length).toNatClampNeg (nI e) → ∀ y, y = nI R.length + 1 → Q y B1 := by
    intro hi
    refine ⟨pk_in xs.length 126 (by omega), ?_⟩
    rintro B1 rfl y rfl
    rw [nI_clamp (by omega), nI_1]
    refine hQ _ ?_
    rw [hins, hi]
    intro i c hc
    have hll : (F ++ e :: xs).length = R.length + 1 := by rw [List.length_append]; show _ + (xs.length + 1) = _; omega
    rw [hll]
    rcases Nat.lt_trichotomy i F.length with q | q | q
    · rw [List.getElem?_append_left q] at hc
      rw [show R.length + 1 - 1 - i = R.length - i by omega, pk_un (by omega)]
      exact hF i c hc
    · subst q
      rw [List.getElem?_append_right (Nat.le_refl _), Nat.sub_self] at hc
      have : e = c := Option.some.inj hc
      subst this
      rw [show R.length + 1 - 1 - F.length = xs.length by omega]
      exact ⟨pk_us, he⟩
    · rw [List.getElem?_append_right (by omega)] at hc
      obtain ⟨j, hj⟩ : ∃ j, i - F.length = j + 1 := ⟨i - F.length - 1, by omega⟩
      rw [hj] at hc
      have hc2 : xs[j]? = some c := hc
      have hjl := get_lt hc2
      rw [show R.length + 1 - 1 - i = xs.length - 1 - j by omega, pk_un (by omega)]
      exact hxs j c hc2
  cases xs with
  | nil =>
    refine ⟨fun _ => fin rfl, fun q => absurd (by decide) q⟩
  | cons x xs =>
    have hk : (x :: xs).length = xs.length + 1 := rfl
    rw [hk] at hlen fin ⊢
    refine ⟨fun q => absurd q (nI_nle (by omega) (by omega)), fun _ => ?_⟩
    rw [show nI (xs.length + 1) - 1 = nI xs.length from pn_pred_s _]
    refine ⟨pk_in xs.length 126 (by omega), ?_⟩
    have h0 := hxs 0 x rfl
    rw [hk, show xs.length + 1 - 1 - 0 = xs.length by omega] at h0
    rw [nI_clamp (n := xs.length) (by omega), h0.1]
    refine s_md_greater ho (by omega) (by omega) (fun hg => ?_) (fun hg => ?_)
    · refine ⟨fun q => absurd q (by decide), fun _ => ⟨pk_in xs.length 126 (by omega), pk_in (xs.length + 1) 126 (by omega), ?_⟩⟩
      rintro B1 rfl
      rintro y rfl
      rw [pk_m1, nI_clamp (n := xs.length + 1) (by omega)]
      refine ⟨⟨F ++ [x], xs, ?_, rfl, ?_, fun i c hc => ?_, fun i c hc => ?_⟩, by try dsimp only; rw [nI_clamp (n := xs.length) (by omega), nI_clamp (n := xs.length + 1) (by omega)]; omega⟩
      · rw [hR, List.append_assoc]; rfl
      · have e2 : insr o e (x :: xs) = x :: insr o e xs := if_pos hg
        rw [hins, e2, List.append_assoc]; rfl
      · have hil := get_lt hc
        rw [pk_un (by omega)]
        have := hxs (i + 1) c hc
        rw [hk, show xs.length + 1 - 1 - (i + 1) = xs.length - 1 - i by omega] at this
        exact this
      · rcases Nat.lt_trichotomy i F.length with q | q | q
        · rw [List.getElem?_append_left q] at hc
          rw [pk_un (by omega)]
          exact hF i c hc
        · subst q
          rw [List.getElem?_append_right (Nat.le_refl _), Nat.sub_self] at hc
          have : x = c := Option.some.inj hc
          subst this
          rw [show R.length - F.length = xs.length + 1 by omega]
          exact ⟨pk_us, h0.2⟩
        · rw [List.getElem?_eq_none (by rw [List.length_append]; show F.length + 1 ≤ i; omega)] at hc
          cases hc
    · have e2 : insr o e (x :: xs) = e :: x :: xs := if_neg (by rw [hg]; decide)
      exact ⟨fun _ => fin e2, fun q => absurd rfl q⟩
def lpF (f : Nat → List Nat → List Nat) : Nat → List Nat → List Nat
  | 0, s => s
  | k + 1, s => f k (lpF f k s)
theorem lpF_s (f : Nat → List Nat → List Nat) (k : Nat) (s : List Nat) : lpF f (k + 1) s = f k (lpF f k s) := rfl
theorem lpF_le {f : Nat → List Nat → List Nat} (hf : ∀ k s, s.length ≤ (f k s).length) {s : List Nat} {j : Nat} : ∀ k, j ≤ k → (lpF f j s).length ≤ (lpF f k s).length := by
  intro k h
  induction k with
  | zero =>
    obtain rfl : j = 0 := by omega
    exact Nat.le_refl _
  | succ k ih =>
    by_cases e : j = k + 1
    · subst e; exact Nat.le_refl _
    · have := ih (by omega)
      have := hf k (lpF f k s)
      show _ ≤ (f k (lpF f k s)).length
      omega
theorem lpF_ge {f : Nat → List Nat → List Nat} (hf : ∀ k s, s.length ≤ (f k s).length) (k : Nat) (s : List Nat) : s.length ≤ (lpF f k s).length := lpF_le (f := f) hf (j := 0) k (Nat.zero_le k)
def frD (o h a b c d : Nat) (s : List Nat) : List Nat := if a + b + c + d ≤ h then insr o (a * 16777216 + b * 65536 + c * 256 + d) s else s
def frC (o h k3 a b c : Nat) (s : List Nat) : List Nat := lpF (frD o h a b c) (k3 + 1) s
def frB (o h k2 k3 a b : Nat) (s : List Nat) : List Nat := lpF (frC o h k3 a b) (k2 + 1) s
def frA (o h k1 k2 k3 a : Nat) (s : List Nat) : List Nat := lpF (frB o h k2 k3 a) (k1 + 1) s
def frL (o h k1 k2 k3 : Nat) : List Nat := lpF (frA o h k1 k2 k3) (h + 1) []
theorem frD_le (o h a b c k : Nat) (s : List Nat) : s.length ≤ (frD o h a b c k s).length := by
  unfold frD
  by_cases q : a + b + c + k ≤ h
  · rw [if_pos q, insr_len]; omega
  · rw [if_neg q]; exact Nat.le_refl _
theorem frC_le (o h k3 a b k : Nat) (s : List Nat) : s.length ≤ (frC o h k3 a b k s).length := lpF_ge (frD_le o h a b k) _ _
theorem frB_le (o h k2 k3 a k : Nat) (s : List Nat) : s.length ≤ (frB o h k2 k3 a k s).length := lpF_ge (frC_le o h k3 a k) _ _
theorem frA_le (o h k1 k2 k3 k : Nat) (s : List Nat) : s.length ≤ (frA o h k1 k2 k3 k s).length := lpF_ge (frB_le o h k2 k3 k) _ _
set_option maxHeartbeats 2000000 in
theorem s_md_fresh1 {o : Nat} {c0 c1 c2 c3 c4 c5 c6 c7 c8 c9 np : Int32} {mono dga hand : Nat → Int32} (ho : o ≤ 1) (hl : (frL o 30 0 0 0).length ≤ 126)
    {Q : Int32 → Int32 → Int32 → Int32 → Int32 → Int32 → (Nat → Int32) → (Nat → Int32) → (Nat → Int32) → Prop} (hQ : ∀ mono' dga' hand' : Nat → Int32, rA mono' (frL o 30 0 0 0) → (∀ i c, i < (frL o 30 0 0 0).length → mono' i = nI c → c < 2147483648 → dga' i = nI (tbS c 4)) → (∀ i, i < (frL o 30 0 0 0).length → hand' i = 0) → Q np (nI 1) (nI o) (nI (frL o 30 0 0 0).length) 0 0 mono' dga' hand') :
    vc_md_fresh c0 c1 c2 c3 c4 c5 c6 c7 c8 c9 mono dga hand np (nI 1) (nI o) Q := by
  refine ⟨fun q => absurd rfl q, fun _ => ?_⟩
  refine ⟨fun x m A => ∃ a, a ≤ 31 ∧ x = nI a ∧ m = nI (lpF (frA o 30 0 0 0) a []).length ∧ rA A (lpF (frA o 30 0 0 0) a []), fun x _ _ => 200 - x.toNatClampNeg, ⟨0, by omega, rfl, rfl, fun i c h => by cases h⟩, ?_⟩
  rintro x m A ⟨a, ha, rfl, rfl, hA⟩
  refine pk_lt 30 a (fun h2 => ?_) (fun h2 => ?_)
  · obtain rfl : a = 30 + 1 := by omega
    have hA : rA A (frL o 30 0 0 0) := by rw [frL]; exact hA
    show ∃ (I : Int32 → (Nat → Int32) → (Nat → Int32) → Prop) (mu : Int32 → (Nat → Int32) → (Nat → Int32) → Nat), _
    have hle : (lpF (frA o 30 0 0 0) (30 + 1) []).length = (frL o 30 0 0 0).length := by rw [frL]
    rw [hle]
    generalize frL o 30 0 0 0 = L at hl hQ hA hle
    clear hle
    refine ⟨fun x D Hd => ∃ i, i ≤ L.length ∧ x = nI i ∧ (∀ j c, j < i → A j = nI c → c < 2147483648 → D j = nI (tbS c 4)) ∧ ∀ j, j < i → Hd j = 0, fun x _ _ => 200 - x.toNatClampNeg, ⟨0, by omega, rfl, fun j c h => absurd h (Nat.not_lt_zero j), fun j h => absurd h (Nat.not_lt_zero j)⟩, ?_⟩
    rintro x D Hd ⟨i, hi, rfl, hD, hH⟩
    refine pk_le L.length i (fun h3 => ?_) (fun h3 => ?_)
    · obtain rfl : i = L.length := by omega
      exact hQ A D Hd hA hD hH
    · refine ⟨pk_in i 126 (by omega), ?_⟩
      have hg : L[L.length - 1 - i]? = some L[L.length - 1 - i] := List.getElem?_eq_getElem (by omega)
      have hc := hA _ _ hg
      rw [show L.length - 1 - (L.length - 1 - i) = i by omega] at hc
      rw [nI_clamp (n := i) (by omega), hc.1]
      refine s_md_degreeOf (by omega) ?_
      refine ⟨pk_in i 126 (by omega), ?_⟩
      rintro D1 rfl
      refine ⟨pk_in i 126 (by omega), ?_⟩
      rintro H1 rfl
      rintro y rfl
      rw [nI_1]
      refine ⟨⟨i + 1, by omega, rfl, fun j c hj hjc hc2 => ?_, fun j hj => ?_⟩, ?_⟩
      · by_cases e : j = i
        · subst e
          rw [hc.1] at hjc
          have e2 := (nI_eq (by omega) (by omega)).mp hjc
          rw [pk_us, e2]
        · rw [pk_un e]; exact hD j c (by omega) hjc hc2
      · by_cases e : j = i
        · subst e; exact pk_us
        · rw [pk_un e]; exact hH j (by omega)
      · try dsimp only
        rw [nI_clamp (n := i + 1) (by omega), nI_clamp (n := i) (by omega)]; omega
  · have hlA : (lpF (frA o 30 0 0 0) (a + 1) []).length ≤ 126 := Nat.le_trans (lpF_le (frA_le o 30 0 0 0) (30 + 1) (by omega)) hl
    have eA : lpF (frA o 30 0 0 0) (a + 1) [] = frA o 30 0 0 0 a (lpF (frA o 30 0 0 0) a []) := lpF_s _ _ _
    generalize lpF (frA o 30 0 0 0) a [] = SA at hA eA
    rw [eA] at hlA
    refine ⟨fun x m A => ∃ b, b ≤ 1 ∧ x = nI b ∧ m = nI (lpF (frB o 30 0 0 a) b SA).length ∧ rA A (lpF (frB o 30 0 0 a) b SA), fun x _ _ => 200 - x.toNatClampNeg, ⟨0, by omega, rfl, rfl, hA⟩, ?_⟩
    clear hA
    rintro x m A ⟨b, hb, rfl, rfl, hA⟩
    refine ⟨fun _ => ?_, fun q => absurd q (by decide)⟩
    refine pk_lt 0 b (fun h3 => ?_) (fun h3 => ?_)
    · obtain rfl : b = 0 + 1 := by omega
      rintro y rfl
      rw [nI_1]
      refine ⟨⟨a + 1, by omega, rfl, by rw [eA]; rfl, by rw [eA]; exact hA⟩, ?_⟩
      try dsimp only
      rw [nI_clamp (n := a + 1) (by omega), nI_clamp (n := a) (by omega)]; omega
    · have hlB : (lpF (frB o 30 0 0 a) (b + 1) SA).length ≤ 126 := Nat.le_trans (lpF_le (frB_le o 30 0 0 a) (0 + 1) (by omega)) hlA
      have eB : lpF (frB o 30 0 0 a) (b + 1) SA = frB o 30 0 0 a b (lpF (frB o 30 0 0 a) b SA) := lpF_s _ _ _
      generalize lpF (frB o 30 0 0 a) b SA = SB at hA eB
      rw [eB] at hlB
      refine ⟨fun x m A => ∃ c, c ≤ 1 ∧ x = nI c ∧ m = nI (lpF (frC o 30 0 a b) c SB).length ∧ rA A (lpF (frC o 30 0 a b) c SB), fun x _ _ => 200 - x.toNatClampNeg, ⟨0, by omega, rfl, rfl, hA⟩, ?_⟩
      clear hA
      rintro x m A ⟨c, hc, rfl, rfl, hA⟩
      refine ⟨fun _ => ?_, fun q => absurd q (by decide)⟩
      refine pk_lt 0 c (fun h4 => ?_) (fun h4 => ?_)
      · obtain rfl : c = 0 + 1 := by omega
        rintro y rfl
        rw [nI_1]
        refine ⟨⟨b + 1, by omega, rfl, by rw [eB]; rfl, by rw [eB]; exact hA⟩, ?_⟩
        try dsimp only
        rw [nI_clamp (n := b + 1) (by omega), nI_clamp (n := b) (by omega)]; omega
      · have hlC : (lpF (frC o 30 0 a b) (c + 1) SB).length ≤ 126 := Nat.le_trans (lpF_le (frC_le o 30 0 a b) (0 + 1) (by omega)) hlB
        have eC : lpF (frC o 30 0 a b) (c + 1) SB = frC o 30 0 a b c (lpF (frC o 30 0 a b) c SB) := lpF_s _ _ _
        generalize lpF (frC o 30 0 a b) c SB = SC at hA eC
        rw [eC] at hlC
        refine ⟨fun x m A => ∃ d, d ≤ 1 ∧ x = nI d ∧ m = nI (lpF (frD o 30 a b c) d SC).length ∧ rA A (lpF (frD o 30 a b c) d SC), fun x _ _ => 200 - x.toNatClampNeg, ⟨0, by omega, rfl, rfl, hA⟩, ?_⟩
        clear hA
        rintro x m A ⟨d, hd, rfl, rfl, hA⟩
        refine ⟨fun _ => ?_, fun q => absurd q (by decide)⟩
        refine pk_lt 0 d (fun h5 => ?_) (fun h5 => ?_)
        · obtain rfl : d = 0 + 1 := by omega
          rintro y rfl
          rw [nI_1]
          refine ⟨⟨c + 1, by omega, rfl, by rw [eC]; rfl, by rw [eC]; exact hA⟩, ?_⟩
          try dsimp only
          rw [nI_clamp (n := c + 1) (by omega), nI_clamp (n := c) (by omega)]; omega
        · have hlD : (lpF (frD o 30 a b c) (d + 1) SC).length ≤ 126 := Nat.le_trans (lpF_le (frD_le o 30 a b c) (0 + 1) (by omega)) hlC
          have eD : lpF (frD o 30 a b c) (d + 1) SC = frD o 30 a b c d (lpF (frD o 30 a b c) d SC) := lpF_s _ _ _
          generalize lpF (frD o 30 a b c) d SC = SD at hA eD
          rw [eD] at hlD
          rw [nI_add, nI_add, nI_add]
          refine pk_lt 30 (a + b + c + d) (fun h6 => ?_) (fun h6 => ?_)
          · have e : frD o 30 a b c d SD = SD := if_neg (by omega)
            rintro y rfl
            rw [nI_1]
            refine ⟨⟨d + 1, by omega, rfl, by rw [eD, e], by rw [eD, e]; exact hA⟩, ?_⟩
            try dsimp only
            rw [nI_clamp (n := d + 1) (by omega), nI_clamp (n := d) (by omega)]; omega
          · have e : frD o 30 a b c d SD = insr o (a * 16777216 + b * 65536 + c * 256 + d) SD := if_pos h6
            rw [fr_code (by omega) (by omega) (by omega) (by omega)]
            rw [e, insr_len] at hlD
            refine s_md_put ho (by omega) hA (by omega) (fun A1 hA1 => ?_)
            rintro y rfl
            rw [nI_1]
            refine ⟨⟨d + 1, by omega, rfl, by rw [eD, e], by rw [eD, e]; exact hA1⟩, ?_⟩
            try dsimp only
            rw [nI_clamp (n := d + 1) (by omega), nI_clamp (n := d) (by omega)]; omega
set_option maxHeartbeats 2000000 in
theorem s_md_fresh2 {o : Nat} {c0 c1 c2 c3 c4 c5 c6 c7 c8 c9 np : Int32} {mono dga hand : Nat → Int32} (ho : o ≤ 1) (hl : (frL o 12 12 0 0).length ≤ 126)
    {Q : Int32 → Int32 → Int32 → Int32 → Int32 → Int32 → (Nat → Int32) → (Nat → Int32) → (Nat → Int32) → Prop} (hQ : ∀ mono' dga' hand' : Nat → Int32, rA mono' (frL o 12 12 0 0) → (∀ i c, i < (frL o 12 12 0 0).length → mono' i = nI c → c < 2147483648 → dga' i = nI (tbS c 4)) → (∀ i, i < (frL o 12 12 0 0).length → hand' i = 0) → Q np (nI 2) (nI o) (nI (frL o 12 12 0 0).length) 0 0 mono' dga' hand') :
    vc_md_fresh c0 c1 c2 c3 c4 c5 c6 c7 c8 c9 mono dga hand np (nI 2) (nI o) Q := by
  refine ⟨fun _ => ?_, fun q => absurd q (by decide)⟩
  refine ⟨fun q => absurd rfl q, fun _ => ?_⟩
  refine ⟨fun x m A => ∃ a, a ≤ 13 ∧ x = nI a ∧ m = nI (lpF (frA o 12 12 0 0) a []).length ∧ rA A (lpF (frA o 12 12 0 0) a []), fun x _ _ => 200 - x.toNatClampNeg, ⟨0, by omega, rfl, rfl, fun i c h => by cases h⟩, ?_⟩
  rintro x m A ⟨a, ha, rfl, rfl, hA⟩
  refine pk_lt 12 a (fun h2 => ?_) (fun h2 => ?_)
  · obtain rfl : a = 12 + 1 := by omega
    have hA : rA A (frL o 12 12 0 0) := by rw [frL]; exact hA
    show ∃ (I : Int32 → (Nat → Int32) → (Nat → Int32) → Prop) (mu : Int32 → (Nat → Int32) → (Nat → Int32) → Nat), _
    have hle : (lpF (frA o 12 12 0 0) (12 + 1) []).length = (frL o 12 12 0 0).length := by rw [frL]
    rw [hle]
    generalize frL o 12 12 0 0 = L at hl hQ hA hle
    clear hle
    refine ⟨fun x D Hd => ∃ i, i ≤ L.length ∧ x = nI i ∧ (∀ j c, j < i → A j = nI c → c < 2147483648 → D j = nI (tbS c 4)) ∧ ∀ j, j < i → Hd j = 0, fun x _ _ => 200 - x.toNatClampNeg, ⟨0, by omega, rfl, fun j c h => absurd h (Nat.not_lt_zero j), fun j h => absurd h (Nat.not_lt_zero j)⟩, ?_⟩
    rintro x D Hd ⟨i, hi, rfl, hD, hH⟩
    refine pk_le L.length i (fun h3 => ?_) (fun h3 => ?_)
    · obtain rfl : i = L.length := by omega
      exact hQ A D Hd hA hD hH
    · refine ⟨pk_in i 126 (by omega), ?_⟩
      have hg : L[L.length - 1 - i]? = some L[L.length - 1 - i] := List.getElem?_eq_getElem (by omega)
      have hc := hA _ _ hg
      rw [show L.length - 1 - (L.length - 1 - i) = i by omega] at hc
      rw [nI_clamp (n := i) (by omega), hc.1]
      refine s_md_degreeOf (by omega) ?_
      refine ⟨pk_in i 126 (by omega), ?_⟩
      rintro D1 rfl
      refine ⟨pk_in i 126 (by omega), ?_⟩
      rintro H1 rfl
      rintro y rfl
      rw [nI_1]
      refine ⟨⟨i + 1, by omega, rfl, fun j c hj hjc hc2 => ?_, fun j hj => ?_⟩, ?_⟩
      · by_cases e : j = i
        · subst e
          rw [hc.1] at hjc
          have e2 := (nI_eq (by omega) (by omega)).mp hjc
          rw [pk_us, e2]
        · rw [pk_un e]; exact hD j c (by omega) hjc hc2
      · by_cases e : j = i
        · subst e; exact pk_us
        · rw [pk_un e]; exact hH j (by omega)
      · try dsimp only
        rw [nI_clamp (n := i + 1) (by omega), nI_clamp (n := i) (by omega)]; omega
  · have hlA : (lpF (frA o 12 12 0 0) (a + 1) []).length ≤ 126 := Nat.le_trans (lpF_le (frA_le o 12 12 0 0) (12 + 1) (by omega)) hl
    have eA : lpF (frA o 12 12 0 0) (a + 1) [] = frA o 12 12 0 0 a (lpF (frA o 12 12 0 0) a []) := lpF_s _ _ _
    generalize lpF (frA o 12 12 0 0) a [] = SA at hA eA
    rw [eA] at hlA
    refine ⟨fun x m A => ∃ b, b ≤ 13 ∧ x = nI b ∧ m = nI (lpF (frB o 12 0 0 a) b SA).length ∧ rA A (lpF (frB o 12 0 0 a) b SA), fun x _ _ => 200 - x.toNatClampNeg, ⟨0, by omega, rfl, rfl, hA⟩, ?_⟩
    clear hA
    rintro x m A ⟨b, hb, rfl, rfl, hA⟩
    refine ⟨fun q => absurd q (by decide), fun _ => ?_⟩
    refine pk_lt 12 b (fun h3 => ?_) (fun h3 => ?_)
    · obtain rfl : b = 12 + 1 := by omega
      rintro y rfl
      rw [nI_1]
      refine ⟨⟨a + 1, by omega, rfl, by rw [eA]; rfl, by rw [eA]; exact hA⟩, ?_⟩
      try dsimp only
      rw [nI_clamp (n := a + 1) (by omega), nI_clamp (n := a) (by omega)]; omega
    · have hlB : (lpF (frB o 12 0 0 a) (b + 1) SA).length ≤ 126 := Nat.le_trans (lpF_le (frB_le o 12 0 0 a) (12 + 1) (by omega)) hlA
      have eB : lpF (frB o 12 0 0 a) (b + 1) SA = frB o 12 0 0 a b (lpF (frB o 12 0 0 a) b SA) := lpF_s _ _ _
      generalize lpF (frB o 12 0 0 a) b SA = SB at hA eB
      rw [eB] at hlB
      refine ⟨fun x m A => ∃ c, c ≤ 1 ∧ x = nI c ∧ m = nI (lpF (frC o 12 0 a b) c SB).length ∧ rA A (lpF (frC o 12 0 a b) c SB), fun x _ _ => 200 - x.toNatClampNeg, ⟨0, by omega, rfl, rfl, hA⟩, ?_⟩
      clear hA
      rintro x m A ⟨c, hc, rfl, rfl, hA⟩
      refine ⟨fun _ => ?_, fun q => absurd q (by decide)⟩
      refine pk_lt 0 c (fun h4 => ?_) (fun h4 => ?_)
      · obtain rfl : c = 0 + 1 := by omega
        rintro y rfl
        rw [nI_1]
        refine ⟨⟨b + 1, by omega, rfl, by rw [eB]; rfl, by rw [eB]; exact hA⟩, ?_⟩
        try dsimp only
        rw [nI_clamp (n := b + 1) (by omega), nI_clamp (n := b) (by omega)]; omega
      · have hlC : (lpF (frC o 12 0 a b) (c + 1) SB).length ≤ 126 := Nat.le_trans (lpF_le (frC_le o 12 0 a b) (0 + 1) (by omega)) hlB
        have eC : lpF (frC o 12 0 a b) (c + 1) SB = frC o 12 0 a b c (lpF (frC o 12 0 a b) c SB) := lpF_s _ _ _
        generalize lpF (frC o 12 0 a b) c SB = SC at hA eC
        rw [eC] at hlC
        refine ⟨fun x m A => ∃ d, d ≤ 1 ∧ x = nI d ∧ m = nI (lpF (frD o 12 a b c) d SC).length ∧ rA A (lpF (frD o 12 a b c) d SC), fun x _ _ => 200 - x.toNatClampNeg, ⟨0, by omega, rfl, rfl, hA⟩, ?_⟩
        clear hA
        rintro x m A ⟨d, hd, rfl, rfl, hA⟩
        refine ⟨fun _ => ?_, fun q => absurd q (by decide)⟩
        refine pk_lt 0 d (fun h5 => ?_) (fun h5 => ?_)
        · obtain rfl : d = 0 + 1 := by omega
          rintro y rfl
          rw [nI_1]
          refine ⟨⟨c + 1, by omega, rfl, by rw [eC]; rfl, by rw [eC]; exact hA⟩, ?_⟩
          try dsimp only
          rw [nI_clamp (n := c + 1) (by omega), nI_clamp (n := c) (by omega)]; omega
        · have hlD : (lpF (frD o 12 a b c) (d + 1) SC).length ≤ 126 := Nat.le_trans (lpF_le (frD_le o 12 a b c) (0 + 1) (by omega)) hlC
          have eD : lpF (frD o 12 a b c) (d + 1) SC = frD o 12 a b c d (lpF (frD o 12 a b c) d SC) := lpF_s _ _ _
          generalize lpF (frD o 12 a b c) d SC = SD at hA eD
          rw [eD] at hlD
          rw [nI_add, nI_add, nI_add]
          refine pk_lt 12 (a + b + c + d) (fun h6 => ?_) (fun h6 => ?_)
          · have e : frD o 12 a b c d SD = SD := if_neg (by omega)
            rintro y rfl
            rw [nI_1]
            refine ⟨⟨d + 1, by omega, rfl, by rw [eD, e], by rw [eD, e]; exact hA⟩, ?_⟩
            try dsimp only
            rw [nI_clamp (n := d + 1) (by omega), nI_clamp (n := d) (by omega)]; omega
          · have e : frD o 12 a b c d SD = insr o (a * 16777216 + b * 65536 + c * 256 + d) SD := if_pos h6
            rw [fr_code (by omega) (by omega) (by omega) (by omega)]
            rw [e, insr_len] at hlD
            refine s_md_put ho (by omega) hA (by omega) (fun A1 hA1 => ?_)
            rintro y rfl
            rw [nI_1]
            refine ⟨⟨d + 1, by omega, rfl, by rw [eD, e], by rw [eD, e]; exact hA1⟩, ?_⟩
            try dsimp only
            rw [nI_clamp (n := d + 1) (by omega), nI_clamp (n := d) (by omega)]; omega
set_option maxHeartbeats 2000000 in
theorem s_md_fresh3 {o : Nat} {c0 c1 c2 c3 c4 c5 c6 c7 c8 c9 np : Int32} {mono dga hand : Nat → Int32} (ho : o ≤ 1) (hl : (frL o 7 7 7 0).length ≤ 126)
    {Q : Int32 → Int32 → Int32 → Int32 → Int32 → Int32 → (Nat → Int32) → (Nat → Int32) → (Nat → Int32) → Prop} (hQ : ∀ mono' dga' hand' : Nat → Int32, rA mono' (frL o 7 7 7 0) → (∀ i c, i < (frL o 7 7 7 0).length → mono' i = nI c → c < 2147483648 → dga' i = nI (tbS c 4)) → (∀ i, i < (frL o 7 7 7 0).length → hand' i = 0) → Q np (nI 3) (nI o) (nI (frL o 7 7 7 0).length) 0 0 mono' dga' hand') :
    vc_md_fresh c0 c1 c2 c3 c4 c5 c6 c7 c8 c9 mono dga hand np (nI 3) (nI o) Q := by
  refine ⟨fun _ => ?_, fun q => absurd q (by decide)⟩
  refine ⟨fun _ => ?_, fun q => absurd q (by decide)⟩
  refine ⟨fun q => absurd rfl q, fun _ => ?_⟩
  refine ⟨fun x m A => ∃ a, a ≤ 8 ∧ x = nI a ∧ m = nI (lpF (frA o 7 7 7 0) a []).length ∧ rA A (lpF (frA o 7 7 7 0) a []), fun x _ _ => 200 - x.toNatClampNeg, ⟨0, by omega, rfl, rfl, fun i c h => by cases h⟩, ?_⟩
  rintro x m A ⟨a, ha, rfl, rfl, hA⟩
  refine pk_lt 7 a (fun h2 => ?_) (fun h2 => ?_)
  · obtain rfl : a = 7 + 1 := by omega
    have hA : rA A (frL o 7 7 7 0) := by rw [frL]; exact hA
    show ∃ (I : Int32 → (Nat → Int32) → (Nat → Int32) → Prop) (mu : Int32 → (Nat → Int32) → (Nat → Int32) → Nat), _
    have hle : (lpF (frA o 7 7 7 0) (7 + 1) []).length = (frL o 7 7 7 0).length := by rw [frL]
    rw [hle]
    generalize frL o 7 7 7 0 = L at hl hQ hA hle
    clear hle
    refine ⟨fun x D Hd => ∃ i, i ≤ L.length ∧ x = nI i ∧ (∀ j c, j < i → A j = nI c → c < 2147483648 → D j = nI (tbS c 4)) ∧ ∀ j, j < i → Hd j = 0, fun x _ _ => 200 - x.toNatClampNeg, ⟨0, by omega, rfl, fun j c h => absurd h (Nat.not_lt_zero j), fun j h => absurd h (Nat.not_lt_zero j)⟩, ?_⟩
    rintro x D Hd ⟨i, hi, rfl, hD, hH⟩
    refine pk_le L.length i (fun h3 => ?_) (fun h3 => ?_)
    · obtain rfl : i = L.length := by omega
      exact hQ A D Hd hA hD hH
    · refine ⟨pk_in i 126 (by omega), ?_⟩
      have hg : L[L.length - 1 - i]? = some L[L.length - 1 - i] := List.getElem?_eq_getElem (by omega)
      have hc := hA _ _ hg
      rw [show L.length - 1 - (L.length - 1 - i) = i by omega] at hc
      rw [nI_clamp (n := i) (by omega), hc.1]
      refine s_md_degreeOf (by omega) ?_
      refine ⟨pk_in i 126 (by omega), ?_⟩
      rintro D1 rfl
      refine ⟨pk_in i 126 (by omega), ?_⟩
      rintro H1 rfl
      rintro y rfl
      rw [nI_1]
      refine ⟨⟨i + 1, by omega, rfl, fun j c hj hjc hc2 => ?_, fun j hj => ?_⟩, ?_⟩
      · by_cases e : j = i
        · subst e
          rw [hc.1] at hjc
          have e2 := (nI_eq (by omega) (by omega)).mp hjc
          rw [pk_us, e2]
        · rw [pk_un e]; exact hD j c (by omega) hjc hc2
      · by_cases e : j = i
        · subst e; exact pk_us
        · rw [pk_un e]; exact hH j (by omega)
      · try dsimp only
        rw [nI_clamp (n := i + 1) (by omega), nI_clamp (n := i) (by omega)]; omega
  · have hlA : (lpF (frA o 7 7 7 0) (a + 1) []).length ≤ 126 := Nat.le_trans (lpF_le (frA_le o 7 7 7 0) (7 + 1) (by omega)) hl
    have eA : lpF (frA o 7 7 7 0) (a + 1) [] = frA o 7 7 7 0 a (lpF (frA o 7 7 7 0) a []) := lpF_s _ _ _
    generalize lpF (frA o 7 7 7 0) a [] = SA at hA eA
    rw [eA] at hlA
    refine ⟨fun x m A => ∃ b, b ≤ 8 ∧ x = nI b ∧ m = nI (lpF (frB o 7 7 0 a) b SA).length ∧ rA A (lpF (frB o 7 7 0 a) b SA), fun x _ _ => 200 - x.toNatClampNeg, ⟨0, by omega, rfl, rfl, hA⟩, ?_⟩
    clear hA
    rintro x m A ⟨b, hb, rfl, rfl, hA⟩
    refine ⟨fun q => absurd q (by decide), fun _ => ?_⟩
    refine pk_lt 7 b (fun h3 => ?_) (fun h3 => ?_)
    · obtain rfl : b = 7 + 1 := by omega
      rintro y rfl
      rw [nI_1]
      refine ⟨⟨a + 1, by omega, rfl, by rw [eA]; rfl, by rw [eA]; exact hA⟩, ?_⟩
      try dsimp only
      rw [nI_clamp (n := a + 1) (by omega), nI_clamp (n := a) (by omega)]; omega
    · have hlB : (lpF (frB o 7 7 0 a) (b + 1) SA).length ≤ 126 := Nat.le_trans (lpF_le (frB_le o 7 7 0 a) (7 + 1) (by omega)) hlA
      have eB : lpF (frB o 7 7 0 a) (b + 1) SA = frB o 7 7 0 a b (lpF (frB o 7 7 0 a) b SA) := lpF_s _ _ _
      generalize lpF (frB o 7 7 0 a) b SA = SB at hA eB
      rw [eB] at hlB
      refine ⟨fun x m A => ∃ c, c ≤ 8 ∧ x = nI c ∧ m = nI (lpF (frC o 7 0 a b) c SB).length ∧ rA A (lpF (frC o 7 0 a b) c SB), fun x _ _ => 200 - x.toNatClampNeg, ⟨0, by omega, rfl, rfl, hA⟩, ?_⟩
      clear hA
      rintro x m A ⟨c, hc, rfl, rfl, hA⟩
      refine ⟨fun q => absurd q (by decide), fun _ => ?_⟩
      refine pk_lt 7 c (fun h4 => ?_) (fun h4 => ?_)
      · obtain rfl : c = 7 + 1 := by omega
        rintro y rfl
        rw [nI_1]
        refine ⟨⟨b + 1, by omega, rfl, by rw [eB]; rfl, by rw [eB]; exact hA⟩, ?_⟩
        try dsimp only
        rw [nI_clamp (n := b + 1) (by omega), nI_clamp (n := b) (by omega)]; omega
      · have hlC : (lpF (frC o 7 0 a b) (c + 1) SB).length ≤ 126 := Nat.le_trans (lpF_le (frC_le o 7 0 a b) (7 + 1) (by omega)) hlB
        have eC : lpF (frC o 7 0 a b) (c + 1) SB = frC o 7 0 a b c (lpF (frC o 7 0 a b) c SB) := lpF_s _ _ _
        generalize lpF (frC o 7 0 a b) c SB = SC at hA eC
        rw [eC] at hlC
        refine ⟨fun x m A => ∃ d, d ≤ 1 ∧ x = nI d ∧ m = nI (lpF (frD o 7 a b c) d SC).length ∧ rA A (lpF (frD o 7 a b c) d SC), fun x _ _ => 200 - x.toNatClampNeg, ⟨0, by omega, rfl, rfl, hA⟩, ?_⟩
        clear hA
        rintro x m A ⟨d, hd, rfl, rfl, hA⟩
        refine ⟨fun _ => ?_, fun q => absurd q (by decide)⟩
        refine pk_lt 0 d (fun h5 => ?_) (fun h5 => ?_)
        · obtain rfl : d = 0 + 1 := by omega
          rintro y rfl
          rw [nI_1]
          refine ⟨⟨c + 1, by omega, rfl, by rw [eC]; rfl, by rw [eC]; exact hA⟩, ?_⟩
          try dsimp only
          rw [nI_clamp (n := c + 1) (by omega), nI_clamp (n := c) (by omega)]; omega
        · have hlD : (lpF (frD o 7 a b c) (d + 1) SC).length ≤ 126 := Nat.le_trans (lpF_le (frD_le o 7 a b c) (0 + 1) (by omega)) hlC
          have eD : lpF (frD o 7 a b c) (d + 1) SC = frD o 7 a b c d (lpF (frD o 7 a b c) d SC) := lpF_s _ _ _
          generalize lpF (frD o 7 a b c) d SC = SD at hA eD
          rw [eD] at hlD
          rw [nI_add, nI_add, nI_add]
          refine pk_lt 7 (a + b + c + d) (fun h6 => ?_) (fun h6 => ?_)
          · have e : frD o 7 a b c d SD = SD := if_neg (by omega)
            rintro y rfl
            rw [nI_1]
            refine ⟨⟨d + 1, by omega, rfl, by rw [eD, e], by rw [eD, e]; exact hA⟩, ?_⟩
            try dsimp only
            rw [nI_clamp (n := d + 1) (by omega), nI_clamp (n := d) (by omega)]; omega
          · have e : frD o 7 a b c d SD = insr o (a * 16777216 + b * 65536 + c * 256 + d) SD := if_pos h6
            rw [fr_code (by omega) (by omega) (by omega) (by omega)]
            rw [e, insr_len] at hlD
            refine s_md_put ho (by omega) hA (by omega) (fun A1 hA1 => ?_)
            rintro y rfl
            rw [nI_1]
            refine ⟨⟨d + 1, by omega, rfl, by rw [eD, e], by rw [eD, e]; exact hA1⟩, ?_⟩
            try dsimp only
            rw [nI_clamp (n := d + 1) (by omega), nI_clamp (n := d) (by omega)]; omega
set_option maxHeartbeats 2000000 in
theorem s_md_fresh4 {o : Nat} {c0 c1 c2 c3 c4 c5 c6 c7 c8 c9 np : Int32} {mono dga hand : Nat → Int32} (ho : o ≤ 1) (hl : (frL o 5 5 5 5).length ≤ 126)
    {Q : Int32 → Int32 → Int32 → Int32 → Int32 → Int32 → (Nat → Int32) → (Nat → Int32) → (Nat → Int32) → Prop} (hQ : ∀ mono' dga' hand' : Nat → Int32, rA mono' (frL o 5 5 5 5) → (∀ i c, i < (frL o 5 5 5 5).length → mono' i = nI c → c < 2147483648 → dga' i = nI (tbS c 4)) → (∀ i, i < (frL o 5 5 5 5).length → hand' i = 0) → Q np (nI 4) (nI o) (nI (frL o 5 5 5 5).length) 0 0 mono' dga' hand') :
    vc_md_fresh c0 c1 c2 c3 c4 c5 c6 c7 c8 c9 mono dga hand np (nI 4) (nI o) Q := by
  refine ⟨fun _ => ?_, fun q => absurd q (by decide)⟩
  refine ⟨fun _ => ?_, fun q => absurd q (by decide)⟩
  refine ⟨fun _ => ?_, fun q => absurd q (by decide)⟩
  refine ⟨fun x m A => ∃ a, a ≤ 6 ∧ x = nI a ∧ m = nI (lpF (frA o 5 5 5 5) a []).length ∧ rA A (lpF (frA o 5 5 5 5) a []), fun x _ _ => 200 - x.toNatClampNeg, ⟨0, by omega, rfl, rfl, fun i c h => by cases h⟩, ?_⟩
  rintro x m A ⟨a, ha, rfl, rfl, hA⟩
  refine pk_lt 5 a (fun h2 => ?_) (fun h2 => ?_)
  · obtain rfl : a = 5 + 1 := by omega
    have hA : rA A (frL o 5 5 5 5) := by rw [frL]; exact hA
    show ∃ (I : Int32 → (Nat → Int32) → (Nat → Int32) → Prop) (mu : Int32 → (Nat → Int32) → (Nat → Int32) → Nat), _
    have hle : (lpF (frA o 5 5 5 5) (5 + 1) []).length = (frL o 5 5 5 5).length := by rw [frL]
    rw [hle]
    generalize frL o 5 5 5 5 = L at hl hQ hA hle
    clear hle
    refine ⟨fun x D Hd => ∃ i, i ≤ L.length ∧ x = nI i ∧ (∀ j c, j < i → A j = nI c → c < 2147483648 → D j = nI (tbS c 4)) ∧ ∀ j, j < i → Hd j = 0, fun x _ _ => 200 - x.toNatClampNeg, ⟨0, by omega, rfl, fun j c h => absurd h (Nat.not_lt_zero j), fun j h => absurd h (Nat.not_lt_zero j)⟩, ?_⟩
    rintro x D Hd ⟨i, hi, rfl, hD, hH⟩
    refine pk_le L.length i (fun h3 => ?_) (fun h3 => ?_)
    · obtain rfl : i = L.length := by omega
      exact hQ A D Hd hA hD hH
    · refine ⟨pk_in i 126 (by omega), ?_⟩
      have hg : L[L.length - 1 - i]? = some L[L.length - 1 - i] := List.getElem?_eq_getElem (by omega)
      have hc := hA _ _ hg
      rw [show L.length - 1 - (L.length - 1 - i) = i by omega] at hc
      rw [nI_clamp (n := i) (by omega), hc.1]
      refine s_md_degreeOf (by omega) ?_
      refine ⟨pk_in i 126 (by omega), ?_⟩
      rintro D1 rfl
      refine ⟨pk_in i 126 (by omega), ?_⟩
      rintro H1 rfl
      rintro y rfl
      rw [nI_1]
      refine ⟨⟨i + 1, by omega, rfl, fun j c hj hjc hc2 => ?_, fun j hj => ?_⟩, ?_⟩
      · by_cases e : j = i
        · subst e
          rw [hc.1] at hjc
          have e2 := (nI_eq (by omega) (by omega)).mp hjc
          rw [pk_us, e2]
        · rw [pk_un e]; exact hD j c (by omega) hjc hc2
      · by_cases e : j = i
        · subst e; exact pk_us
        · rw [pk_un e]; exact hH j (by omega)
      · try dsimp only
        rw [nI_clamp (n := i + 1) (by omega), nI_clamp (n := i) (by omega)]; omega
  · have hlA : (lpF (frA o 5 5 5 5) (a + 1) []).length ≤ 126 := Nat.le_trans (lpF_le (frA_le o 5 5 5 5) (5 + 1) (by omega)) hl
    have eA : lpF (frA o 5 5 5 5) (a + 1) [] = frA o 5 5 5 5 a (lpF (frA o 5 5 5 5) a []) := lpF_s _ _ _
    generalize lpF (frA o 5 5 5 5) a [] = SA at hA eA
    rw [eA] at hlA
    refine ⟨fun x m A => ∃ b, b ≤ 6 ∧ x = nI b ∧ m = nI (lpF (frB o 5 5 5 a) b SA).length ∧ rA A (lpF (frB o 5 5 5 a) b SA), fun x _ _ => 200 - x.toNatClampNeg, ⟨0, by omega, rfl, rfl, hA⟩, ?_⟩
    clear hA
    rintro x m A ⟨b, hb, rfl, rfl, hA⟩
    refine ⟨fun q => absurd q (by decide), fun _ => ?_⟩
    refine pk_lt 5 b (fun h3 => ?_) (fun h3 => ?_)
    · obtain rfl : b = 5 + 1 := by omega
      rintro y rfl
      rw [nI_1]
      refine ⟨⟨a + 1, by omega, rfl, by rw [eA]; rfl, by rw [eA]; exact hA⟩, ?_⟩
      try dsimp only
      rw [nI_clamp (n := a + 1) (by omega), nI_clamp (n := a) (by omega)]; omega
    · have hlB : (lpF (frB o 5 5 5 a) (b + 1) SA).length ≤ 126 := Nat.le_trans (lpF_le (frB_le o 5 5 5 a) (5 + 1) (by omega)) hlA
      have eB : lpF (frB o 5 5 5 a) (b + 1) SA = frB o 5 5 5 a b (lpF (frB o 5 5 5 a) b SA) := lpF_s _ _ _
      generalize lpF (frB o 5 5 5 a) b SA = SB at hA eB
      rw [eB] at hlB
      refine ⟨fun x m A => ∃ c, c ≤ 6 ∧ x = nI c ∧ m = nI (lpF (frC o 5 5 a b) c SB).length ∧ rA A (lpF (frC o 5 5 a b) c SB), fun x _ _ => 200 - x.toNatClampNeg, ⟨0, by omega, rfl, rfl, hA⟩, ?_⟩
      clear hA
      rintro x m A ⟨c, hc, rfl, rfl, hA⟩
      refine ⟨fun q => absurd q (by decide), fun _ => ?_⟩
      refine pk_lt 5 c (fun h4 => ?_) (fun h4 => ?_)
      · obtain rfl : c = 5 + 1 := by omega
        rintro y rfl
        rw [nI_1]
        refine ⟨⟨b + 1, by omega, rfl, by rw [eB]; rfl, by rw [eB]; exact hA⟩, ?_⟩
        try dsimp only
        rw [nI_clamp (n := b + 1) (by omega), nI_clamp (n := b) (by omega)]; omega
      · have hlC : (lpF (frC o 5 5 a b) (c + 1) SB).length ≤ 126 := Nat.le_trans (lpF_le (frC_le o 5 5 a b) (5 + 1) (by omega)) hlB
        have eC : lpF (frC o 5 5 a b) (c + 1) SB = frC o 5 5 a b c (lpF (frC o 5 5 a b) c SB) := lpF_s _ _ _
        generalize lpF (frC o 5 5 a b) c SB = SC at hA eC
        rw [eC] at hlC
        refine ⟨fun x m A => ∃ d, d ≤ 6 ∧ x = nI d ∧ m = nI (lpF (frD o 5 a b c) d SC).length ∧ rA A (lpF (frD o 5 a b c) d SC), fun x _ _ => 200 - x.toNatClampNeg, ⟨0, by omega, rfl, rfl, hA⟩, ?_⟩
        clear hA
        rintro x m A ⟨d, hd, rfl, rfl, hA⟩
        refine ⟨fun q => absurd q (by decide), fun _ => ?_⟩
        refine pk_lt 5 d (fun h5 => ?_) (fun h5 => ?_)
        · obtain rfl : d = 5 + 1 := by omega
          rintro y rfl
          rw [nI_1]
          refine ⟨⟨c + 1, by omega, rfl, by rw [eC]; rfl, by rw [eC]; exact hA⟩, ?_⟩
          try dsimp only
          rw [nI_clamp (n := c + 1) (by omega), nI_clamp (n := c) (by omega)]; omega
        · have hlD : (lpF (frD o 5 a b c) (d + 1) SC).length ≤ 126 := Nat.le_trans (lpF_le (frD_le o 5 a b c) (5 + 1) (by omega)) hlC
          have eD : lpF (frD o 5 a b c) (d + 1) SC = frD o 5 a b c d (lpF (frD o 5 a b c) d SC) := lpF_s _ _ _
          generalize lpF (frD o 5 a b c) d SC = SD at hA eD
          rw [eD] at hlD
          rw [nI_add, nI_add, nI_add]
          refine pk_lt 5 (a + b + c + d) (fun h6 => ?_) (fun h6 => ?_)
          · have e : frD o 5 a b c d SD = SD := if_neg (by omega)
            rintro y rfl
            rw [nI_1]
            refine ⟨⟨d + 1, by omega, rfl, by rw [eD, e], by rw [eD, e]; exact hA⟩, ?_⟩
            try dsimp only
            rw [nI_clamp (n := d + 1) (by omega), nI_clamp (n := d) (by omega)]; omega
          · have e : frD o 5 a b c d SD = insr o (a * 16777216 + b * 65536 + c * 256 + d) SD := if_pos h6
            rw [fr_code (by omega) (by omega) (by omega) (by omega)]
            rw [e, insr_len] at hlD
            refine s_md_put ho (by omega) hA (by omega) (fun A1 hA1 => ?_)
            rintro y rfl
            rw [nI_1]
            refine ⟨⟨d + 1, by omega, rfl, by rw [eD, e], by rw [eD, e]; exact hA1⟩, ?_⟩
            try dsimp only
            rw [nI_clamp (n := d + 1) (by omega), nI_clamp (n := d) (by omega)]; omega
