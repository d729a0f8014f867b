/-! PURE: which lead divides which; the reference's basis -/
def dvX (a b : Nat) : Prop := ∀ v, v < 4 → tbX a v ≤ tbX b v
theorem dvX_trans {a b c : Nat} (h : dvX a b) (g : dvX b c) : dvX a c := fun v hv => Nat.le_trans (h v hv) (g v hv)
theorem tbX_ext {a b : Nat} (ha : a < 2 ^ 31) (hb : b < 2 ^ 31) (h : ∀ v, v < 4 → tbX a v = tbX b v) : a = b := by
  have h0 := h 0 (by omega)
  have h1 := h 1 (by omega)
  have h2 := h 2 (by omega)
  have h3 := h 3 (by omega)
  simp only [tbX, Nat.reduceMul, Nat.reduceSub, Nat.reducePow] at h0 h1 h2 h3
  omega
theorem tbX_dec {a b v w : Nat} (hv : v < 4) (hw : w < 4) (h : a + tbU v = b) (hb : b < 2 ^ 31) (hn : ¬ tbX b v = 0) : tbX a w = if w = v then tbX b w - 1 else tbX b w := by
  have hv' : v = 0 ∨ v = 1 ∨ v = 2 ∨ v = 3 := by omega
  have hw' : w = 0 ∨ w = 1 ∨ w = 2 ∨ w = 3 := by omega
  rcases hv' with rfl | rfl | rfl | rfl <;> rcases hw' with rfl | rfl | rfl | rfl <;> simp only [tbX, tbU, Nat.reduceMul, Nat.reduceSub, Nat.reducePow, Nat.reduceEqDiff, if_true, if_false] at h hn ⊢ <;> omega
theorem dv_x {n o H N : Nat} {cd dg fd : Nat → Nat} {pm dv : Nat → Nat → Nat} (T : Tb n o H N cd dg fd pm dv) {i v : Nat} (hi : i < N) (hv : v < n) (hx : ¬ tbX (cd i) v = 0) {w : Nat} (hw : w < 4) : tbX (cd (dv v i)) w = if w = v then tbX (cd i) w - 1 else tbX (cd i) w :=
  tbX_dec (by have := T.n4; omega) hw (T.dvN v i hv hi hx).2.2.1 (T.cdlt i hi) hx
/-- the leads are closed under multiples up to the degree -/
def hsC (n N d : Nat) (dg : Nat → Nat) (pm : Nat → Nat → Nat) (hs : Nat → Bool) : Prop := (∀ j, hs j = true → j < N ∧ dg j ≤ d) ∧ ∀ j v, hs j = true → dg j < d → v < n → hs (pm v j) = true
theorem dv_step {n o H N : Nat} {cd dg fd : Nat → Nat} {pm dv : Nat → Nat → Nat} (T : Tb n o H N cd dg fd pm dv) {i j : Nat} (hi : i < N) (hj : j < N) (h : dvX (cd j) (cd i)) (hne : j ≠ i) : ∃ v, v < n ∧ ¬ tbX (cd i) v = 0 ∧ dvX (cd j) (cd (dv v i)) := by
  have hn := T.n4
  have hex : ∃ v, v < 4 ∧ tbX (cd j) v < tbX (cd i) v := by
    refine Classical.byContradiction fun q => hne (T.cdinj j i hj hi (tbX_ext (T.cdlt j hj) (T.cdlt i hi) fun v hv => ?_))
    have := h v hv
    have : ¬ tbX (cd j) v < tbX (cd i) v := fun q2 => q ⟨v, hv, q2⟩
    omega
  obtain ⟨v, hv, hlt⟩ := hex
  have hvn : v < n := by
    rcases Nat.lt_or_ge v n with q | q
    · exact q
    · have := T.xz i hi v q hv; omega
  refine ⟨v, hvn, by omega, fun w hw => ?_⟩
  rw [dv_x T hi hvn (by omega) hw]
  have := h w hw
  by_cases e : w = v
  · rw [if_pos e]; subst e; omega
  · rw [if_neg e]; exact this
theorem div1 {n o H N d : Nat} {cd dg fd : Nat → Nat} {pm dv : Nat → Nat → Nat} (T : Tb n o H N cd dg fd pm dv) {hs : Nat → Bool} (hC : hsC n N d dg pm hs) {j : Nat} (hj : hs j = true) : ∀ k i, i < N → dg i = k → dg i ≤ d → dvX (cd j) (cd i) → hs i = true := by
  intro k
  induction k with
  | zero =>
    intro i hi hk hd h
    by_cases e : j = i
    · rw [← e]; exact hj
    · obtain ⟨v, hv, hx, -⟩ := dv_step T hi (hC.1 j hj).1 h e
      have := (T.dvN v i hv hi hx).2.2.2; omega
  | succ k ih =>
    intro i hi hk hd h
    by_cases e : j = i
    · rw [← e]; exact hj
    · obtain ⟨v, hv, hx, h2⟩ := dv_step T hi (hC.1 j hj).1 h e
      obtain ⟨g1, g2, g3, g4⟩ := T.dvN v i hv hi hx
      have := ih (dv v i) g1 (by omega) (by omega) h2
      rw [← g2]
      exact hC.2 (dv v i) v this (by omega) hv
theorem div2 {n o H N d : Nat} {cd dg fd : Nat → Nat} {pm dv : Nat → Nat → Nat} (T : Tb n o H N cd dg fd pm dv) {hs : Nat → Bool} (hC : hsC n N d dg pm hs) {i j : Nat} (hj : hs j = true) (hi : i < N) (hd : dg i ≤ d) (h : dvX (cd j) (cd i)) (hne : j ≠ i) : mnB n cd dv hs i = false := by
  obtain ⟨v, hv, hx, h2⟩ := dv_step T hi (hC.1 j hj).1 h hne
  obtain ⟨g1, g2, g3, g4⟩ := T.dvN v i hv hi hx
  have := div1 T hC hj (dg (dv v i)) (dv v i) g1 rfl (by omega) h2
  cases h3 : mnB n cd dv hs i with
  | false => rfl
  | true => rw [(mnB_iff.mp h3).2 v hv hx] at this; exact absurd this (by decide)
theorem div3 {n o H N d : Nat} {cd dg fd : Nat → Nat} {pm dv : Nat → Nat → Nat} (T : Tb n o H N cd dg fd pm dv) {hs : Nat → Bool} (hC : hsC n N d dg pm hs) : ∀ k i, dg i = k → hs i = true → ∃ m, m ≤ i ∧ mnB n cd dv hs m = true ∧ dvX (cd m) (cd i) := by
  intro k
  induction k with
  | zero =>
    intro i hk hi
    refine ⟨i, Nat.le_refl i, mnB_iff.mpr ⟨hi, fun v hv hx => ?_⟩, fun v _ => Nat.le_refl _⟩
    have := (T.dvN v i hv (hC.1 i hi).1 hx).2.2.2; omega
  | succ k ih =>
    intro i hk hi
    have hiN := (hC.1 i hi).1
    cases h3 : mnB n cd dv hs i with
    | true => exact ⟨i, Nat.le_refl i, h3, fun v _ => Nat.le_refl _⟩
    | false =>
      have hex : ∃ v, v < n ∧ ¬ tbX (cd i) v = 0 ∧ hs (dv v i) = true := by
        refine Classical.byContradiction fun q => ?_
        have : mnB n cd dv hs i = true := mnB_iff.mpr ⟨hi, fun v hv hx => by
          cases h4 : hs (dv v i) with
          | false => rfl
          | true => exact absurd ⟨v, hv, hx, h4⟩ q⟩
        rw [h3] at this; exact absurd this (by decide)
      obtain ⟨v, hv, hx, h4⟩ := hex
      obtain ⟨g1, g2, g3, g4⟩ := T.dvN v i hv hiN hx
      obtain ⟨m, hm, hmb, hmd⟩ := ih (dv v i) (by omega) h4
      have hlt : dv v i < i := by
        rcases Nat.lt_or_ge (dv v i) i with q | q
        · exact q
        · have := T.mono q g1; omega
      refine ⟨m, by omega, hmb, dvX_trans hmd fun w hw => ?_⟩
      rw [dv_x T hiN hv hx hw]
      by_cases e : w = v
      · rw [if_pos e]; omega
      · rw [if_neg e]; exact Nat.le_refl _
theorem clW_low {p n o H N d gc : Nat} [NeZero p] {cd dg fd : Nat → Nat} {pm dv : Nat → Nat → Nat} (T : Tb n o H N cd dg fd pm dv) {G : Nat → Nat → Nat} {tg : Nat → Nat} {gen : Nat → Int32} (hG : mgOK p N gc G tg gen) (hd : d ≤ H) : clW n (fd d) N cd dv (fun g => g < gc ∧ tg g < fd (d + 1)) (rv p G) (fun f => ∀ i, fd (d + 1) ≤ i → f i = 0) := by
  refine ⟨⟨fun i _ => rfl, fun f g hf hg i hi => ?_, fun c f hf i hi => ?_⟩, fun g hg i hi => ?_, fun v hv f hf h0 i hi => ?_⟩
  · show f i + g i = 0
    rw [hf i hi, hg i hi]; grind
  · show c * f i = 0
    rw [hf i hi]; grind
  · show Fin.ofNat p (G g i) = 0
    rw [(hG.2 g hg.1).2.2.1 i (by omega), en_0]
  · show (if i < N ∧ ¬ tbX (cd i) v = 0 then f (dv v i) else 0) = 0
    by_cases c : i < N ∧ ¬ tbX (cd i) v = 0
    · rw [if_pos c]
      obtain ⟨g1, g2, g3, g4⟩ := T.dvN v i hv c.1 c.2
      have a1 := T.fdl i (d + 1) c.1 (by omega)
      have a2 := T.fdl (dv v i) d g1 (by omega)
      exact h0 _ (by omega)
    · rw [if_neg c]
theorem hsC_of {p n o H N d gc : Nat} [NeZero p] {cd dg fd : Nat → Nat} {pm dv : Nat → Nat → Nat} (T : Tb n o H N cd dg fd pm dv) {G : Nat → Nat → Nat} {tg : Nat → Nat} {gen has row : Nat → Int32} (hG : mgOK p N gc G tg gen) (hp : 2 ≤ p) (hd : d ≤ H) {hs : Nat → Bool} {M : Nat → Nat → Nat} {S : (Nat → Fin p) → Prop} (hR : mdR p N hs M has row) (hcl : clW n (fd d) N cd dv (fun g => g < gc ∧ tg g < fd (d + 1)) (rv p G) S) (hmin : ∀ W, clW n (fd d) N cd dv (fun g => g < gc ∧ tg g < fd (d + 1)) (rv p G) W → ∀ f, S f → W f)
    (hrows : ∀ i, hs i = true → S (rv p M i)) (htop : ∀ f, S f → (∀ i, f i = 0) ∨ ∃ j, hs j = true ∧ ¬ f j = 0 ∧ ∀ i, j < i → f i = 0) : hsC n N d dg pm hs := by
  have h10 : ¬ Fin.ofNat p 1 = 0 := fun q => by have := (en_zero (p := p) (x := 1) (by omega)).mp q; omega
  have hone : ∀ j, hs j = true → ¬ rv p M j j = 0 := fun j hj => by
    show ¬ Fin.ofNat p (M j j) = 0
    rw [(hR.2.1 j hj).2.2.1]; exact h10
  have hup : ∀ j, hs j = true → ∀ i, j < i → rv p M j i = 0 := fun j hj i hi => by
    show Fin.ofNat p (M j i) = 0
    rw [(hR.2.1 j hj).2.2.2 i hi, en_0]
  refine ⟨fun j hj => ?_, fun j v hj hdj hv => ?_⟩
  · have hjN := (hR.2.1 j hj).1
    refine ⟨hjN, ?_⟩
    have h1 := hmin _ (clW_low T hG hd) _ (hrows j hj)
    have h2 := T.fdl j (d + 1) hjN (by omega)
    rcases Nat.lt_or_ge j (fd (d + 1)) with q | q
    · omega
    · exact absurd (h1 j q) (hone j hj)
  · have hjN := (hR.2.1 j hj).1
    have h2 := T.fdl j d hjN (by omega)
    obtain ⟨g1, g2, g3, g4, g5⟩ := T.pmN v j hv hjN (by omega)
    have hS := hcl.2.2 v hv _ (hrows j hj) (fun i hi => hup j hj i (by omega))
    have hne : ¬ mv N cd dv v (rv p M j) (pm v j) = 0 := by
      show ¬ (if pm v j < N ∧ ¬ tbX (cd (pm v j)) v = 0 then rv p M j (dv v (pm v j)) else 0) = 0
      rw [if_pos ⟨g1, g4⟩, g5]; exact hone j hj
    rcases htop _ hS with hz | ⟨k, hk, hkn, hkz⟩
    · exact absurd (hz _) hne
    · have hkk : k < N ∧ ¬ tbX (cd k) v = 0 := Classical.byContradiction fun q => hkn (if_neg q)
      have hk2 : ¬ rv p M j (dv v k) = 0 := fun q => hkn (by show (if k < N ∧ ¬ tbX (cd k) v = 0 then rv p M j (dv v k) else 0) = 0; rw [if_pos hkk]; exact q)
      obtain ⟨e1, e2, e3, e4⟩ := T.dvN v k hv hkk.1 hkk.2
      have h5 : dv v k ≤ j := by
        rcases Nat.lt_or_ge j (dv v k) with q | q
        · exact absurd (hup j hj _ q) hk2
        · exact q
      have h6 : pm v j ≤ k := by
        rcases Nat.lt_or_ge k (pm v j) with q | q
        · exact absurd (hkz _ q) hne
        · exact q
      have h7 : k = pm v j := by
        by_cases e : dv v k = j
        · rw [← e, e2]
        · have := T.pml hv (i := dv v k) j (by omega) hjN (by omega)
          omega
      rw [← h7]; exact hk
theorem s_md_divides {a b : Nat} (ha : a < 2 ^ 31) (hb : b < 2 ^ 31) {Q : Int32 → Prop} (h1 : dvX a b → Q 1) (h0 : ¬ dvX a b → Q 0) : vc_md_divides (nI a) (nI b) Q := by
  refine ⟨fun x => ∃ k, k ≤ 4 ∧ x = nI k ∧ ∀ v, v < k → tbX a v ≤ tbX b v, fun x => 10 - x.toNatClampNeg, ⟨0, Nat.zero_le _, rfl, fun v hv => absurd hv (Nat.not_lt_zero v)⟩, ?_⟩
  rintro x ⟨k, hk, rfl, hA⟩
  refine pk_le 4 k (fun h => h1 fun v hv => hA v (by omega)) (fun h => ?_)
  refine s_md_expo ha (by omega) ?_
  refine s_md_expo hb (by omega) ?_
  have := tbX_lt a k
  have := tbX_lt b k
  refine pk_le (tbX a k) (tbX b k) (fun h2 => ?_) (fun h2 => h0 fun q => by have := q k (by omega); omega)
  rintro y rfl
  rw [nI_1]
  try dsimp only
  rw [nI_clamp (n := k + 1) (by omega), nI_clamp (n := k) (by omega)]
  refine ⟨⟨k + 1, by omega, rfl, fun v hv => ?_⟩, by omega⟩
  by_cases e : v = k
  · rw [e]; exact h2
  · exact hA v (by omega)
theorem hs_no {n : Nat} {cd : Nat → Nat} {dv : Nat → Nat → Nat} {hs : Nat → Bool} {i : Nat} (h : hs i = false) : mnB n cd dv hs i = false := by
  cases h3 : mnB n cd dv hs i with
  | false => rfl
  | true => rw [(mnB_iff.mp h3).1] at h; exact absurd h (by decide)
set_option maxHeartbeats 1000000 in
theorem s_md_basis {p n o H N gc : Nat} [NeZero p] {cd dg fd : Nat → Nat} {pm dv : Nat → Nat → Nat} (T : Tb n o H N cd dg fd pm dv) (hH : ∀ Q : Int32 → Prop, Q (nI H) → vc_md_highest (nI n) Q) {c0 c3 c6 c7 c8 c9 : Int32} {mono dga gen has row work basis : Nat → Int32} (hm : ∀ i, i < N → mono i = nI (cd i)) (hdg : ∀ i, i < N → dga i = nI (dg i)) {G : Nat → Nat → Nat} {tg : Nat → Nat} (hG : mgOK p N gc G tg gen) (hp : fe_P p) (hpm : p ≤ 32003) {x : Int32}
    {Q : Int32 → Int32 → Int32 → Int32 → Int32 → (Nat → Int32) → (Nat → Int32) → (Nat → Int32) → (Nat → Int32) → Prop}
    (hbad : (∀ d, d ≤ H → x ≠ nI d) → Q 0 1 c6 c7 c8 has row work basis)
    (hQ : ∀ d, d ≤ H → x = nI d → ∀ (has' row' work' basis' : Nat → Int32) (hs : Nat → Bool) (M : Nat → Nat → Nat) (S : (Nat → Fin p) → Prop), mdR p N hs M has' row' → clW n (fd d) N cd dv (fun g => g < gc ∧ tg g < fd (d + 1)) (rv p G) S → (∀ W, clW n (fd d) N cd dv (fun g => g < gc ∧ tg g < fd (d + 1)) (rv p G) W → ∀ f, S f → W f) →
      (∀ i, hs i = true → S (rv p M i)) → (∀ f, S f → (∀ i, f i = 0) ∨ ∃ j, hs j = true ∧ ¬ f j = 0 ∧ ∀ i, j < i → f i = 0) → (∀ i j, hs i = true → hs j = true → j ≠ i → M i j = 0) → hsC n N d dg pm hs →
      aN basis' (mnF (mnB n cd dv hs) N) → Q (nI (mnF (mnB n cd dv hs) N).length) 0 1 (nI d) (nI (mnF (mnB n cd dv hs) N).length) has' row' work' basis') :
    vc_md_basis c0 (nI p) (nI n) c3 (nI N) (nI gc) c6 c7 c8 c9 mono dga gen has row work basis x Q := by
  have hN := T.N126
  have hH30 := T.H30
  refine ⟨fun h => ⟨fun q => absurd q (by decide), fun _ => hbad fun d hd e => ?_⟩, fun h => hH _ ?_⟩
  · rw [e] at h; exact nI_pos (by omega) h
  obtain ⟨d, hd31, rfl⟩ := nI_of h
  refine pk_le d H (fun hd => ⟨fun _ => ?_, fun q => absurd rfl q⟩) (fun hd => ⟨fun q => absurd q (by decide), fun _ => hbad fun e he q => ?_⟩) rfl rfl hd31 (by omega)
  · refine s_md_findSpace T hm hdg hG hp hpm hd (fun has' row' work' hs M S hR hcl hmin hrows htop hred => ?_)
    have hC : hsC n N d dg pm hs := hsC_of T hG hp.1 hd hR hcl hmin hrows htop
    refine ⟨fun z m B => ∃ i, i ≤ N ∧ z = nI i ∧ m = nI (mnF (mnB n cd dv hs) i).length ∧ aN B (mnF (mnB n cd dv hs) i), fun z _ _ => 200 - z.toNatClampNeg, ⟨0, Nat.zero_le _, rfl, rfl, fun i c h => (by cases h)⟩, ?_⟩
    rintro z m B ⟨i, hi, rfl, rfl, hL⟩
    refine pk_le N i (fun h2 => ?_) (fun h2 => ?_)
    · obtain rfl : i = N := by omega
      exact hQ d hd rfl has' row' work' B hs M S hR hcl hmin hrows htop hred hC hL
    · refine ⟨pk_in i 126 (by omega), ?_⟩
      rintro x3 hx3
      rw [nI_clamp (n := i) (by omega), hR.1 i (by omega)] at hx3
      have hlen := mnF_len (mnB n cd dv hs) i
      have stop : ∀ y : Int32, ((y = 1 ∧ mnB n cd dv hs i = true) ∨ (y = 0 ∧ mnB n cd dv hs i = false)) →
          ((y = 0 → ∀ z, z = nI i + 1 → (∃ k, k ≤ N ∧ z = nI k ∧ nI (mnF (mnB n cd dv hs) i).length = nI (mnF (mnB n cd dv hs) k).length ∧ aN B (mnF (mnB n cd dv hs) k)) ∧ 200 - z.toNatClampNeg < 200 - (nI i).toNatClampNeg) ∧
           (¬ y = 0 → vp_in (nI (mnF (mnB n cd dv hs) i).length) 126 ∧ ∀ B' : Nat → Int32, B' = upd B (nI (mnF (mnB n cd dv hs) i).length).toNatClampNeg (nI i) → ∀ m' : Int32, m' = nI (mnF (mnB n cd dv hs) i).length + 1 → ∀ z, z = nI i + 1 → (∃ k, k ≤ N ∧ z = nI k ∧ m' = nI (mnF (mnB n cd dv hs) k).length ∧ aN B' (mnF (mnB n cd dv hs) k)) ∧ 200 - z.toNatClampNeg < 200 - (nI i).toNatClampNeg)) := by
        rintro y hy
        refine ⟨fun hy0 => ?_, fun hy1 => ⟨pk_in (mnF (mnB n cd dv hs) i).length 126 (by omega), ?_⟩⟩
        · rcases hy with ⟨rfl, -⟩ | ⟨-, h3⟩
          · exact absurd hy0 (by decide)
          · rintro z rfl
            have e : mnF (mnB n cd dv hs) (i + 1) = mnF (mnB n cd dv hs) i := if_neg (by rw [h3]; decide)
            rw [nI_1, nI_clamp (n := i + 1) (by omega), nI_clamp (n := i) (by omega)]
            exact ⟨⟨i + 1, by omega, rfl, by rw [e], by rw [e]; exact hL⟩, by omega⟩
        · rcases hy with ⟨-, h3⟩ | ⟨rfl, -⟩
          · rintro B' rfl m' rfl z rfl
            have e : mnF (mnB n cd dv hs) (i + 1) = mnF (mnB n cd dv hs) i ++ [i] := if_pos h3
            rw [nI_clamp (n := (mnF (mnB n cd dv hs) i).length) (by omega), nI_1, nI_1, nI_clamp (n := i + 1) (by omega), nI_clamp (n := i) (by omega)]
            exact ⟨⟨i + 1, by omega, rfl, by rw [e, List.length_append]; rfl, by rw [e]; exact aN_app hL i⟩, by omega⟩
          · exact absurd rfl hy1
      refine ⟨fun y w => ∃ k, k ≤ (mnF (mnB n cd dv hs) i).length ∧ w = nI k ∧ ((y = 1 ∧ hs i = true ∧ ∀ q m, q < k → (mnF (mnB n cd dv hs) i)[q]? = some m → ¬ dvX (cd m) (cd i)) ∨ (y = 0 ∧ mnB n cd dv hs i = false)), fun _ w => 200 - w.toNatClampNeg, ⟨0, Nat.zero_le _, rfl, ?_⟩, ?_⟩
      · cases hb : hs i with
        | true => rw [hb, if_pos rfl] at hx3; exact Or.inl ⟨hx3, rfl, fun q m hq => absurd hq (Nat.not_lt_zero q)⟩
        | false => rw [hb] at hx3; exact Or.inr ⟨hx3, hs_no hb⟩
      · rintro y w ⟨k, hk, rfl, hy⟩
        refine pk_le _ k (fun h4 => stop y ?_) (fun h4 => ?_)
        · rcases hy with ⟨hy1, hb, hA⟩ | hy
          · refine Or.inl ⟨hy1, ?_⟩
            obtain ⟨m, hmi, hmb, hmd⟩ := div3 T hC (dg i) i rfl hb
            by_cases e : m = i
            · rw [← e]; exact hmb
            · obtain ⟨q, hq, hqm⟩ := mnF_has (k := i) (show m < i by omega) hmb
              exact absurd hmd (hA q m (by omega) hqm)
          · exact Or.inr hy
        · refine ⟨fun hy0 => stop y ?_, fun hy1 => ?_⟩
          · rcases hy with ⟨hy1, -⟩ | hy
            · rw [hy1] at hy0; exact absurd hy0 (by decide)
            · exact Or.inr hy
          · rcases hy with ⟨rfl, hb, hA⟩ | ⟨hy0, -⟩
            · obtain ⟨m, hmk, hma⟩ := aN_get hL h4
              obtain ⟨hmi, hmb⟩ := mnF_mem hmk
              refine ⟨pk_in k 126 (by omega), ?_, pk_in i 126 (by omega), ?_⟩
              · rw [nI_clamp (n := k) (by omega), hma]; exact pk_in m 126 (by omega)
              rw [nI_clamp (n := k) (by omega), hma, nI_clamp (n := m) (by omega), nI_clamp (n := i) (by omega), hm m (by omega), hm i (by omega)]
              refine s_md_divides (T.cdlt m (by omega)) (T.cdlt i (by omega)) (fun hdx => ⟨fun q => absurd q (by decide), fun _ => ?_⟩) (fun hdx => ⟨fun _ => ?_, fun q => absurd rfl q⟩)
              · rintro w rfl
                rw [nI_1]
                try dsimp only
                rw [nI_clamp (n := k + 1) (by omega), nI_clamp (n := k) (by omega)]
                exact ⟨⟨k + 1, by omega, rfl, Or.inr ⟨rfl, div2 T hC (mnB_iff.mp hmb).1 (by omega) (hC.1 i hb).2 hdx (by omega)⟩⟩, by omega⟩
              · rintro w rfl
                rw [nI_1]
                try dsimp only
                rw [nI_clamp (n := k + 1) (by omega), nI_clamp (n := k) (by omega)]
                refine ⟨⟨k + 1, by omega, rfl, Or.inl ⟨rfl, hb, fun q u hq hqu => ?_⟩⟩, by omega⟩
                by_cases e : q = k
                · subst e
                  rw [hmk] at hqu
                  obtain rfl : m = u := Option.some.inj hqu
                  exact hdx
                · exact hA q u (by omega) hqu
            · exact absurd hy0 hy1
  · have := (nI_eq hd31 (by omega)).mp q; omega
