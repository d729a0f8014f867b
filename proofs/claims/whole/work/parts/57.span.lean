/-! PURE: writeProduct, takeInProducts, span -/
def mnOK (n H N : Nat) (cd dg fd : Nat → Nat) (pm : Nat → Nat → Nat) (codes degs first prods : Nat → Int32) : Prop :=
  (∀ i, i < N → codes i = nI (cd i)) ∧ (∀ i, i < N → degs i = nI (dg i)) ∧ (∀ d, d ≤ H + 1 → first d = nI (fd d)) ∧ ∀ v i, v < n → i < N → prods (v * 126 + i) = if dg i < H then nI (pm v i) else -1
theorem s_times {n H N : Nat} {cd dg fd : Nat → Nat} {pm : Nat → Nat → Nat} {codes degs first prods : Nat → Int32} (hM : mnOK n H N cd dg fd pm codes degs first prods) (hN : N ≤ 126) (hn : n ≤ 4) {v i : Nat} (hv : v < n) (hi : i < N) {a b c d : Int32} {Q : Int32 → Prop} (hQ : Q (if dg i < H then nI (pm v i) else -1)) : vc_mn_timesVariable a b c d prods (nI i) (nI v) Q := by
  unfold vc_mn_timesVariable
  rw [show (126 : Int32) = nI 126 from rfl, pk_mul, nI_add]
  refine ⟨pk_in (v * 126 + i) 504 (by omega), ?_⟩
  rw [nI_clamp (by omega), hM.2.2.2 v i hv hi]
  exact hQ
set_option maxHeartbeats 1000000 in
theorem s_writeProduct {p sz ct n o H N r v : Nat} [NeZero p] {cd dg fd : Nat → Nat} {pm dv : Nat → Nat → Nat} (T : Tb n o H N cd dg fd pm dv) {codes degs first prods coef leads rol A : Nat → Int32} (hM : mnOK n H N cd dg fd pm codes degs first prods) {R : Nat → Nat → Nat} {ld : Nat → Nat} (hS : spOK p sz ct coef leads rol R ld) (hsz : sz ≤ N) (hp : 0 < p) (hr : r < ct) (hv : v < n) (hd : dg (ld r) < H) {a b c d e f g : Int32}
    {Q : Int32 → (Nat → Int32) → Prop} (hQ : ∀ (B : Nat → Int32) (w : Nat → Nat), (∀ i, i < 126 → B i = nI (w i) ∧ w i < p) → (∀ i, Fin.ofNat p (w i) = mv N cd dv v (rv p R r) i) → (∀ i, pm v (ld r) < i → w i = 0) → Q (nI (pm v (ld r))) B) :
    vc_sp_writeProduct 126 A a b c d prods e f g coef leads (nI r) (nI v) Q := by
  have hct := hS.2.1
  obtain ⟨hld, hls, hrl, hR1⟩ := hS.2.2.1 r hr
  have hN := T.N126
  have hn := T.n4
  have hlN : ld r < N := by omega
  refine ⟨pk_in r 126 (by omega), ?_⟩
  rintro x rfl
  rw [nI_clamp (n := r) (by omega), hld]
  refine s_startOfLine (by omega) ?_
  refine s_fill (by decide) _ _ (fun B0 hB0 _ => ?_)
  refine ⟨fun x B => ∃ k, k ≤ ld r + 1 ∧ x = nI k ∧ ∀ j, j < 126 → B j = nI (if (j < N ∧ ¬ tbX (cd j) v = 0) ∧ dv v j < k then R r (dv v j) else 0), fun x _ => 200 - x.toNatClampNeg, ⟨0, by omega, rfl, fun j hj => by rw [hB0 j hj, if_neg (by omega)]; rfl⟩, ?_⟩
  rintro x B ⟨k, hk, rfl, hB⟩
  refine pk_lt (ld r) k (fun h => ?_) (fun h => ?_)
  · obtain rfl : k = ld r + 1 := by omega
    refine s_times hM hN hn hv hlN ?_
    rw [if_pos hd]
    have hz : ∀ j, ld r < j → R r j = 0 := fun j hj => hS.2.2.2.2.2 r hr j hj
    refine hQ B (fun j => if (j < N ∧ ¬ tbX (cd j) v = 0) ∧ dv v j < ld r + 1 then R r (dv v j) else 0) (fun i hi => ⟨hB i hi, ?_⟩) (fun i => ?_) (fun i hi => ?_)
    · try dsimp only
      by_cases q : (i < N ∧ ¬ tbX (cd i) v = 0) ∧ dv v i < ld r + 1
      · rw [if_pos q]; exact (hS.2.2.2.2.1 r hr _ (by omega)).2
      · rw [if_neg q]; exact hp
    · try dsimp only
      by_cases q : i < N ∧ ¬ tbX (cd i) v = 0
      · have e : mv N cd dv v (rv p R r) i = Fin.ofNat p (R r (dv v i)) := if_pos q
        rw [e]
        by_cases q2 : dv v i < ld r + 1
        · rw [if_pos ⟨q, q2⟩]
        · rw [if_neg (fun h => q2 h.2), hz _ (by omega)]
      · have e : mv N cd dv v (rv p R r) i = 0 := if_neg q
        rw [e, if_neg (fun h => q h.1), en_0]
    · try dsimp only
      by_cases q : i < N ∧ ¬ tbX (cd i) v = 0
      · obtain ⟨g1, g2, g3, g4⟩ := T.dvN v i hv q.1 q.2
        refine if_neg (fun h => ?_)
        rcases Nat.lt_or_ge (dv v i) (ld r) with c | c
        · have := T.pml (i := dv v i) hv (ld r) c hlN hd
          omega
        · have e : dv v i = ld r := by omega
          rw [e] at g2; omega
      · exact if_neg (fun h => q h.1)
  · have hkN : k < N := by omega
    have hdk : dg k < H := by have := T.mono (show k ≤ ld r by omega) hlN; omega
    refine s_times hM hN hn hv hkN ?_
    rw [if_pos hdk]
    obtain ⟨g1, g2, g3, g4, g5⟩ := T.pmN v k hv hkN hdk
    refine ⟨fun q => absurd q (pn_m1_ne _ (by omega)), fun _ => ?_⟩
    rw [nI_add]
    refine ⟨pk_in (ld r * (ld r + 1) / 2 + k) 8001 (tr_in (by omega) (by omega)), pk_in (pm v k) 126 (by omega), ?_⟩
    rintro B1 rfl
    rintro y rfl
    rw [nI_1, nI_clamp (n := pm v k) (by omega), nI_clamp (n := ld r * (ld r + 1) / 2 + k) (by have := tr_in (show ld r < 126 by omega) h; omega), (hS.2.2.2.2.1 r hr k h).1]
    refine ⟨⟨k + 1, by omega, rfl, fun j hj => ?_⟩, ?_⟩
    · by_cases e : j = pm v k
      · subst e
        rw [pk_us, g5, if_pos ⟨⟨g1, g4⟩, by omega⟩]
      · rw [pk_un e, hB j hj]
        by_cases q : j < N ∧ ¬ tbX (cd j) v = 0
        · obtain ⟨e1, e2, e3, e4⟩ := T.dvN v j hv q.1 q.2
          have ne : dv v j ≠ k := fun e3 => e (by rw [← e3]; exact e2.symm)
          by_cases q2 : dv v j < k
          · rw [if_pos ⟨q, q2⟩, if_pos ⟨q, by omega⟩]
          · rw [if_neg (fun h => q2 h.2), if_neg (fun h => q2 (by omega))]
        · rw [if_neg (fun h => q h.1), if_neg (fun h => q h.1)]
    · try dsimp only; rw [nI_clamp (n := k + 1) (by omega), nI_clamp (n := k) (by omega)]; omega
theorem sp_ech {p sz ct : Nat} [NeZero p] {coef leads rol : Nat → Int32} {R : Nat → Nat → Nat} {ld : Nat → Nat} (hS : spOK p sz ct coef leads rol R ld) : la_ech ct (rv p R) ld := by
  refine ⟨fun j hj => ⟨?_, fun i hi => ?_⟩, fun j t hj ht e => spOK_inj hS hj ht e⟩
  · show Fin.ofNat p (R j (ld j)) = 1
    rw [(hS.2.2.1 j hj).2.2.2, en_1]
  · show Fin.ofNat p (R j i) = 0
    rw [hS.2.2.2.2.2 j hj i hi, en_0]
theorem sp_full {p sz ct : Nat} [NeZero p] {coef leads rol : Nat → Int32} {R : Nat → Nat → Nat} {ld : Nat → Nat} (hS : spOK p sz ct coef leads rol R ld) (h : sz ≤ ct) {f : Nat → Fin p} (hf : ∀ i, sz ≤ i → f i = 0) : la_in ct (rv p R) f := by
  refine la_full (sp_ech hS) (fun l hl => ?_) sz f (Nat.le_refl _) hf
  by_cases q : ∃ r, r < ct ∧ ld r = l
  · exact q
  · exfalso
    have := pg_le sz (ct + 1) (fun j => if j < ct then ld j else l) (fun j hj => by
      by_cases c : j < ct
      · rw [if_pos c]; exact (hS.2.2.1 j c).2.1
      · rw [if_neg c]; omega) (fun i j hi hj e => by
      by_cases c1 : i < ct <;> by_cases c2 : j < ct
      · rw [if_pos c1, if_pos c2] at e; exact spOK_inj hS c1 c2 e
      · rw [if_pos c1, if_neg c2] at e; exact absurd ⟨i, c1, e⟩ q
      · rw [if_neg c1, if_pos c2] at e; exact absurd ⟨j, c2, e.symm⟩ q
      · omega)
    omega
/-- what the origin of a row says -/
def srcK (p : Nat) [NeZero p] (n N d sz gc : Nat) (cd dg : Nat → Nat) (dv : Nat → Nat → Nat) (G : Nat → Nat → Nat) (tg : Nat → Nat) (r : Nat) (R : Nat → Nat → Nat) (ld : Nat → Nat) (s y : Int32) (f : Nat → Fin p) : Prop :=
  (y = -1 ∧ ∃ g, g < gc ∧ s = nI g ∧ tg g < sz ∧ f = rv p G g) ∨ ∃ q v, q < r ∧ v < n ∧ s = nI q ∧ y = nI v ∧ dg (ld q) < d ∧ f = mv N cd dv v (rv p R q)
theorem srcK_c {p : Nat} [NeZero p] {n N d sz gc : Nat} {cd dg : Nat → Nat} {dv : Nat → Nat → Nat} {G : Nat → Nat → Nat} {tg : Nat → Nat} : ∀ r R R' ld ld' s v f, (∀ q, q < r → R' q = R q ∧ ld' q = ld q) → srcK p n N d sz gc cd dg dv G tg r R ld s v f → srcK p n N d sz gc cd dg dv G tg r R' ld' s v f := by
  intro r R R' ld ld' s v f h hk
  rcases hk with q | ⟨q, w, h1, h2, h3, h4, h5, h6⟩
  · exact Or.inl q
  · refine Or.inr ⟨q, w, h1, h2, h3, h4, by rw [(h q h1).2]; exact h5, ?_⟩
    rw [h6]
    congr 1
    funext i
    show Fin.ofNat p (R q i) = Fin.ofNat p (R' q i)
    rw [(h q h1).1]
theorem rv_eq {p : Nat} [NeZero p] {R R' : Nat → Nat → Nat} {r : Nat} (h : R' r = R r) : rv p R' r = rv p R r := by
  funext i
  show Fin.ofNat p (R' r i) = Fin.ofNat p (R r i)
  rw [h]
set_option maxHeartbeats 2000000 in
theorem s_takeInProducts {p sz ct n o H N d gc row : Nat} [NeZero p] {cd dg fd : Nat → Nat} {pm dv : Nat → Nat → Nat} (T : Tb n o H N cd dg fd pm dv) {codes degs first prods : Nat → Int32} (hM : mnOK n H N cd dg fd pm codes degs first prods) {G : Nat → Nat → Nat} {tg : Nat → Nat}
    {coef leads rol taken work os ov ofc on : Nat → Int32} {mo mh mc : Int32} {R : Nat → Nat → Nat} {ld : Nat → Nat} (hp : fe_P p) (hpm : p ≤ 32003) (hd : d ≤ H) (hsz : sz = fd (d + 1)) (hS : spOK p sz ct coef leads rol R ld) (hO : ogOK p (srcK p n N d sz gc cd dg dv G tg) ct R ld os ov ofc on) (hrow : row < ct)
    {Q : Int32 → (Nat → Int32) → (Nat → Int32) → (Nat → Int32) → (Nat → Int32) → (Nat → Int32) → (Nat → Int32) → (Nat → Int32) → (Nat → Int32) → (Nat → Int32) → Prop}
    (hQ : ∀ (ct' : Nat) (R' : Nat → Nat → Nat) (ld' : Nat → Nat) (coef' leads' rol' taken' work' os' ov' ofc' on' : Nat → Int32), spOK p sz ct' coef' leads' rol' R' ld' → ogOK p (srcK p n N d sz gc cd dg dv G tg) ct' R' ld' os' ov' ofc' on' → ct ≤ ct' → (∀ r, r < ct → R' r = R r ∧ ld' r = ld r) →
      (dg (ld row) < d → ∀ v, v < n → la_in ct' (rv p R') (mv N cd dv v (rv p R row))) → (∀ W, lsub W → (dg (ld row) < d → ∀ v, v < n → W (mv N cd dv v (rv p R row))) → (∀ r, r < ct → W (rv p R r)) → ∀ r, r < ct' → W (rv p R' r)) → Q (nI ct') coef' leads' rol' taken' work' os' ov' ofc' on') :
    vc_sp_takeInProducts (nI p) (nI n) mo mh mc degs prods (nI d) (nI sz) (nI ct) coef leads rol taken work os ov ofc on (nI row) Q := by
  have hct := hS.2.1
  have hN := T.N126
  have hn := T.n4
  have hH := T.H30
  have hszN : sz ≤ N := by rw [hsz]; exact T.fdN _ (by omega)
  obtain ⟨hld, hls, hrl, hR1⟩ := hS.2.2.1 row hrow
  unfold vc_sp_takeInProducts
  refine ⟨pk_in row 126 (by omega), ?_⟩
  rw [nI_clamp (n := row) (by omega), hld]
  refine ⟨pk_in (ld row) 126 (by omega), ?_⟩
  rw [nI_clamp (n := ld row) (by omega), hM.2.1 (ld row) (by omega)]
  have hdl := T.dgH (ld row) (by omega)
  refine pk_lt (dg (ld row)) d (fun hlt => ?_) (fun hge => hQ ct R ld coef leads rol taken work os ov ofc on hS hO (Nat.le_refl _) (fun _ _ => ⟨rfl, rfl⟩) (fun h => by omega) (fun W _ _ h => h))
  have hsup : ∀ v, v < n → ∀ i, sz ≤ i → mv N cd dv v (rv p R row) i = 0 := fun v hv i hi => by
    by_cases q : i < N ∧ ¬ tbX (cd i) v = 0
    · have e : mv N cd dv v (rv p R row) i = Fin.ofNat p (R row (dv v i)) := if_pos q
      obtain ⟨e1, e2, e3, e4⟩ := T.dvN v i hv q.1 q.2
      have h1 : ¬ dg i < d + 1 := fun h => by have := (T.fdl i (d + 1) q.1 (by omega)).mpr h; omega
      have h2 : ld row < dv v i := by
        rcases Nat.lt_or_ge (ld row) (dv v i) with c | c
        · exact c
        · have := T.mono c (by omega); omega
      rw [e, hS.2.2.2.2.2 row hrow _ h2, en_0]
    · exact if_neg q
  refine ⟨fun x cn C L RL TK WK OS OV OF ON => ∃ (k ct' : Nat) (R' : Nat → Nat → Nat) (ld' : Nat → Nat), k ≤ n ∧ x = nI k ∧ cn = nI ct' ∧ spOK p sz ct' C L RL R' ld' ∧ ogOK p (srcK p n N d sz gc cd dg dv G tg) ct' R' ld' OS OV OF ON ∧ ct ≤ ct' ∧ (∀ r, r < ct → R' r = R r ∧ ld' r = ld r) ∧
      (∀ v, v < k → la_in ct' (rv p R') (mv N cd dv v (rv p R row))) ∧ (∀ W, lsub W → (dg (ld row) < d → ∀ v, v < n → W (mv N cd dv v (rv p R row))) → (∀ r, r < ct → W (rv p R r)) → ∀ r, r < ct' → W (rv p R' r)), fun x _ _ _ _ _ _ _ _ _ _ => 10 - x.toNatClampNeg,
    ⟨0, ct, R, ld, Nat.zero_le _, rfl, rfl, hS, hO, Nat.le_refl _, fun _ _ => ⟨rfl, rfl⟩, fun v hv => absurd hv (Nat.not_lt_zero v), fun W _ _ h => h⟩, ?_⟩
  rintro x cn C L RL TK WK OS OV OF ON ⟨k, ct', R', ld', hk, rfl, rfl, hS', hO', hle, hext, hin, hW⟩
  have hct' := hS'.2.1
  refine pk_le n k (fun h => ?_) (fun h => ?_)
  · obtain rfl : k = n := by omega
    exact hQ ct' R' ld' _ _ _ _ _ _ _ _ _ hS' hO' hle hext (fun _ => hin) hW
  · refine pk_le sz ct' (fun h2 => ?_) (fun h2 => ?_)
    · exact hQ ct' R' ld' _ _ _ _ _ _ _ _ _ hS' hO' hle hext (fun _ v hv => sp_full hS' h2 (hsup v hv)) hW
    · have hrow' : row < ct' := by omega
      have e1 := hext row hrow
      have hpmr := T.pmN k (ld row) h (by omega) (by omega)
      have hpms : pm k (ld row) < sz := by rw [hsz]; exact (T.fdl _ (d + 1) hpmr.1 (by omega)).mpr (by omega)
      refine s_writeProduct (r := row) T hM hS' hszN (by have := hp.1; omega) hrow' h (by rw [e1.2]; omega) (fun B w hB hw hwz => ?_)
      have hfv : (fun i => if i < pm k (ld row) + 1 then Fin.ofNat p (w i) else 0) = mv N cd dv k (rv p R row) := by
        funext i
        rw [← rv_eq e1.1, ← hw i]
        by_cases c : i < pm k (ld row) + 1
        · rw [if_pos c]
        · rw [if_neg c, hwz i (by rw [e1.2]; omega), en_0]
      rw [e1.2, show nI (pm k (ld row)) = nI (pm k (ld row) + 1) - 1 from (pn_pred_s _).symm]
      refine s_takeIn (K := srcK p n N d sz gc cd dg dv G tg) srcK_c hp hpm hS' hO' (m := pm k (ld row) + 1) (by omega) (a := w) (fun i hi => hB i (by omega)) ?_ ?_
      · rw [hfv]
        refine Or.inr ⟨row, k, hrow', h, rfl, rfl, by rw [e1.2]; exact hlt, ?_⟩
        rw [rv_eq e1.1]
      · rw [hfv]
        rintro ct2 R2 ld2 C2 L2 RL2 TK2 WK2 OS2 OV2 OF2 ON2 hS2 hO2 hle2 hext2 hin2 hW2 y rfl
        have hct2 := hS2.2.1
        have hmono : ∀ f, la_in ct' (rv p R') f → la_in ct2 (rv p R2) f := fun f hf => la_in_mono hf (fun j hj => by
          rw [← rv_eq (hext2 j hj).1]; exact la_in_row (by omega))
        rw [nI_1]
        refine ⟨⟨k + 1, ct2, R2, ld2, by omega, rfl, rfl, hS2, hO2, by omega, fun r hr => ⟨(hext2 r (by omega)).1.trans (hext r hr).1, (hext2 r (by omega)).2.trans (hext r hr).2⟩, fun v hv => ?_, fun W hW0 hWm hWr => hW2 W hW0 (hW W hW0 hWm hWr) (hWm hlt k h)⟩, ?_⟩
        · by_cases e : v = k
          · subst e; exact hin2
          · exact hmono _ (hin v (by omega))
        · try dsimp only; rw [nI_clamp (n := k + 1) (by omega), nI_clamp (n := k) (by omega)]; omega
