/-! PURE: takeIn: what comes to the rows -/
theorem tr_s (n : Nat) : (n + 1) * (n + 1 + 1) / 2 = n * (n + 1) / 2 + (n + 1) := by
  have : (n + 1) * (n + 1 + 1) = n * (n + 1) + 2 * (n + 1) := by grind
  omega
theorem tr_lt : ∀ {a b : Nat}, a < b → a * (a + 1) / 2 + a < b * (b + 1) / 2 := by
  intro a b h
  induction b with
  | zero => exact absurd h (Nat.not_lt_zero a)
  | succ b ih =>
    rw [tr_s]
    by_cases e : a = b
    · subst e; omega
    · have := ih (by omega); omega
theorem tr_ne {a b i j : Nat} (h : a ≠ b) (hi : i ≤ a) (hj : j ≤ b) : a * (a + 1) / 2 + i ≠ b * (b + 1) / 2 + j := by
  rcases Nat.lt_or_gt_of_ne h with q | q
  · have := tr_lt q; omega
  · have := tr_lt q; omega
theorem tr_in {a i : Nat} (h : a < 126) (hi : i ≤ a) : a * (a + 1) / 2 + i < 8001 := by
  have := tr_lt h; omega
/-- no more things than places -/
theorem pg_le : ∀ (n k : Nat) (f : Nat → Nat), (∀ j, j < k → f j < n) → (∀ i j, i < k → j < k → f i = f j → i = j) → k ≤ n := by
  intro n
  induction n with
  | zero =>
    intro k f h _
    rcases Nat.eq_zero_or_pos k with q | q
    · omega
    · exact absurd (h 0 q) (Nat.not_lt_zero _)
  | succ n ih =>
    intro k f h hi
    by_cases hq : ∃ j, j < k ∧ f j = n
    · obtain ⟨t, ht, htn⟩ := hq
      have := ih (k - 1) (fun j => if j < t then f j else f (j + 1)) (fun j hj => by
        by_cases c : j < t
        · rw [if_pos c]
          have h1 := h j (by omega)
          have h2 : f j ≠ n := fun e => by have := hi j t (by omega) ht (e.trans htn.symm); omega
          omega
        · rw [if_neg c]
          have h1 := h (j + 1) (by omega)
          have h2 : f (j + 1) ≠ n := fun e => by have := hi (j + 1) t (by omega) ht (e.trans htn.symm); omega
          omega) (fun a b ha hb e => by
        
        by_cases c1 : a < t <;> by_cases c2 : b < t
        · rw [if_pos c1, if_pos c2] at e; exact hi a b (by omega) (by omega) e
        · rw [if_pos c1, if_neg c2] at e; have := hi a (b + 1) (by omega) (by omega) e; omega
        · rw [if_neg c1, if_pos c2] at e; have := hi (a + 1) b (by omega) (by omega) e; omega
        · rw [if_neg c1, if_neg c2] at e; have := hi (a + 1) (b + 1) (by omega) (by omega) e; omega)
      omega
    · have := ih k f (fun j hj => by
        have h1 := h j hj
        have h2 : f j ≠ n := fun e => hq ⟨j, hj, e⟩
        omega) hi
      omega
/-- a set closed under sums and numbers -/
def lsub {F : Type} [Lean.Grind.CommRing F] (W : (Nat → F) → Prop) : Prop :=
  W (fun _ => 0) ∧ (∀ f g, W f → W g → W (fun i => f i + g i)) ∧ ∀ (c : F) f, W f → W (fun i => c * f i)
theorem lsub_sm {F : Type} [Lean.Grind.CommRing F] {W : (Nat → F) → Prop} (hW : lsub W) {R : Nat → Nat → F} (c : Nat → F) : ∀ k : Nat, (∀ j, j < k → W (R j) ∨ c j = 0) → W (fun i => la_sm (fun j => c j * R j i) k)
  | 0, _ => hW.1
  | k + 1, H => by
    have h1 := lsub_sm hW (R := R) c k (fun j hj => H j (Nat.lt_succ_of_lt hj))
    rcases H k (Nat.lt_succ_self k) with h | h
    · exact hW.2.1 _ _ h1 (hW.2.2 (c k) _ h)
    · have e : (fun i => la_sm (fun j => c j * R j i) (k + 1)) = fun i => la_sm (fun j => c j * R j i) k := by
        funext i
        rw [la_sm_s, h]
        grind
      rw [e]; exact h1
theorem lsub_in {F : Type} [Lean.Grind.CommRing F] {W : (Nat → F) → Prop} (hW : lsub W) {R : Nat → Nat → F} {k : Nat} {f : Nat → F} (h : ∀ j, j < k → W (R j)) (hf : la_in k R f) : W f := by
  obtain ⟨c, hc⟩ := hf
  have e : f = fun i => la_sm (fun j => c j * R j i) k := funext hc
  rw [e]
  exact lsub_sm hW c k (fun j hj => Or.inl (h j hj))
theorem lsub_of_in {F : Type} [Lean.Grind.CommRing F] (k : Nat) (R : Nat → Nat → F) : lsub (la_in k R) :=
  ⟨la_in_zero, fun _ _ hf hg => la_in_add hf hg, fun c _ hf => la_in_mul c hf⟩
/-- a row of residues as a vector -/
def rv (p : Nat) [NeZero p] (R : Nat → Nat → Nat) (r : Nat) : Nat → Fin p := fun i => Fin.ofNat p (R r i)
def ogOK (p : Nat) [NeZero p] (K : Nat → (Nat → Nat → Nat) → (Nat → Nat) → Int32 → Int32 → (Nat → Fin p) → Prop) (ct : Nat) (R : Nat → Nat → Nat) (ld : Nat → Nat) (os ov ofc on : Nat → Int32) : Prop :=
  ∀ r, r < ct → ∃ (fac : Nat) (num : Nat → Nat) (s : Nat → Fin p), ofc r = nI fac ∧ fac < p ∧ (∀ e, e < r → on (r * (r + 1) / 2 + e) = nI (num e) ∧ num e < p) ∧ K r R ld (os r) (ov r) s ∧
    ∀ i, rv p R r i = Fin.ofNat p fac * s i + la_sm (fun e => Fin.ofNat p (num e) * rv p R e i) r
set_option maxHeartbeats 2000000 in
theorem s_takeIn {p sz ct m : Nat} [NeZero p] {K : Nat → (Nat → Nat → Nat) → (Nat → Nat) → Int32 → Int32 → (Nat → Fin p) → Prop} (hK : ∀ r R R' ld ld' s v f, (∀ q, q < r → R' q = R q ∧ ld' q = ld q) → K r R ld s v f → K r R' ld' s v f)
    {coef leads rol taken work os ov ofc on : Nat → Int32} {dg x y : Int32} {R : Nat → Nat → Nat} {ld : Nat → Nat} (hp : fe_P p) (hpm : p ≤ 32003) (hS : spOK p sz ct coef leads rol R ld) (hO : ogOK p K ct R ld os ov ofc on) (hm : m ≤ sz)
    {a : Nat → Nat} (ha : ∀ i, i < m → work i = nI (a i) ∧ a i < p) (hx : K ct R ld x y (fun i => if i < m then Fin.ofNat p (a i) else 0))
    {Q : Int32 → (Nat → Int32) → (Nat → Int32) → (Nat → Int32) → (Nat → Int32) → (Nat → Int32) → (Nat → Int32) → (Nat → Int32) → (Nat → Int32) → (Nat → Int32) → Prop}
    (hQ : ∀ (ct' : Nat) (R' : Nat → Nat → Nat) (ld' : Nat → Nat) (coef' leads' rol' taken' work' os' ov' ofc' on' : Nat → Int32), spOK p sz ct' coef' leads' rol' R' ld' → ogOK p K ct' R' ld' os' ov' ofc' on' → ct ≤ ct' → (∀ r, r < ct → R' r = R r ∧ ld' r = ld r) →
      la_in ct' (rv p R') (fun i => if i < m then Fin.ofNat p (a i) else 0) → (∀ W, lsub W → (∀ r, r < ct → W (rv p R r)) → W (fun i => if i < m then Fin.ofNat p (a i) else 0) → ∀ r, r < ct' → W (rv p R' r)) → Q (nI ct') coef' leads' rol' taken' work' os' ov' ofc' on') :
    vc_sp_takeIn (nI p) dg (nI sz) (nI ct) coef leads rol taken work os ov ofc on (nI m - 1) x y Q := by
  have hp2 : 2 ≤ p := hp.1
  have hsz := hS.1
  have hct := hS.2.1
  unfold vc_sp_takeIn
  refine s_reduce hp2 hpm hS (Nat.le_refl m) (by omega) (Nat.le_refl 126) ha (fun B tk b t hB hBo htk hto htm _ hbz hlin => ?_)
  have hRz : ∀ r, r < ct → ∀ i, m ≤ i → t r ≠ 0 → R r i = 0 := fun r hr i hi h0 => by
    refine hS.2.2.2.2.2 r hr i ?_
    rcases Nat.lt_or_ge (ld r) m with q | q
    · omega
    · exact absurd (htm r hr q) h0
  have hf : ∀ i, (if i < m then Fin.ofNat p (a i) else 0) = (if i < m then Fin.ofNat p (b i) else 0) + la_sm (fun r => Fin.ofNat p (t r) * rv p R r i) ct := fun i => by
    by_cases c : i < m
    · rw [if_pos c, if_pos c]; exact (hlin i c).symm
    · rw [if_neg c, if_neg c, la_sm_zero (fun j hj => by
        by_cases h0 : t j = 0
        · rw [h0, en_0]; grind
        · show _ * Fin.ofNat p (R j i) = 0
          rw [hRz j hj i (by omega) h0, en_0]; grind)]
      grind
  refine s_topOf (by decide) (by omega) ?_
  rcases Nat.eq_zero_or_pos (tp B m) with h0 | h0
  · rw [h0]
    refine ⟨fun _ => ?_, fun h => absurd rfl h⟩
    refine hQ ct R ld coef leads rol tk B os ov ofc on hS hO (Nat.le_refl _) (fun _ _ => ⟨rfl, rfl⟩) ?_ (fun W _ h _ => h)
    refine ⟨fun r => Fin.ofNat p (t r), fun i => ?_⟩
    dsimp only; rw [hf i]
    have : (if i < m then Fin.ofNat p (b i) else (0 : Fin p)) = 0 := by
      by_cases c : i < m
      · rw [if_pos c]
        have h1 := tp_above B m i (by omega) c
        have h2 := hB i c
        rw [h2.1] at h1
        have : b i = 0 := by
          rcases Nat.eq_zero_or_pos (b i) with q | q
          · exact q
          · exact absurd h1 (nI_ne0 q (by omega))
        rw [this, en_0]
      · rw [if_neg c]
    rw [this]
    grind
  · obtain ⟨l, hl⟩ : ∃ l, tp B m = l + 1 := ⟨tp B m - 1, by omega⟩
    have hlm : l < m := by have := tp_le B m; omega
    have hBl := tp_top B m l hl
    have hbl : b l ≠ 0 := fun e => hBl (by rw [(hB l hlm).1, e]; rfl)
    have hlno : ∀ r, r < ct → ld r ≠ l := fun r hr e => hbl (by rw [← e]; exact hbz r hr (by omega))
    rw [hl, pn_pred_s]
    refine ⟨fun h => absurd h (pn_m1_ne l (by omega)), fun _ => ?_⟩
    have hcts : ct < sz := by
      have := pg_le sz (ct + 1) (fun j => if j < ct then ld j else l) (fun j hj => by
        by_cases c : j < ct
        · rw [if_pos c]; exact (hS.2.2.1 j c).2.1
        · rw [if_neg c]; omega) (fun i j hi hj e => by
        
        by_cases c1 : i < ct <;> by_cases c2 : j < ct
        · rw [if_pos c1, if_pos c2] at e; exact spOK_inj hS c1 c2 e
        · rw [if_pos c1, if_neg c2] at e; exact absurd e (hlno i c1)
        · rw [if_neg c1, if_pos c2] at e; exact absurd e.symm (hlno j c2)
        · omega)
      omega
    refine pk_lt ct 126 (fun _ => ?_) (fun h => by omega)
    refine ⟨pk_in l 126 (by omega), ?_⟩
    rw [nI_clamp (n := l) (by omega), (hB l hlm).1]
    refine s_inverse hp2 hpm (hB l hlm).2 ?_
    refine s_startOfLine (by omega) ?_
    obtain ⟨fac, hfac⟩ : ∃ fac, fac = b l ^ (p - 2) % p := ⟨_, rfl⟩
    rw [← hfac]
    have hfp : fac < p := by rw [hfac]; exact Nat.mod_lt _ (by omega)
    have hf1 : fac * b l % p = 1 := by
      have := fe_inv hp (a := b l) (fun ⟨q, hq⟩ => by
        have := (hB l hlm).2
        rcases Nat.eq_zero_or_pos q with z | z
        · rw [z] at hq; omega
        · have := Nat.mul_le_mul_left p z
          omega)
      rw [hfac, Nat.mul_comm, Nat.mul_mod, Nat.mod_mod, ← Nat.mul_mod]
      exact this
    -- the coefficients
    refine ⟨fun z C => ∃ k, k ≤ l + 1 ∧ z = nI k ∧ (∀ i, i < k → C (l * (l + 1) / 2 + i) = nI (fac * b i % p)) ∧ ∀ j, (j < l * (l + 1) / 2 ∨ l * (l + 1) / 2 + l < j) → C j = coef j, fun z _ => l + 1 - z.toNatClampNeg, ⟨0, by omega, rfl, fun i hi => absurd hi (Nat.not_lt_zero i), fun _ _ => rfl⟩, ?_⟩
    rintro z C ⟨k, hk, rfl, hC, hCo⟩
    refine pk_lt l k (fun hlk => ?_) (fun hkl => ?_)
    · obtain rfl : k = l + 1 := by omega
      refine ⟨pk_in ct 126 (by omega), ?_⟩
      rintro os1 rfl
      refine ⟨pk_in ct 126 (by omega), ?_⟩
      rintro ov1 rfl
      refine ⟨pk_in ct 126 (by omega), ?_⟩
      rintro of1 rfl
      rw [nI_clamp (n := ct) (by omega)]
      refine ⟨fun z D => ∃ k, k ≤ ct ∧ z = nI k ∧ (∀ e, e < k → D (ct * (ct + 1) / 2 + e) = nI (fac * ((p - t e) % p) % p)) ∧ ∀ j, j < ct * (ct + 1) / 2 → D j = on j, fun z _ => ct - z.toNatClampNeg, ⟨0, by omega, rfl, fun i hi => absurd hi (Nat.not_lt_zero i), fun _ _ => rfl⟩, ?_⟩
      rintro z D ⟨k, hk, rfl, hD, hDo⟩
      refine pk_le ct k (fun hlk => ?_) (fun hkl => ?_)
      · obtain rfl : k = ct := by omega
        refine ⟨pk_in k 126 (by omega), ?_⟩
        rintro ls1 rfl
        refine ⟨pk_in l 126 (by omega), ?_⟩
        rintro rl1 rfl
        rintro y1 rfl
        rw [nI_1]
        have hR : ∃ R' : Nat → Nat → Nat, (∀ r, r < k → R' r = R r) ∧ R' k = fun i => if i ≤ l then fac * b i % p else 0 := ⟨fun r => if r = k then (fun i => if i ≤ l then fac * b i % p else 0) else R r, fun r hr => by dsimp only; rw [if_neg (by omega)], by dsimp only; rw [if_pos rfl]⟩
        obtain ⟨R', hR1, hR2⟩ := hR
        have hL : ∃ ld' : Nat → Nat, (∀ r, r < k → ld' r = ld r) ∧ ld' k = l := ⟨fun r => if r = k then l else ld r, fun r hr => by dsimp only; rw [if_neg (by omega)], by dsimp only; rw [if_pos rfl]⟩
        obtain ⟨ld', hL1, hL2⟩ := hL
        have hrow : ∀ i, rv p R' k i = Fin.ofNat p fac * (if i < m then Fin.ofNat p (a i) else 0) + la_sm (fun e => Fin.ofNat p (fac * ((p - t e) % p) % p) * rv p R' e i) k := fun i => by
          rw [la_sm_congr (h := fun e => (- Fin.ofNat p fac) * (Fin.ofNat p (t e) * rv p R e i)) (fun e he => by
            show _ * Fin.ofNat p (R' e i) = _ * (_ * Fin.ofNat p (R e i))
            have := htk e (by omega)
            rw [hR1 e he, en_mod, en_mul, en_opp (by omega)]
            grind), la_sm_mul, hf i]
          have : rv p R' k i = Fin.ofNat p fac * (if i < m then Fin.ofNat p (b i) else 0) := by
            show Fin.ofNat p (R' k i) = _
            rw [hR2]
            dsimp only
            by_cases c : i ≤ l
            · rw [if_pos c, if_pos (by omega), en_mod, en_mul]
            · rw [if_neg c, en_0]
              by_cases c2 : i < m
              · rw [if_pos c2]
                have h1 := tp_above B m i (by omega) c2
                have h2 := hB i c2
                rw [h2.1] at h1
                have : b i = 0 := by
                  rcases Nat.eq_zero_or_pos (b i) with q | q
                  · exact q
                  · exact absurd h1 (nI_ne0 q (by omega))
                rw [this, en_0]; grind
              · rw [if_neg c2]; grind
          rw [this]
          grind
        have hrv : ∀ r, r < k → rv p R' r = rv p R r := fun r hr => by
          funext i
          show Fin.ofNat p (R' r i) = Fin.ofNat p (R r i)
          rw [hR1 r hr]
        refine hQ (k + 1) R' ld' C _ _ tk B _ _ _ D ⟨hsz, by omega, ?_, ?_, ?_, ?_⟩ ?_ (Nat.le_succ k) (fun r hr => ⟨hR1 r hr, hL1 r hr⟩) ?_ ?_
        · intro r hr
          by_cases e : r = k
          · subst e
            rw [pk_us, hL2, pk_us, hR2]
            refine ⟨rfl, by omega, rfl, ?_⟩
            dsimp only
            rw [if_pos (Nat.le_refl l)]; exact hf1
          · obtain ⟨g1, g2, g3, g4⟩ := hS.2.2.1 r (by omega)
            rw [pk_un e, hL1 r (by omega), hR1 r (by omega), pk_un (hlno r (by omega))]
            exact ⟨g1, g2, g3, g4⟩
        · intro i hi hn
          have e : i ≠ l := fun e => hn k (Nat.lt_succ_self k) (by rw [hL2, e])
          rw [pk_un e]
          exact hS.2.2.2.1 i hi (fun r hr => by rw [← hL1 r hr]; exact hn r (by omega))
        · intro r hr i hi
          by_cases e : r = k
          · subst e
            rw [hL2] at hi ⊢
            rw [hR2]
            dsimp only
            rw [if_pos hi]
            exact ⟨hC i (by omega), Nat.mod_lt _ (by omega)⟩
          · rw [hL1 r (by omega)] at hi ⊢
            rw [hR1 r (by omega)]
            have h1 := hS.2.2.2.2.1 r (by omega) i hi
            rw [hCo _ ?_]
            · exact h1
            · rcases Nat.lt_or_gt_of_ne (hlno r (by omega)) with q | q
              · have := tr_lt q; omega
              · have := tr_lt q; omega
        · intro r hr i hi
          by_cases e : r = k
          · subst e
            rw [hL2] at hi
            rw [hR2]
            dsimp only
            rw [if_neg (by omega)]
          · rw [hL1 r (by omega)] at hi
            rw [hR1 r (by omega)]
            exact hS.2.2.2.2.2 r (by omega) i hi
        · intro r hr
          by_cases e : r = k
          · subst e
            refine ⟨fac, fun e => fac * ((p - t e) % p) % p, _, pk_us, hfp, fun e he => ⟨hD e he, Nat.mod_lt _ (by omega)⟩, ?_, hrow⟩
            rw [pk_us, pk_us]
            exact hK r R R' ld ld' _ _ _ (fun q hq => ⟨hR1 q hq, hL1 q hq⟩) hx
          · obtain ⟨fc, num, s, g1, g2, g3, g4, g5⟩ := hO r (by omega)
            refine ⟨fc, num, s, by rw [pk_un e]; exact g1, g2, fun q hq => ?_, ?_, fun i => ?_⟩
            · rw [hDo _ (by have := tr_lt (show r < k by omega); omega)]; exact g3 q hq
            · rw [pk_un e, pk_un e]
              exact hK r R R' ld ld' _ _ _ (fun q hq => ⟨hR1 q (by omega), hL1 q (by omega)⟩) g4
            · rw [hrv r (by omega), g5 i]
              congr 1
              exact la_sm_congr (fun q hq => by rw [hrv q (by omega)])
        · refine ⟨fun r => if r = k then Fin.ofNat p (b l) else Fin.ofNat p (t r), fun i => ?_⟩
          rw [la_sm_s]; dsimp only; rw [if_pos rfl, la_sm_congr (h := fun r => Fin.ofNat p (t r) * rv p R r i) (fun r hr => by rw [if_neg (by omega), hrv r hr]), hf i]
          have hk := hrow i
          rw [la_sm_congr (h := fun e => (- Fin.ofNat p fac) * (Fin.ofNat p (t e) * rv p R e i)) (fun e he => by
            have := htk e (by omega)
            rw [hrv e he, en_mod, en_mul, en_opp (by omega)]
            grind), la_sm_mul, hf i] at hk
          rw [hk]
          have h1 : Fin.ofNat p fac * Fin.ofNat p (b l) = 1 := by rw [← en_mul, ← en_mod, hf1, en_1]
          generalize (if i < m then Fin.ofNat p (b i) else 0) = u
          generalize la_sm (fun r => Fin.ofNat p (t r) * rv p R r i) k = w
          grind
        · intro W hW hr hfW r hr2
          by_cases e : r = k
          · subst e
            have e2 : rv p R' r = fun i => Fin.ofNat p fac * (if i < m then Fin.ofNat p (a i) else 0) + la_sm (fun e => Fin.ofNat p (fac * ((p - t e) % p) % p) * rv p R' e i) r := funext hrow
            rw [e2]
            refine hW.2.1 _ _ (hW.2.2 _ _ hfW) (lsub_sm hW _ r (fun j hj => Or.inl ?_))
            rw [hrv j hj]; exact hr j hj
          · rw [hrv r (by omega)]; exact hr r (by omega)
      · have htp := htk k (by omega)
        refine ⟨pk_in k 126 (by omega), ?_⟩
        rw [nI_clamp (n := k) (by omega), htp.1]
        refine s_opposite hpm htp.2 ?_
        refine s_product (by omega) hpm hfp (Nat.mod_lt _ (by omega)) ?_
        refine s_startOfLine (by omega) ?_
        rw [nI_add]
        refine ⟨pk_in _ 8001 (tr_in (by omega) (by omega)), ?_⟩
        rintro D1 rfl
        rintro y1 rfl
        rw [nI_1, nI_clamp (n := ct * (ct + 1) / 2 + k) (by have := tr_in (show ct < 126 by omega) (show k ≤ ct by omega); omega)]
        refine ⟨⟨k + 1, by omega, rfl, fun e he => ?_, fun j hj => ?_⟩, ?_⟩
        · by_cases q : e = k
          · subst q; exact pk_us
          · rw [pk_un (by omega)]; exact hD e (by omega)
        · rw [pk_un (by omega)]; exact hDo j hj
        · dsimp only; rw [nI_clamp (n := k + 1) (by omega), nI_clamp (n := k) (by omega)]; omega
    · have hbk := hB k (by omega)
      refine ⟨pk_in k 126 (by omega), ?_⟩
      rw [nI_clamp (n := k) (by omega), hbk.1]
      refine s_product (by omega) hpm hfp hbk.2 ?_
      rw [nI_add]
      refine ⟨pk_in (l * (l + 1) / 2 + k) 8001 (tr_in (by omega) (by omega)), ?_⟩
      rintro C1 rfl
      rintro y1 rfl
      rw [nI_1, nI_clamp (n := l * (l + 1) / 2 + k) (by have := tr_in (show l < 126 by omega) hkl; omega)]
      refine ⟨⟨k + 1, by omega, rfl, fun e he => ?_, fun j hj => ?_⟩, ?_⟩
      · by_cases q : e = k
        · subst q; exact pk_us
        · rw [pk_un (by omega)]; exact hC e (by omega)
      · rw [pk_un (by omega)]; exact hCo j hj
      · dsimp only; rw [nI_clamp (n := k + 1) (by omega), nI_clamp (n := k) (by omega)]; omega
