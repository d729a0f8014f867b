/-! PURE: span -/
def geOK (p N gc : Nat) (G : Nat → Nat → Nat) (tg : Nat → Nat) (polys : Nat → Nat → Int32) (tops : Nat → Int32) : Prop :=
  gc ≤ 8 ∧ ∀ g, g < gc → tops g = nI (tg g) ∧ tg g < N ∧ (∀ i, i < 126 → polys g i = nI (G g i) ∧ G g i < p) ∧ (∀ i, tg g < i → G g i = 0) ∧ ¬ G g (tg g) = 0
theorem sp_mono {p ct ct2 : Nat} [NeZero p] {R R2 : Nat → Nat → Nat} {ld ld2 : Nat → Nat} (hle : ct ≤ ct2) (hext : ∀ r, r < ct → R2 r = R r ∧ ld2 r = ld r) {f : Nat → Fin p} (hf : la_in ct (rv p R) f) : la_in ct2 (rv p R2) f :=
  la_in_mono hf (fun j hj => by rw [← rv_eq (hext j hj).1]; exact la_in_row (by omega))
set_option maxHeartbeats 2000000 in
theorem s_span {p n o H N d gc : Nat} [NeZero p] {cd dg fd : Nat → Nat} {pm dv : Nat → Nat → Nat} (T : Tb n o H N cd dg fd pm dv) {codes degs first prods : Nat → Int32} (hM : mnOK n H N cd dg fd pm codes degs first prods) {G : Nat → Nat → Nat} {tg : Nat → Nat} {polys : Nat → Nat → Int32} {tops : Nat → Int32}
    {coef leads rol taken work os ov ofc on : Nat → Int32} {mo mh mc s1 s2 s3 : Int32} (hp : fe_P p) (hpm : p ≤ 32003) (hd : d ≤ H) (hG : geOK p N gc G tg polys tops)
    {Q : Int32 → Int32 → Int32 → (Nat → Int32) → (Nat → Int32) → (Nat → Int32) → (Nat → Int32) → (Nat → Int32) → (Nat → Int32) → (Nat → Int32) → (Nat → Int32) → (Nat → Int32) → Prop}
    (hQ : ∀ (ct : Nat) (R : Nat → Nat → Nat) (ld : Nat → Nat) (coef' leads' rol' taken' work' os' ov' ofc' on' : Nat → Int32), spOK p (fd (d + 1)) ct coef' leads' rol' R ld → ogOK p (srcK p n N d (fd (d + 1)) gc cd dg dv G tg) ct R ld os' ov' ofc' on' →
      clW n (fd d) N cd dv (fun g => g < gc ∧ tg g < fd (d + 1)) (rv p G) (la_in ct (rv p R)) → (∀ W, clW n (fd d) N cd dv (fun g => g < gc ∧ tg g < fd (d + 1)) (rv p G) W → ∀ r, r < ct → W (rv p R r)) → Q (nI d) (nI (fd (d + 1))) (nI ct) coef' leads' rol' taken' work' os' ov' ofc' on') :
    vc_sp_span (nI p) (nI n) mo mh mc degs first prods (nI gc) polys tops s1 s2 s3 coef leads rol taken work os ov ofc on (nI d) Q := by
  have hN := T.N126
  have hn := T.n4
  have hH := T.H30
  have hp2 := hp.1
  obtain ⟨sz, hsz⟩ : ∃ sz, sz = fd (d + 1) := ⟨_, rfl⟩
  have hszN : sz ≤ N := by rw [hsz]; exact T.fdN _ (by omega)
  have hgc := hG.1
  unfold vc_sp_span
  rw [nI_1]
  refine ⟨pk_in (d + 1) 32 (by omega), ?_⟩
  rintro y rfl
  rw [nI_clamp (n := d + 1) (by omega), hM.2.2.1 (d + 1) (by omega)]
  rw [← hsz] at hQ ⊢
  refine s_fill (by decide) _ _ (fun rol0 hrol0 _ => ?_)
  refine ⟨fun x cn C L RL TK WK OS OV OF ON => ∃ (k ct : Nat) (R : Nat → Nat → Nat) (ld : Nat → Nat), k ≤ gc ∧ x = nI k ∧ cn = nI ct ∧ spOK p sz ct C L RL R ld ∧ ogOK p (srcK p n N d sz gc cd dg dv G tg) ct R ld OS OV OF ON ∧
      (∀ g, g < k → tg g < sz → la_in ct (rv p R) (rv p G g)) ∧ (∀ W, clW n (fd d) N cd dv (fun g => g < gc ∧ tg g < sz) (rv p G) W → ∀ r, r < ct → W (rv p R r)), fun x _ _ _ _ _ _ _ _ _ _ => 10 - x.toNatClampNeg,
    ⟨0, 0, fun _ _ => 0, fun _ => 0, Nat.zero_le _, rfl, rfl, ⟨by omega, by omega, fun r hr => absurd hr (Nat.not_lt_zero r), fun i hi _ => hrol0 i hi, fun r hr => absurd hr (Nat.not_lt_zero r), fun r hr => absurd hr (Nat.not_lt_zero r)⟩, fun r hr => absurd hr (Nat.not_lt_zero r), fun g hg => absurd hg (Nat.not_lt_zero g), fun W _ r hr => absurd hr (Nat.not_lt_zero r)⟩, ?_⟩
  rintro x cn C L RL TK WK OS OV OF ON ⟨k, ct, R, ld, hk, rfl, rfl, hS, hO, hin, hW⟩
  refine pk_le gc k (fun h => ?_) (fun h => ?_)
  · obtain rfl : k = gc := by omega
    refine ⟨fun x cn C L RL TK WK OS OV OF ON => ∃ (j ct : Nat) (R : Nat → Nat → Nat) (ld : Nat → Nat), j ≤ ct ∧ x = nI j ∧ cn = nI ct ∧ spOK p sz ct C L RL R ld ∧ ogOK p (srcK p n N d sz k cd dg dv G tg) ct R ld OS OV OF ON ∧
      (∀ g, g < k → tg g < sz → la_in ct (rv p R) (rv p G g)) ∧ (∀ W, clW n (fd d) N cd dv (fun g => g < k ∧ tg g < sz) (rv p G) W → ∀ r, r < ct → W (rv p R r)) ∧ (∀ r, r < j → dg (ld r) < d → ∀ v, v < n → la_in ct (rv p R) (mv N cd dv v (rv p R r))), fun x _ _ _ _ _ _ _ _ _ _ => 200 - x.toNatClampNeg,
      ⟨0, ct, R, ld, Nat.zero_le _, rfl, rfl, hS, hO, hin, hW, fun r hr => absurd hr (Nat.not_lt_zero r)⟩, ?_⟩
    clear hS hO hin hW C L RL TK WK OS OV OF ON
    rintro x cn C L RL TK WK OS OV OF ON ⟨j, ct, R, ld, hj, rfl, rfl, hS, hO, hin, hW, hpr⟩
    have hct := hS.2.1
    have fin : j = ct → Q (nI d) (nI sz) (nI ct) C L RL TK WK OS OV OF ON := fun e => by
      subst e
      refine hQ j R ld C L RL TK WK OS OV OF ON hS hO ⟨lsub_of_in _ _, fun g hg => hin g hg.1 hg.2, cl_rows (sp_ech hS) (fun r hr hl v hv => hpr r hr ?_ v hv)⟩ hW
      have hls := (hS.2.2.1 r hr).2.1
      exact (T.fdl (ld r) d (by omega) (by omega)).mp hl
    refine pk_le ct j (fun h2 => fin (by omega)) (fun h2 => ?_)
    refine pk_le 126 j (fun h3 => by omega) (fun h3 => ?_)
    refine s_takeInProducts T hM hp hpm hd hsz hS hO h2 ?_
    rintro ct2 R2 ld2 C2 L2 RL2 TK2 WK2 OS2 OV2 OF2 ON2 hS2 hO2 hle2 hext2 hin2 hW2 y rfl
    rw [nI_1]
    refine ⟨⟨j + 1, ct2, R2, ld2, by omega, rfl, rfl, hS2, hO2, fun g hg ht => sp_mono hle2 hext2 (hin g hg ht), fun W hWc => hW2 W hWc.1 (fun hdl v hv => hWc.2.2 v hv _ (hW W hWc j h2) (fun i hi => ?_)) (hW W hWc), fun r hr hdr v hv => ?_⟩, ?_⟩
    · have hls := (hS.2.2.1 j h2).2.1
      have := (T.fdl (ld j) d (by omega) (by omega)).mpr hdl
      show Fin.ofNat p (R j i) = 0
      rw [hS.2.2.2.2.2 j h2 i (by omega), en_0]
    · have e := hext2 r (by omega)
      rw [rv_eq e.1]
      rw [e.2] at hdr
      by_cases q : r = j
      · subst q; exact hin2 hdr v hv
      · exact sp_mono hle2 hext2 (hpr r (by omega) hdr v hv)
    · try dsimp only
      rw [nI_clamp (n := j + 1) (by omega), nI_clamp (n := j) (by omega)]; omega
  · obtain ⟨g1, g2, g3, g4, g5⟩ := hG.2 k h
    refine ⟨pk_in k 8 (by omega), ?_⟩
    rintro y rfl
    rw [nI_clamp (n := k) (by omega), g1]
    refine pk_le sz (tg k) (fun h2 => ?_) (fun h2 => ?_)
    · rintro y rfl
      rw [nI_1]
      refine ⟨⟨k + 1, ct, R, ld, by omega, rfl, rfl, hS, hO, fun g hg ht => ?_, hW⟩, ?_⟩
      · by_cases e : g = k
        · subst e; omega
        · exact hin g (by omega) ht
      · try dsimp only
        rw [nI_clamp (n := k + 1) (by omega), nI_clamp (n := k) (by omega)]; omega
    · refine ⟨pk_in k 8 (by omega), by decide, by decide, nI_pos (by omega), ?_⟩
      rw [nI_clamp (n := sz) (by omega)]
      refine ⟨by show 0 + sz ≤ 126; omega, by show 0 + sz ≤ 126; omega, ?_⟩
      rintro w0 rfl
      have hfv : (fun i => if i < tg k + 1 then Fin.ofNat p (G k i) else 0) = rv p G k := by
        funext i
        by_cases c : i < tg k + 1
        · rw [if_pos c]; rfl
        · rw [if_neg c]
          show 0 = Fin.ofNat p (G k i)
          rw [g4 i (by omega), en_0]
      rw [show nI (tg k) = nI (tg k + 1) - 1 from (pn_pred_s _).symm]
      refine s_takeIn (K := srcK p n N d sz gc cd dg dv G tg) srcK_c hp hpm hS hO (m := tg k + 1) (by omega) (a := G k) (fun i hi => ?_) ?_ ?_
      · have := g3 i (by omega)
        show va_cpy (polys k) WK 0 0 sz i = _ ∧ _
        rw [pk_cpy_in (Nat.zero_le i) (by omega)]
        rw [Nat.sub_zero, Nat.zero_add]
        exact this
      · rw [hfv]
        exact Or.inl ⟨rfl, k, h, rfl, h2, rfl⟩
      · rw [hfv]
        rintro ct2 R2 ld2 C2 L2 RL2 TK2 WK2 OS2 OV2 OF2 ON2 hS2 hO2 hle2 hext2 hin2 hW2 y rfl
        rw [nI_1]
        refine ⟨⟨k + 1, ct2, R2, ld2, by omega, rfl, rfl, hS2, hO2, fun g hg ht => ?_, fun W hWc => hW2 W hWc.1 (hW W hWc) (hWc.2.1 k ⟨h, h2⟩)⟩, ?_⟩
        · by_cases e : g = k
          · subst e; exact hin2
          · exact sp_mono hle2 hext2 (hin g (by omega) ht)
        · try dsimp only
          rw [nI_clamp (n := k + 1) (by omega), nI_clamp (n := k) (by omega)]; omega
