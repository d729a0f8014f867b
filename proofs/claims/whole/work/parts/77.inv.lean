/-! PURE: what holds between two calls, and the questions -/
def iF (p n o H : Nat) (P : List (Nat × Nat)) (mo_prime mn_variables mn_order mn_highest mn_count : Int32) (codes degs first prods : Nat → Int32) (md_p md_n md_order md_monomials : Int32) (mono dga : Nat → Int32) : Prop :=
  fe_P p ∧ p ≤ 32003 ∧ Cfg n o H P ∧ mo_prime = nI p ∧ mn_variables = nI n ∧ mn_order = nI o ∧ mn_highest = nI H ∧ mn_count = nI P.length ∧ mnOK n H P.length (tcd P) (tdg P) (tfd P) (tpm P) codes degs first prods ∧
  md_p = nI p ∧ md_n = nI n ∧ md_order = nI o ∧ md_monomials = nI P.length ∧ (∀ i, i < P.length → mono i = nI (tcd P i)) ∧ ∀ i, i < P.length → dga i = nI (tdg P i)
def iH (p N : Nat) (h : Nat → Nat) (A B : Nat → Int32) : Prop := (∀ i, i < 126 → A i = nI (h i) ∧ h i < p) ∧ (∀ i, N ≤ i → h i = 0) ∧ ∀ i, i < N → B i = nI (h i)
def iG (p N gc : Nat) (G : Nat → Nat → Nat) (tg : Nat → Nat) (ge_count : Int32) (polys : Nat → Nat → Int32) (tops : Nat → Int32) (md_generators : Int32) (gen : Nat → Int32) : Prop := ge_count = nI gc ∧ md_generators = nI gc ∧ geOK p N gc G tg polys tops ∧ mgOK p N gc G tg gen
def clFd (p : Nat) [NeZero p] (n gc d : Nat) (P : List (Nat × Nat)) (G : Nat → Nat → Nat) (tg : Nat → Nat) (ct : Nat) (R : Nat → Nat → Nat) (ld : Nat → Nat) (hs : Nat → Bool) (coef leads rol os ov ofc on mcoef mleads : Nat → Int32) (complete : Int32) : Prop :=
  spOK p (tfd P (d + 1)) ct coef leads rol R ld ∧ ogOK p (srcK p n P.length d (tfd P (d + 1)) gc (tcd P) (tdg P) (tdv P) G tg) ct R ld os ov ofc on ∧
  clW n (tfd P d) P.length (tcd P) (tdv P) (fun g => g < gc ∧ tg g < tfd P (d + 1)) (rv p G) (la_in ct (rv p R)) ∧ (∀ W, clW n (tfd P d) P.length (tcd P) (tdv P) (fun g => g < gc ∧ tg g < tfd P (d + 1)) (rv p G) W → ∀ r, r < ct → W (rv p R r)) ∧
  ldB ct ld hs ∧ aN mleads (mnF (mnB n (tcd P) (tdv P) hs) (tfd P (d + 1))) ∧ meOK p (la_in ct (rv p R)) hs (mnB n (tcd P) (tdv P) hs) (tfd P (d + 1)) mcoef ∧
  ((complete = 1 ∧ (∀ g, g < gc → tg g < tfd P (d + 1)) ∧ pairsOK d (tcd P) (tdg P) (mnF (mnB n (tcd P) (tdv P) hs) (tfd P (d + 1)))) ∨ (complete = 0 ∧ ¬ ((∀ g, g < gc → tg g < tfd P (d + 1)) ∧ pairsOK d (tcd P) (tdg P) (mnF (mnB n (tcd P) (tdv P) hs) (tfd P (d + 1))))))
def mdFd (p : Nat) [NeZero p] (n d : Nat) (P : List (Nat × Nat)) (ct : Nat) (R : Nat → Nat → Nat) (hs : Nat → Bool) (M : Nat → Nat → Nat) (has row basis : Nat → Int32) : Prop :=
  mdR p P.length hs M has row ∧ (∀ i, hs i = true → RedRow p (la_in ct (rv p R)) hs i (M i)) ∧ hsC n P.length d (tdg P) (tpm P) hs ∧ aN basis (mnF (mnB n (tcd P) (tdv P) hs) (tfd P (d + 1)))
def iB (p : Nat) [NeZero p] (n H gc : Nat) (P : List (Nat × Nat)) (G : Nat → Nat → Nat) (tg : Nat → Nat) (sp_degree sp_size sp_count : Int32) (coef leads rol os ov ofc on : Nat → Int32) (me_count me_complete : Int32) (mcoef mleads : Nat → Int32) (md_found md_upTo md_members : Int32) (has row basis : Nat → Int32) : Prop :=
  (sp_degree = -1 ∧ md_found = 0) ∨ ∃ (d ct : Nat) (R : Nat → Nat → Nat) (ld : Nat → Nat) (hs : Nat → Bool) (M : Nat → Nat → Nat), d ≤ H ∧ sp_degree = nI d ∧ sp_size = nI (tfd P (d + 1)) ∧ sp_count = nI ct ∧ me_count = nI (mnF (mnB n (tcd P) (tdv P) hs) (tfd P (d + 1))).length ∧ md_found = 1 ∧ md_upTo = nI d ∧ md_members = nI (mnF (mnB n (tcd P) (tdv P) hs) (tfd P (d + 1))).length ∧
    clFd p n gc d P G tg ct R ld hs coef leads rol os ov ofc on mcoef mleads me_complete ∧ mdFd p n d P ct R hs M has row basis
theorem Cfg.T {n o H : Nat} {P : List (Nat × Nat)} (h : Cfg n o H P) : Tb n o H P.length (tcd P) (tdg P) (tfd P) (tpm P) (tdv P) := h.1
theorem q_place {n o H N : Nat} {cd dg fd : Nat → Nat} {pm dv : Nat → Nat → Nat} (T : Tb n o H N cd dg fd pm dv) {codes first mono : Nat → Int32} (hc : ∀ i, i < N → codes i = nI (cd i)) (hf : ∀ d, d ≤ H + 1 → first d = nI (fd d)) (hm : ∀ i, i < N → mono i = nI (cd i)) (e : Int32) :
    (∃ j, j < N ∧ (∀ (a b : Int32) (Q : Int32 → Prop), Q (nI j) → vc_mn_placeOf (nI n) a (nI H) b codes first e Q) ∧ ∀ (c0 c1 c2 c3 c5 c6 c7 c8 c9 : Int32) (Q : Int32 → Prop), Q (nI j) → vc_md_placeOf c0 c1 c2 c3 (nI N) c5 c6 c7 c8 c9 mono e Q) ∨
    ((∀ (a b : Int32) (Q : Int32 → Prop), Q (-1) → vc_mn_placeOf (nI n) a (nI H) b codes first e Q) ∧ ∀ (c0 c1 c2 c3 c5 c6 c7 c8 c9 : Int32) (Q : Int32 → Prop), Q (-1) → vc_md_placeOf c0 c1 c2 c3 (nI N) c5 c6 c7 c8 c9 mono e Q) := by
  by_cases h : ∃ j, j < N ∧ nI (cd j) = e
  · obtain ⟨j, hj, rfl⟩ := h
    have hu : ∀ k, k < N → nI (cd k) = nI (cd j) → k = j := fun k hk q => T.cdinj k j hk hj ((nI_eq (T.cdlt k hk) (T.cdlt j hj)).mp q)
    refine Or.inl ⟨j, hj, fun a b Q hQ => s_placeOf T hc hf (fun k hk q => by rw [hu k hk q]; exact hQ) (fun q => absurd rfl (q j hj)), fun c0 c1 c2 c3 c5 c6 c7 c8 c9 Q hQ => s_md_placeOf T.N126 hm (fun k hk q => by rw [hu k hk q]; exact hQ) (fun q => absurd rfl (q j hj))⟩
  · exact Or.inr ⟨fun a b Q hQ => s_placeOf T hc hf (fun k hk q => absurd ⟨k, hk, q⟩ h) (fun _ => hQ), fun c0 c1 c2 c3 c5 c6 c7 c8 c9 Q hQ => s_md_placeOf T.N126 hm (fun k hk q => absurd ⟨k, hk, q⟩ h) (fun _ => hQ)⟩
theorem q_hand {p n o H : Nat} {P : List (Nat × Nat)} {h : Nat → Nat} {mo_prime mn_variables mn_order mn_highest mn_count : Int32} {codes degs first prods : Nat → Int32} {md_p md_n md_order md_monomials : Int32} {mono dga : Nat → Int32} {A B : Nat → Int32} (hF : iF p n o H P mo_prime mn_variables mn_order mn_highest mn_count codes degs first prods md_p md_n md_order md_monomials mono dga) (hH : iH p P.length h A B) (x : Int32) : ∃ r : Int32, (∀ (a : Int32) (Q : Int32 → Prop), Q r → vc_x_hand a A mn_variables mn_order mn_highest mn_count codes first x Q) ∧ ∀ (c0 c5 c6 c7 c8 c9 : Int32) (Q : Int32 → Int32 → Prop), Q r 0 → vc_md_hand c0 md_p md_n md_order md_monomials c5 c6 c7 c8 c9 mono B x Q := by
  obtain ⟨hp, hpm, hC, rfl, rfl, rfl, rfl, rfl, hM, rfl, rfl, rfl, rfl, hm, hdg⟩ := hF
  have hN := hC.T.N126
  rcases q_place hC.T hM.1 hM.2.2.1 hm x with ⟨j, hj, q1, q2⟩ | ⟨q1, q2⟩
  · refine ⟨nI (h j), fun a Q hQ => q1 _ _ _ ⟨fun _ => ⟨pk_in j 126 (by omega), ?_⟩, fun q => absurd q (pn_m1_ne j (by omega))⟩, fun c0 c5 c6 c7 c8 c9 Q hQ => q2 _ _ _ _ _ _ _ _ _ _ ⟨fun _ => ⟨pk_in j 126 (by omega), ?_⟩, fun q => absurd (nI_pos' (by omega)) q⟩⟩
    · rw [nI_clamp (n := j) (by omega), (hH.1 j (by omega)).1]; exact hQ
    · rw [nI_clamp (n := j) (by omega), hH.2.2 j hj]; exact hQ
  · exact ⟨0, fun a Q hQ => q1 _ _ _ ⟨fun q => absurd rfl q, fun _ => hQ⟩, fun c0 c5 c6 c7 c8 c9 Q hQ => q2 _ _ _ _ _ _ _ _ _ _ ⟨fun q => absurd q (by decide), fun _ => hQ⟩⟩
theorem q_lead {p n o H gc : Nat} [NeZero p] {P : List (Nat × Nat)} {G : Nat → Nat → Nat} {tg : Nat → Nat} {mo_prime mn_variables mn_order mn_highest mn_count : Int32} {codes degs first prods : Nat → Int32} {md_p md_n md_order md_monomials : Int32} {mono dga : Nat → Int32} {sp_degree sp_size sp_count : Int32} {coef leads rol os ov ofc on : Nat → Int32} {me_count me_complete : Int32} {mcoef mleads : Nat → Int32} {md_found md_upTo md_members : Int32} {has row basis : Nat → Int32} (hF : iF p n o H P mo_prime mn_variables mn_order mn_highest mn_count codes degs first prods md_p md_n md_order md_monomials mono dga) (hB : iB p n H gc P G tg sp_degree sp_size sp_count coef leads rol os ov ofc on me_count me_complete mcoef mleads md_found md_upTo md_members has row basis) (x : Int32) : ∃ r : Int32, (∀ (a : Int32) (Q : Int32 → Prop), Q r → vc_x_lead a mn_variables mn_order mn_highest mn_count codes sp_degree sp_size sp_count me_count me_complete mleads x Q) ∧ ∀ (c0 c5 c9 : Int32) (Q : Int32 → Int32 → Prop), Q r 0 → vc_md_lead c0 md_p md_n md_order md_monomials c5 md_found md_upTo md_members c9 mono basis x Q := by
  obtain ⟨hp, hpm, hC, rfl, rfl, rfl, rfl, rfl, hM, rfl, rfl, rfl, rfl, hm, hdg⟩ := hF
  have hN := hC.T.N126
  have hH30 := hC.T.H30
  rcases hB with ⟨rfl, rfl⟩ | ⟨d, ct, R, ld, hs, M, hd, rfl, rfl, rfl, rfl, rfl, rfl, rfl, ⟨hS, hO, hcl, hmin, hld, haL, hmo, hcp⟩, hR, hred, hsc, hba⟩
  · exact ⟨-1, fun a Q hQ => ⟨fun _ => ⟨fun _ => hQ, fun q => absurd rfl q⟩, fun q => absurd rfl q⟩, fun c0 c5 c9 Q hQ => ⟨fun _ => hQ, fun q => absurd rfl q⟩⟩
  · have hsz := hC.T.fdN (d + 1) (by omega)
    generalize eL : mnF (mnB n (tcd P) (tdv P) hs) (tfd P (d + 1)) = L at *
    have hl : L.length ≤ tfd P (d + 1) := by rw [← eL]; exact mnF_len _ _
    have hLN : ∀ i y : Nat, L[i]? = some y → y < P.length := fun i y hy => by rw [← eL] at hy; have := (mnF_mem hy).1; omega
    have hne : ¬ nI d = -1 := pn_m1_ne d (by omega)
    rcases pk_ix x (n := L.length) (by omega) with hx | hx | ⟨k, hk, rfl⟩
    · exact ⟨-1, fun a Q hQ => ⟨fun q => absurd q hne, fun _ => ⟨fun _ => ⟨fun _ => hQ, fun q => absurd rfl q⟩, fun q => absurd hx q⟩⟩, fun c0 c5 c9 Q hQ => ⟨fun q => absurd q (by decide), fun _ => ⟨fun _ => hQ, fun q => absurd hx q⟩⟩⟩
    · have hx0 : ¬ x < 0 := fun q => by
        rw [Int32.lt_iff_toInt_lt, show (0 : Int32).toInt = 0 from by decide] at q
        rw [Int32.le_iff_toInt_le, nI_toInt (by omega)] at hx
        omega
      have hx1 : ¬ x < nI L.length := fun q => by
        rw [Int32.lt_iff_toInt_lt] at q
        rw [Int32.le_iff_toInt_le] at hx
        omega
      exact ⟨-1, fun a Q hQ => ⟨fun q => absurd q hne, fun _ => ⟨fun q => absurd q hx0, fun _ => ⟨fun _ => ⟨fun _ => hQ, fun q => absurd rfl q⟩, fun q => absurd hx q⟩⟩⟩, fun c0 c5 c9 Q hQ => ⟨fun q => absurd q (by decide), fun _ => ⟨fun q => absurd q hx0, fun _ => ⟨fun q => absurd q hx1, fun _ => hQ⟩⟩⟩⟩
    · obtain ⟨y, hy, hya⟩ := aN_get haL hk
      have hyb := hba k y hy
      have hyN := hLN k y hy
      refine ⟨nI (tcd P y), fun a Q hQ => ⟨fun q => absurd q hne, fun _ => ⟨fun q => absurd q (nI_pos (by omega)), fun _ => pk_le L.length k (fun q => by omega) (fun _ => ⟨fun q => absurd q (by decide), fun _ => ⟨pk_in k 126 (by omega), ?_⟩⟩)⟩⟩, fun c0 c5 c9 Q hQ => ⟨fun q => absurd q (by decide), fun _ => ⟨fun q => absurd q (nI_pos (by omega)), fun _ => pk_lt k L.length (fun _ => ⟨pk_in k 126 (by omega), ?_⟩) (fun q => by omega)⟩⟩⟩
      · rw [nI_clamp (n := k) (by omega), hya, nI_clamp (n := y) (by omega), hM.1 y hyN]
        exact ⟨pk_in y 126 (by omega), hQ⟩
      · rw [nI_clamp (n := k) (by omega), hyb, nI_clamp (n := y) (by omega), hm y hyN]
        exact ⟨pk_in y 126 (by omega), hQ⟩
theorem q_member {p n o H gc : Nat} [NeZero p] {P : List (Nat × Nat)} {G : Nat → Nat → Nat} {tg : Nat → Nat} {mo_prime mn_variables mn_order mn_highest mn_count : Int32} {codes degs first prods : Nat → Int32} {md_p md_n md_order md_monomials : Int32} {mono dga : Nat → Int32} {sp_degree sp_size sp_count : Int32} {coef leads rol os ov ofc on : Nat → Int32} {me_count me_complete : Int32} {mcoef mleads : Nat → Int32} {md_found md_upTo md_members : Int32} {has row basis : Nat → Int32} (hF : iF p n o H P mo_prime mn_variables mn_order mn_highest mn_count codes degs first prods md_p md_n md_order md_monomials mono dga) (hB : iB p n H gc P G tg sp_degree sp_size sp_count coef leads rol os ov ofc on me_count me_complete mcoef mleads md_found md_upTo md_members has row basis) (x e : Int32) : ∃ r : Int32, (∀ (a : Int32) (Q : Int32 → Prop), Q r → vc_x_member a mn_variables mn_order mn_highest mn_count codes first sp_degree sp_size sp_count me_count me_complete mcoef mleads x e Q) ∧ ∀ (c0 c5 c9 : Int32) (Q : Int32 → Int32 → Prop), Q r 0 → vc_md_member c0 md_p md_n md_order md_monomials c5 md_found md_upTo md_members c9 mono row basis x e Q := by
  obtain ⟨hp, hpm, hC, rfl, rfl, rfl, rfl, rfl, hM, rfl, rfl, rfl, rfl, hm, hdg⟩ := hF
  have hN := hC.T.N126
  have hH30 := hC.T.H30
  have hpl : ∃ y : Int32, ((∃ j, j < P.length ∧ y = nI j) ∨ y = -1) ∧ (∀ (a b : Int32) (Q : Int32 → Prop), Q y → vc_mn_placeOf (nI n) a (nI H) b codes first e Q) ∧ ∀ (c0 c1 c2 c3 c5 c6 c7 c8 c9 : Int32) (Q : Int32 → Prop), Q y → vc_md_placeOf c0 c1 c2 c3 (nI P.length) c5 c6 c7 c8 c9 mono e Q := by
    rcases q_place hC.T hM.1 hM.2.2.1 hm e with ⟨j, hj, q1, q2⟩ | ⟨q1, q2⟩
    · exact ⟨nI j, Or.inl ⟨j, hj, rfl⟩, q1, q2⟩
    · exact ⟨-1, Or.inr rfl, q1, q2⟩
  obtain ⟨y, hy, p1, p2⟩ := hpl
  rcases hB with ⟨rfl, rfl⟩ | ⟨d, ct, R, ld, hs, M, hd, rfl, rfl, rfl, rfl, rfl, rfl, rfl, ⟨hS, hO, hcl, hmin, hld, haL, hmo, hcp⟩, hR, hred, hsc, hba⟩
  · exact ⟨0, fun a Q hQ => ⟨fun _ => ⟨fun _ => hQ, fun q => absurd rfl q⟩, fun q => absurd rfl q⟩, fun c0 c5 c9 Q hQ => p2 _ _ _ _ _ _ _ _ _ _ ⟨fun _ => hQ, fun q => absurd rfl q⟩⟩
  · have hsz := hC.T.fdN (d + 1) (by omega)
    generalize eL : mnF (mnB n (tcd P) (tdv P) hs) (tfd P (d + 1)) = L at *
    have hl : L.length ≤ tfd P (d + 1) := by rw [← eL]; exact mnF_len _ _
    have hLN : ∀ i y : Nat, L[i]? = some y → y < tfd P (d + 1) ∧ mnB n (tcd P) (tdv P) hs y = true := fun i y hy => by rw [← eL] at hy; exact mnF_mem hy
    have hne : ¬ nI d = -1 := pn_m1_ne d (by omega)
    rcases pk_ix x (n := L.length) (by omega) with hx | hx | ⟨k, hk, rfl⟩
    · exact ⟨0, fun a Q hQ => ⟨fun q => absurd q hne, fun _ => ⟨fun _ => ⟨fun _ => hQ, fun q => absurd rfl q⟩, fun q => absurd hx q⟩⟩, fun c0 c5 c9 Q hQ => p2 _ _ _ _ _ _ _ _ _ _ ⟨fun q => absurd q (by decide), fun _ => ⟨fun _ => hQ, fun q => absurd hx q⟩⟩⟩
    · have hx0 : ¬ x < 0 := fun q => by
        rw [Int32.lt_iff_toInt_lt, show (0 : Int32).toInt = 0 from by decide] at q
        rw [Int32.le_iff_toInt_le, nI_toInt (by omega)] at hx
        omega
      exact ⟨0, fun a Q hQ => ⟨fun q => absurd q hne, fun _ => ⟨fun q => absurd q hx0, fun _ => ⟨fun _ => ⟨fun _ => hQ, fun q => absurd rfl q⟩, fun q => absurd hx q⟩⟩⟩, fun c0 c5 c9 Q hQ => p2 _ _ _ _ _ _ _ _ _ _ ⟨fun q => absurd q (by decide), fun _ => ⟨fun q => absurd q hx0, fun _ => ⟨fun _ => hQ, fun q => absurd hx q⟩⟩⟩⟩
    · obtain ⟨z, hz, hza⟩ := aN_get haL hk
      have hzb := hba k z hz
      obtain ⟨hzs, hzm⟩ := hLN k z hz
      obtain ⟨w, hw, hwc⟩ := hmo z hzs hzm
      have hzh : hs z = true := (mnB_iff.mp hzm).1
      have htop : ∀ f, la_in ct (rv p R) f → (∀ i, f i = 0) ∨ ∃ j, hs j = true ∧ ¬ f j = 0 ∧ ∀ i, j < i → f i = 0 := fun f hf => by
        rcases la_top (sp_ech hS) hf with q | ⟨r, hr, h1, h2⟩
        · exact Or.inl q
        · exact Or.inr ⟨ld r, (hld (ld r)).mpr ⟨r, hr, rfl⟩, h1, h2⟩
      have hMw : ∀ q, w q = M z q := red_uniq (lsub_of_in ct (rv p R)) htop hw (hred z hzh)
      refine ⟨if y < 0 then 0 else if y ≤ nI z then nI (M z y.toNatClampNeg) else 0, fun a Q hQ => ⟨fun q => absurd q hne, fun _ => ⟨fun q => absurd q (nI_pos (by omega)), fun _ => pk_le L.length k (fun q => by omega) (fun _ => ⟨fun q => absurd q (by decide), fun _ => p1 _ _ _ ⟨pk_in k 126 (by omega), ?_⟩⟩)⟩⟩, fun c0 c5 c9 Q hQ => p2 _ _ _ _ _ _ _ _ _ _ ⟨fun q => absurd q (by decide), fun _ => ⟨fun q => absurd q (nI_pos (by omega)), fun _ => pk_le L.length k (fun q => by omega) (fun _ => ⟨fun hy0 => ?_, fun hy0 => ⟨pk_in k 126 (by omega), ?_⟩⟩)⟩⟩⟩
      · rintro u rfl
        rw [nI_clamp (n := k) (by omega), hza]
        refine ⟨fun hy0 => ?_, fun hy0 => ⟨fun hyz => ?_, fun hyz => ?_⟩⟩
        · rw [if_pos hy0] at hQ; exact hQ
        · rw [if_neg hy0, if_pos hyz] at hQ
          rcases hy with ⟨j, hj, rfl⟩ | rfl
          · have hjz : j ≤ z := (nI_leI (by omega) (by omega)).mp hyz
            rw [nI_clamp (n := j) (by omega)] at hQ
            refine s_startOfLine (by omega) ?_
            have hin := tr_in (a := z) (i := j) (by omega) hjz
            rw [nI_add]
            refine ⟨pk_in _ 8001 hin, ?_⟩
            rw [nI_clamp (n := z * (z + 1) / 2 + j) (by omega), hwc j hjz, hMw j]
            exact hQ
          · exact absurd (by decide) hy0
        · rw [if_neg hy0, if_neg hyz] at hQ; exact hQ
      · rw [if_pos hy0] at hQ; exact hQ
      · rw [nI_clamp (n := k) (by omega), hzb]
        refine ⟨fun hyz => ⟨pk_in k 126 (by omega), ?_⟩, fun hyz => ?_⟩
        · rw [if_neg hy0, if_pos hyz] at hQ
          rcases hy with ⟨j, hj, rfl⟩ | rfl
          · have hjz : j ≤ z := (nI_leI (by omega) (by omega)).mp hyz
            rw [nI_clamp (n := j) (by omega)] at hQ
            rw [show (126 : Int32) = nI 126 from rfl, pk_mul, nI_add]
            refine ⟨pk_in (126 * z + j) 15876 (by omega), ?_⟩
            rw [nI_clamp (n := 126 * z + j) (by omega), ((hR.2.1 z hzh).2.1 j (by omega)).1]
            exact hQ
          · exact absurd (by decide) hy0
        · rw [if_neg hy0, if_neg hyz] at hQ; exact hQ
theorem q_standard {p n o H gc : Nat} [NeZero p] {P : List (Nat × Nat)} {G : Nat → Nat → Nat} {tg : Nat → Nat} {mo_prime mn_variables mn_order mn_highest mn_count : Int32} {codes degs first prods : Nat → Int32} {md_p md_n md_order md_monomials : Int32} {mono dga : Nat → Int32} {sp_degree sp_size sp_count : Int32} {coef leads rol os ov ofc on : Nat → Int32} {me_count me_complete : Int32} {mcoef mleads : Nat → Int32} {md_found md_upTo md_members : Int32} {has row basis : Nat → Int32} (hF : iF p n o H P mo_prime mn_variables mn_order mn_highest mn_count codes degs first prods md_p md_n md_order md_monomials mono dga) (hB : iB p n H gc P G tg sp_degree sp_size sp_count coef leads rol os ov ofc on me_count me_complete mcoef mleads md_found md_upTo md_members has row basis) (x : Int32) : ∃ r : Int32, (∀ (a : Int32) (Q : Int32 → Prop), Q r → vc_x_standard a mn_variables mn_order mn_highest mn_count first sp_degree sp_size sp_count rol x Q) ∧ ∀ (c0 c5 c9 : Int32) (Q : Int32 → Int32 → Prop), Q r 0 → vc_md_standard c0 md_p md_n md_order md_monomials c5 md_found md_upTo md_members c9 dga has x Q := by
  obtain ⟨hp, hpm, hC, rfl, rfl, rfl, rfl, rfl, hM, rfl, rfl, rfl, rfl, hm, hdg⟩ := hF
  have hN := hC.T.N126
  have hH30 := hC.T.H30
  rcases hB with ⟨rfl, rfl⟩ | ⟨d, ct, R, ld, hs, M, hd, rfl, rfl, rfl, rfl, rfl, rfl, rfl, ⟨hS, hO, hcl, hmin, hld, haL, hmo, hcp⟩, hR, hred, hsc, hba⟩
  · refine ⟨-1, fun a Q hQ => ⟨fun _ => hQ, fun h => ⟨fun q => ?_, fun _ => hQ⟩⟩, fun c0 c5 c9 Q hQ => ⟨fun _ => hQ, fun q => absurd rfl q⟩⟩
    obtain ⟨j, hj, rfl⟩ := nI_of h
    rw [Int32.le_iff_toInt_le, nI_toInt hj, show (-1 : Int32).toInt = -1 from by decide] at q
    omega
  · by_cases hx : ∃ k, k ≤ d ∧ x = nI k
    · obtain ⟨k, hk, rfl⟩ := hx
      refine ⟨nI (cSt (tdg P) hs k P.length), fun a Q hQ => ⟨fun q => absurd q (nI_pos (by omega)), fun _ => pk_le k d (fun _ => s_standardOf hC.T hM.2.2.1 hS hld (by omega) hQ) (fun q => by omega)⟩, fun c0 c5 c9 Q hQ => s_md_standard hC.T hdg hR hd (fun q => absurd rfl (q k hk)) (fun k2 hk2 e => ?_)⟩
      rw [← (nI_eq (by omega) (by omega)).mp e]; exact hQ
    · refine ⟨-1, fun a Q hQ => ⟨fun _ => hQ, fun h => ⟨fun q => ?_, fun _ => hQ⟩⟩, fun c0 c5 c9 Q hQ => s_md_standard hC.T hdg hR hd (fun _ => hQ) (fun k2 hk2 e => absurd ⟨k2, hk2, e⟩ hx)⟩
      obtain ⟨j, hj, rfl⟩ := nI_of h
      exact absurd ⟨j, (nI_leI hj (by omega)).mp q, rfl⟩ hx
theorem q_ideal {p n o H gc : Nat} [NeZero p] {P : List (Nat × Nat)} {G : Nat → Nat → Nat} {tg : Nat → Nat} {mo_prime mn_variables mn_order mn_highest mn_count : Int32} {codes degs first prods : Nat → Int32} {md_p md_n md_order md_monomials : Int32} {mono dga : Nat → Int32} {sp_degree sp_size sp_count : Int32} {coef leads rol os ov ofc on : Nat → Int32} {me_count me_complete : Int32} {mcoef mleads : Nat → Int32} {md_found md_upTo md_members : Int32} {has row basis gen : Nat → Int32} {ge_count md_generators : Int32} {polys : Nat → Nat → Int32} {tops : Nat → Int32} (hF : iF p n o H P mo_prime mn_variables mn_order mn_highest mn_count codes degs first prods md_p md_n md_order md_monomials mono dga) (hG : iG p P.length gc G tg ge_count polys tops md_generators gen) (hB : iB p n H gc P G tg sp_degree sp_size sp_count coef leads rol os ov ofc on me_count me_complete mcoef mleads md_found md_upTo md_members has row basis) (x : Int32) : ∃ r : Int32, (∀ (a : Int32) (Q : Int32 → Prop), Q r → vc_x_ideal a mn_variables mn_order mn_highest mn_count codes sp_degree sp_size sp_count me_count me_complete mleads x Q) ∧ ∀ (c0 c9 : Int32) (Q : Int32 → Int32 → Prop), Q r 0 → vc_md_ideal c0 md_p md_n md_order md_monomials md_generators md_found md_upTo md_members c9 mono dga gen basis x Q := by
  obtain ⟨hp, hpm, hC, rfl, rfl, rfl, rfl, rfl, hM, rfl, rfl, rfl, rfl, hm, hdg⟩ := hF
  obtain ⟨rfl, rfl, hge, hmg⟩ := hG
  have hN := hC.T.N126
  have hH30 := hC.T.H30
  rcases hB with ⟨rfl, rfl⟩ | ⟨d, ct, R, ld, hs, M, hd, rfl, rfl, rfl, rfl, rfl, rfl, rfl, ⟨hS, hO, hcl, hmin, hld, haL, hmo, hcp⟩, hR, hred, hsc, hba⟩
  · exact ⟨-1, fun a Q hQ => ⟨fun q => absurd rfl q, fun _ => hQ⟩, fun c0 c9 Q hQ => ⟨fun q => absurd rfl q, fun _ => hQ⟩⟩
  · have hsz := hC.T.fdN (d + 1) (by omega)
    generalize eL : mnF (mnB n (tcd P) (tdv P) hs) (tfd P (d + 1)) = L at *
    have hl : L.length ≤ tfd P (d + 1) := by rw [← eL]; exact mnF_len _ _
    have hLN : ∀ i y : Nat, L[i]? = some y → y < P.length := fun i y hy => by rw [← eL] at hy; have := (mnF_mem hy).1; omega
    have hne : ¬ nI d = -1 := pn_m1_ne d (by omega)
    have n10 : ¬ (1 : Int32) = 0 := by decide
    by_cases x0 : x = 0
    · subst x0
      refine ⟨me_complete, fun a Q hQ => ⟨fun _ => ⟨fun _ => ?_, fun q => absurd q (by decide), fun q => absurd q (by decide), fun q => absurd q (by decide), fun q => absurd rfl q⟩, fun q => absurd q hne⟩, fun c0 c9 Q hQ => ⟨fun _ => ⟨fun q => absurd rfl q, fun _ => s_md_complete hC.T hm hdg hmg hpm hd hba hLN (by omega) (fun h1 h2 => ⟨fun q => absurd q n10, fun _ => ?_⟩) (fun h1 => ⟨fun _ => ?_, fun q => absurd rfl q⟩)⟩, fun q => absurd q n10⟩⟩
      · rcases hcp with ⟨rfl, -⟩ | ⟨rfl, -⟩
        · exact ⟨fun q => absurd q n10, fun _ => hQ⟩
        · exact ⟨fun _ => hQ, fun q => absurd rfl q⟩
      · rcases hcp with ⟨rfl, -⟩ | ⟨rfl, q⟩
        · exact hQ
        · exact absurd ⟨h1, h2⟩ q
      · rcases hcp with ⟨rfl, q⟩ | ⟨rfl, -⟩
        · exact absurd q h1
        · exact hQ
    by_cases x1 : x = 1
    · subst x1
      exact ⟨nI L.length, fun a Q hQ => ⟨fun _ => ⟨fun q => absurd q n10, fun _ => hQ, fun q => absurd q (by decide), fun q => absurd q (by decide), fun _ q => absurd rfl q⟩, fun q => absurd q hne⟩, fun c0 c9 Q hQ => ⟨fun _ => ⟨fun _ => ⟨fun q => absurd rfl q, fun _ => hQ⟩, fun q => absurd q n10⟩, fun q => absurd q n10⟩⟩
    by_cases x2 : x = 2
    · subst x2
      exact ⟨nI d, fun a Q hQ => ⟨fun _ => ⟨fun q => absurd q (by decide), fun q => absurd q (by decide), fun _ => hQ, fun q => absurd q (by decide), fun _ _ q => absurd rfl q⟩, fun q => absurd q hne⟩, fun c0 c9 Q hQ => ⟨fun _ => ⟨fun _ => ⟨fun _ => ⟨fun q => absurd rfl q, fun _ => hQ⟩, fun q => absurd q (by decide)⟩, fun q => absurd q (by decide)⟩, fun q => absurd q n10⟩⟩
    by_cases x3 : x = 3
    · subst x3
      refine ⟨if me_complete = 0 then -1 else nI (dmN n (tcd P) L (2 ^ n)) - 1, fun a Q hQ => ⟨fun _ => ⟨fun q => absurd q (by decide), fun q => absurd q (by decide), fun q => absurd q (by decide), fun _ => ⟨fun hc => ?_, fun hc => s_dimension hC.T hM.1 haL hLN (by omega) ?_⟩, fun _ _ _ q => absurd rfl q⟩, fun q => absurd q hne⟩, fun c0 c9 Q hQ => ⟨fun _ => ⟨fun _ => ⟨fun _ => ⟨fun _ => ⟨fun q => absurd rfl q, fun _ => s_md_complete hC.T hm hdg hmg hpm hd hba hLN (by omega) (fun h1 h2 => ⟨fun q => absurd q n10, fun _ => s_md_dimension hC.T hm hba hLN (by omega) ?_⟩) (fun h1 => ⟨fun _ => ?_, fun q => absurd rfl q⟩)⟩, fun q => absurd q (by decide)⟩, fun q => absurd q (by decide)⟩, fun q => absurd q (by decide)⟩, fun q => absurd q n10⟩⟩
      · rw [if_pos hc] at hQ; exact hQ
      · rw [if_neg hc] at hQ; exact hQ
      · rcases hcp with ⟨rfl, -⟩ | ⟨rfl, q⟩
        · rw [if_neg n10] at hQ; exact hQ
        · exact absurd ⟨h1, h2⟩ q
      · rcases hcp with ⟨rfl, q⟩ | ⟨rfl, -⟩
        · exact absurd q h1
        · rw [if_pos rfl] at hQ; exact hQ
    exact ⟨-1, fun a Q hQ => ⟨fun _ => ⟨fun q => absurd q x0, fun q => absurd q x1, fun q => absurd q x2, fun q => absurd q x3, fun _ _ _ _ => hQ⟩, fun q => absurd q hne⟩, fun c0 c9 Q hQ => ⟨fun _ => ⟨fun _ => ⟨fun _ => ⟨fun _ => ⟨fun _ => hQ, fun q => absurd q x3⟩, fun q => absurd q x2⟩, fun q => absurd q x1⟩, fun q => absurd q x0⟩, fun q => absurd q n10⟩⟩
