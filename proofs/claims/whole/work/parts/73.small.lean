/-! PURE: small methods of both sides, and that both sides find one space -/
theorem s_md_prime (x : Int32) {Q : Int32 → Prop} (h1 : ∀ p : Nat, x = nI p → p ≤ 32003 → fe_P p → Q 1) (h0 : (∀ p : Nat, x = nI p → p ≤ 32003 → ¬ fe_P p) → Q 0) : vc_md_prime x Q := s_isPrime x h1 h0
theorem fm_pos {a m : Int} (h : 0 ≤ a) : 0 ≤ a.tmod m ∧ a.tmod m ≤ a := by
  have h1 := Int.natAbs_tmod a m
  have h2 := Nat.mod_le a.natAbs m.natAbs
  have h3 := Int.tmod_nonneg m h
  omega
theorem fm_abs (a m : Int) : (0 ≤ a → 0 ≤ a.tmod m ∧ a.tmod m ≤ a) ∧ (a < 0 → a.tmod m ≤ 0 ∧ a ≤ a.tmod m) := by
  refine ⟨fun h => fm_pos h, fun h => ?_⟩
  have h1 := fm_pos (a := -a) (m := m) (by omega)
  rw [Int.neg_tmod] at h1
  omega
theorem fm_rem (a m : Int32) : (a - a / m * m).toInt = a.toInt.tmod m.toInt := by
  rw [Int32.toInt_sub, Int32.toInt_mul, Int32.toInt_div, Int.bmod_mul_bmod, Int.sub_bmod_bmod, Int.mul_comm, ← Int.tmod_def]
  have h1 := fm_abs a.toInt m.toInt
  have h2 := Int32.toInt_lt a
  have h3 := Int32.le_toInt a
  rcases Int.lt_or_le a.toInt 0 with q | q
  · have := h1.2 q; exact Int.bmod_eq_of_le (by omega) (by omega)
  · have := h1.1 q; exact Int.bmod_eq_of_le (by omega) (by omega)
theorem fm_msb (x : Int32) : x.toBitVec.msb = false ↔ 0 ≤ x.toInt := by
  rw [BitVec.msb_eq_toInt]
  show decide (x.toInt < 0) = false ↔ _
  rw [decide_eq_false_iff_not]
  omega
theorem fm_sign {x : Int32} {p : Nat} (hp : p < 2 ^ 31) : (0 ≤ x ^^^ nI p) ↔ 0 ≤ x.toInt := by
  rw [Int32.le_iff_toInt_le, Int32.toInt_zero, ← fm_msb, ← fm_msb, Int32.toBitVec_xor, BitVec.msb_xor, (fm_msb (nI p)).mpr (by rw [nI_toInt hp]; omega), Bool.xor_false]
theorem fm_nat {x : Int32} {p : Nat} (hp : 2 ≤ p) (hpm : p ≤ 32003) : ∃ c, c < p ∧ (c : Int) = x.toInt % (p : Int) := by
  have h1 := Int.emod_nonneg x.toInt (show (p : Int) ≠ 0 by omega)
  have h2 := Int.emod_lt_of_pos x.toInt (show (0 : Int) < p by omega)
  exact ⟨(x.toInt % (p : Int)).toNat, by omega, by omega⟩
theorem fm_eq {y : Int32} {c : Nat} (hc : c < 2 ^ 31) (h : y.toInt = c) : y = nI c := by
  apply Int32.toInt_inj.mp
  rw [h, nI_toInt hc]
theorem fm_tmod (a : Int) {p : Nat} (hp : 0 < p) : (0 ≤ a → a.tmod p = a % p) ∧ (a < 0 → (a.tmod p = 0 ∧ a % p = 0) ∨ (¬ a.tmod p = 0 ∧ a.tmod p < 0 ∧ -(p : Int) < a.tmod p ∧ a % p = a.tmod p + p)) := by
  refine ⟨fun h => Int.tmod_eq_emod_of_nonneg h, fun h => ?_⟩
  have h1 := (fm_abs a p).2 h
  have h2 : a.tmod p = -((-a) % p) := by rw [← Int.tmod_eq_emod_of_nonneg (show (0 : Int) ≤ -a by omega), Int.neg_tmod, Int.neg_neg]
  have h3 := Int.emod_lt_of_pos (-a) (show (0 : Int) < p by omega)
  have h4 := Int.emod_nonneg (-a) (show (p : Int) ≠ 0 by omega)
  have h5 := Int.mul_ediv_add_emod (-a) p
  by_cases c : (-a) % (p : Int) = 0
  · refine Or.inl ⟨by omega, ?_⟩
    exact Int.emod_eq_zero_of_dvd (Int.dvd_neg.mp (Int.dvd_of_emod_eq_zero c))
  · refine Or.inr ⟨by omega, by omega, by omega, ?_⟩
    have h6 : a = (p : Int) * (-((-a) / p) - 1) + (p - (-a) % p) := by
      rw [Int.mul_sub, Int.mul_neg, Int.mul_one]; omega
    rw [h2]
    conv => lhs; rw [h6]
    rw [Int.mul_add_emod_self_left, Int.emod_eq_of_lt (by omega) (by omega)]
    omega
theorem s_within {p : Nat} (hp : 2 ≤ p) (hpm : p ≤ 32003) (x : Int32) {Q : Int32 → Prop} {c : Nat} (hc : c < p) (hcx : (c : Int) = x.toInt % (p : Int)) (hQ : Q (nI c)) : vc_mo_within (nI p) x Q := by
  refine ⟨nI_ne0 (by omega) (by omega), ?_⟩
  intro r hr
  have hr2 : r.toInt = x.toInt.tmod p := by rw [hr, fm_rem, nI_toInt (by omega)]
  obtain ⟨t1, t2⟩ := fm_tmod x.toInt (show 0 < p by omega)
  refine ⟨fun h => ?_, fun h => ⟨fun h0 => ?_, fun h0 => ?_⟩⟩
  · rw [fm_eq (y := r) (c := c) (by omega) (by rw [hr2, t1 ((fm_sign (by omega)).mp h), hcx])]; exact hQ
  · have hx : x.toInt < 0 := by
      rcases Int.lt_or_le x.toInt 0 with q | q
      · exact q
      · exact absurd ((fm_sign (by omega)).mpr q) h
    rw [h0] at hr2
    rw [show (0 : Int32).toInt = 0 from by decide] at hr2
    rcases t2 hx with ⟨-, q⟩ | ⟨q, -⟩
    · rw [h0, show (0 : Int32) = nI c from by rw [show c = 0 by omega]; rfl]; exact hQ
    · exact absurd hr2.symm q
  · have hx : x.toInt < 0 := by
      rcases Int.lt_or_le x.toInt 0 with q | q
      · exact q
      · exact absurd ((fm_sign (by omega)).mpr q) h
    rcases t2 hx with ⟨q, -⟩ | ⟨-, q1, q2, q3⟩
    · rw [q] at hr2
      exact absurd (Int32.toInt_inj.mp (by rw [hr2]; decide)) h0
    · rw [fm_eq (y := r + nI p) (c := c) (by omega) ?_]
      · exact hQ
      · rw [Int32.toInt_add, hr2, nI_toInt (by omega), Int.bmod_eq_of_le (by omega) (by omega), hcx, q3]
theorem fm_ref {p : Nat} (hp : 2 ≤ p) (hpm : p ≤ 32003) (x : Int32) {c : Nat} (hc : c < p) (hcx : (c : Int) = x.toInt % (p : Int)) : ((x - x / nI p * nI p) + nI p) - ((x - x / nI p * nI p) + nI p) / nI p * nI p = nI c := by
  obtain ⟨t1, t2⟩ := fm_tmod x.toInt (show 0 < p by omega)
  have hr2 : (x - x / nI p * nI p).toInt = x.toInt.tmod p := by rw [fm_rem, nI_toInt (by omega)]
  have hb : x.toInt.tmod p < p ∧ -(p : Int) < x.toInt.tmod p := by
    rcases Int.lt_or_le x.toInt 0 with q | q
    · rcases t2 q with ⟨q, -⟩ | ⟨-, q1, q2, q3⟩ <;> omega
    · rw [t1 q]; omega
  have hs : ((x - x / nI p * nI p) + nI p).toInt = x.toInt.tmod p + p := by
    rw [Int32.toInt_add, hr2, nI_toInt (by omega), Int.bmod_eq_of_le (by omega) (by omega)]
  refine fm_eq (by omega) ?_
  rw [fm_rem, hs, nI_toInt (by omega), Int.tmod_eq_emod_of_nonneg (by omega), Int.add_emod_right, hcx]
  rcases Int.lt_or_le x.toInt 0 with q | q
  · rcases t2 q with ⟨q1, q2⟩ | ⟨-, q1, q2, q3⟩
    · rw [q1, q2]; rfl
    · rw [q3, ← Int.add_emod_right (x.toInt.tmod p) p]
      exact Int.emod_eq_of_lt (by omega) (by omega)
  · rw [t1 q, Int.emod_emod_of_dvd _ (Int.dvd_refl _)]
