/-- Pascal's numbers -/
def fe_C : Nat → Nat → Nat
  | _, 0 => 1
  | 0, _ + 1 => 0
  | n + 1, k + 1 => fe_C n k + fe_C n (k + 1)
theorem fe_C_0 (n : Nat) : fe_C n 0 = 1 := by cases n <;> rfl
theorem fe_C_s (n k : Nat) : fe_C (n + 1) (k + 1) = fe_C n k + fe_C n (k + 1) := rfl
theorem fe_C_gt : ∀ n k : Nat, n < k → fe_C n k = 0
  | 0, 0, h => absurd h (Nat.lt_irrefl 0)
  | 0, k + 1, _ => rfl
  | n + 1, 0, h => absurd h (Nat.not_lt_zero _)
  | n + 1, k + 1, h => by rw [fe_C_s, fe_C_gt n k (by omega), fe_C_gt n (k + 1) (by omega)]
theorem fe_C_n : ∀ n : Nat, fe_C n n = 1
  | 0 => rfl
  | n + 1 => by rw [fe_C_s, fe_C_n n, fe_C_gt n (n + 1) (by omega)]
/-- k C(n,k) = n C(n-1,k-1) -/
theorem fe_C_abs : ∀ n k : Nat, (k + 1) * fe_C (n + 1) (k + 1) = (n + 1) * fe_C n k
  | 0, 0 => rfl
  | 0, k + 1 => by rw [fe_C_gt 1 (k + 2) (by omega), fe_C_gt 0 (k + 1) (by omega), Nat.mul_zero, Nat.mul_zero]
  | n + 1, 0 => by
    have h := fe_C_abs n 0
    rw [fe_C_s (n + 1) 0, fe_C_0]
    rw [fe_C_0] at h
    omega
  | n + 1, k + 1 => by
    have h1 := fe_C_abs n k
    have h2 := fe_C_abs n (k + 1)
    rw [fe_C_s (n + 1) (k + 1), fe_C_s n k]
    rw [fe_C_s n k] at h1
    rw [fe_C_s n (k + 1)] at h2 ⊢
    generalize fe_C n k = a at *
    generalize fe_C n (k + 1) = b at *
    generalize fe_C n (k + 1 + 1) = c at *
    grind
/-- the sum of the first n of g -/
def fe_S (g : Nat → Nat) : Nat → Nat
  | 0 => 0
  | n + 1 => fe_S g n + g n
theorem fe_S_add (g h : Nat → Nat) : ∀ n, fe_S (fun j => g j + h j) n = fe_S g n + fe_S h n
  | 0 => rfl
  | n + 1 => by show fe_S _ n + (g n + h n) = (fe_S g n + g n) + (fe_S h n + h n); rw [fe_S_add g h n]; omega
theorem fe_S_mul (a : Nat) (g : Nat → Nat) : ∀ n, fe_S (fun j => a * g j) n = a * fe_S g n
  | 0 => rfl
  | n + 1 => by show fe_S _ n + a * g n = a * (fe_S g n + g n); rw [fe_S_mul a g n, Nat.mul_add]
theorem fe_S_head (g : Nat → Nat) : ∀ n, fe_S g (n + 1) = g 0 + fe_S (fun j => g (j + 1)) n
  | 0 => by show 0 + g 0 = g 0 + 0; omega
  | n + 1 => by
    show fe_S g (n + 1) + g (n + 1) = g 0 + (fe_S (fun j => g (j + 1)) n + g (n + 1))
    rw [fe_S_head g n]; omega
theorem fe_S_congr {g h : Nat → Nat} : ∀ n, (∀ j, j < n → g j = h j) → fe_S g n = fe_S h n
  | 0, _ => rfl
  | n + 1, H => by show fe_S g n + g n = fe_S h n + h n; rw [fe_S_congr n (fun j hj => H j (by omega)), H n (by omega)]
theorem fe_S_dvd {p : Nat} {g : Nat → Nat} : ∀ n, (∀ j, j < n → p ∣ g j) → p ∣ fe_S g n
  | 0, _ => Nat.dvd_zero p
  | n + 1, H => Nat.dvd_add (fe_S_dvd n (fun j hj => H j (by omega))) (H n (by omega))
/-- (a + 1)^n by Pascal's numbers -/
theorem fe_bin (a : Nat) : ∀ n, (a + 1) ^ n = fe_S (fun k => fe_C n k * a ^ k) (n + 1)
  | 0 => by show 1 = 0 + fe_C 0 0 * a ^ 0; rw [fe_C_0]; simp
  | n + 1 => by
    rw [Nat.pow_succ, fe_bin a n, Nat.mul_add, Nat.mul_one]
    rw [fe_S_head _ (n + 1)]
    have e1 : fe_S (fun j => fe_C (n + 1) (j + 1) * a ^ (j + 1)) (n + 1) = fe_S (fun j => fe_C n j * a ^ (j + 1)) (n + 1) + fe_S (fun j => fe_C n (j + 1) * a ^ (j + 1)) (n + 1) := by
      rw [← fe_S_add]
      exact fe_S_congr _ (fun j _ => by show fe_C (n + 1) (j + 1) * a ^ (j + 1) = _; rw [fe_C_s, Nat.add_mul])
    have e2 : fe_S (fun k => fe_C n k * a ^ k) (n + 1) * a = fe_S (fun j => fe_C n j * a ^ (j + 1)) (n + 1) := by
      rw [Nat.mul_comm, ← fe_S_mul]
      exact fe_S_congr _ (fun j _ => by show a * (fe_C n j * a ^ j) = fe_C n j * a ^ (j + 1); rw [Nat.pow_succ]; grind)
    have e3 : fe_S (fun k => fe_C n k * a ^ k) (n + 1) = fe_C n 0 * a ^ 0 + fe_S (fun j => fe_C n (j + 1) * a ^ (j + 1)) n := fe_S_head _ n
    have e4 : fe_S (fun j => fe_C n (j + 1) * a ^ (j + 1)) (n + 1) = fe_S (fun j => fe_C n (j + 1) * a ^ (j + 1)) n := by
      show _ + fe_C n (n + 1) * a ^ (n + 1) = _
      rw [fe_C_gt n (n + 1) (by omega)]; omega
    rw [e1, e2, e4, fe_C_0]
    rw [fe_C_0] at e3
    generalize fe_S (fun k => fe_C n k * a ^ k) (n + 1) = x at *
    omega
/-- p is a prime: no number from 2 on below it divides it -/
def fe_P (p : Nat) : Prop := 2 ≤ p ∧ ∀ d, 2 ≤ d → d < p → ¬ d ∣ p
theorem fe_cop {p a : Nat} (hp : fe_P p) (ha : ¬ p ∣ a) : Nat.Coprime p a := by
  have h1 : Nat.gcd p a ∣ p := Nat.gcd_dvd_left p a
  have h2 : Nat.gcd p a ∣ a := Nat.gcd_dvd_right p a
  have h3 : Nat.gcd p a ≤ p := Nat.le_of_dvd (by have := hp.1; omega) h1
  have h4 : 0 < Nat.gcd p a := Nat.gcd_pos_of_pos_left a (by have := hp.1; omega)
  by_cases e : Nat.gcd p a = p
  · rw [e] at h2; exact absurd h2 ha
  · by_cases e1 : Nat.gcd p a = 1
    · exact e1
    · exact absurd h1 (hp.2 _ (by omega) (by omega))
theorem fe_euc {p a b : Nat} (hp : fe_P p) (h : p ∣ a * b) : p ∣ a ∨ p ∣ b := by
  by_cases ha : p ∣ a
  · exact Or.inl ha
  · exact Or.inr ((fe_cop hp ha).dvd_of_dvd_mul_left h)
theorem fe_C_dvd {p k : Nat} (hp : fe_P p) (h0 : 0 < k) (hk : k < p) : p ∣ fe_C p k := by
  obtain ⟨n, rfl⟩ : ∃ n, p = n + 1 := ⟨p - 1, by omega⟩
  obtain ⟨j, rfl⟩ : ∃ j, k = j + 1 := ⟨k - 1, by omega⟩
  have h := fe_C_abs n j
  have h1 : (n + 1) ∣ (j + 1) * fe_C (n + 1) (j + 1) := ⟨_, h⟩
  rcases fe_euc hp h1 with q | q
  · have := Nat.le_of_dvd (by omega) q
    omega
  · exact q
theorem fe_step {p : Nat} (hp : fe_P p) (a : Nat) : (a + 1) ^ p % p = (a ^ p + 1) % p := by
  have h2 := hp.1
  obtain ⟨n, rfl⟩ : ∃ n, p = n + 1 := ⟨p - 1, by omega⟩
  rw [fe_bin]
  have e1 : fe_S (fun k => fe_C (n + 1) k * a ^ k) (n + 1 + 1) = fe_S (fun k => fe_C (n + 1) k * a ^ k) (n + 1) + fe_C (n + 1) (n + 1) * a ^ (n + 1) := rfl
  have e2 : fe_S (fun k => fe_C (n + 1) k * a ^ k) (n + 1) = fe_C (n + 1) 0 * a ^ 0 + fe_S (fun j => fe_C (n + 1) (j + 1) * a ^ (j + 1)) n := fe_S_head _ n
  have e3 : (n + 1) ∣ fe_S (fun j => fe_C (n + 1) (j + 1) * a ^ (j + 1)) n := fe_S_dvd n (fun j hj => Nat.dvd_trans (fe_C_dvd hp (by omega) (by omega)) (Nat.dvd_mul_right _ _))
  obtain ⟨q, hq⟩ := e3
  rw [e1, e2, fe_C_n, fe_C_0, hq]
  rw [show 1 * a ^ 0 + (n + 1) * q + 1 * a ^ (n + 1) = (a ^ (n + 1) + 1) + (n + 1) * q by rw [Nat.pow_zero]; omega]
  exact Nat.add_mul_mod_self_left _ _ _
/-- Fermat -/
theorem fe_fermat {p : Nat} (hp : fe_P p) : ∀ a : Nat, a ^ p % p = a % p
  | 0 => by rw [Nat.zero_pow (by have := hp.1; omega)]
  | a + 1 => by rw [fe_step hp a, Nat.add_mod, fe_fermat hp a, ← Nat.add_mod]
theorem fe_inv {p a : Nat} (hp : fe_P p) (ha : ¬ p ∣ a) : a * a ^ (p - 2) % p = 1 := by
  have h2 := hp.1
  have h := fe_fermat hp a
  obtain ⟨n, rfl⟩ : ∃ n, p = n + 2 := ⟨p - 2, by omega⟩
  rw [show n + 2 - 2 = n by omega]
  have e : a ^ (n + 2) = a * (a * a ^ n) := by rw [Nat.pow_succ, Nat.pow_succ]; grind
  rw [e] at h
  generalize a * a ^ n = x at h ⊢
  -- a x = a mod p, and a is apart from p
  have hd : (n + 2) ∣ a * x + a * (n + 2 - 1) := by
    have h3 : (a * x + a * (n + 2 - 1)) % (n + 2) = 0 := by
      rw [Nat.add_mod, h, ← Nat.add_mod]
      rw [show a + a * (n + 2 - 1) = (n + 2) * a by rw [show n + 2 - 1 = n + 1 by omega]; grind]
      exact Nat.mul_mod_right _ _
    exact Nat.dvd_of_mod_eq_zero h3
  rw [← Nat.mul_add] at hd
  rcases fe_euc hp hd with q | q
  · exact absurd q ha
  · obtain ⟨t, ht⟩ := q
    have hx : x + (n + 2 - 1) = (n + 2) * t := ht
    have ht0 : 0 < t := by
      rcases Nat.eq_zero_or_pos t with q | q
      · subst q; omega
      · exact q
    obtain ⟨u, rfl⟩ : ∃ u, t = u + 1 := ⟨t - 1, by omega⟩
    have : x = 1 + (n + 2) * u := by rw [Nat.mul_add] at hx; omega
    rw [this, Nat.add_mul_mod_self_left]
    exact Nat.mod_eq_of_lt (by omega)
