/-! Long.bitCount -/
def pc_m (m : Nat) : Nat → Nat
  | 0 => 0
  | k + 1 => m + 256 * pc_m m k
def pc_1 (k n : Nat) : Nat := n - (n / 2 &&& pc_m 85 k)
def pc_2 (k n : Nat) : Nat := (n &&& pc_m 51 k) + (n / 4 &&& pc_m 51 k)
def pc_3 (k n : Nat) : Nat := (n + n / 16) &&& pc_m 15 k
def pc_b (a : Nat) : Nat := pc_3 1 (pc_2 1 (pc_1 1 a))
def pc_g : Nat → Nat → Nat
  | 0, _ => 0
  | k + 1, n => pc_b (n % 256) + 256 * pc_g k (n / 256)
theorem pc_and (a b m M : Nat) (ha : a < 256) (hm : m < 256) : (a + 256 * b) &&& (m + 256 * M) = (a &&& m) + 256 * (b &&& M) := by
  have h1 : ((a + 256 * b) &&& (m + 256 * M)) % 2 ^ 8 = a &&& m := by
    rw [Nat.and_mod_two_pow, show (a + 256 * b) % 2 ^ 8 = a by omega, show (m + 256 * M) % 2 ^ 8 = m by omega]
  have h2 : ((a + 256 * b) &&& (m + 256 * M)) / 2 ^ 8 = b &&& M := by
    rw [Nat.and_div_two_pow, show (a + 256 * b) / 2 ^ 8 = b by omega, show (m + 256 * M) / 2 ^ 8 = M by omega]
  omega
theorem pc_t1 : ∀ a, a < 256 → ∀ c, c < 2 → ((a / 2 + 128 * c) &&& 85) = (a / 2 &&& 85) ∧ (a / 2 &&& 85) ≤ a := by decide +kernel
theorem pc_t2 : ∀ a, a < 256 → ∀ c, c < 4 → ((a / 4 + 64 * c) &&& 51) = (a / 4 &&& 51) := by decide +kernel
theorem pc_t3 : ∀ a, a < 256 → pc_1 1 a < 256 ∧ pc_2 1 (pc_1 1 a) % 16 ≤ 4 ∧ pc_2 1 (pc_1 1 a) ≤ 68 ∧ pc_b a ≤ 8 ∧ pc_b a = a % 2 + a / 2 % 2 + a / 4 % 2 + a / 8 % 2 + a / 16 % 2 + a / 32 % 2 + a / 64 % 2 + a / 128 % 2 := by decide +kernel
theorem pc_ms (m k : Nat) : pc_m m (k + 1) = m + 256 * pc_m m k := by rw [pc_m]
theorem pc_m1 (m : Nat) : pc_m m 1 = m := by rw [pc_ms, pc_m, Nat.mul_zero, Nat.add_zero]
theorem pc_s1 (k a b : Nat) (ha : a < 256) : pc_1 (k + 1) (a + 256 * b) = pc_1 1 a + 256 * pc_1 k b := by
  have t := pc_t1 a ha (b % 2) (Nat.mod_lt _ (by decide))
  have e : (a + 256 * b) / 2 = (a / 2 + 128 * (b % 2)) + 256 * (b / 2) := by omega
  have l : (b / 2 &&& pc_m 85 k) ≤ b / 2 := Nat.and_le_left
  unfold pc_1
  rw [pc_ms, pc_m1, e, pc_and _ _ _ _ (by omega) (by decide), t.1]
  have := t.2
  omega
theorem pc_s2 (k a b : Nat) (ha : a < 256) : pc_2 (k + 1) (a + 256 * b) = pc_2 1 a + 256 * pc_2 k b := by
  have t := pc_t2 a ha (b % 4) (Nat.mod_lt _ (by decide))
  have e : (a + 256 * b) / 4 = (a / 4 + 64 * (b % 4)) + 256 * (b / 4) := by omega
  unfold pc_2
  rw [pc_ms, pc_m1, e, pc_and _ _ _ _ (by omega) (by decide), pc_and _ _ _ _ (by omega) (by decide), t]
  omega
theorem pc_s3 (k a b : Nat) (ha : a ≤ 68) (hb : b % 16 ≤ 4) : pc_3 (k + 1) (a + 256 * b) = pc_3 1 a + 256 * pc_3 k b := by
  have e : a + 256 * b + (a + 256 * b) / 16 = (a + a / 16 + 16 * (b % 16)) + 256 * (b + b / 16) := by omega
  unfold pc_3
  rw [pc_ms, pc_m1, e, pc_and _ _ _ _ (by omega) (by decide)]
  have m1 := Nat.and_two_pow_sub_one_eq_mod (a + a / 16 + 16 * (b % 16)) 4
  have m2 := Nat.and_two_pow_sub_one_eq_mod (a + a / 16) 4
  have m1 : (a + a / 16 + 16 * (b % 16)) &&& 15 = (a + a / 16 + 16 * (b % 16)) % 16 := m1
  have m2 : (a + a / 16) &&& 15 = (a + a / 16) % 16 := m2
  rw [m1, m2]
  omega
theorem pc_main : ∀ (k n : Nat), n < 256 ^ k → pc_3 k (pc_2 k (pc_1 k n)) = pc_g k n ∧ pc_2 k (pc_1 k n) % 16 ≤ 4 := by
  intro k
  induction k with
  | zero => intro n h; obtain rfl : n = 0 := by simpa using h
            exact ⟨by simp [pc_3, pc_2, pc_1, pc_g, pc_m], by simp [pc_2, pc_1, pc_m]⟩
  | succ k ih =>
    intro n h
    rw [Nat.pow_succ] at h
    obtain ⟨i1, i2⟩ := ih (n / 256) (by omega)
    have ha : n % 256 < 256 := Nat.mod_lt _ (by decide)
    have e : n = n % 256 + 256 * (n / 256) := by omega
    have t1 := (pc_t3 _ ha).1
    have t2 := (pc_t3 _ ha).2.1
    have t3 := (pc_t3 _ ha).2.2.1
    have e1 : pc_1 (k + 1) n = pc_1 1 (n % 256) + 256 * pc_1 k (n / 256) := by
      conv => lhs; rw [e]
      exact pc_s1 k _ _ ha
    have e2 : pc_2 (k + 1) (pc_1 (k + 1) n) = pc_2 1 (pc_1 1 (n % 256)) + 256 * pc_2 k (pc_1 k (n / 256)) := by rw [e1, pc_s2 k _ _ t1]
    refine ⟨?_, ?_⟩
    · rw [e2, pc_s3 k _ _ t3 i2, i1]; rfl
    · rw [e2]; omega
theorem pc_sum (k n : Nat) : pc_s (k + 8) n = pc_b (n % 256) + pc_s k (n / 256) := by
  have m1 : n % 256 % 2 = n % 2 := by omega
  have m2 : n % 256 / 2 % 2 = n / 2 % 2 := by omega
  have m3 : n % 256 / 4 % 2 = n / 4 % 2 := by omega
  have m4 : n % 256 / 8 % 2 = n / 8 % 2 := by omega
  have m5 : n % 256 / 16 % 2 = n / 16 % 2 := by omega
  have m6 : n % 256 / 32 % 2 = n / 32 % 2 := by omega
  have m7 : n % 256 / 64 % 2 = n / 64 % 2 := by omega
  have m8 : n % 256 / 128 % 2 = n / 128 % 2 := by omega
  have q2 : n / 2 / 2 = n / 4 := Nat.div_div_eq_div_mul n 2 2
  have q3 : n / 4 / 2 = n / 8 := Nat.div_div_eq_div_mul n 4 2
  have q4 : n / 8 / 2 = n / 16 := Nat.div_div_eq_div_mul n 8 2
  have q5 : n / 16 / 2 = n / 32 := Nat.div_div_eq_div_mul n 16 2
  have q6 : n / 32 / 2 = n / 64 := Nat.div_div_eq_div_mul n 32 2
  have q7 : n / 64 / 2 = n / 128 := Nat.div_div_eq_div_mul n 64 2
  have q8 : n / 128 / 2 = n / 256 := Nat.div_div_eq_div_mul n 128 2
  rw [(pc_t3 (n % 256) (Nat.mod_lt _ (by decide))).2.2.2.2, m1, m2, m3, m4, m5, m6, m7, m8]
  rw [pc_s, pc_s, pc_s, pc_s, pc_s, pc_s, pc_s, pc_s, q2, q3, q4, q5, q6, q7, q8]
  simp only [Nat.add_assoc]
