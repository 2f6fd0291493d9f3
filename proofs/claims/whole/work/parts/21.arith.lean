/-! arithmetic of longs against numbers of w bits -/
theorem qt_n {a d : Nat} (hd : 0 < d) : 2 * (a / 2 / d) * d ≤ a ∧ a - 2 * (a / 2 / d) * d < 2 * d ∧ a / d = (if a - 2 * (a / 2 / d) * d < d then 2 * (a / 2 / d) else 2 * (a / 2 / d) + 1) := by
  have h1 := Nat.div_add_mod (a / 2) d
  have h2 := Nat.mod_lt (a / 2) hd
  generalize a / 2 / d = q at *
  have e : 2 * q * d = 2 * (d * q) := by rw [Nat.mul_assoc, Nat.mul_comm q d]
  refine ⟨by omega, by omega, ?_⟩
  split
  · apply Nat.div_eq_of_lt_le
    · omega
    · rw [Nat.add_mul, Nat.one_mul]; omega
  · apply Nat.div_eq_of_lt_le
    · rw [Nat.add_mul, Nat.one_mul]; omega
    · rw [Nat.add_mul, Nat.add_mul, Nat.one_mul]; omega
theorem qt_lo {d : Int64} (h : d ≤ 0) : lb_n d = 0 ∨ 9223372036854775808 ≤ lb_n d := by
  have hl := lb_lt d
  have h0 : (0 : Int64).toInt = 0 := by decide
  rw [Int64.le_iff_toInt_le, lb_int, h0] at h
  split at h <;> omega
theorem qt_hi {d : Int64} (h : ¬ d ≤ 0) : 0 < lb_n d ∧ lb_n d < 9223372036854775808 := by
  have hl := lb_lt d
  have h0 : (0 : Int64).toInt = 0 := by decide
  rw [Int64.le_iff_toInt_le, lb_int, h0] at h
  split at h <;> omega
theorem qt_big {a d : Nat} (ha : a < 18446744073709551616) (hd : 9223372036854775808 ≤ d) : a / d = if a < d then 0 else 1 := by
  split
  · exact Nat.div_eq_of_lt (by assumption)
  · exact Nat.div_eq_of_lt_le (by omega) (by omega)
/-! remainders by 2^w -/
theorem md_64 {w : Nat} (h : w ≤ 64) : 2 ^ w ∣ 18446744073709551616 := Nat.pow_dvd_pow 2 h
theorem md_m {w : Nat} (h : w ≤ 64) (n : Nat) : n % 18446744073709551616 % 2 ^ w = n % 2 ^ w := Nat.mod_mod_of_dvd n (md_64 h)
theorem md_hf {w : Nat} (h1 : 1 ≤ w) (h2 : w ≤ 64) {x : Int64} (h : lb_n x < 2 ^ w) : lb_n (lb_hf w x) % 2 ^ w = lb_n x % 2 ^ w := by
  rw [lb_hfn h1 h2 h]
  split
  · rfl
  · obtain ⟨k, hk⟩ := md_64 h2
    have e : 18446744073709551616 - 2 ^ w = 2 ^ w * (k - 1) := by rw [Nat.mul_sub, Nat.mul_one, ← hk]
    rw [e, Nat.add_mul_mod_self_left]
theorem md_add {w X Y : Nat} (h : w ≤ 64) {x y : Int64} (hx : lb_n x % 2 ^ w = X % 2 ^ w) (hy : lb_n y % 2 ^ w = Y % 2 ^ w) : lb_n (x + y) % 2 ^ w = (X + Y) % 2 ^ w := by
  rw [lb_add, md_m h, Nat.add_mod, hx, hy, ← Nat.add_mod]
theorem md_mul {w X Y : Nat} (h : w ≤ 64) {x y : Int64} (hx : lb_n x % 2 ^ w = X % 2 ^ w) (hy : lb_n y % 2 ^ w = Y % 2 ^ w) : lb_n (x * y) % 2 ^ w = (X * Y) % 2 ^ w := by
  rw [lb_mul, md_m h, Nat.mul_mod, hx, hy, ← Nat.mul_mod]
theorem md_com {w a b : Nat} (h : (a + b) % 2 ^ w = 0) {c : Nat} (h2 : (c + b) % 2 ^ w = 0) : a % 2 ^ w = c % 2 ^ w := by
  have hp : 0 < 2 ^ w := Nat.two_pow_pos w
  have e1 : (a + b + c) % 2 ^ w = c % 2 ^ w := by rw [Nat.add_mod, h, Nat.zero_add, Nat.mod_mod]
  have e2 : (a + b + c) % 2 ^ w = a % 2 ^ w := by rw [Nat.add_assoc, Nat.add_comm b c, Nat.add_mod, h2, Nat.add_zero, Nat.mod_mod]
  rw [← e1, e2]
theorem md_neg {w X : Nat} (h : w ≤ 64) {x : Int64} (hX : X ≤ 2 ^ w) (hx : lb_n x % 2 ^ w = X % 2 ^ w) : lb_n (-x) % 2 ^ w = (2 ^ w - X) % 2 ^ w := by
  rw [lb_neg, md_m h]
  apply md_com (b := X)
  · rw [Nat.add_mod, ← hx, ← Nat.add_mod, show 18446744073709551616 - lb_n x + lb_n x = 18446744073709551616 by have := lb_lt x; omega]
    exact Nat.mod_eq_zero_of_dvd (md_64 h)
  · rw [show 2 ^ w - X + X = 2 ^ w by omega, Nat.mod_self]
theorem md_sub {w X Y : Nat} (h : w ≤ 64) {x y : Int64} (hY : Y < 2 ^ w) (hx : lb_n x % 2 ^ w = X % 2 ^ w) (hy : lb_n y % 2 ^ w = Y % 2 ^ w) : lb_n (x - y) % 2 ^ w = (X + (2 ^ w - 1 - Y) + 1) % 2 ^ w := by
  rw [lb_sub, md_m h, Nat.add_mod, hx]
  have e : (18446744073709551616 - lb_n y) % 2 ^ w = (2 ^ w - 1 - Y + 1) % 2 ^ w := by
    apply md_com (b := Y)
    · rw [Nat.add_mod, ← hy, ← Nat.add_mod, show 18446744073709551616 - lb_n y + lb_n y = 18446744073709551616 by have := lb_lt y; omega]
      exact Nat.mod_eq_zero_of_dvd (md_64 h)
    · rw [show 2 ^ w - 1 - Y + 1 + Y = 2 ^ w by omega, Nat.mod_self]
  rw [e, ← Nat.add_mod, Nat.add_comm, ← Nat.add_assoc]
/-! division with sign -/
theorem sd_mod {w : Nat} (h : w ≤ 64) (x : Int64) : (lb_n x : Int) % (2 ^ w : Nat) = x.toInt % (2 ^ w : Nat) := by
  rw [lb_int]
  split
  · rfl
  · obtain ⟨k, hk⟩ := md_64 h
    have e : (18446744073709551616 : Int) = ((2 ^ w : Nat) : Int) * (k : Int) := by rw [← Int.natCast_mul, ← hk]; rfl
    rw [e, Int.sub_mul_emod_self_left]
theorem sd_nat {w : Nat} (h : w ≤ 64) {x : Int64} {N : Nat} (e : x.toInt % (2 ^ w : Nat) = (N : Int) % (2 ^ w : Nat)) : lb_n x % 2 ^ w = N % 2 ^ w := by
  rw [← sd_mod h] at e
  omega
theorem sd_bm {w : Nat} (h : w ≤ 64) (z : Int) : (z.bmod (2 ^ 64)) % (2 ^ w : Nat) = z % (2 ^ w : Nat) := by
  obtain ⟨k, hk⟩ := md_64 h
  have e : z.bmod (2 ^ 64) % ((18446744073709551616 : Nat) : Int) = z % ((18446744073709551616 : Nat) : Int) := Int.bmod_emod
  have e2 : ((2 ^ w : Nat) : Int) ∣ ((18446744073709551616 : Nat) : Int) := Int.natCast_dvd_natCast.mpr (md_64 h)
  rw [← Int.emod_emod_of_dvd _ e2, e, Int.emod_emod_of_dvd _ e2]
theorem sd_sv {w n : Nat} (h1 : 1 ≤ w) (h : n < 2 ^ w) : lb_sv w n = if n / 2 ^ (w - 1) % 2 = 1 then -((2 ^ w - n : Nat) : Int) else (n : Int) := by
  have ht := lb_top h1 h
  have hq : 2 ^ w = 2 * 2 ^ (w - 1) := by rw [Nat.mul_comm, ← Nat.pow_succ]; congr 1; omega
  have hc : ((2 ^ w : Nat) : Int) = (2 : Int) ^ w := by simp
  rw [bn_t, ht]
  unfold lb_sv
  rw [← hc]
  by_cases c : n < 2 ^ (w - 1)
  · rw [if_pos c, decide_eq_false (by omega), if_neg (by decide)]
  · rw [if_neg c, decide_eq_true (by omega), if_pos (by decide)]
    omega
