/-! arithmetic of longs against numbers of w bits -/
theorem qt_n {a d : Nat} (hd : 0 < d) : 2 * (a / 2 / d) * d ≤ a ∧ a - 2 * (a / 2 / d) * d < 2 * d ∧ a / d = (if a - 2 * (a / 2 / d) * d < d then 2 * (a / 2 / d) else 2 * (a / 2 / d) + 1) := by
  have h1 := Nat.div_add_mod (a / 2) d
  have h2 := Nat.mod_lt (a / 2) hd
  generalize a / 2 / d = q at *
  have e : 2 * q * d = 2 * (d * q) := by rw [Nat.mul_assoc, Nat.mul_comm q d]
  refine ⟨by omega, by omega, ?_⟩
  split
  · apply Nat.div_eq_of_lt_le
    · omega
    · rw [Nat.add_mul, Nat.one_mul]; omega
  · apply Nat.div_eq_of_lt_le
    · rw [Nat.add_mul, Nat.one_mul]; omega
    · rw [Nat.add_mul, Nat.add_mul, Nat.one_mul]; omega
theorem qt_lo {d : Int64} (h : d ≤ 0) : lb_n d = 0 ∨ 9223372036854775808 ≤ lb_n d := by
  have hl := lb_lt d
  have h0 : (0 : Int64).toInt = 0 := by decide
  rw [Int64.le_iff_toInt_le, lb_int, h0] at h
  split at h <;> omega
theorem qt_hi {d : Int64} (h : ¬ d ≤ 0) : 0 < lb_n d ∧ lb_n d < 9223372036854775808 := by
  have hl := lb_lt d
  have h0 : (0 : Int64).toInt = 0 := by decide
  rw [Int64.le_iff_toInt_le, lb_int, h0] at h
  split at h <;> omega
theorem qt_big {a d : Nat} (ha : a < 18446744073709551616) (hd : 9223372036854775808 ≤ d) : a / d = if a < d then 0 else 1 := by
  split
  · exact Nat.div_eq_of_lt (by assumption)
  · exact Nat.div_eq_of_lt_le (by omega) (by omega)
/-! remainders by 2^w -/
theorem md_64 {w : Nat} (h : w ≤ 64) : 2 ^ w ∣ 18446744073709551616 := Nat.pow_dvd_pow 2 h
theorem md_m {w : Nat} (h : w ≤ 64) (n : Nat) : n % 18446744073709551616 % 2 ^ w = n % 2 ^ w := Nat.mod_mod_of_dvd n (md_64 h)
theorem md_hf {w : Nat} (h1 : 1 ≤ w) (h2 : w ≤ 64) {x : Int64} (h : lb_n x < 2 ^ w) : lb_n (lb_hf w x) % 2 ^ w = lb_n x % 2 ^ w := by
  rw [lb_hfn h1 h2 h]
  split
  · rfl
  · obtain ⟨k, hk⟩ := md_64 h2
    have e : 18446744073709551616 - 2 ^ w = 2 ^ w * (k - 1) := by rw [Nat.mul_sub, Nat.mul_one, ← hk]
    rw [e, Nat.add_mul_mod_self_left]
theorem md_add {w X Y : Nat} (h : w ≤ 64) {x y : Int64} (hx : lb_n x % 2 ^ w = X % 2 ^ w) (hy : lb_n y % 2 ^ w = Y % 2 ^ w) : lb_n (x + y) % 2 ^ w = (X + Y) % 2 ^ w := by
  rw [lb_add, md_m h, Nat.add_mod, hx, hy, ← Nat.add_mod]
theorem md_mul {w X Y : Nat} (h : w ≤ 64) {x y : Int64} (hx : lb_n x % 2 ^ w = X % 2 ^ w) (hy : lb_n y % 2 ^ w = Y % 2 ^ w) : lb_n (x * y) % 2 ^ w = (X * Y) % 2 ^ w := by
  rw [lb_mul, md_m h, Nat.mul_mod, hx, hy, ← Nat.mul_mod]
theorem md_com {w a b : Nat} (h : (a + b) % 2 ^ w = 0) {c : Nat} (h2 : (c + b) % 2 ^ w = 0) : a % 2 ^ w = c % 2 ^ w := by
  have hp : 0 < 2 ^ w := Nat.two_pow_pos w
  have e1 : (a + b + c) % 2 ^ w = c % 2 ^ w := by rw [Nat.add_mod, h, Nat.zero_add, Nat.mod_mod]
  have e2 : (a + b + c) % 2 ^ w = a % 2 ^ w := by rw [Nat.add_assoc, Nat.add_comm b c, Nat.add_mod, h2, Nat.add_zero, Nat.mod_mod]
  rw [← e1, e2]
theorem md_neg {w X : Nat} (h : w ≤ 64) {x : Int64} (hX : X ≤ 2 ^ w) (hx : lb_n x % 2 ^ w = X % 2 ^ w) : lb_n (-x) % 2 ^ w = (2 ^ w - X) % 2 ^ w := by
  rw [lb_neg, md_m h]
  apply md_com (b := X)
  · rw [Nat.add_mod, ← hx, ← Nat.add_mod, show 18446744073709551616 - lb_n x + lb_n x = 18446744073709551616 by have := lb_lt x; omega]
    exact Nat.mod_eq_zero_of_dvd (md_64 h)
  · rw [show 2 ^ w - X + X = 2 ^ w by omega, Nat.mod_self]
theorem md_sub {w X Y : Nat} (h : w ≤ 64) {x y : Int64} (hY : Y < 2 ^ w) (hx : lb_n x % 2 ^ w = X % 2 ^ w) (hy : lb_n y % 2 ^ w = Y % 2 ^ w) : lb_n (x - y) % 2 ^ w = (X + (2 ^ w - 1 - Y) + 1) % 2 ^ w := by
  rw [lb_sub, md_m h, Nat.add_mod, hx]
  have e : (18446744073709551616 - lb_n y) % 2 ^ w = (2 ^ w - 1 - Y + 1) % 2 ^ w := by
    apply md_com (b := Y)
    · rw [Nat.add_mod, ← hy, ← Nat.add_mod, show 18446744073709551616 - lb_n y + lb_n y = 18446744073709551616 by have := lb_lt y; omega]
      exact Nat.mod_eq_zero_of_dvd (md_64 h)
    · rw [show 2 ^ w - 1 - Y + 1 + Y = 2 ^ w by omega, Nat.mod_self]
  rw [e, ← Nat.add_mod, Nat.add_comm, ← Nat.add_assoc]
/-! division with sign -/
theorem sd_mod {w : Nat} (h : w ≤ 64) (x : Int64) : (lb_n x : Int) % (2 ^ w : Nat) = x.toInt % (2 ^ w : Nat) := by
  rw [lb_int]
  split
  · rfl
  · obtain ⟨k, hk⟩ := md_64 h
    have e : (18446744073709551616 : Int) = ((2 ^ w : Nat) : Int) * (k : Int) := by rw [← Int.natCast_mul, ← hk]; rfl
    rw [e, Int.sub_mul_emod_self_left]
theorem sd_nat {w : Nat} (h : w ≤ 64) {x : Int64} {N : Nat} (e : x.toInt % (2 ^ w : Nat) = (N : Int) % (2 ^ w : Nat)) : lb_n x % 2 ^ w = N % 2 ^ w := by
  rw [← sd_mod h] at e
  omega
theorem sd_bm {w : Nat} (h : w ≤ 64) (z : Int) : (z.bmod (2 ^ 64)) % (2 ^ w : Nat) = z % (2 ^ w : Nat) := by
  obtain ⟨k, hk⟩ := md_64 h
  have e : z.bmod (2 ^ 64) % ((18446744073709551616 : Nat) : Int) = z % ((18446744073709551616 : Nat) : Int) := Int.bmod_emod
  have e2 : ((2 ^ w : Nat) : Int) ∣ ((18446744073709551616 : Nat) : Int) := Int.natCast_dvd_natCast.mpr (md_64 h)
  rw [← Int.emod_emod_of_dvd _ e2, e, Int.emod_emod_of_dvd _ e2]
theorem sd_sv {w n : Nat} (h1 : 1 ≤ w) (h : n < 2 ^ w) : lb_sv w n = if n / 2 ^ (w - 1) % 2 = 1 then -((2 ^ w - n : Nat) : Int) else (n : Int) := by
  have ht := lb_top h1 h
  have hq : 2 ^ w = 2 * 2 ^ (w - 1) := by rw [Nat.mul_comm, ← Nat.pow_succ]; congr 1; omega
  have hc : ((2 ^ w : Nat) : Int) = (2 : Int) ^ w := by simp
  rw [bn_t, ht]
  unfold lb_sv
  rw [← hc]
  by_cases c : n < 2 ^ (w - 1)
  · rw [if_pos c, decide_eq_false (by omega), if_neg (by decide)]
  · rw [if_neg c, decide_eq_true (by omega), if_pos (by decide)]
    omega
/-! Long.bitCount -/
def pc_m (m : Nat) : Nat → Nat
  | 0 => 0
  | k + 1 => m + 256 * pc_m m k
def pc_1 (k n : Nat) : Nat := n - (n / 2 &&& pc_m 85 k)
def pc_2 (k n : Nat) : Nat := (n &&& pc_m 51 k) + (n / 4 &&& pc_m 51 k)
def pc_3 (k n : Nat) : Nat := (n + n / 16) &&& pc_m 15 k
def pc_b (a : Nat) : Nat := pc_3 1 (pc_2 1 (pc_1 1 a))
def pc_g : Nat → Nat → Nat
  | 0, _ => 0
  | k + 1, n => pc_b (n % 256) + 256 * pc_g k (n / 256)
def pc_s : Nat → Nat → Nat
  | 0, _ => 0
  | k + 1, n => n % 2 + pc_s k (n / 2)
theorem pc_and (a b m M : Nat) (ha : a < 256) (hm : m < 256) : (a + 256 * b) &&& (m + 256 * M) = (a &&& m) + 256 * (b &&& M) := by
  have h1 : ((a + 256 * b) &&& (m + 256 * M)) % 2 ^ 8 = a &&& m := by
    rw [Nat.and_mod_two_pow, show (a + 256 * b) % 2 ^ 8 = a by omega, show (m + 256 * M) % 2 ^ 8 = m by omega]
  have h2 : ((a + 256 * b) &&& (m + 256 * M)) / 2 ^ 8 = b &&& M := by
    rw [Nat.and_div_two_pow, show (a + 256 * b) / 2 ^ 8 = b by omega, show (m + 256 * M) / 2 ^ 8 = M by omega]
  omega
theorem pc_t1 : ∀ a, a < 256 → ∀ c, c < 2 → ((a / 2 + 128 * c) &&& 85) = (a / 2 &&& 85) ∧ (a / 2 &&& 85) ≤ a := by decide +kernel
theorem pc_t2 : ∀ a, a < 256 → ∀ c, c < 4 → ((a / 4 + 64 * c) &&& 51) = (a / 4 &&& 51) := by decide +kernel
theorem pc_t3 : ∀ a, a < 256 → pc_1 1 a < 256 ∧ pc_2 1 (pc_1 1 a) % 16 ≤ 4 ∧ pc_2 1 (pc_1 1 a) ≤ 68 ∧ pc_b a ≤ 8 ∧ pc_b a = a % 2 + a / 2 % 2 + a / 4 % 2 + a / 8 % 2 + a / 16 % 2 + a / 32 % 2 + a / 64 % 2 + a / 128 % 2 := by decide +kernel
theorem pc_s1 (k a b : Nat) (ha : a < 256) : pc_1 (k + 1) (a + 256 * b) = pc_1 1 a + 256 * pc_1 k b := by
  have t := pc_t1 a ha (b % 2) (Nat.mod_lt _ (by decide))
  have e : (a + 256 * b) / 2 = (a / 2 + 128 * (b % 2)) + 256 * (b / 2) := by omega
  have l : (b / 2 &&& pc_m 85 k) ≤ b / 2 := Nat.and_le_left
  show a + 256 * b - ((a + 256 * b) / 2 &&& (85 + 256 * pc_m 85 k)) = a - (a / 2 &&& 85) + 256 * (b - (b / 2 &&& pc_m 85 k))
  rw [e, pc_and _ _ _ _ (by omega) (by decide), t.1]
  have := t.2
  omega
theorem pc_s2 (k a b : Nat) (ha : a < 256) : pc_2 (k + 1) (a + 256 * b) = pc_2 1 a + 256 * pc_2 k b := by
  have t := pc_t2 a ha (b % 4) (Nat.mod_lt _ (by decide))
  have e : (a + 256 * b) / 4 = (a / 4 + 64 * (b % 4)) + 256 * (b / 4) := by omega
  show ((a + 256 * b) &&& (51 + 256 * pc_m 51 k)) + ((a + 256 * b) / 4 &&& (51 + 256 * pc_m 51 k)) = (a &&& 51) + (a / 4 &&& 51) + 256 * ((b &&& pc_m 51 k) + (b / 4 &&& pc_m 51 k))
  rw [e, pc_and _ _ _ _ (by omega) (by decide), pc_and _ _ _ _ (by omega) (by decide), t]
  omega
theorem pc_s3 (k a b : Nat) (ha : a ≤ 68) (hb : b % 16 ≤ 4) : pc_3 (k + 1) (a + 256 * b) = pc_3 1 a + 256 * pc_3 k b := by
  have e : a + 256 * b + (a + 256 * b) / 16 = (a + a / 16 + 16 * (b % 16)) + 256 * (b + b / 16) := by omega
  show (a + 256 * b + (a + 256 * b) / 16) &&& (15 + 256 * pc_m 15 k) = ((a + a / 16) &&& 15) + 256 * ((b + b / 16) &&& pc_m 15 k)
  rw [e, pc_and _ _ _ _ (by omega) (by decide)]
  have m1 := Nat.and_two_pow_sub_one_eq_mod (a + a / 16 + 16 * (b % 16)) 4
  have m2 := Nat.and_two_pow_sub_one_eq_mod (a + a / 16) 4
  have m1 : (a + a / 16 + 16 * (b % 16)) &&& 15 = (a + a / 16 + 16 * (b % 16)) % 16 := m1
  have m2 : (a + a / 16) &&& 15 = (a + a / 16) % 16 := m2
  rw [m1, m2]
  omega
theorem pc_main : ∀ (k n : Nat), n < 256 ^ k → pc_3 k (pc_2 k (pc_1 k n)) = pc_g k n ∧ pc_2 k (pc_1 k n) % 16 ≤ 4 := by
  intro k
  induction k with
  | zero => intro n h; obtain rfl : n = 0 := by simpa using h
            exact ⟨by decide, by decide⟩
  | succ k ih =>
    intro n h
    rw [Nat.pow_succ] at h
    obtain ⟨i1, i2⟩ := ih (n / 256) (by omega)
    have ha : n % 256 < 256 := Nat.mod_lt _ (by decide)
    obtain ⟨t1, t2, t3, _, _⟩ := pc_t3 _ ha
    have e : n = n % 256 + 256 * (n / 256) := by omega
    have e1 : pc_1 (k + 1) n = pc_1 1 (n % 256) + 256 * pc_1 k (n / 256) := by
      conv => lhs; rw [e]
      exact pc_s1 k _ _ ha
    have e2 : pc_2 (k + 1) (pc_1 (k + 1) n) = pc_2 1 (pc_1 1 (n % 256)) + 256 * pc_2 k (pc_1 k (n / 256)) := by rw [e1, pc_s2 k _ _ t1]
    refine ⟨?_, ?_⟩
    · rw [e2, pc_s3 k _ _ t3 i2, i1]; rfl
    · rw [e2]; omega
theorem pc_sum (k n : Nat) : pc_s (k + 8) n = pc_b (n % 256) + pc_s k (n / 256) := by
  have t := (pc_t3 (n % 256) (Nat.mod_lt _ (by decide))).2.2.2.2
  have e : n / 2 / 2 / 2 / 2 / 2 / 2 / 2 / 2 = n / 256 := by omega
  rw [t]
  show n % 2 + (n / 2 % 2 + (n / 2 / 2 % 2 + (n / 2 / 2 / 2 % 2 + (n / 2 / 2 / 2 / 2 % 2 + (n / 2 / 2 / 2 / 2 / 2 % 2 + (n / 2 / 2 / 2 / 2 / 2 / 2 % 2 + (n / 2 / 2 / 2 / 2 / 2 / 2 / 2 % 2 + pc_s k (n / 2 / 2 / 2 / 2 / 2 / 2 / 2 / 2)))))))) = _
  rw [e]
  omega
theorem pc_up : ∀ (k n : Nat), pc_s (k + 1) n = pc_s k n + n / 2 ^ k % 2 := by
  intro k
  induction k with
  | zero => intro n; show n % 2 + 0 = 0 + n / 1 % 2; omega
  | succ k ih =>
    intro n
    show n % 2 + pc_s (k + 1) (n / 2) = n % 2 + pc_s k (n / 2) + n / 2 ^ (k + 1) % 2
    rw [ih (n / 2), Nat.div_div_eq_div_mul, Nat.mul_comm 2, ← Nat.pow_succ, Nat.add_assoc]
theorem pc_end {w n : Nat} (h : n < 2 ^ w) : ∀ k, pc_s (w + k) n = pc_s w n := by
  intro k
  induction k with
  | zero => rfl
  | succ k ih => rw [← Nat.add_assoc, pc_up, ih, bn_big h (by omega)]; rfl
theorem pc_fin {n i3 : Nat} (hn : n < 18446744073709551616) (h3 : i3 = pc_g 8 n) : i3 < 18446744073709551616 ∧ i3 + i3 / 256 < 18446744073709551616 ∧ (i3 + i3 / 256) + (i3 + i3 / 256) / 65536 < 18446744073709551616
    ∧ ((i3 + i3 / 256) + (i3 + i3 / 256) / 65536) + ((i3 + i3 / 256) + (i3 + i3 / 256) / 65536) / 4294967296 < 18446744073709551616
    ∧ (((i3 + i3 / 256) + (i3 + i3 / 256) / 65536) + ((i3 + i3 / 256) + (i3 + i3 / 256) / 65536) / 4294967296) % 128 = pc_s 64 n := by
  have hs : pc_s 64 n = pc_b (n % 256) + (pc_b (n / 256 % 256) + (pc_b (n / 256 / 256 % 256) + (pc_b (n / 256 / 256 / 256 % 256) + (pc_b (n / 256 / 256 / 256 / 256 % 256) + (pc_b (n / 256 / 256 / 256 / 256 / 256 % 256) + (pc_b (n / 256 / 256 / 256 / 256 / 256 / 256 % 256) + (pc_b (n / 256 / 256 / 256 / 256 / 256 / 256 / 256 % 256) + 0))))))) := by
    rw [pc_sum 56, pc_sum 48, pc_sum 40, pc_sum 32, pc_sum 24, pc_sum 16, pc_sum 8, pc_sum 0]; rfl
  have hg : pc_g 8 n = pc_b (n % 256) + 256 * (pc_b (n / 256 % 256) + 256 * (pc_b (n / 256 / 256 % 256) + 256 * (pc_b (n / 256 / 256 / 256 % 256) + 256 * (pc_b (n / 256 / 256 / 256 / 256 % 256) + 256 * (pc_b (n / 256 / 256 / 256 / 256 / 256 % 256) + 256 * (pc_b (n / 256 / 256 / 256 / 256 / 256 / 256 % 256) + 256 * (pc_b (n / 256 / 256 / 256 / 256 / 256 / 256 / 256 % 256) + 256 * 0))))))) := rfl
  rw [hs, h3, hg]
  have b : ∀ z : Nat, pc_b (z % 256) ≤ 8 := fun z => (pc_t3 _ (Nat.mod_lt z (by decide))).2.2.2.1
  have b0 := b n
  have b1 := b (n / 256)
  have b2 := b (n / 256 / 256)
  have b3 := b (n / 256 / 256 / 256)
  have b4 := b (n / 256 / 256 / 256 / 256)
  have b5 := b (n / 256 / 256 / 256 / 256 / 256)
  have b6 := b (n / 256 / 256 / 256 / 256 / 256 / 256)
  have b7 := b (n / 256 / 256 / 256 / 256 / 256 / 256 / 256)
  generalize pc_b (n % 256) = p0 at *
  generalize pc_b (n / 256 % 256) = p1 at *
  generalize pc_b (n / 256 / 256 % 256) = p2 at *
  generalize pc_b (n / 256 / 256 / 256 % 256) = p3 at *
  generalize pc_b (n / 256 / 256 / 256 / 256 % 256) = p4 at *
  generalize pc_b (n / 256 / 256 / 256 / 256 / 256 % 256) = p5 at *
  generalize pc_b (n / 256 / 256 / 256 / 256 / 256 / 256 % 256) = p6 at *
  generalize pc_b (n / 256 / 256 / 256 / 256 / 256 / 256 / 256 % 256) = p7 at *
  clear b hs hg h3
  have e1 : (p0 + 256 * (p1 + 256 * (p2 + 256 * (p3 + 256 * (p4 + 256 * (p5 + 256 * (p6 + 256 * (p7 + 256 * 0)))))))) / 256 = p1 + 256 * (p2 + 256 * (p3 + 256 * (p4 + 256 * (p5 + 256 * (p6 + 256 * p7))))) := by omega
  rw [e1]
  have e2 : (p0 + 256 * (p1 + 256 * (p2 + 256 * (p3 + 256 * (p4 + 256 * (p5 + 256 * (p6 + 256 * (p7 + 256 * 0))))))) + (p1 + 256 * (p2 + 256 * (p3 + 256 * (p4 + 256 * (p5 + 256 * (p6 + 256 * p7))))))) / 65536 = (p2 + p3) + 256 * ((p3 + p4) + 256 * ((p4 + p5) + 256 * ((p5 + p6) + 256 * ((p6 + p7) + 256 * p7)))) := by omega
  rw [e2]
  have e3 : (p0 + 256 * (p1 + 256 * (p2 + 256 * (p3 + 256 * (p4 + 256 * (p5 + 256 * (p6 + 256 * (p7 + 256 * 0))))))) + (p1 + 256 * (p2 + 256 * (p3 + 256 * (p4 + 256 * (p5 + 256 * (p6 + 256 * p7)))))) + ((p2 + p3) + 256 * ((p3 + p4) + 256 * ((p4 + p5) + 256 * ((p5 + p6) + 256 * ((p6 + p7) + 256 * p7)))))) / 4294967296 = (p4 + p5 + p6 + p7) + 256 * ((p5 + p6 + p7) + 256 * ((p6 + p7) + 256 * p7)) := by omega
  rw [e3]
  refine ⟨?_, ?_, ?_, ?_, ?_⟩ <;> omega
