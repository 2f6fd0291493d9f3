/-! division, order, decimal numbers -/
theorem dv_step {Q B a : Nat} (hB : 0 < B) (ha : a ≤ 1) : (2 * Q + a) / B = 2 * (Q / B) + (if 2 * (Q % B) + a < B then 0 else 1) ∧ (2 * Q + a) % B = (if 2 * (Q % B) + a < B then 2 * (Q % B) + a else 2 * (Q % B) + a - B) := by
  have h := Nat.div_add_mod Q B
  have m := Nat.mod_lt Q hB
  generalize Q / B = q at *
  generalize Q % B = r at *
  have e : 2 * Q + a = (2 * r + a) + B * (2 * q) := by
    have : B * (2 * q) = 2 * (B * q) := by rw [← Nat.mul_assoc, Nat.mul_comm B 2, Nat.mul_assoc]
    omega
  rw [e, Nat.add_mul_div_left _ _ hB, Nat.add_mul_mod_self_left]
  by_cases c : 2 * r + a < B
  · rw [if_pos c, if_pos c, Nat.div_eq_of_lt c, Nat.mod_eq_of_lt c]
    exact ⟨by omega, rfl⟩
  · rw [if_neg c, if_neg c]
    have d1 : (2 * r + a) / B = 1 := Nat.div_eq_of_lt_le (by omega) (by omega)
    have d2 := Nat.div_add_mod (2 * r + a) B
    rw [d1] at d2 ⊢
    exact ⟨by omega, by omega⟩
theorem cp_lt {R B i : Nat} (h : R / 2 ^ i < B / 2 ^ i) : R < B := by
  apply Classical.byContradiction
  intro c
  have := Nat.div_le_div_right (c := 2 ^ i) (show B ≤ R by omega)
  omega
theorem sg_abs {w A : Nat} (h1 : 1 ≤ w) (hA : A < 2 ^ w) {t : Bool} (ht : t = decide (A / 2 ^ (w - 1) % 2 = 1)) : lb_sv w A = if t then -(((2 ^ w - A : Nat)) : Int) else (A : Int) := by
  rw [sd_sv h1 hA, ht]
  by_cases c : A / 2 ^ (w - 1) % 2 = 1
  · rw [if_pos c, decide_eq_true c, if_pos rfl]
  · rw [if_neg c, decide_eq_false c, if_neg (by decide)]
def sg_a (t : Bool) (w A : Nat) : Nat := if t then 2 ^ w - A else A
theorem sg_e {w q : Nat} (t : Bool) (hq : q ≤ 2 ^ w) : ((sg_a t w q : Nat) : Int) % ((2 ^ w : Nat) : Int) = (if t then -(q : Int) else (q : Int)) % ((2 ^ w : Nat) : Int) := by
  unfold sg_a
  cases t
  · rw [if_neg (by decide), if_neg (by decide)]
  · rw [if_pos rfl, if_pos rfl, show ((2 ^ w - q : Nat) : Int) = -(q : Int) + ((2 ^ w : Nat) : Int) by omega, Int.add_emod_right]
theorem sg_div {w A B : Nat} (h1 : 1 ≤ w) (h2 : w ≤ 64) (hA : A < 2 ^ w) (hB : B < 2 ^ w) {x y : Int64} (hx : x.toInt = lb_sv w A) (hy : y.toInt = lb_sv w B) {s t : Bool} (hs : s = decide (A / 2 ^ (w - 1) % 2 = 1)) (ht : t = decide (B / 2 ^ (w - 1) % 2 = 1)) :
    lb_n (x / y) % 2 ^ w = sg_a (s != t) w (sg_a s w A / sg_a t w B) % 2 ^ w ∧ lb_n (x - x / y * y) % 2 ^ w = sg_a s w (sg_a s w A % sg_a t w B) % 2 ^ w := by
  have qa : sg_a s w A ≤ 2 ^ w := by unfold sg_a; split <;> omega
  have qq : sg_a s w A / sg_a t w B ≤ 2 ^ w := Nat.le_trans (Nat.div_le_self _ _) qa
  have qr : sg_a s w A % sg_a t w B ≤ 2 ^ w := Nat.le_trans (Nat.mod_le _ _) qa
  have ex : x.toInt = if s then -((sg_a s w A : Nat) : Int) else ((sg_a s w A : Nat) : Int) := by
    rw [hx, sg_abs h1 hA hs]; unfold sg_a; cases s <;> simp
  have ey : y.toInt = if t then -((sg_a t w B : Nat) : Int) else ((sg_a t w B : Nat) : Int) := by
    rw [hy, sg_abs h1 hB ht]; unfold sg_a; cases t <;> simp
  generalize sg_a s w A = a at *
  generalize sg_a t w B = b at *
  have eq : x.toInt.tdiv y.toInt = if (s != t) then -((a / b : Nat) : Int) else ((a / b : Nat) : Int) := by
    rw [ex, ey, Int.ofNat_tdiv]
    cases s <;> cases t <;> simp [Int.neg_tdiv, Int.tdiv_neg]
  have er : x.toInt.tmod y.toInt = if s then -((a % b : Nat) : Int) else ((a % b : Nat) : Int) := by
    rw [ex, ey, Int.ofNat_tmod]
    cases s <;> cases t <;> simp [Int.neg_tmod, Int.tmod_neg]
  have k1 : (x / y).toInt % ((2 ^ w : Nat) : Int) = x.toInt.tdiv y.toInt % ((2 ^ w : Nat) : Int) := by rw [Int64.toInt_div, sd_bm h2]
  refine ⟨?_, ?_⟩
  · apply sd_nat h2
    rw [k1, eq, ← sg_e _ qq]
  · apply sd_nat h2
    have k2 : (x - x / y * y).toInt % ((2 ^ w : Nat) : Int) = x.toInt.tmod y.toInt % ((2 ^ w : Nat) : Int) := by
      rw [Int64.toInt_sub, sd_bm h2, Int.sub_emod, Int64.toInt_mul, sd_bm h2, Int.mul_emod, k1, ← Int.mul_emod, ← Int.sub_emod, Int.tmod_def, Int.mul_comm]
    rw [k2, er, ← sg_e _ qr]
/-! numbers of decimal places -/
def dg_is (d N : Nat) : Prop := 1 ≤ d ∧ N < 10 ^ d ∧ (d = 1 ∨ 10 ^ (d - 1) ≤ N)
theorem dg_one {d e N : Nat} (h : dg_is d N) (k : dg_is e N) : d = e := by
  obtain ⟨h1, h2, h3⟩ := h
  obtain ⟨k1, k2, k3⟩ := k
  rcases Nat.lt_trichotomy d e with c | c | c
  · exfalso
    have : 10 ^ d ≤ 10 ^ (e - 1) := Nat.pow_le_pow_right (by decide) (by omega)
    omega
  · exact c
  · exfalso
    have : 10 ^ e ≤ 10 ^ (d - 1) := Nat.pow_le_pow_right (by decide) (by omega)
    omega
theorem dg_z {k N : Nat} : N / 10 ^ k = 0 ↔ N < 10 ^ k := by
  rw [Nat.div_eq_zero_iff]
  have : 0 < 10 ^ k := Nat.pow_pos (by decide)
  omega
theorem dg_s (N k : Nat) : N / 10 ^ k / 10 = N / 10 ^ (k + 1) := by rw [Nat.div_div_eq_div_mul, Nat.pow_succ]
theorem dg_20 {d N : Nat} (h : dg_is d N) (hN : N < 18446744073709551616) : d ≤ 20 := by
  obtain ⟨h1, h2, h3⟩ := h
  apply Classical.byContradiction
  intro c
  have : 10 ^ 20 ≤ 10 ^ (d - 1) := Nat.pow_le_pow_right (by decide) (by omega)
  omega
