/-! bits and values of longs; rows of the reference; sums of bits -/
def lb_t (x : Int64) (i : Nat) : Bool := x.toBitVec.getLsbD i
def lb_n (x : Int64) : Nat := x.toBitVec.toNat
theorem lb_tn (x : Int64) (i : Nat) : lb_t x i = (lb_n x).testBit i := rfl
theorem lb_lt (x : Int64) : lb_n x < 18446744073709551616 := x.toBitVec.isLt
theorem lb_inj {x y : Int64} (h : lb_n x = lb_n y) : x = y := Int64.toBitVec_inj.mp (BitVec.eq_of_toNat_eq h)
theorem lb_ext {x y : Int64} (h : ∀ i, i < 64 → lb_t x i = lb_t y i) : x = y := Int64.toBitVec_inj.mp (BitVec.eq_of_getLsbD_eq (fun i hi => h i hi))
theorem lb_big {x : Int64} {i : Nat} (h : 64 ≤ i) : lb_t x i = false := BitVec.getLsbD_of_ge _ _ h
theorem lb_or (x y : Int64) (i : Nat) : lb_t (x ||| y) i = (lb_t x i || lb_t y i) := by unfold lb_t; rw [Int64.toBitVec_or, BitVec.getLsbD_or]
theorem lb_and (x y : Int64) (i : Nat) : lb_t (x &&& y) i = (lb_t x i && lb_t y i) := by unfold lb_t; rw [Int64.toBitVec_and, BitVec.getLsbD_and]
theorem lb_xor (x y : Int64) (i : Nat) : lb_t (x ^^^ y) i = (lb_t x i ^^ lb_t y i) := by unfold lb_t; rw [Int64.toBitVec_xor, BitVec.getLsbD_xor]
theorem lb_m1 : ∀ i, i < 64 → lb_t (-1) i = true := by decide +kernel
theorem lb_0 (i : Nat) : lb_t 0 i = false := BitVec.getLsbD_zero
theorem lb_1 (i : Nat) : lb_t 1 i = decide (i = 0) := by
  rcases Nat.lt_or_ge i 64 with h | h
  · exact (by decide +kernel : ∀ i, i < 64 → lb_t 1 i = decide (i = 0)) i h
  · rw [lb_big h, decide_eq_false (by omega)]
theorem lb_not {i : Nat} (h : i < 64) (x : Int64) : lb_t (x ^^^ (-1)) i = !lb_t x i := by
  rw [lb_xor, lb_m1 i h]
  cases lb_t x i <;> rfl
theorem lb_sl : ∀ k, k < 64 → (((nI k).toInt64 &&& 63).toBitVec.smod 64).toNat = k := by decide +kernel
theorem lb_su : ∀ k, k < 64 → (((nI k).toInt64.toUInt64 &&& Int64.toUInt64 63).toBitVec % 64).toNat = k := by decide +kernel
theorem lb_shl {k : Nat} (hk : k < 64) (x : Int64) {i : Nat} (hi : i < 64) : lb_t (x <<< ((nI k).toInt64 &&& 63)) i = (decide (k ≤ i) && lb_t x (i - k)) := by
  unfold lb_t
  rw [Int64.toBitVec_shiftLeft]
  show (x.toBitVec <<< (((nI k).toInt64 &&& 63).toBitVec.smod 64).toNat).getLsbD i = _
  rw [lb_sl k hk, BitVec.getLsbD_shiftLeft]
  rcases Nat.lt_or_ge i k with h | h
  · simp [h, Nat.not_le.mpr h]
  · simp [hi, h, Nat.not_lt.mpr h]
theorem lb_ushr {k : Nat} (hk : k < 64) (x : Int64) (i : Nat) : lb_t ((x.toUInt64 >>> ((nI k).toInt64.toUInt64 &&& Int64.toUInt64 63)).toInt64) i = lb_t x (k + i) := by
  show (x.toUInt64 >>> ((nI k).toInt64.toUInt64 &&& Int64.toUInt64 63)).toBitVec.getLsbD i = x.toUInt64.toBitVec.getLsbD (k + i)
  rw [UInt64.toBitVec_shiftRight]
  show (x.toUInt64.toBitVec >>> (((nI k).toInt64.toUInt64 &&& Int64.toUInt64 63).toBitVec % 64).toNat).getLsbD i = _
  rw [lb_su k hk, BitVec.getLsbD_ushiftRight]
theorem lb_sshr {k : Nat} (hk : k < 64) (x : Int64) {i : Nat} (hi : i < 64) : lb_t (x >>> ((nI k).toInt64 &&& 63)) i = if k + i < 64 then lb_t x (k + i) else lb_t x 63 := by
  unfold lb_t
  rw [Int64.toBitVec_shiftRight]
  show (x.toBitVec.sshiftRight (((nI k).toInt64 &&& 63).toBitVec.smod 64).toNat).getLsbD i = _
  rw [lb_sl k hk, BitVec.getLsbD_sshiftRight, BitVec.msb_eq_getLsbD_last]
  simp [hi]
/-! the lowest w bits; masked longs; the highest bit in front -/
def lb_low (w : Nat) : Int64 := ((-1 : Int64).toUInt64 >>> ((nI (64 - w)).toInt64.toUInt64 &&& Int64.toUInt64 63)).toInt64
theorem lb_lowt {w : Nat} (h1 : 1 ≤ w) (h2 : w ≤ 64) (i : Nat) : lb_t (lb_low w) i = decide (i < w) := by
  unfold lb_low
  rw [lb_ushr (by omega)]
  rcases Nat.lt_or_ge i w with h | h
  · rw [lb_m1 _ (by omega), decide_eq_true h]
  · rw [lb_big (by omega), decide_eq_false (by omega)]
def lb_mk (w : Nat) (x : Int64) : Prop := ∀ i, w ≤ i → lb_t x i = false
theorem lb_mkn {w : Nat} {x : Int64} : lb_mk w x ↔ lb_n x < 2 ^ w :=
  ⟨fun h => Nat.lt_pow_two_of_testBit _ (fun i hi => h i hi), fun h i hi => Nat.testBit_lt_two_pow (Nat.lt_of_lt_of_le h (Nat.pow_le_pow_right (by decide) hi))⟩
theorem lb_mk0 (w : Nat) : lb_mk w 0 := fun i _ => lb_0 i
theorem lb_mask {w : Nat} (h1 : 1 ≤ w) (h2 : w ≤ 64) (x : Int64) : lb_mk w (x &&& lb_low w) := by
  intro i hi
  rw [lb_and, lb_lowt h1 h2, decide_eq_false (by omega), Bool.and_false]
theorem lb_maskt {w : Nat} (h1 : 1 ≤ w) (h2 : w ≤ 64) (x : Int64) {i : Nat} (hi : i < w) : lb_t (x &&& lb_low w) i = lb_t x i := by
  rw [lb_and, lb_lowt h1 h2, decide_eq_true hi, Bool.and_true]
theorem lb_masked {w : Nat} (h1 : 1 ≤ w) (h2 : w ≤ 64) {x : Int64} (h : lb_mk w x) : x &&& lb_low w = x := by
  apply lb_ext
  intro i _
  rcases Nat.lt_or_ge i w with hi | hi
  · exact lb_maskt h1 h2 x hi
  · rw [lb_mask h1 h2 x i hi, h i hi]
theorem lb_eqm {w : Nat} {x y : Int64} (hx : lb_mk w x) (hy : lb_mk w y) (h : ∀ i, i < w → lb_t x i = lb_t y i) : x = y := by
  apply lb_ext
  intro i _
  rcases Nat.lt_or_ge i w with hi | hi
  · exact h i hi
  · rw [hx i hi, hy i hi]
theorem lb_zero {w : Nat} {x : Int64} (h : lb_mk w x) : x = 0 ↔ ∀ i, i < w → lb_t x i = false :=
  ⟨fun e i _ => by rw [e]; exact lb_0 i, fun z => lb_eqm h (lb_mk0 w) (fun i hi => by rw [z i hi, lb_0])⟩
theorem lb_nz {x : Int64} (h : ¬ x = 0) : ∃ i, i < 64 ∧ lb_t x i = true := by
  apply Classical.byContradiction
  intro hn
  apply h
  apply lb_ext
  intro i hi
  rw [lb_0]
  cases hb : lb_t x i
  · rfl
  · exact absurd ⟨i, hi, hb⟩ hn
theorem lb_nmask {w : Nat} (h1 : 1 ≤ w) (h2 : w ≤ 64) (x : Int64) : lb_n (x &&& lb_low w) = lb_n x % 2 ^ w := by
  apply Nat.eq_of_testBit_eq
  intro i
  rw [Nat.testBit_mod_two_pow, ← lb_tn, ← lb_tn, lb_and, lb_lowt h1 h2, Bool.and_comm]
def lb_hf (w : Nat) (x : Int64) : Int64 := (x <<< ((nI (64 - w)).toInt64 &&& 63)) >>> ((nI (64 - w)).toInt64 &&& 63)
theorem lb_hft {w : Nat} (h1 : 1 ≤ w) (h2 : w ≤ 64) (x : Int64) {i : Nat} (hi : i < 64) : lb_t (lb_hf w x) i = if i < w then lb_t x i else lb_t x (w - 1) := by
  unfold lb_hf
  rw [lb_sshr (by omega) _ hi]
  by_cases h : i < w
  · rw [if_pos (by omega), if_pos h, lb_shl (by omega) _ (by omega), decide_eq_true (by omega), Bool.true_and]
    congr 1
    omega
  · rw [if_neg (by omega), if_neg h, lb_shl (by omega) _ (by omega), decide_eq_true (by omega), Bool.true_and]
    congr 1
    omega
/-! values -/
theorem lb_add (x y : Int64) : lb_n (x + y) = (lb_n x + lb_n y) % 18446744073709551616 := by
  unfold lb_n; rw [Int64.toBitVec_add, BitVec.toNat_add]
theorem lb_mul (x y : Int64) : lb_n (x * y) = (lb_n x * lb_n y) % 18446744073709551616 := by
  unfold lb_n; rw [Int64.toBitVec_mul, BitVec.toNat_mul]
theorem lb_sub (x y : Int64) : lb_n (x - y) = (18446744073709551616 - lb_n y + lb_n x) % 18446744073709551616 := by
  unfold lb_n; rw [Int64.toBitVec_sub, BitVec.toNat_sub]
theorem lb_neg (x : Int64) : lb_n (-x) = (18446744073709551616 - lb_n x) % 18446744073709551616 := by
  unfold lb_n; rw [Int64.toBitVec_neg, BitVec.toNat_neg]
theorem lb_lN {n : Nat} (h : n < 18446744073709551616) : lb_n (lN n) = n := Nat.mod_eq_of_lt h
theorem lb_of (x : Int64) : x = lN (lb_n x) := lb_inj (lb_lN (lb_lt x)).symm
theorem lb_int (x : Int64) : x.toInt = if 2 * lb_n x < 18446744073709551616 then (lb_n x : Int) else (lb_n x : Int) - 18446744073709551616 := BitVec.toInt_eq_toNat_cond _
theorem lb_ush {k : Nat} (hk : k < 64) (x : Int64) : lb_n ((x.toUInt64 >>> ((nI k).toInt64.toUInt64 &&& Int64.toUInt64 63)).toInt64) = lb_n x / 2 ^ k := by
  apply Nat.eq_of_testBit_eq
  intro i
  rw [Nat.testBit_div_two_pow, ← lb_tn, ← lb_tn, lb_ushr hk, Nat.add_comm]
theorem lb_shn {k : Nat} (hk : k < 64) (x : Int64) : lb_n (x <<< ((nI k).toInt64 &&& 63)) = lb_n x * 2 ^ k % 18446744073709551616 := by
  unfold lb_n
  rw [Int64.toBitVec_shiftLeft]
  show (x.toBitVec <<< (((nI k).toInt64 &&& 63).toBitVec.smod 64).toNat).toNat = _
  rw [lb_sl k hk, BitVec.toNat_shiftLeft, Nat.shiftLeft_eq]
/-- what a value of w bits with sign counts -/
def lb_sv (w n : Nat) : Int := if n < 2 ^ (w - 1) then (n : Int) else (n : Int) - 2 ^ w
theorem lb_top {w n : Nat} (h1 : 1 ≤ w) (h : n < 2 ^ w) : n.testBit (w - 1) = decide (2 ^ (w - 1) ≤ n) := by
  obtain ⟨v, rfl⟩ : ∃ v, w = v + 1 := ⟨w - 1, by omega⟩
  rw [Nat.add_sub_cancel, Nat.testBit_eq_decide_div_mod_eq]
  have hp : 0 < 2 ^ v := Nat.two_pow_pos v
  rw [Nat.pow_succ] at h
  by_cases c : 2 ^ v ≤ n
  · have e : n / 2 ^ v = 1 := by
      apply Nat.div_eq_of_lt_le <;> omega
    rw [e, decide_eq_true c]; rfl
  · rw [Nat.div_eq_of_lt (by omega), decide_eq_false c]; rfl
theorem lb_hfn {w : Nat} (h1 : 1 ≤ w) (h2 : w ≤ 64) {x : Int64} (h : lb_n x < 2 ^ w) : lb_n (lb_hf w x) = if lb_n x < 2 ^ (w - 1) then lb_n x else lb_n x + (18446744073709551616 - 2 ^ w) := by
  have hp : 2 ^ w ≤ 2 ^ 64 := Nat.pow_le_pow_right (by decide) h2
  have ht := lb_top h1 h
  apply Nat.eq_of_testBit_eq
  intro i
  rcases Nat.lt_or_ge i 64 with hi | hi
  · rw [← lb_tn, lb_hft h1 h2 x hi]
    by_cases c : lb_n x < 2 ^ (w - 1)
    · rw [if_pos c]
      by_cases d : i < w
      · rw [if_pos d]; rfl
      · rw [if_neg d]
        show (lb_n x).testBit (w - 1) = _
        rw [ht, decide_eq_false (by omega), Nat.testBit_lt_two_pow (Nat.lt_of_lt_of_le h (Nat.pow_le_pow_right (by decide) (by omega)))]
    · rw [if_neg c]
      have e : lb_n x + (18446744073709551616 - 2 ^ w) = lb_n x + 2 ^ w * (2 ^ (64 - w) - 1) := by
        rw [Nat.mul_sub, ← Nat.pow_add, show w + (64 - w) = 64 by omega, Nat.mul_one]
      rw [e, Nat.add_comm, Nat.two_pow_add_eq_or_of_lt h] 
      rw [Nat.testBit_or]
      by_cases d : i < w
      · rw [if_pos d]
        have z : (2 ^ w * (2 ^ (64 - w) - 1)).testBit i = false := by
          rw [Nat.testBit_two_pow_mul, decide_eq_false (by omega), Bool.false_and]
        rw [z, Bool.false_or]; rfl
      · rw [if_neg d]
        have z : (2 ^ w * (2 ^ (64 - w) - 1)).testBit i = true := by
          rw [Nat.testBit_two_pow_mul, decide_eq_true (by omega), Bool.true_and, Nat.testBit_two_pow_sub_one, decide_eq_true (by omega)]
        rw [z, Bool.true_or]
        show (lb_n x).testBit (w - 1) = _
        rw [ht, decide_eq_true (by omega)]
  · rw [Nat.testBit_lt_two_pow (Nat.lt_of_lt_of_le (lb_lt _) (Nat.pow_le_pow_right (n := 2) (by decide) hi))]
    symm
    apply Nat.testBit_lt_two_pow
    apply Nat.lt_of_lt_of_le _ (Nat.pow_le_pow_right (n := 2) (by decide) hi)
    split <;> omega
theorem lb_hfi {w : Nat} (h1 : 1 ≤ w) (h2 : w ≤ 64) {x : Int64} (h : lb_n x < 2 ^ w) : (lb_hf w x).toInt = lb_sv w (lb_n x) := by
  have hp : 2 ^ w ≤ 2 ^ 64 := Nat.pow_le_pow_right (by decide) h2
  have hq : 2 ^ w = 2 * 2 ^ (w - 1) := by rw [Nat.mul_comm, ← Nat.pow_succ]; congr 1; omega
  have hc : ((2 ^ w : Nat) : Int) = (2 : Int) ^ w := by simp
  rw [lb_int, lb_hfn h1 h2 h]
  unfold lb_sv
  rw [← hc]
  split <;> split <;> omega
/-! unsigned order -/
theorem lb_ult (x y : Int64) : x + (-9223372036854775808) < y + (-9223372036854775808) ↔ lb_n x < lb_n y := by
  have hx := lb_lt x
  have hy := lb_lt y
  have e : lb_n (-9223372036854775808) = 9223372036854775808 := by decide +kernel
  rw [Int64.lt_iff_toInt_lt, lb_int, lb_int, lb_add, lb_add, e]
  split <;> split <;> omega
/-! one bit of a number -/
theorem bn_t (n i : Nat) : n / 2 ^ i % 2 = (n.testBit i).toNat := (Nat.toNat_testBit n i).symm
theorem bn_2 (n i : Nat) : n / 2 ^ i % 2 < 2 := Nat.mod_lt _ (by decide)
theorem bn_mod {w i : Nat} (n : Nat) (h : i < w) : n % 2 ^ w / 2 ^ i % 2 = n / 2 ^ i % 2 := by
  rw [bn_t, bn_t, Nat.testBit_mod_two_pow, decide_eq_true h, Bool.true_and]
theorem bn_big {w i n : Nat} (h : n < 2 ^ w) (hi : w ≤ i) : n / 2 ^ i % 2 = 0 := by
  rw [bn_t, Nat.testBit_lt_two_pow (Nat.lt_of_lt_of_le h (Nat.pow_le_pow_right (by decide) hi))]; rfl
theorem bn_ext {w n m : Nat} (h : ∀ i, i < w → n / 2 ^ i % 2 = m / 2 ^ i % 2) : n % 2 ^ w = m % 2 ^ w := by
  apply Nat.eq_of_testBit_eq
  intro i
  rw [Nat.testBit_mod_two_pow, Nat.testBit_mod_two_pow]
  by_cases d : i < w
  · rw [Nat.testBit_eq_decide_div_mod_eq, Nat.testBit_eq_decide_div_mod_eq, h i d]
  · rw [decide_eq_false d, Bool.false_and, Bool.false_and]
theorem bn_step (n i : Nat) : n / 2 ^ i = 2 * (n / 2 ^ (i + 1)) + n / 2 ^ i % 2 := by
  rw [Nat.pow_succ, ← Nat.div_div_eq_div_mul]; omega
theorem bn_cmp {w n : Nat} (i : Nat) (h : n < 2 ^ w) (hi : i < w) : (2 ^ w - 1 - n) / 2 ^ i % 2 = 1 - n / 2 ^ i % 2 := by
  rw [bn_t, bn_t, show 2 ^ w - 1 - n = 2 ^ w - (n + 1) by omega, Nat.testBit_two_pow_sub_succ h, decide_eq_true hi, Bool.true_and]
  cases n.testBit i <;> rfl
/-! sums with carry -/
theorem ar_bit (X Y c i : Nat) : (X + Y + c) / 2 ^ i % 2 = (X / 2 ^ i % 2 + Y / 2 ^ i % 2 + (X % 2 ^ i + Y % 2 ^ i + c) / 2 ^ i) % 2 := by
  have hp : 0 < 2 ^ i := Nat.two_pow_pos i
  have hx := Nat.div_add_mod X (2 ^ i)
  have hy := Nat.div_add_mod Y (2 ^ i)
  have e : X + Y + c = (X % 2 ^ i + Y % 2 ^ i + c) + 2 ^ i * (X / 2 ^ i + Y / 2 ^ i) := by rw [Nat.mul_add]; omega
  have e2 : (X + Y + c) / 2 ^ i = (X % 2 ^ i + Y % 2 ^ i + c) / 2 ^ i + (X / 2 ^ i + Y / 2 ^ i) := by
    rw [e, Nat.add_mul_div_left _ _ hp]
  rw [e2]
  omega
theorem ar_car (X Y c i : Nat) : (X % 2 ^ (i + 1) + Y % 2 ^ (i + 1) + c) / 2 ^ (i + 1) = (X / 2 ^ i % 2 + Y / 2 ^ i % 2 + (X % 2 ^ i + Y % 2 ^ i + c) / 2 ^ i) / 2 := by
  have hp : 0 < 2 ^ i := Nat.two_pow_pos i
  rw [Nat.pow_succ, Nat.mod_mul, Nat.mod_mul, ← Nat.div_div_eq_div_mul]
  have e : X % 2 ^ i + 2 ^ i * (X / 2 ^ i % 2) + (Y % 2 ^ i + 2 ^ i * (Y / 2 ^ i % 2)) + c = (X % 2 ^ i + Y % 2 ^ i + c) + 2 ^ i * (X / 2 ^ i % 2 + Y / 2 ^ i % 2) := by rw [Nat.mul_add]; omega
  rw [e, Nat.add_mul_div_left _ _ hp]
  congr 1
  omega
theorem ar_dig (A b k : Nat) : (2 * A + b) / 10 ^ k % 10 = (2 * (A / 10 ^ k % 10) + (2 * (A % 10 ^ k) + b) / 10 ^ k) % 10 := by
  have hp : 0 < 10 ^ k := Nat.pow_pos (by decide)
  have hx := Nat.div_add_mod A (10 ^ k)
  have e : 2 * A + b = (2 * (A % 10 ^ k) + b) + 10 ^ k * (2 * (A / 10 ^ k)) := by
    have : 10 ^ k * (2 * (A / 10 ^ k)) = 2 * (10 ^ k * (A / 10 ^ k)) := by rw [← Nat.mul_assoc, Nat.mul_comm (10 ^ k) 2, Nat.mul_assoc]
    omega
  have e2 : (2 * A + b) / 10 ^ k = (2 * (A % 10 ^ k) + b) / 10 ^ k + 2 * (A / 10 ^ k) := by
    rw [e, Nat.add_mul_div_left _ _ hp]
  rw [e2]
  omega
theorem ar_dcar (A b k : Nat) : (2 * (A % 10 ^ (k + 1)) + b) / 10 ^ (k + 1) = (2 * (A / 10 ^ k % 10) + (2 * (A % 10 ^ k) + b) / 10 ^ k) / 10 := by
  have hp : 0 < 10 ^ k := Nat.pow_pos (by decide)
  rw [Nat.pow_succ, Nat.mod_mul, ← Nat.div_div_eq_div_mul]
  have e : 2 * (A % 10 ^ k + 10 ^ k * (A / 10 ^ k % 10)) + b = (2 * (A % 10 ^ k) + b) + 10 ^ k * (2 * (A / 10 ^ k % 10)) := by
    have : 10 ^ k * (2 * (A / 10 ^ k % 10)) = 2 * (10 ^ k * (A / 10 ^ k % 10)) := by rw [← Nat.mul_assoc, Nat.mul_comm (10 ^ k) 2, Nat.mul_assoc]
    omega
  rw [e, Nat.add_mul_div_left _ _ hp]
  congr 1
  omega
/-! rows of the reference: a bit is 0, 1, 2 (z) or 3 (x) -/
def rw_q (a b : Bool) : Int32 := if b then (if a then 3 else 2) else (if a then 1 else 0)
def rw_R (f : Nat → Int32) (w : Nat) (O U : Int64) : Prop := ∀ i, i < w → f i = rw_q (lb_t O i) (lb_t U i)
def rw_N (f : Nat → Int32) (w : Nat) (n : Nat) : Prop := ∀ i, i < w → f i = nI (n / 2 ^ i % 2)
theorem rw_q0 (a : Bool) : rw_q a false = nI a.toNat := by cases a <;> rfl
theorem rw_RN {f : Nat → Int32} {w : Nat} {O : Int64} (h : rw_R f w O 0) : rw_N f w (lb_n O) := by
  intro i hi
  rw [h i hi, lb_0, rw_q0, bn_t]; rfl
theorem rw_NR {f : Nat → Int32} {w n : Nat} {O : Int64} (h : rw_N f w n) (e : lb_n O % 2 ^ w = n % 2 ^ w) : rw_R f w O 0 := by
  intro i hi
  rw [h i hi, lb_0, rw_q0, ← bn_mod n hi, ← e, bn_mod _ hi, bn_t]; rfl
theorem rw_qd (a b : Bool) : (1 < rw_q a b) ↔ b = true := by cases a <;> cases b <;> decide
theorem rw_q1 (a b : Bool) : (rw_q a b = 1) ↔ (a = true ∧ b = false) := by cases a <;> cases b <;> decide
theorem rw_qz (a b : Bool) : (rw_q a b = 0) ↔ (a = false ∧ b = false) := by cases a <;> cases b <;> decide
theorem rw_q2 (a b : Bool) : (rw_q a b = 2) ↔ (a = false ∧ b = true) := by cases a <;> cases b <;> decide
theorem rw_q3 (a b : Bool) : (rw_q a b = 3) ↔ (a = true ∧ b = true) := by cases a <;> cases b <;> decide
theorem rw_qe (a b c d : Bool) : (rw_q a b = rw_q c d) ↔ (a = c ∧ b = d) := by cases a <;> cases b <;> cases c <;> cases d <;> decide
theorem rw_nb (a b : Bool) : vp_nar .byte (rw_q a b) = rw_q a b := by cases a <;> cases b <;> rfl
theorem rw_nk : ∀ k, k < 128 → vp_nar .byte (nI k) = nI k := by decide +kernel
theorem rw_nkb : ∀ k, k < 128 → (nI k).toInt8.toInt32 = nI k := by decide +kernel
theorem rw_z0 : vp_nar .boolean 0 = 0 := rfl
theorem rw_z1 : vp_nar .boolean 1 = 1 := rfl
