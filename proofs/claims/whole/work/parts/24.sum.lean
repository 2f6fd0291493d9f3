/-! sums of bits -/
def pc_s : Nat → Nat → Nat
  | 0, _ => 0
  | k + 1, n => n % 2 + pc_s k (n / 2)
theorem pc_up : ∀ (k n : Nat), pc_s (k + 1) n = pc_s k n + n / 2 ^ k % 2 := by
  intro k
  induction k with
  | zero => intro n; show n % 2 + 0 = 0 + n / 1 % 2; omega
  | succ k ih =>
    intro n
    show n % 2 + pc_s (k + 1) (n / 2) = n % 2 + pc_s k (n / 2) + n / 2 ^ (k + 1) % 2
    rw [ih (n / 2), Nat.div_div_eq_div_mul, Nat.mul_comm 2, ← Nat.pow_succ, Nat.add_assoc]
theorem pc_end {w n : Nat} (h : n < 2 ^ w) : ∀ k, pc_s (w + k) n = pc_s w n := by
  intro k
  induction k with
  | zero => rfl
  | succ k ih => rw [← Nat.add_assoc, pc_up, ih, bn_big h (by omega)]; rfl
