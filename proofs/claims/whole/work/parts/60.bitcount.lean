/-! Long.bitCount, and the sums of ones -/
theorem lb_nand (x y : Int64) : lb_n (x &&& y) = lb_n x &&& lb_n y := by unfold lb_n; rw [Int64.toBitVec_and, BitVec.toNat_and]
theorem bc_5 : lb_n (6148914691236517205 : Int64) = pc_m 85 8 := by decide +kernel
theorem bc_3 : lb_n (3689348814741910323 : Int64) = pc_m 51 8 := by decide +kernel
theorem bc_f : lb_n (1085102592571150095 : Int64) = pc_m 15 8 := by decide +kernel
theorem bc_3v : pc_m 51 8 = 3689348814741910323 := by decide +kernel
theorem sx_bitCount {x : Int64} {post : Int32 → Prop} (hq : post (nI (pc_s 64 (lb_n x)))) : wp_J_bitCount post x := by
  have hn := lb_lt x
  unfold wp_J_bitCount
  intro v1 h1 v2 h2 v3 h3 v4 h4 v5 h5 v6 h6
  have a1 : lb_n v1 = pc_1 8 (lb_n x) := by
    have l : (lb_n x / 2 &&& pc_m 85 8) ≤ lb_n x / 2 := Nat.and_le_left
    rw [h1, lb_sub, lb_nand, sx_half, bc_5]
    unfold pc_1
    generalize (lb_n x / 2 &&& pc_m 85 8) = z at *
    omega
  have a2 : lb_n v2 = pc_2 8 (pc_1 8 (lb_n x)) ∧ lb_n v2 ≤ 7378697629483820646 := by
    have e : lb_n ((v1.toUInt64 >>> ((2 : Int32).toInt64.toUInt64 &&& Int64.toUInt64 63)).toInt64) = lb_n v1 / 4 := lb_ush (k := 2) (by decide) v1
    have l1 : (lb_n v1 &&& pc_m 51 8) ≤ pc_m 51 8 := Nat.and_le_right
    have l2 : (lb_n v1 / 4 &&& pc_m 51 8) ≤ pc_m 51 8 := Nat.and_le_right
    rw [bc_3v] at l1 l2
    rw [h2, lb_add, lb_nand, lb_nand, e, bc_3, ← a1]
    unfold pc_2
    rw [bc_3v]
    generalize (lb_n v1 &&& 3689348814741910323) = y at *
    generalize (lb_n v1 / 4 &&& 3689348814741910323) = z at *
    omega
  have a3 : lb_n v3 = pc_g 8 (lb_n x) := by
    have e : lb_n ((v2.toUInt64 >>> ((4 : Int32).toInt64.toUInt64 &&& Int64.toUInt64 63)).toInt64) = lb_n v2 / 16 := lb_ush (k := 4) (by decide) v2
    have b := a2.2
    rw [← (pc_main 8 (lb_n x) hn).1, ← a2.1, h3, lb_nand, lb_add, e, bc_f, Nat.mod_eq_of_lt (by omega)]
    rfl
  obtain ⟨f1, f2, f3, f4, f5⟩ := pc_fin hn a3
  have a4 : lb_n v4 = lb_n v3 + lb_n v3 / 256 := by
    have e : lb_n ((v3.toUInt64 >>> ((8 : Int32).toInt64.toUInt64 &&& Int64.toUInt64 63)).toInt64) = lb_n v3 / 256 := lb_ush (k := 8) (by decide) v3
    rw [h4, lb_add, e, Nat.mod_eq_of_lt f2]
  have a5 : lb_n v5 = lb_n v4 + lb_n v4 / 65536 := by
    have e : lb_n ((v4.toUInt64 >>> ((16 : Int32).toInt64.toUInt64 &&& Int64.toUInt64 63)).toInt64) = lb_n v4 / 65536 := lb_ush (k := 16) (by decide) v4
    rw [h5, lb_add, e, a4, Nat.mod_eq_of_lt f3]
  have a6 : lb_n v6 = lb_n v5 + lb_n v5 / 4294967296 := by
    have e : lb_n ((v5.toUInt64 >>> ((32 : Int32).toInt64.toUInt64 &&& Int64.toUInt64 63)).toInt64) = lb_n v5 / 4294967296 := lb_ush (k := 32) (by decide) v5
    rw [h6, lb_add, e, a5, a4, Nat.mod_eq_of_lt f4]
  have a7 : lb_n v6 % 128 = pc_s 64 (lb_n x) := by
    rw [a6, a5, a4]; exact f5
  have a8 : v6.toInt32 &&& (127 : Int32) = nI (pc_s 64 (lb_n x)) := by
    rw [pk_and _ 7 (by decide), ← a7]
    congr 1
    rw [lb_of v6, lN_i]
    have e : (nI (lb_n v6)).toBitVec.toNat = lb_n v6 % 4294967296 := BitVec.toNat_ofNat _ _
    rw [e, lb_lN (lb_lt v6)]
    omega
  rw [a8]
  exact hq
theorem pc_le : ∀ (k n : Nat), pc_s k n ≤ k := by
  intro k
  induction k with
  | zero => intro n; exact Nat.le_refl _
  | succ k ih =>
    intro n
    have := ih (n / 2)
    show n % 2 + pc_s k (n / 2) ≤ k + 1
    omega
section XO
variable {fO fU : Nat → Int64} {fW fG fL : Nat → Int32} {len size : Int32}
variable {posi : Int32 → (Nat → Int64) → (Nat → Int64) → (Nat → Int32) → (Nat → Int32) → (Nat → Int32) → Int32 → Int32 → Prop}
theorem sx_oddOnes {p : Nat} (hp : p < 64) (hq : posi (nI (t_odd (fO p) (fU p))) fO fU fW fG fL len size) : wp_X_oddOnes posi (nI p) fO fU fW fG fL len size := by
  have hin : vp_in (nI p) 64 := vp_in_nI hp (by decide)
  unfold wp_X_oddOnes
  refine ⟨hin, ?_⟩
  rw [nI_clamp (by omega), lc_0]
  unfold t_odd at hq
  refine br_c (fun u => ⟨hin, ?_⟩) (fun u => ?_)
  · rw [if_pos u] at hq
    refine sx_bitCount ⟨by decide, ?_⟩
    have l := pc_le 64 (lb_n (fO p))
    rw [show (2 : Int32) = nI 2 from rfl, pk_rem (by omega) (by decide) (by decide)]
    unfold wp_X_oddOnes_33
    rcases (show pc_s 64 (lb_n (fO p)) % 2 = 0 ∨ pc_s 64 (lb_n (fO p)) % 2 = 1 by omega) with e | e
    · rw [e] at hq ⊢; exact br_t (by decide) hq
    · rw [e] at hq ⊢; exact br_f (fun z => z rfl) hq
  · rw [if_neg u] at hq; exact hq
def t_red (sg w : Nat) (O U : Int64) : Nat := if sg = 2 then t_not (t_any O U) else if sg = 3 then t_all w O U else if sg = 4 then t_not (t_all w O U) else if sg = 5 then t_any O U else if sg = 6 then t_not (t_any O U) else if sg = 7 then t_odd O U else t_not (t_odd O U)
theorem t_redl (sg w : Nat) (O U : Int64) : t_red sg w O U < 3 := by
  unfold t_red
  repeat' split
  all_goals first | exact t_notl (t_anyl _ _) | exact t_alll _ _ _ | exact t_notl (t_alll _ _ _) | exact t_anyl _ _ | exact t_oddl _ _ | exact t_notl (t_oddl _ _)
theorem sx_reduced {sg p w : Nat} (g1 : 2 ≤ sg) (g2 : sg ≤ 8) (hp : p < 64) (hW : fW p = nI w) (h2 : w ≤ 64) (hq : posi (nI (t_red sg w (fO p) (fU p))) fO fU fW fG fL len size) : wp_X_reduced posi (nI sg) (nI p) fO fU fW fG fL len size := by
  have ti := nI_toInt (n := sg) (by omega)
  unfold wp_X_reduced wp_X_reduced_61
  rw [ti]
  refine ⟨fun k => ?_, fun k => ?_, fun k => ?_, fun k => ?_, fun k => ?_, fun k => ?_, fun k => ?_⟩
  · obtain rfl : sg = 8 := by omega
    exact sx_oddOnes hp (sx_opposite (t_oddl _ _) hq)
  · obtain rfl : sg = 2 := by omega
    exact sx_anyOne hp (sx_opposite (t_anyl _ _) hq)
  · obtain rfl : sg = 3 := by omega
    exact sx_allOnes hp hW h2 hq
  · obtain rfl : sg = 4 := by omega
    exact sx_allOnes hp hW h2 (sx_opposite (t_alll _ _ _) hq)
  · obtain rfl : sg = 5 := by omega
    exact sx_anyOne hp hq
  · obtain rfl : sg = 6 := by omega
    exact sx_anyOne hp (sx_opposite (t_anyl _ _) hq)
  · obtain rfl : sg = 7 := by omega
    exact sx_oddOnes hp hq
end XO
