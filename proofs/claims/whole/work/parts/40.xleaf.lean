/-! the class's own small methods -/
theorem ix_64 : (64 : Int32) = nI 64 := rfl
theorem sx_lowest {w : Nat} (h2 : w ≤ 64) {post : Int64 → Prop} (hp : post (lb_low w)) : wp_B_lowest post (nI w) := by
  unfold wp_B_lowest
  rw [show (64 : Int32) - nI w = nI (64 - w) from pk_sub h2]
  exact hp
theorem sx_hf {w : Nat} (h2 : w ≤ 64) {x : Int64} {post : Int64 → Prop} (hp : post (lb_hf w x)) : wp_B_withHighestInFront post x (nI w) := by
  unfold wp_B_withHighestInFront
  rw [show (64 : Int32) - nI w = nI (64 - w) from pk_sub h2]
  exact hp
theorem sx_below {x y : Int64} {post : Int32 → Prop} (h1 : lb_n x < lb_n y → post 1) (h0 : ¬ lb_n x < lb_n y → post 0) : wp_B_below post x y := by
  unfold wp_B_below
  refine br_c (fun c => ?_) (fun c => ?_)
  · rw [lg_cmp_ge] at c
    exact ⟨rfl, h0 (fun z => absurd ((lb_ult x y).mpr z) (Int64.not_lt.mpr c))⟩
  · rw [lg_cmp_ge] at c
    exact ⟨rfl, h1 ((lb_ult x y).mp (Int64.not_le.mp c))⟩
theorem sx_1 : (1 : Int32) = nI 1 := rfl
theorem sx_half (a : Int64) : lb_n ((a.toUInt64 >>> ((1 : Int32).toInt64.toUInt64 &&& Int64.toUInt64 63)).toInt64) = lb_n a / 2 := lb_ush (k := 1) (by decide) a
theorem sx_dbl (a : Int64) : lb_n (a <<< ((1 : Int32).toInt64 &&& 63)) = lb_n a * 2 % 18446744073709551616 := lb_shn (k := 1) (by decide) a
theorem sx_sdiv {x y : Int64} (hx : lb_n x < 9223372036854775808) (hy : 0 < lb_n y ∧ lb_n y < 9223372036854775808) : lb_n (x / y) = lb_n x / lb_n y := by
  have e := pk_lDiv (a := lb_n x) (b := lb_n y) (by omega) hy.1 (by omega)
  rw [← lb_of, ← lb_of] at e
  rw [e]
  apply lb_lN
  have := Nat.div_le_self (lb_n x) (lb_n y)
  omega
theorem sx_quot {a d : Int64} (hd : ¬ lb_n d = 0) {post : Int64 → Prop} (hp : ∀ q : Int64, lb_n q = lb_n a / lb_n d → post q) : wp_B_quotient post a d := by
  have ha := lb_lt a
  unfold wp_B_quotient
  refine br_c (fun c => ?_) (fun c => ?_)
  · rw [lg_cmp_gt] at c
    have hh := qt_hi (Int64.not_le.mpr c)
    obtain ⟨q1, q2, q3⟩ := qt_n (a := lb_n a) hh.1
    refine ⟨fun z => hd (by rw [z]; rfl), ?_⟩
    intro v hv
    have h2 : lb_n v = 2 * (lb_n a / 2 / lb_n d) := by
      have l1 := Nat.div_le_self (lb_n a / 2) (lb_n d)
      rw [hv, sx_dbl, sx_sdiv (by rw [sx_half]; omega) hh, sx_half]
      omega
    have h3 : lb_n (a - v * d) = lb_n a - 2 * (lb_n a / 2 / lb_n d) * lb_n d := by
      rw [lb_sub, lb_mul, h2]
      generalize 2 * (lb_n a / 2 / lb_n d) * lb_n d = z at *
      omega
    refine sx_below (fun k => ?_) (fun k => ?_)
    · rw [h3] at k
      refine br_f (by decide) (hp _ ?_)
      rw [h2, q3, if_pos k]
    · rw [h3] at k
      refine br_t rfl (hp _ ?_)
      rw [lb_add, h2, q3, if_neg k, show lb_n 1 = 1 by decide +kernel]
      have l1 := Nat.div_le_self (lb_n a / 2) (lb_n d)
      omega
  · rw [lg_cmp_gt] at c
    rcases qt_lo (Int64.not_lt.mp c) with h | h
    · exact absurd h hd
    · refine sx_below (fun k => ?_) (fun k => ?_)
      · refine br_f (by decide) (hp _ ?_)
        rw [qt_big ha h, if_pos k]; rfl
      · refine br_t rfl (hp _ ?_)
        rw [qt_big ha h, if_neg k]; decide +kernel
section XL
variable {fO fU : Nat → Int64} {fW fG fL : Nat → Int32} {len size : Int32}
variable {post : (Nat → Int64) → (Nat → Int64) → (Nat → Int32) → (Nat → Int32) → (Nat → Int32) → Int32 → Int32 → Prop}
theorem sx_setBits {p w : Nat} (hp : p < 64) (hW : fW p = nI w) (h2 : w ≤ 64) {o u : Int64} (hq : ∀ gO gU : Nat → Int64, gO p = o &&& lb_low w → gU p = u &&& lb_low w → (∀ q, q ≠ p → gO q = fO q) → (∀ q, q ≠ p → gU q = fU q) → post gO gU fW fG fL len size) : wp_X_setBits post (nI p) o u fO fU fW fG fL len size := by
  have hin : vp_in (nI p) 64 := vp_in_nI hp (by decide)
  unfold wp_X_setBits
  refine ⟨hin, ?_⟩
  rw [nI_clamp (by omega), hW]
  refine sx_lowest h2 ?_
  refine ⟨hin, hin, ?_⟩
  exact hq _ _ pk_uLs pk_uLs (fun q h => pk_uLn h) (fun q h => pk_uLn h)
theorem sx_setValue {p w : Nat} (hp : p < 64) (h2 : w ≤ 64) {o u : Int64} {g : Int32} (hg : g = 0 ∨ g = 1) (hq : ∀ (gO gU : Nat → Int64) (gW gG : Nat → Int32), gO p = o &&& lb_low w → gU p = u &&& lb_low w → gW p = nI w → gG p = g → (∀ q, q ≠ p → gO q = fO q) → (∀ q, q ≠ p → gU q = fU q) → (∀ q, q ≠ p → gW q = fW q) → (∀ q, q ≠ p → gG q = fG q) → post gO gU gW gG fL len size) : wp_X_setValue post (nI p) o u (nI w) g fO fU fW fG fL len size := by
  have hin : vp_in (nI p) 64 := vp_in_nI hp (by decide)
  have hn : vp_nar .boolean g = g := by rcases hg with rfl | rfl <;> rfl
  unfold wp_X_setValue
  refine ⟨hin, hin, ?_⟩
  rw [nI_clamp (by omega), hn]
  refine sx_setBits hp pk_us h2 (fun gO gU a b c d => ?_)
  exact hq _ _ _ _ a b pk_us pk_us c d (fun q h => pk_un h) (fun q h => pk_un h)
theorem sx_fillWithX {p w : Nat} (hp : p < 64) (hW : fW p = nI w) (h1 : 1 ≤ w) (h2 : w ≤ 64) (hq : ∀ gO gU : Nat → Int64, gO p = lb_low w → gU p = lb_low w → (∀ q, q ≠ p → gO q = fO q) → (∀ q, q ≠ p → gU q = fU q) → post gO gU fW fG fL len size) : wp_X_fillWithX post (nI p) fO fU fW fG fL len size := by
  unfold wp_X_fillWithX
  have e : (-1 : Int64) &&& lb_low w = lb_low w := by
    apply lb_ext
    intro i hi
    rw [lb_and, lb_m1 i hi, Bool.true_and]
  refine sx_setBits hp hW h2 (fun gO gU a b c d => ?_)
  exact hq gO gU (by rw [a, e]) (by rw [b, e]) c d
end XL
