/-! decimal numbers on both sides -/
theorem n10 : lb_n (10 : Int64) = 10 := by decide +kernel
theorem lm_digits {N : Nat} (hN : N < 18446744073709551616) {post : Int32 → Prop} (hq : ∀ d, dg_is d N → d ≤ 20 → post (nI d)) : ∀ (k i : Nat) (x : Int64), i + k = 20 → 1 ≤ i → lb_n x = N / 10 ^ (i - 1) → (i = 1 ∨ 10 ^ (i - 1) ≤ N) → wp_B_digits_5 post (k + 1) x (nI i) := by
  intro k
  induction k with
  | zero =>
    intro i x hi h1 hx h2
    obtain rfl : i = 20 := by omega
    rw [wp_B_digits_5]
    exact br_t (by decide) (hq 20 ⟨by decide, by omega, h2⟩ (Nat.le_refl _))
  | succ k ih =>
    intro i x hi h1 hx h2
    rw [wp_B_digits_5]
    refine br_f (nI_ge (b := 20) (by omega) (by decide)) ?_
    refine sx_quot (by rw [n10]; decide) (fun q hq2 => ?_)
    rw [hx, n10, dg_s, show i - 1 + 1 = i by omega] at hq2
    rw [lc_0, nI_1]
    have z0 : q = 0 ↔ N < 10 ^ i := by
      rw [← dg_z, ← hq2]
      exact ⟨fun e => by rw [e]; rfl, fun e => lb_inj (e.trans rfl)⟩
    rw [z0]
    refine br_c (fun c => ih (i + 1) q (by omega) (by omega) (by rw [hq2, Nat.add_sub_cancel]) (Or.inr (by rw [Nat.add_sub_cancel]; omega))) (fun c => hq i ⟨h1, Classical.byContradiction c, h2⟩ (by omega))
theorem sx_digits {x : Int64} {post : Int32 → Prop} (hq : ∀ d, dg_is d (lb_n x) → d ≤ 20 → post (nI d)) : wp_B_digits post x := by
  unfold wp_B_digits
  exact ⟨19 + 1, lm_digits (lb_lt x) hq 19 1 x rfl (Nat.le_refl _) (by rw [Nat.sub_self, Nat.pow_zero, Nat.div_one]) (Or.inl rfl)⟩
/-- the digits of N, d of them, highest first -/
def dl_v (d N : Nat) : List Nat := (List.range d).map (fun j => 48 + N / 10 ^ (d - 1 - j) % 10)
theorem dl_len (d N : Nat) : (dl_v d N).length = d := by unfold dl_v; rw [List.length_map, List.length_range]
theorem dl_at {d N j : Nat} (h : j < d) : (dl_v d N)[j]? = some (48 + N / 10 ^ (d - 1 - j) % 10) := by
  unfold dl_v
  rw [List.getElem?_map, List.getElem?_range h]; rfl
theorem lm_wdig {d N n : Nat} {post : (Nat → Int32) → Int32 → Prop} {f0 : Nat → Int32} (hN : N < 18446744073709551616) (hnd : n + d ≤ 64) (hq : ∀ g : Nat → Int32, (∀ j, j < n → g j = f0 j) → (∀ j, j < d → g (n + j) = nI (48 + N / 10 ^ (d - 1 - j) % 10)) → post g (nI n + nI d)) :
    ∀ (t : Nat) (f : Nat → Int32) (x : Int64), t ≤ d → lb_n x = N / 10 ^ (d - t) → (∀ j, j < n → f j = f0 j) → (∀ j, t ≤ j → j < d → f (n + j) = nI (48 + N / 10 ^ (d - 1 - j) % 10)) → wp_N_writeDigits_13 post (t + 1) (nI d) x (nI (n + t) + (-1)) f (nI n) := by
  intro t
  induction t with
  | zero =>
    intro f x _ hx h1 h2
    rw [wp_N_writeDigits_13]
    refine br_t ?_ (hq f h1 (fun j hj => h2 j (by omega) hj))
    cases n with
    | zero => decide
    | succ n => rw [Nat.add_zero, pk_m1]; exact nI_lt (by omega) (by omega)
  | succ t ih =>
    intro f x ht hx h1 h2
    rw [wp_N_writeDigits_13]
    dsimp only
    rw [← Nat.add_assoc, pk_m1]
    refine br_f (nI_nlt (by omega) (by omega)) ?_
    refine sx_quot (by rw [n10]; decide) (fun q hq2 => ⟨vp_in_nI (by omega) (by decide), ?_⟩)
    rw [n10] at hq2
    have hm := Nat.mod_lt (lb_n x) (show 0 < 10 by decide)
    have hd := Nat.div_add_mod (lb_n x) 10
    have e : ((48 : Int64) + x) - q * (10 : Int64) = lN (48 + lb_n x % 10) := by
      apply lb_inj
      rw [lb_lN (by omega), lb_sub, lb_add, lb_mul, hq2, n10, show lb_n (48 : Int64) = 48 by decide +kernel]
      have := lb_lt x
      omega
    rw [e, lN_i, nI_clamp (by omega), sm_b (by omega)]
    refine ih _ q (by omega) ?_ (fun j hj => by rw [pk_un (by omega)]; exact h1 j hj) (fun j a b => ?_)
    · rw [hq2, hx, dg_s]; congr 2; omega
    · by_cases c : j = t
      · subst c
        rw [pk_us, hx, show d - (j + 1) = d - 1 - j by omega]
      · rw [pk_un (by omega)]; exact h2 j (by omega) b
theorem sx_writeDigits {d : Nat} {x : Int64} {post : (Nat → Int32) → Int32 → Prop} {f : Nat → Int32} {l : Int32} {T : List Nat} (h : tx_r f l T) (hd : T.length + d ≤ 64) (h1 : 1 ≤ d) (hq : ∀ (g : Nat → Int32) (k : Int32), tx_r g k (T ++ dl_v d (lb_n x)) → post g k) : wp_N_writeDigits post x (nI d) f l := by
  obtain ⟨rfl, h2⟩ := h
  unfold wp_N_writeDigits
  intro v hv
  rw [hv, nI_add, nm_1 _ (by omega)]
  refine ⟨d + 1, lm_wdig (N := lb_n x) (f0 := f) (lb_lt x) hd (fun g g1 g2 => hq g _ ?_) d f x (Nat.le_refl _) (by rw [Nat.sub_self, Nat.pow_zero, Nat.div_one]) (fun j hj => rfl) (fun j a b => by omega)⟩
  refine ⟨by rw [nI_add, List.length_append, dl_len], fun j c hj => ?_⟩
  rw [List.getElem?_append] at hj
  split at hj
  · rename_i hlt
    rw [g1 j hlt]
    exact h2 j c hj
  · rename_i hlt
    have jd : j - T.length < d := by
      apply Classical.byContradiction
      intro z
      rw [List.getElem?_eq_none (by rw [dl_len]; omega)] at hj
      cases hj
    rw [dl_at jd] at hj
    have := g2 (j - T.length) jd
    rw [show T.length + (j - T.length) = j by omega] at this
    have e := Option.some.inj hj
    rw [← e]
    have hm := Nat.mod_lt (lb_n x / 10 ^ (d - 1 - (j - T.length))) (show 0 < 10 by decide)
    exact ⟨this, by omega⟩
/-! the reference's decimal -/
section MD
variable {post : Int32 → (Nat → Int32) → (Nat → Int32) → Prop}
theorem lm_dec93 {N : Nat} {fx fy : Nat → Int32} (hN : N < 10 ^ 24) (hy : ∀ k, k < 24 → fy k = nI (N / 10 ^ k % 10)) (hq : ∀ d, dg_is d N → post (nI d) fx fy) : ∀ (k i d : Nat), i + k = 24 → dg_is d (N % 10 ^ i) → d ≤ i + 1 → wp_M_decimal_93 post (k + 1) (nI d) (nI i) fx fy := by
  intro k
  induction k with
  | zero =>
    intro i d hi hd _
    obtain rfl : i = 24 := by omega
    rw [wp_M_decimal_93]
    rw [Nat.mod_eq_of_lt hN] at hd
    exact br_t (by decide) (hq d hd)
  | succ k ih =>
    intro i d hi hd hdi
    have hs : N % 10 ^ (i + 1) = N % 10 ^ i + 10 ^ i * (N / 10 ^ i % 10) := Nat.mod_pow_succ
    have hm := Nat.mod_lt (N / 10 ^ i) (show 0 < 10 by decide)
    have hp : 0 < 10 ^ i := Nat.pow_pos (by decide)
    have hl := Nat.mod_lt N (show 0 < 10 ^ (i + 1) from Nat.pow_pos (by decide))
    rw [wp_M_decimal_93]
    refine br_f (nI_ge (b := 24) (by omega) (by decide)) ⟨vp_in_nI (by omega) (by decide), ?_⟩
    rw [nI_clamp (by omega), hy i (by omega), show (0 : Int32) = nI 0 from rfl, nI_eq (by omega) (by decide)]
    unfold wp_M_decimal_113
    rw [nI_1]
    refine br_c (fun c => ?_) (fun c => ?_)
    · rw [c, Nat.mul_zero, Nat.add_zero] at hs
      exact ih (i + 1) d (by omega) (by rw [hs]; exact hd) (by omega)
    · intro v hv
      subst hv
      refine ih (i + 1) (i + 1) (by omega) ⟨by omega, hl, Or.inr ?_⟩ (by omega)
      rw [Nat.add_sub_cancel, hs]
      have : 10 ^ i * 1 ≤ 10 ^ i * (N / 10 ^ i % 10) := Nat.mul_le_mul_left _ (by omega)
      omega
theorem lm_dec43 {A b : Nat} {fx : Nat → Int32} {x4 x5 : Int32} {K29 : Int32 → Int32 → (Nat → Int32) → (Nat → Int32) → Prop} (hb : b < 2) (hK : ∀ g : Nat → Int32, (∀ k, k < 24 → g k = nI ((2 * A + b) / 10 ^ k % 10)) → K29 x4 (x5 + (-1)) fx g) :
    ∀ (k i : Nat) (g : Nat → Int32), i + k = 24 → (∀ j, j < i → g j = nI ((2 * A + b) / 10 ^ j % 10)) → (∀ j, i ≤ j → j < 24 → g j = nI (A / 10 ^ j % 10)) → wp_M_decimal_43 K29 post (k + 1) x4 x5 (nI ((2 * (A % 10 ^ i) + b) / 10 ^ i)) (nI i) fx g := by
  intro k
  induction k with
  | zero =>
    intro i g hi h1 h2
    rw [wp_M_decimal_43]
    exact br_t (nI_le (a := 24) (by omega) (by omega)) (hK g (fun j hj => h1 j (by omega)))
  | succ k ih =>
    intro i g hi h1 h2
    have hp : 0 < 10 ^ i := Nat.pow_pos (by decide)
    have hm := Nat.mod_lt A hp
    have hm2 := Nat.mod_lt (A / 10 ^ i) (show 0 < 10 by decide)
    have hcar : (2 * (A % 10 ^ i) + b) / 10 ^ i ≤ 1 := by
      have : (2 * (A % 10 ^ i) + b) / 10 ^ i < 2 := by rw [Nat.div_lt_iff_lt_mul hp]; omega
      omega
    have hdg := ar_dig A b i
    have hdc := ar_dcar A b i
    rw [wp_M_decimal_43]
    refine br_f (nI_ge (b := 24) (by omega) (by decide)) ⟨vp_in_nI (by omega) (by decide), ?_⟩
    rw [nI_clamp (by omega), h2 i (Nat.le_refl _) (by omega), show (2 : Int32) = nI 2 from rfl, pk_mul, nI_add]
    intro v hv
    subst hv
    refine ⟨by decide, vp_in_nI (by omega) (by decide), by decide, ?_⟩
    rw [show (10 : Int32) = nI 10 from rfl, pk_rem (by omega) (by decide) (by decide), pk_div (by omega) (by decide) (by decide), ← hdg, ← hdc, sm_b (by have := Nat.mod_lt ((2 * A + b) / 10 ^ i) (show 0 < 10 by decide); omega), nI_1 i]
    intro v2 hv2
    subst hv2
    refine ih (i + 1) _ (by omega) (fun j hj => ?_) (fun j a c => by rw [pk_un (by omega)]; exact h2 j (by omega) c)
    by_cases d : j = i
    · subst d; exact pk_us
    · rw [pk_un d]; exact h1 j (by omega)
theorem lm_dec29 {w N : Nat} {fx : Nat → Int32} (hw : w ≤ 64) (hN : N < 10 ^ 24) (hx : rw_N fx w N) (hq : ∀ (d : Nat) (g : Nat → Int32), dg_is d N → (∀ k, k < 24 → g k = nI (N / 10 ^ k % 10)) → post (nI d) fx g) :
    ∀ (t : Nat) (g : Nat → Int32), t ≤ w → (∀ k, k < 24 → g k = nI (N / 2 ^ t / 10 ^ k % 10)) → wp_M_decimal_29 post (t + 1) (nI 1) (nI t + (-1)) fx g := by
  intro t
  induction t with
  | zero =>
    intro g _ hg
    rw [wp_M_decimal_29]
    rw [Nat.pow_zero, Nat.div_one] at hg
    refine br_t (by decide) ⟨24 + 1, lm_dec93 hN hg (fun d hd => hq d g hd hg) 24 0 1 rfl ?_ (Nat.le_refl _)⟩
    rw [Nat.pow_zero, Nat.mod_one]
    exact ⟨Nat.le_refl _, by decide, Or.inl rfl⟩
  | succ t ih =>
    intro g ht hg
    have hs := bn_step N t
    rw [wp_M_decimal_29]
    dsimp only
    rw [pk_m1]
    refine br_f (nI_pos (by omega)) ⟨vp_in_nI (by omega) (by decide), ?_⟩
    rw [nI_clamp (by omega), hx t (by omega)]
    intro v hv
    subst hv
    have := lm_dec43 (post := post) (A := N / 2 ^ (t + 1)) (b := N / 2 ^ t % 2) (fx := fx) (x4 := nI 1) (x5 := nI t) (K29 := wp_M_decimal_29 post (t + 1)) (bn_2 N t) (fun g2 h2 => ih g2 (by omega) (by rw [hs]; exact h2)) 24 0 g rfl (fun j hj => by omega) (fun j _ c => hg j c)
    rw [Nat.pow_zero, Nat.mod_one, Nat.mul_zero, Nat.zero_add, Nat.div_one] at this
    exact ⟨24 + 1, this⟩
theorem sm_decimal {w N : Nat} {fx fy : Nat → Int32} (hw : w ≤ 64) (hN : N < 2 ^ w) (hx : rw_N fx w N) (hq : ∀ (d : Nat) (g : Nat → Int32), dg_is d N → (∀ k, k < 24 → g k = nI (N / 10 ^ k % 10)) → post (nI d) fx g) : wp_M_decimal post (nI w) fx fy := by
  have h64 : 2 ^ w ≤ 2 ^ 64 := Nat.pow_le_pow_right (by decide) hw
  have zero : ∀ (k i : Nat) (g : Nat → Int32), i + k = 24 → (∀ j, j < i → g j = nI 0) → wp_M_decimal_6 post (k + 1) (nI w) (nI 1) (nI i) fx g := by
    intro k
    induction k with
    | zero =>
      intro i g hi h1
      rw [wp_M_decimal_6]
      refine br_t (nI_le (a := 24) (by omega) (by omega)) ?_
      intro v hv
      have e : nI w - (1 : Int32) = nI w + (-1) := by
        cases w with
        | zero => decide
        | succ w => exact nm_1 _ (by omega)
      rw [hv, e]
      refine ⟨w + 1, lm_dec29 hw (by omega) hx hq w g (Nat.le_refl _) (fun j hj => ?_)⟩
      rw [h1 j (by omega), Nat.div_eq_of_lt hN, Nat.zero_div]
    | succ k ih =>
      intro i g hi h1
      rw [wp_M_decimal_6]
      refine br_f (nI_ge (b := 24) (by omega) (by decide)) ⟨vp_in_nI (by omega) (by decide), ?_⟩
      rw [nI_clamp (by omega), nI_1 i]
      refine ih (i + 1) _ (by omega) (fun j hj => ?_)
      by_cases d : j = i
      · subst d; exact pk_us
      · rw [pk_un d]; exact h1 j (by omega)
  unfold wp_M_decimal
  exact ⟨24 + 1, zero 24 0 fy rfl (fun j hj => by omega)⟩
end MD
