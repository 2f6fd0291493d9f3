/-! the reference's arithmetic: multiply, divide -/
theorem mu_b {A i j : Nat} (h : i ≤ j) : A * 2 ^ i / 2 ^ j % 2 = A / 2 ^ (j - i) % 2 := by
  have e : 2 ^ j = 2 ^ (j - i) * 2 ^ i := by rw [← Nat.pow_add]; congr 1; omega
  rw [e, Nat.mul_div_mul_right _ _ (Nat.two_pow_pos i)]
theorem mu_lo {A C i t : Nat} (h : t < i) : (C + A * 2 ^ i) / 2 ^ t % 2 = C / 2 ^ t % 2 := by
  rw [← bn_mod (w := i) (C + A * 2 ^ i) h, Nat.add_mul_mod_self_right, bn_mod _ h]
theorem mu_c0 {A C i : Nat} : (C % 2 ^ i + A * 2 ^ i % 2 ^ i + 0) / 2 ^ i = 0 := by
  rw [Nat.mul_mod_left, Nat.add_zero]
  exact Nat.div_eq_of_lt (Nat.mod_lt _ (Nat.two_pow_pos i))
theorem mu_car {X Y i : Nat} : (X % 2 ^ i + Y % 2 ^ i + 0) / 2 ^ i ≤ 1 := by
  have hpw := Nat.two_pow_pos i
  have m1 := Nat.mod_lt X hpw
  have m2 := Nat.mod_lt Y hpw
  have : (X % 2 ^ i + Y % 2 ^ i + 0) / 2 ^ i < 2 := by
    rw [Nat.div_lt_iff_lt_mul hpw]; omega
  omega
section MA
variable {kb kw ks ka kq kc kr kt kd : Nat → Int32} {many tsz thr : Int32}
variable {post : (Nat → Int32) → (Nat → Int32) → (Nat → Int32) → (Nat → Int32) → (Nat → Int32) → (Nat → Int32) → (Nat → Int32) → (Nat → Int32) → (Nat → Int32) → Int32 → Int32 → Int32 → Prop}
variable {posi : Int32 → (Nat → Int32) → (Nat → Int32) → (Nat → Int32) → (Nat → Int32) → (Nat → Int32) → (Nat → Int32) → (Nat → Int32) → (Nat → Int32) → (Nat → Int32) → Int32 → Int32 → Int32 → Prop}
variable {K11 K33 : Int32 → Int32 → (Nat → Int32) → (Nat → Int32) → (Nat → Int32) → (Nat → Int32) → (Nat → Int32) → (Nat → Int32) → (Nat → Int32) → (Nat → Int32) → (Nat → Int32) → Int32 → Int32 → Int32 → Prop}
theorem lm_mul33 {w i A C : Nat} (hw : w ≤ 64) (hi : i < w) (hA : rw_N ka w A) (hK : ∀ g : Nat → Int32, rw_N g w (C + A * 2 ^ i) → K11 (nI w) (nI (i + 1)) kb kw ks ka kq g kr kt kd many tsz thr) :
    ∀ (k j : Nat) (g : Nat → Int32), j + k = w → i ≤ j → (∀ t, t < j → g t = nI ((C + A * 2 ^ i + 0) / 2 ^ t % 2)) → (∀ t, j ≤ t → t < w → g t = nI (C / 2 ^ t % 2)) → ∃ n, wp_M_multiply_33 K11 post n (nI w) (nI i) (nI ((C % 2 ^ j + A * 2 ^ i % 2 ^ j + 0) / 2 ^ j)) (nI j) kb kw ks ka kq g kr kt kd many tsz thr := by
  intro k
  induction k with
  | zero =>
    intro j g hj hij h1 h2
    refine ⟨0 + 1, ?_⟩
    rw [wp_M_multiply_33]
    refine br_t (nI_le (by omega) (by omega)) ?_
    unfold wp_M_multiply_83
    rw [nI_1]
    exact hK g (fun t ht => h1 t (by omega))
  | succ k ih =>
    intro j g hj hij h1 h2
    have hcar : (C % 2 ^ j + A * 2 ^ i % 2 ^ j + 0) / 2 ^ j ≤ 1 := mu_car
    have b1 := bn_2 C j
    have b2 := bn_2 A (j - i)
    have hb := ar_bit C (A * 2 ^ i) 0 j
    have hk := ar_car C (A * 2 ^ i) 0 j
    rw [mu_b hij] at hb hk
    obtain ⟨n, hn⟩ := ih (j + 1) (upd g j (nI ((C + A * 2 ^ i + 0) / 2 ^ j % 2))) (by omega) (by omega) (fun t ht => by
      by_cases d : t = j
      · subst d; exact pk_us
      · rw [pk_un d]; exact h1 t (by omega)) (fun t a b => by rw [pk_un (by omega)]; exact h2 t (by omega) b)
    refine ⟨n + 1, ?_⟩
    rw [wp_M_multiply_33]
    dsimp only
    have hin : vp_in (nI j) 64 := vp_in_nI (by omega) (by omega)
    rw [pk_sub hij, nI_clamp (show j < 2 ^ 31 by omega), nI_clamp (show j - i < 2 ^ 31 by omega), h2 j (Nat.le_refl _) (by omega), hA (j - i) (by omega), nI_add, nI_add]
    refine br_f (nI_ge (by omega) (by omega)) ⟨hin, vp_in_nI (by omega) (by omega), ?_⟩
    intro v hv
    subst hv
    refine ⟨hin, ?_⟩
    intro v2 hv2
    subst hv2
    rw [sm_and1 (by omega), sm_shr1 (by omega), ← hb, ← hk, sm_b (by have := bn_2 (C + A * 2 ^ i + 0) j; omega), nI_1 j]
    exact hn
theorem lm_mul11 {w A B : Nat} (hw : w ≤ 64) (hA : rw_N ka w A) (hB : rw_N kq w B) (hp : ∀ g : Nat → Int32, rw_N g w (A * (B % 2 ^ w)) → post kb kw ks ka kq g kr kt kd many tsz thr) :
    ∀ (k i : Nat) (g : Nat → Int32), i + k = w → rw_N g w (A * (B % 2 ^ i)) → wp_M_multiply_11 post (k + 1) (nI w) (nI i) kb kw ks ka kq g kr kt kd many tsz thr := by
  intro k
  induction k with
  | zero =>
    intro i g hi hg
    rw [wp_M_multiply_11]
    refine br_t (nI_le (by omega) (by omega)) (hp g ?_)
    obtain rfl : i = w := by omega
    exact hg
  | succ k ih =>
    intro i g hi hg
    have b1 := bn_2 B i
    have hs : B % 2 ^ (i + 1) = B % 2 ^ i + 2 ^ i * (B / 2 ^ i % 2) := Nat.mod_pow_succ
    rw [wp_M_multiply_11]
    refine br_f (nI_ge (by omega) (by omega)) ⟨vp_in_nI (by omega) (by omega), ?_⟩
    rw [nI_clamp (by omega), hB i (by omega)]
    by_cases c : B / 2 ^ i % 2 = 0
    · rw [c, Nat.mul_zero, Nat.add_zero] at hs
      rw [c]
      refine br_f (fun z => z rfl) ?_
      unfold wp_M_multiply_83
      rw [nI_1]
      exact ih (i + 1) g (by omega) (by rw [hs]; exact hg)
    · have c1 : B / 2 ^ i % 2 = 1 := by omega
      rw [c1, Nat.mul_one] at hs
      rw [c1]
      refine br_t (by decide) ?_
      have := lm_mul33 (K11 := wp_M_multiply_11 post (k + 1)) (post := post) (kb := kb) (kw := kw) (ks := ks) (kq := kq) (kr := kr) (kt := kt) (kd := kd) (many := many) (tsz := tsz) (thr := thr) (C := A * (B % 2 ^ i)) hw (by omega) hA (fun g2 h3 => ih (i + 1) g2 (by omega) (by rw [hs, Nat.mul_add]; exact h3)) (k + 1) i g (by omega) (Nat.le_refl _) (fun t ht => by
        rw [Nat.add_zero, mu_lo ht]; exact hg t (by omega)) (fun t _ b => hg t b)
      rw [mu_c0] at this
      exact this
theorem sm_multiply {w A B : Nat} (hw : w ≤ 64) (hBl : B < 2 ^ w) (hA : rw_N ka w A) (hB : rw_N kq w B) (hp : ∀ g : Nat → Int32, rw_N g w (A * B) → post kb kw ks ka kq g kr kt kd many tsz thr) : wp_M_multiply post (nI w) kb kw ks ka kq kc kr kt kd many tsz thr := by
  unfold wp_M_multiply
  refine sm_fill (v := 0) hw (by decide) (fun g hg => ⟨w + 1, ?_⟩)
  refine lm_mul11 hw hA hB (fun g2 h => hp g2 ?_) w 0 g (by omega) ?_
  · rw [Nat.mod_eq_of_lt hBl] at h; exact h
  · intro t ht
    rw [hg t ht, Nat.pow_zero, Nat.mod_one, Nat.mul_zero, Nat.zero_div]
/-! reaches: is the rest as much as the divisor -/
theorem nm_1 (t : Nat) (h : 1 ≤ t) : nI t - 1 = nI t + (-1) := by
  obtain ⟨u, rfl⟩ : ∃ u, t = u + 1 := ⟨t - 1, by omega⟩
  rw [pk_m1, nI_pred]
theorem lm_reach {w R B : Nat} (hw : w ≤ 64) (hR : rw_N kr (w + 1) R) (hB : rw_N kq w B) (h1 : B ≤ R → posi 1 kb kw ks ka kq kc kr kt kd many tsz thr) (h0 : R < B → posi 0 kb kw ks ka kq kc kr kt kd many tsz thr) :
    ∀ t, t ≤ w → R / 2 ^ t = B / 2 ^ t → ∃ n, wp_M_reaches_16 posi n (nI t + (-1)) kb kw ks ka kq kc kr kt kd many tsz thr := by
  intro t
  induction t with
  | zero =>
    intro _ e
    refine ⟨0 + 1, ?_⟩
    rw [wp_M_reaches_16]
    rw [Nat.pow_zero, Nat.div_one, Nat.div_one] at e
    exact br_t (by decide) ⟨rfl, h1 (by omega)⟩
  | succ t ih =>
    intro ht e
    have s1 := bn_step R t
    have s2 := bn_step B t
    have b1 := bn_2 R t
    have b2 := bn_2 B t
    have i65 : vp_in (nI t) 65 := vp_in_nI (by omega) (by omega)
    have i64 : vp_in (nI t) 64 := vp_in_nI (by omega) (by omega)
    by_cases c : R / 2 ^ t % 2 = B / 2 ^ t % 2
    · obtain ⟨n, hn⟩ := ih (by omega) (by omega)
      refine ⟨n + 1, ?_⟩
      rw [wp_M_reaches_16]
      dsimp only
      rw [pk_m1]
      refine br_f (nI_pos (by omega)) ⟨i65, i64, ?_⟩
      rw [nI_clamp (by omega), hR t (by omega), hB t (by omega), c]
      exact br_t rfl hn
    · refine ⟨0 + 1, ?_⟩
      rw [wp_M_reaches_16]
      dsimp only
      rw [pk_m1]
      refine br_f (nI_pos (by omega)) ⟨i65, i64, ?_⟩
      rw [nI_clamp (by omega), hR t (by omega), hB t (by omega)]
      refine br_f (fun z => c ((nI_eq (by omega) (by omega)).mp z)) ⟨i65, i64, ?_⟩
      refine pk_le (R / 2 ^ t % 2) (B / 2 ^ t % 2) (fun d => ?_) (fun d => ?_)
      · unfold wp_M_reaches_55
        exact ⟨rfl, h0 (cp_lt (i := t) (by omega))⟩
      · unfold wp_M_reaches_55
        exact ⟨rfl, h1 (Nat.le_of_lt (cp_lt (i := t) (by omega)))⟩
theorem sm_reaches {w R B : Nat} (h1w : 1 ≤ w) (hw : w ≤ 64) (hRl : R < 2 ^ (w + 1)) (hBl : B < 2 ^ w) (hR : rw_N kr (w + 1) R) (hB : rw_N kq w B) (h1 : B ≤ R → posi 1 kb kw ks ka kq kc kr kt kd many tsz thr) (h0 : R < B → posi 0 kb kw ks ka kq kc kr kt kd many tsz thr) : wp_M_reaches posi (nI w) kb kw ks ka kq kc kr kt kd many tsz thr := by
  have b1 := bn_2 R w
  have q1 : R / 2 ^ w < 2 := by
    rw [Nat.div_lt_iff_lt_mul (Nat.two_pow_pos w), Nat.mul_comm, ← Nat.pow_succ]; exact hRl
  have q2 : B / 2 ^ w = 0 := Nat.div_eq_of_lt hBl
  unfold wp_M_reaches
  refine ⟨vp_in_nI (by omega) (by omega), ?_⟩
  rw [nI_clamp (by omega), hR w (by omega)]
  by_cases c : R / 2 ^ w % 2 = 1
  · rw [c]
    exact br_f (fun z => z rfl) ⟨rfl, h1 (Nat.le_of_lt (cp_lt (i := w) (by rw [q2]; generalize R / 2 ^ w = x at *; omega)))⟩
  · refine br_t (fun z => c ((nI_eq (b := 1) (by omega) (by omega)).mp z)) ?_
    intro v hv
    rw [hv, nm_1 w h1w]
    exact lm_reach hw hR hB h1 h0 w (Nat.le_refl _) (by rw [q2]; generalize R / 2 ^ w = x at *; omega)
/-! divide -/
theorem dv_sub : ∀ d, d < 2 → ∀ b, b < 2 → ∀ c, c < 2 → (0 ≤ nI ((d + b + c) % 2) - nI b - nI c ↔ (d + b + c) / 2 = 0) ∧ vp_nar .byte (((nI ((d + b + c) % 2) - nI b - nI c) &&& 1).toInt8.toInt32) = nI d := by decide +kernel
theorem lm_div91 {w i R B : Nat} (hw : w ≤ 64) (hi : i < w) (hBl : B < 2 ^ w) (hB : rw_N kq w B) (hle : B ≤ R) (hK : ∀ g : Nat → Int32, rw_N g (w + 1) (R - B) → K33 (nI w) (nI i + (-1)) kb kw ks ka kq (upd kc i (nI 1)) g kt kd many tsz thr) :
    ∀ (k j : Nat) (g : Nat → Int32), j + k = w + 1 → (∀ t, t < j → g t = nI ((R - B) / 2 ^ t % 2)) → (∀ t, j ≤ t → t < w + 1 → g t = nI (R / 2 ^ t % 2)) → ∃ n, wp_M_divide_91 K33 post n (nI w) (nI i) (nI (((R - B) % 2 ^ j + B % 2 ^ j + 0) / 2 ^ j)) (nI j) kb kw ks ka kq kc g kt kd many tsz thr := by
  intro k
  induction k with
  | zero =>
    intro j g hj h1 h2
    refine ⟨0 + 1, ?_⟩
    rw [wp_M_divide_91]
    refine br_t (nI_lt (by omega) (by omega)) ⟨vp_in_nI (by omega) (by omega), ?_⟩
    unfold wp_M_divide_162
    rw [nI_clamp (by omega), show vp_nar .byte (1 : Int32) = nI 1 from rfl]
    exact hK g (fun t ht => h1 t (by omega))
  | succ k ih =>
    intro j g hj h1 h2
    have b1 := bn_2 (R - B) j
    have b2 := bn_2 B j
    have hcar : ((R - B) % 2 ^ j + B % 2 ^ j + 0) / 2 ^ j ≤ 1 := mu_car
    have hb := ar_bit (R - B) B 0 j
    have hk := ar_car (R - B) B 0 j
    rw [show R - B + B + 0 = R by omega] at hb
    obtain ⟨s1, s2⟩ := dv_sub _ b1 _ b2 (((R - B) % 2 ^ j + B % 2 ^ j + 0) / 2 ^ j) (by omega)
    rw [← hb] at s1 s2
    rw [← hk] at s1
    have hcar2 : ((R - B) % 2 ^ (j + 1) + B % 2 ^ (j + 1) + 0) / 2 ^ (j + 1) ≤ 1 := mu_car
    obtain ⟨n, hn⟩ := ih (j + 1) (upd g j (nI ((R - B) / 2 ^ j % 2))) (by omega) (fun t ht => by
      by_cases d : t = j
      · subst d; exact pk_us
      · rw [pk_un d]; exact h1 t (by omega)) (fun t a b => by rw [pk_un (by omega)]; exact h2 t (by omega) b)
    have i65 : vp_in (nI j) 65 := vp_in_nI (by omega) (by omega)
    have fin : wp_M_divide_121 K33 (wp_M_divide_91 K33 post n) post (nI w) (nI i) (nI (((R - B) % 2 ^ j + B % 2 ^ j + 0) / 2 ^ j)) (nI j) (nI (B / 2 ^ j % 2)) (nI (R / 2 ^ j % 2)) kb kw ks ka kq kc g kt kd many tsz thr := by
      unfold wp_M_divide_121
      intro v hv
      refine br_c (fun c => ?_) (fun c => ?_)
      · unfold wp_M_divide_136
        refine ⟨i65, ?_⟩
        rw [hv] at c ⊢
        rw [nI_clamp (by omega), s2, nI_1 j]
        rw [s1.mp c] at hn
        exact hn
      · unfold wp_M_divide_136
        refine ⟨i65, ?_⟩
        rw [hv] at c ⊢
        have z : ((R - B) % 2 ^ (j + 1) + B % 2 ^ (j + 1) + 0) / 2 ^ (j + 1) = 1 := by
          have : ¬ ((R - B) % 2 ^ (j + 1) + B % 2 ^ (j + 1) + 0) / 2 ^ (j + 1) = 0 := fun y => c (s1.mpr y)
          exact Nat.le_antisymm hcar2 (Nat.pos_of_ne_zero this)
        rw [nI_clamp (by omega), s2, nI_1 j]
        rw [z] at hn
        exact hn
    refine ⟨n + 1, ?_⟩
    rw [wp_M_divide_91]
    refine br_f (nI_nlt (by omega) (by omega)) ⟨i65, ?_⟩
    rw [nI_clamp (by omega), h2 j (Nat.le_refl _) (by omega)]
    refine pk_le w j (fun c => ?_) (fun c => ?_)
    · rw [bn_big hBl (show w ≤ j by omega)] at fin
      exact fin
    · refine ⟨vp_in_nI (by omega) (by omega), ?_⟩
      rw [hB j c]
      exact fin
/-- the rest is moved up by a place, the next bit comes in -/
theorem dv_up {R a : Nat} (ha : a < 2) (j : Nat) : (2 * R + a) / 2 ^ (j + 1) % 2 = R / 2 ^ j % 2 := by
  rw [Nat.pow_succ, Nat.mul_comm (2 ^ j) 2, ← Nat.div_div_eq_div_mul, show (2 * R + a) / 2 = R by omega]
theorem lm_div39 {w i R a : Nat} (hw : w ≤ 64) (hi : i < w) (ha : a < 2) (hai : ka i = nI a)
    (hK : ∀ g : Nat → Int32, rw_N g (w + 1) (2 * R + a) → wp_M_reaches (fun r77 kb77 kw77 ks77 ka77 kq77 kc77 kr77 kt77 kd77 many77 tsz77 thr77 => ((¬ r77 = 0 → (∃ n91 : Nat, wp_M_divide_91 K33 post n91 (nI w) (nI i) (0 : Int32) (0 : Int32) kb77 kw77 ks77 ka77 kq77 kc77 kr77 kt77 kd77 many77 tsz77 thr77)) ∧ (¬ ¬ r77 = 0 → wp_M_divide_162 K33 post (nI w) (nI i) kb77 kw77 ks77 ka77 kq77 kc77 kr77 kt77 kd77 many77 tsz77 thr77))) (nI w) kb kw ks ka kq kc g kt kd many tsz thr) :
    ∀ (k : Nat) (g : Nat → Int32), k ≤ w → (∀ t, t ≤ k → g t = nI (R / 2 ^ t % 2)) → (∀ t, k < t → t ≤ w → g t = nI (R / 2 ^ (t - 1) % 2)) → ∃ n, wp_M_divide_39 K33 post n (nI w) (nI i) (nI k) kb kw ks ka kq kc g kt kd many tsz thr := by
  intro k
  induction k with
  | zero =>
    intro g hk h1 h2
    refine ⟨0 + 1, ?_⟩
    rw [wp_M_divide_39]
    dsimp only
    refine br_t (by decide) ⟨vp_in_nI (by omega) (by omega), vp_in_nI (n := 0) (by omega) (by omega), ?_⟩
    rw [nI_clamp (by omega), hai, sb_cl0, rw_nk a (by omega)]
    refine hK _ ?_
    intro t ht
    cases t with
    | zero => rw [pk_us, Nat.pow_zero, Nat.div_one, show (2 * R + a) % 2 = a by omega]
    | succ t =>
      rw [pk_un (by omega), dv_up ha, h2 (t + 1) (by omega) (by omega), Nat.add_sub_cancel]
  | succ k ih =>
    intro g hk h1 h2
    obtain ⟨n, hn⟩ := ih (upd g (k + 1) (nI (R / 2 ^ k % 2))) (by omega) (fun t ht => by rw [pk_un (by omega)]; exact h1 t (by omega)) (fun t a b => by
      by_cases d : t = k + 1
      · subst d; rw [pk_us, Nat.add_sub_cancel]
      · rw [pk_un d]; exact h2 t (by omega) b)
    refine ⟨n + 1, ?_⟩
    rw [wp_M_divide_39]
    dsimp only
    rw [nI_pred, pk_m1, nI_clamp (show k < 2 ^ 31 by omega), nI_clamp (show k + 1 < 2 ^ 31 by omega), h1 k (by omega), rw_nk _ (by have := bn_2 R k; omega)]
    exact br_f (nI_nle (by omega) (by omega)) ⟨vp_in_nI (by omega) (by omega), vp_in_nI (by omega) (by omega), hn⟩
theorem dv_q (A B j : Nat) : A / 2 ^ j / B % 2 = A / B / 2 ^ j % 2 := by
  rw [Nat.div_div_eq_div_mul, Nat.mul_comm, ← Nat.div_div_eq_div_mul]
theorem lm_div33 {w A B : Nat} (h1w : 1 ≤ w) (hw : w ≤ 64) (hB0 : 0 < B) (hBl : B < 2 ^ w) (hA : rw_N ka w A) (hB : rw_N kq w B) (hp : ∀ gc gr : Nat → Int32, rw_N gc w (A / B) → rw_N gr (w + 1) (A % B) → post kb kw ks ka kq gc gr kt kd many tsz thr) :
    ∀ (t : Nat) (gc gr : Nat → Int32), t ≤ w → rw_N gr (w + 1) (A / 2 ^ t % B) → (∀ j, t ≤ j → j < w → gc j = nI (A / 2 ^ j / B % 2)) → (∀ j, j < t → gc j = nI 0) → wp_M_divide_33 post (t + 1) (nI w) (nI t + (-1)) kb kw ks ka kq gc gr kt kd many tsz thr := by
  intro t
  induction t with
  | zero =>
    intro gc gr _ h1 h2 h3
    rw [wp_M_divide_33]
    refine br_t (by decide) (hp gc gr (fun j hj => ?_) ?_)
    · rw [h2 j (by omega) hj, dv_q]
    · rw [Nat.pow_zero, Nat.div_one] at h1; exact h1
  | succ t ih =>
    intro gc gr ht h1 h2 h3
    have ha := bn_2 A t
    have hs := bn_step A t
    obtain ⟨d1, d2⟩ := dv_step (Q := A / 2 ^ (t + 1)) (B := B) (a := A / 2 ^ t % 2) hB0 (by omega)
    rw [← hs] at d1 d2
    have hm := Nat.mod_lt (A / 2 ^ (t + 1)) hB0
    generalize hR : A / 2 ^ (t + 1) % B = R at *
    have hp2 : 2 ^ (w + 1) = 2 * 2 ^ w := by rw [Nat.pow_succ, Nat.mul_comm]
    have hqq : A / 2 ^ t / B % 2 = if 2 * R + A / 2 ^ t % 2 < B then 0 else 1 := by
      rw [d1]; split <;> omega
    rw [wp_M_divide_33]
    dsimp only
    rw [pk_m1]
    refine br_f (nI_pos (by omega)) ?_
    refine lm_div39 (R := R) hw (by omega) ha (hA t (by omega)) (fun g hg => ?_) w gr (Nat.le_refl _) (fun j hj => h1 j (by omega)) (fun j a b => by omega)
    refine sm_reaches h1w hw (by omega) hBl hg hB (fun c => ?_) (fun c => ?_)
    · refine br_t (by decide) ?_
      rw [if_neg (by omega)] at d2 hqq
      have := lm_div91 (K33 := wp_M_divide_33 post (t + 1)) (post := post) (kb := kb) (kw := kw) (ks := ks) (ka := ka) (kc := gc) (kt := kt) (kd := kd) (many := many) (tsz := tsz) (thr := thr) (i := t) hw (by omega) hBl hB c (fun g2 h4 => ih (upd gc t (nI 1)) g2 (by omega) (by rw [d2]; exact h4) (fun j a b => by
        by_cases e : j = t
        · subst e; rw [pk_us, hqq]
        · rw [pk_un e]; exact h2 j (by omega) b) (fun j a => by rw [pk_un (by omega)]; exact h3 j (by omega))) (w + 1) 0 g (by omega) (fun j hj => by omega) (fun j _ b => hg j b)
      rw [show ((2 * R + A / 2 ^ t % 2 - B) % 2 ^ 0 + B % 2 ^ 0 + 0) / 2 ^ 0 = 0 by simp [Nat.mod_one]] at this
      exact this
    · refine br_f (fun z => z rfl) ?_
      rw [if_pos c] at d2 hqq
      unfold wp_M_divide_162
      refine ih gc g (by omega) (by rw [d2]; exact hg) (fun j a b => ?_) (fun j a => h3 j (by omega))
      by_cases e : j = t
      · subst e; rw [hqq]; exact h3 j (by omega)
      · exact h2 j (by omega) b
theorem lm_div11 {w : Nat} (hw : w ≤ 64) (hp : ∀ g : Nat → Int32, (∀ j, j < w + 1 → g j = nI 0) → ∀ v32 : Int32, v32 = nI w - (1 : Int32) → ∃ n33 : Nat, wp_M_divide_33 post n33 (nI w) v32 kb kw ks ka kq kc g kt kd many tsz thr) :
    ∀ (k i : Nat) (g : Nat → Int32), i + k = w + 1 → (∀ j, j < i → g j = nI 0) → ∃ n, wp_M_divide_11 post n (nI w) (nI i) kb kw ks ka kq kc g kt kd many tsz thr := by
  intro k
  induction k with
  | zero =>
    intro i g hi h1
    refine ⟨0 + 1, ?_⟩
    rw [wp_M_divide_11]
    exact br_t (nI_lt (by omega) (by omega)) (hp g (fun j hj => h1 j (by omega)))
  | succ k ih =>
    intro i g hi h1
    obtain ⟨n, hn⟩ := ih (i + 1) (upd g i (nI 0)) (by omega) (fun j hj => by
      by_cases d : j = i
      · subst d; exact pk_us
      · rw [pk_un d]; exact h1 j (by omega))
    refine ⟨n + 1, ?_⟩
    rw [wp_M_divide_11]
    refine br_f (nI_nlt (by omega) (by omega)) ⟨vp_in_nI (by omega) (by omega), ?_⟩
    rw [nI_clamp (by omega), nI_1 i]
    exact hn
theorem sm_divide {w A B : Nat} (h1w : 1 ≤ w) (hw : w ≤ 64) (hAl : A < 2 ^ w) (hB0 : 0 < B) (hBl : B < 2 ^ w) (hA : rw_N ka w A) (hB : rw_N kq w B) (hp : ∀ gc gr : Nat → Int32, rw_N gc w (A / B) → rw_N gr (w + 1) (A % B) → post kb kw ks ka kq gc gr kt kd many tsz thr) : wp_M_divide post (nI w) kb kw ks ka kq kc kr kt kd many tsz thr := by
  unfold wp_M_divide
  refine sm_fill (v := 0) hw (by decide) (fun gc hgc => ?_)
  refine lm_div11 hw (fun g hg v hv => ⟨w + 1, ?_⟩) (w + 1) 0 kr (by omega) (fun j hj => by omega)
  rw [hv, nm_1 w h1w]
  refine lm_div33 h1w hw hB0 hBl hA hB hp w gc g (Nat.le_refl _) (fun j hj => ?_) (fun j a b => by omega) (fun j hj => hgc j hj)
  rw [hg j hj, Nat.div_eq_of_lt hAl, Nat.zero_mod, Nat.zero_div]
end MA
