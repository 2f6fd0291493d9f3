/-! the reference's methods on single rows -/
theorem sm_and1 {n : Nat} (h : n < 2 ^ 31) : nI n &&& 1 = nI (n % 2) := pk_andN (by omega) 1 (by decide)
theorem sm_shr1 {n : Nat} (h : n < 2 ^ 31) : nI n >>> ((1 : Int32) &&& 31) = nI (n / 2) := pk_shrN h _ 1 (by decide)
theorem sm_b {n : Nat} (h : n < 128) : vp_nar .byte (nI n).toInt8.toInt32 = nI n := by rw [rw_nkb n h, rw_nk n h]
theorem sm_1s : ∀ x, x < 2 → (1 : Int32) - nI x = nI (1 - x) := by decide
theorem lm_dark {w : Nat} (hw : w ≤ 64) {post : Int32 → (Nat → Int32) → Prop} {f : Nat → Int32} : ∀ (k i : Nat), i + k = w → ((∀ j, i ≤ j → j < w → ¬ 1 < f j) → post 0 f) → (∀ j, i ≤ j → j < w → 1 < f j → post 1 f) → ∃ n, wp_M_dark_2 post n (nI w) (nI i) f := by
  intro k
  induction k with
  | zero =>
    intro i hi h0 h1
    refine ⟨0 + 1, ?_⟩
    rw [wp_M_dark_2]
    exact br_t (nI_le (by omega) (by omega)) ⟨rfl, h0 (fun j a b => by omega)⟩
  | succ k ih =>
    intro i hi h0 h1
    by_cases c : 1 < f i
    · refine ⟨0 + 1, ?_⟩
      rw [wp_M_dark_2]
      refine br_f (nI_ge (by omega) (by omega)) ⟨vp_in_nI (by omega) (by omega), ?_⟩
      rw [nI_clamp (by omega)]
      exact br_f (Int32.not_le.mpr c) ⟨rfl, h1 i (Nat.le_refl _) (by omega) c⟩
    · obtain ⟨n, hn⟩ := ih (i + 1) (by omega) (fun z => h0 (fun j a b => by
        by_cases d : j = i
        · rw [d]; exact c
        · exact z j (by omega) b)) (fun j a b => h1 j (by omega) b)
      refine ⟨n + 1, ?_⟩
      rw [wp_M_dark_2]
      refine br_f (nI_ge (by omega) (by omega)) ⟨vp_in_nI (by omega) (by omega), ?_⟩
      rw [nI_clamp (by omega), nI_1]
      exact br_t (Int32.not_lt.mp c) hn
theorem sm_dark {w : Nat} (hw : w ≤ 64) {post : Int32 → (Nat → Int32) → Prop} {f : Nat → Int32} {O U : Int64} (h : rw_R f w O U) (hU : lb_mk w U) (h0 : U = 0 → post 0 f) (h1 : ¬ U = 0 → post 1 f) : wp_M_dark post (nI w) f := by
  unfold wp_M_dark
  refine lm_dark hw w 0 (by omega) (fun z => h0 ((ro_dark h hU).mpr (fun i hi => z i (by omega) hi))) (fun j _ b c => h1 (fun z => (ro_dark h hU).mp z j b c))
theorem lm_fill {w v : Nat} (hw : w ≤ 64) (hv : v < 128) {post : (Nat → Int32) → Prop} : ∀ (k i : Nat) (f : Nat → Int32), i + k = w → (∀ g : Nat → Int32, (∀ j, i ≤ j → j < w → g j = nI v) → (∀ j, j < i → g j = f j) → post g) → ∃ n, wp_M_fill_2 post n (nI w) (nI v) (nI i) f := by
  intro k
  induction k with
  | zero =>
    intro i f hi hp
    refine ⟨0 + 1, ?_⟩
    rw [wp_M_fill_2]
    exact br_t (nI_le (by omega) (by omega)) (hp f (fun j a b => by omega) (fun j _ => rfl))
  | succ k ih =>
    intro i f hi hp
    obtain ⟨n, hn⟩ := ih (i + 1) (upd f i (nI v)) (by omega) (fun g h1 h2 => hp g (fun j a b => by
      by_cases c : j = i
      · subst c; rw [h2 j (by omega)]; exact pk_us
      · exact h1 j (by omega) b) (fun j a => by rw [h2 j (by omega)]; exact pk_un (by omega)))
    refine ⟨n + 1, ?_⟩
    rw [wp_M_fill_2]
    refine br_f (nI_ge (by omega) (by omega)) ⟨vp_in_nI (by omega) (by omega), ?_⟩
    rw [nI_clamp (by omega), nI_1, sm_b hv]
    exact hn
theorem sm_fill {w v : Nat} (hw : w ≤ 64) (hv : v < 128) {post : (Nat → Int32) → Prop} {f : Nat → Int32} (hp : ∀ g : Nat → Int32, (∀ j, j < w → g j = nI v) → post g) : wp_M_fill post (nI w) (nI v) f := by
  unfold wp_M_fill
  exact lm_fill hw hv w 0 f (by omega) (fun g h _ => hp g (fun j hj => h j (by omega) hj))
theorem lm_truth {w : Nat} (hw : w ≤ 64) {post : Int32 → (Nat → Int32) → Prop} {f : Nat → Int32} : ∀ (k i : Nat), i + k = w → ((∀ j, i ≤ j → j < w → ¬ f j = 1) → wp_M_dark (fun r g => (r = 0 → post 0 g) ∧ (¬ r = 0 → post 3 g)) (nI w) f) → (∀ j, i ≤ j → j < w → f j = 1 → post 1 f) → ∃ n, wp_M_truth_2 post n (nI w) (nI i) f := by
  intro k
  induction k with
  | zero =>
    intro i hi h0 h1
    refine ⟨0 + 1, ?_⟩
    rw [wp_M_truth_2]
    exact br_t (nI_le (by omega) (by omega)) (h0 (fun j a b => by omega))
  | succ k ih =>
    intro i hi h0 h1
    by_cases c : f i = 1
    · refine ⟨0 + 1, ?_⟩
      rw [wp_M_truth_2]
      refine br_f (nI_ge (by omega) (by omega)) ⟨vp_in_nI (by omega) (by omega), ?_⟩
      rw [nI_clamp (by omega)]
      exact br_f (fun z => z c) (h1 i (Nat.le_refl _) (by omega) c)
    · obtain ⟨n, hn⟩ := ih (i + 1) (by omega) (fun z => h0 (fun j a b => by
        by_cases d : j = i
        · rw [d]; exact c
        · exact z j (by omega) b)) (fun j a b => h1 j (by omega) b)
      refine ⟨n + 1, ?_⟩
      rw [wp_M_truth_2]
      refine br_f (nI_ge (by omega) (by omega)) ⟨vp_in_nI (by omega) (by omega), ?_⟩
      rw [nI_clamp (by omega), nI_1]
      exact br_t c hn
theorem sm_truth {w : Nat} (h1 : 1 ≤ w) (hw : w ≤ 64) {post : Int32 → (Nat → Int32) → Prop} {f : Nat → Int32} {O U : Int64} (h : rw_R f w O U) (hO : lb_mk w O) (hU : lb_mk w U) (p1 : ¬ so_1 O U = 0 → post 1 f) (p3 : so_1 O U = 0 → ¬ U = 0 → post 3 f) (p0 : so_1 O U = 0 → U = 0 → post 0 f) : wp_M_truth post (nI w) f := by
  unfold wp_M_truth
  refine lm_truth hw w 0 (by omega) (fun z => ?_) (fun j _ b c => p1 (fun z => (ro_one hw h hO).mp z j b c))
  have s : so_1 O U = 0 := (ro_one hw h hO).mpr (fun i hi => z i (by omega) hi)
  exact sm_dark hw h hU (fun u => br_t rfl (p0 s u)) (fun u => br_f (by decide) (p3 s u))
theorem lm_add {w X Y c : Nat} (hw : w ≤ 64) (hc : c ≤ 1) {post : (Nat → Int32) → (Nat → Int32) → (Nat → Int32) → Prop} {fx fy : Nat → Int32} (hx : rw_N fx w X) (hy : rw_N fy w Y) (hp : ∀ g : Nat → Int32, rw_N g w (X + Y + c) → post fx fy g) :
    ∀ (k i : Nat) (g : Nat → Int32), i + k = w → (∀ j, j < i → g j = nI ((X + Y + c) / 2 ^ j % 2)) → ∃ n, wp_M_add_7 post n (nI w) (nI ((X % 2 ^ i + Y % 2 ^ i + c) / 2 ^ i)) (nI i) fx fy g := by
  intro k
  induction k with
  | zero =>
    intro i g hi hg
    refine ⟨0 + 1, ?_⟩
    rw [wp_M_add_7]
    exact br_t (nI_le (by omega) (by omega)) (hp g (fun j hj => hg j (by omega)))
  | succ k ih =>
    intro i g hi hg
    have hcar : (X % 2 ^ i + Y % 2 ^ i + c) / 2 ^ i ≤ 1 := by
      have hpw := Nat.two_pow_pos i
      have m1 := Nat.mod_lt X hpw
      have m2 := Nat.mod_lt Y hpw
      have : (X % 2 ^ i + Y % 2 ^ i + c) / 2 ^ i < 2 := by
        rw [Nat.div_lt_iff_lt_mul hpw]; omega
      omega
    have b1 := bn_2 X i
    have b2 := bn_2 Y i
    have hb := ar_bit X Y c i
    have hk := ar_car X Y c i
    obtain ⟨n, hn⟩ := ih (i + 1) (upd g i (nI ((X + Y + c) / 2 ^ i % 2))) (by omega) (fun j hj => by
      by_cases d : j = i
      · subst d; exact pk_us
      · rw [pk_un d]; exact hg j (by omega))
    refine ⟨n + 1, ?_⟩
    rw [wp_M_add_7]
    refine br_f (nI_ge (by omega) (by omega)) ?_
    have hin : vp_in (nI i) 64 := vp_in_nI (by omega) (by omega)
    refine ⟨hin, hin, ?_⟩
    rw [nI_clamp (by omega), hx i (by omega), hy i (by omega), nI_add, nI_add]
    intro v hv
    subst hv
    refine ⟨hin, ?_⟩
    intro v2 hv2
    subst hv2
    rw [sm_and1 (by omega), sm_shr1 (by omega), ← hb, ← hk, sm_b (by have := bn_2 (X + Y + c) i; omega), nI_1]
    exact hn
theorem sm_add {w X Y c : Nat} (hw : w ≤ 64) (hc : c ≤ 1) {post : (Nat → Int32) → (Nat → Int32) → (Nat → Int32) → Prop} {fx fy fz : Nat → Int32} (hx : rw_N fx w X) (hy : rw_N fy w Y) (hp : ∀ g : Nat → Int32, rw_N g w (X + Y + c) → post fx fy g) : wp_M_add post (nI w) (nI c) fx fy fz := by
  unfold wp_M_add
  have e : (X % 2 ^ 0 + Y % 2 ^ 0 + c) / 2 ^ 0 = c := by simp [Nat.mod_one]
  have := lm_add hw hc hx hy hp w 0 fz (by omega) (fun j hj => by omega)
  rw [e] at this
  exact this
theorem lm_negate {w X : Nat} (hw : w ≤ 64) (hX : X < 2 ^ w) {post : (Nat → Int32) → Prop} (hp : ∀ g : Nat → Int32, rw_N g w (2 ^ w - X) → post g) :
    ∀ (k i : Nat) (g : Nat → Int32), i + k = w → (∀ j, j < i → g j = nI ((2 ^ w - X) / 2 ^ j % 2)) → (∀ j, i ≤ j → j < w → g j = nI (X / 2 ^ j % 2)) → ∃ n, wp_M_negate_4 post n (nI w) (nI (((2 ^ w - 1 - X) % 2 ^ i + 0 % 2 ^ i + 1) / 2 ^ i)) (nI i) g := by
  intro k
  induction k with
  | zero =>
    intro i g hi hg _
    refine ⟨0 + 1, ?_⟩
    rw [wp_M_negate_4]
    exact br_t (nI_le (by omega) (by omega)) (hp g (fun j hj => hg j (by omega)))
  | succ k ih =>
    intro i g hi hg hr
    have hcar : ((2 ^ w - 1 - X) % 2 ^ i + 0 % 2 ^ i + 1) / 2 ^ i ≤ 1 := by
      have hpw := Nat.two_pow_pos i
      have m1 := Nat.mod_lt (2 ^ w - 1 - X) hpw
      have : ((2 ^ w - 1 - X) % 2 ^ i + 0 % 2 ^ i + 1) / 2 ^ i < 2 := by
        rw [Nat.div_lt_iff_lt_mul hpw, Nat.zero_mod]; omega
      omega
    have b1 := bn_2 X i
    have hb := ar_bit (2 ^ w - 1 - X) 0 1 i
    have hk := ar_car (2 ^ w - 1 - X) 0 1 i
    have e0 : 2 ^ w - 1 - X + 0 + 1 = 2 ^ w - X := by omega
    have z0 : 0 / 2 ^ i % 2 = 0 := by rw [Nat.zero_div]
    rw [e0, bn_cmp i hX (by omega), z0] at hb
    rw [bn_cmp i hX (by omega), z0] at hk
    obtain ⟨n, hn⟩ := ih (i + 1) (upd g i (nI ((2 ^ w - X) / 2 ^ i % 2))) (by omega) (fun j hj => by
      by_cases d : j = i
      · subst d; exact pk_us
      · rw [pk_un d]; exact hg j (by omega)) (fun j a b => by rw [pk_un (by omega)]; exact hr j (by omega) b)
    refine ⟨n + 1, ?_⟩
    rw [wp_M_negate_4]
    refine br_f (nI_ge (by omega) (by omega)) ?_
    have hin : vp_in (nI i) 64 := vp_in_nI (by omega) (by omega)
    refine ⟨hin, ?_⟩
    rw [nI_clamp (by omega), hr i (Nat.le_refl _) (by omega), sm_1s _ b1, nI_add]
    intro v hv
    subst hv
    refine ⟨hin, ?_⟩
    intro v2 hv2
    subst hv2
    rw [sm_and1 (by omega), sm_shr1 (by omega)]
    rw [Nat.add_zero (1 - X / 2 ^ i % 2)] at hb hk
    rw [← hb, ← hk, sm_b (by have := bn_2 (2 ^ w - X) i; omega), nI_1]
    exact hn
theorem sm_negate {w X : Nat} (hw : w ≤ 64) (hX : X < 2 ^ w) {post : (Nat → Int32) → Prop} {f : Nat → Int32} (hf : rw_N f w X) (hp : ∀ g : Nat → Int32, rw_N g w (2 ^ w - X) → post g) : wp_M_negate post (nI w) f := by
  unfold wp_M_negate
  have e : ((2 ^ w - 1 - X) % 2 ^ 0 + 0 % 2 ^ 0 + 1) / 2 ^ 0 = 1 := by simp [Nat.mod_one]
  have := lm_negate hw hX hp w 0 f (by omega) (fun j hj => by omega) (fun j _ b => hf j b)
  rw [e] at this
  exact this
theorem lm_isZero {w : Nat} (hw : w ≤ 64) {post : Int32 → (Nat → Int32) → Prop} {f : Nat → Int32} : ∀ (k i : Nat), i + k = w → ((∀ j, i ≤ j → j < w → f j = 0) → post 1 f) → (∀ j, i ≤ j → j < w → ¬ f j = 0 → post 0 f) → ∃ n, wp_M_isZero_2 post n (nI w) (nI i) f := by
  intro k
  induction k with
  | zero =>
    intro i hi h0 h1
    refine ⟨0 + 1, ?_⟩
    rw [wp_M_isZero_2]
    exact br_t (nI_le (by omega) (by omega)) ⟨rfl, h0 (fun j a b => by omega)⟩
  | succ k ih =>
    intro i hi h0 h1
    by_cases c : f i = 0
    · obtain ⟨n, hn⟩ := ih (i + 1) (by omega) (fun z => h0 (fun j a b => by
        by_cases d : j = i
        · rw [d]; exact c
        · exact z j (by omega) b)) (fun j a b => h1 j (by omega) b)
      refine ⟨n + 1, ?_⟩
      rw [wp_M_isZero_2]
      refine br_f (nI_ge (by omega) (by omega)) ⟨vp_in_nI (by omega) (by omega), ?_⟩
      rw [nI_clamp (by omega), nI_1]
      exact br_t c hn
    · refine ⟨0 + 1, ?_⟩
      rw [wp_M_isZero_2]
      refine br_f (nI_ge (by omega) (by omega)) ⟨vp_in_nI (by omega) (by omega), ?_⟩
      rw [nI_clamp (by omega)]
      exact br_f c ⟨rfl, h1 i (Nat.le_refl _) (by omega) c⟩
theorem bn_zero {w n : Nat} (h : n < 2 ^ w) (z : ∀ i, i < w → n / 2 ^ i % 2 = 0) : n = 0 := by
  have := bn_ext (w := w) (n := n) (m := 0) (fun i hi => by rw [z i hi, Nat.zero_div])
  rwa [Nat.mod_eq_of_lt h, Nat.zero_mod] at this
theorem sm_isZero {w X : Nat} (hw : w ≤ 64) (hX : X < 2 ^ w) {post : Int32 → (Nat → Int32) → Prop} {f : Nat → Int32} (hf : rw_N f w X) (h1 : X = 0 → post 1 f) (h0 : ¬ X = 0 → post 0 f) : wp_M_isZero post (nI w) f := by
  unfold wp_M_isZero
  refine lm_isZero hw w 0 (by omega) (fun z => h1 (bn_zero hX (fun i hi => ?_))) (fun j _ b c => h0 (fun z => c ?_))
  · have := z i (by omega) hi
    rw [hf i hi, ← nI_0] at this
    exact (nI_eq (by have := bn_2 X i; omega) (by decide)).mp this
  · rw [hf j b, z, Nat.zero_div]; rfl
