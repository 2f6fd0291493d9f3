/-! the reference over its pile: refuse, wider, take, give -/
section MW
variable {kb kw ks ka kq kc kr kt kd : Nat → Int32} {many tsz thr : Int32}
variable {post : (Nat → Int32) → (Nat → Int32) → (Nat → Int32) → (Nat → Int32) → (Nat → Int32) → (Nat → Int32) → (Nat → Int32) → (Nat → Int32) → (Nat → Int32) → Int32 → Int32 → Int32 → Prop}
variable {posi : Int32 → (Nat → Int32) → (Nat → Int32) → (Nat → Int32) → (Nat → Int32) → (Nat → Int32) → (Nat → Int32) → (Nat → Int32) → (Nat → Int32) → (Nat → Int32) → Int32 → Int32 → Int32 → Prop}

theorem sm_refuse {m need room : Nat} {bad : Int32} (hm : m ≤ 64) (hn : need ≤ 64) (hr : room ≤ 64) (hmany : many = nI m) (h1 : ¬ bad = 0 → posi 1 kb kw ks ka kq kc kr kt kd many tsz 1)
    (h2 : bad = 0 → (m < need ∨ 64 < m - need + room) → posi 1 kb kw ks ka kq kc kr kt kd many tsz 2) (h0 : bad = 0 → need ≤ m → m - need + room ≤ 64 → posi 0 kb kw ks ka kq kc kr kt kd many tsz 0) : wp_M_refuse posi bad (nI need) (nI room) kb kw ks ka kq kc kr kt kd many tsz thr := by
  have k2 : bad = 0 → (m < need ∨ 64 < m - need + room) → wp_M_refuse_30 posi kb kw ks ka kq kc kr kt kd many tsz thr := fun a b => by
    unfold wp_M_refuse_30 wp_M_refuse_35
    exact br_f (by decide) ⟨rfl, h2 a b⟩
  unfold wp_M_refuse
  refine br_c (fun b => ?_) (fun b => ?_)
  · subst hmany
    refine pk_lt m need (fun c => k2 b (Or.inl c)) (fun c => ?_) rfl rfl (by omega) (by omega)
    rw [pk_sub c, nI_add]
    refine pk_le (m - need + room) 64 (fun d => ?_) (fun d => k2 b (Or.inr d)) rfl rfl (by omega) (by omega)
    unfold wp_M_refuse_35
    exact br_t (by decide) ⟨rfl, h0 b c d⟩
  · unfold wp_M_refuse_35
    exact br_f (by decide) ⟨rfl, h1 b⟩
theorem sm_wider {m w1 w2 : Nat} (h2 : 2 ≤ m) (hm : m ≤ 64) (hmany : many = nI m) (hw1 : kw (m - 2) = nI w1) (hw2 : kw (m - 1) = nI w2) (k1 : w1 ≤ 64) (k2 : w2 ≤ 64) (hq : posi (nI (max w1 w2)) kb kw ks ka kq kc kr kt kd many tsz thr) : wp_M_wider posi kb kw ks ka kq kc kr kt kd many tsz thr := by
  subst hmany
  have e1 : nI m - (1 : Int32) = nI (m - 1) := pk_sub (b := 1) (by omega)
  have e2 : nI m - (2 : Int32) = nI (m - 2) := pk_sub (b := 2) (by omega)
  have i1 : vp_in (nI (m - 1)) 64 := vp_in_nI (by omega) (by decide)
  have i2 : vp_in (nI (m - 2)) 64 := vp_in_nI (by omega) (by decide)
  unfold wp_M_wider
  rw [e1, e2, nI_clamp (show m - 1 < 2 ^ 31 by omega), nI_clamp (show m - 2 < 2 ^ 31 by omega), hw1, hw2]
  refine ⟨i1, i2, ?_⟩
  refine pk_le w2 w1 (fun c => ⟨i2, ?_⟩) (fun c => ⟨i1, ?_⟩) rfl rfl (by omega) (by omega)
  · rw [Nat.max_eq_left c] at hq; exact hq
  · rw [Nat.max_eq_right (by omega)] at hq; exact hq
theorem lm_give_a {m w : Nat} {s : Bool} (hm : m < 64) (hw : w ≤ 64) (hc : ∀ i, i < w → vp_nar .byte (ka i) = ka i) (hq : ∀ gb gw gs : Nat → Int32, (∀ i, i < w → gb (64 * m + i) = ka i) → (∀ j, j < 64 * m → gb j = kb j) → gw m = nI w → (∀ q, q ≠ m → gw q = kw q) → gs m = bi_v s → (∀ q, q ≠ m → gs q = ks q) → post gb gw gs ka kq kc kr kt kd (nI (m + 1)) tsz thr) :
    ∀ (k i : Nat) (gb : Nat → Int32), i + k = w → (∀ j, j < i → gb (64 * m + j) = ka j) → (∀ j, j < 64 * m → gb j = kb j) → ∃ n, wp_M_give_a_3 post n (nI w) (bi_v s) (nI i) gb kw ks ka kq kc kr kt kd (nI m) tsz thr := by
  have hin : vp_in (nI m) 64 := vp_in_nI hm (by decide)
  intro k
  induction k with
  | zero =>
    intro i gb hi h1 h2
    refine ⟨0 + 1, ?_⟩
    rw [wp_M_give_a_3]
    refine br_t (nI_le (by omega) (by omega)) ⟨hin, hin, ?_⟩
    rw [nI_clamp (by omega), bi_nar, nI_1]
    exact hq gb _ _ (fun j hj => h1 j (by omega)) h2 pk_us (fun q h => pk_un h) pk_us (fun q h => pk_un h)
  | succ k ih =>
    intro i gb hi h1 h2
    obtain ⟨n, hn⟩ := ih (i + 1) (upd gb (64 * m + i) (ka i)) (by omega) (fun j hj => by
      by_cases d : j = i
      · subst d; exact pk_us
      · rw [pk_un (by omega)]; exact h1 j (by omega)) (fun j hj => by rw [pk_un (by omega)]; exact h2 j hj)
    refine ⟨n + 1, ?_⟩
    rw [wp_M_give_a_3]
    dsimp only
    have e : (64 : Int32) * nI m + nI i = nI (64 * m + i) := by rw [ix_64, pk_mul, nI_add]
    rw [e, nI_clamp (show 64 * m + i < 2 ^ 31 by omega), nI_clamp (show i < 2 ^ 31 by omega), nI_1 i, hc i (by omega)]
    exact br_f (nI_ge (by omega) (by omega)) ⟨vp_in_nI (by omega) (by decide), vp_in_nI (by omega) (by decide), hn⟩
theorem sm_give_a {m w : Nat} {s : Bool} (hm : m < 64) (hw : w ≤ 64) (hmany : many = nI m) (hc : ∀ i, i < w → vp_nar .byte (ka i) = ka i) (hq : ∀ gb gw gs : Nat → Int32, (∀ i, i < w → gb (64 * m + i) = ka i) → (∀ j, j < 64 * m → gb j = kb j) → gw m = nI w → (∀ q, q ≠ m → gw q = kw q) → gs m = bi_v s → (∀ q, q ≠ m → gs q = ks q) → post gb gw gs ka kq kc kr kt kd (nI (m + 1)) tsz thr) : wp_M_give_a post (nI w) (bi_v s) kb kw ks ka kq kc kr kt kd many tsz thr := by
  subst hmany
  unfold wp_M_give_a
  exact lm_give_a hm hw hc hq w 0 kb (by omega) (fun j hj => by omega) (fun j hj => rfl)
theorem lm_give_c {m w : Nat} {s : Bool} (hm : m < 64) (hw : w ≤ 64) (hc : ∀ i, i < w → vp_nar .byte (kc i) = kc i) (hq : ∀ gb gw gs : Nat → Int32, (∀ i, i < w → gb (64 * m + i) = kc i) → (∀ j, j < 64 * m → gb j = kb j) → gw m = nI w → (∀ q, q ≠ m → gw q = kw q) → gs m = bi_v s → (∀ q, q ≠ m → gs q = ks q) → post gb gw gs ka kq kc kr kt kd (nI (m + 1)) tsz thr) :
    ∀ (k i : Nat) (gb : Nat → Int32), i + k = w → (∀ j, j < i → gb (64 * m + j) = kc j) → (∀ j, j < 64 * m → gb j = kb j) → ∃ n, wp_M_give_c_3 post n (nI w) (bi_v s) (nI i) gb kw ks ka kq kc kr kt kd (nI m) tsz thr := by
  have hin : vp_in (nI m) 64 := vp_in_nI hm (by decide)
  intro k
  induction k with
  | zero =>
    intro i gb hi h1 h2
    refine ⟨0 + 1, ?_⟩
    rw [wp_M_give_c_3]
    refine br_t (nI_le (by omega) (by omega)) ⟨hin, hin, ?_⟩
    rw [nI_clamp (by omega), bi_nar, nI_1]
    exact hq gb _ _ (fun j hj => h1 j (by omega)) h2 pk_us (fun q h => pk_un h) pk_us (fun q h => pk_un h)
  | succ k ih =>
    intro i gb hi h1 h2
    obtain ⟨n, hn⟩ := ih (i + 1) (upd gb (64 * m + i) (kc i)) (by omega) (fun j hj => by
      by_cases d : j = i
      · subst d; exact pk_us
      · rw [pk_un (by omega)]; exact h1 j (by omega)) (fun j hj => by rw [pk_un (by omega)]; exact h2 j hj)
    refine ⟨n + 1, ?_⟩
    rw [wp_M_give_c_3]
    dsimp only
    have e : (64 : Int32) * nI m + nI i = nI (64 * m + i) := by rw [ix_64, pk_mul, nI_add]
    rw [e, nI_clamp (show 64 * m + i < 2 ^ 31 by omega), nI_clamp (show i < 2 ^ 31 by omega), nI_1 i, hc i (by omega)]
    exact br_f (nI_ge (by omega) (by omega)) ⟨vp_in_nI (by omega) (by decide), vp_in_nI (by omega) (by decide), hn⟩
theorem sm_give_c {m w : Nat} {s : Bool} (hm : m < 64) (hw : w ≤ 64) (hmany : many = nI m) (hc : ∀ i, i < w → vp_nar .byte (kc i) = kc i) (hq : ∀ gb gw gs : Nat → Int32, (∀ i, i < w → gb (64 * m + i) = kc i) → (∀ j, j < 64 * m → gb j = kb j) → gw m = nI w → (∀ q, q ≠ m → gw q = kw q) → gs m = bi_v s → (∀ q, q ≠ m → gs q = ks q) → post gb gw gs ka kq kc kr kt kd (nI (m + 1)) tsz thr) : wp_M_give_c post (nI w) (bi_v s) kb kw ks ka kq kc kr kt kd many tsz thr := by
  subst hmany
  unfold wp_M_give_c
  exact lm_give_c hm hw hc hq w 0 kb (by omega) (fun j hj => by omega) (fun j hj => rfl)
theorem lm_take_a {p w0 w : Nat} {s : Bool} (hp : p < 64) (h0 : 1 ≤ w0) (h0' : w0 ≤ 64) (hw : w ≤ 64) (hkw : kw p = nI w0) (hb : ∀ i, i < w0 → vp_nar .byte (kb (64 * p + i)) = kb (64 * p + i)) (hq : ∀ g : Nat → Int32, (∀ i, i < w → g i = if i < w0 then kb (64 * p + i) else if s then kb (64 * p + (w0 - 1)) else 0) → post kb kw ks g kq kc kr kt kd many tsz thr) :
    ∀ (k i : Nat) (g : Nat → Int32), i + k = w → (∀ j, j < i → g j = if j < w0 then kb (64 * p + j) else if s then kb (64 * p + (w0 - 1)) else 0) → ∃ n, wp_M_take_a_3 post n (nI p) (nI w) (bi_v s) (nI i) kb kw ks g kq kc kr kt kd many tsz thr := by
  have hin : vp_in (nI p) 64 := vp_in_nI hp (by decide)
  intro k
  induction k with
  | zero =>
    intro i g hi h1
    refine ⟨0 + 1, ?_⟩
    rw [wp_M_take_a_3]
    exact br_t (nI_le (by omega) (by omega)) (hq g (fun j hj => h1 j (by omega)))
  | succ k ih =>
    intro i g hi h1
    obtain ⟨n, hn⟩ := ih (i + 1) (upd g i (if i < w0 then kb (64 * p + i) else if s then kb (64 * p + (w0 - 1)) else 0)) (by omega) (fun j hj => by
      by_cases d : j = i
      · subst d; exact pk_us
      · rw [pk_un d]; exact h1 j (by omega))
    refine ⟨n + 1, ?_⟩
    rw [wp_M_take_a_3]
    have hi64 : vp_in (nI i) 64 := vp_in_nI (by omega) (by decide)
    have fin : ∀ x : Int32, vp_nar .byte x = (if i < w0 then kb (64 * p + i) else if s then kb (64 * p + (w0 - 1)) else 0) → wp_M_take_a_65 (wp_M_take_a_3 post n) post (nI p) (nI w) (bi_v s) (nI i) x (nI i) kb kw ks g kq kc kr kt kd many tsz thr := by
      intro x hx
      unfold wp_M_take_a_65
      refine ⟨hi64, ?_⟩
      rw [nI_clamp (show i < 2 ^ 31 by omega), nI_1, hx]
      exact hn
    have e : (64 : Int32) * nI p + nI i = nI (64 * p + i) := by rw [ix_64, pk_mul, nI_add]
    have e2 : (64 : Int32) * nI p + nI w0 - 1 = nI (64 * p + (w0 - 1)) := by
      rw [ix_64, pk_mul, nI_add, show (1 : Int32) = nI 1 from rfl, pk_sub (by omega)]
      congr 1
      omega
    refine br_f (nI_ge (by omega) (by omega)) ⟨hin, ?_⟩
    rw [nI_clamp (show p < 2 ^ 31 by omega), hkw, e, e2, nI_clamp (show 64 * p + i < 2 ^ 31 by omega), nI_clamp (show 64 * p + (w0 - 1) < 2 ^ 31 by omega)]
    refine pk_le w0 i (fun c => ?_) (fun c => ?_) rfl rfl (by omega) (by omega)
    · rw [if_neg (show ¬ i < w0 by omega)] at fin
      cases s
      · exact br_t rfl (fin 0 rfl)
      · exact br_f (by decide) ⟨hin, vp_in_nI (by omega) (by decide), fin _ (hb _ (by omega))⟩
    · rw [if_pos c] at fin
      exact ⟨vp_in_nI (by omega) (by decide), fin _ (hb _ c)⟩
theorem sm_take_a {p w0 w : Nat} {s : Bool} {O U : Int64} (hp : p < 64) (h0 : 1 ≤ w0) (h0' : w0 ≤ 64) (h1 : 1 ≤ w) (hw : w ≤ 64) (hkw : kw p = nI w0) (hO : lb_mk w0 O) (hU : lb_mk w0 U) (hR : rw_R (fun i => kb (64 * p + i)) w0 O U) (hq : ∀ g : Nat → Int32, rw_R g w (xt_v s w0 w O) (xt_v s w0 w U) → post kb kw ks g kq kc kr kt kd many tsz thr) : wp_M_take_a post (nI p) (nI w) (bi_v s) kb kw ks ka kq kc kr kt kd many tsz thr := by
  unfold wp_M_take_a
  refine lm_take_a hp h0 h0' hw hkw (fun i hi => ?_) (fun g hg => hq g (xt_row h0 h0' h1 hw hO hU hR s hg)) w 0 ka (by omega) (fun j hj => by omega)
  have := hR i hi
  dsimp only at this
  rw [this]
  exact rw_nb _ _
theorem lm_take_b {p w0 w : Nat} {s : Bool} (hp : p < 64) (h0 : 1 ≤ w0) (h0' : w0 ≤ 64) (hw : w ≤ 64) (hkw : kw p = nI w0) (hb : ∀ i, i < w0 → vp_nar .byte (kb (64 * p + i)) = kb (64 * p + i)) (hq : ∀ g : Nat → Int32, (∀ i, i < w → g i = if i < w0 then kb (64 * p + i) else if s then kb (64 * p + (w0 - 1)) else 0) → post kb kw ks ka g kc kr kt kd many tsz thr) :
    ∀ (k i : Nat) (g : Nat → Int32), i + k = w → (∀ j, j < i → g j = if j < w0 then kb (64 * p + j) else if s then kb (64 * p + (w0 - 1)) else 0) → ∃ n, wp_M_take_b_3 post n (nI p) (nI w) (bi_v s) (nI i) kb kw ks ka g kc kr kt kd many tsz thr := by
  have hin : vp_in (nI p) 64 := vp_in_nI hp (by decide)
  intro k
  induction k with
  | zero =>
    intro i g hi h1
    refine ⟨0 + 1, ?_⟩
    rw [wp_M_take_b_3]
    exact br_t (nI_le (by omega) (by omega)) (hq g (fun j hj => h1 j (by omega)))
  | succ k ih =>
    intro i g hi h1
    obtain ⟨n, hn⟩ := ih (i + 1) (upd g i (if i < w0 then kb (64 * p + i) else if s then kb (64 * p + (w0 - 1)) else 0)) (by omega) (fun j hj => by
      by_cases d : j = i
      · subst d; exact pk_us
      · rw [pk_un d]; exact h1 j (by omega))
    refine ⟨n + 1, ?_⟩
    rw [wp_M_take_b_3]
    have hi64 : vp_in (nI i) 64 := vp_in_nI (by omega) (by decide)
    have fin : ∀ x : Int32, vp_nar .byte x = (if i < w0 then kb (64 * p + i) else if s then kb (64 * p + (w0 - 1)) else 0) → wp_M_take_b_65 (wp_M_take_b_3 post n) post (nI p) (nI w) (bi_v s) (nI i) x (nI i) kb kw ks ka g kc kr kt kd many tsz thr := by
      intro x hx
      unfold wp_M_take_b_65
      refine ⟨hi64, ?_⟩
      rw [nI_clamp (show i < 2 ^ 31 by omega), nI_1, hx]
      exact hn
    have e : (64 : Int32) * nI p + nI i = nI (64 * p + i) := by rw [ix_64, pk_mul, nI_add]
    have e2 : (64 : Int32) * nI p + nI w0 - 1 = nI (64 * p + (w0 - 1)) := by
      rw [ix_64, pk_mul, nI_add, show (1 : Int32) = nI 1 from rfl, pk_sub (by omega)]
      congr 1
      omega
    refine br_f (nI_ge (by omega) (by omega)) ⟨hin, ?_⟩
    rw [nI_clamp (show p < 2 ^ 31 by omega), hkw, e, e2, nI_clamp (show 64 * p + i < 2 ^ 31 by omega), nI_clamp (show 64 * p + (w0 - 1) < 2 ^ 31 by omega)]
    refine pk_le w0 i (fun c => ?_) (fun c => ?_) rfl rfl (by omega) (by omega)
    · rw [if_neg (show ¬ i < w0 by omega)] at fin
      cases s
      · exact br_t rfl (fin 0 rfl)
      · exact br_f (by decide) ⟨hin, vp_in_nI (by omega) (by decide), fin _ (hb _ (by omega))⟩
    · rw [if_pos c] at fin
      exact ⟨vp_in_nI (by omega) (by decide), fin _ (hb _ c)⟩
theorem sm_take_b {p w0 w : Nat} {s : Bool} {O U : Int64} (hp : p < 64) (h0 : 1 ≤ w0) (h0' : w0 ≤ 64) (h1 : 1 ≤ w) (hw : w ≤ 64) (hkw : kw p = nI w0) (hO : lb_mk w0 O) (hU : lb_mk w0 U) (hR : rw_R (fun i => kb (64 * p + i)) w0 O U) (hq : ∀ g : Nat → Int32, rw_R g w (xt_v s w0 w O) (xt_v s w0 w U) → post kb kw ks ka g kc kr kt kd many tsz thr) : wp_M_take_b post (nI p) (nI w) (bi_v s) kb kw ks ka kq kc kr kt kd many tsz thr := by
  unfold wp_M_take_b
  refine lm_take_b hp h0 h0' hw hkw (fun i hi => ?_) (fun g hg => hq g (xt_row h0 h0' h1 hw hO hU hR s hg)) w 0 kq (by omega) (fun j hj => by omega)
  have := hR i hi
  dsimp only at this
  rw [this]
  exact rw_nb _ _
theorem lm_take_c {p w0 w : Nat} {s : Bool} (hp : p < 64) (h0 : 1 ≤ w0) (h0' : w0 ≤ 64) (hw : w ≤ 64) (hkw : kw p = nI w0) (hb : ∀ i, i < w0 → vp_nar .byte (kb (64 * p + i)) = kb (64 * p + i)) (hq : ∀ g : Nat → Int32, (∀ i, i < w → g i = if i < w0 then kb (64 * p + i) else if s then kb (64 * p + (w0 - 1)) else 0) → post kb kw ks ka kq g kr kt kd many tsz thr) :
    ∀ (k i : Nat) (g : Nat → Int32), i + k = w → (∀ j, j < i → g j = if j < w0 then kb (64 * p + j) else if s then kb (64 * p + (w0 - 1)) else 0) → ∃ n, wp_M_take_c_3 post n (nI p) (nI w) (bi_v s) (nI i) kb kw ks ka kq g kr kt kd many tsz thr := by
  have hin : vp_in (nI p) 64 := vp_in_nI hp (by decide)
  intro k
  induction k with
  | zero =>
    intro i g hi h1
    refine ⟨0 + 1, ?_⟩
    rw [wp_M_take_c_3]
    exact br_t (nI_le (by omega) (by omega)) (hq g (fun j hj => h1 j (by omega)))
  | succ k ih =>
    intro i g hi h1
    obtain ⟨n, hn⟩ := ih (i + 1) (upd g i (if i < w0 then kb (64 * p + i) else if s then kb (64 * p + (w0 - 1)) else 0)) (by omega) (fun j hj => by
      by_cases d : j = i
      · subst d; exact pk_us
      · rw [pk_un d]; exact h1 j (by omega))
    refine ⟨n + 1, ?_⟩
    rw [wp_M_take_c_3]
    have hi64 : vp_in (nI i) 64 := vp_in_nI (by omega) (by decide)
    have fin : ∀ x : Int32, vp_nar .byte x = (if i < w0 then kb (64 * p + i) else if s then kb (64 * p + (w0 - 1)) else 0) → wp_M_take_c_65 (wp_M_take_c_3 post n) post (nI p) (nI w) (bi_v s) (nI i) x (nI i) kb kw ks ka kq g kr kt kd many tsz thr := by
      intro x hx
      unfold wp_M_take_c_65
      refine ⟨hi64, ?_⟩
      rw [nI_clamp (show i < 2 ^ 31 by omega), nI_1, hx]
      exact hn
    have e : (64 : Int32) * nI p + nI i = nI (64 * p + i) := by rw [ix_64, pk_mul, nI_add]
    have e2 : (64 : Int32) * nI p + nI w0 - 1 = nI (64 * p + (w0 - 1)) := by
      rw [ix_64, pk_mul, nI_add, show (1 : Int32) = nI 1 from rfl, pk_sub (by omega)]
      congr 1
      omega
    refine br_f (nI_ge (by omega) (by omega)) ⟨hin, ?_⟩
    rw [nI_clamp (show p < 2 ^ 31 by omega), hkw, e, e2, nI_clamp (show 64 * p + i < 2 ^ 31 by omega), nI_clamp (show 64 * p + (w0 - 1) < 2 ^ 31 by omega)]
    refine pk_le w0 i (fun c => ?_) (fun c => ?_) rfl rfl (by omega) (by omega)
    · rw [if_neg (show ¬ i < w0 by omega)] at fin
      cases s
      · exact br_t rfl (fin 0 rfl)
      · exact br_f (by decide) ⟨hin, vp_in_nI (by omega) (by decide), fin _ (hb _ (by omega))⟩
    · rw [if_pos c] at fin
      exact ⟨vp_in_nI (by omega) (by decide), fin _ (hb _ c)⟩
theorem sm_take_c {p w0 w : Nat} {s : Bool} {O U : Int64} (hp : p < 64) (h0 : 1 ≤ w0) (h0' : w0 ≤ 64) (h1 : 1 ≤ w) (hw : w ≤ 64) (hkw : kw p = nI w0) (hO : lb_mk w0 O) (hU : lb_mk w0 U) (hR : rw_R (fun i => kb (64 * p + i)) w0 O U) (hq : ∀ g : Nat → Int32, rw_R g w (xt_v s w0 w O) (xt_v s w0 w U) → post kb kw ks ka kq g kr kt kd many tsz thr) : wp_M_take_c post (nI p) (nI w) (bi_v s) kb kw ks ka kq kc kr kt kd many tsz thr := by
  unfold wp_M_take_c
  refine lm_take_c hp h0 h0' hw hkw (fun i hi => ?_) (fun g hg => hq g (xt_row h0 h0' h1 hw hO hU hR s hg)) w 0 kc (by omega) (fun j hj => by omega)
  have := hR i hi
  dsimp only at this
  rw [this]
  exact rw_nb _ _
end MW
