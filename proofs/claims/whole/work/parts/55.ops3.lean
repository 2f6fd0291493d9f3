/-! copies, bit: class and reference alike -/
section MC
variable {kb kw ks ka kq kc kr kt kd : Nat → Int32} {many tsz thr : Int32}
variable {post : (Nat → Int32) → (Nat → Int32) → (Nat → Int32) → (Nat → Int32) → (Nat → Int32) → (Nat → Int32) → (Nat → Int32) → (Nat → Int32) → (Nat → Int32) → Int32 → Int32 → Int32 → Prop}
variable {posi : Int32 → (Nat → Int32) → (Nat → Int32) → (Nat → Int32) → (Nat → Int32) → (Nat → Int32) → (Nat → Int32) → (Nat → Int32) → (Nat → Int32) → (Nat → Int32) → Int32 → Int32 → Int32 → Prop}
theorem lm_copM {n p w : Nat} (hp : p < 64) (h1 : 1 ≤ w) (h2 : w ≤ 64) (hw : n * w ≤ 64) (n1 : ∀ i, i < w → vp_nar .byte (kb (64 * p + i)) = kb (64 * p + i))
    (hq : ∀ g : Nat → Int32, (∀ i, i < n * w → g i = kb (64 * p + i % w)) → wp_M_give_c (fun kb109 kw109 ks109 ka109 kq109 kc109 kr109 kt109 kd109 many109 tsz109 thr109 => post kb109 kw109 ks109 ka109 kq109 kc109 kr109 kt109 kd109 many109 tsz109 thr109) (nI (n * w)) (0 : Int32) kb kw ks ka kq g kr kt kd (many - (1 : Int32)) tsz thr) :
    ∀ (k i : Nat) (g : Nat → Int32), i + k = n * w → (∀ j, j < i → g j = kb (64 * p + j % w)) → ∃ f, wp_M_copies_55 post f (nI n) (nI p) (nI w) (nI i) kb kw ks ka kq g kr kt kd many tsz thr := by
  intro k
  induction k with
  | zero =>
    intro i g hi h1
    refine ⟨0 + 1, ?_⟩
    rw [wp_M_copies_55]
    dsimp only
    rw [pk_mul]
    exact br_t (nI_le (by omega) (by omega)) (hq g (fun j hj => h1 j (by omega)))
  | succ k ih =>
    intro i g hi h1
    have hm := Nat.mod_lt i (show 0 < w by omega)
    obtain ⟨f, hf⟩ := ih (i + 1) (upd g i (kb (64 * p + i % w))) (by omega) (fun j hj => by
      by_cases d : j = i
      · subst d; exact pk_us
      · rw [pk_un d]; exact h1 j (by omega))
    refine ⟨f + 1, ?_⟩
    rw [wp_M_copies_55]
    have e : (64 : Int32) * nI p + (nI i - nI i / nI w * nI w) = nI (64 * p + i % w) := by rw [pk_rem (by omega) (by omega) (by omega), ix_64, pk_mul, nI_add]
    dsimp only
    rw [pk_mul, e, nI_clamp (show 64 * p + i % w < 2 ^ 31 by omega), nI_clamp (show i < 2 ^ 31 by omega), n1 _ hm, nI_1 i]
    exact br_f (nI_ge (by omega) (by omega)) ⟨nI_ne0 (by omega) (by omega), vp_in_nI (by omega) (by decide), vp_in_nI (by omega) (by decide), hf⟩
theorem lm_amount {p w N : Nat} (hp : p < 64) (hw : w ≤ 64) (hR : rw_N (fun i => kb (64 * p + i)) w N) (hq : posi (nI (min N 64)) kb kw ks ka kq kc kr kt kd many tsz thr) :
    ∀ t, t ≤ w → N / 2 ^ t < 64 → ∃ n, wp_M_amount_12 posi n (nI p) (nI 64) (nI (N / 2 ^ t)) (nI t + (-1)) kb kw ks ka kq kc kr kt kd many tsz thr := by
  intro t
  induction t with
  | zero =>
    intro _ h
    refine ⟨0 + 1, ?_⟩
    rw [wp_M_amount_12]
    rw [Nat.pow_zero, Nat.div_one] at h ⊢
    rw [Nat.min_eq_left (by omega)] at hq
    exact br_t (by decide) hq
  | succ t ih =>
    intro ht h
    have hs := bn_step N t
    have b := bn_2 N t
    have e : (64 : Int32) * nI p + nI t = nI (64 * p + t) := by rw [ix_64, pk_mul, nI_add]
    have hr : kb (64 * p + t) = nI (N / 2 ^ t % 2) := hR t (by omega)
    have e2 : (2 : Int32) * nI (N / 2 ^ (t + 1)) + nI (N / 2 ^ t % 2) = nI (N / 2 ^ t) := by
      rw [show (2 : Int32) = nI 2 from rfl, pk_mul, nI_add, ← hs]
    have small : N / 2 ^ t < 128 := by omega
    by_cases c : N / 2 ^ t < 64
    · obtain ⟨n, hn⟩ := ih (by omega) c
      refine ⟨n + 1, ?_⟩
      rw [wp_M_amount_12]
      dsimp only
      rw [pk_m1, e, nI_clamp (show 64 * p + t < 2 ^ 31 by omega), hr, e2]
      refine br_f (nI_pos (by omega)) ⟨vp_in_nI (by omega) (by decide), ?_⟩
      intro v hv
      subst hv
      exact br_t (nI_lt c (by decide)) hn
    · refine ⟨0 + 1, ?_⟩
      rw [wp_M_amount_12]
      dsimp only
      rw [pk_m1, e, nI_clamp (show 64 * p + t < 2 ^ 31 by omega), hr, e2]
      refine br_f (nI_pos (by omega)) ⟨vp_in_nI (by omega) (by decide), ?_⟩
      intro v hv
      subst hv
      have := Nat.div_le_self N (2 ^ t)
      rw [Nat.min_eq_right (by omega)] at hq
      exact br_f (nI_nlt (by omega) (by omega)) hq
theorem sm_amount {p w N : Nat} (hp : p < 64) (h1 : 1 ≤ w) (hw : w ≤ 64) (hkw : kw p = nI w) (hN : N < 2 ^ w) (hR : rw_N (fun i => kb (64 * p + i)) w N) (hq : posi (nI (min N 64)) kb kw ks ka kq kc kr kt kd many tsz thr) : wp_M_amount posi (nI p) (64 : Int32) kb kw ks ka kq kc kr kt kd many tsz thr := by
  unfold wp_M_amount
  refine ⟨vp_in_nI hp (by decide), ?_⟩
  rw [nI_clamp (by omega), hkw]
  intro v hv
  rw [hv, nm_1 w h1]
  have := lm_amount hp hw hR hq w (Nat.le_refl _) (by rw [Nat.div_eq_of_lt hN]; decide)
  rw [Nat.div_eq_of_lt hN] at this
  exact this
end MC
theorem cp_l {n w : Nat} (hn : n < 2 ^ 31) (hw : w ≤ 64) : lg_cmp ((nI n).toInt64 * (nI w).toInt64) (64 : Int64) ≤ 0 ↔ n * w ≤ 64 := by
  rw [lg_cmp_le, nI_l hn, nI_l (by omega), lN_mul]
  refine pk_lLE (b := 64) ?_ (by decide)
  have : n * w ≤ n * 64 := Nat.mul_le_mul_left n hw
  omega
section XCo
variable {fO fU : Nat → Int64} {fW fG fL : Nat → Int32} {len size : Int32}
variable {post : (Nat → Int64) → (Nat → Int64) → (Nat → Int32) → (Nat → Int32) → (Nat → Int32) → Int32 → Int32 → Prop}
variable {px : String → (Nat → Int64) → (Nat → Int64) → (Nat → Int32) → (Nat → Int32) → (Nat → Int32) → Int32 → Int32 → Prop}
theorem cp_bit {w i : Nat} (h1 : 1 ≤ w) (hi : (i + 1) * w ≤ 64) (hi1 : 1 ≤ i) {x O : Int64} (mO : lb_mk w O) (hx : ∀ j, j < i * w → lb_t x j = lb_t O (j % w)) : ∀ j, j < (i + 1) * w → lb_t ((x <<< ((nI w).toInt64 &&& 63)) ||| O) j = lb_t O (j % w) := by
  intro j hj
  rw [Nat.add_mul, Nat.one_mul] at hj hi
  have hw2 : w ≤ i * w := Nat.le_mul_of_pos_left w (by omega)
  rw [lb_or, lb_shl (by omega) _ (by omega)]
  by_cases c : j < w
  · rw [decide_eq_false (by omega), Bool.false_and, Bool.false_or, Nat.mod_eq_of_lt c]
  · rw [decide_eq_true (by omega), Bool.true_and, mO j (by omega), Bool.or_false, hx (j - w) (by omega), ← Nat.mod_eq_sub_mod (by omega)]
theorem lm_copX {n p w : Nat} (hp : p < 64) (h1 : 1 ≤ w) (hw : n * w ≤ 64) (mO : lb_mk w (fO p)) (mU : lb_mk w (fU p))
    (hq : ∀ o u : Int64, (∀ j, j < n * w → lb_t o j = lb_t (fO p) (j % w)) → (∀ j, j < n * w → lb_t u j = lb_t (fU p) (j % w)) → wp_X_setValue (fun fO109 fU109 fW109 fG109 fL109 len109 size109 => post fO109 fU109 fW109 fG109 fL109 len109 size109) (nI p) o u (nI (n * w)) (0 : Int32) fO fU fW fG fL len size) :
    ∀ (k i : Nat) (o u : Int64), i + k = n → 1 ≤ i → (∀ j, j < i * w → lb_t o j = lb_t (fO p) (j % w)) → (∀ j, j < i * w → lb_t u j = lb_t (fU p) (j % w)) → ∃ f, wp_X_copies_61 post px f (nI n) (nI p) (nI w) o u (nI i) fO fU fW fG fL len size := by
  have hin : vp_in (nI p) 64 := vp_in_nI hp (by decide)
  have hn : n ≤ 64 := Nat.le_trans (Nat.le_mul_of_pos_right n (by omega)) hw
  intro k
  induction k with
  | zero =>
    intro i o u hi h1i ho hu
    obtain rfl : i = n := by omega
    refine ⟨0 + 1, ?_⟩
    rw [wp_X_copies_61]
    dsimp only
    rw [pk_mul]
    exact br_t (nI_le (by omega) (by omega)) (hq o u ho hu)
  | succ k ih =>
    intro i o u hi h1i ho hu
    have hle : (i + 1) * w ≤ 64 := Nat.le_trans (Nat.mul_le_mul_right w (by omega)) hw
    obtain ⟨f, hf⟩ := ih (i + 1) _ _ (by omega) (by omega) (cp_bit h1 hle h1i mO ho) (cp_bit h1 hle h1i mU hu)
    refine ⟨f + 1, ?_⟩
    rw [wp_X_copies_61]
    refine br_f (nI_ge (by omega) (by omega)) ⟨hin, ?_⟩
    rw [nI_clamp (by omega), nI_1]
    intro v hv
    subst hv
    refine ⟨hin, ?_⟩
    intro v2 hv2
    subst hv2
    exact hf
end XCo
section OPC
variable {fO fU : Nat → Int64} {fW fG fL kb kw ks ka kq kc kr kt kd : Nat → Int32} {len size many tsz thr : Int32} {fo : Nat → Int64}
theorem op_copies {a : Int32} (R : re_L fO fU fW fG fL len size kb kw ks kt many tsz) :
    wp_L_copies (fun r gO gU gW gG gL len' size' => wp_M_copies (fun lb lw ls _ _ _ _ lt _ many' tsz' thr' => thr' = r ∧ re_L gO gU gW gG gL len' size' lb lw ls lt many' tsz') a kb kw ks ka kq kc kr kt kd many tsz thr) a fO fU fW fG fL len size := by
  have R0 := R
  obtain ⟨m, t, hm, ht, hsz, hmany, hlen, htsz, hP, hT⟩ := R
  have amax : a ≤ 2147483647 := by
    have e : (2147483647 : Int32).toInt = 2147483647 := by decide
    have := Int32.toInt_lt a
    rw [Int32.le_iff_toInt_le, e]
    omega
  unfold wp_L_copies wp_X_copies
  by_cases c : a < 1
  · refine Or.inr ⟨sx_rt (Or.inl c), Or.inl ⟨rfl, ?_⟩⟩
    unfold wp_M_copies
    refine br_f (Int32.not_le.mpr c) ?_
    unfold wp_M_copies_11
    exact sm_refuse (need := 1) (room := 1) hm (by decide) (by decide) hmany (fun _ => br_f (by decide) ⟨rfl, R0⟩) (fun z => absurd z (by decide)) (fun z => absurd z (by decide))
  · obtain ⟨n, n1, n31, rfl⟩ := in_rg (lo := 1) (hi := 2147483647) (by decide) (by decide) c amax
    refine Or.inl (sx_rk c amax ?_)
    have inM : ∀ {Q : (Nat → Int32) → (Nat → Int32) → (Nat → Int32) → (Nat → Int32) → (Nat → Int32) → (Nat → Int32) → (Nat → Int32) → (Nat → Int32) → (Nat → Int32) → Int32 → Int32 → Int32 → Prop}, wp_M_copies_11 Q (nI n) 0 kb kw ks ka kq kc kr kt kd many tsz thr → wp_M_copies Q (nI n) kb kw ks ka kq kc kr kt kd many tsz thr := fun h => by
      unfold wp_M_copies
      exact br_t (Int32.not_lt.mp c) h
    by_cases few : m < 1
    · refine Or.inr ⟨sx_vt (need := 1) (by decide) hm few hsz, Or.inr ⟨rfl, inM ?_⟩⟩
      unfold wp_M_copies_11
      exact sm_refuse (need := 1) (room := 1) hm (by decide) (by decide) hmany (fun z => absurd rfl z) (fun _ _ => br_f (by decide) ⟨rfl, R0⟩) (fun _ z _ => by omega)
    · refine Or.inl (sx_vk (need := 1) (by decide) hm (by omega) hsz ?_)
      have e1 : nI m - (1 : Int32) = nI (m - 1) := pk_sub (b := 1) (by omega)
      have i1 : vp_in (nI (m - 1)) 64 := vp_in_nI (by omega) (by decide)
      have cl1 : (nI (m - 1)).toNatClampNeg = m - 1 := nI_clamp (by omega)
      obtain ⟨w, s, a1, a2, a3, a4, a5, a6, a7, a8, a9⟩ := hP (m - 1) (by omega)
      have inN : ∀ {Q : (Nat → Int32) → (Nat → Int32) → (Nat → Int32) → (Nat → Int32) → (Nat → Int32) → (Nat → Int32) → (Nat → Int32) → (Nat → Int32) → (Nat → Int32) → Int32 → Int32 → Int32 → Prop}, ((n * w ≤ 64 → ∃ n55 : Nat, wp_M_copies_55 Q n55 (nI n) (nI (m - 1)) (nI w) (0 : Int32) kb kw ks ka kq kc kr kt kd many tsz 0) ∧ (¬ n * w ≤ 64 → Q kb kw ks ka kq kc kr kt kd many tsz 1)) → wp_M_copies Q (nI n) kb kw ks ka kq kc kr kt kd many tsz thr := fun {Q} k => inM (by
        unfold wp_M_copies_11
        refine sm_refuse (need := 1) (room := 1) hm (by decide) (by decide) hmany (fun z => absurd rfl z) (fun _ z => by omega) (fun _ _ _ => br_t rfl ?_)
        intro v hv
        rw [hmany, e1] at hv
        subst hv
        refine ⟨i1, ?_⟩
        rw [cl1, a4]
        intro v2 hv2
        subst hv2
        rw [cp_l (by omega) a2]
        exact k)
      intro v hv
      rw [hsz] at hv ⊢
      rw [e1] at hv
      subst hv
      refine ⟨i1, ?_⟩
      rw [cl1, a3]
      intro v2 hv2
      subst hv2
      have bad : ¬ n * w ≤ 64 → wp_M_copies (fun lb lw ls _ _ _ _ lt _ many' tsz' thr' => thr' = (1 : Int32) ∧ re_L fO fU fW fG fL len (nI m) lb lw ls lt many' tsz') (nI n) kb kw ks ka kq kc kr kt kd many tsz thr := fun z => inN ⟨fun y => absurd y z, fun _ => ⟨rfl, by rw [← hsz]; exact R0⟩⟩
      by_cases n64 : n ≤ 64
      · refine Or.inl (sx_rk c (nI_le (b := 64) n64 (by decide)) ?_)
        rw [pk_mul]
        have nw1 : 1 ≤ n * w := Nat.mul_pos (by omega) (by omega)
        have nwb : n * w ≤ 64 * 64 := Nat.mul_le_mul n64 a2
        by_cases big : n * w ≤ 64
        · refine Or.inl (sx_rk (nI_nlt (b := 1) nw1 (by omega)) (nI_le (b := 64) big (by decide)) ⟨i1, ?_⟩)
          intro v hv
          refine ⟨i1, ?_⟩
          intro v2 hv2
          subst hv
          subst hv2
          refine lm_copX (by omega) a1 big a7 a8 (fun o u ho hu => ?_) (n - 1) 1 _ _ (by omega) (Nat.le_refl _) (fun j hj => by rw [Nat.mod_eq_of_lt (by omega)]) (fun j hj => by rw [Nat.mod_eq_of_lt (by omega)])
          refine sx_setValue (w := n * w) (g := 0) (by omega) big (Or.inl rfl) (fun gO gU gW gG g1 g2 g3 g4 g5 g6 g7 g8 => inN ⟨fun _ => ?_, fun z => absurd big z⟩)
          refine lm_copM (by omega) a1 a2 big (rw_Rn a9) (fun g hg => ?_) (n * w) 0 kc (by omega) (fun j hj => by omega)
          have hr : rw_R g (n * w) (gO (m - 1)) (gU (m - 1)) := by
            intro i hi
            rw [hg i hi, g1, g2, lb_maskt nw1 big _ hi, lb_maskt nw1 big _ hi, ho i hi, hu i hi]
            exact a9 (i % w) (Nat.mod_lt _ (by omega))
          rw [hmany, e1]
          refine sm_give_c (m := m - 1) (s := false) (by omega) big rfl (rw_Rn hr) (fun lb lw ls r1 r2 r3 r4 r5 r6 => ⟨rfl, ?_⟩)
          exact re_fin (s := false) (n := m - 1) (by omega) ht (re_less hP (by omega)) hT hlen htsz (by congr 1; omega) rfl (fun q hq => g5 q (by omega)) (fun q hq => g6 q (by omega)) (fun q hq => g7 q (by omega)) (fun q hq => g8 q (by omega)) r2 (fun q hq => r4 q (by omega)) (fun q hq => r6 q (by omega)) nw1 big g3 r3 g4 r5 (by rw [g1]; exact lb_mask nw1 big _) (by rw [g2]; exact lb_mask nw1 big _) (rw_Rc hr r1)
        · exact Or.inr ⟨sx_rt (Or.inr (nI_ge (a := 64) (by omega) (by omega))), Or.inl ⟨rfl, bad big⟩⟩
      · refine Or.inr ⟨sx_rt (Or.inr (nI_ge (a := 64) (by omega) (by omega))), Or.inl ⟨rfl, bad (fun z => ?_)⟩⟩
        have := Nat.le_mul_of_pos_right n (show 0 < w by omega)
        omega
theorem op_bit (R : re_L fO fU fW fG fL len size kb kw ks kt many tsz) :
    wp_L_bit (fun r gO gU gW gG gL len' size' => wp_M_bit (fun lb lw ls _ _ _ _ lt _ many' tsz' thr' => thr' = r ∧ re_L gO gU gW gG gL len' size' lb lw ls lt many' tsz') kb kw ks ka kq kc kr kt kd many tsz thr) fO fU fW fG fL len size := by
  have R0 := R
  obtain ⟨m, t, hm, ht, hsz, hmany, hlen, htsz, hP, hT⟩ := R
  unfold wp_L_bit wp_X_bit
  by_cases few : m < 2
  · refine Or.inr ⟨sx_vt (need := 2) (by decide) hm few hsz, ⟨rfl, ?_⟩⟩
    unfold wp_M_bit
    exact sm_refuse (need := 2) (room := 1) hm (by decide) (by decide) hmany (fun z => absurd rfl z) (fun _ _ => br_f (by decide) ⟨rfl, R0⟩) (fun _ z _ => by omega)
  · refine Or.inl (sx_vk (need := 2) (by decide) hm (by omega) hsz ?_)
    have e1 : nI m - (1 : Int32) = nI (m - 1) := pk_sub (b := 1) (by omega)
    have e2 : nI m - (2 : Int32) = nI (m - 2) := pk_sub (b := 2) (by omega)
    have i1 : vp_in (nI (m - 1)) 64 := vp_in_nI (by omega) (by decide)
    have i2 : vp_in (nI (m - 2)) 64 := vp_in_nI (by omega) (by decide)
    have cl1 : (nI (m - 1)).toNatClampNeg = m - 1 := nI_clamp (by omega)
    have cl2 : (nI (m - 2)).toNatClampNeg = m - 2 := nI_clamp (by omega)
    obtain ⟨w1, s1, a1, a2, a3, a4, a5, a6, a7, a8, a9⟩ := hP (m - 2) (by omega)
    obtain ⟨w2, s2, b1, b2, b3, b4, b5, b6, b7, b8, b9⟩ := hP (m - 1) (by omega)
    have N2 := lb_mkn.mp b7
    have ew : nI w2 - (1 : Int32) = nI (w2 - 1) := pk_sub (b := 1) b1
    -- the reference: i is the place asked for, 64 where there is none
    have inM : ∀ {Q : (Nat → Int32) → (Nat → Int32) → (Nat → Int32) → (Nat → Int32) → (Nat → Int32) → (Nat → Int32) → (Nat → Int32) → (Nat → Int32) → (Nat → Int32) → Int32 → Int32 → Int32 → Prop}, (∀ (gq : Nat → Int32) (i : Nat), (i = if fU (m - 1) = 0 then (if s2 = true ∧ lb_n (fO (m - 1)) / 2 ^ (w2 - 1) % 2 = 1 then 64 else min (lb_n (fO (m - 1))) 64) else 64) → wp_M_bit_92 Q (nI (m - 2)) (nI i) kb kw ks ka gq kc kr kt kd many tsz 0) → wp_M_bit Q kb kw ks ka kq kc kr kt kd many tsz thr := fun {Q} h => by
      unfold wp_M_bit
      refine sm_refuse (need := 2) (room := 1) hm (by decide) (by decide) hmany (fun z => absurd rfl z) (fun _ z => by omega) (fun _ _ _ => br_t rfl ?_)
      intro v1 hv1 v2 hv2
      rw [hmany, e1] at hv1
      rw [hmany, e2] at hv2
      subst hv1
      subst hv2
      refine ⟨i1, ?_⟩
      rw [cl1, b4]
      intro v3 hv3
      subst hv3
      refine sm_take_b (s := false) (by omega) b1 b2 b1 b2 b4 b7 b8 b9 (fun gq r => ?_)
      rw [xt_same b1 b2 b7, xt_same b1 b2 b8] at r
      refine sm_dark b2 r b8 (fun u => br_f (fun z => z rfl) ⟨i1, ?_⟩) (fun u => br_t (by decide) ?_)
      · have rn : rw_N gq w2 (lb_n (fO (m - 1))) := rw_RN (by rw [u] at r; exact r)
        have bn : rw_N (fun i => kb (64 * (m - 1) + i)) w2 (lb_n (fO (m - 1))) := rw_RN (by rw [u] at b9; exact b9)
        have amt : (¬ (s2 = true ∧ lb_n (fO (m - 1)) / 2 ^ (w2 - 1) % 2 = 1)) → wp_M_bit_85 Q (nI (m - 1)) (nI (m - 2)) kb kw ks ka gq kc kr kt kd many tsz 0 := fun z => by
          unfold wp_M_bit_85
          exact sm_amount (by omega) b1 b2 b4 N2 bn (h gq _ (by rw [if_pos u, if_neg z]))
        rw [b6, ew, nI_clamp (by omega), rn (w2 - 1) (by omega)]
        cases s2
        · exact br_t rfl (amt (fun z => absurd z.1 (by decide)))
        · refine br_f (by decide) ⟨vp_in_nI (by omega) (by decide), ?_⟩
          by_cases top : lb_n (fO (m - 1)) / 2 ^ (w2 - 1) % 2 = 1
          · rw [top]
            refine br_f (fun z => z rfl) ?_
            unfold wp_M_bit_80
            exact h gq 64 (by rw [if_pos u, if_pos ⟨rfl, top⟩])
          · exact br_t (fun z => top ((nI_eq (b := 1) (by have := bn_2 (lb_n (fO (m - 1))) (w2 - 1); omega) (by decide)).mp z)) (amt (fun z => top z.2))
      · unfold wp_M_bit_80
        exact h gq 64 (by rw [if_neg u])
    intro v1 hv1 v2 hv2
    rw [hsz] at hv1 hv2 ⊢
    rw [e2] at hv1
    rw [e1] at hv2
    subst hv1
    subst hv2
    -- the end, once the new bit agrees
    have fin : ∀ (hO hU : Nat → Int64) (hW hG : Nat → Int32) (x : Int32) (gq : Nat → Int32), hW (m - 2) = nI 1 → hG (m - 2) = bi_v false → lb_mk 1 (hO (m - 2)) → lb_mk 1 (hU (m - 2)) → (∀ r, r ≠ m - 2 → hO r = fO r) → (∀ r, r ≠ m - 2 → hU r = fU r) → (∀ r, r ≠ m - 2 → hW r = fW r) → (∀ r, r ≠ m - 2 → hG r = fG r) → vp_nar .byte x = rw_q (lb_t (hO (m - 2)) 0) (lb_t (hU (m - 2)) 0) →
        wp_M_bit_126 (fun lb lw ls _ _ _ _ lt _ many' tsz' thr' => thr' = (0 : Int32) ∧ re_L hO hU hW hG fL len (nI m - 1) lb lw ls lt many' tsz') x (0 : Int32) kb kw ks ka gq kc kr kt kd many tsz 0 := by
      intro hO hU hW hG x gq q3 q4 q5 q6 q7 q8 q9 q10 q11
      unfold wp_M_bit_126
      refine ⟨vp_in_nI (n := 0) (by decide) (by decide), ?_⟩
      rw [sb_cl0, hmany, e2, q11]
      have hr : rw_R (upd kc 0 (rw_q (lb_t (hO (m - 2)) 0) (lb_t (hU (m - 2)) 0))) 1 (hO (m - 2)) (hU (m - 2)) := fun i hi => by
        obtain rfl : i = 0 := by omega
        exact pk_us
      refine sm_give_c (m := m - 2) (w := 1) (s := false) (by omega) (by decide) rfl (rw_Rn hr) (fun lb lw ls r1 r2 r3 r4 r5 r6 => ⟨rfl, ?_⟩)
      exact re_fin (s := false) (w := 1) (n := m - 2) (by omega) ht (re_less hP (by omega)) hT hlen htsz (by rw [e1]; congr 1; omega) rfl (fun q hq => q7 q (by omega)) (fun q hq => q8 q (by omega)) (fun q hq => q9 q (by omega)) (fun q hq => q10 q (by omega)) r2 (fun q hq => r4 q (by omega)) (fun q hq => r6 q (by omega)) (by decide) (by decide) q3 r3 q4 r5 q5 q6 (rw_Rc hr r1)
    -- no such bit: x
    have none : (∀ i, (i = if fU (m - 1) = 0 then (if s2 = true ∧ lb_n (fO (m - 1)) / 2 ^ (w2 - 1) % 2 = 1 then 64 else min (lb_n (fO (m - 1))) 64) else 64) → w1 ≤ i ∧ i ≤ 64) → wp_X_bit_54 (fun fO2 fU2 fW2 fG2 fL2 len2 size2 => wp_M_bit (fun lb lw ls _ _ _ _ lt _ many' tsz' thr' => thr' = (0 : Int32) ∧ re_L fO2 fU2 fW2 fG2 fL2 len2 size2 lb lw ls lt many' tsz') kb kw ks ka kq kc kr kt kd many tsz thr) (fun (E9 : String) fO2x fU2x fW2x fG2x fL2x len2x size2x => (E9 = "java/lang/IllegalStateException" ∧ wp_M_bit (fun lb lw ls _ _ _ _ lt _ many' tsz' thr' => thr' = (1 : Int32) ∧ re_L fO2x fU2x fW2x fG2x fL2x len2x size2x lb lw ls lt many' tsz') kb kw ks ka kq kc kr kt kd many tsz thr)) (nI (m - 2)) fO fU fW fG fL len (nI m) := by
      intro hh
      unfold wp_X_bit_54
      refine sx_setTruth (t := 2) (by omega) (by decide) (fun hO hU hW hG q1 q2 q3 q4 q5 q6 q7 q8 => ?_)
      unfold wp_X_bit_88
      refine inM (fun gq i hi => ?_)
      have := hh i hi
      unfold wp_M_bit_92
      refine ⟨i2, ?_⟩
      rw [cl2, a4]
      refine br_t (nI_le this.1 (by omega)) ?_
      exact fin hO hU hW hG 3 gq q3 q4 (by rw [q1]; exact (tr_mk (t := 2) (by decide)).1) (by rw [q2]; exact (tr_mk (t := 2) (by decide)).2) q5 q6 q7 q8 (by rw [q1, q2]; decide +kernel)
    refine sx_number (by omega) b3 b2 b5 ⟨i1, ?_⟩
    rw [cl1, lc_0]
    refine br_c (fun u => none (fun i hi => by rw [if_neg u] at hi; omega)) (fun u => ?_)
    have u := Classical.byContradiction u
    have h0 : (0 : Int64).toInt = 0 := by decide
    have hv : (nu_v s2 w2 (fO (m - 1))).toInt = if s2 then lb_sv w2 (lb_n (fO (m - 1))) else (fO (m - 1)).toInt := by
      unfold nu_v
      cases s2
      · rfl
      · exact lb_hfi b1 b2 N2
    have hsv := sd_sv b1 N2
    have hint := lb_int (fO (m - 1))
    have hlt := lb_lt (fO (m - 1))
    have tb := bn_2 (lb_n (fO (m - 1))) (w2 - 1)
    -- what the number is, where it is not below 0
    have val : ¬ (nu_v s2 w2 (fO (m - 1))).toInt < 0 → ¬ (s2 = true ∧ lb_n (fO (m - 1)) / 2 ^ (w2 - 1) % 2 = 1) ∧ (nu_v s2 w2 (fO (m - 1))).toInt = (lb_n (fO (m - 1)) : Int) := by
      intro z
      rw [hv] at z ⊢
      cases s2
      · refine ⟨fun y => absurd y.1 (by decide), ?_⟩
        simp only [Bool.false_eq_true, if_false] at z ⊢
        rw [hint] at z ⊢
        split at z
        · rw [if_pos (by assumption)]
        · omega
      · simp only [if_true] at z ⊢
        rw [hsv] at z ⊢
        by_cases top : lb_n (fO (m - 1)) / 2 ^ (w2 - 1) % 2 = 1
        · rw [if_pos top] at z
          omega
        · rw [if_neg top]
          exact ⟨fun y => top y.2, rfl⟩
    have neg : (nu_v s2 w2 (fO (m - 1))).toInt < 0 → ∀ i, (i = if fU (m - 1) = 0 then (if s2 = true ∧ lb_n (fO (m - 1)) / 2 ^ (w2 - 1) % 2 = 1 then 64 else min (lb_n (fO (m - 1))) 64) else 64) → w1 ≤ i ∧ i ≤ 64 := by
      intro z i hi
      rw [if_pos u] at hi
      rw [hv] at z
      cases s2
      · simp only [Bool.false_eq_true, if_false] at z
        rw [if_neg (fun y => absurd y.1 (by decide))] at hi
        rw [hint] at z
        split at z
        · omega
        · rw [Nat.min_eq_right (by omega)] at hi
          omega
      · simp only [if_true] at z
        rw [hsv] at z
        by_cases top : lb_n (fO (m - 1)) / 2 ^ (w2 - 1) % 2 = 1
        · rw [if_pos ⟨rfl, top⟩] at hi
          omega
        · rw [if_neg top] at z
          omega
    rw [lg_cmp_lt, lg_cmp_lt, cl2, a3, nI_l (by omega)]
    refine br_c (fun d => none (neg (by rw [Int64.lt_iff_toInt_lt, h0] at d; exact d))) (fun d => ⟨i2, ?_⟩)
    have d : ¬ (nu_v s2 w2 (fO (m - 1))).toInt < 0 := by rw [Int64.lt_iff_toInt_lt, h0] at d; exact d
    obtain ⟨v1, v2⟩ := val d
    rw [Int64.lt_iff_toInt_lt, v2, lN_toInt (by omega)]
    refine br_c (fun e => ⟨i2, i2, ?_⟩) (fun e => none (fun i hi => by rw [if_pos u, if_neg v1] at hi; omega))
    have e : lb_n (fO (m - 1)) < w1 := by omega
    have ex : (nu_v s2 w2 (fO (m - 1))).toInt32 = nI (lb_n (fO (m - 1))) := by
      have : nu_v s2 w2 (fO (m - 1)) = lN (lb_n (fO (m - 1))) := Int64.toInt_inj.mp (by rw [v2, lN_toInt (by omega)])
      rw [this, lN_i]
    rw [ex]
    refine sx_setValue (w := 1) (g := 0) (by omega) (by decide) (Or.inl rfl) (fun hO hU hW hG q1 q2 q3 q4 q5 q6 q7 q8 => ?_)
    unfold wp_X_bit_88
    refine inM (fun gq i hi => ?_)
    rw [if_pos u, if_neg v1, Nat.min_eq_left (by omega)] at hi
    subst hi
    unfold wp_M_bit_92
    refine ⟨i2, ?_⟩
    rw [cl2, a4]
    refine br_f (nI_ge e (by omega)) ?_
    have ei : (64 : Int32) * nI (m - 2) + nI (lb_n (fO (m - 1))) = nI (64 * (m - 2) + lb_n (fO (m - 1))) := by rw [ix_64, pk_mul, nI_add]
    rw [ei, nI_clamp (show 64 * (m - 2) + lb_n (fO (m - 1)) < 2 ^ 31 by omega)]
    refine ⟨vp_in_nI (by omega) (by decide), ?_⟩
    refine fin hO hU hW hG _ gq q3 q4 (by rw [q1]; exact lb_mask (by decide) (by decide) _) (by rw [q2]; exact lb_mask (by decide) (by decide) _) q5 q6 q7 q8 ?_
    have := a9 (lb_n (fO (m - 1))) e
    dsimp only at this
    rw [this, rw_nb, q1, q2, lb_maskt (by decide) (by decide) _ (by decide), lb_maskt (by decide) (by decide) _ (by decide), lb_ushr (by omega), lb_ushr (by omega), Nat.add_zero]
end OPC
