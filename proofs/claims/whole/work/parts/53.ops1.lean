/-! push, as, again, letter, count: class and reference alike -/
theorem pu_1 {i : Nat} (hi : i < 64) (x : Int64) : ((x.toUInt64 >>> ((nI i).toInt64.toUInt64 &&& Int64.toUInt64 63)).toInt64) &&& (1 : Int64) = if lb_t x i then 1 else 0 := by
  apply lb_ext
  intro j hj
  rw [lb_and, lb_ushr hi, lb_1]
  by_cases c : j = 0
  · subst c
    rw [decide_eq_true rfl, Bool.and_true, Nat.add_zero]
    cases lb_t x i
    · exact (lb_0 0).symm
    · exact (lb_1 0).symm
  · rw [decide_eq_false c, Bool.and_false]
    split
    · rw [lb_1, decide_eq_false c]
    · exact (lb_0 j).symm
theorem pu_bit {i : Nat} (hi : i < 64) (x y : Int64) : vp_nar .byte ((((((x.toUInt64 >>> ((nI i).toInt64.toUInt64 &&& Int64.toUInt64 63)).toInt64) &&& (1 : Int64)) + ((2 : Int64) * (((y.toUInt64 >>> ((nI i).toInt64.toUInt64 &&& Int64.toUInt64 63)).toInt64) &&& (1 : Int64)))).toInt32).toInt8.toInt32) = rw_q (lb_t x i) (lb_t y i) := by
  rw [pu_1 hi, pu_1 hi]
  cases lb_t x i <;> cases lb_t y i <;> decide +kernel
section MP
variable {kb kw ks ka kq kc kr kt kd : Nat → Int32} {many tsz thr : Int32}
variable {posi : Int32 → (Nat → Int32) → (Nat → Int32) → (Nat → Int32) → (Nat → Int32) → (Nat → Int32) → (Nat → Int32) → (Nat → Int32) → (Nat → Int32) → (Nat → Int32) → Int32 → Int32 → Int32 → Prop}
theorem lm_push {w : Nat} {s : Bool} {x y : Int64} (hw : w ≤ 64) (hq : ∀ g : Nat → Int32, (∀ i, i < w → g i = rw_q (lb_t x i) (lb_t y i)) → wp_M_give_a (fun kb80 kw80 ks80 ka80 kq80 kc80 kr80 kt80 kd80 many80 tsz80 thr80 => posi many80 kb80 kw80 ks80 ka80 kq80 kc80 kr80 kt80 kd80 many80 tsz80 thr80) (nI w) (bi_v s) kb kw ks g kq kc kr kt kd many tsz thr) :
    ∀ (k i : Nat) (g : Nat → Int32), i + k = w → (∀ j, j < i → g j = rw_q (lb_t x j) (lb_t y j)) → ∃ n, wp_M_push_32 posi n x y (nI w) (bi_v s) (nI i) kb kw ks g kq kc kr kt kd many tsz thr := by
  intro k
  induction k with
  | zero =>
    intro i g hi h1
    refine ⟨0 + 1, ?_⟩
    rw [wp_M_push_32]
    exact br_t (nI_le (by omega) (by omega)) (hq g (fun j hj => h1 j (by omega)))
  | succ k ih =>
    intro i g hi h1
    obtain ⟨n, hn⟩ := ih (i + 1) (upd g i (rw_q (lb_t x i) (lb_t y i))) (by omega) (fun j hj => by
      by_cases d : j = i
      · subst d; exact pk_us
      · rw [pk_un d]; exact h1 j (by omega))
    refine ⟨n + 1, ?_⟩
    rw [wp_M_push_32]
    refine br_f (nI_ge (by omega) (by omega)) ⟨vp_in_nI (by omega) (by omega), ?_⟩
    rw [nI_clamp (by omega), pu_bit (by omega), nI_1 i]
    exact hn
end MP
section OPS
variable {fO fU : Nat → Int64} {fW fG fL kb kw ks ka kq kc kr kt kd : Nat → Int32} {len size many tsz thr : Int32} {fo : Nat → Int64}
theorem op_push {x y : Int64} {a : Int32} {s : Bool} (R : re_L fO fU fW fG fL len size kb kw ks kt many tsz) :
    wp_L_push (fun r gO gU gW gG gL len' size' fo' => wp_M_push (fun b lb lw ls _ _ _ _ lt _ many' tsz' thr' => thr' = r ∧ (r = 0 → fo' 0 = b.toInt64) ∧ re_L gO gU gW gG gL len' size' lb lw ls lt many' tsz') x y a (bi_v s) kb kw ks ka kq kc kr kt kd many tsz thr) x y a (bi_v s) fO fU fW fG fL len size fo := by
  have R0 := R
  obtain ⟨m, t, hm, ht, hsz, hmany, hlen, htsz, hP, hT⟩ := R
  unfold wp_L_push wp_X_push
  by_cases c : a < 1 ∨ ¬ a ≤ 64
  · refine Or.inr ⟨sx_rt c, Or.inl ⟨rfl, ?_⟩⟩
    have f : wp_M_push_14 (fun b lb lw ls _ _ _ _ lt _ many' tsz' thr' => thr' = (1 : Int32) ∧ ((1 : Int32) = 0 → fo 0 = b.toInt64) ∧ re_L fO fU fW fG fL len size lb lw ls lt many' tsz') x y a (bi_v s) kb kw ks ka kq kc kr kt kd many tsz thr := by
      unfold wp_M_push_14 wp_M_push_19
      exact sm_refuse (need := 0) (room := 1) hm (by decide) (by decide) hmany (fun _ => br_f (by decide) ⟨rfl, fun z => absurd z (by decide), R0⟩) (fun z => absurd z (by decide)) (fun z => absurd z (by decide))
    unfold wp_M_push
    by_cases d : a < 1
    · exact br_t d f
    · exact br_f d (br_f (c.resolve_left d) f)
  · have c1 : ¬ a < 1 := fun z => c (Or.inl z)
    have c2 : a ≤ 64 := Classical.byContradiction (fun z => c (Or.inr z))
    obtain ⟨w, w1, w2, rfl⟩ := in_rg (lo := 1) (hi := 64) (by decide) (by decide) c1 c2
    refine Or.inl (sx_rk c1 c2 ?_)
    by_cases full : m < 64
    · refine Or.inl (sx_ok full hsz ?_)
      rw [hsz]
      refine sx_setValue full w2 (by cases s; exact Or.inl rfl; exact Or.inr rfl) (fun gO gU gW gG g1 g2 g3 g4 g5 g6 g7 g8 => ⟨vp_in_nI (n := 0) (by decide) (by decide), ?_⟩)
      unfold wp_M_push
      refine br_f c1 (br_t c2 ?_)
      unfold wp_M_push_19
      refine sm_refuse (need := 0) (room := 1) hm (by decide) (by decide) hmany (fun z => absurd rfl z) (fun _ z => by omega) (fun _ _ _ => br_t rfl ?_)
      refine lm_push w2 (fun g hg => ?_) w 0 ka (by omega) (fun j hj => by omega)
      have hr : rw_R g w (gO m) (gU m) := fun i hi => by rw [hg i hi, g1, g2, lb_maskt w1 w2 _ hi, lb_maskt w1 w2 _ hi]
      refine sm_give_a full w2 hmany (rw_Rn hr) (fun lb lw ls r1 r2 r3 r4 r5 r6 => ⟨rfl, fun _ => ?_, ?_⟩)
      · rw [sb_cl0, pk_uLs, nI_1]
      · exact re_fin full ht hP hT hlen htsz (nI_1 m) rfl (fun q hq => g5 q (by omega)) (fun q hq => g6 q (by omega)) (fun q hq => g7 q (by omega)) (fun q hq => g8 q (by omega)) r2 (fun q hq => r4 q (by omega)) (fun q hq => r6 q (by omega)) w1 w2 g3 r3 g4 r5 (by rw [g1]; exact lb_mask w1 w2 _) (by rw [g2]; exact lb_mask w1 w2 _) (rw_Rc hr r1)
    · refine Or.inr ⟨sx_ot full hm hsz, Or.inr ⟨rfl, ?_⟩⟩
      unfold wp_M_push
      refine br_f c1 (br_t c2 ?_)
      unfold wp_M_push_19
      exact sm_refuse (need := 0) (room := 1) hm (by decide) (by decide) hmany (fun z => absurd rfl z) (fun _ _ => br_f (by decide) ⟨rfl, fun z => absurd z (by decide), R0⟩) (fun _ _ z => by omega)
theorem op_as {a : Int32} {s : Bool} (R : re_L fO fU fW fG fL len size kb kw ks kt many tsz) :
    wp_L_as (fun r gO gU gW gG gL len' size' => wp_M_as (fun lb lw ls _ _ _ _ lt _ many' tsz' thr' => thr' = r ∧ re_L gO gU gW gG gL len' size' lb lw ls lt many' tsz') a (bi_v s) kb kw ks ka kq kc kr kt kd many tsz thr) a (bi_v s) fO fU fW fG fL len size := by
  have R0 := R
  obtain ⟨m, t, hm, ht, hsz, hmany, hlen, htsz, hP, hT⟩ := R
  unfold wp_L_as wp_X_as
  by_cases c : a < 1 ∨ ¬ a ≤ 64
  · refine Or.inr ⟨sx_rt c, Or.inl ⟨rfl, ?_⟩⟩
    have f : wp_M_as_12 (fun lb lw ls _ _ _ _ lt _ many' tsz' thr' => thr' = (1 : Int32) ∧ re_L fO fU fW fG fL len size lb lw ls lt many' tsz') a (bi_v s) kb kw ks ka kq kc kr kt kd many tsz thr := by
      unfold wp_M_as_12 wp_M_as_17
      exact sm_refuse (need := 1) (room := 1) hm (by decide) (by decide) hmany (fun _ => br_f (by decide) ⟨rfl, R0⟩) (fun z => absurd z (by decide)) (fun z => absurd z (by decide))
    unfold wp_M_as
    by_cases d : a < 1
    · exact br_t d f
    · exact br_f d (br_f (c.resolve_left d) f)
  · have c1 : ¬ a < 1 := fun z => c (Or.inl z)
    have c2 : a ≤ 64 := Classical.byContradiction (fun z => c (Or.inr z))
    obtain ⟨w, w1, w2, rfl⟩ := in_rg (lo := 1) (hi := 64) (by decide) (by decide) c1 c2
    refine Or.inl (sx_rk c1 c2 ?_)
    have inM : ∀ {Q : (Nat → Int32) → (Nat → Int32) → (Nat → Int32) → (Nat → Int32) → (Nat → Int32) → (Nat → Int32) → (Nat → Int32) → (Nat → Int32) → (Nat → Int32) → Int32 → Int32 → Int32 → Prop}, wp_M_as_17 Q (nI w) (bi_v s) 0 kb kw ks ka kq kc kr kt kd many tsz thr → wp_M_as Q (nI w) (bi_v s) kb kw ks ka kq kc kr kt kd many tsz thr := fun h => by
      unfold wp_M_as
      exact br_f c1 (br_t c2 h)
    by_cases few : m < 1
    · refine Or.inr ⟨sx_vt (need := 1) (by decide) hm few hsz, Or.inr ⟨rfl, inM ?_⟩⟩
      unfold wp_M_as_17
      exact sm_refuse (need := 1) (room := 1) hm (by decide) (by decide) hmany (fun z => absurd rfl z) (fun _ _ => br_f (by decide) ⟨rfl, R0⟩) (fun _ z _ => by omega)
    · refine Or.inl (sx_vk (need := 1) (by decide) hm (by omega) hsz ?_)
      have e1 : nI m - (1 : Int32) = nI (m - 1) := pk_sub (b := 1) (by omega)
      have i1 : vp_in (nI (m - 1)) 64 := vp_in_nI (by omega) (by decide)
      have cl1 : (nI (m - 1)).toNatClampNeg = m - 1 := nI_clamp (by omega)
      obtain ⟨w0, s0, a1, a2, a3, a4, a5, a6, a7, a8, a9⟩ := hP (m - 1) (by omega)
      intro v hv
      rw [hsz] at hv ⊢
      rw [e1] at hv
      subst hv
      refine ⟨i1, ?_⟩
      rw [cl1, a5]
      refine sx_setWidth (by omega) a3 a2 w2 (fun gO gU gW g1 g2 g3 g4 g5 g6 => ⟨i1, inM ?_⟩)
      rw [bi_nar]
      unfold wp_M_as_17
      refine sm_refuse (need := 1) (room := 1) hm (by decide) (by decide) hmany (fun z => absurd rfl z) (fun _ z => by omega) (fun _ _ _ => br_t rfl ?_)
      rw [hmany, e1]
      refine ⟨i1, ?_⟩
      rw [cl1, a6]
      refine sm_take_a (by omega) a1 a2 w1 w2 a4 a7 a8 a9 (fun ga r => ?_)
      rw [e1]
      refine sm_give_a (m := m - 1) (by omega) w2 rfl (rw_Rn r) (fun lb lw ls r1 r2 r3 r4 r5 r6 => ⟨rfl, ?_⟩)
      refine re_fin (n := m - 1) (by omega) ht (re_less hP (by omega)) hT hlen htsz (by congr 1; omega) rfl (fun q hq => g4 q (by omega)) (fun q hq => g5 q (by omega)) (fun q hq => g6 q (by omega)) (fun q hq => pk_un (by omega)) r2 (fun q hq => r4 q (by omega)) (fun q hq => r6 q (by omega)) w1 w2 g3 r3 pk_us r5 (by rw [g1]; exact xt_mk w1 w2 _ _ _) (by rw [g2]; exact xt_mk w1 w2 _ _ _) ?_
      rw [g1, g2]
      exact rw_Rc r r1
theorem op_again {a : Int32} (R : re_L fO fU fW fG fL len size kb kw ks kt many tsz) :
    wp_L_again (fun r gO gU gW gG gL len' size' => wp_M_again (fun lb lw ls _ _ _ _ lt _ many' tsz' thr' => thr' = r ∧ re_L gO gU gW gG gL len' size' lb lw ls lt many' tsz') a kb kw ks ka kq kc kr kt kd many tsz thr) a fO fU fW fG fL len size := by
  have R0 := R
  obtain ⟨m, t, hm, ht, hsz, hmany, hlen, htsz, hP, hT⟩ := R
  have amax : a ≤ 2147483647 := by
    have e : (2147483647 : Int32).toInt = 2147483647 := by decide
    have := Int32.toInt_lt a
    rw [Int32.le_iff_toInt_le, e]
    omega
  unfold wp_L_again wp_X_again
  by_cases c : a < 0
  · refine Or.inr ⟨sx_rt (Or.inl c), Or.inl ⟨rfl, ?_⟩⟩
    unfold wp_M_again
    refine br_f (Int32.not_le.mpr c) ?_
    unfold wp_M_again_10
    exact sm_refuse (need := 0) (room := 1) hm (by decide) (by decide) hmany (fun _ => br_f (by decide) ⟨rfl, R0⟩) (fun z => absurd z (by decide)) (fun z => absurd z (by decide))
  · refine Or.inl (sx_rk c amax ?_)
    obtain ⟨i, hi31, rfl⟩ := nI_of c
    have inM : ∀ {Q : (Nat → Int32) → (Nat → Int32) → (Nat → Int32) → (Nat → Int32) → (Nat → Int32) → (Nat → Int32) → (Nat → Int32) → (Nat → Int32) → (Nat → Int32) → Int32 → Int32 → Int32 → Prop}, wp_M_again_10 Q (nI i) 0 kb kw ks ka kq kc kr kt kd many tsz thr → wp_M_again Q (nI i) kb kw ks ka kq kc kr kt kd many tsz thr := fun h => by
      unfold wp_M_again
      exact br_t (Int32.not_lt.mp c) h
    by_cases there : i < m
    · refine Or.inl (sx_pk there hm hsz ?_)
      by_cases full : m < 64
      · refine Or.inl (sx_ok full hsz ?_)
        have e1 : nI m - (1 : Int32) - nI i = nI (m - 1 - i) := by rw [show nI m - (1 : Int32) = nI (m - 1) from pk_sub (b := 1) (by omega), pk_sub (by omega)]
        have i1 : vp_in (nI (m - 1 - i)) 64 := vp_in_nI (by omega) (by decide)
        have cl1 : (nI (m - 1 - i)).toNatClampNeg = m - 1 - i := nI_clamp (by omega)
        obtain ⟨w0, s0, a1, a2, a3, a4, a5, a6, a7, a8, a9⟩ := hP (m - 1 - i) (by omega)
        rw [hsz, e1]
        refine sx_copyValue (by omega) full a3 a2 a5 (fun gO gU gW gG g1 g2 g3 g4 g5 g6 g7 g8 => inM ?_)
        unfold wp_M_again_10
        refine sm_refuse (need := 0) (room := 1) hm (by decide) (by decide) hmany (fun z => absurd rfl z) (fun _ z => by omega) (fun _ _ _ => br_t rfl ?_)
        rw [hmany]
        refine br_t (nI_lt there (by omega)) ?_
        intro v hv
        rw [e1] at hv
        subst hv
        refine ⟨i1, ?_⟩
        rw [cl1, a4]
        refine sm_take_a (s := false) (by omega) a1 a2 a1 a2 a4 a7 a8 a9 (fun ga r => ⟨i1, i1, ?_⟩)
        rw [a4, a6]
        refine sm_give_a full a2 rfl (rw_Rn r) (fun lb lw ls r1 r2 r3 r4 r5 r6 => ⟨rfl, ?_⟩)
        have eO : gO m = fO (m - 1 - i) := by rw [g1]; exact lb_masked a1 a2 a7
        have eU : gU m = fU (m - 1 - i) := by rw [g2]; exact lb_masked a1 a2 a8
        rw [xt_same a1 a2 a7, xt_same a1 a2 a8] at r
        refine re_fin full ht hP hT hlen htsz (nI_1 m) rfl (fun q hq => g5 q (by omega)) (fun q hq => g6 q (by omega)) (fun q hq => g7 q (by omega)) (fun q hq => g8 q (by omega)) r2 (fun q hq => r4 q (by omega)) (fun q hq => r6 q (by omega)) a1 a2 g3 r3 g4 r5 (by rw [eO]; exact a7) (by rw [eU]; exact a8) ?_
        rw [eO, eU]
        exact rw_Rc r r1
      · refine Or.inr ⟨sx_ot full hm hsz, Or.inr ⟨rfl, inM ?_⟩⟩
        unfold wp_M_again_10
        exact sm_refuse (need := 0) (room := 1) hm (by decide) (by decide) hmany (fun z => absurd rfl z) (fun _ _ => br_f (by decide) ⟨rfl, R0⟩) (fun _ _ z => by omega)
    · refine Or.inr ⟨sx_pt (Or.inr (nI_nlt (by omega) hi31)) hsz, Or.inr ⟨rfl, inM ?_⟩⟩
      unfold wp_M_again_10
      refine sm_refuse (need := 0) (room := 1) hm (by decide) (by decide) hmany (fun z => absurd rfl z) (fun _ _ => br_f (by decide) ⟨rfl, R0⟩) (fun _ _ _ => br_t rfl ?_)
      rw [hmany]
      refine br_f (nI_nlt (by omega) hi31) ⟨rfl, ?_⟩
      rw [← hmany]
      exact R0
theorem op_letter {a : Int32} (R : re_L fO fU fW fG fL len size kb kw ks kt many tsz) :
    wp_L_letter (fun r gO gU gW gG gL len' size' fo' => wp_M_letter (fun b lb lw ls _ _ _ _ lt _ many' tsz' thr' => thr' = r ∧ (r = 0 → fo' 0 = b.toInt64) ∧ re_L gO gU gW gG gL len' size' lb lw ls lt many' tsz') a kb kw ks ka kq kc kr kt kd many tsz thr) a fO fU fW fG fL len size fo := by
  have R0 := R
  obtain ⟨m, t, hm, ht, hsz, hmany, hlen, htsz, hP, hT⟩ := R
  have bad : (a < 0 ∨ ¬ a < tsz) → wp_M_letter (fun b lb lw ls _ _ _ _ lt _ many' tsz' thr' => thr' = (1 : Int32) ∧ ((1 : Int32) = 0 → fo 0 = b.toInt64) ∧ re_L fO fU fW fG fL len size lb lw ls lt many' tsz') a kb kw ks ka kq kc kr kt kd many tsz thr := by
    intro c
    have f : wp_M_letter_13 (fun b lb lw ls _ _ _ _ lt _ many' tsz' thr' => thr' = (1 : Int32) ∧ ((1 : Int32) = 0 → fo 0 = b.toInt64) ∧ re_L fO fU fW fG fL len size lb lw ls lt many' tsz') a kb kw ks ka kq kc kr kt kd many tsz thr := by
      unfold wp_M_letter_13 wp_M_letter_18
      exact br_f (by decide) ⟨rfl, fun z => absurd z (by decide), R0⟩
    unfold wp_M_letter
    by_cases d : a < 0
    · exact br_t d f
    · exact br_f d (br_f (c.resolve_left d) f)
  unfold wp_L_letter wp_X_letter
  refine br_c (fun c => ⟨rfl, bad (Or.inl c)⟩) (fun c => br_c (fun d => ?_) (fun d => ⟨rfl, bad (Or.inr (by rw [htsz, ← hlen]; exact d))⟩))
  obtain ⟨i, hi31, rfl⟩ := nI_of c
  rw [hlen] at d
  have d2 : i < t := (nI_ltI hi31 (by omega)).mp d
  obtain ⟨ch, h1, h2, h3⟩ := hT i d2
  refine ⟨vp_in_nI (by omega) (by decide), vp_in_nI (n := 0) (by decide) (by decide), ?_⟩
  rw [nI_clamp hi31, h2]
  unfold wp_M_letter
  rw [htsz]
  refine br_f c (br_t d ?_)
  unfold wp_M_letter_18
  refine br_t (by decide) ⟨vp_in_nI (by omega) (by decide), ?_⟩
  rw [nI_clamp hi31, h3]
  refine ⟨rfl, fun _ => ?_, ?_⟩
  · rw [sb_cl0, pk_uLs, pk_andN (m := 255) (by omega) 8 (by decide), Nat.mod_eq_of_lt (by omega)]
  · rw [← htsz]; exact R0
theorem op_count {a : Int32} (R : re_L fO fU fW fG fL len size kb kw ks kt many tsz) :
    wp_X_count (fun r gO gU gW gG gL len' size' => wp_M_count (fun b lb lw ls _ _ _ _ lt _ many' tsz' _ => b = r ∧ re_L gO gU gW gG gL len' size' lb lw ls lt many' tsz') a kb kw ks ka kq kc kr kt kd many tsz thr) a fO fU fW fG fL len size := by
  have R0 := R
  obtain ⟨m, t, hm, ht, hsz, hmany, hlen, htsz, hP, hT⟩ := R
  unfold wp_X_count wp_M_count wp_X_count_25 wp_M_count_29
  refine br_c (fun c => br_c (fun d => ?_) (fun d => ?_)) (fun c => ?_)
  · exact br_t c (br_t d ⟨rfl, R0⟩)
  · exact br_t c (br_f d ⟨by rw [hlen, htsz], R0⟩)
  · exact br_f c ⟨by rw [hsz, hmany], R0⟩
end OPS
