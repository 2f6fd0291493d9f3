/-! two: class and reference alike -/
theorem op_two {fO fU : Nat → Int64} {fW fG fL kb kw ks ka kq kc kr kt kd : Nat → Int32} {len size many tsz thr a : Int32} (R : re_L fO fU fW fG fL len size kb kw ks kt many tsz) :
    wp_L_two (fun r gO gU gW gG gL len' size' => wp_M_two (fun lb lw ls _ _ _ _ lt _ many' tsz' thr' => thr' = r ∧ re_L gO gU gW gG gL len' size' lb lw ls lt many' tsz') a kb kw ks ka kq kc kr kt kd many tsz thr) a fO fU fW fG fL len size := by
  have R0 := R
  obtain ⟨m, t, hm, ht, hsz, hmany, hlen, htsz, hP, hT⟩ := R
  unfold wp_L_two wp_X_two
  by_cases c : a < 0 ∨ ¬ a ≤ 18
  · exact Or.inr ⟨sx_rt c, Or.inl ⟨rfl, sm_two_bad hm hmany c ⟨rfl, R0⟩⟩⟩
  · have c1 : ¬ a < 0 := fun z => c (Or.inl z)
    have c2 : a ≤ 18 := Classical.byContradiction (fun z => c (Or.inr z))
    obtain ⟨sg, -, hsg, rfl⟩ := in_rg (lo := 0) (hi := 18) (by decide) (by decide) c1 c2
    refine Or.inl (sx_rk c1 c2 ?_)
    by_cases few : m < 2
    · exact Or.inr ⟨sx_vt (need := 2) (by decide) hm few hsz, Or.inr ⟨rfl, sm_two_few hm hmany hsg few ⟨rfl, R0⟩⟩⟩
    · refine Or.inl (sx_vk (need := 2) (by decide) hm (by omega) hsz ?_)
      have e1 : nI m - (1 : Int32) = nI (m - 1) := pk_sub (b := 1) (by omega)
      have e2 : nI m - (2 : Int32) = nI (m - 2) := pk_sub (b := 2) (by omega)
      obtain ⟨w1, s1, a1, a2, a3, a4, a5, a6, a7, a8, a9⟩ := hP (m - 2) (by omega)
      obtain ⟨w2, s2, b1, b2, b3, b4, b5, b6, b7, b8, b9⟩ := hP (m - 1) (by omega)
      have km : max w1 w2 ≤ 64 := Nat.max_le.mpr ⟨a2, b2⟩
      have k1 : 1 ≤ max w1 w2 := Nat.le_trans a1 (Nat.le_max_left _ _)
      intro v1 hv1 v2 hv2
      rw [hsz] at hv1 hv2 ⊢
      rw [e2] at hv1
      rw [e1] at hv2
      subst hv1
      subst hv2
      refine sx_bringTogether (by omega) (by omega) (by omega) a3 b3 a2 b2 a5 b5 (fun gO gU gW gG g1 g2 g3 g4 g5 g6 g7 g8 g9 g10 g11 g12 => ?_)
      have mo1 := xt_mk k1 km (s1 && s2) w1 (fO (m - 2))
      have mu1 := xt_mk k1 km (s1 && s2) w1 (fU (m - 2))
      have mo2 := xt_mk k1 km (s1 && s2) w2 (fO (m - 1))
      have mu2 := xt_mk k1 km (s1 && s2) w2 (fU (m - 1))
      have e3 : nI m - (1 : Int32) = nI (m - 2 + 1) := by rw [e1]; congr 1; omega
      -- the end, once the topmost values agree
      have fin : ∀ (hO hU : Nat → Int64) (hW hG : Nat → Int32) (w' : Nat) (s' : Bool), (w' = if sg < 9 then max w1 w2 else 1) → (s' = (decide (sg < 9) && (s1 && s2))) → 1 ≤ w' → w' ≤ 64 → hW (m - 2) = nI w' → hG (m - 2) = bi_v s' → lb_mk w' (hO (m - 2)) → lb_mk w' (hU (m - 2)) →
          (∀ r, r ≠ m - 2 → hO r = gO r) → (∀ r, r ≠ m - 2 → hU r = gU r) → (∀ r, r ≠ m - 2 → hW r = gW r) → (∀ r, r ≠ m - 2 → hG r = gG r) → ∀ la lq lc lr : Nat → Int32, rw_R lc w' (hO (m - 2)) (hU (m - 2)) →
          wp_M_two_225 (fun lb lw ls _ _ _ _ lt _ many' tsz' thr' => thr' = (0 : Int32) ∧ re_L hO hU hW hG fL len (nI m - 1) lb lw ls lt many' tsz') (nI sg) (nI (max w1 w2)) (bi_v (s1 && s2)) kb kw ks la lq lc lr kt kd many tsz 0 := by
        intro hO hU hW hG w' s' q1 q2 q3 q4 q5 q6 q7 q8 q9 q10 q11 q12 la lq lc lr q13
        refine sm_two225 hsg (by omega) hm hmany km q1 q2 q13 (fun gb gw gs r1 r2 r3 r4 r5 r6 => ⟨rfl, ?_⟩)
        refine re_fin (n := m - 2) (by omega) ht (re_less hP (by omega)) hT hlen htsz e3 rfl (fun q hq => ?_) (fun q hq => ?_) (fun q hq => ?_) (fun q hq => ?_) r2 (fun q hq => r4 q (by omega)) (fun q hq => r6 q (by omega)) q3 q4 q5 r3 q6 r5 q7 q8 (rw_Rc q13 r1)
        · rw [q9 q (by omega), g9 q (by omega) (by omega)]
        · rw [q10 q (by omega), g10 q (by omega) (by omega)]
        · rw [q11 q (by omega), g11 q (by omega) (by omega)]
        · rw [q12 q (by omega), g12 q (by omega) (by omega)]
      refine pk_lt 4 sg (fun d => pk_lt 8 sg (fun d2 => ?_) (fun d2 => ?_)) (fun d => ?_)
      · -- asked
        refine sx_compared (s := s1 && s2) (by omega) hsg (by omega) (by omega) k1 km g5 g6 g7 g8 (by rw [g1]; exact mo1) (by rw [g3]; exact mo2) ?_
        refine sx_setTruth (by omega) (t_cmpl _ _ _ _ _ _ _) (fun hO hU hW hG q1 q2 q3 q4 q5 q6 q7 q8 => ?_)
        unfold wp_X_two_75
        refine sm_two_pre hsg (by omega) hm hmany a1 a2 b1 b2 a4 b4 a6 b6 a7 a8 b7 b8 a9 b9 (fun ga gq s' es r1 r2 => ?_)
        unfold wp_M_two_146
        refine br_t (nI_le (a := 5) (by omega) (by omega)) (br_t (nI_le (a := 9) (by omega) (by omega)) ?_)
        have k : t_cmp sg (s1 && s2) (max w1 w2) (gO (m - 2)) (gU (m - 2)) (gO (m - 1)) (gU (m - 1)) = t_cmp sg (s1 && s2) (max w1 w2) (xt_v s' w1 (max w1 w2) (fO (m - 2))) (xt_v s' w1 (max w1 w2) (fU (m - 2))) (xt_v s' w2 (max w1 w2) (fO (m - 1))) (xt_v s' w2 (max w1 w2) (fU (m - 1))) := by
          rw [g1, g2, g3, g4]
          by_cases z : sg ≤ 16
          · rw [es, if_pos z]
          · have l1 := xt_any a1 a2 (Nat.le_max_left w1 w2) km a7 a8
            have l2 := xt_any b1 b2 (Nat.le_max_right w1 w2) km b7 b8
            unfold t_cmp
            rw [l1, l1, l2, l2]
            rcases (show sg = 17 ∨ sg = 18 by omega) with rfl | rfl <;> rfl
        rw [k] at q1 q2
        have tl := t_cmpl sg (s1 && s2) (max w1 w2) (xt_v s' w1 (max w1 w2) (fO (m - 2))) (xt_v s' w1 (max w1 w2) (fU (m - 2))) (xt_v s' w2 (max w1 w2) (fO (m - 1))) (xt_v s' w2 (max w1 w2) (fU (m - 1)))
        refine sm_asked (s := s1 && s2) (by omega) hsg k1 km (xt_mk k1 km _ _ _) (xt_mk k1 km _ _ _) (xt_mk k1 km _ _ _) (xt_mk k1 km _ _ _) r1 r2 ⟨vp_in_nI (n := 0) (by decide) (by decide), ?_⟩
        generalize t_cmp sg (s1 && s2) (max w1 w2) (xt_v s' w1 (max w1 w2) (fO (m - 2))) (xt_v s' w1 (max w1 w2) (fU (m - 2))) (xt_v s' w2 (max w1 w2) (fO (m - 1))) (xt_v s' w2 (max w1 w2) (fU (m - 1))) = tt at q1 q2 tl ⊢
        have nb : vp_nar .byte (tr_m tt).toInt8.toInt32 = tr_m tt := by
          rcases (show tt = 0 ∨ tt = 1 ∨ tt = 2 by omega) with rfl | rfl | rfl <;> rfl
        rw [nb, sb_cl0]
        refine fin hO hU hW hG 1 false (by rw [if_neg (by omega)]) (by rw [decide_eq_false (by omega)]; rfl) (by decide) (by decide) q3 q4 (by rw [q1]; exact (tr_mk tl).1) (by rw [q2]; exact (tr_mk tl).2) q5 q6 q7 q8 _ _ _ _ ?_
        rw [q1, q2]
        exact tr_row tl pk_us
      · -- bit by bit
        refine sx_combine (by omega) d2 (by omega) (by omega) k1 km g5 g6 (fun hO hU q1 q2 q3 q4 q5 => ?_)
        unfold wp_X_two_75
        refine sm_two_pre hsg (by omega) hm hmany a1 a2 b1 b2 a4 b4 a6 b6 a7 a8 b7 b8 a9 b9 (fun ga gq s' es r1 r2 => ?_)
        rw [if_pos (by omega)] at es
        subst es
        unfold wp_M_two_146
        refine br_t (nI_le (a := 5) (by omega) (by omega)) (br_f (nI_ge (b := 9) (by omega) (by decide)) ?_)
        refine lm_two170 (by omega) d2 km r1 r2 (fun g hg => ?_) (max w1 w2) 0 kc (by omega) (fun j hj => by omega)
        refine fin hO hU gW gG (max w1 w2) (s1 && s2) (by rw [if_pos (by omega)]) (by rw [decide_eq_true (by omega), Bool.true_and]) k1 km g5 g7 q1 q2 q4 q5 (fun _ _ => rfl) (fun _ _ => rfl) _ _ _ _ (fun i hi => ?_)
        rw [hg i hi, q3 i hi, g1, g2, g3, g4]
      · -- reckoned
        refine sx_reckon (s := s1 && s2) d (by omega) (by omega) k1 km g5 g6 g7 g8 (by rw [g1]; exact mo1) (by rw [g3]; exact mo2) (fun z hO hU q1 q2 q3 q4 => ?_) (fun z1 z2 z3 hO hU q1 q2 q3 q4 q5 => ?_)
        · unfold wp_X_two_75
          refine sm_two_pre hsg (by omega) hm hmany a1 a2 b1 b2 a4 b4 a6 b6 a7 a8 b7 b8 a9 b9 (fun ga gq s' es r1 r2 => ?_)
          rw [if_pos (by omega)] at es
          subst es
          rw [g2, g4, g3] at z
          unfold wp_M_two_146
          refine br_f (nI_ge (b := 5) (by omega) (by decide)) ?_
          refine sm_reckon d k1 km mo1 mu1 mo2 mu2 r1 r2 (fun _ la lq lc lr l1 => ?_) (fun y1 y2 y3 => ?_)
          · refine fin hO hU gW gG (max w1 w2) (s1 && s2) (by rw [if_pos (by omega)]) (by rw [decide_eq_true (by omega), Bool.true_and]) k1 km g5 g7 (by rw [q1]; exact lb_lowm k1 km) (by rw [q2]; exact lb_lowm k1 km) q3 q4 (fun _ _ => rfl) (fun _ _ => rfl) la lq lc lr ?_
            rw [q1, q2]
            exact rw_x k1 km l1
          · rcases z with z | z
            · exact absurd ⟨y1, y2⟩ z
            · exact absurd z.2 (y3 z.1)
        · unfold wp_X_two_75
          refine sm_two_pre hsg (by omega) hm hmany a1 a2 b1 b2 a4 b4 a6 b6 a7 a8 b7 b8 a9 b9 (fun ga gq s' es r1 r2 => ?_)
          rw [if_pos (by omega)] at es
          subst es
          rw [g2] at z1
          rw [g4] at z2
          rw [g3] at z3
          rw [g1, g3] at q2
          unfold wp_M_two_146
          refine br_f (nI_ge (b := 5) (by omega) (by decide)) ?_
          refine sm_reckon d k1 km mo1 mu1 mo2 mu2 r1 r2 (fun y => ?_) (fun _ _ _ la lq lc lr l1 => ?_)
          · rcases y with y | y
            · exact absurd ⟨z1, z2⟩ y
            · exact absurd y.2 (z3 y.1)
          · refine fin hO hU gW gG (max w1 w2) (s1 && s2) (by rw [if_pos (by omega)]) (by rw [decide_eq_true (by omega), Bool.true_and]) k1 km g5 g7 q1 (by rw [q3]; exact lb_mk0 _) q4 q5 (fun _ _ => rfl) (fun _ _ => rfl) la lq lc lr ?_
            rw [q3]
            exact rw_NR l1 q2
