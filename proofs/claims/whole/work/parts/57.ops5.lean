/-! choose, told: class and reference alike -/
/-- a bit of choose: the first's, the second's, or what both surely have -/
def ch_v (t : Nat) (a b c d : Bool) : Int32 := if t = 1 then rw_q a b else if t = 0 then rw_q c d else if (a == c && b == d && !b) then rw_q a b else 3
section MCh
variable {kb kw ks ka kq kc kr kt kd : Nat → Int32} {many tsz thr : Int32}
variable {post : (Nat → Int32) → (Nat → Int32) → (Nat → Int32) → (Nat → Int32) → (Nat → Int32) → (Nat → Int32) → (Nat → Int32) → (Nat → Int32) → (Nat → Int32) → Int32 → Int32 → Int32 → Prop}
variable {posl : Int64 → (Nat → Int32) → (Nat → Int32) → (Nat → Int32) → (Nat → Int32) → (Nat → Int32) → (Nat → Int32) → (Nat → Int32) → (Nat → Int32) → (Nat → Int32) → Int32 → Int32 → Int32 → Prop}
theorem lm_choose {w t : Nat} {s : Bool} {O U P V : Int64} (hw : w ≤ 64) (ht : t < 3) (hA : rw_R ka w O U) (hB : rw_R kq w P V)
    (hq : ∀ g : Nat → Int32, (∀ i, i < w → g i = ch_v t (lb_t O i) (lb_t U i) (lb_t P i) (lb_t V i)) → wp_M_give_c (fun kb208 kw208 ks208 ka208 kq208 kc208 kr208 kt208 kd208 many208 tsz208 thr208 => post kb208 kw208 ks208 ka208 kq208 kc208 kr208 kt208 kd208 many208 tsz208 thr208) (nI w) (bi_v s) kb kw ks ka kq g kr kt kd (many - (3 : Int32)) tsz thr) :
    ∀ (k i : Nat) (g : Nat → Int32), i + k = w → (∀ j, j < i → g j = ch_v t (lb_t O j) (lb_t U j) (lb_t P j) (lb_t V j)) → ∃ n, wp_M_choose_102 post n (nI w) (bi_v s) (tr_m t) (nI i) kb kw ks ka kq g kr kt kd many tsz thr := by
  intro k
  induction k with
  | zero =>
    intro i g hi h
    refine ⟨0 + 1, ?_⟩
    rw [wp_M_choose_102]
    exact br_t (nI_le (by omega) (by omega)) (hq g (fun j hj => h j (by omega)))
  | succ k ih =>
    intro i g hi h
    have hin : vp_in (nI i) 64 := vp_in_nI (by omega) (by decide)
    obtain ⟨n, hn⟩ := ih (i + 1) (upd g i (ch_v t (lb_t O i) (lb_t U i) (lb_t P i) (lb_t V i))) (by omega) (fun j hj => by
      by_cases d : j = i
      · subst d; exact pk_us
      · rw [pk_un d]; exact h j (by omega))
    have fin : ∀ y : Int32, vp_nar .byte y = ch_v t (lb_t O i) (lb_t U i) (lb_t P i) (lb_t V i) → wp_M_choose_184 (wp_M_choose_102 post n) post (nI w) (bi_v s) (tr_m t) (nI i) y (nI i) kb kw ks ka kq g kr kt kd many tsz thr := by
      intro y hy
      unfold wp_M_choose_184
      refine ⟨hin, ?_⟩
      rw [nI_clamp (show i < 2 ^ 31 by omega), nI_1, hy]
      exact hn
    refine ⟨n + 1, ?_⟩
    rw [wp_M_choose_102]
    refine br_f (nI_ge (by omega) (by omega)) ?_
    rw [nI_clamp (by omega), hA i (by omega), hB i (by omega), rw_qe, q_2]
    unfold wp_M_choose_183
    rcases (show t = 0 ∨ t = 1 ∨ t = 2 by omega) with rfl | rfl | rfl
    · exact br_t (by decide) (br_f (fun z => z rfl) ⟨hin, fin _ (rw_nb _ _)⟩)
    · exact br_f (fun z => z rfl) ⟨hin, fin _ (rw_nb _ _)⟩
    · refine br_t (by decide) (br_t (by decide) ⟨hin, hin, ?_⟩)
      unfold ch_v at fin
      rw [if_neg (by decide), if_neg (by decide)] at fin
      refine br_c (fun c => fin 3 ?_) (fun c => ⟨hin, br_c (fun d => fin 3 ?_) (fun d => ⟨hin, fin _ ?_⟩)⟩)
      · rw [if_neg]
        · rfl
        · revert c; cases lb_t O i <;> cases lb_t U i <;> cases lb_t P i <;> cases lb_t V i <;> simp
      · rw [if_neg]
        · rfl
        · rw [d]; simp
      · rw [if_pos]
        · exact rw_nb _ _
        · revert c d; cases lb_t O i <;> cases lb_t U i <;> cases lb_t P i <;> cases lb_t V i <;> simp
theorem td_or {x : Int64} {b : Nat} (hx : 2 * lb_n x < 18446744073709551616) (hb : b < 2) : lb_n ((x <<< ((1 : Int32).toInt64 &&& 63)) ||| (nI b).toInt64) = 2 * lb_n x + b := by
  have h1 : ∀ y z : Int64, lb_n (y ||| z) = lb_n y ||| lb_n z := fun y z => by unfold lb_n; rw [Int64.toBitVec_or, BitVec.toNat_or]
  rw [h1, sx_dbl, nI_l (by omega), lb_lN (by omega), Nat.mul_comm, Nat.mod_eq_of_lt hx]
  exact (Nat.two_pow_add_eq_or_of_lt (i := 1) hb _).symm
theorem td_1 (a b : Bool) : rw_q a b &&& 1 = nI a.toNat := by cases a <;> cases b <;> decide
theorem td_2 (a b : Bool) : rw_q a b >>> ((1 : Int32) &&& 31) = nI b.toNat := by cases a <;> cases b <;> decide
theorem lm_told {w wh : Nat} {O U X : Int64} (hw : w ≤ 64) (hwh : wh = 0 ∨ wh = 1) (hA : rw_R ka w O U) (hX : X = if wh = 0 then O else U) (mX : lb_mk w X) (hq : posl X kb kw ks ka kq kc kr kt kd many tsz thr) :
    ∀ t, t ≤ w → ∀ v : Int64, lb_n v = lb_n X / 2 ^ t → wp_M_told_150 posl (t + 1) (nI wh) v (nI t + (-1)) kb kw ks ka kq kc kr kt kd many tsz thr := by
  intro t
  induction t with
  | zero =>
    intro _ v hv
    rw [wp_M_told_150]
    rw [Nat.pow_zero, Nat.div_one] at hv
    have e : v = X := lb_inj hv
    rw [e]
    exact br_t (by decide) hq
  | succ t ih =>
    intro ht v hv
    have hin : vp_in (nI t) 64 := vp_in_nI (by omega) (by decide)
    have hs := bn_step (lb_n X) t
    have hl := lb_lt X
    have hd := Nat.div_le_self (lb_n X) (2 ^ t)
    have b2 := bn_2 (lb_n X) t
    have nxt : ∀ y : Int32, y = nI (lb_n X / 2 ^ t % 2) → wp_M_told_184 (wp_M_told_150 posl (t + 1)) posl (nI wh) (nI t) y (v <<< ((1 : Int32).toInt64 &&& 63)) kb kw ks ka kq kc kr kt kd many tsz thr := by
      intro y hy
      unfold wp_M_told_184
      intro v2 hv2
      refine ih (by omega) v2 ?_
      rw [hv2, hy, td_or (by omega) b2, hv]
      omega
    rw [wp_M_told_150]
    dsimp only
    rw [pk_m1, nI_clamp (by omega), hA t (by omega), td_1, td_2]
    refine br_f (nI_pos (by omega)) ?_
    rcases hwh with rfl | rfl
    · rw [if_pos rfl] at hX
      refine br_f (fun z => z rfl) ⟨hin, nxt _ ?_⟩
      rw [bn_t, hX]; rfl
    · rw [if_neg (by decide)] at hX
      refine br_t (by decide) ⟨hin, nxt _ ?_⟩
      rw [bn_t, hX]; rfl
end MCh
section OPCh
variable {fO fU : Nat → Int64} {fW fG fL kb kw ks ka kq kc kr kt kd : Nat → Int32} {len size many tsz thr : Int32} {fo : Nat → Int64}
theorem op_choose (R : re_L fO fU fW fG fL len size kb kw ks kt many tsz) :
    wp_L_choose (fun r gO gU gW gG gL len' size' => wp_M_choose (fun lb lw ls _ _ _ _ lt _ many' tsz' thr' => thr' = r ∧ re_L gO gU gW gG gL len' size' lb lw ls lt many' tsz') kb kw ks ka kq kc kr kt kd many tsz thr) fO fU fW fG fL len size := by
  have R0 := R
  obtain ⟨m, t, hm, ht, hsz, hmany, hlen, htsz, hP, hT⟩ := R
  unfold wp_L_choose wp_X_choose
  by_cases few : m < 3
  · refine Or.inr ⟨sx_vt (need := 3) (by decide) hm few hsz, ⟨rfl, ?_⟩⟩
    unfold wp_M_choose
    exact sm_refuse (need := 3) (room := 1) hm (by decide) (by decide) hmany (fun z => absurd rfl z) (fun _ _ => br_f (by decide) ⟨rfl, R0⟩) (fun _ z _ => by omega)
  · refine Or.inl (sx_vk (need := 3) (by decide) hm (by omega) hsz ?_)
    have e1 : nI m - (1 : Int32) = nI (m - 1) := pk_sub (b := 1) (by omega)
    have e2 : nI m - (2 : Int32) = nI (m - 2) := pk_sub (b := 2) (by omega)
    have e3 : nI m - (3 : Int32) = nI (m - 3) := pk_sub (b := 3) (by omega)
    have i1 : vp_in (nI (m - 1)) 64 := vp_in_nI (by omega) (by decide)
    have i2 : vp_in (nI (m - 2)) 64 := vp_in_nI (by omega) (by decide)
    have i3 : vp_in (nI (m - 3)) 64 := vp_in_nI (by omega) (by decide)
    have cl1 : (nI (m - 1)).toNatClampNeg = m - 1 := nI_clamp (by omega)
    have cl2 : (nI (m - 2)).toNatClampNeg = m - 2 := nI_clamp (by omega)
    have cl3 : (nI (m - 3)).toNatClampNeg = m - 3 := nI_clamp (by omega)
    obtain ⟨w0, s0, d1, d2, d3, d4, d5, d6, d7, d8, d9⟩ := hP (m - 3) (by omega)
    obtain ⟨w1, s1, a1, a2, a3, a4, a5, a6, a7, a8, a9⟩ := hP (m - 2) (by omega)
    obtain ⟨w2, s2, b1, b2, b3, b4, b5, b6, b7, b8, b9⟩ := hP (m - 1) (by omega)
    have km : max w1 w2 ≤ 64 := Nat.max_le.mpr ⟨a2, b2⟩
    have k1 : 1 ≤ max w1 w2 := Nat.le_trans a1 (Nat.le_max_left _ _)
    have tl := t_anyl (fO (m - 3)) (fU (m - 3))
    -- the reference up to its row
    have inM : ∀ {Q : (Nat → Int32) → (Nat → Int32) → (Nat → Int32) → (Nat → Int32) → (Nat → Int32) → (Nat → Int32) → (Nat → Int32) → (Nat → Int32) → (Nat → Int32) → Int32 → Int32 → Int32 → Prop}, (∀ ga gq g : Nat → Int32, (∀ i, i < max w1 w2 → g i = ch_v (t_any (fO (m - 3)) (fU (m - 3))) (lb_t (xt_v (s1 && s2) w1 (max w1 w2) (fO (m - 2))) i) (lb_t (xt_v (s1 && s2) w1 (max w1 w2) (fU (m - 2))) i) (lb_t (xt_v (s1 && s2) w2 (max w1 w2) (fO (m - 1))) i) (lb_t (xt_v (s1 && s2) w2 (max w1 w2) (fU (m - 1))) i)) → wp_M_give_c (fun kb208 kw208 ks208 ka208 kq208 kc208 kr208 kt208 kd208 many208 tsz208 thr208 => Q kb208 kw208 ks208 ka208 kq208 kc208 kr208 kt208 kd208 many208 tsz208 thr208) (nI (max w1 w2)) (bi_v (s1 && s2)) kb kw ks ga gq g kr kt kd (nI m - (3 : Int32)) tsz 0) → wp_M_choose Q kb kw ks ka kq kc kr kt kd many tsz thr := fun {Q} h => by
      unfold wp_M_choose
      refine sm_refuse (need := 3) (room := 1) hm (by decide) (by decide) hmany (fun z => absurd rfl z) (fun _ z => by omega) (fun _ _ _ => br_t rfl ?_)
      refine sm_wider (by omega) hm hmany a4 b4 a2 b2 ?_
      rw [hmany, e1, e2, e3]
      intro v hv
      subst hv
      refine ⟨i1, ?_⟩
      rw [cl1, cl2, a6, b6]
      have f61 : wp_M_choose_61 Q (nI (max w1 w2)) (nI (m - 3)) (bi_v (s1 && s2)) kb kw ks ka kq kc kr kt kd (nI m) tsz 0 := by
        unfold wp_M_choose_61 wp_M_bring
        rw [e2]
        refine sm_take_a (by omega) a1 a2 k1 km a4 a7 a8 a9 (fun ga r1 => ?_)
        rw [e1]
        refine sm_take_b (by omega) b1 b2 k1 km b4 b7 b8 b9 (fun gq r2 => ⟨i3, ?_⟩)
        rw [cl3, d4]
        refine sm_take_c (s := false) (by omega) d1 d2 d1 d2 d4 d7 d8 d9 (fun gc r3 => ⟨i3, ?_⟩)
        rw [xt_same d1 d2 d7, xt_same d1 d2 d8] at r3
        have fin : wp_M_truth (fun r94 kc94 => (∃ n102 : Nat, wp_M_choose_102 Q n102 (nI (max w1 w2)) (bi_v (s1 && s2)) r94 (0 : Int32) kb kw ks ga gq kc94 kr kt kd (nI m) tsz 0)) (nI w0) gc := by
          have go : ∃ n102 : Nat, wp_M_choose_102 Q n102 (nI (max w1 w2)) (bi_v (s1 && s2)) (tr_m (t_any (fO (m - 3)) (fU (m - 3)))) (0 : Int32) kb kw ks ga gq gc kr kt kd (nI m) tsz 0 :=
            lm_choose km tl r1 r2 (fun g hg => h ga gq g hg) (max w1 w2) 0 gc (by omega) (fun j hj => by omega)
          refine sm_truth d1 d2 r3 d7 d8 (fun z => ?_) (fun z y => ?_) (fun z y => ?_)
          · unfold t_any at go; rw [if_neg z] at go; exact go
          · unfold t_any at go; rw [if_pos z, if_neg y] at go; exact go
          · unfold t_any at go; rw [if_pos z, if_pos y] at go; exact go
        rw [d4]
        exact fin
      cases s2
      · refine br_t rfl ?_
        unfold wp_M_choose_60
        rw [Bool.and_false] at f61
        exact f61
      · refine br_f (by decide) ⟨i2, ?_⟩
        cases s1
        · exact br_t rfl f61
        · exact br_f (by decide) f61
    intro v1 hv1 v2 hv2 v3 hv3
    rw [hsz] at hv1 hv2 hv3 ⊢
    rw [e3] at hv1
    rw [e2] at hv2
    rw [e1] at hv3
    subst hv1
    subst hv2
    subst hv3
    refine sx_bringTogether (by omega) (by omega) (by omega) a3 b3 a2 b2 a5 b5 (fun gO gU gW gG g1 g2 g3 g4 g5 g6 g7 g8 g9 g10 g11 g12 => ?_)
    have mo1 := xt_mk k1 km (s1 && s2) w1 (fO (m - 2))
    have mu1 := xt_mk k1 km (s1 && s2) w1 (fU (m - 2))
    have mo2 := xt_mk k1 km (s1 && s2) w2 (fO (m - 1))
    have mu2 := xt_mk k1 km (s1 && s2) w2 (fU (m - 1))
    rw [← g1] at mo1
    rw [← g2] at mu1
    rw [← g3] at mo2
    rw [← g4] at mu2
    -- the end: the value at from goes to the place of the condition
    have fin : ∀ (hO hU : Nat → Int64) (from_ : Nat), (from_ = m - 2 ∨ from_ = m - 1) → lb_mk (max w1 w2) (hO from_) → lb_mk (max w1 w2) (hU from_) → (∀ r, r < m - 3 → hO r = fO r) → (∀ r, r < m - 3 → hU r = fU r) → (∀ i, i < max w1 w2 → rw_q (lb_t (hO from_) i) (lb_t (hU from_) i) = ch_v (t_any (fO (m - 3)) (fU (m - 3))) (lb_t (gO (m - 2)) i) (lb_t (gU (m - 2)) i) (lb_t (gO (m - 1)) i) (lb_t (gU (m - 1)) i)) →
        wp_X_choose_83 (fun gO gU gW gG gL len' size' => wp_M_choose (fun lb lw ls _ _ _ _ lt _ many' tsz' thr' => thr' = (0 : Int32) ∧ re_L gO gU gW gG gL len' size' lb lw ls lt many' tsz') kb kw ks ka kq kc kr kt kd many tsz thr) (fun (E9 : String) gO gU gW gG gL len' size' => (E9 = "java/lang/IllegalStateException" ∧ wp_M_choose (fun lb lw ls _ _ _ _ lt _ many' tsz' thr' => thr' = (1 : Int32) ∧ re_L gO gU gW gG gL len' size' lb lw ls lt many' tsz') kb kw ks ka kq kc kr kt kd many tsz thr)) (nI (m - 3)) (nI from_) hO hU gW gG fL len (nI m) := by
      intro hO hU from_ hf q1 q2 q3 q4 q5
      have fW' : gW from_ = nI (max w1 w2) := by rcases hf with rfl | rfl; exact g5; exact g6
      have fG' : gG from_ = bi_v (s1 && s2) := by rcases hf with rfl | rfl; exact g7; exact g8
      unfold wp_X_choose_83
      refine sx_copyValue (by omega) (by omega) fW' km fG' (fun lO lU lW lG l1 l2 l3 l4 l5 l6 l7 l8 => inM (fun ga gq g hg => ?_))
      rw [lb_masked k1 km q1] at l1
      rw [lb_masked k1 km q2] at l2
      have hr : rw_R g (max w1 w2) (lO (m - 3)) (lU (m - 3)) := fun i hi => by rw [hg i hi, l1, l2, q5 i hi, g1, g2, g3, g4]
      rw [e3]
      refine sm_give_c (m := m - 3) (by omega) km rfl (rw_Rn hr) (fun lb lw ls r1 r2 r3 r4 r5 r6 => ⟨rfl, ?_⟩)
      refine re_fin (n := m - 3) (by omega) ht (re_less hP (by omega)) hT hlen htsz (by rw [e2]; congr 1; omega) rfl (fun q hq => ?_) (fun q hq => ?_) (fun q hq => ?_) (fun q hq => ?_) r2 (fun q hq => r4 q (by omega)) (fun q hq => r6 q (by omega)) k1 km l3 r3 l4 r5 (by rw [l1]; exact q1) (by rw [l2]; exact q2) (rw_Rc hr r1)
      · rw [l5 q (by omega), q3 q hq]
      · rw [l6 q (by omega), q4 q hq]
      · rw [l7 q (by omega), g11 q (by omega) (by omega)]
      · rw [l8 q (by omega), g12 q (by omega) (by omega)]
    have bO : ∀ r, r < m - 3 → gO r = fO r := fun r hr => g9 r (by omega) (by omega)
    have bU : ∀ r, r < m - 3 → gU r = fU r := fun r hr => g10 r (by omega) (by omega)
    refine sx_anyOne (by omega) ?_
    rw [g9 (m - 3) (by omega) (by omega), g10 (m - 3) (by omega) (by omega)]
    generalize t_any (fO (m - 3)) (fU (m - 3)) = tt at *
    rcases (show tt = 0 ∨ tt = 1 ∨ tt = 2 by omega) with rfl | rfl | rfl
    · refine br_t (by decide) ?_
      unfold wp_X_choose_72
      refine br_f (fun z => z rfl) ?_
      exact fin gO gU (m - 1) (Or.inr rfl) mo2 mu2 bO bU (fun i hi => rfl)
    · refine br_t (by decide) ?_
      unfold wp_X_choose_72
      refine br_t (by decide) ?_
      exact fin gO gU (m - 2) (Or.inl rfl) mo1 mu1 bO bU (fun i hi => rfl)
    · refine br_f (fun z => z rfl) ?_
      refine sx_sureOnes (by omega) ?_
      refine sx_sureOnes (by omega) ?_
      refine sx_sureZeros (by omega) g5 km ?_
      refine sx_sureZeros (by omega) g6 km ?_
      refine sx_setSure (by omega) g5 km (fun hO hU q1 q2 q3 q4 => ?_)
      unfold wp_X_choose_72
      refine br_t (by decide) ?_
      refine fin hO hU (m - 2) (Or.inl rfl) (by rw [q1]; exact lb_mask k1 km _) (by rw [q2]; exact lb_mask k1 km _) (fun r hr => by rw [q3 r (by omega), bO r hr]) (fun r hr => by rw [q4 r (by omega), bU r hr]) (fun i hi => ?_)
      rw [q1, q2, ss_bit k1 km hi, lb_and, lb_and, so_0t k1 km _ _ hi, so_0t k1 km _ _ hi, so_1t km _ _ hi, so_1t km _ _ hi]
      cases lb_t (gO (m - 2)) i <;> cases lb_t (gU (m - 2)) i <;> cases lb_t (gO (m - 1)) i <;> cases lb_t (gU (m - 1)) i <;> rfl
theorem op_told {a b : Int32} (R : re_L fO fU fW fG fL len size kb kw ks kt many tsz) :
    wp_L_told (fun r gO gU gW gG gL len' size' fo' => wp_M_told (fun b lb lw ls _ _ _ _ lt _ many' tsz' thr' => thr' = r ∧ (r = 0 → fo' 0 = b) ∧ re_L gO gU gW gG gL len' size' lb lw ls lt many' tsz') a b kb kw ks ka kq kc kr kt kd many tsz thr) a b fO fU fW fG fL len size fo := by
  have R0 := R
  obtain ⟨m, t, hm, ht, hsz, hmany, hlen, htsz, hP, hT⟩ := R
  unfold wp_L_told wp_X_told
  by_cases c : b < 0 ∨ ¬ b ≤ 4
  · refine Or.inr ⟨sx_rt c, Or.inl ⟨rfl, ?_⟩⟩
    have f : wp_M_told_10 (fun b lb lw ls _ _ _ _ lt _ many' tsz' thr' => thr' = (1 : Int32) ∧ ((1 : Int32) = 0 → fo 0 = b) ∧ re_L fO fU fW fG fL len size lb lw ls lt many' tsz') a b kb kw ks ka kq kc kr kt kd many tsz thr := by
      unfold wp_M_told_10 wp_M_told_31
      exact br_f (by decide) ⟨rfl, fun z => absurd z (by decide), R0⟩
    unfold wp_M_told
    by_cases d : b < 0
    · exact br_t d f
    · exact br_f d (br_f (c.resolve_left d) f)
  · have c1 : ¬ b < 0 := fun z => c (Or.inl z)
    have c2 : b ≤ 4 := Classical.byContradiction (fun z => c (Or.inr z))
    obtain ⟨wh, -, hwh, rfl⟩ := in_rg (lo := 0) (hi := 4) (by decide) (by decide) c1 c2
    refine Or.inl (sx_rk c1 c2 ?_)
    by_cases p : a < 0 ∨ ¬ a < nI m
    · refine Or.inr ⟨sx_pt p hsz, Or.inr ⟨rfl, ?_⟩⟩
      have f : wp_M_told_26 (fun b lb lw ls _ _ _ _ lt _ many' tsz' thr' => thr' = (2 : Int32) ∧ ((2 : Int32) = 0 → fo 0 = b) ∧ re_L fO fU fW fG fL len size lb lw ls lt many' tsz') a (nI wh) kb kw ks ka kq kc kr kt kd many tsz thr := by
        unfold wp_M_told_26 wp_M_told_31
        exact br_f (by decide) ⟨rfl, fun z => absurd z (by decide), R0⟩
      unfold wp_M_told
      refine br_f c1 (br_t c2 ?_)
      rw [← hmany] at p
      by_cases d : a < 0
      · exact br_t d f
      · exact br_f d (br_f (p.resolve_left d) f)
    · have p1 : ¬ a < 0 := fun z => p (Or.inl z)
      have p2 : a < nI m := Classical.byContradiction (fun z => p (Or.inr z))
      obtain ⟨i, hi31, rfl⟩ := nI_of p1
      have im : i < m := (nI_ltI hi31 (by omega)).mp p2
      refine Or.inl (sx_pk im hm hsz ?_)
      have e1 : nI m - (1 : Int32) - nI i = nI (m - 1 - i) := by rw [show nI m - (1 : Int32) = nI (m - 1) from pk_sub (b := 1) (by omega), pk_sub (by omega)]
      have i1 : vp_in (nI (m - 1 - i)) 64 := vp_in_nI (by omega) (by decide)
      have cl1 : (nI (m - 1 - i)).toNatClampNeg = m - 1 - i := nI_clamp (by omega)
      obtain ⟨w, s, a1, a2, a3, a4, a5, a6, a7, a8, a9⟩ := hP (m - 1 - i) (by omega)
      have o0 : vp_in (0 : Int32) 1 := vp_in_nI (n := 0) (by decide) (by decide)
      -- the reference, up to the place
      have inM : ∀ {Q : Int64 → (Nat → Int32) → (Nat → Int32) → (Nat → Int32) → (Nat → Int32) → (Nat → Int32) → (Nat → Int32) → (Nat → Int32) → (Nat → Int32) → (Nat → Int32) → Int32 → Int32 → Int32 → Prop}, ((wh = 0 → ∀ ga, Q (fO (m - 1 - i)) kb kw ks ga kq kc kr kt kd many tsz 0) ∧ (wh = 1 → ∀ ga, Q (fU (m - 1 - i)) kb kw ks ga kq kc kr kt kd many tsz 0) ∧ (wh = 2 → ∀ ga, Q (lN w) kb kw ks ga kq kc kr kt kd many tsz 0) ∧ (wh = 3 → ∀ ga, Q (if s then 1 else 0) kb kw ks ga kq kc kr kt kd many tsz 0) ∧ (wh = 4 → ∀ ga, Q (lN (t_any (fO (m - 1 - i)) (fU (m - 1 - i)))) kb kw ks ga kq kc kr kt kd many tsz 0)) → wp_M_told Q (nI i) (nI wh) kb kw ks ka kq kc kr kt kd many tsz thr := fun {Q} h => by
        obtain ⟨h0, h1, h2, h3, h4⟩ := h
        unfold wp_M_told
        rw [hmany] at h0 h1 h2 h3 h4 ⊢
        refine br_f c1 (br_t c2 (br_f p1 (br_t p2 ?_)))
        unfold wp_M_told_31
        refine br_t (by decide) ?_
        intro v hv
        rw [e1] at hv
        subst hv
        rw [cl1, a4, a6]
        rcases (show wh = 0 ∨ wh = 1 ∨ wh = 2 ∨ wh = 3 ∨ wh = 4 by omega) with rfl | rfl | rfl | rfl | rfl
        · refine br_t (by decide) (br_t (by decide) ⟨i1, ?_⟩)
          refine sm_take_a (s := false) (by omega) a1 a2 a1 a2 a4 a7 a8 a9 (fun ga r => br_t (by decide) ⟨i1, ?_⟩)
          rw [xt_same a1 a2 a7, xt_same a1 a2 a8] at r
          rw [a4]
          intro v2 hv2
          rw [hv2, nm_1 w a1]
          exact ⟨w + 1, lm_told (wh := 0) a2 (Or.inl rfl) r (by rw [if_pos rfl]) a7 (h0 rfl ga) w (Nat.le_refl _) 0 (by rw [Nat.div_eq_of_lt (lb_mkn.mp a7)]; rfl)⟩
        · refine br_t (by decide) (br_t (by decide) ⟨i1, ?_⟩)
          refine sm_take_a (s := false) (by omega) a1 a2 a1 a2 a4 a7 a8 a9 (fun ga r => br_t (by decide) ⟨i1, ?_⟩)
          rw [xt_same a1 a2 a7, xt_same a1 a2 a8] at r
          rw [a4]
          intro v2 hv2
          rw [hv2, nm_1 w a1]
          exact ⟨w + 1, lm_told (wh := 1) a2 (Or.inr rfl) r (by rw [if_neg (by decide)]) a8 (h1 rfl ga) w (Nat.le_refl _) 0 (by rw [Nat.div_eq_of_lt (lb_mkn.mp a8)]; rfl)⟩
        · refine br_f (fun z => z rfl) ⟨i1, ?_⟩
          rw [nI_l (by omega)]
          exact h2 rfl ka
        · refine br_t (by decide) (br_f (fun z => z rfl) ⟨i1, ?_⟩)
          have h3 := h3 rfl ka
          cases s
          · exact br_t rfl h3
          · exact br_f (by decide) h3
        · refine br_t (by decide) (br_t (by decide) ⟨i1, ?_⟩)
          refine sm_take_a (s := false) (by omega) a1 a2 a1 a2 a4 a7 a8 a9 (fun ga r => br_f (fun z => z rfl) ⟨i1, ?_⟩)
          rw [xt_same a1 a2 a7, xt_same a1 a2 a8] at r
          rw [a4]
          have h4 := h4 rfl ga
          unfold t_any at h4
          refine sm_truth a1 a2 r a7 a8 (fun z => br_t (by decide) ?_) (fun z y => br_f (fun x => x rfl) ?_) (fun z y => br_t (by decide) ?_)
          · rw [if_neg z] at h4; exact h4
          · rw [if_pos z, if_neg y] at h4; exact h4
          · rw [if_pos z, if_pos y] at h4; exact h4
      intro v hv
      rw [hsz] at hv ⊢
      rw [e1] at hv
      subst hv
      rw [nI_toInt (n := wh) (by omega), cl1, a3, a5]
      have R1 : re_L fO fU fW fG fL len (nI m) kb kw ks kt many tsz := by rw [← hsz]; exact R0
      refine ⟨fun k => ?_, fun k => ⟨i1, o0, ?_⟩, fun k => ⟨i1, o0, ?_⟩, fun k => ⟨i1, o0, ?_⟩, fun k => ⟨i1, ?_⟩⟩
      · obtain rfl : wh = 4 := by omega
        refine sx_anyOne (by omega) ⟨o0, ?_⟩
        refine inM ⟨fun z => by omega, fun z => by omega, fun z => by omega, fun z => by omega, fun _ ga => ⟨rfl, fun _ => ?_, R1⟩⟩
        rw [sb_cl0, pk_uLs, nI_l (by have := t_anyl (fO (m - 1 - i)) (fU (m - 1 - i)); omega)]
      · obtain rfl : wh = 0 := by omega
        refine inM ⟨fun _ ga => ⟨rfl, fun _ => ?_, R1⟩, fun z => by omega, fun z => by omega, fun z => by omega, fun z => by omega⟩
        rw [sb_cl0, pk_uLs]
      · obtain rfl : wh = 1 := by omega
        refine inM ⟨fun z => by omega, fun _ ga => ⟨rfl, fun _ => ?_, R1⟩, fun z => by omega, fun z => by omega, fun z => by omega⟩
        rw [sb_cl0, pk_uLs]
      · obtain rfl : wh = 2 := by omega
        refine inM ⟨fun z => by omega, fun z => by omega, fun _ ga => ⟨rfl, fun _ => ?_, R1⟩, fun z => by omega, fun z => by omega⟩
        rw [sb_cl0, pk_uLs, nI_l (by omega)]
      · obtain rfl : wh = 3 := by omega
        unfold wp_X_told_88
        cases s
        · refine br_t rfl ⟨o0, inM ⟨fun z => by omega, fun z => by omega, fun z => by omega, fun _ ga => ⟨rfl, fun _ => ?_, R1⟩, fun z => by omega⟩⟩
          rw [sb_cl0, pk_uLs]; rfl
        · refine br_f (by decide) ⟨o0, inM ⟨fun z => by omega, fun z => by omega, fun z => by omega, fun _ ga => ⟨rfl, fun _ => ?_, R1⟩, fun z => by omega⟩⟩
          rw [sb_cl0, pk_uLs]; rfl
end OPCh
