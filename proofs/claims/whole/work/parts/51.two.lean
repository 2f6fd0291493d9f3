/-! two -/
theorem xt_any {w0 w : Nat} (h0 : 1 ≤ w0) (h0' : w0 ≤ 64) (hle : w0 ≤ w) (h2 : w ≤ 64) {O U : Int64} (mO : lb_mk w0 O) (mU : lb_mk w0 U) (s : Bool) : t_any (xt_v s w0 w O) (xt_v s w0 w U) = t_any O U := by
  have h1 : 1 ≤ w := by omega
  have eU : xt_v s w0 w U = 0 ↔ U = 0 := by
    rw [lb_zero (xt_mk h1 h2 s w0 U), lb_zero mU]
    constructor
    · intro z i hi
      have := z i (by omega)
      rw [xt_t h0 h0' h1 h2 mU s (by omega), if_pos hi] at this
      exact this
    · intro z i hi
      rw [xt_t h0 h0' h1 h2 mU s hi]
      by_cases c : i < w0
      · rw [if_pos c]; exact z i c
      · rw [if_neg c, z (w0 - 1) (by omega), Bool.and_false]
  have eO : so_1 (xt_v s w0 w O) (xt_v s w0 w U) = 0 ↔ so_1 O U = 0 := by
    rw [lb_zero (so_1m _ (xt_mk h1 h2 s w0 O)), lb_zero (so_1m U mO)]
    constructor
    · intro z i hi
      have := z i (by omega)
      rw [so_1t h2 _ _ (by omega), xt_t h0 h0' h1 h2 mO s (by omega), xt_t h0 h0' h1 h2 mU s (by omega), if_pos hi, if_pos hi] at this
      rw [so_1t h0' _ _ hi]
      exact this
    · intro z i hi
      rw [so_1t h2 _ _ hi, xt_t h0 h0' h1 h2 mO s hi, xt_t h0 h0' h1 h2 mU s hi]
      by_cases c : i < w0
      · rw [if_pos c, if_pos c, ← so_1t h0' O U c]; exact z i c
      · rw [if_neg c, if_neg c]
        have := z (w0 - 1) (by omega)
        rw [so_1t h0' O U (by omega)] at this
        revert this
        cases s <;> cases lb_t O (w0 - 1) <;> cases lb_t U (w0 - 1) <;> simp
  unfold t_any
  by_cases a : so_1 O U = 0
  · rw [if_pos a, if_pos (eO.mpr a)]
    by_cases b : U = 0
    · rw [if_pos b, if_pos (eU.mpr b)]
    · rw [if_neg b, if_neg (fun z => b (eU.mp z))]
  · rw [if_neg a, if_neg (fun z => a (eO.mp z))]
section MT
variable {kb kw ks ka kq kc kr kt kd : Nat → Int32} {many tsz thr : Int32}
variable {post : (Nat → Int32) → (Nat → Int32) → (Nat → Int32) → (Nat → Int32) → (Nat → Int32) → (Nat → Int32) → (Nat → Int32) → (Nat → Int32) → (Nat → Int32) → Int32 → Int32 → Int32 → Prop}
theorem sm_two225 {sg m w w' : Nat} {s s' : Bool} {O U : Int64} (hsg : sg ≤ 18) (h2m : 2 ≤ m) (hm : m ≤ 64) (hmany : many = nI m) (hw : w ≤ 64) (ew : w' = if sg < 9 then w else 1) (es : s' = (decide (sg < 9) && s)) (hR : rw_R kc w' O U)
    (hq : ∀ gb gw gs : Nat → Int32, (∀ i, i < w' → gb (64 * (m - 2) + i) = kc i) → (∀ j, j < 64 * (m - 2) → gb j = kb j) → gw (m - 2) = nI w' → (∀ q, q ≠ m - 2 → gw q = kw q) → gs (m - 2) = bi_v s' → (∀ q, q ≠ m - 2 → gs q = ks q) → post gb gw gs ka kq kc kr kt kd (nI (m - 2 + 1)) tsz thr) : wp_M_two_225 post (nI sg) (nI w) (bi_v s) kb kw ks ka kq kc kr kt kd many tsz thr := by
  subst hmany
  have e2 : nI m - (2 : Int32) = nI (m - 2) := pk_sub (b := 2) h2m
  unfold wp_M_two_225
  rw [e2]
  refine pk_le 9 sg (fun c => ?_) (fun c => ?_)
  · rw [if_neg (by omega)] at ew
    rw [decide_eq_false (by omega), Bool.false_and] at es
    subst ew
    subst es
    unfold wp_M_two_251
    refine br_t (nI_le c (by omega)) ?_
    unfold wp_M_two_265 wp_M_two_266
    exact sm_give_c (w := 1) (s := false) (by omega) (by decide) rfl (rw_Rn hR) hq
  · rw [if_pos c] at ew
    rw [decide_eq_true c, Bool.true_and] at es
    subst ew
    subst es
    unfold wp_M_two_251
    refine br_f (nI_ge (b := 9) c (by decide)) ?_
    cases s'
    · refine br_t rfl ?_
      unfold wp_M_two_265 wp_M_two_266
      exact sm_give_c (s := false) (by omega) hw rfl (rw_Rn hR) hq
    · refine br_f (by decide) ?_
      unfold wp_M_two_266
      exact sm_give_c (s := true) (by omega) hw rfl (rw_Rn hR) hq
theorem sm_two_bad {sg : Int32} {m : Nat} (hm : m ≤ 64) (hmany : many = nI m) (h : sg < 0 ∨ ¬ sg ≤ 18) (hq : post kb kw ks ka kq kc kr kt kd many tsz 1) : wp_M_two post sg kb kw ks ka kq kc kr kt kd many tsz thr := by
  have f : wp_M_two_11 post sg kb kw ks ka kq kc kr kt kd many tsz thr := by
    unfold wp_M_two_11 wp_M_two_16
    refine sm_refuse (need := 2) (room := 1) hm (by decide) (by decide) hmany (fun _ => br_f (by decide) hq) (fun z => absurd z (by decide)) (fun z => absurd z (by decide))
  unfold wp_M_two
  by_cases c : sg < 0
  · exact br_t c f
  · exact br_f c (br_f (h.resolve_left c) f)
theorem sm_two_in {sg m : Nat} (hm : m ≤ 64) (hsg : sg ≤ 18) (h : wp_M_two_16 post (nI sg) 0 kb kw ks ka kq kc kr kt kd many tsz thr) : wp_M_two post (nI sg) kb kw ks ka kq kc kr kt kd many tsz thr := by
  unfold wp_M_two
  exact br_f (nI_pos (by omega)) (br_t (nI_le (b := 18) hsg (by decide)) h)
theorem sm_two_few {sg m : Nat} (hm : m ≤ 64) (hmany : many = nI m) (hsg : sg ≤ 18) (h : m < 2) (hq : post kb kw ks ka kq kc kr kt kd many tsz 2) : wp_M_two post (nI sg) kb kw ks ka kq kc kr kt kd many tsz thr := by
  refine sm_two_in hm hsg ?_
  unfold wp_M_two_16
  refine sm_refuse (need := 2) (room := 1) hm (by decide) (by decide) hmany (fun z => absurd rfl z) (fun _ _ => br_f (by decide) hq) (fun _ z _ => by omega)
/-- both rows taken, before the operation itself -/
theorem sm_two_pre {sg m w1 w2 : Nat} {s1 s2 : Bool} {O U P V : Int64} (hsg : sg ≤ 18) (h2m : 2 ≤ m) (hm : m ≤ 64) (hmany : many = nI m) (a1 : 1 ≤ w1) (a2 : w1 ≤ 64) (b1 : 1 ≤ w2) (b2 : w2 ≤ 64) (hw1 : kw (m - 2) = nI w1) (hw2 : kw (m - 1) = nI w2) (hs1 : ks (m - 2) = bi_v s1) (hs2 : ks (m - 1) = bi_v s2) (mO : lb_mk w1 O) (mU : lb_mk w1 U) (mP : lb_mk w2 P) (mV : lb_mk w2 V) (hA : rw_R (fun i => kb (64 * (m - 2) + i)) w1 O U) (hB : rw_R (fun i => kb (64 * (m - 1) + i)) w2 P V)
    (hq : ∀ (ga gq : Nat → Int32) (s' : Bool), (s' = if sg ≤ 16 then (s1 && s2) else false) → rw_R ga (max w1 w2) (xt_v s' w1 (max w1 w2) O) (xt_v s' w1 (max w1 w2) U) → rw_R gq (max w1 w2) (xt_v s' w2 (max w1 w2) P) (xt_v s' w2 (max w1 w2) V) → wp_M_two_146 post (nI sg) (nI (max w1 w2)) (bi_v (s1 && s2)) kb kw ks ga gq kc kr kt kd many tsz 0) : wp_M_two post (nI sg) kb kw ks ka kq kc kr kt kd many tsz thr := by
  have km : max w1 w2 ≤ 64 := Nat.max_le.mpr ⟨a2, b2⟩
  have k1 : 1 ≤ max w1 w2 := Nat.le_trans a1 (Nat.le_max_left _ _)
  have e1 : nI m - (1 : Int32) = nI (m - 1) := pk_sub (b := 1) (by omega)
  have e2 : nI m - (2 : Int32) = nI (m - 2) := pk_sub (b := 2) (by omega)
  have i1 : vp_in (nI (m - 1)) 64 := vp_in_nI (by omega) (by decide)
  have i2 : vp_in (nI (m - 2)) 64 := vp_in_nI (by omega) (by decide)
  refine sm_two_in hm hsg ?_
  unfold wp_M_two_16
  refine sm_refuse (need := 2) (room := 1) hm (by decide) (by decide) hmany (fun z => absurd rfl z) (fun _ z => by omega) (fun _ _ _ => br_t rfl ?_)
  refine sm_wider h2m hm hmany hw1 hw2 a2 b2 ?_
  subst hmany
  rw [e1, e2]
  refine ⟨i1, ?_⟩
  rw [nI_clamp (show m - 1 < 2 ^ 31 by omega), nI_clamp (show m - 2 < 2 ^ 31 by omega), hs1, hs2]
  have f63 : wp_M_two_63 post (nI sg) (nI (max w1 w2)) (bi_v (s1 && s2)) kb kw ks ka kq kc kr kt kd (nI m) tsz 0 := by
    unfold wp_M_two_63
    refine pk_le sg 16 (fun c => ?_) (fun c => ?_)
    · unfold wp_M_two_75
      rw [e2]
      refine sm_take_a (by omega) a1 a2 k1 km hw1 mO mU hA (fun ga g1 => ?_)
      rw [e1]
      refine sm_take_b (by omega) b1 b2 k1 km hw2 mP mV hB (fun gq g2 => ?_)
      exact br_t rfl (hq ga gq _ (by rw [if_pos c]) g1 g2)
    · unfold wp_M_two_75
      rw [e2]
      refine sm_take_a (by omega) a1 a2 k1 km hw1 mO mU hA (fun ga g1 => ?_)
      rw [e1]
      refine sm_take_b (by omega) b1 b2 k1 km hw2 mP mV hB (fun gq g2 => ?_)
      refine br_f (by decide) ?_
      rw [e2]
      refine sm_take_a (s := false) (by omega) a1 a2 k1 km hw1 mO mU hA (fun ga2 g3 => ?_)
      rw [e1]
      refine sm_take_b (s := false) (by omega) b1 b2 k1 km hw2 mP mV hB (fun gq2 g4 => ?_)
      exact hq ga2 gq2 false (by rw [if_neg (by omega)]) g3 g4
  cases s2
  · refine br_t rfl ?_
    rw [Bool.and_false] at f63
    exact f63
  · refine br_f (by decide) ⟨i2, ?_⟩
    cases s1
    · exact br_t rfl f63
    · exact br_f (by decide) f63
theorem lm_two170 {sg w : Nat} {s : Bool} {O U P V : Int64} (g1 : 5 ≤ sg) (g2 : sg ≤ 8) (hw : w ≤ 64) (hA : rw_R ka w O U) (hB : rw_R kq w P V) (hq : ∀ g : Nat → Int32, (∀ i, i < w → g i = lo_v sg (lb_t O i) (lb_t U i) (lb_t P i) (lb_t V i)) → wp_M_two_225 post (nI sg) (nI w) (bi_v s) kb kw ks ka kq g kr kt kd many tsz thr) :
    ∀ (k i : Nat) (g : Nat → Int32), i + k = w → (∀ j, j < i → g j = lo_v sg (lb_t O j) (lb_t U j) (lb_t P j) (lb_t V j)) → ∃ n, wp_M_two_170 post n (nI sg) (nI w) (bi_v s) (nI i) kb kw ks ka kq g kr kt kd many tsz thr := by
  have nb : ∀ a b c d : Bool, vp_nar .byte (lo_v sg a b c d).toInt8.toInt32 = lo_v sg a b c d := by
    rcases (show sg = 5 ∨ sg = 6 ∨ sg = 7 ∨ sg = 8 by omega) with rfl | rfl | rfl | rfl <;> decide +kernel
  intro k
  induction k with
  | zero =>
    intro i g hi h1
    refine ⟨0 + 1, ?_⟩
    rw [wp_M_two_170]
    exact br_t (nI_le (by omega) (by omega)) (hq g (fun j hj => h1 j (by omega)))
  | succ k ih =>
    intro i g hi h1
    have hin : vp_in (nI i) 64 := vp_in_nI (by omega) (by omega)
    obtain ⟨n, hn⟩ := ih (i + 1) (upd g i (lo_v sg (lb_t O i) (lb_t U i) (lb_t P i) (lb_t V i))) (by omega) (fun j hj => by
      by_cases d : j = i
      · subst d; exact pk_us
      · rw [pk_un d]; exact h1 j (by omega))
    refine ⟨n + 1, ?_⟩
    rw [wp_M_two_170]
    refine br_f (nI_ge (by omega) (by omega)) ⟨hin, hin, ?_⟩
    rw [nI_clamp (by omega), hA i (by omega), hB i (by omega)]
    refine sm_logic g1 g2 ⟨hin, ?_⟩
    rw [nI_1 i, nb]
    exact hn
end MT
