/-! shift: class and reference alike -/
section XS
variable {fO fU : Nat → Int64} {fW fG fL : Nat → Int32} {len size : Int32}
variable {post : (Nat → Int64) → (Nat → Int64) → (Nat → Int32) → (Nat → Int32) → (Nat → Int32) → Int32 → Int32 → Prop}
/-- which bit comes to place i, if any: left and right moves by n, with the highest in front or without -/
def sh_b (left hf : Bool) (w n : Nat) (x : Int64) (i : Nat) : Bool :=
  if left then (decide (n ≤ i) && lb_t x (i - n)) else if i + n < w then lb_t x (i + n) else (hf && lb_t x (w - 1))
theorem n64 : lb_n (64 : Int64) = 64 := by decide +kernel
theorem by_i {x : Int64} (h : lb_n x < 64) : x.toInt32 = nI (lb_n x) := by
  rw [← lN_i, ← lb_of]
theorem sx_moveLeft {p w : Nat} {x : Int64} (hp : p < 64) (h1 : 1 ≤ w) (h2 : w ≤ 64) (hW : fW p = nI w) (hq : ∀ gO gU : Nat → Int64, lb_mk w (gO p) → lb_mk w (gU p) → (∀ i, i < w → lb_t (gO p) i = sh_b true false w (lb_n x) (fO p) i) → (∀ i, i < w → lb_t (gU p) i = sh_b true false w (lb_n x) (fU p) i) → (∀ r, r ≠ p → gO r = fO r) → (∀ r, r ≠ p → gU r = fU r) → post gO gU fW fG fL len size) : wp_X_moveLeft post (nI p) x fO fU fW fG fL len size := by
  have hin : vp_in (nI p) 64 := vp_in_nI hp (by decide)
  unfold wp_X_moveLeft wp_X_moveLeft_43
  refine sx_below (fun c => br_t (by decide) ⟨hin, hin, ?_⟩) (fun c => br_f (fun z => z rfl) ?_)
  · rw [n64] at c
    rw [nI_clamp (by omega), by_i c]
    refine sx_setBits hp hW h2 (fun gO gU a b e f => hq gO gU (by rw [a]; exact lb_mask h1 h2 _) (by rw [b]; exact lb_mask h1 h2 _) (fun i hi => ?_) (fun i hi => ?_) e f)
    · rw [a, lb_maskt h1 h2 _ hi, lb_shl c _ (by omega)]; rfl
    · rw [b, lb_maskt h1 h2 _ hi, lb_shl c _ (by omega)]; rfl
  · rw [n64] at c
    refine sx_setBits hp hW h2 (fun gO gU a b e f => hq gO gU (by rw [a]; exact lb_mask h1 h2 _) (by rw [b]; exact lb_mask h1 h2 _) (fun i hi => ?_) (fun i hi => ?_) e f)
    · rw [a, lb_maskt h1 h2 _ hi, lb_0]; unfold sh_b; rw [if_pos rfl, decide_eq_false (by omega), Bool.false_and]
    · rw [b, lb_maskt h1 h2 _ hi, lb_0]; unfold sh_b; rw [if_pos rfl, decide_eq_false (by omega), Bool.false_and]
theorem sh_hf {w n : Nat} (h1 : 1 ≤ w) (h2 : w ≤ 64) (x : Int64) {k i : Nat} (hk : k = if n < 64 then n else 63) (hi : i < w) : lb_t (lb_hf w x >>> ((nI k).toInt64 &&& 63)) i = sh_b false true w n x i := by
  have k64 : k < 64 := by rw [hk]; split <;> omega
  unfold sh_b
  rw [if_neg (by decide), Bool.true_and, lb_sshr k64 _ (by omega)]
  by_cases c : k + i < 64
  · rw [if_pos c, lb_hft h1 h2 x c]
    by_cases d : n < 64
    · rw [if_pos d] at hk
      subst hk
      by_cases e : k + i < w
      · rw [if_pos e, if_pos (by omega), Nat.add_comm]
      · rw [if_neg e, if_neg (by omega)]
    · rw [if_neg d] at hk
      subst hk
      rw [if_neg (show ¬ i + n < w by omega)]
      by_cases e : 63 + i < w
      · rw [if_pos e]; congr 1; omega
      · rw [if_neg e]
  · rw [if_neg c, lb_hft h1 h2 x (by omega)]
    have d : ¬ i + n < w := by
      by_cases d : n < 64
      · rw [if_pos d] at hk; omega
      · omega
    rw [if_neg d]
    by_cases e : 63 < w
    · rw [if_pos e]; congr 1; omega
    · rw [if_neg e]
theorem sx_moveRight {p w : Nat} {x : Int64} {hf : Bool} (hp : p < 64) (h1 : 1 ≤ w) (h2 : w ≤ 64) (hW : fW p = nI w) (mO : lb_mk w (fO p)) (mU : lb_mk w (fU p)) (hq : ∀ gO gU : Nat → Int64, lb_mk w (gO p) → lb_mk w (gU p) → (∀ i, i < w → lb_t (gO p) i = sh_b false hf w (lb_n x) (fO p) i) → (∀ i, i < w → lb_t (gU p) i = sh_b false hf w (lb_n x) (fU p) i) → (∀ r, r ≠ p → gO r = fO r) → (∀ r, r ≠ p → gU r = fU r) → post gO gU fW fG fL len size) : wp_X_moveRight post (nI p) x (bi_v hf) fO fU fW fG fL len size := by
  have hin : vp_in (nI p) 64 := vp_in_nI hp (by decide)
  have cl : (nI p).toNatClampNeg = p := nI_clamp (by omega)
  unfold wp_X_moveRight wp_X_moveRight_111
  cases hf
  · refine br_t rfl ?_
    have ur : ∀ y : Int64, lb_mk w y → lb_n x < 64 → ∀ i, i < w → lb_t (y.toUInt64 >>> ((nI (lb_n x)).toInt64.toUInt64 &&& Int64.toUInt64 63)).toInt64 i = sh_b false false w (lb_n x) y i := fun y hy c i hi => by
      rw [lb_ushr c]
      unfold sh_b
      rw [if_neg (by decide), Bool.false_and]
      by_cases d : i + lb_n x < w
      · rw [if_pos d, Nat.add_comm]
      · rw [if_neg d]; exact hy _ (by omega)
    refine sx_below (fun c => br_t (by decide) ⟨hin, hin, ?_⟩) (fun c => br_f (fun z => z rfl) ?_)
    · rw [n64] at c
      rw [cl, by_i c]
      refine sx_setBits hp hW h2 (fun gO gU a b e f => hq gO gU (by rw [a]; exact lb_mask h1 h2 _) (by rw [b]; exact lb_mask h1 h2 _) (fun i hi => ?_) (fun i hi => ?_) e f)
      · rw [a, lb_maskt h1 h2 _ hi]; exact ur _ mO c i hi
      · rw [b, lb_maskt h1 h2 _ hi]; exact ur _ mU c i hi
    · rw [n64] at c
      refine sx_setBits hp hW h2 (fun gO gU a b e f => hq gO gU (by rw [a]; exact lb_mask h1 h2 _) (by rw [b]; exact lb_mask h1 h2 _) (fun i hi => ?_) (fun i hi => ?_) e f)
      · rw [a, lb_maskt h1 h2 _ hi, lb_0]; unfold sh_b; rw [if_neg (by decide), if_neg (by omega), Bool.false_and]
      · rw [b, lb_maskt h1 h2 _ hi, lb_0]; unfold sh_b; rw [if_neg (by decide), if_neg (by omega), Bool.false_and]
  · refine br_f (by decide) ?_
    have fin : ∀ k : Nat, (k = if lb_n x < 64 then lb_n x else 63) → wp_X_moveRight_22 post (nI p) (nI k) fO fU fW fG fL len size := by
      intro k hk
      unfold wp_X_moveRight_22 wp_X_moveRight_111
      refine ⟨hin, ?_⟩
      rw [cl, hW]
      intro v hv
      subst hv
      refine ⟨hin, sx_hf h2 ⟨hin, sx_hf h2 ?_⟩⟩
      refine sx_setBits hp hW h2 (fun gO gU a b e f => hq gO gU (by rw [a]; exact lb_mask h1 h2 _) (by rw [b]; exact lb_mask h1 h2 _) (fun i hi => ?_) (fun i hi => ?_) e f)
      · rw [a, lb_maskt h1 h2 _ hi]; exact sh_hf h1 h2 _ hk hi
      · rw [b, lb_maskt h1 h2 _ hi]; exact sh_hf h1 h2 _ hk hi
    refine sx_below (fun c => br_f (by decide) ?_) (fun c => br_t rfl ?_)
    · rw [n64] at c
      rw [by_i c]
      exact fin _ (by rw [if_pos c])
    · rw [n64] at c
      exact fin 63 (by rw [if_neg c])
end XS
section MS
variable {kb kw ks ka kq kc kr kt kd : Nat → Int32} {many tsz thr : Int32}
variable {post : (Nat → Int32) → (Nat → Int32) → (Nat → Int32) → (Nat → Int32) → (Nat → Int32) → (Nat → Int32) → (Nat → Int32) → (Nat → Int32) → (Nat → Int32) → Int32 → Int32 → Int32 → Prop}
theorem lm_shift {how w N : Nat} {s : Bool} {O U : Int64} (hh : how ≤ 3) (h1 : 1 ≤ w) (hw : w ≤ 64) (hA : rw_R ka w O U)
    (hq : ∀ g : Nat → Int32, (∀ i, i < w → g i = rw_q (sh_b (decide (how % 2 = 0)) (decide (how = 3) && s) w N O i) (sh_b (decide (how % 2 = 0)) (decide (how = 3) && s) w N U i)) → wp_M_shift_216 post (nI w) (bi_v s) kb kw ks ka kq g kr kt kd many tsz thr) :
    ∀ (k i : Nat) (g : Nat → Int32), i + k = w → (∀ j, j < i → g j = rw_q (sh_b (decide (how % 2 = 0)) (decide (how = 3) && s) w N O j) (sh_b (decide (how % 2 = 0)) (decide (how = 3) && s) w N U j)) → ∃ n, wp_M_shift_133 post n (nI how) (nI w) (bi_v s) (nI (min N 64)) (nI i) kb kw ks ka kq g kr kt kd many tsz thr := by
  intro k
  induction k with
  | zero =>
    intro i g hi h
    refine ⟨0 + 1, ?_⟩
    rw [wp_M_shift_133]
    exact br_t (nI_le (by omega) (by omega)) (hq g (fun j hj => h j (by omega)))
  | succ k ih =>
    intro i g hi h
    obtain ⟨n, hn⟩ := ih (i + 1) (upd g i (rw_q (sh_b (decide (how % 2 = 0)) (decide (how = 3) && s) w N O i) (sh_b (decide (how % 2 = 0)) (decide (how = 3) && s) w N U i))) (by omega) (fun j hj => by
      by_cases d : j = i
      · subst d; exact pk_us
      · rw [pk_un d]; exact h j (by omega))
    have fin : ∀ y : Int32, vp_nar .byte y = rw_q (sh_b (decide (how % 2 = 0)) (decide (how = 3) && s) w N O i) (sh_b (decide (how % 2 = 0)) (decide (how = 3) && s) w N U i) → wp_M_shift_209 (wp_M_shift_133 post n) post (nI how) (nI w) (bi_v s) (nI (min N 64)) (nI i) y (nI i) kb kw ks ka kq g kr kt kd many tsz thr := by
      intro y hy
      unfold wp_M_shift_209
      refine ⟨vp_in_nI (by omega) (by decide), ?_⟩
      rw [nI_clamp (show i < 2 ^ 31 by omega), nI_1, hy]
      exact hn
    -- no bit comes there
    have out : (∀ x : Int64, sh_b (decide (how % 2 = 0)) (decide (how = 3) && s) w N x i = ((decide (how = 3) && s) && lb_t x (w - 1))) → wp_M_shift_187 (wp_M_shift_133 post n) post (nI how) (nI w) (bi_v s) (nI (min N 64)) (nI i) (nI i) kb kw ks ka kq g kr kt kd many tsz thr := by
      intro z
      rw [z, z] at fin
      unfold wp_M_shift_187 wp_M_shift_208
      by_cases c : how = 3
      · subst c
        refine br_f (fun y => y rfl) ?_
        cases s
        · exact br_t rfl (fin 0 rfl)
        · refine br_f (by decide) ?_
          rw [show nI w - (1 : Int32) = nI (w - 1) from pk_sub (b := 1) h1, nI_clamp (by omega), hA (w - 1) (by omega)]
          exact ⟨vp_in_nI (by omega) (by decide), fin _ (rw_nb _ _)⟩
      · refine br_t (fun y => c ((nI_eq (b := 3) (by omega) (by decide)).mp y)) ?_
        rw [decide_eq_false c, Bool.false_and, Bool.false_and, Bool.false_and] at fin
        exact fin 0 rfl
    have got : ∀ j, j < w → (∀ x : Int64, sh_b (decide (how % 2 = 0)) (decide (how = 3) && s) w N x i = lb_t x j) → wp_M_shift_158 (wp_M_shift_133 post n) post (nI how) (nI w) (bi_v s) (nI (min N 64)) (nI i) (nI j) kb kw ks ka kq g kr kt kd many tsz thr := by
      intro j hj z
      rw [z, z] at fin
      unfold wp_M_shift_158
      refine br_f (nI_pos (by omega)) (br_f (nI_ge hj (by omega)) ⟨vp_in_nI (by omega) (by decide), ?_⟩)
      rw [nI_clamp (by omega), hA j hj]
      exact fin _ (rw_nb _ _)
    refine ⟨n + 1, ?_⟩
    rw [wp_M_shift_133]
    refine br_f (nI_ge (by omega) (by omega)) ⟨by decide, ?_⟩
    rw [show (2 : Int32) = nI 2 from rfl, pk_rem (by omega) (by decide) (by decide)]
    have m64 : min N 64 ≤ 64 := Nat.min_le_right _ _
    by_cases c : how % 2 = 0
    · rw [c]
      refine br_f (fun y => y rfl) ?_
      by_cases d : N ≤ i
      · rw [Nat.min_eq_left (show N ≤ 64 by omega)] at got ⊢
        rw [pk_sub d]
        refine got (i - N) (by omega) (fun x => ?_)
        unfold sh_b
        rw [if_pos (decide_eq_true c), decide_eq_true d, Bool.true_and]
      · unfold wp_M_shift_158
        refine br_t (pk_sneg (by omega) (by omega)) (out (fun x => ?_))
        unfold sh_b
        rw [if_pos (decide_eq_true c), decide_eq_false d, Bool.false_and, decide_eq_false (by omega), Bool.false_and, Bool.false_and]
    · have c1 : how % 2 = 1 := by omega
      rw [c1]
      refine br_t (by decide) ?_
      rw [nI_add]
      by_cases d : i + N < w
      · rw [Nat.min_eq_left (show N ≤ 64 by omega)] at got ⊢
        refine got (i + N) d (fun x => ?_)
        unfold sh_b
        rw [if_neg (by rw [decide_eq_false c]; decide), if_pos d]
      · unfold wp_M_shift_158
        refine br_f (nI_pos (by omega)) (br_t (nI_le (by omega) (by omega)) (out (fun x => ?_)))
        unfold sh_b
        rw [if_neg (by rw [decide_eq_false c]; decide), if_neg d]
end MS
section OPSh
variable {fO fU : Nat → Int64} {fW fG fL kb kw ks ka kq kc kr kt kd : Nat → Int32} {len size many tsz thr : Int32} {fo : Nat → Int64}
theorem op_shift {a : Int32} (R : re_L fO fU fW fG fL len size kb kw ks kt many tsz) :
    wp_L_shift (fun r gO gU gW gG gL len' size' => wp_M_shift (fun lb lw ls _ _ _ _ lt _ many' tsz' thr' => thr' = r ∧ re_L gO gU gW gG gL len' size' lb lw ls lt many' tsz') a kb kw ks ka kq kc kr kt kd many tsz thr) a fO fU fW fG fL len size := by
  have R0 := R
  obtain ⟨m, t, hm, ht, hsz, hmany, hlen, htsz, hP, hT⟩ := R
  unfold wp_L_shift wp_X_shift
  by_cases c : a < 0 ∨ ¬ a ≤ 3
  · refine Or.inr ⟨sx_rt c, Or.inl ⟨rfl, ?_⟩⟩
    have f : wp_M_shift_10 (fun lb lw ls _ _ _ _ lt _ many' tsz' thr' => thr' = (1 : Int32) ∧ re_L fO fU fW fG fL len size lb lw ls lt many' tsz') a kb kw ks ka kq kc kr kt kd many tsz thr := by
      unfold wp_M_shift_10 wp_M_shift_15
      exact sm_refuse (need := 2) (room := 1) hm (by decide) (by decide) hmany (fun _ => br_f (by decide) ⟨rfl, R0⟩) (fun z => absurd z (by decide)) (fun z => absurd z (by decide))
    unfold wp_M_shift
    by_cases d : a < 0
    · exact br_t d f
    · exact br_f d (br_f (c.resolve_left d) f)
  · have c1 : ¬ a < 0 := fun z => c (Or.inl z)
    have c2 : a ≤ 3 := Classical.byContradiction (fun z => c (Or.inr z))
    obtain ⟨how, -, hh, rfl⟩ := in_rg (lo := 0) (hi := 3) (by decide) (by decide) c1 c2
    refine Or.inl (sx_rk c1 c2 ?_)
    have inM : ∀ {Q : (Nat → Int32) → (Nat → Int32) → (Nat → Int32) → (Nat → Int32) → (Nat → Int32) → (Nat → Int32) → (Nat → Int32) → (Nat → Int32) → (Nat → Int32) → Int32 → Int32 → Int32 → Prop}, wp_M_shift_15 Q (nI how) 0 kb kw ks ka kq kc kr kt kd many tsz thr → wp_M_shift Q (nI how) kb kw ks ka kq kc kr kt kd many tsz thr := fun h => by
      unfold wp_M_shift
      exact br_f c1 (br_t c2 h)
    by_cases few : m < 2
    · refine Or.inr ⟨sx_vt (need := 2) (by decide) hm few hsz, Or.inr ⟨rfl, inM ?_⟩⟩
      unfold wp_M_shift_15
      exact sm_refuse (need := 2) (room := 1) hm (by decide) (by decide) hmany (fun z => absurd rfl z) (fun _ _ => br_f (by decide) ⟨rfl, R0⟩) (fun _ z _ => by omega)
    · refine Or.inl (sx_vk (need := 2) (by decide) hm (by omega) hsz ?_)
      have e1 : nI m - (1 : Int32) = nI (m - 1) := pk_sub (b := 1) (by omega)
      have e2 : nI m - (2 : Int32) = nI (m - 2) := pk_sub (b := 2) (by omega)
      have i1 : vp_in (nI (m - 1)) 64 := vp_in_nI (by omega) (by decide)
      have i2 : vp_in (nI (m - 2)) 64 := vp_in_nI (by omega) (by decide)
      have cl1 : (nI (m - 1)).toNatClampNeg = m - 1 := nI_clamp (by omega)
      have cl2 : (nI (m - 2)).toNatClampNeg = m - 2 := nI_clamp (by omega)
      obtain ⟨w1, s1, a1, a2, a3, a4, a5, a6, a7, a8, a9⟩ := hP (m - 2) (by omega)
      obtain ⟨w2, s2, b1, b2, b3, b4, b5, b6, b7, b8, b9⟩ := hP (m - 1) (by omega)
      have N2 := lb_mkn.mp b7
      -- the reference, up to its row c
      have inN : ∀ {Q : (Nat → Int32) → (Nat → Int32) → (Nat → Int32) → (Nat → Int32) → (Nat → Int32) → (Nat → Int32) → (Nat → Int32) → (Nat → Int32) → (Nat → Int32) → Int32 → Int32 → Int32 → Prop}, (∀ ga gq g : Nat → Int32, (¬ fU (m - 1) = 0 → ∀ i, i < w1 → g i = nI 3) → (fU (m - 1) = 0 → ∀ i, i < w1 → g i = rw_q (sh_b (decide (how % 2 = 0)) (decide (how = 3) && s1) w1 (lb_n (fO (m - 1))) (fO (m - 2)) i) (sh_b (decide (how % 2 = 0)) (decide (how = 3) && s1) w1 (lb_n (fO (m - 1))) (fU (m - 2)) i)) → wp_M_shift_216 Q (nI w1) (bi_v s1) kb kw ks ga gq g kr kt kd many tsz 0) → wp_M_shift Q (nI how) kb kw ks ka kq kc kr kt kd many tsz thr := fun {Q} k => inM (by
        unfold wp_M_shift_15
        refine sm_refuse (need := 2) (room := 1) hm (by decide) (by decide) hmany (fun z => absurd rfl z) (fun _ z => by omega) (fun _ _ _ => br_t rfl ?_)
        intro v1 hv1
        rw [hmany, e2] at hv1
        subst hv1
        refine ⟨i2, ?_⟩
        rw [cl2, a4, a6]
        intro v2 hv2
        subst hv2
        refine ⟨i2, ?_⟩
        intro v3 hv3
        subst hv3
        rw [hmany, e1]
        refine ⟨i1, ?_⟩
        rw [cl1, b4]
        refine sm_take_b (s := false) (by omega) b1 b2 b1 b2 b4 b7 b8 b9 (fun gq r => ?_)
        rw [xt_same b1 b2 b7, xt_same b1 b2 b8] at r
        refine sm_take_a (s := false) (by omega) a1 a2 a1 a2 a4 a7 a8 a9 (fun ga r2 => ?_)
        rw [xt_same a1 a2 a7, xt_same a1 a2 a8] at r2
        rw [e1]
        refine ⟨i1, ?_⟩
        rw [cl1, b4]
        refine sm_dark b2 r b8 (fun u => br_t rfl ?_) (fun u => br_f (by decide) ?_)
        · have bn : rw_N (fun i => kb (64 * (m - 1) + i)) w2 (lb_n (fO (m - 1))) := rw_RN (by rw [u] at b9; exact b9)
          refine sm_amount (by omega) b1 b2 b4 N2 bn ?_
          rw [← hmany]
          exact lm_shift hh a1 a2 r2 (fun g hg => k ga gq g (fun z => absurd u z) (fun _ => hg)) w1 0 kc (by omega) (fun j hj => by omega)
        · rw [← hmany]
          exact sm_fill (v := 3) a2 (by decide) (fun g hg => k ga gq g (fun _ => hg) (fun z => absurd z u)))
      have fin : ∀ (hO hU : Nat → Int64), lb_mk w1 (hO (m - 2)) → lb_mk w1 (hU (m - 2)) → (∀ r, r ≠ m - 2 → hO r = fO r) → (∀ r, r ≠ m - 2 → hU r = fU r) → (∀ g : Nat → Int32, (¬ fU (m - 1) = 0 → ∀ i, i < w1 → g i = nI 3) → (fU (m - 1) = 0 → ∀ i, i < w1 → g i = rw_q (sh_b (decide (how % 2 = 0)) (decide (how = 3) && s1) w1 (lb_n (fO (m - 1))) (fO (m - 2)) i) (sh_b (decide (how % 2 = 0)) (decide (how = 3) && s1) w1 (lb_n (fO (m - 1))) (fU (m - 2)) i)) → rw_R g w1 (hO (m - 2)) (hU (m - 2))) →
          wp_M_shift (fun lb lw ls _ _ _ _ lt _ many' tsz' thr' => thr' = (0 : Int32) ∧ re_L hO hU fW fG fL len (nI m - 1) lb lw ls lt many' tsz') (nI how) kb kw ks ka kq kc kr kt kd many tsz thr := by
        intro hO hU q1 q2 q3 q4 q5
        refine inN (fun ga gq g h1 h2 => ?_)
        have hr := q5 g h1 h2
        unfold wp_M_shift_216
        rw [hmany, e2]
        refine sm_give_c (m := m - 2) (by omega) a2 rfl (rw_Rn hr) (fun lb lw ls r1 r2 r3 r4 r5 r6 => ⟨rfl, ?_⟩)
        exact re_fin (n := m - 2) (by omega) ht (re_less hP (by omega)) hT hlen htsz (by rw [e1]; congr 1; omega) rfl (fun q hq => q3 q (by omega)) (fun q hq => q4 q (by omega)) (fun q hq => rfl) (fun q hq => rfl) r2 (fun q hq => r4 q (by omega)) (fun q hq => r6 q (by omega)) a1 a2 a3 r3 a5 r5 q1 q2 (rw_Rc hr r1)
      intro v1 hv1 v2 hv2
      rw [hsz] at hv1 hv2 ⊢
      rw [e2] at hv1
      rw [e1] at hv2
      subst hv1
      subst hv2
      refine ⟨i1, ?_⟩
      rw [cl1, lc_0]
      have right : (how = 1 ∨ how = 3) → fU (m - 1) = 0 → wp_X_shift_54 (fun gO gU gW gG gL len' size' => wp_M_shift (fun lb lw ls _ _ _ _ lt _ many' tsz' thr' => thr' = (0 : Int32) ∧ re_L gO gU gW gG gL len' size' lb lw ls lt many' tsz') (nI how) kb kw ks ka kq kc kr kt kd many tsz thr) (fun (E9 : String) gO gU gW gG gL len' size' => (E9 = "java/lang/IllegalArgumentException" ∧ wp_M_shift (fun lb lw ls _ _ _ _ lt _ many' tsz' thr' => thr' = (1 : Int32) ∧ re_L gO gU gW gG gL len' size' lb lw ls lt many' tsz') (nI how) kb kw ks ka kq kc kr kt kd many tsz thr) ∨ (E9 = "java/lang/IllegalStateException" ∧ wp_M_shift (fun lb lw ls _ _ _ _ lt _ many' tsz' thr' => thr' = (2 : Int32) ∧ re_L gO gU gW gG gL len' size' lb lw ls lt many' tsz') (nI how) kb kw ks ka kq kc kr kt kd many tsz thr)) (nI how) (nI (m - 2)) (nI (m - 1)) fO fU fW fG fL len (nI m) := by
        intro h13 u
        have mv : ∀ hf : Bool, hf = (decide (how = 3) && s1) → wp_X_moveRight (fun gO gU gW gG gL len' size' => wp_X_shift_98 (fun gO gU gW gG gL len' size' => wp_M_shift (fun lb lw ls _ _ _ _ lt _ many' tsz' thr' => thr' = (0 : Int32) ∧ re_L gO gU gW gG gL len' size' lb lw ls lt many' tsz') (nI how) kb kw ks ka kq kc kr kt kd many tsz thr) (fun (E9 : String) gO gU gW gG gL len' size' => (E9 = "java/lang/IllegalArgumentException" ∧ wp_M_shift (fun lb lw ls _ _ _ _ lt _ many' tsz' thr' => thr' = (1 : Int32) ∧ re_L gO gU gW gG gL len' size' lb lw ls lt many' tsz') (nI how) kb kw ks ka kq kc kr kt kd many tsz thr) ∨ (E9 = "java/lang/IllegalStateException" ∧ wp_M_shift (fun lb lw ls _ _ _ _ lt _ many' tsz' thr' => thr' = (2 : Int32) ∧ re_L gO gU gW gG gL len' size' lb lw ls lt many' tsz') (nI how) kb kw ks ka kq kc kr kt kd many tsz thr)) gO gU gW gG gL len' size') (nI (m - 2)) (fO (m - 1)) (bi_v hf) fO fU fW fG fL len (nI m) := by
          intro hf ehf
          refine sx_moveRight (by omega) a1 a2 a3 a7 a8 (fun hO hU q1 q2 q3 q4 q5 q6 => ?_)
          unfold wp_X_shift_98
          refine fin hO hU q1 q2 q5 q6 (fun g _ hg i hi => ?_)
          rw [hg u i hi, q3 i hi, q4 i hi, ← ehf, decide_eq_false (by rcases h13 with rfl | rfl <;> decide)]
        unfold wp_X_shift_54
        refine ⟨i1, ?_⟩
        rw [cl1, cl2, a5]
        have e3 : nI how = (3 : Int32) ↔ how = 3 := nI_eq (b := 3) (by omega) (by decide)
        rw [e3]
        refine br_c (fun z => ?_) (fun z => ⟨i2, ?_⟩)
        · unfold wp_X_shift_80 wp_X_shift_81
          exact mv false (by rw [decide_eq_false z, Bool.false_and])
        · have z := Classical.byContradiction z
          cases s1
          · refine br_t rfl ?_
            unfold wp_X_shift_80 wp_X_shift_81
            exact mv false (by rw [Bool.and_false])
          · refine br_f (by decide) ?_
            unfold wp_X_shift_81
            exact mv true (by rw [decide_eq_true z]; rfl)
      have e1' : nI how = (1 : Int32) ↔ how = 1 := nI_eq (b := 1) (by omega) (by decide)
      have e3' : nI how = (3 : Int32) ↔ how = 3 := nI_eq (b := 3) (by omega) (by decide)
      rw [e1', e3']
      refine br_c (fun u => br_c (fun z => right (Or.inl z) u) (fun z => br_c (fun y => ⟨i1, ?_⟩) (fun y => right (Or.inr (Classical.byContradiction y)) u))) (fun u => ?_)
      · refine sx_moveLeft (by omega) a1 a2 a3 (fun hO hU q1 q2 q3 q4 q5 q6 => ?_)
        unfold wp_X_shift_98
        refine fin hO hU q1 q2 q5 q6 (fun g _ hg i hi => ?_)
        rw [hg u i hi, q3 i hi, q4 i hi, decide_eq_true (show how % 2 = 0 by omega), decide_eq_false y, Bool.false_and]
      · refine sx_fillWithX (by omega) a3 a1 a2 (fun hO hU q1 q2 q3 q4 => ?_)
        unfold wp_X_shift_98
        refine fin hO hU (by rw [q1]; exact lb_lowm a1 a2) (by rw [q2]; exact lb_lowm a1 a2) q3 q4 (fun g hg _ => ?_)
        rw [q1, q2]
        exact rw_x a1 a2 (hg u)
end OPSh
