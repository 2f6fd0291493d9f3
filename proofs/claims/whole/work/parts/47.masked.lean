/-! the reference's logic and questions -/
def lo_v (sg : Nat) (a b c d : Bool) : Int32 :=
  if sg = 5 then (if (!a && !b) || (!c && !d) then 0 else if b || d then 3 else 1)
  else if sg = 6 then (if (a && !b) || (c && !d) then 1 else if b || d then 3 else 0)
  else if b || d then 3 else if sg = 7 then (if a != c then 1 else 0) else (if a != c then 0 else 1)
theorem sm_logic {sg : Nat} {a b c d : Bool} (g1 : 5 ≤ sg) (g2 : sg ≤ 8) {post : Int32 → Prop} (hq : post (lo_v sg a b c d)) : wp_M_logic post (nI sg) (rw_q a b) (rw_q c d) := by
  unfold wp_M_logic wp_M_logic_10 wp_M_logic_15 wp_M_logic_29 wp_M_logic_42 wp_M_logic_59 wp_M_logic_72 wp_M_logic_98
  rcases (show sg = 5 ∨ sg = 6 ∨ sg = 7 ∨ sg = 8 by omega) with rfl | rfl | rfl | rfl
  all_goals
    cases a <;> cases b <;> cases c <;> cases d
    all_goals
      repeat (first | refine br_t (by decide) ?_ | refine br_f (by decide) ?_)
      exact hq
theorem sm_opposite {post : Int32 → Prop} {a b : Bool} (hq : post (if b then 3 else if a then 0 else 1)) : wp_M_opposite post (rw_q a b) := by
  unfold wp_M_opposite wp_M_opposite_12
  cases a <;> cases b
  · exact br_t (by decide) hq
  · exact br_f (by decide) hq
  · exact br_t (by decide) hq
  · exact br_f (by decide) hq
theorem sm_oppT {post : Int32 → Prop} {t : Nat} (ht : t < 3) (hq : post (tr_m (t_not t))) : wp_M_opposite post (tr_m t) := by
  unfold wp_M_opposite wp_M_opposite_12
  rcases (show t = 0 ∨ t = 1 ∨ t = 2 by omega) with rfl | rfl | rfl
  · exact br_t (by decide) hq
  · exact br_t (by decide) hq
  · exact br_f (by decide) hq
/-- a truth as a bit of the reference -/
theorem tr_q {t : Nat} (ht : t < 3) : tr_m t = rw_q (decide (t ≠ 0)) (decide (t = 2)) := by
  rcases (show t = 0 ∨ t = 1 ∨ t = 2 by omega) with rfl | rfl | rfl <;> rfl
theorem sm_logicT {s t sg : Nat} (hs : s < 3) (ht : t < 3) (g : sg = 5 ∨ sg = 6) {post : Int32 → Prop} (hq : post (tr_m (if sg = 5 then t_and s t else t_not (t_and (t_not s) (t_not t))))) : wp_M_logic post (nI sg) (tr_m s) (tr_m t) := by
  rw [tr_q hs, tr_q ht]
  refine sm_logic (by omega) (by omega) ?_
  have e : lo_v sg (decide (s ≠ 0)) (decide (s = 2)) (decide (t ≠ 0)) (decide (t = 2)) = tr_m (if sg = 5 then t_and s t else t_not (t_and (t_not s) (t_not t))) := by
    rcases g with rfl | rfl <;> rcases (show s = 0 ∨ s = 1 ∨ s = 2 by omega) with rfl | rfl | rfl <;> rcases (show t = 0 ∨ t = 1 ∨ t = 2 by omega) with rfl | rfl | rfl <;> rfl
  rw [e]
  exact hq
theorem eq_bit {w : Nat} (h1 : 1 ≤ w) (h2 : w ≤ 64) {O U P V : Int64} (mO : lb_mk w O) (mP : lb_mk w P) : ((so_1 O U &&& so_0 w P V) ||| (so_0 w O U &&& so_1 P V)) = 0 ↔ ∀ i, i < w → ¬ (lb_t U i = false ∧ lb_t V i = false ∧ ¬ lb_t O i = lb_t P i) := by
  have m : lb_mk w ((so_1 O U &&& so_0 w P V) ||| (so_0 w O U &&& so_1 P V)) := by
    intro i hi
    rw [lb_or, lb_and, lb_and, so_0m h1 h2 _ _ i hi, so_0m h1 h2 _ _ i hi, Bool.and_false, Bool.false_and]; rfl
  rw [lb_zero m]
  constructor
  · intro z i hi
    have := z i hi
    rw [lb_or, lb_and, lb_and, so_1t h2 O U hi, so_1t h2 P V hi, so_0t h1 h2 O U hi, so_0t h1 h2 P V hi] at this
    revert this
    cases lb_t O i <;> cases lb_t U i <;> cases lb_t P i <;> cases lb_t V i <;> simp
  · intro z i hi
    have := z i hi
    rw [lb_or, lb_and, lb_and, so_1t h2 O U hi, so_1t h2 P V hi, so_0t h1 h2 O U hi, so_0t h1 h2 P V hi]
    revert this
    cases lb_t O i <;> cases lb_t U i <;> cases lb_t P i <;> cases lb_t V i <;> simp
theorem q_2 (a b : Bool) : (2 : Int32) ≤ rw_q a b ↔ b = true := by cases a <;> cases b <;> decide
section MQ
variable {kb kw ks ka kq kc kr kt kd : Nat → Int32} {many tsz thr : Int32}
variable {posi : Int32 → (Nat → Int32) → (Nat → Int32) → (Nat → Int32) → (Nat → Int32) → (Nat → Int32) → (Nat → Int32) → (Nat → Int32) → (Nat → Int32) → (Nat → Int32) → Int32 → Int32 → Int32 → Prop}
theorem lm_equal {w : Nat} {O U P V : Int64} (hw : w ≤ 64) (hA : rw_R ka w O U) (hB : rw_R kq w P V) (h0 : ∀ i, i < w → (lb_t U i = false ∧ lb_t V i = false ∧ ¬ lb_t O i = lb_t P i) → posi 0 kb kw ks ka kq kc kr kt kd many tsz thr)
    (hd : (∀ i, i < w → ¬ (lb_t U i = false ∧ lb_t V i = false ∧ ¬ lb_t O i = lb_t P i)) → wp_M_dark (fun r55 ka55 => ((¬ r55 = 0 → wp_M_equal_72 posi kb kw ks ka55 kq kc kr kt kd many tsz thr) ∧ (¬ ¬ r55 = 0 → wp_M_dark (fun r66 kq66 => ((r66 = 0 → wp_M_equal_77 posi (1 : Int32) kb kw ks ka55 kq66 kc kr kt kd many tsz thr) ∧ (¬ r66 = 0 → wp_M_equal_72 posi kb kw ks ka55 kq66 kc kr kt kd many tsz thr))) (nI w) kq))) (nI w) ka) :
    ∀ (k i : Nat), i + k = w → (∀ j, j < i → ¬ (lb_t U j = false ∧ lb_t V j = false ∧ ¬ lb_t O j = lb_t P j)) → wp_M_equal_2 posi (k + 1) (nI w) (nI i) kb kw ks ka kq kc kr kt kd many tsz thr := by
  intro k
  induction k with
  | zero =>
    intro i hi h1
    rw [wp_M_equal_2]
    exact br_t (nI_le (by omega) (by omega)) (hd (fun j hj => h1 j (by omega)))
  | succ k ih =>
    intro i hi h1
    have hin : vp_in (nI i) 64 := vp_in_nI (by omega) (by omega)
    have next : ¬ (lb_t U i = false ∧ lb_t V i = false ∧ ¬ lb_t O i = lb_t P i) → wp_M_equal_44 (wp_M_equal_2 posi (k + 1)) posi (nI w) (nI i) kb kw ks ka kq kc kr kt kd many tsz thr := by
      intro z
      unfold wp_M_equal_44
      rw [nI_1]
      refine ih (i + 1) (by omega) (fun j hj => ?_)
      by_cases d : j = i
      · rw [d]; exact z
      · exact h1 j (by omega)
    rw [wp_M_equal_2]
    refine br_f (nI_ge (by omega) (by omega)) ⟨hin, ?_⟩
    rw [nI_clamp (by omega), hA i (by omega), hB i (by omega), q_2, q_2, rw_qe]
    refine br_c (fun c => next (fun z => by rw [c] at z; exact absurd z.1 (by decide))) (fun c => ⟨hin, ?_⟩)
    refine br_c (fun d => next (fun z => by rw [d] at z; exact absurd z.2.1 (by decide))) (fun d => ⟨hin, hin, ?_⟩)
    have c : lb_t U i = false := by revert c; cases lb_t U i <;> simp
    have d : lb_t V i = false := by revert d; cases lb_t V i <;> simp
    refine br_c (fun e => next (fun z => z.2.2 e.1)) (fun e => h0 i (by omega) ⟨c, d, fun z => e ⟨z, by rw [c, d]⟩⟩)
theorem sm_equal {w : Nat} {O U P V : Int64} (h1 : 1 ≤ w) (hw : w ≤ 64) (mO : lb_mk w O) (mU : lb_mk w U) (mP : lb_mk w P) (mV : lb_mk w V) (hA : rw_R ka w O U) (hB : rw_R kq w P V) (hq : posi (tr_m (t_eq w O U P V)) kb kw ks ka kq kc kr kt kd many tsz thr) : wp_M_equal posi (nI w) kb kw ks ka kq kc kr kt kd many tsz thr := by
  unfold wp_M_equal
  refine ⟨w + 1, lm_equal hw hA hB (fun i hi z => ?_) (fun z => ?_) w 0 (by omega) (fun j hj => by omega)⟩
  · unfold t_eq at hq
    rw [if_neg (fun y => (eq_bit h1 hw mO mP).mp y i hi z)] at hq
    exact hq
  · unfold t_eq at hq
    rw [if_pos ((eq_bit h1 hw mO mP).mpr z)] at hq
    refine sm_dark hw hA mU (fun u => br_f (fun y => y rfl) ?_) (fun u => br_t (by decide) ?_)
    · refine sm_dark hw hB mV (fun v => br_t rfl ?_) (fun v => br_f (by decide) ?_)
      · rw [if_pos ((or_0 U V).mpr ⟨u, v⟩)] at hq; exact hq
      · rw [if_neg (fun y => v ((or_0 U V).mp y).2)] at hq; exact hq
    · rw [if_neg (fun y => u ((or_0 U V).mp y).1)] at hq; exact hq
theorem lm_same {w : Nat} {O U P V : Int64} (hw : w ≤ 64) (hA : rw_R ka w O U) (hB : rw_R kq w P V) (h0 : ∀ i, i < w → ¬ (lb_t O i = lb_t P i ∧ lb_t U i = lb_t V i) → posi 0 kb kw ks ka kq kc kr kt kd many tsz thr) (hd : (∀ i, i < w → lb_t O i = lb_t P i ∧ lb_t U i = lb_t V i) → posi 1 kb kw ks ka kq kc kr kt kd many tsz thr) :
    ∀ (k i : Nat), i + k = w → (∀ j, j < i → lb_t O j = lb_t P j ∧ lb_t U j = lb_t V j) → ∃ n, wp_M_same_2 posi n (nI w) (nI i) kb kw ks ka kq kc kr kt kd many tsz thr := by
  intro k
  induction k with
  | zero =>
    intro i hi h1
    refine ⟨0 + 1, ?_⟩
    rw [wp_M_same_2]
    exact br_t (nI_le (by omega) (by omega)) ⟨rfl, hd (fun j hj => h1 j (by omega))⟩
  | succ k ih =>
    intro i hi h1
    have hin : vp_in (nI i) 64 := vp_in_nI (by omega) (by omega)
    by_cases c : lb_t O i = lb_t P i ∧ lb_t U i = lb_t V i
    · obtain ⟨n, hn⟩ := ih (i + 1) (by omega) (fun j hj => by
        by_cases d : j = i
        · rw [d]; exact c
        · exact h1 j (by omega))
      refine ⟨n + 1, ?_⟩
      rw [wp_M_same_2]
      refine br_f (nI_ge (by omega) (by omega)) ⟨hin, hin, ?_⟩
      rw [nI_clamp (by omega), hA i (by omega), hB i (by omega), rw_qe, nI_1]
      exact br_t c hn
    · refine ⟨0 + 1, ?_⟩
      rw [wp_M_same_2]
      refine br_f (nI_ge (by omega) (by omega)) ⟨hin, hin, ?_⟩
      rw [nI_clamp (by omega), hA i (by omega), hB i (by omega), rw_qe]
      exact br_f c ⟨rfl, h0 i (by omega) c⟩
theorem sm_same {w : Nat} {O U P V : Int64} (hw : w ≤ 64) (mO : lb_mk w O) (mU : lb_mk w U) (mP : lb_mk w P) (mV : lb_mk w V) (hA : rw_R ka w O U) (hB : rw_R kq w P V) (hq : posi (nI (t_id O U P V)) kb kw ks ka kq kc kr kt kd many tsz thr) : wp_M_same posi (nI w) kb kw ks ka kq kc kr kt kd many tsz thr := by
  unfold wp_M_same
  refine lm_same hw hA hB (fun i hi z => ?_) (fun z => ?_) w 0 (by omega) (fun j hj => by omega)
  · unfold t_id at hq
    rw [if_neg (fun y => z (by rw [y.1, y.2]; exact ⟨rfl, rfl⟩))] at hq
    exact hq
  · unfold t_id at hq
    rw [if_pos ⟨lb_eqm mO mP (fun i hi => (z i hi).1), lb_eqm mU mV (fun i hi => (z i hi).2)⟩] at hq
    exact hq
end MQ
