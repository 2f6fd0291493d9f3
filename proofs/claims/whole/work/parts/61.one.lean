/-! one: class and reference alike -/
def bt_v (a b : Bool) : Nat := if b then 2 else if a then 1 else 0
def cm_v (k a b : Nat) : Nat := if k = 5 then t_and a b else if k = 6 then t_not (t_and (t_not a) (t_not b)) else if a = 2 then 2 else if b = 2 then 2 else if a = b then 0 else 1
def fd_v (k : Nat) (O U : Int64) : Nat → Nat
  | 0 => bt_v (lb_t O 0) (lb_t U 0)
  | i + 1 => cm_v k (fd_v k O U i) (bt_v (lb_t O (i + 1)) (lb_t U (i + 1)))
theorem bt_l (a b : Bool) : bt_v a b < 3 := by cases a <;> cases b <;> decide
theorem fd_l (k : Nat) (O U : Int64) : ∀ i, fd_v k O U i < 3 := by
  intro i
  cases i with
  | zero => exact bt_l _ _
  | succ i =>
    show cm_v k _ _ < 3
    unfold cm_v
    split
    · exact t_andl
    · split
      · exact t_notl t_andl
      · split
        · decide
        · split
          · decide
          · split <;> decide
theorem lo_cm {k : Nat} (hk : k = 5 ∨ k = 6 ∨ k = 7) : ∀ a b c d : Bool, lo_v k a b c d = tr_m (cm_v k (bt_v a b) (bt_v c d)) := by
  rcases hk with rfl | rfl | rfl <;> decide +kernel
theorem tr_bt {t : Nat} (ht : t < 3) : tr_m t = rw_q (decide (t ≠ 0)) (decide (t = 2)) ∧ bt_v (decide (t ≠ 0)) (decide (t = 2)) = t := by
  rcases (show t = 0 ∨ t = 1 ∨ t = 2 by omega) with rfl | rfl | rfl <;> exact ⟨rfl, rfl⟩
theorem fd_5 (O U : Int64) : ∀ i, (fd_v 5 O U i = 0 ∧ ∃ j, j ≤ i ∧ lb_t O j = false ∧ lb_t U j = false) ∨ (fd_v 5 O U i = 2 ∧ (∀ j, j ≤ i → ¬ (lb_t O j = false ∧ lb_t U j = false)) ∧ ∃ j, j ≤ i ∧ lb_t U j = true) ∨ (fd_v 5 O U i = 1 ∧ ∀ j, j ≤ i → lb_t O j = true ∧ lb_t U j = false) := by
  intro i
  induction i with
  | zero =>
    unfold fd_v
    cases ho : lb_t O 0 <;> cases hu : lb_t U 0
    · exact Or.inl ⟨rfl, 0, Nat.le_refl _, ho, hu⟩
    · exact Or.inr (Or.inl ⟨rfl, fun j hj => by rw [Nat.le_zero.mp hj, ho, hu]; decide, 0, Nat.le_refl _, hu⟩)
    · exact Or.inr (Or.inr ⟨rfl, fun j hj => by rw [Nat.le_zero.mp hj]; exact ⟨ho, hu⟩⟩)
    · exact Or.inr (Or.inl ⟨rfl, fun j hj => by rw [Nat.le_zero.mp hj, ho, hu]; decide, 0, Nat.le_refl _, hu⟩)
  | succ i ih =>
    show (cm_v 5 (fd_v 5 O U i) _ = 0 ∧ _) ∨ (cm_v 5 (fd_v 5 O U i) _ = 2 ∧ _) ∨ (cm_v 5 (fd_v 5 O U i) _ = 1 ∧ _)
    have sp : ∀ {q : Nat → Prop}, (∀ j, j ≤ i → q j) → q (i + 1) → ∀ j, j ≤ i + 1 → q j := fun {q} h1 h2 j hj => by
      by_cases d : j = i + 1
      · rw [d]; exact h2
      · exact h1 j (by omega)
    rcases ih with ⟨e, j, h1, h2, h3⟩ | ⟨e, h1, j, h2, h3⟩ | ⟨e, h1⟩
    · rw [e]
      exact Or.inl ⟨rfl, j, by omega, h2, h3⟩
    · rw [e]
      cases ho : lb_t O (i + 1) <;> cases hu : lb_t U (i + 1)
      · exact Or.inl ⟨rfl, i + 1, Nat.le_refl _, ho, hu⟩
      · exact Or.inr (Or.inl ⟨rfl, sp h1 (by rw [ho, hu]; decide), j, by omega, h3⟩)
      · exact Or.inr (Or.inl ⟨rfl, sp h1 (by rw [ho, hu]; decide), j, by omega, h3⟩)
      · exact Or.inr (Or.inl ⟨rfl, sp h1 (by rw [ho, hu]; decide), j, by omega, h3⟩)
    · rw [e]
      cases ho : lb_t O (i + 1) <;> cases hu : lb_t U (i + 1)
      · exact Or.inl ⟨rfl, i + 1, Nat.le_refl _, ho, hu⟩
      · exact Or.inr (Or.inl ⟨rfl, sp (fun j hj z => by rw [(h1 j hj).1] at z; exact absurd z.1 (by decide)) (by rw [ho, hu]; decide), i + 1, Nat.le_refl _, hu⟩)
      · exact Or.inr (Or.inr ⟨rfl, sp h1 ⟨ho, hu⟩⟩)
      · exact Or.inr (Or.inl ⟨rfl, sp (fun j hj z => by rw [(h1 j hj).1] at z; exact absurd z.1 (by decide)) (by rw [ho, hu]; decide), i + 1, Nat.le_refl _, hu⟩)
theorem fd_6 (O U : Int64) : ∀ i, (fd_v 6 O U i = 1 ∧ ∃ j, j ≤ i ∧ lb_t O j = true ∧ lb_t U j = false) ∨ (fd_v 6 O U i = 2 ∧ (∀ j, j ≤ i → ¬ (lb_t O j = true ∧ lb_t U j = false)) ∧ ∃ j, j ≤ i ∧ lb_t U j = true) ∨ (fd_v 6 O U i = 0 ∧ ∀ j, j ≤ i → lb_t O j = false ∧ lb_t U j = false) := by
  intro i
  induction i with
  | zero =>
    unfold fd_v
    cases ho : lb_t O 0 <;> cases hu : lb_t U 0
    · exact Or.inr (Or.inr ⟨rfl, fun j hj => by rw [Nat.le_zero.mp hj]; exact ⟨ho, hu⟩⟩)
    · exact Or.inr (Or.inl ⟨rfl, fun j hj => by rw [Nat.le_zero.mp hj, ho, hu]; decide, 0, Nat.le_refl _, hu⟩)
    · exact Or.inl ⟨rfl, 0, Nat.le_refl _, ho, hu⟩
    · exact Or.inr (Or.inl ⟨rfl, fun j hj => by rw [Nat.le_zero.mp hj, ho, hu]; decide, 0, Nat.le_refl _, hu⟩)
  | succ i ih =>
    show (cm_v 6 (fd_v 6 O U i) _ = 1 ∧ _) ∨ (cm_v 6 (fd_v 6 O U i) _ = 2 ∧ _) ∨ (cm_v 6 (fd_v 6 O U i) _ = 0 ∧ _)
    have sp : ∀ {q : Nat → Prop}, (∀ j, j ≤ i → q j) → q (i + 1) → ∀ j, j ≤ i + 1 → q j := fun {q} h1 h2 j hj => by
      by_cases d : j = i + 1
      · rw [d]; exact h2
      · exact h1 j (by omega)
    rcases ih with ⟨e, j, h1, h2, h3⟩ | ⟨e, h1, j, h2, h3⟩ | ⟨e, h1⟩
    · rw [e]
      refine Or.inl ⟨?_, j, by omega, h2, h3⟩
      cases lb_t O (i + 1) <;> cases lb_t U (i + 1) <;> rfl
    · rw [e]
      cases ho : lb_t O (i + 1) <;> cases hu : lb_t U (i + 1)
      · exact Or.inr (Or.inl ⟨rfl, sp h1 (by rw [ho, hu]; decide), j, by omega, h3⟩)
      · exact Or.inr (Or.inl ⟨rfl, sp h1 (by rw [ho, hu]; decide), j, by omega, h3⟩)
      · exact Or.inl ⟨rfl, i + 1, Nat.le_refl _, ho, hu⟩
      · exact Or.inr (Or.inl ⟨rfl, sp h1 (by rw [ho, hu]; decide), j, by omega, h3⟩)
    · rw [e]
      cases ho : lb_t O (i + 1) <;> cases hu : lb_t U (i + 1)
      · exact Or.inr (Or.inr ⟨rfl, sp h1 ⟨ho, hu⟩⟩)
      · exact Or.inr (Or.inl ⟨rfl, sp (fun j hj z => by rw [(h1 j hj).1] at z; exact absurd z.1 (by decide)) (by rw [ho, hu]; decide), i + 1, Nat.le_refl _, hu⟩)
      · exact Or.inl ⟨rfl, i + 1, Nat.le_refl _, ho, hu⟩
      · exact Or.inr (Or.inl ⟨rfl, sp (fun j hj z => by rw [(h1 j hj).1] at z; exact absurd z.1 (by decide)) (by rw [ho, hu]; decide), i + 1, Nat.le_refl _, hu⟩)
theorem fd_7 (O U : Int64) : ∀ i, (fd_v 7 O U i = 2 ∧ ∃ j, j ≤ i ∧ lb_t U j = true) ∨ (fd_v 7 O U i = pc_s (i + 1) (lb_n O) % 2 ∧ ∀ j, j ≤ i → lb_t U j = false) := by
  intro i
  have bit : ∀ j, lb_n O / 2 ^ j % 2 = (lb_t O j).toNat := fun j => bn_t _ _
  induction i with
  | zero =>
    have e : pc_s (0 + 1) (lb_n O) = (lb_t O 0).toNat := by rw [pc_up, bit]; exact Nat.zero_add _
    rw [e]
    unfold fd_v
    cases ho : lb_t O 0 <;> cases hu : lb_t U 0
    · exact Or.inr ⟨rfl, fun j hj => by rw [Nat.le_zero.mp hj]; exact hu⟩
    · exact Or.inl ⟨rfl, 0, Nat.le_refl _, hu⟩
    · exact Or.inr ⟨rfl, fun j hj => by rw [Nat.le_zero.mp hj]; exact hu⟩
    · exact Or.inl ⟨rfl, 0, Nat.le_refl _, hu⟩
  | succ i ih =>
    have e : pc_s (i + 1 + 1) (lb_n O) = pc_s (i + 1) (lb_n O) + (lb_t O (i + 1)).toNat := by rw [pc_up, bit]
    rw [e]
    show (cm_v 7 (fd_v 7 O U i) _ = 2 ∧ _) ∨ (cm_v 7 (fd_v 7 O U i) _ = _ ∧ _)
    rcases ih with ⟨h0, j, h1, h2⟩ | ⟨h0, h1⟩
    · rw [h0]
      exact Or.inl ⟨rfl, j, by omega, h2⟩
    · rw [h0]
      cases hu : lb_t U (i + 1)
      · refine Or.inr ⟨?_, fun j hj => ?_⟩
        · rcases (show pc_s (i + 1) (lb_n O) % 2 = 0 ∨ pc_s (i + 1) (lb_n O) % 2 = 1 by omega) with z | z
          · rw [z, Nat.add_mod, z]; cases lb_t O (i + 1) <;> rfl
          · rw [z, Nat.add_mod, z]; cases lb_t O (i + 1) <;> rfl
        · by_cases d : j = i + 1
          · rw [d]; exact hu
          · exact h1 j (by omega)
      · refine Or.inl ⟨?_, i + 1, Nat.le_refl _, hu⟩
        rcases (show pc_s (i + 1) (lb_n O) % 2 = 0 ∨ pc_s (i + 1) (lb_n O) % 2 = 1 by omega) with z | z
        · rw [z]; cases lb_t O (i + 1) <;> rfl
        · rw [z]; cases lb_t O (i + 1) <;> rfl
theorem fd_all {w : Nat} (h1 : 1 ≤ w) (h2 : w ≤ 64) {O U : Int64} (mU : lb_mk w U) : fd_v 5 O U (w - 1) = t_all w O U := by
  have z0 := lb_zero (so_0m h1 h2 O U)
  have zu := lb_zero mU
  unfold t_all
  rcases fd_5 O U (w - 1) with ⟨e, j, h3, h4, h5⟩ | ⟨e, h3, j, h4, h5⟩ | ⟨e, h3⟩
  · rw [e, if_neg]
    intro z
    have := z0.mp z j (by omega)
    rw [so_0t h1 h2 O U (by omega), h4, h5] at this
    exact absurd this (by decide)
  · rw [e, if_pos, if_neg]
    · intro z
      have := zu.mp z j (by omega)
      rw [h5] at this
      exact absurd this (by decide)
    · refine z0.mpr (fun i hi => ?_)
      have := h3 i (by omega)
      rw [so_0t h1 h2 O U hi]
      revert this
      cases lb_t O i <;> cases lb_t U i <;> simp
  · rw [e, if_pos, if_pos]
    · exact zu.mpr (fun i hi => (h3 i (by omega)).2)
    · refine z0.mpr (fun i hi => ?_)
      rw [so_0t h1 h2 O U hi, (h3 i (by omega)).1]; rfl
theorem fd_any {w : Nat} (h1 : 1 ≤ w) (h2 : w ≤ 64) {O U : Int64} (mO : lb_mk w O) (mU : lb_mk w U) : fd_v 6 O U (w - 1) = t_any O U := by
  have z0 := lb_zero (so_1m U mO)
  have zu := lb_zero mU
  unfold t_any
  rcases fd_6 O U (w - 1) with ⟨e, j, h3, h4, h5⟩ | ⟨e, h3, j, h4, h5⟩ | ⟨e, h3⟩
  · rw [e, if_neg]
    intro z
    have := z0.mp z j (by omega)
    rw [so_1t h2 O U (by omega), h4, h5] at this
    exact absurd this (by decide)
  · rw [e, if_pos, if_neg]
    · intro z
      have := zu.mp z j (by omega)
      rw [h5] at this
      exact absurd this (by decide)
    · refine z0.mpr (fun i hi => ?_)
      have := h3 i (by omega)
      rw [so_1t h2 O U hi]
      revert this
      cases lb_t O i <;> cases lb_t U i <;> simp
  · rw [e, if_pos, if_pos]
    · exact zu.mpr (fun i hi => (h3 i (by omega)).2)
    · refine z0.mpr (fun i hi => ?_)
      rw [so_1t h2 O U hi, (h3 i (by omega)).1]; rfl
theorem fd_odd {w : Nat} (h1 : 1 ≤ w) (h2 : w ≤ 64) {O U : Int64} (mO : lb_mk w O) (mU : lb_mk w U) : fd_v 7 O U (w - 1) = t_odd O U := by
  have zu := lb_zero mU
  have pe := pc_end (lb_mkn.mp mO) (64 - w)
  rw [show w + (64 - w) = 64 by omega] at pe
  unfold t_odd
  rcases fd_7 O U (w - 1) with ⟨e, j, h3, h4⟩ | ⟨e, h3⟩
  · rw [e, if_neg]
    intro z
    have := zu.mp z j (by omega)
    rw [h4] at this
    exact absurd this (by decide)
  · rw [e, if_pos (zu.mpr (fun i hi => h3 i (by omega))), pe, show w - 1 + 1 = w by omega]
section MOn
variable {kb kw ks ka kq kc kr kt kd : Nat → Int32} {many tsz thr : Int32}
variable {post : (Nat → Int32) → (Nat → Int32) → (Nat → Int32) → (Nat → Int32) → (Nat → Int32) → (Nat → Int32) → (Nat → Int32) → (Nat → Int32) → (Nat → Int32) → Int32 → Int32 → Int32 → Prop}
/-- which of the three signs a reduction folds with -/
def kd_v (sg : Nat) : Nat := if sg < 5 then 5 else if sg < 7 then 6 else 7
theorem sm_one248 {sg t : Nat} {v : Int32} (hsg : sg ≤ 8) (ht : t < 3) (hv : ∃ a b : Bool, v = rw_q a b ∧ bt_v a b = t) (hq : wp_M_one_281 post (tr_m (if sg = 4 ∨ sg = 6 ∨ sg = 8 then t_not t else t)) kb kw ks ka kq kc kr kt kd many tsz thr) : wp_M_one_248 post (nI sg) v kb kw ks ka kq kc kr kt kd many tsz thr := by
  have e4 : nI sg = (4 : Int32) ↔ sg = 4 := nI_eq (b := 4) (by omega) (by decide)
  have e6 : nI sg = (6 : Int32) ↔ sg = 6 := nI_eq (b := 6) (by omega) (by decide)
  have e8 : nI sg = (8 : Int32) ↔ sg = 8 := nI_eq (b := 8) (by omega) (by decide)
  have k : wp_M_one_257 post (nI sg) (tr_m t) kb kw ks ka kq kc kr kt kd many tsz thr := by
    have opp : (sg = 4 ∨ sg = 6 ∨ sg = 8) → wp_M_one_274 post (tr_m t) kb kw ks ka kq kc kr kt kd many tsz thr := fun z => by
      rw [if_pos z] at hq
      unfold wp_M_one_274
      exact sm_oppT ht hq
    unfold wp_M_one_257
    rw [e4, e6, e8]
    refine br_c (fun z => opp (Or.inl z)) (fun z => br_c (fun y => opp (Or.inr (Or.inl y))) (fun y => br_c (fun x => ?_) (fun x => opp (Or.inr (Or.inr (Classical.byContradiction x))))))
    rw [if_neg (fun u => by rcases u with u | u | u; exact z u; exact y u; exact x u)] at hq
    exact hq
  obtain ⟨a, b, rfl, hb⟩ := hv
  unfold wp_M_one_248
  cases a <;> cases b
  · have : t = 0 := hb.symm
    subst this
    exact br_t (by decide) k
  · have : t = 2 := hb.symm
    subst this
    exact br_f (fun z => z rfl) k
  · have : t = 1 := hb.symm
    subst this
    exact br_t (by decide) k
  · have : t = 2 := hb.symm
    subst this
    exact br_t (by decide) k
theorem lm_one195 {sg w : Nat} {O U : Int64} (g1 : 3 ≤ sg) (hsg : sg ≤ 8) (hw : w ≤ 64) (hA : rw_R ka w O U) (hq : wp_M_one_281 post (tr_m (if sg = 4 ∨ sg = 6 ∨ sg = 8 then t_not (fd_v (kd_v sg) O U (w - 1)) else fd_v (kd_v sg) O U (w - 1))) kb kw ks ka kq kc kr kt kd many tsz thr) :
    ∀ (k i : Nat) (v : Int32), i + k = w → 1 ≤ i → (∃ a b : Bool, v = rw_q a b ∧ bt_v a b = fd_v (kd_v sg) O U (i - 1)) → wp_M_one_195 post (k + 1) (nI sg) (nI w) v (nI i) kb kw ks ka kq kc kr kt kd many tsz thr := by
  intro k
  induction k with
  | zero =>
    intro i v hi h1 hv
    rw [wp_M_one_195]
    obtain rfl : i = w := by omega
    exact br_t (nI_le (by omega) (by omega)) (sm_one248 hsg (fd_l _ _ _ _) hv hq)
  | succ k ih =>
    intro i v hi h1 hv
    have step : ∀ kk : Nat, kk = kd_v sg → wp_M_one_228 (wp_M_one_195 post (k + 1)) post (nI sg) (nI w) v (nI i) (nI kk) kb kw ks ka kq kc kr kt kd many tsz thr := by
      intro kk hk
      have k57 : kk = 5 ∨ kk = 6 ∨ kk = 7 := by rw [hk]; unfold kd_v; split; exact Or.inl rfl; split; exact Or.inr (Or.inl rfl); exact Or.inr (Or.inr rfl)
      unfold wp_M_one_228
      refine ⟨vp_in_nI (by omega) (by decide), ?_⟩
      obtain ⟨a, b, rfl, hb⟩ := hv
      rw [nI_clamp (by omega), hA i (by omega)]
      refine sm_logic (by omega) (by omega) ?_
      rw [lo_cm k57, nI_1]
      have e : cm_v kk (bt_v a b) (bt_v (lb_t O i) (lb_t U i)) = fd_v (kd_v sg) O U i := by
        obtain ⟨j, rfl⟩ : ∃ j, i = j + 1 := ⟨i - 1, by omega⟩
        rw [hb, hk]; rfl
      rw [e]
      refine ih (i + 1) _ (by omega) (by omega) ?_
      obtain ⟨x1, x2⟩ := tr_bt (fd_l (kd_v sg) O U i)
      exact ⟨_, _, x1, x2⟩
    rw [wp_M_one_195]
    refine br_f (nI_ge (by omega) (by omega)) (br_f (nI_ge (a := 2) (by omega) (by omega)) ?_)
    refine pk_le 5 sg (fun c => pk_le 7 sg (fun d => ?_) (fun d => ?_)) (fun c => ?_)
    · exact step 7 (by unfold kd_v; rw [if_neg (by omega), if_neg (by omega)])
    · exact step 6 (by unfold kd_v; rw [if_neg (by omega), if_pos (by omega)])
    · exact step 5 (by unfold kd_v; rw [if_pos (by omega)])
theorem lm_one123 {w : Nat} {s : Bool} {O U : Int64} (hw : w ≤ 64)
    (hq : ∀ g : Nat → Int32, (∀ i, i < w → g i = if lb_t U i then 3 else if lb_t O i then 0 else 1) → wp_M_give_a (fun kb161 kw161 ks161 ka161 kq161 kc161 kr161 kt161 kd161 many161 tsz161 thr161 => post kb161 kw161 ks161 ka161 kq161 kc161 kr161 kt161 kd161 many161 tsz161 thr161) (nI w) (bi_v s) kb kw ks g kq kc kr kt kd many tsz thr) :
    ∀ (k i : Nat) (g : Nat → Int32), i + k = w → (∀ j, j < i → g j = if lb_t U j then 3 else if lb_t O j then 0 else 1) → (∀ j, i ≤ j → j < w → g j = rw_q (lb_t O j) (lb_t U j)) → ∃ n, wp_M_one_123 post n (nI w) (bi_v s) (nI i) kb kw ks g kq kc kr kt kd many tsz thr := by
  intro k
  induction k with
  | zero =>
    intro i g hi h1 h2
    refine ⟨0 + 1, ?_⟩
    rw [wp_M_one_123]
    exact br_t (nI_le (by omega) (by omega)) (hq g (fun j hj => h1 j (by omega)))
  | succ k ih =>
    intro i g hi h1 h2
    have hin : vp_in (nI i) 64 := vp_in_nI (by omega) (by decide)
    obtain ⟨n, hn⟩ := ih (i + 1) (upd g i (if lb_t U i then 3 else if lb_t O i then 0 else 1)) (by omega) (fun j hj => by
      by_cases d : j = i
      · subst d; exact pk_us
      · rw [pk_un d]; exact h1 j (by omega)) (fun j a b => by rw [pk_un (by omega)]; exact h2 j (by omega) b)
    refine ⟨n + 1, ?_⟩
    rw [wp_M_one_123]
    refine br_f (nI_ge (by omega) (by omega)) ⟨hin, ?_⟩
    rw [nI_clamp (by omega), h2 i (Nat.le_refl _) (by omega)]
    refine sm_opposite ⟨hin, ?_⟩
    have nb : vp_nar .byte (if lb_t U i then (3 : Int32) else if lb_t O i then 0 else 1).toInt8.toInt32 = (if lb_t U i then 3 else if lb_t O i then 0 else 1) := by
      cases lb_t U i <;> cases lb_t O i <;> rfl
    rw [nb, nI_1]
    exact hn
end MOn
section OPOn
variable {fO fU : Nat → Int64} {fW fG fL kb kw ks ka kq kc kr kt kd : Nat → Int32} {len size many tsz thr : Int32} {fo : Nat → Int64}
theorem op_one {a : Int32} (R : re_L fO fU fW fG fL len size kb kw ks kt many tsz) :
    wp_L_one (fun r gO gU gW gG gL len' size' => wp_M_one (fun lb lw ls _ _ _ _ lt _ many' tsz' thr' => thr' = r ∧ re_L gO gU gW gG gL len' size' lb lw ls lt many' tsz') a kb kw ks ka kq kc kr kt kd many tsz thr) a fO fU fW fG fL len size := by
  have R0 := R
  obtain ⟨m, t, hm, ht, hsz, hmany, hlen, htsz, hP, hT⟩ := R
  unfold wp_L_one wp_X_one
  by_cases c : a < 0 ∨ ¬ a ≤ 8
  · refine Or.inr ⟨sx_rt c, Or.inl ⟨rfl, ?_⟩⟩
    have f : wp_M_one_11 (fun lb lw ls _ _ _ _ lt _ many' tsz' thr' => thr' = (1 : Int32) ∧ re_L fO fU fW fG fL len size lb lw ls lt many' tsz') a kb kw ks ka kq kc kr kt kd many tsz thr := by
      unfold wp_M_one_11 wp_M_one_16
      exact sm_refuse (need := 1) (room := 1) hm (by decide) (by decide) hmany (fun _ => br_f (by decide) ⟨rfl, R0⟩) (fun z => absurd z (by decide)) (fun z => absurd z (by decide))
    unfold wp_M_one
    by_cases d : a < 0
    · exact br_t d f
    · exact br_f d (br_f (c.resolve_left d) f)
  · have c1 : ¬ a < 0 := fun z => c (Or.inl z)
    have c2 : a ≤ 8 := Classical.byContradiction (fun z => c (Or.inr z))
    obtain ⟨sg, -, hsg, rfl⟩ := in_rg (lo := 0) (hi := 8) (by decide) (by decide) c1 c2
    refine Or.inl (sx_rk c1 c2 ?_)
    have inM : ∀ {Q : (Nat → Int32) → (Nat → Int32) → (Nat → Int32) → (Nat → Int32) → (Nat → Int32) → (Nat → Int32) → (Nat → Int32) → (Nat → Int32) → (Nat → Int32) → Int32 → Int32 → Int32 → Prop}, wp_M_one_16 Q (nI sg) 0 kb kw ks ka kq kc kr kt kd many tsz thr → wp_M_one Q (nI sg) kb kw ks ka kq kc kr kt kd many tsz thr := fun h => by
      unfold wp_M_one
      exact br_f c1 (br_t c2 h)
    by_cases few : m < 1
    · refine Or.inr ⟨sx_vt (need := 1) (by decide) hm few hsz, Or.inr ⟨rfl, inM ?_⟩⟩
      unfold wp_M_one_16
      exact sm_refuse (need := 1) (room := 1) hm (by decide) (by decide) hmany (fun z => absurd rfl z) (fun _ _ => br_f (by decide) ⟨rfl, R0⟩) (fun _ z _ => by omega)
    · refine Or.inl (sx_vk (need := 1) (by decide) hm (by omega) hsz ?_)
      have e1 : nI m - (1 : Int32) = nI (m - 1) := pk_sub (b := 1) (by omega)
      have i1 : vp_in (nI (m - 1)) 64 := vp_in_nI (by omega) (by decide)
      have cl1 : (nI (m - 1)).toNatClampNeg = m - 1 := nI_clamp (by omega)
      obtain ⟨w, s, a1, a2, a3, a4, a5, a6, a7, a8, a9⟩ := hP (m - 1) (by omega)
      have z0 : nI sg = (0 : Int32) ↔ sg = 0 := nI_eq (b := 0) (by omega) (by decide)
      have z1 : nI sg = (1 : Int32) ↔ sg = 1 := nI_eq (b := 1) (by omega) (by decide)
      have z2 : nI sg = (2 : Int32) ↔ sg = 2 := nI_eq (b := 2) (by omega) (by decide)
      -- the end with the row a
      have finA : ∀ (hO hU : Nat → Int64) (g gc : Nat → Int32), lb_mk w (hO (m - 1)) → lb_mk w (hU (m - 1)) → (∀ r, r ≠ m - 1 → hO r = fO r) → (∀ r, r ≠ m - 1 → hU r = fU r) → rw_R g w (hO (m - 1)) (hU (m - 1)) →
          wp_M_give_a (fun lb lw ls _ _ _ _ lt _ many' tsz' thr' => thr' = (0 : Int32) ∧ re_L hO hU fW fG fL len (nI m) lb lw ls lt many' tsz') (nI w) (bi_v s) kb kw ks g kq gc kr kt kd (nI (m - 1)) tsz 0 := by
        intro hO hU g gc q1 q2 q3 q4 q5
        refine sm_give_a (m := m - 1) (by omega) a2 rfl (rw_Rn q5) (fun lb lw ls r1 r2 r3 r4 r5 r6 => ⟨rfl, ?_⟩)
        exact re_fin (n := m - 1) (by omega) ht (re_less hP (by omega)) hT hlen htsz (by congr 1; omega) rfl (fun q hq => q3 q (by omega)) (fun q hq => q4 q (by omega)) (fun q hq => rfl) (fun q hq => rfl) r2 (fun q hq => r4 q (by omega)) (fun q hq => r6 q (by omega)) a1 a2 a3 r3 a5 r5 q1 q2 (rw_Rc q5 r1)
      -- the end with a truth
      have finC : ∀ (hO hU : Nat → Int64) (hW hG : Nat → Int32) (ga : Nat → Int32) (tt : Nat), tt < 3 → hO (m - 1) = tr_O tt → hU (m - 1) = tr_U tt → hW (m - 1) = nI 1 → hG (m - 1) = bi_v false → (∀ r, r ≠ m - 1 → hO r = fO r) → (∀ r, r ≠ m - 1 → hU r = fU r) → (∀ r, r ≠ m - 1 → hW r = fW r) → (∀ r, r ≠ m - 1 → hG r = fG r) →
          wp_M_one_281 (fun lb lw ls _ _ _ _ lt _ many' tsz' thr' => thr' = (0 : Int32) ∧ re_L hO hU hW hG fL len (nI m) lb lw ls lt many' tsz') (tr_m tt) kb kw ks ga kq kc kr kt kd (nI (m - 1)) tsz 0 := by
        intro hO hU hW hG ga tt tl q1 q2 q3 q4 q5 q6 q7 q8
        unfold wp_M_one_281
        refine ⟨vp_in_nI (n := 0) (by decide) (by decide), ?_⟩
        have nb : vp_nar .byte (tr_m tt).toInt8.toInt32 = tr_m tt := by
          rcases (show tt = 0 ∨ tt = 1 ∨ tt = 2 by omega) with rfl | rfl | rfl <;> rfl
        rw [nb, sb_cl0]
        have hr : rw_R (upd kc 0 (tr_m tt)) 1 (hO (m - 1)) (hU (m - 1)) := by rw [q1, q2]; exact tr_row tl pk_us
        refine sm_give_c (m := m - 1) (w := 1) (s := false) (by omega) (by decide) rfl (rw_Rn hr) (fun lb lw ls r1 r2 r3 r4 r5 r6 => ⟨rfl, ?_⟩)
        exact re_fin (s := false) (w := 1) (n := m - 1) (by omega) ht (re_less hP (by omega)) hT hlen htsz (by congr 1; omega) rfl (fun q hq => q5 q (by omega)) (fun q hq => q6 q (by omega)) (fun q hq => q7 q (by omega)) (fun q hq => q8 q (by omega)) r2 (fun q hq => r4 q (by omega)) (fun q hq => r6 q (by omega)) (by decide) (by decide) q3 r3 q4 r5 (by rw [q1]; exact (tr_mk tl).1) (by rw [q2]; exact (tr_mk tl).2) (rw_Rc hr r1)
      -- the reference's beginning
      have inN : ∀ {Q : (Nat → Int32) → (Nat → Int32) → (Nat → Int32) → (Nat → Int32) → (Nat → Int32) → (Nat → Int32) → (Nat → Int32) → (Nat → Int32) → (Nat → Int32) → Int32 → Int32 → Int32 → Prop}, (∀ ga : Nat → Int32, rw_R ga w (fO (m - 1)) (fU (m - 1)) → ((¬ nI sg = 0 → ((¬ nI sg = (1 : Int32) → ((¬ nI sg = (2 : Int32) → (vp_in (0 : Int32) 64 ∧ wp_M_one_190 Q (nI sg) (nI w) (ga (0 : Int32).toNatClampNeg) kb kw ks ga kq kc kr kt kd (nI (m - 1)) tsz 0)) ∧ (¬ ¬ nI sg = (2 : Int32) → wp_M_truth (fun r175 ka175 => wp_M_opposite (fun r178 => wp_M_one_190 Q (nI sg) (nI w) r178 kb kw ks ka175 kq kc kr kt kd (nI (m - 1)) tsz 0) r175) (nI w) ga))) ∧ (¬ ¬ nI sg = (1 : Int32) → (∃ n123 : Nat, wp_M_one_123 Q n123 (nI w) (bi_v s) (0 : Int32) kb kw ks ga kq kc kr kt kd (nI (m - 1)) tsz 0)))) ∧ (¬ ¬ nI sg = 0 → wp_M_dark (fun r77 ka77 => ((r77 = 0 → wp_M_negate (fun ka100 => wp_M_one_103 Q (nI w) (bi_v s) kb kw ks ka100 kq kc kr kt kd (nI (m - 1)) tsz 0) (nI w) ka77) ∧ (¬ r77 = 0 → wp_M_fill (fun ka89 => wp_M_one_103 Q (nI w) (bi_v s) kb kw ks ka89 kq kc kr kt kd (nI (m - 1)) tsz 0) (nI w) (3 : Int32) ka77))) (nI w) ga))) → wp_M_one Q (nI sg) kb kw ks ka kq kc kr kt kd many tsz thr := fun {Q} k => inM (by
        unfold wp_M_one_16
        refine sm_refuse (need := 1) (room := 1) hm (by decide) (by decide) hmany (fun z => absurd rfl z) (fun _ z => by omega) (fun _ _ _ => br_t rfl ?_)
        intro v hv
        rw [hmany, e1] at hv
        subst hv
        refine ⟨i1, ?_⟩
        rw [cl1, a4, a6]
        intro v2 hv2
        subst hv2
        refine ⟨i1, ?_⟩
        intro v3 hv3
        subst hv3
        refine sm_take_a (s := false) (by omega) a1 a2 a1 a2 a4 a7 a8 a9 (fun ga r => ?_)
        rw [xt_same a1 a2 a7, xt_same a1 a2 a8] at r
        rw [hmany, e1]
        exact k ga r)
      intro v hv
      rw [hsz] at hv ⊢
      rw [e1] at hv
      subst hv
      rw [z0, z1]
      rw [z0, z1, z2] at inN
      refine br_c (fun n0 => br_c (fun n1 => ?_) (fun n1 => ?_)) (fun n0 => ?_)
      · -- a truth
        have g2 : 2 ≤ sg := by omega
        refine sx_reduced g2 hsg (by omega) a3 a2 ?_
        have tl := t_redl sg w (fO (m - 1)) (fU (m - 1))
        refine sx_setTruth (by omega) tl (fun hO hU hW hG q1 q2 q3 q4 q5 q6 q7 q8 => ?_)
        unfold wp_X_one_65
        refine inN (fun ga r => br_t n0 (br_t n1 ?_))
        refine br_c (fun n2 => ⟨vp_in_nI (n := 0) (by decide) (by decide), ?_⟩) (fun n2 => ?_)
        · have g3 : 3 ≤ sg := by omega
          unfold wp_M_one_190
          rw [sb_cl0]
          refine ⟨w - 1 + 1, lm_one195 g3 hsg a2 r ?_ (w - 1) 1 (ga 0) (by omega) (Nat.le_refl _) ⟨_, _, r 0 (by omega), rfl⟩⟩
          have e : (if sg = 4 ∨ sg = 6 ∨ sg = 8 then t_not (fd_v (kd_v sg) (fO (m - 1)) (fU (m - 1)) (w - 1)) else fd_v (kd_v sg) (fO (m - 1)) (fU (m - 1)) (w - 1)) = t_red sg w (fO (m - 1)) (fU (m - 1)) := by
            have f5 := fd_all a1 a2 (O := fO (m - 1)) a8
            have f6 := fd_any a1 a2 a7 a8
            have f7 := fd_odd a1 a2 a7 a8
            rcases (show sg = 3 ∨ sg = 4 ∨ sg = 5 ∨ sg = 6 ∨ sg = 7 ∨ sg = 8 by omega) with rfl | rfl | rfl | rfl | rfl | rfl
            · exact f5
            · exact congrArg t_not f5
            · exact f6
            · exact congrArg t_not f6
            · exact f7
            · exact congrArg t_not f7
          rw [e]
          exact finC hO hU hW hG ga _ tl q1 q2 q3 q4 q5 q6 q7 q8
        · have n2 := Classical.byContradiction n2
          subst n2
          have tA : ∀ (post : Int32 → (Nat → Int32) → Prop), post (tr_m (t_any (fO (m - 1)) (fU (m - 1)))) ga → wp_M_truth post (nI w) ga := fun post h => sm_truth a1 a2 r a7 a8 (fun z => by unfold t_any at h; rw [if_neg z] at h; exact h) (fun z y => by unfold t_any at h; rw [if_pos z, if_neg y] at h; exact h) (fun z y => by unfold t_any at h; rw [if_pos z, if_pos y] at h; exact h)
          refine tA _ ?_
          refine sm_oppT (t_anyl _ _) ?_
          unfold wp_M_one_190
          refine ⟨0 + 1, ?_⟩
          rw [wp_M_one_195]
          have k8 : wp_M_one_248 (fun lb lw ls _ _ _ _ lt _ many' tsz' thr' => thr' = (0 : Int32) ∧ re_L hO hU hW hG fL len (nI m) lb lw ls lt many' tsz') (nI 2) (tr_m (t_not (t_any (fO (m - 1)) (fU (m - 1))))) kb kw ks ga kq kc kr kt kd (nI (m - 1)) tsz 0 := by
            obtain ⟨x1, x2⟩ := tr_bt (t_notl (t_anyl (fO (m - 1)) (fU (m - 1))))
            exact sm_one248 (by decide) (t_notl (t_anyl _ _)) ⟨_, _, x1, x2⟩ (finC hO hU hW hG ga _ tl q1 q2 q3 q4 q5 q6 q7 q8)
          exact br_c (fun _ => k8) (fun _ => br_t (by decide) k8)
      · -- inverted
        refine sx_sureZeros (by omega) a3 a2 ?_
        refine sx_sureOnes (by omega) ?_
        refine sx_setSure (by omega) a3 a2 (fun hO hU q1 q2 q3 q4 => ?_)
        unfold wp_X_one_65
        refine inN (fun ga r => br_t n0 (br_f n1 ?_))
        refine lm_one123 a2 (fun g hg => finA hO hU g kc (by rw [q1]; exact lb_mask a1 a2 _) (by rw [q2]; exact lb_mask a1 a2 _) q3 q4 (fun i hi => ?_)) w 0 ga (by omega) (fun j hj => by omega) (fun j _ b => r j b)
        rw [hg i hi, q1, q2, ss_bit a1 a2 hi, so_1t a2 _ _ hi, so_0t a1 a2 _ _ hi]
        cases lb_t (fO (m - 1)) i <;> cases lb_t (fU (m - 1)) i <;> rfl
      · -- negated
        refine sx_negate (by omega) a1 a2 a3 a7 (fun u hO hU q1 q2 q3 q4 => ?_) (fun u hO hU q1 q2 q3 q4 q5 => ?_)
        · unfold wp_X_one_65
          refine inN (fun ga r => br_f n0 ?_)
          refine sm_dark a2 r a8 (fun z => absurd z u) (fun _ => br_f (by decide) ?_)
          refine sm_fill (v := 3) a2 (by decide) (fun g hg => ?_)
          unfold wp_M_one_103
          refine finA hO hU g kc (by rw [q1]; exact lb_lowm a1 a2) (by rw [q2]; exact lb_lowm a1 a2) q3 q4 ?_
          rw [q1, q2]
          exact rw_x a1 a2 hg
        · unfold wp_X_one_65
          refine inN (fun ga r => br_f n0 ?_)
          refine sm_dark a2 r a8 (fun _ => br_t rfl ?_) (fun z => absurd u z)
          rw [u] at r
          refine sm_negate a2 (lb_mkn.mp a7) (rw_RN r) (fun g hg => ?_)
          unfold wp_M_one_103
          refine finA hO hU g kc q1 (by rw [q3]; exact lb_mk0 _) q4 q5 ?_
          rw [q3]
          exact rw_NR hg q2
end OPOn
