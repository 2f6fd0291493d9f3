/-! the reference's sort and groups -/
def ct_v (q : Nat → Bool) : Nat → Nat
  | 0 => 0
  | i + 1 => ct_v q i + (q i).toNat
theorem ct_le (q : Nat → Bool) : ∀ i, ct_v q i ≤ i := by
  intro i
  induction i with
  | zero => exact Nat.le_refl _
  | succ i ih => show ct_v q i + (q i).toNat ≤ i + 1; cases q i <;> simp <;> omega
theorem ct_all (q : Nat → Bool) : ∀ i, ct_v q i = i ↔ ∀ j, j < i → q j = true := by
  intro i
  induction i with
  | zero => exact ⟨fun _ j hj => by omega, fun _ => rfl⟩
  | succ i ih =>
    have l := ct_le q i
    show ct_v q i + (q i).toNat = i + 1 ↔ _
    constructor
    · intro h j hj
      have qi : q i = true := by
        cases hb : q i
        · rw [hb] at h; simp at h; omega
        · rfl
      by_cases d : j = i
      · rw [d]; exact qi
      · exact ih.mp (by rw [qi] at h; simp at h; omega) j (by omega)
    · intro h
      rw [h i (by omega), ih.mpr (fun j hj => h j (by omega))]; rfl
theorem ct_no (q : Nat → Bool) : ∀ i, ct_v q i = 0 ↔ ∀ j, j < i → q j = false := by
  intro i
  induction i with
  | zero => exact ⟨fun _ j hj => by omega, fun _ => rfl⟩
  | succ i ih =>
    show ct_v q i + (q i).toNat = 0 ↔ _
    constructor
    · intro h j hj
      have qi : q i = false := by
        cases hb : q i
        · rfl
        · rw [hb] at h; simp at h
      by_cases d : j = i
      · rw [d]; exact qi
      · exact ih.mp (by omega) j (by omega)
    · intro h
      rw [h i (by omega), ih.mpr (fun j hj => h j (by omega))]; rfl
def so_v (n cx cz : Nat) : Nat := if cx = n then 120 else if cz = n then 122 else if cx = 0 then (if cz = 0 then 0 else 90) else 88
theorem so_ul {n : Nat} (h1 : 1 ≤ n) (h2 : n ≤ 64) {o u : Int64} (mo : lb_mk n o) (mu : lb_mk n u) : so_v n (ct_v (fun j => lb_t o j && lb_t u j) n) (ct_v (fun j => !lb_t o j && lb_t u j) n) = if u = 0 then 0 else ul_v o u (lb_low n) := by
  have ma := lb_lowm h1 h2
  have eu : u = lb_low n ↔ ∀ j, j < n → lb_t u j = true := ⟨fun z j hj => by rw [z, lb_lowt h1 h2, decide_eq_true hj], fun z => lb_eqm mu ma (fun j hj => by rw [z j hj, lb_lowt h1 h2, decide_eq_true hj])⟩
  have eo : o = lb_low n ↔ ∀ j, j < n → lb_t o j = true := ⟨fun z j hj => by rw [z, lb_lowt h1 h2, decide_eq_true hj], fun z => lb_eqm mo ma (fun j hj => by rw [z j hj, lb_lowt h1 h2, decide_eq_true hj])⟩
  have zo := lb_zero mo
  have zu := lb_zero mu
  have za : (o &&& u) = 0 ↔ ∀ j, j < n → (lb_t o j && lb_t u j) = false := by
    rw [lb_zero (w := n) (fun i hi => by rw [lb_and, mo i hi, Bool.false_and])]
    exact ⟨fun z j hj => by rw [← lb_and]; exact z j hj, fun z j hj => by rw [lb_and]; exact z j hj⟩
  have ax := ct_all (fun j => lb_t o j && lb_t u j) n
  have az := ct_all (fun j => !lb_t o j && lb_t u j) n
  have nx := ct_no (fun j => lb_t o j && lb_t u j) n
  have nz := ct_no (fun j => !lb_t o j && lb_t u j) n
  have lx := ct_le (fun j => lb_t o j && lb_t u j) n
  generalize ct_v (fun j => lb_t o j && lb_t u j) n = cx at *
  generalize ct_v (fun j => !lb_t o j && lb_t u j) n = cz at *
  have pick : ∀ {q : Nat → Bool}, ¬ (∀ j, j < n → q j = false) → ∃ j, j < n ∧ q j = true := fun {q} h => by
    apply Classical.byContradiction
    intro k
    refine h (fun j hj => ?_)
    cases hb : q j
    · rfl
    · exact absurd ⟨j, hj, hb⟩ k
  by_cases u0 : u = 0
  · rw [if_pos u0]
    have hu := zu.mp u0
    have c0 : cx = 0 := nx.mpr (fun j hj => by rw [hu j hj, Bool.and_false])
    have z0 : cz = 0 := nz.mpr (fun j hj => by rw [hu j hj, Bool.and_false])
    unfold so_v
    rw [c0, z0, if_neg (by omega), if_neg (by omega), if_pos rfl, if_pos rfl]
  · rw [if_neg u0]
    unfold so_v ul_v
    by_cases c : cx = n
    · have := ax.mp c
      rw [if_pos c, if_pos ⟨eu.mpr (fun j hj => by have := this j hj; rw [Bool.and_eq_true] at this; exact this.2), eo.mpr (fun j hj => by have := this j hj; rw [Bool.and_eq_true] at this; exact this.1)⟩]
    · have X : ¬ (u = lb_low n ∧ o = lb_low n) := fun z => c (ax.mpr (fun j hj => by rw [eu.mp z.1 j hj, eo.mp z.2 j hj]; rfl))
      rw [if_neg c, if_neg X]
      by_cases d : cz = n
      · have := az.mp d
        rw [if_pos d, if_pos ⟨eu.mpr (fun j hj => by have := this j hj; rw [Bool.and_eq_true] at this; exact this.2), zo.mpr (fun j hj => by have := this j hj; revert this; cases lb_t o j <;> simp)⟩]
      · have Z : ¬ (u = lb_low n ∧ o = 0) := fun z => d (az.mpr (fun j hj => by rw [eu.mp z.1 j hj, zo.mp z.2 j hj]; rfl))
        rw [if_neg d, if_neg Z]
        by_cases e : cx = 0
        · rw [if_pos e, if_pos (za.mpr (nx.mp e)), if_neg]
          intro z
          refine u0 (zu.mpr (fun j hj => ?_))
          have k1 := nx.mp e j hj
          have k2 := nz.mp z j hj
          revert k1 k2
          cases lb_t o j <;> cases lb_t u j <;> simp
        · rw [if_neg e, if_neg (fun z => e (nx.mpr (za.mp z)))]
section MSo
variable {kb kw ks ka kq kc kr kt kd : Nat → Int32} {many tsz thr : Int32}
variable {post : (Nat → Int32) → (Nat → Int32) → (Nat → Int32) → (Nat → Int32) → (Nat → Int32) → (Nat → Int32) → (Nat → Int32) → (Nat → Int32) → (Nat → Int32) → Int32 → Int32 → Int32 → Prop}
variable {posi : Int32 → (Nat → Int32) → (Nat → Int32) → (Nat → Int32) → (Nat → Int32) → (Nat → Int32) → (Nat → Int32) → (Nat → Int32) → (Nat → Int32) → (Nat → Int32) → Int32 → Int32 → Int32 → Prop}
theorem lm_sort {w lo n : Nat} {O U : Int64} (hw : w ≤ 64) (hn : lo + n ≤ w) (hA : rw_R ka w O U) (hq : posi (nI (so_v n (ct_v (fun j => lb_t O (lo + j) && lb_t U (lo + j)) n) (ct_v (fun j => !lb_t O (lo + j) && lb_t U (lo + j)) n))) kb kw ks ka kq kc kr kt kd many tsz thr) :
    ∀ (k i : Nat), i + k = n → wp_M_sort_8 posi (k + 1) (nI lo) (nI (lo + n)) (nI (ct_v (fun j => lb_t O (lo + j) && lb_t U (lo + j)) i)) (nI (ct_v (fun j => !lb_t O (lo + j) && lb_t U (lo + j)) i)) (nI (lo + i)) kb kw ks ka kq kc kr kt kd many tsz thr := by
  intro k
  induction k with
  | zero =>
    intro i hi
    obtain rfl : i = n := by omega
    have l1 := ct_le (fun j => lb_t O (lo + j) && lb_t U (lo + j)) i
    have l2 := ct_le (fun j => !lb_t O (lo + j) && lb_t U (lo + j)) i
    rw [wp_M_sort_8]
    refine br_t (nI_le (by omega) (by omega)) ?_
    rw [pk_sub (by omega), show lo + i - lo = i by omega]
    unfold wp_M_sort_93
    unfold so_v at hq
    generalize ct_v (fun j => lb_t O (lo + j) && lb_t U (lo + j)) i = cx at *
    generalize ct_v (fun j => !lb_t O (lo + j) && lb_t U (lo + j)) i = cz at *
    rw [nI_eq (by omega) (by omega), nI_eq (by omega) (by omega)]
    have p0 : ∀ c : Nat, c ≤ 64 → (nI c ≤ 0 ↔ c = 0) := fun c hc => by
      rw [show (0 : Int32) = nI 0 from rfl, nI_leI (by omega) (by decide)]; omega
    rw [p0 cx (by omega), p0 cz (by omega)]
    refine br_c (fun c => br_c (fun d => br_c (fun e => br_c (fun f => ?_) (fun f => ?_)) (fun e => ?_)) (fun d => ?_)) (fun c => ?_)
    · rw [if_neg c, if_neg d, if_pos e, if_pos f] at hq; exact hq
    · rw [if_neg c, if_neg d, if_pos e, if_neg f] at hq; exact hq
    · rw [if_neg c, if_neg d, if_neg e] at hq; exact hq
    · rw [if_neg c, if_pos (Classical.byContradiction d)] at hq; exact hq
    · rw [if_pos (Classical.byContradiction c)] at hq; exact hq
  | succ k ih =>
    intro i hi
    have hin : vp_in (nI (lo + i)) 64 := vp_in_nI (by omega) (by decide)
    have nx := ih (i + 1) (by omega)
    have s1 : ct_v (fun j => lb_t O (lo + j) && lb_t U (lo + j)) (i + 1) = ct_v (fun j => lb_t O (lo + j) && lb_t U (lo + j)) i + (lb_t O (lo + i) && lb_t U (lo + i)).toNat := rfl
    have s2 : ct_v (fun j => !lb_t O (lo + j) && lb_t U (lo + j)) (i + 1) = ct_v (fun j => !lb_t O (lo + j) && lb_t U (lo + j)) i + (!lb_t O (lo + i) && lb_t U (lo + i)).toNat := rfl
    rw [s1, s2] at nx
    have k28 : ∀ x3 : Nat, x3 = ct_v (fun j => lb_t O (lo + j) && lb_t U (lo + j)) i + (lb_t O (lo + i) && lb_t U (lo + i)).toNat → wp_M_sort_28 (wp_M_sort_8 posi (k + 1)) posi (nI lo) (nI (lo + n)) (nI x3) (nI (ct_v (fun j => !lb_t O (lo + j) && lb_t U (lo + j)) i)) (nI (lo + i)) kb kw ks ka kq kc kr kt kd many tsz thr := fun x3 h3 => by
      unfold wp_M_sort_28 wp_M_sort_42
      refine ⟨hin, ?_⟩
      rw [nI_clamp (by omega), hA (lo + i) (by omega), rw_q2, h3, nI_1 (lo + i), nI_1]
      refine br_c (fun c => ?_) (fun c => ?_)
      · have : (!lb_t O (lo + i) && lb_t U (lo + i)) = false := by revert c; cases lb_t O (lo + i) <;> cases lb_t U (lo + i) <;> simp
        rw [this] at nx
        exact nx
      · have : (!lb_t O (lo + i) && lb_t U (lo + i)) = true := by revert c; cases lb_t O (lo + i) <;> cases lb_t U (lo + i) <;> simp
        rw [this] at nx
        exact nx
    rw [wp_M_sort_8]
    refine br_f (nI_ge (by omega) (by omega)) ⟨hin, ?_⟩
    rw [nI_clamp (by omega), hA (lo + i) (by omega), rw_q3, nI_1]
    refine br_c (fun c => k28 _ ?_) (fun c => k28 _ ?_)
    · have : (lb_t O (lo + i) && lb_t U (lo + i)) = false := by revert c; cases lb_t O (lo + i) <;> cases lb_t U (lo + i) <;> simp
      rw [this]; rfl
    · have : (lb_t O (lo + i) && lb_t U (lo + i)) = true := by revert c; cases lb_t O (lo + i) <;> cases lb_t U (lo + i) <;> simp
      rw [this]; rfl
theorem sm_sort {w lo n : Nat} {O U o u : Int64} (hw : w ≤ 64) (h1 : 1 ≤ n) (hn : lo + n ≤ w) (hA : rw_R ka w O U) (mo : lb_mk n o) (mu : lb_mk n u) (ho : ∀ j, j < n → lb_t o j = lb_t O (lo + j)) (hu : ∀ j, j < n → lb_t u j = lb_t U (lo + j)) (hq : posi (nI (if u = 0 then 0 else ul_v o u (lb_low n))) kb kw ks ka kq kc kr kt kd many tsz thr) : wp_M_sort posi (nI lo) (nI (lo + n)) kb kw ks ka kq kc kr kt kd many tsz thr := by
  have cg : ∀ (p q : Nat → Bool), (∀ j, j < n → p j = q j) → ∀ i, i ≤ n → ct_v p i = ct_v q i := fun p q h i => by
    induction i with
    | zero => intro _; rfl
    | succ i ih => intro hi; show ct_v p i + _ = ct_v q i + _; rw [ih (by omega), h i (by omega)]
  rw [← so_ul h1 (by omega) mo mu, cg (fun j => lb_t o j && lb_t u j) (fun j => lb_t O (lo + j) && lb_t U (lo + j)) (fun j hj => by rw [ho j hj, hu j hj]) n (Nat.le_refl _), cg (fun j => !lb_t o j && lb_t u j) (fun j => !lb_t O (lo + j) && lb_t U (lo + j)) (fun j hj => by rw [ho j hj, hu j hj]) n (Nat.le_refl _)] at hq
  unfold wp_M_sort
  have := lm_sort (posi := posi) (kb := kb) (kw := kw) (ks := ks) (kq := kq) (kc := kc) (kr := kr) (kt := kt) (kd := kd) (many := many) (tsz := tsz) (thr := thr) hw hn hA hq n 0 (by omega)
  exact ⟨n + 1, this⟩
theorem sm_put {c : Nat} {T : List Nat} (h : tx_r kt tsz T) (hc : c < 128) (hT : T.length < 80) (hq : ∀ (g : Nat → Int32) (k : Int32), tx_r g k (T ++ [c]) → post kb kw ks ka kq kc kr g kd many k thr) : wp_M_put post (nI c) kb kw ks ka kq kc kr kt kd many tsz thr := by
  unfold wp_M_put
  refine ⟨by rw [h.1]; exact vp_in_nI hT (by decide), ?_⟩
  rw [sm_b hc]
  exact hq _ _ (tx_push h hc (by omega))
theorem lm_gr62 {w lo n : Nat} {st x4 r : Int32} {O U : Int64} {K20 : Int32 → Int32 → Int32 → Int32 → (Nat → Int32) → (Nat → Int32) → (Nat → Int32) → (Nat → Int32) → (Nat → Int32) → (Nat → Int32) → (Nat → Int32) → (Nat → Int32) → (Nat → Int32) → Int32 → Int32 → Int32 → Prop} (hw : w ≤ 64) (hn : lo + n ≤ w) (n4 : n ≤ 4) (hA : rw_R ka w O U) (nd : Prop) (hnd : nd → ∀ j, j < n → lb_t U (lo + j) = false)
    (hq : ∀ v : Int32, (nd → v = nI (lb_n O / 2 ^ lo % 2 ^ n)) → (¬ r = 0 → wp_M_groups_119 K20 post st (nI w) x4 (nI lo) r kb kw ks ka kq kc kr kt kd many tsz thr) ∧ (¬ ¬ r = 0 → (((10 : Int32) ≤ v → wp_M_groups_117 K20 post st (nI w) x4 (nI lo) (((97 : Int32) + v) - (10 : Int32)) kb kw ks ka kq kc kr kt kd many tsz thr) ∧ (¬ (10 : Int32) ≤ v → wp_M_groups_117 K20 post st (nI w) x4 (nI lo) ((48 : Int32) + v) kb kw ks ka kq kc kr kt kd many tsz thr)))) :
    ∀ (t : Nat), t ≤ n → ∀ v : Int32, (nd → v = nI (lb_n O / 2 ^ (lo + t) % 2 ^ (n - t))) → wp_M_groups_62 K20 post (t + 1) st (nI w) x4 (nI lo) v r (nI (lo + t) + (-1)) kb kw ks ka kq kc kr kt kd many tsz thr := by
  intro t
  induction t with
  | zero =>
    intro _ v hv
    rw [wp_M_groups_62]
    refine br_t ?_ (hq v hv)
    cases lo with
    | zero => decide
    | succ lo => rw [Nat.add_zero, pk_m1]; exact nI_lt (by omega) (by omega)
  | succ t ih =>
    intro ht v hv
    rw [wp_M_groups_62]
    dsimp only
    rw [← Nat.add_assoc, pk_m1]
    refine br_f (nI_nlt (by omega) (by omega)) ⟨vp_in_nI (by omega) (by decide), ?_⟩
    rw [nI_clamp (by omega), hA (lo + t) (by omega)]
    intro v2 hv2
    refine ih (by omega) v2 (fun z => ?_)
    rw [hv2, hv z, hnd z t (by omega), rw_q0]
    have e : (lb_t O (lo + t)).toNat = lb_n O / 2 ^ (lo + t) % 2 := (bn_t _ _).symm
    rw [e, show (2 : Int32) = nI 2 from rfl, pk_mul, nI_add]
    have f : lb_n O / 2 ^ (lo + t) % 2 ^ (n - t) = 2 * (lb_n O / 2 ^ (lo + (t + 1)) % 2 ^ (n - (t + 1))) + lb_n O / 2 ^ (lo + t) % 2 := by
      rw [show n - t = n - (t + 1) + 1 by omega, Nat.pow_succ, Nat.mul_comm (2 ^ (n - (t + 1))) 2, Nat.mod_mul, Nat.div_div_eq_div_mul, ← Nat.pow_succ]
      exact Nat.add_comm _ _
    rw [f]
/-- the groups of the reference: the same letters -/
theorem lm_groupsM {w k : Nat} {brief : Bool} {O U : Int64} (h1 : 1 ≤ w) (hw : w ≤ 64) (hk : k = 0 ∨ k = 2) (mO : lb_mk w O) (mU : lb_mk w U) (hA : rw_R ka w O U) (hq : ∀ (g : Nat → Int32) (l : Int32), tx_r g l (gt_v brief (gr_l w k O U) ((w - 1) / 2 ^ k + 1) []) → post kb kw ks ka kq kc kr g kd many l thr) :
    ∀ (j : Nat) (f : Nat → Int32) (l : Int32) (T : List Nat), j * 2 ^ k < w + 2 ^ k → T.length + j ≤ 64 → tx_r f l T → gt_v brief (gr_l w k O U) j T = gt_v brief (gr_l w k O U) ((w - 1) / 2 ^ k + 1) [] → wp_M_groups_20 post (j + 1) (nI (2 ^ k)) (nI w) (bi_v (!brief || !T.isEmpty)) (nI (j * 2 ^ k) - nI (2 ^ k)) kb kw ks ka kq kc kr f kd many l thr := by
  have pk : 2 ^ k = 1 ∨ 2 ^ k = 4 := by rcases hk with rfl | rfl; exact Or.inl rfl; exact Or.inr rfl
  intro j
  induction j with
  | zero =>
    intro f l T hj hT h e
    rw [wp_M_groups_20]
    refine br_t ?_ (hq f l (by rw [← e]; exact h))
    rw [Nat.zero_mul]
    exact pk_sneg (by omega) (by omega)
  | succ j ih =>
    intro f l T hj hT h e
    have hj2 := hj
    rw [Nat.add_mul, Nat.one_mul] at hj2
    have hjw : j * 2 ^ k < w := by omega
    have g1 : 1 ≤ gr_n w k j := by unfold gr_n; omega
    have g4 : gr_n w k j ≤ 4 := by unfold gr_n; omega
    have gw : j * 2 ^ k + gr_n w k j ≤ w := by unfold gr_n; omega
    have lt := gl_l (o := gr_b w k j O) (u := gr_b w k j U) (a := lb_low (gr_n w k j)) (gr_16 hk hw hjw O)
    have bo : ∀ x : Int64, ∀ i, i < gr_n w k j → lb_t (gr_b w k j x) i = lb_t x (j * 2 ^ k + i) := fun x i hi => by
      unfold gr_b
      rw [lb_maskt g1 (by omega) _ hi, lb_ushr (by omega)]
    have mb : ∀ x : Int64, lb_mk (gr_n w k j) (gr_b w k j x) := fun x => lb_mask g1 (by omega) _
    have ex5 : nI ((j + 1) * 2 ^ k) - nI (2 ^ k) = nI (j * 2 ^ k) := by
      rw [Nat.add_mul, Nat.one_mul, pk_sub (by omega), Nat.add_sub_cancel]
    have k145 : ∀ (f2 : Nat → Int32) (l2 : Int32) (T2 : List Nat), T2.length + j ≤ 64 → tx_r f2 l2 T2 → gt_v brief (gr_l w k O U) j T2 = gt_v brief (gr_l w k O U) (j + 1) T → wp_M_groups_145 (wp_M_groups_20 post (j + 1)) post (nI (2 ^ k)) (nI w) (bi_v (!brief || !T2.isEmpty)) (nI (j * 2 ^ k)) kb kw ks ka kq kc kr f2 kd many l2 thr := fun f2 l2 T2 q1 q2 q3 => by
      unfold wp_M_groups_145
      intro v hv
      subst hv
      exact ih f2 l2 T2 (by omega) q1 q2 (by rw [q3]; exact e)
    have put : ∀ x4 : Int32, ¬ x4 = 0 → x4 = 1 → (brief && (gr_l w k O U j == 48 && T.isEmpty && decide (0 < j))) = false → wp_M_groups_134 (wp_M_groups_20 post (j + 1)) post (nI (2 ^ k)) (nI w) x4 (nI (j * 2 ^ k)) (nI (gr_l w k O U j)) kb kw ks ka kq kc kr f kd many l thr := fun x4 z0 z1 c => by
      unfold wp_M_groups_134
      refine br_f z0 ?_
      refine sm_put h lt (by omega) (fun g i h2 => ?_)
      have := k145 g i (T ++ [gr_l w k O U j]) (by rw [List.length_append]; simp; omega) h2 (by
        show _ = gt_v brief _ j _
        rw [if_neg (by rw [c]; decide)])
      have em : (!brief || !(T ++ [gr_l w k O U j]).isEmpty) = true := by cases brief <;> cases T <;> rfl
      rw [em] at this
      rw [z1]
      exact this
    have k119 : wp_M_groups_119 (wp_M_groups_20 post (j + 1)) post (nI (2 ^ k)) (nI w) (bi_v (!brief || !T.isEmpty)) (nI (j * 2 ^ k)) (nI (gr_l w k O U j)) kb kw ks ka kq kc kr f kd many l thr := by
      have e48 : nI (gr_l w k O U j) = (48 : Int32) ↔ gr_l w k O U j = 48 := nI_eq (b := 48) (by have : gr_l w k O U j < 128 := lt; omega) (by decide)
      have e0 : nI (j * 2 ^ k) = (0 : Int32) ↔ j * 2 ^ k = 0 := nI_eq (b := 0) (by omega) (by decide)
      unfold wp_M_groups_119 wp_M_groups_131
      rw [e48, e0]
      refine br_c (fun c => put 1 (by decide) rfl ?_) (fun c => br_c (fun d => ?_) (fun d => put 1 (by decide) rfl ?_))
      · have : (gr_l w k O U j == 48) = false := by
          cases hb : (gr_l w k O U j == 48)
          · rfl
          · exact absurd (by simpa using hb) c
        rw [this, Bool.false_and, Bool.false_and, Bool.and_false]
      · have jp : 0 < j := Nat.pos_of_ne_zero (fun z => d (by rw [z, Nat.zero_mul]))
        cases hb : (!brief || !T.isEmpty)
        · unfold wp_M_groups_134
          refine br_t rfl ?_
          have br : brief = true := by revert hb; cases brief <;> simp
          have te : T.isEmpty = true := by revert hb; cases T.isEmpty <;> simp
          have c1 := Classical.byContradiction c
          have := k145 f l T (by omega) h (by
            show _ = gt_v brief _ j _
            rw [if_pos]
            rw [br, c1, te, decide_eq_true jp]; rfl)
          rw [hb] at this
          exact this
        · refine put (bi_v true) (by decide) rfl ?_
          revert hb
          cases brief <;> cases T.isEmpty <;> simp
      · have : ¬ 0 < j := fun z => by
          have d := Classical.byContradiction d
          rcases Nat.mul_eq_zero.mp d with y | y
          · omega
          · have := Nat.two_pow_pos k; omega
        rw [decide_eq_false this, Bool.and_false, Bool.and_false]
    have k41 : wp_M_groups_41 (wp_M_groups_20 post (j + 1)) post (nI (2 ^ k)) (nI w) (bi_v (!brief || !T.isEmpty)) (nI (j * 2 ^ k)) (nI (j * 2 ^ k + gr_n w k j)) kb kw ks ka kq kc kr f kd many l thr := by
      unfold wp_M_groups_41
      refine sm_sort hw g1 gw hA (mb O) (mb U) (bo O) (bo U) ?_
      intro v hv
      rw [hv, nm_1 _ (by omega)]
      refine ⟨gr_n w k j + 1, ?_⟩
      refine lm_gr62 hw gw g4 hA (gr_b w k j U = 0) (fun z i hi => by rw [← bo U i hi, z, lb_0]) (fun v2 hv2 => ?_) (gr_n w k j) (Nat.le_refl _) 0 (fun z => ?_)
      · have ev : lb_n (gr_b w k j O) = lb_n O / 2 ^ (j * 2 ^ k) % 2 ^ gr_n w k j := by
          unfold gr_b
          rw [lb_nmask g1 (by omega), lb_ush (by omega)]
        have k9 := k119
        unfold gr_l gl_v at k9
        by_cases u0 : gr_b w k j U = 0
        · rw [if_pos u0]
          refine br_f (fun y => y rfl) ?_
          rw [if_pos u0] at k9
          have l16 := gr_16 hk hw hjw O
          rw [hv2 u0, ← ev]
          unfold wp_M_groups_117
          refine pk_le 10 (lb_n (gr_b w k j O)) (fun c => ?_) (fun c => ?_)
          · rw [if_neg (by omega)] at k9
            rw [show (97 : Int32) = nI 97 from rfl, nI_add, show (10 : Int32) = nI 10 from rfl, pk_sub (by omega), show 97 + lb_n (gr_b w k j O) - 10 = 87 + lb_n (gr_b w k j O) by omega]
            exact k9
          · rw [if_pos (by omega)] at k9
            rw [show (48 : Int32) = nI 48 from rfl, nI_add]
            exact k9
        · rw [if_neg u0] at k9 ⊢
          refine br_t ?_ k9
          have : ul_v (gr_b w k j O) (gr_b w k j U) (lb_low (gr_n w k j)) ≠ 0 := by
            unfold ul_v
            split
            · decide
            · split
              · decide
              · split <;> decide
          exact nI_ne0 (Nat.pos_of_ne_zero this) (by have := ul_l (gr_b w k j O) (gr_b w k j U) (lb_low (gr_n w k j)); omega)
      · rw [Nat.sub_self, Nat.pow_zero, Nat.mod_one]; rfl
    rw [wp_M_groups_20]
    dsimp only
    rw [ex5, nI_add]
    refine br_f (nI_pos (by omega)) ?_
    refine pk_le (j * 2 ^ k + 2 ^ k) w (fun c => ?_) (fun c => ?_)
    · have : gr_n w k j = 2 ^ k := by unfold gr_n; omega
      rw [this] at k41
      exact k41
    · have : j * 2 ^ k + gr_n w k j = w := by unfold gr_n; omega
      rw [this] at k41
      exact k41
theorem sm_groups {w k : Nat} {brief : Bool} {O U : Int64} (h1 : 1 ≤ w) (hw : w ≤ 64) (hk : k = 0 ∨ k = 2) (mO : lb_mk w O) (mU : lb_mk w U) (hA : rw_R ka w O U) (hq : ∀ (g : Nat → Int32) (l : Int32), tx_r g l (gt_v brief (gr_l w k O U) ((w - 1) / 2 ^ k + 1) []) → post kb kw ks ka kq kc kr g kd many l thr) : wp_M_groups post (nI (2 ^ k)) (nI w) (bi_v brief) kb kw ks ka kq kc kr kt kd many 0 thr := by
  have pk : 2 ^ k = 1 ∨ 2 ^ k = 4 := by rcases hk with rfl | rfl; exact Or.inl rfl; exact Or.inr rfl
  have hd := Nat.div_le_self (w - 1) (2 ^ k)
  have hm := Nat.div_mul_le_self (w - 1) (2 ^ k)
  have k9 : wp_M_groups_9 post (nI (2 ^ k)) (nI w) (bi_v (!brief)) kb kw ks ka kq kc kr kt kd many 0 thr := by
    unfold wp_M_groups_9
    refine ⟨nI_ne0 (by omega) (by omega), ?_⟩
    rw [show nI w - (1 : Int32) = nI (w - 1) from pk_sub (b := 1) h1, pk_div (by omega) (by omega) (by omega), pk_mul]
    intro v hv
    have e : nI ((w - 1) / 2 ^ k * 2 ^ k) = nI (((w - 1) / 2 ^ k + 1) * 2 ^ k) - nI (2 ^ k) := by
      rw [Nat.add_mul, Nat.one_mul, pk_sub (by omega), Nat.add_sub_cancel]
    rw [hv, e]
    refine ⟨(w - 1) / 2 ^ k + 1 + 1, ?_⟩
    have := lm_groupsM (post := post) (kb := kb) (kw := kw) (ks := ks) (kq := kq) (kc := kc) (kr := kr) (kd := kd) (many := many) (thr := thr) h1 hw hk mO mU hA hq ((w - 1) / 2 ^ k + 1) kt 0 [] (by rw [Nat.add_mul, Nat.one_mul]; omega) (by simp; omega) (tx_nil kt) rfl
    rw [show (!brief || !([] : List Nat).isEmpty) = !brief by simp] at this
    exact this
  unfold wp_M_groups
  cases brief
  · exact br_f (fun z => z rfl) k9
  · exact br_t (by decide) k9
end MSo
