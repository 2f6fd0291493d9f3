/-! join, part: class and reference alike -/
section MJ
variable {kb kw ks ka kq kc kr kt kd : Nat → Int32} {many tsz thr : Int32}
variable {post : (Nat → Int32) → (Nat → Int32) → (Nat → Int32) → (Nat → Int32) → (Nat → Int32) → (Nat → Int32) → (Nat → Int32) → (Nat → Int32) → (Nat → Int32) → Int32 → Int32 → Int32 → Prop}
theorem lm_join {p q w1 w2 : Nat} (hp : p < 64) (hq0 : q < 64) (h2 : w2 ≤ 64) (hw : w1 + w2 ≤ 64) (hkw : kw q = nI w2) (n1 : ∀ i, i < w1 → vp_nar .byte (kb (64 * p + i)) = kb (64 * p + i)) (n2 : ∀ i, i < w2 → vp_nar .byte (kb (64 * q + i)) = kb (64 * q + i))
    (hq : ∀ g : Nat → Int32, (∀ i, i < w1 + w2 → g i = if i < w2 then kb (64 * q + i) else kb (64 * p + (i - w2))) → wp_M_give_c (fun kb135 kw135 ks135 ka135 kq135 kc135 kr135 kt135 kd135 many135 tsz135 thr135 => post kb135 kw135 ks135 ka135 kq135 kc135 kr135 kt135 kd135 many135 tsz135 thr135) (nI (w1 + w2)) (0 : Int32) kb kw ks ka kq g kr kt kd (many - (2 : Int32)) tsz thr) :
    ∀ (k i : Nat) (g : Nat → Int32), i + k = w1 + w2 → (∀ j, j < i → g j = if j < w2 then kb (64 * q + j) else kb (64 * p + (j - w2))) → ∃ n, wp_M_join_54 post n (nI p) (nI q) (nI (w1 + w2)) (nI i) kb kw ks ka kq g kr kt kd many tsz thr := by
  have hin : vp_in (nI q) 64 := vp_in_nI hq0 (by decide)
  intro k
  induction k with
  | zero =>
    intro i g hi h1
    refine ⟨0 + 1, ?_⟩
    rw [wp_M_join_54]
    exact br_t (nI_le (by omega) (by omega)) (hq g (fun j hj => h1 j (by omega)))
  | succ k ih =>
    intro i g hi h1
    obtain ⟨n, hn⟩ := ih (i + 1) (upd g i (if i < w2 then kb (64 * q + i) else kb (64 * p + (i - w2)))) (by omega) (fun j hj => by
      by_cases d : j = i
      · subst d; exact pk_us
      · rw [pk_un d]; exact h1 j (by omega))
    have fin : ∀ x : Int32, vp_nar .byte x = (if i < w2 then kb (64 * q + i) else kb (64 * p + (i - w2))) → wp_M_join_111 (wp_M_join_54 post n) post (nI p) (nI q) (nI (w1 + w2)) (nI i) x (nI i) kb kw ks ka kq g kr kt kd many tsz thr := by
      intro x hx
      unfold wp_M_join_111
      refine ⟨vp_in_nI (by omega) (by decide), ?_⟩
      rw [nI_clamp (show i < 2 ^ 31 by omega), nI_1, hx]
      exact hn
    refine ⟨n + 1, ?_⟩
    rw [wp_M_join_54]
    refine br_f (nI_ge (by omega) (by omega)) ⟨hin, ?_⟩
    rw [nI_clamp (show q < 2 ^ 31 by omega), hkw]
    have e : (64 : Int32) * nI q + nI i = nI (64 * q + i) := by rw [ix_64, pk_mul, nI_add]
    refine pk_le w2 i (fun c => ⟨hin, ?_⟩) (fun c => ?_)
    · have e2 : (64 : Int32) * nI p + nI i - nI w2 = nI (64 * p + (i - w2)) := by
        rw [ix_64, pk_mul, nI_add, pk_sub (by omega)]
        congr 1
        omega
      rw [e2, nI_clamp (show 64 * p + (i - w2) < 2 ^ 31 by omega)]
      rw [if_neg (by omega)] at fin
      exact ⟨vp_in_nI (by omega) (by decide), fin _ (n1 _ (by omega))⟩
    · rw [e, nI_clamp (show 64 * q + i < 2 ^ 31 by omega)]
      rw [if_pos c] at fin
      exact ⟨vp_in_nI (by omega) (by decide), fin _ (n2 _ c)⟩
theorem lm_part {p h l w : Nat} (hp : p < 64) (hl : l ≤ h) (hh : h < w) (hw : w ≤ 64) (n1 : ∀ i, i < w → vp_nar .byte (kb (64 * p + i)) = kb (64 * p + i))
    (hq : ∀ g : Nat → Int32, (∀ i, i < h - l + 1 → g i = kb (64 * p + (l + i))) → wp_M_give_c (fun kb104 kw104 ks104 ka104 kq104 kc104 kr104 kt104 kd104 many104 tsz104 thr104 => post kb104 kw104 ks104 ka104 kq104 kc104 kr104 kt104 kd104 many104 tsz104 thr104) (nI (h - l + 1)) (0 : Int32) kb kw ks ka kq g kr kt kd (many - (1 : Int32)) tsz thr) :
    ∀ (k i : Nat) (g : Nat → Int32), i + k = h + 1 → l ≤ i → (∀ j, j < i - l → g j = kb (64 * p + (l + j))) → ∃ n, wp_M_part_50 post n (nI h) (nI l) (nI p) (nI i) kb kw ks ka kq g kr kt kd many tsz thr := by
  intro k
  induction k with
  | zero =>
    intro i g hi hli h1
    refine ⟨0 + 1, ?_⟩
    rw [wp_M_part_50]
    refine br_t (nI_lt (by omega) (by omega)) ?_
    rw [pk_sub hl, nI_1]
    exact hq g (fun j hj => h1 j (by omega))
  | succ k ih =>
    intro i g hi hli h1
    obtain ⟨n, hn⟩ := ih (i + 1) (upd g (i - l) (kb (64 * p + i))) (by omega) (by omega) (fun j hj => by
      by_cases d : j = i - l
      · subst d; rw [pk_us]; congr 1; omega
      · rw [pk_un d]; exact h1 j (by omega))
    refine ⟨n + 1, ?_⟩
    rw [wp_M_part_50]
    have e : (64 : Int32) * nI p + nI i = nI (64 * p + i) := by rw [ix_64, pk_mul, nI_add]
    dsimp only
    rw [e, pk_sub hli, nI_clamp (show 64 * p + i < 2 ^ 31 by omega), nI_clamp (show i - l < 2 ^ 31 by omega), n1 i (by omega), nI_1 i]
    exact br_f (nI_nlt (by omega) (by omega)) ⟨vp_in_nI (by omega) (by decide), vp_in_nI (by omega) (by decide), hn⟩
end MJ
section OPJ
variable {fO fU : Nat → Int64} {fW fG fL kb kw ks ka kq kc kr kt kd : Nat → Int32} {len size many tsz thr : Int32} {fo : Nat → Int64}
theorem op_join (R : re_L fO fU fW fG fL len size kb kw ks kt many tsz) :
    wp_L_join (fun r gO gU gW gG gL len' size' => wp_M_join (fun lb lw ls _ _ _ _ lt _ many' tsz' thr' => thr' = r ∧ re_L gO gU gW gG gL len' size' lb lw ls lt many' tsz') kb kw ks ka kq kc kr kt kd many tsz thr) fO fU fW fG fL len size := by
  have R0 := R
  obtain ⟨m, t, hm, ht, hsz, hmany, hlen, htsz, hP, hT⟩ := R
  unfold wp_L_join wp_X_join
  by_cases few : m < 2
  · refine Or.inr ⟨sx_vt (need := 2) (by decide) hm few hsz, Or.inr ⟨rfl, ?_⟩⟩
    unfold wp_M_join
    exact sm_refuse (need := 2) (room := 1) hm (by decide) (by decide) hmany (fun z => absurd rfl z) (fun _ _ => br_f (by decide) ⟨rfl, R0⟩) (fun _ z _ => by omega)
  · refine Or.inl (sx_vk (need := 2) (by decide) hm (by omega) hsz ?_)
    have e1 : nI m - (1 : Int32) = nI (m - 1) := pk_sub (b := 1) (by omega)
    have e2 : nI m - (2 : Int32) = nI (m - 2) := pk_sub (b := 2) (by omega)
    have i1 : vp_in (nI (m - 1)) 64 := vp_in_nI (by omega) (by decide)
    have i2 : vp_in (nI (m - 2)) 64 := vp_in_nI (by omega) (by decide)
    have cl1 : (nI (m - 1)).toNatClampNeg = m - 1 := nI_clamp (by omega)
    have cl2 : (nI (m - 2)).toNatClampNeg = m - 2 := nI_clamp (by omega)
    obtain ⟨w1, s1, a1, a2, a3, a4, a5, a6, a7, a8, a9⟩ := hP (m - 2) (by omega)
    obtain ⟨w2, s2, b1, b2, b3, b4, b5, b6, b7, b8, b9⟩ := hP (m - 1) (by omega)
    -- the reference up to its own look at the width
    have inM : ∀ {Q : (Nat → Int32) → (Nat → Int32) → (Nat → Int32) → (Nat → Int32) → (Nat → Int32) → (Nat → Int32) → (Nat → Int32) → (Nat → Int32) → (Nat → Int32) → Int32 → Int32 → Int32 → Prop}, ((w1 + w2 ≤ 64 → ∃ n54 : Nat, wp_M_join_54 Q n54 (nI (m - 2)) (nI (m - 1)) (nI (w1 + w2)) (0 : Int32) kb kw ks ka kq kc kr kt kd many tsz 0) ∧ (¬ w1 + w2 ≤ 64 → Q kb kw ks ka kq kc kr kt kd many tsz 1)) → wp_M_join Q kb kw ks ka kq kc kr kt kd many tsz thr := fun {Q} h => by
      unfold wp_M_join
      refine sm_refuse (need := 2) (room := 1) hm (by decide) (by decide) hmany (fun z => absurd rfl z) (fun _ z => by omega) (fun _ _ _ => br_t rfl ?_)
      intro v1 hv1 v2 hv2
      rw [hmany, e2] at hv1
      rw [hmany, e1] at hv2
      subst hv1
      subst hv2
      refine ⟨i2, i1, ?_⟩
      rw [cl1, cl2, a4, b4, nI_add]
      intro v hv
      subst hv
      exact pk_le (w1 + w2) 64 h.1 (fun z => h.2 (by omega))
    intro v1 hv1 v2 hv2
    rw [hsz] at hv1 hv2 ⊢
    rw [e2] at hv1
    rw [e1] at hv2
    subst hv1
    subst hv2
    refine ⟨i1, ?_⟩
    rw [cl1, cl2, b3]
    intro v3 hv3
    subst hv3
    refine ⟨i2, ?_⟩
    rw [a3, nI_add]
    intro v4 hv4
    subst hv4
    by_cases big : w1 + w2 ≤ 64
    · refine Or.inl (sx_rk (nI_nlt (b := 1) (by omega) (by omega)) (nI_le (b := 64) big (by decide)) ⟨i2, i1, i2, i1, ?_⟩)
      refine sx_setValue (w := w1 + w2) (g := 0) (by omega) big (Or.inl rfl) (fun gO gU gW gG g1 g2 g3 g4 g5 g6 g7 g8 => inM ⟨fun _ => ?_, fun z => absurd big z⟩)
      refine lm_join (by omega) (by omega) b2 big b4 (rw_Rn a9) (rw_Rn b9) (fun g hg => ?_) (w1 + w2) 0 kc (by omega) (fun j hj => by omega)
      have hr : rw_R g (w1 + w2) (gO (m - 2)) (gU (m - 2)) := by
        intro i hi
        rw [hg i hi, g1, g2, lb_maskt (by omega) big _ hi, lb_maskt (by omega) big _ hi, lb_or, lb_or, lb_shl (by omega) _ (by omega), lb_shl (by omega) _ (by omega)]
        by_cases c : i < w2
        · rw [if_pos c, decide_eq_false (by omega), Bool.false_and, Bool.false_and, Bool.false_or, Bool.false_or]
          exact b9 i c
        · rw [if_neg c, decide_eq_true (by omega), Bool.true_and, Bool.true_and, b7 i (by omega), b8 i (by omega), Bool.or_false, Bool.or_false]
          exact a9 (i - w2) (by omega)
      rw [hmany, e2]
      refine sm_give_c (m := m - 2) (s := false) (by omega) big rfl (rw_Rn hr) (fun lb lw ls r1 r2 r3 r4 r5 r6 => ⟨rfl, ?_⟩)
      exact re_fin (s := false) (n := m - 2) (by omega) ht (re_less hP (by omega)) hT hlen htsz (by rw [e1]; congr 1; omega) rfl (fun q hq => g5 q (by omega)) (fun q hq => g6 q (by omega)) (fun q hq => g7 q (by omega)) (fun q hq => g8 q (by omega)) r2 (fun q hq => r4 q (by omega)) (fun q hq => r6 q (by omega)) (by omega) big g3 r3 g4 r5 (by rw [g1]; exact lb_mask (by omega) big _) (by rw [g2]; exact lb_mask (by omega) big _) (rw_Rc hr r1)
    · refine Or.inr ⟨sx_rt (Or.inr (nI_ge (a := 64) (by omega) (by omega))), Or.inl ⟨rfl, inM ⟨fun z => absurd z big, fun _ => ⟨rfl, ?_⟩⟩⟩⟩
      rw [← hsz]
      exact R0
theorem op_part {a b : Int32} (R : re_L fO fU fW fG fL len size kb kw ks kt many tsz) :
    wp_L_part (fun r gO gU gW gG gL len' size' => wp_M_part (fun lb lw ls _ _ _ _ lt _ many' tsz' thr' => thr' = r ∧ re_L gO gU gW gG gL len' size' lb lw ls lt many' tsz') a b kb kw ks ka kq kc kr kt kd many tsz thr) a b fO fU fW fG fL len size := by
  have R0 := R
  obtain ⟨m, t, hm, ht, hsz, hmany, hlen, htsz, hP, hT⟩ := R
  unfold wp_L_part wp_X_part
  by_cases c : b < 0 ∨ ¬ b ≤ a
  · refine Or.inr ⟨sx_rt c, Or.inl ⟨rfl, ?_⟩⟩
    have f : wp_M_part_10 (fun lb lw ls _ _ _ _ lt _ many' tsz' thr' => thr' = (1 : Int32) ∧ re_L fO fU fW fG fL len size lb lw ls lt many' tsz') a b kb kw ks ka kq kc kr kt kd many tsz thr := by
      unfold wp_M_part_10 wp_M_part_15
      exact sm_refuse (need := 1) (room := 1) hm (by decide) (by decide) hmany (fun _ => br_f (by decide) ⟨rfl, R0⟩) (fun z => absurd z (by decide)) (fun z => absurd z (by decide))
    unfold wp_M_part
    by_cases d : b < 0
    · exact br_t d f
    · exact br_f d (br_f (c.resolve_left d) f)
  · have c1 : ¬ b < 0 := fun z => c (Or.inl z)
    have c2 : b ≤ a := Classical.byContradiction (fun z => c (Or.inr z))
    obtain ⟨l, hl31, rfl⟩ := nI_of c1
    have c3 : ¬ a < 0 := fun z => c1 (Int32.lt_of_le_of_lt c2 z)
    obtain ⟨h, hh31, rfl⟩ := nI_of c3
    have lh : l ≤ h := (nI_leI hl31 hh31).mp c2
    refine Or.inl (sx_rk c1 c2 ?_)
    have inM : ∀ {Q : (Nat → Int32) → (Nat → Int32) → (Nat → Int32) → (Nat → Int32) → (Nat → Int32) → (Nat → Int32) → (Nat → Int32) → (Nat → Int32) → (Nat → Int32) → Int32 → Int32 → Int32 → Prop}, wp_M_part_15 Q (nI h) (nI l) 0 kb kw ks ka kq kc kr kt kd many tsz thr → wp_M_part Q (nI h) (nI l) kb kw ks ka kq kc kr kt kd many tsz thr := fun h => by
      unfold wp_M_part
      exact br_f c1 (br_t c2 h)
    by_cases few : m < 1
    · refine Or.inr ⟨sx_vt (need := 1) (by decide) hm few hsz, Or.inr ⟨rfl, inM ?_⟩⟩
      unfold wp_M_part_15
      exact sm_refuse (need := 1) (room := 1) hm (by decide) (by decide) hmany (fun z => absurd rfl z) (fun _ _ => br_f (by decide) ⟨rfl, R0⟩) (fun _ z _ => by omega)
    · refine Or.inl (sx_vk (need := 1) (by decide) hm (by omega) hsz ?_)
      have e1 : nI m - (1 : Int32) = nI (m - 1) := pk_sub (b := 1) (by omega)
      have i1 : vp_in (nI (m - 1)) 64 := vp_in_nI (by omega) (by decide)
      have cl1 : (nI (m - 1)).toNatClampNeg = m - 1 := nI_clamp (by omega)
      obtain ⟨w, s, a1, a2, a3, a4, a5, a6, a7, a8, a9⟩ := hP (m - 1) (by omega)
      have ew : nI w - (1 : Int32) = nI (w - 1) := pk_sub (b := 1) a1
      intro v hv
      rw [hsz] at hv ⊢
      rw [e1] at hv
      subst hv
      refine ⟨i1, ?_⟩
      rw [cl1, a3, ew]
      have inN : ∀ {Q : (Nat → Int32) → (Nat → Int32) → (Nat → Int32) → (Nat → Int32) → (Nat → Int32) → (Nat → Int32) → (Nat → Int32) → (Nat → Int32) → (Nat → Int32) → Int32 → Int32 → Int32 → Prop}, ((h < w → ∃ n50 : Nat, wp_M_part_50 Q n50 (nI h) (nI l) (nI (m - 1)) (nI l) kb kw ks ka kq kc kr kt kd many tsz 0) ∧ (¬ h < w → Q kb kw ks ka kq kc kr kt kd many tsz 1)) → wp_M_part Q (nI h) (nI l) kb kw ks ka kq kc kr kt kd many tsz thr := fun {Q} k => inM (by
        unfold wp_M_part_15
        refine sm_refuse (need := 1) (room := 1) hm (by decide) (by decide) hmany (fun z => absurd rfl z) (fun _ z => by omega) (fun _ _ _ => br_t rfl ?_)
        intro v hv
        rw [hmany, e1] at hv
        subst hv
        refine ⟨i1, ?_⟩
        rw [cl1, a4]
        exact pk_lt h w k.1 (fun z => k.2 (by omega)))
      by_cases big : h < w
      · refine Or.inl (sx_rk c3 (nI_le (by omega) (by omega)) ⟨i1, i1, ?_⟩)
        rw [pk_sub lh, nI_1]
        refine sx_setValue (w := h - l + 1) (g := 0) (by omega) (by omega) (Or.inl rfl) (fun gO gU gW gG g1 g2 g3 g4 g5 g6 g7 g8 => inN ⟨fun _ => ?_, fun z => absurd big z⟩)
        refine lm_part (by omega) lh big a2 (rw_Rn a9) (fun g hg => ?_) (h + 1 - l) l kc (by omega) (Nat.le_refl _) (fun j hj => by omega)
        have hr : rw_R g (h - l + 1) (gO (m - 1)) (gU (m - 1)) := by
          intro i hi
          rw [hg i hi, g1, g2, lb_maskt (by omega) (by omega) _ hi, lb_maskt (by omega) (by omega) _ hi, lb_ushr (by omega), lb_ushr (by omega)]
          exact a9 (l + i) (by omega)
        rw [hmany, e1]
        refine sm_give_c (m := m - 1) (s := false) (by omega) (by omega) rfl (rw_Rn hr) (fun lb lw ls r1 r2 r3 r4 r5 r6 => ⟨rfl, ?_⟩)
        exact re_fin (s := false) (n := m - 1) (by omega) ht (re_less hP (by omega)) hT hlen htsz (by congr 1; omega) rfl (fun q hq => g5 q (by omega)) (fun q hq => g6 q (by omega)) (fun q hq => g7 q (by omega)) (fun q hq => g8 q (by omega)) r2 (fun q hq => r4 q (by omega)) (fun q hq => r6 q (by omega)) (by omega) (by omega) g3 r3 g4 r5 (by rw [g1]; exact lb_mask (by omega) (by omega) _) (by rw [g2]; exact lb_mask (by omega) (by omega) _) (rw_Rc hr r1)
      · refine Or.inr ⟨sx_rt (Or.inr (nI_ge (by omega) hh31)), Or.inl ⟨rfl, inN ⟨fun z => absurd z big, fun _ => ⟨rfl, ?_⟩⟩⟩⟩
        rw [← hsz]
        exact R0
end OPJ
