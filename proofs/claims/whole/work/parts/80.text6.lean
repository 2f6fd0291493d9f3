/-! the reference's number; text: class and reference alike -/
section MNu
variable {kb kw ks ka kq kc kr kt kd : Nat → Int32} {many tsz thr : Int32}
variable {post : (Nat → Int32) → (Nat → Int32) → (Nat → Int32) → (Nat → Int32) → (Nat → Int32) → (Nat → Int32) → (Nat → Int32) → (Nat → Int32) → (Nat → Int32) → Int32 → Int32 → Int32 → Prop}
theorem dl_take {d N t : Nat} (h : t < d) : (dl_v d N).take (d - t) = (dl_v d N).take (d - (t + 1)) ++ [48 + N / 10 ^ t % 10] := by
  have e : d - t = d - (t + 1) + 1 := by omega
  rw [e, List.take_add_one, dl_at (by omega), show d - 1 - (d - (t + 1)) = t by omega]
  rfl
theorem lm_num171 {d N : Nat} {T : List Nat} (hd : d ≤ 20) (hT : T.length + d ≤ 64) (hk : ∀ k, k < 24 → kd k = nI (N / 10 ^ k % 10)) (hq : ∀ (g : Nat → Int32) (l : Int32), tx_r g l (T ++ dl_v d N) → post kb kw ks ka kq kc kr g kd many l thr) :
    ∀ (t : Nat) (f : Nat → Int32) (l : Int32), t ≤ d → tx_r f l (T ++ (dl_v d N).take (d - t)) → wp_M_number_171 post (t + 1) (nI 0) (nI t + (-1)) kb kw ks ka kq kc kr f kd many l thr := by
  intro t
  induction t with
  | zero =>
    intro f l _ h
    rw [wp_M_number_171]
    refine br_t (by decide) (hq f l ?_)
    rw [Nat.sub_zero, List.take_of_length_le (by rw [dl_len]; exact Nat.le_refl _)] at h
    exact h
  | succ t ih =>
    intro f l ht h
    have hm := Nat.mod_lt (N / 10 ^ t) (show 0 < 10 by decide)
    rw [wp_M_number_171]
    dsimp only
    rw [pk_m1, nI_clamp (by omega), hk t (by omega), show (48 : Int32) = nI 48 from rfl, nI_add]
    refine br_f (nI_pos (by omega)) (br_t rfl ⟨vp_in_nI (by omega) (by decide), ?_⟩)
    unfold wp_M_number_197
    refine sm_put h (by omega) (by rw [List.length_append, List.length_take, dl_len]; omega) (fun g k h2 => ?_)
    refine ih g k (by omega) ?_
    rw [dl_take (by omega), ← List.append_assoc]
    exact h2
theorem lm_num131 {c x6 n0 : Nat} {x5 x7 : Int32} {brief : Bool} (hc : c ≤ 21) :
    ∀ (k i : Nat) (f : Nat → Int32) (l : Int32) (T : List Nat), i + k = c ∨ (c ≤ i ∧ k = 0) → T.length + k ≤ 30 → i ≤ 30 → tx_r f l T → (∀ (g : Nat → Int32) (j : Int32), tx_r g j (T ++ List.replicate (if brief then 0 else k) 32) → wp_M_number_154 post x5 (nI x6) x7 kb kw ks ka kq kc kr g kd many j thr) → wp_M_number_131 post (k + 1) (bi_v brief) (nI c) x5 (nI x6) x7 (nI i) kb kw ks ka kq kc kr f kd many l thr := by
  intro k
  induction k with
  | zero =>
    intro i f l T hi hT h30 h hq
    have ci : c ≤ i := by omega
    rw [wp_M_number_131]
    refine br_t (nI_le ci (by omega)) (hq f l ?_)
    have : (if brief = true then 0 else 0) = 0 := by cases brief <;> rfl
    rw [this, List.replicate_zero, List.append_nil]
    exact h
  | succ k ih =>
    intro i f l T hi hT h30 h hq
    have ci : i + (k + 1) = c := by omega
    rw [wp_M_number_131]
    refine br_f (nI_ge (by omega) (by omega)) ?_
    cases brief
    · refine br_f (fun z => z rfl) ?_
      refine sm_put (c := 32) h (by decide) (by omega) (fun g j h2 => ?_)
      rw [nI_1]
      refine ih (i + 1) g j (T ++ [32]) (Or.inl (by omega)) (by rw [List.length_append]; simp; omega) (by omega) h2 (fun g2 j2 h3 => hq g2 j2 ?_)
      simp only [Bool.false_eq_true, if_false] at h3 ⊢
      rw [List.append_assoc] at h3
      exact h3
    · refine br_t (by decide) (hq f l ?_)
      simp only [if_true]
      rw [List.replicate_zero, List.append_nil]
      exact h
theorem sm_number {w : Nat} {s brief : Bool} {O U : Int64} (h1 : 1 ≤ w) (hw : w ≤ 64) (mO : lb_mk w O) (mU : lb_mk w U) (hA : rw_R ka w O U)
    (hq : ∀ (c d N : Nat) (neg : Bool) (ga gc gd g : Nat → Int32) (l : Int32), nc_is c w s → neg = (s && decide (lb_n O / 2 ^ (w - 1) % 2 = 1)) → N = sg_a neg w (lb_n O) → (U = 0 → dg_is d N) → tx_r g l (nt_v (if brief then 0 else c) (if U = 0 then 0 else ul_v O U (lb_low w)) d N neg) → post kb kw ks ga kq gc kr g gd many l thr) : wp_M_number post (nI w) (bi_v s) (bi_v brief) kb kw ks ka kq kc kr kt kd many 0 thr := by
  have n1 := lb_mkn.mp mO
  have h64 : 2 ^ w ≤ 2 ^ 64 := Nat.pow_le_pow_right (by decide) hw
  have hp1 : 2 ^ w = 2 * 2 ^ (w - 1) := by rw [Nat.mul_comm, ← Nat.pow_succ]; congr 1; omega
  have ew : nI w - (1 : Int32) = nI (w - 1) := pk_sub (b := 1) h1
  -- behind the columns, with the rows c and digits
  have k41 : ∀ (c : Nat) (gc gd : Nat → Int32) (t0 t1 : Int32), t1 + t0 = nI c → nc_is c w s → wp_M_number_41 post (nI w) (bi_v s) (bi_v brief) t0 t1 kb kw ks ka kq gc kr kt gd many 0 thr := by
    intro c gc gd t0 t1 ht hc
    have c21 := (nc_le hw hc).2
    have c1 := (nc_le hw hc).1
    unfold wp_M_number_41
    rw [ht]
    intro v hv
    subst hv
    have cut : nI (0 + w) = nI w := by rw [Nat.zero_add]
    have srt := fun (Q : Int32 → (Nat → Int32) → (Nat → Int32) → (Nat → Int32) → (Nat → Int32) → (Nat → Int32) → (Nat → Int32) → (Nat → Int32) → (Nat → Int32) → (Nat → Int32) → Int32 → Int32 → Int32 → Prop) (h : Q (nI (if U = 0 then 0 else ul_v O U (lb_low w))) kb kw ks ka kq gc kr kt gd many 0 thr) => sm_sort (posi := Q) (lo := 0) (n := w) (o := O) (u := U) hw h1 (by omega) hA mO mU (fun j _ => by rw [Nat.zero_add]) (fun j _ => by rw [Nat.zero_add]) h
    rw [cut] at srt
    refine srt _ ?_
    by_cases u0 : U = 0
    · rw [if_pos u0]
      refine br_f (fun z => z rfl) ?_
      have hN : rw_N ka w (lb_n O) := rw_RN (by rw [u0] at hA; exact hA)
      -- with the magnitude in a
      have k96 : ∀ (neg : Bool) (N : Nat) (ga : Nat → Int32), neg = (s && decide (lb_n O / 2 ^ (w - 1) % 2 = 1)) → N = sg_a neg w (lb_n O) → N < 2 ^ w → rw_N ga w N → wp_M_number_96 post (nI w) (bi_v brief) (nI c) (nI 0) (1 : Int32) (bi_v neg) kb kw ks ga kq gc kr kt gd many 0 thr := by
        intro neg N ga hn hNe hNl hga
        unfold wp_M_number_96
        refine br_f (fun z => z rfl) ?_
        refine sm_decimal hw hNl hga (fun d g2 hd hg2 => ?_)
        have d20 := dg_20 hd (by omega)
        have d1 := hd.1
        have nb : neg.toNat ≤ 1 := by cases neg <;> decide
        have k128 : wp_M_number_128 post (bi_v brief) (nI c) (nI 0) (nI d) (bi_v neg) (nI neg.toNat) (nI d) kb kw ks ga kq gc kr kt g2 many 0 thr := by
          unfold wp_M_number_128
          rw [nI_add]
          intro v hv
          subst hv
          refine ⟨c - (d + neg.toNat) + 1, lm_num131 (n0 := 0) c21 _ _ kt 0 [] (by omega) (by simp; omega) (by omega) (tx_nil kt) (fun g j h => ?_)⟩
          rw [List.nil_append] at h
          have rl : (if brief = true then 0 else c - (d + neg.toNat)) = (if brief = true then 0 else c) - d - neg.toNat := by cases brief <;> simp <;> omega
          rw [rl] at h
          have ll : ((if brief = true then 0 else c) - d - neg.toNat) ≤ 21 := by cases brief <;> simp <;> omega
          have tail : ∀ (g : Nat → Int32) (j : Int32) (T : List Nat), tx_r g j T → T = List.replicate ((if brief = true then 0 else c) - d - neg.toNat) 32 ++ (if neg = true then [45] else []) → wp_M_number_165 post (nI 0) (nI d) kb kw ks ga kq gc kr g g2 many j thr := by
            intro g j T hT hTe
            have tl : T.length ≤ 22 := by
              rw [hTe, List.length_append, List.length_replicate]
              cases neg <;> simp <;> omega
            unfold wp_M_number_165
            intro v hv
            rw [hv, nm_1 d d1]
            refine ⟨d + 1, lm_num171 (T := T) d20 (by omega) hg2 (fun g3 l3 h3 => hq c d N neg ga gc g2 g3 l3 hc hn hNe (fun _ => hd) ?_) d g j (Nat.le_refl _) (by rw [Nat.sub_self, List.take_zero, List.append_nil]; exact hT)⟩
            unfold nt_v
            rw [if_pos u0, if_pos rfl, ← hTe]
            exact h3
          unfold wp_M_number_154
          cases neg
          · exact br_t rfl (tail g j _ h (by simp))
          · refine br_f (by decide) ?_
            refine sm_put (c := 45) h (by decide) (by rw [List.length_replicate]; omega) (fun g3 j3 h3 => ?_)
            exact tail g3 j3 _ h3 (by simp)
        unfold wp_M_number_116
        cases neg
        · exact br_t rfl k128
        · exact br_f (by decide) k128
      have pos : (s && decide (lb_n O / 2 ^ (w - 1) % 2 = 1)) = false → wp_M_number_80 post (nI w) (bi_v brief) (nI c) (nI 0) (1 : Int32) kb kw ks ka kq gc kr kt gd many 0 thr := fun z => by
        unfold wp_M_number_80 wp_M_number_81
        exact br_t rfl (k96 false (lb_n O) ka z.symm rfl n1 hN)
      rw [ew, nI_clamp (by omega), hN (w - 1) (by omega)]
      cases s
      · exact br_t rfl (pos rfl)
      · refine br_f (by decide) ⟨vp_in_nI (by omega) (by decide), ?_⟩
        by_cases top : lb_n O / 2 ^ (w - 1) % 2 = 1
        · rw [top]
          refine br_f (fun z => z rfl) ?_
          unfold wp_M_number_81
          refine br_f (by decide) ?_
          have l0 : lb_n O ≠ 0 := fun z => by rw [z, Nat.zero_div] at top; exact absurd top (by decide)
          refine sm_negate hw n1 hN (fun g hg => k96 true (2 ^ w - lb_n O) g (by rw [decide_eq_true top]; rfl) rfl (by omega) hg)
        · exact br_t (fun z => top ((nI_eq (b := 1) (by have := bn_2 (lb_n O) (w - 1); omega) (by decide)).mp z)) (pos (by rw [decide_eq_false top]; rfl))
    · rw [if_neg u0]
      have ul0 : ul_v O U (lb_low w) ≠ 0 := by
        unfold ul_v
        split
        · decide
        · split
          · decide
          · split <;> decide
      have ull := ul_l O U (lb_low w)
      have rn : ¬ nI (ul_v O U (lb_low w)) = 0 := nI_ne0 (Nat.pos_of_ne_zero ul0) (by omega)
      refine br_t rn ?_
      unfold wp_M_number_80 wp_M_number_81
      refine br_t rfl ?_
      unfold wp_M_number_96
      refine br_t rn ?_
      unfold wp_M_number_116
      refine br_t rfl ?_
      unfold wp_M_number_128
      intro v hv
      have e1 : (1 : Int32) + 0 = nI 1 := by decide
      rw [hv, e1]
      refine ⟨c - 1 + 1, lm_num131 (x6 := 1) (n0 := 0) c21 _ _ kt 0 [] (Or.inl (by omega)) (by simp; omega) (by decide) (tx_nil kt) (fun g j h => ?_)⟩
      rw [List.nil_append] at h
      have rl : (if brief = true then 0 else c - 1) = (if brief = true then 0 else c) - 1 := by cases brief <;> simp
      rw [rl] at h
      have ll : ((if brief = true then 0 else c) - 1) ≤ 21 := by cases brief <;> simp <;> omega
      unfold wp_M_number_154 wp_M_number_165
      refine br_t rfl ?_
      intro v hv
      rw [hv, nm_1 1 (Nat.le_refl _)]
      refine ⟨1 + 1, ?_⟩
      rw [wp_M_number_171]
      dsimp only
      refine br_f (by decide) (br_f rn ?_)
      unfold wp_M_number_197
      refine sm_put h ull (by rw [List.length_replicate]; omega) (fun g3 j3 h3 => ?_)
      rw [wp_M_number_171]
      refine br_t (by decide) (hq c 0 _ _ ka gc gd g3 j3 hc rfl rfl (fun z => absurd z u0) ?_)
      unfold nt_v
      rw [if_neg u0, if_neg ul0]
      exact h3
  unfold wp_M_number
  refine sm_fill (v := 1) hw (by decide) (fun gc hgc => ?_)
  have ones : ∀ k, k ≤ w → rw_N gc k (2 ^ k - 1) := fun k hk i hi => by
    rw [hgc i (by omega), bn_t, Nat.testBit_two_pow_sub_one, decide_eq_true hi]; rfl
  unfold wp_M_number_25
  cases s
  · refine br_t rfl ?_
    refine sm_decimal hw (by have := Nat.two_pow_pos w; omega) (ones w (Nat.le_refl _)) (fun d g hd _ => br_t rfl ?_)
    exact k41 d gc g 0 (nI d) (by exact Int32.add_zero _) hd
  · refine br_f (by decide) ?_
    rw [ew]
    refine sm_decimal (by omega) (by have := Nat.two_pow_pos (w - 1); omega) (ones (w - 1) (by omega)) (fun d g hd _ => br_f (by decide) ?_)
    refine k41 (d + 1) gc g 1 (nI d) (nI_1 d) ⟨d, ?_, rfl⟩
    have e : (2 ^ w - 1) / 2 = 2 ^ (w - 1) - 1 := by have := Nat.two_pow_pos (w - 1); omega
    rw [e]
    exact hd
end MNu
theorem dg_20b {d N : Nat} (h : dg_is d N) (hN : N < 100000000000000000000) : d ≤ 20 := by
  obtain ⟨h1, h2, h3⟩ := h
  apply Classical.byContradiction
  intro c
  have : 10 ^ 20 ≤ 10 ^ (d - 1) := Nat.pow_le_pow_right (by decide) (by omega)
  omega
section OPT
variable {fO fU : Nat → Int64} {fW fG fL kb kw ks ka kq kc kr kt kd : Nat → Int32} {len size many tsz thr : Int32} {fo : Nat → Int64}
theorem op_text {a : Int32} {brief : Bool} (R : re_L fO fU fW fG fL len size kb kw ks kt many tsz) :
    wp_L_text (fun r gO gU gW gG gL len' size' fo' => wp_M_text (fun b lb lw ls _ _ _ _ lt _ many' tsz' thr' => thr' = r ∧ (r = 0 → fo' 0 = b.toInt64) ∧ re_L gO gU gW gG gL len' size' lb lw ls lt many' tsz') a (bi_v brief) kb kw ks ka kq kc kr kt kd many tsz thr) a (bi_v brief) fO fU fW fG fL len size fo := by
  have R0 := R
  obtain ⟨m, t, hm, ht, hsz, hmany, hlen, htsz, hP, hT⟩ := R
  unfold wp_L_text wp_X_text
  by_cases c : a < 0 ∨ ¬ a ≤ 2
  · refine Or.inr ⟨sx_rt c, Or.inl ⟨rfl, ?_⟩⟩
    have f : wp_M_text_10 (fun b lb lw ls _ _ _ _ lt _ many' tsz' thr' => thr' = (1 : Int32) ∧ ((1 : Int32) = 0 → fo 0 = b.toInt64) ∧ re_L fO fU fW fG fL len size lb lw ls lt many' tsz') a (bi_v brief) kb kw ks ka kq kc kr kt kd many tsz thr := by
      unfold wp_M_text_10 wp_M_text_15
      exact sm_refuse (need := 1) (room := 1) hm (by decide) (by decide) hmany (fun _ => br_f (by decide) ⟨rfl, fun z => absurd z (by decide), R0⟩) (fun z => absurd z (by decide)) (fun z => absurd z (by decide))
    unfold wp_M_text
    by_cases d : a < 0
    · exact br_t d f
    · exact br_f d (br_f (c.resolve_left d) f)
  · have c1 : ¬ a < 0 := fun z => c (Or.inl z)
    have c2 : a ≤ 2 := Classical.byContradiction (fun z => c (Or.inr z))
    obtain ⟨fm, -, hfm, rfl⟩ := in_rg (lo := 0) (hi := 2) (by decide) (by decide) c1 c2
    refine Or.inl (sx_rk c1 c2 ?_)
    have inM : ∀ {Q : Int32 → (Nat → Int32) → (Nat → Int32) → (Nat → Int32) → (Nat → Int32) → (Nat → Int32) → (Nat → Int32) → (Nat → Int32) → (Nat → Int32) → (Nat → Int32) → Int32 → Int32 → Int32 → Prop}, wp_M_text_15 Q (nI fm) (bi_v brief) 0 kb kw ks ka kq kc kr kt kd many tsz thr → wp_M_text Q (nI fm) (bi_v brief) kb kw ks ka kq kc kr kt kd many tsz thr := fun h => by
      unfold wp_M_text
      exact br_f c1 (br_t c2 h)
    by_cases few : m < 1
    · refine Or.inr ⟨sx_vt (need := 1) (by decide) hm few hsz, Or.inr ⟨rfl, inM ?_⟩⟩
      unfold wp_M_text_15
      exact sm_refuse (need := 1) (room := 1) hm (by decide) (by decide) hmany (fun z => absurd rfl z) (fun _ _ => br_f (by decide) ⟨rfl, fun z => absurd z (by decide), R0⟩) (fun _ z _ => by omega)
    · refine Or.inl (sx_vk (need := 1) (by decide) hm (by omega) hsz ?_)
      have e1 : nI m - (1 : Int32) = nI (m - 1) := pk_sub (b := 1) (by omega)
      have i1 : vp_in (nI (m - 1)) 64 := vp_in_nI (by omega) (by decide)
      have cl1 : (nI (m - 1)).toNatClampNeg = m - 1 := nI_clamp (by omega)
      have o0 : vp_in (0 : Int32) 1 := vp_in_nI (n := 0) (by decide) (by decide)
      obtain ⟨w, s, a1, a2, a3, a4, a5, a6, a7, a8, a9⟩ := hP (m - 1) (by omega)
      have z0 : nI fm = (0 : Int32) ↔ fm = 0 := nI_eq (b := 0) (by omega) (by decide)
      have z2 : nI fm = (2 : Int32) ↔ fm = 2 := nI_eq (b := 2) (by omega) (by decide)
      -- the end: the same letters on both sides
      have fin : ∀ (T : List Nat) (g h : Nat → Int32) (l k : Int32), T.length ≤ 64 → tx_r g l T → tx_r h k T → (l.toInt64 = k.toInt64) ∧ re_L fO fU fW fG g l (nI m - 1) kb kw ks h (nI (m - 1)) k := by
        intro T g h l k hl h1 h2
        exact ⟨by rw [h1.1, h2.1], m - 1, T.length, by omega, hl, e1, rfl, h1.1, h2.1, re_less hP (by omega), tx_T h1 h2⟩
      -- the reference up to its own writing
      have inN : ∀ {Q : Int32 → (Nat → Int32) → (Nat → Int32) → (Nat → Int32) → (Nat → Int32) → (Nat → Int32) → (Nat → Int32) → (Nat → Int32) → (Nat → Int32) → (Nat → Int32) → Int32 → Int32 → Int32 → Prop}, (∀ ga : Nat → Int32, rw_R ga w (fO (m - 1)) (fU (m - 1)) → (fm = 2 → wp_M_number (fun kb82 kw82 ks82 ka82 kq82 kc82 kr82 kt82 kd82 many82 tsz82 thr82 => wp_M_text_104 Q kb82 kw82 ks82 ka82 kq82 kc82 kr82 kt82 kd82 many82 tsz82 thr82) (nI w) (bi_v s) (bi_v brief) kb kw ks ga kq kc kr kt kd (nI (m - 1)) 0 0) ∧ (fm = 1 → wp_M_groups (fun kb101 kw101 ks101 ka101 kq101 kc101 kr101 kt101 kd101 many101 tsz101 thr101 => wp_M_text_104 Q kb101 kw101 ks101 ka101 kq101 kc101 kr101 kt101 kd101 many101 tsz101 thr101) (nI (2 ^ 2)) (nI w) (bi_v brief) kb kw ks ga kq kc kr kt kd (nI (m - 1)) 0 0) ∧ (fm = 0 → wp_M_groups (fun kb101 kw101 ks101 ka101 kq101 kc101 kr101 kt101 kd101 many101 tsz101 thr101 => wp_M_text_104 Q kb101 kw101 ks101 ka101 kq101 kc101 kr101 kt101 kd101 many101 tsz101 thr101) (nI (2 ^ 0)) (nI w) (bi_v brief) kb kw ks ga kq kc kr kt kd (nI (m - 1)) 0 0)) → wp_M_text Q (nI fm) (bi_v brief) kb kw ks ka kq kc kr kt kd many tsz thr := fun {Q} k => inM (by
        unfold wp_M_text_15
        refine sm_refuse (need := 1) (room := 1) hm (by decide) (by decide) hmany (fun z => absurd rfl z) (fun _ z => by omega) (fun _ _ _ => br_t rfl ?_)
        intro v hv
        rw [hmany, e1] at hv
        subst hv
        refine ⟨i1, ?_⟩
        rw [cl1, a4]
        intro v2 hv2
        subst hv2
        refine sm_take_a (s := false) (by omega) a1 a2 a1 a2 a4 a7 a8 a9 (fun ga r => ?_)
        rw [xt_same a1 a2 a7, xt_same a1 a2 a8] at r
        obtain ⟨k2, k1, k0⟩ := k ga r
        rw [hmany, e1, z2, z0, a6]
        unfold wp_M_text_98
        exact br_c (fun n2 => br_c (fun n0 => k1 (by omega)) (fun n0 => k0 (Classical.byContradiction n0))) (fun n2 => ⟨i1, k2 (Classical.byContradiction n2)⟩))
      intro v hv
      rw [hsz] at hv ⊢
      rw [e1] at hv
      subst hv
      unfold wp_N_clear
      rw [z2, z0]
      have grp : ∀ k : Nat, (k = 0 ∨ k = 2) → ((k = 2 → fm = 1) ∧ (k = 0 → fm = 0)) → wp_X_text_50 (fun r10 fO10 fU10 fW10 fG10 fL10 len10 size10 => (vp_in (0 : Int32) 1 ∧ wp_M_text (fun b lb lw ls _ _ _ _ lt _ many' tsz' thr' => thr' = (0 : Int32) ∧ ((0 : Int32) = 0 → (vp_updL fo (0 : Int32).toNatClampNeg r10.toInt64) 0 = b.toInt64) ∧ re_L fO10 fU10 fW10 fG10 fL10 len10 size10 lb lw ls lt many' tsz') (nI fm) (bi_v brief) kb kw ks ka kq kc kr kt kd many tsz thr)) (fun (E9 : String) fO10x fU10x fW10x fG10x fL10x len10x size10x => (E9 = "java/lang/IllegalArgumentException" ∧ wp_M_text (fun b lb lw ls _ _ _ _ lt _ many' tsz' thr' => thr' = (1 : Int32) ∧ ((1 : Int32) = 0 → fo 0 = b.toInt64) ∧ re_L fO10x fU10x fW10x fG10x fL10x len10x size10x lb lw ls lt many' tsz') (nI fm) (bi_v brief) kb kw ks ka kq kc kr kt kd many tsz thr) ∨ (E9 = "java/lang/IllegalStateException" ∧ wp_M_text (fun b lb lw ls _ _ _ _ lt _ many' tsz' thr' => thr' = (2 : Int32) ∧ ((2 : Int32) = 0 → fo 0 = b.toInt64) ∧ re_L fO10x fU10x fW10x fG10x fL10x len10x size10x lb lw ls lt many' tsz') (nI fm) (bi_v brief) kb kw ks ka kq kc kr kt kd many tsz thr)) (bi_v brief) (nI k) (nI (m - 1)) fO fU fW fG fL (0 : Int32) (nI m) := by
        intro k hk hf
        have pk : 2 ^ k = 1 ∨ 2 ^ k = 4 := by rcases hk with rfl | rfl; exact Or.inl rfl; exact Or.inr rfl
        have gl := gt_len brief (gr_l w k (fO (m - 1)) (fU (m - 1))) ((w - 1) / 2 ^ k + 1) []
        have hd := Nat.div_le_self (w - 1) (2 ^ k)
        rw [List.length_nil] at gl
        unfold wp_X_text_50
        refine sx_groups (by omega) a1 a2 hk a3 (fun g l h1 => ?_)
        unfold wp_X_text_54
        refine ⟨o0, inN (fun ga r => ?_)⟩
        have go : ∀ (g2 : Nat → Int32) (l2 : Int32), tx_r g2 l2 (gt_v brief (gr_l w k (fO (m - 1)) (fU (m - 1))) ((w - 1) / 2 ^ k + 1) []) → ((0 : Int32) = 0 ∧ ((0 : Int32) = 0 → (vp_updL fo (0 : Int32).toNatClampNeg l.toInt64) 0 = l2.toInt64) ∧ re_L fO fU fW fG g l (nI m - 1) kb kw ks g2 (nI (m - 1)) l2) := fun g2 l2 h2 => by
          obtain ⟨f1, f2⟩ := fin _ g g2 l l2 (by omega) h1 h2
          exact ⟨rfl, fun _ => by rw [sb_cl0, pk_uLs]; exact f1, f2⟩
        refine ⟨fun z => by rcases hk with rfl | rfl; have := hf.2 rfl; omega; have := hf.1 rfl; omega, fun z => ?_, fun z => ?_⟩
        · rcases hk with rfl | rfl
          · have := hf.2 rfl; omega
          · exact sm_groups a1 a2 (Or.inr rfl) a7 a8 r (fun g2 l2 h2 => go g2 l2 h2)
        · rcases hk with rfl | rfl
          · exact sm_groups a1 a2 (Or.inl rfl) a7 a8 r (fun g2 l2 h2 => go g2 l2 h2)
          · have := hf.1 rfl; omega
      refine br_c (fun n2 => br_c (fun n0 => ?_) (fun n0 => ?_)) (fun n2 => ?_)
      · exact grp 2 (Or.inr rfl) ⟨fun _ => by omega, fun z => absurd z (by decide)⟩
      · have n0 := Classical.byContradiction n0
        exact grp 0 (Or.inl rfl) ⟨fun z => absurd z (by decide), fun _ => n0⟩
      · have n2 := Classical.byContradiction n2
        refine sx_writeNumber (by omega) a1 a2 a3 a5 a7 a8 (fun cc d N neg g l hc hneg hN hd h1 => ?_)
        unfold wp_X_text_54
        refine ⟨o0, inN (fun ga r => ⟨fun _ => ?_, fun z => by omega, fun z => by omega⟩)⟩
        refine sm_number a1 a2 a7 a8 r (fun c2 d2 N2 neg2 ga2 gc2 gd2 g2 l2 hc2 hneg2 hN2 hd2 h2 => ?_)
        have en : neg2 = neg := by rw [hneg2, hneg]
        subst en
        have eN : N2 = N := by rw [hN2, hN]
        subst eN
        have ec : (if brief = true then 0 else c2) = cc := by
          rcases hc with ⟨x1, x2⟩ | ⟨x1, x2⟩
          · rw [x2, x1]; rfl
          · rw [x2]; exact nc_one hc2 x1
        rw [ec] at h2
        have eT : nt_v cc (if fU (m - 1) = 0 then 0 else ul_v (fO (m - 1)) (fU (m - 1)) (lb_low w)) d2 N2 neg2 = nt_v cc (if fU (m - 1) = 0 then 0 else ul_v (fO (m - 1)) (fU (m - 1)) (lb_low w)) d N2 neg2 := by
          by_cases u0 : fU (m - 1) = 0
          · rw [dg_one (hd2 u0) hd]
          · unfold nt_v
            have ul0 : ul_v (fO (m - 1)) (fU (m - 1)) (lb_low w) ≠ 0 := by
              unfold ul_v
              split
              · decide
              · split
                · decide
                · split <;> decide
            rw [if_neg u0, if_neg ul0, if_neg ul0]
        rw [eT] at h2
        have c21 : cc ≤ 21 := by
          rcases hc with ⟨x1, _⟩ | ⟨x1, _⟩
          · omega
          · exact (nc_le a2 x1).2
        have h64 : 2 ^ w ≤ 2 ^ 64 := Nat.pow_le_pow_right (by decide) a2
        have n1 := lb_mkn.mp a7
        have d20 := dg_20b hd (by rw [hN]; unfold sg_a; split <;> omega)
        have tl : (nt_v cc (if fU (m - 1) = 0 then 0 else ul_v (fO (m - 1)) (fU (m - 1)) (lb_low w)) d N2 neg2).length ≤ 64 := by
          generalize (if fU (m - 1) = 0 then 0 else ul_v (fO (m - 1)) (fU (m - 1)) (lb_low w)) = rr
          unfold nt_v
          split
          · rw [List.length_append, List.length_append, List.length_replicate, dl_len]
            cases neg2 <;> simp <;> omega
          · rw [List.length_append, List.length_replicate]; simp; omega
        obtain ⟨f1, f2⟩ := fin _ g g2 l l2 tl h1 h2
        exact ⟨rfl, fun _ => by rw [sb_cl0, pk_uLs]; exact f1, f2⟩
end OPT
