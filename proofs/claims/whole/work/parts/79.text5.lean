/-! numbers as texts on both sides -/
/-- columns of a number that is not brief -/
def nc_is (c w : Nat) (s : Bool) : Prop := if s then ∃ d, dg_is d ((2 ^ w - 1) / 2) ∧ c = d + 1 else dg_is c (2 ^ w - 1)
theorem nc_one {c c' w : Nat} {s : Bool} (h : nc_is c w s) (h' : nc_is c' w s) : c = c' := by
  unfold nc_is at h h'
  cases s
  · exact dg_one h h'
  · obtain ⟨d, h1, h2⟩ := h
    obtain ⟨d', h3, h4⟩ := h'
    have := dg_one h1 h3
    omega
theorem nc_le {c w : Nat} {s : Bool} (hw : w ≤ 64) (h : nc_is c w s) : 1 ≤ c ∧ c ≤ 21 := by
  have h64 : 2 ^ w ≤ 2 ^ 64 := Nat.pow_le_pow_right (by decide) hw
  unfold nc_is at h
  cases s
  · have h : dg_is c (2 ^ w - 1) := h
    have := dg_20 h (by omega)
    have := h.1
    omega
  · obtain ⟨d, h1, h2⟩ := h
    have := dg_20 h1 (by omega)
    have := h1.1
    omega
/-- the text: c columns (0: brief), the sort's letter r, or the digits of the magnitude N behind a sign -/
def nt_v (c r d N : Nat) (neg : Bool) : List Nat := if r = 0 then List.replicate (c - d - neg.toNat) 32 ++ (if neg then [45] else []) ++ dl_v d N else List.replicate (c - 1) 32 ++ [r]
section XN
variable {fO fU : Nat → Int64} {fW fG fL : Nat → Int32} {len size : Int32}
variable {post : (Nat → Int64) → (Nat → Int64) → (Nat → Int32) → (Nat → Int32) → (Nat → Int32) → Int32 → Int32 → Prop}
theorem nw_low {w : Nat} (h1 : 1 ≤ w) (h2 : w ≤ 64) : lb_n (lb_low w) = 2 ^ w - 1 := by
  apply Nat.eq_of_testBit_eq
  intro i
  rw [← lb_tn, lb_lowt h1 h2, Nat.testBit_two_pow_sub_one]
theorem sx_writeNumber {p w : Nat} {s brief : Bool} {T0 : Nat → Int32} (hp : p < 64) (h1 : 1 ≤ w) (hw : w ≤ 64) (hW : fW p = nI w) (hG : fG p = bi_v s) (mO : lb_mk w (fO p)) (mU : lb_mk w (fU p))
    (hq : ∀ (c d N : Nat) (neg : Bool) (g : Nat → Int32) (l : Int32), (c = 0 ∧ brief = true ∨ nc_is c w s ∧ brief = false) → neg = (s && decide (lb_n (fO p) / 2 ^ (w - 1) % 2 = 1)) → N = sg_a neg w (lb_n (fO p)) → dg_is d N → tx_r g l (nt_v c (if fU p = 0 then 0 else ul_v (fO p) (fU p) (lb_low w)) d N neg) → post fO fU fW fG g l size) : wp_X_writeNumber post (nI p) (bi_v brief) fO fU fW fG T0 0 size := by
  have hin : vp_in (nI p) 64 := vp_in_nI hp (by decide)
  have cl : (nI p).toNatClampNeg = p := nI_clamp (by omega)
  have n1 := lb_mkn.mp mO
  have h64 : 2 ^ w ≤ 2 ^ 64 := Nat.pow_le_pow_right (by decide) hw
  have lowv := nw_low h1 hw
  have hp1 : 2 ^ w = 2 * 2 ^ (w - 1) := by rw [Nat.mul_comm, ← Nat.pow_succ]; congr 1; omega
  -- behind the columns
  have k47 : ∀ c : Nat, (c = 0 ∧ brief = true ∨ nc_is c w s ∧ brief = false) → wp_X_writeNumber_47 post (nI p) (lb_low w) (bi_v s) (nI c) fO fU fW fG T0 0 size := by
    intro c hc
    have c21 : c ≤ 21 := by
      rcases hc with ⟨z, _⟩ | ⟨z, _⟩
      · omega
      · exact (nc_le hw z).2
    unfold wp_X_writeNumber_47
    refine ⟨hin, ?_⟩
    rw [cl, lc_0]
    refine br_c (fun u => ?_) (fun u => ?_)
    · -- a number
      have k132 : ∀ (neg : Bool) (x : Int64), neg = (s && decide (lb_n (fO p) / 2 ^ (w - 1) % 2 = 1)) → lb_n x = sg_a neg w (lb_n (fO p)) → wp_X_writeNumber_132 post (nI c) (bi_v neg) x fO fU fW fG T0 0 size := by
        intro neg x hn hx
        unfold wp_X_writeNumber_132
        refine sx_digits (fun d hd d20 => ?_)
        have d1 := hd.1
        have k160 : ∀ (t1 : Int32), t1 = nI c - nI d → wp_X_writeNumber_160 post (bi_v neg) x (nI d) (nI neg.toNat) t1 fO fU fW fG T0 0 size := by
          intro t1 ht1
          have sgn : ∀ (g : Nat → Int32) (l : Int32) (T : List Nat), tx_r g l T → T.length + d + 1 ≤ 64 → T = List.replicate (c - d - neg.toNat) 32 → ((bi_v neg = 0 → wp_X_writeNumber_178 post x (nI d) fO fU fW fG g l size) ∧ (¬ bi_v neg = 0 → wp_N_write (fun fL175 len175 => wp_X_writeNumber_178 post x (nI d) fO fU fW fG fL175 len175 size) (45 : Int32) g l)) := by
            intro g l T hT hl hTe
            cases neg
            · refine br_t rfl ?_
              unfold wp_X_writeNumber_178
              refine sx_writeDigits hT (by omega) d1 (fun g2 l2 h2 => hq c d (lb_n x) false g2 l2 hc hn hx hd ?_)
              unfold nt_v
              rw [if_pos u, if_pos rfl, if_neg (by decide), List.append_nil, ← hTe]
              exact h2
            · refine br_f (by decide) ?_
              refine sx_write (c := 45) hT (by decide) (by omega) (fun g1 l1 h1 => ?_)
              unfold wp_X_writeNumber_178
              refine sx_writeDigits h1 (by rw [List.length_append]; simp; omega) d1 (fun g2 l2 h2 => hq c d (lb_n x) true g2 l2 hc hn hx hd ?_)
              unfold nt_v
              rw [if_pos u, if_pos rfl, if_pos rfl, ← hTe]
              exact h2
          have nb : neg.toNat ≤ 1 := by cases neg <;> decide
          unfold wp_X_writeNumber_160
          rw [ht1]
          by_cases z : d + neg.toNat ≤ c
          · rw [pk_sub (by omega), pk_sub (by omega)]
            refine sx_spaces (T := []) (by omega) (by simp; omega) (tx_nil T0) (fun g l hT => ?_)
            rw [List.nil_append] at hT
            exact sgn g l _ hT (by rw [List.length_replicate]; omega) rfl
          · refine sx_noSpaces ?_ ?_
            · have e : (nI c - nI d - nI neg.toNat) = nI c - nI (d + neg.toNat) := by rw [← nI_add]; exact Int32.sub_sub _ _ _
              rw [e]
              exact Int32.le_of_lt (pk_sneg (by omega) (by omega))
            · refine sgn T0 0 [] (tx_nil T0) (by simp; omega) ?_
              rw [show c - d - neg.toNat = 0 by omega]; rfl
        cases neg
        · exact br_t rfl (k160 _ rfl)
        · exact br_f (by decide) (k160 _ rfl)
      refine sx_number hp hW hw hG ?_
      have h0 : (0 : Int64).toInt = 0 := by decide
      have tb := bn_2 (lb_n (fO p)) (w - 1)
      cases s
      · refine br_t rfl ?_
        unfold wp_X_writeNumber_116 wp_X_writeNumber_117
        exact br_t rfl (k132 false (fO p) rfl rfl)
      · refine br_f (by decide) ?_
        have hv : (nu_v true w (fO p)).toInt = lb_sv w (lb_n (fO p)) := lb_hfi h1 hw n1
        have hsv := sd_sv h1 n1
        rw [lg_cmp_ge, Int64.le_iff_toInt_le, h0, hv, hsv]
        have hfn := lb_hfn h1 hw n1
        by_cases top : lb_n (fO p) / 2 ^ (w - 1) % 2 = 1
        · rw [if_pos top]
          refine br_f (by omega) ?_
          unfold wp_X_writeNumber_117
          refine br_f (by decide) ?_
          refine k132 true _ (by rw [decide_eq_true top]; rfl) ?_
          have ge : ¬ lb_n (fO p) < 2 ^ (w - 1) := fun z => by
            rw [Nat.div_eq_of_lt z] at top; exact absurd top (by decide)
          show lb_n (-(lb_hf w (fO p))) = 2 ^ w - lb_n (fO p)
          rw [lb_neg, hfn, if_neg ge]
          omega
        · rw [if_neg top]
          refine br_t (by omega) ?_
          unfold wp_X_writeNumber_116 wp_X_writeNumber_117
          refine br_t rfl (k132 false _ (by rw [decide_eq_false top]; rfl) ?_)
          have lt : lb_n (fO p) < 2 ^ (w - 1) := by
            apply Classical.byContradiction
            intro z
            apply top
            have e : lb_n (fO p) / 2 ^ (w - 1) = 1 := Nat.div_eq_of_lt_le (by omega) (by omega)
            rw [e]
          show lb_n (lb_hf w (fO p)) = lb_n (fO p)
          rw [hfn, if_pos lt]
    · -- x and z
      have fin : ∀ (g : Nat → Int32) (l : Int32), tx_r g l (List.replicate (c - 1) 32) → (vp_in (nI p) 64 ∧ (vp_in (nI p) 64 ∧ wp_X_unknownLetter (fun r86 => wp_N_write (fun fL89 len89 => post fO fU fW fG fL89 len89 size) r86 g l) (fO p) (fU p) (lb_low w))) := by
        intro g l hT
        refine ⟨hin, hin, sx_unknownLetter ?_⟩
        have lt := ul_l (fO p) (fU p) (lb_low w)
        refine sx_write hT lt (by rw [List.length_replicate]; omega) (fun g2 l2 h2 => ?_)
        obtain ⟨d, hd⟩ : ∃ d, dg_is d (sg_a (s && decide (lb_n (fO p) / 2 ^ (w - 1) % 2 = 1)) w (lb_n (fO p))) := by
          have hl : sg_a (s && decide (lb_n (fO p) / 2 ^ (w - 1) % 2 = 1)) w (lb_n (fO p)) < 10 ^ 20 := by
            unfold sg_a
            split <;> omega
          generalize sg_a (s && decide (lb_n (fO p) / 2 ^ (w - 1) % 2 = 1)) w (lb_n (fO p)) = N at hl
          have : ∀ k, N < 10 ^ (k + 1) → ∃ d, dg_is d N := by
            intro k
            induction k with
            | zero => intro h; exact ⟨1, Nat.le_refl _, h, Or.inl rfl⟩
            | succ k ih =>
              intro h
              by_cases z : N < 10 ^ (k + 1)
              · exact ih z
              · exact ⟨k + 1 + 1, by omega, h, Or.inr (by rw [Nat.add_sub_cancel]; omega)⟩
          exact this 19 hl
        refine hq c d _ _ g2 l2 hc rfl rfl hd ?_
        unfold nt_v
        rw [if_neg u, if_neg]
        · exact h2
        · unfold ul_v
          split
          · decide
          · split
            · decide
            · split <;> decide
      by_cases z : 1 ≤ c
      · rw [show nI c - (1 : Int32) = nI (c - 1) from pk_sub (b := 1) z]
        refine sx_spaces (T := []) (by omega) (by simp; omega) (tx_nil T0) (fun g l hT => fin g l ?_)
        rw [List.nil_append] at hT
        exact hT
      · refine sx_noSpaces ?_ (fin T0 0 ?_)
        · rw [show c = 0 by omega]; decide
        · rw [show c - 1 = 0 by omega]
          exact tx_nil T0
  unfold wp_X_writeNumber
  refine ⟨hin, ?_⟩
  rw [cl, hW]
  refine sx_lowest hw ⟨hin, ?_⟩
  rw [hG]
  intro v hv
  subst hv
  unfold wp_X_writeNumber_45
  cases brief
  · refine br_f (fun z => z rfl) ?_
    cases s
    · refine br_t rfl (sx_digits (fun d hd _ => k47 d (Or.inr ⟨?_, rfl⟩)))
      rw [lowv] at hd
      exact hd
    · refine br_f (by decide) (sx_digits (fun d hd _ => ?_))
      rw [sx_half, lowv] at hd
      rw [nI_1]
      exact k47 (d + 1) (Or.inr ⟨⟨d, hd, rfl⟩, rfl⟩)
  · exact br_t (by decide) (k47 0 (Or.inl ⟨rfl, rfl⟩))
end XN
