/-! order, asked, amount -/
def ls_b (s : Bool) (w A B : Nat) : Bool := if s then decide (lb_sv w A < lb_sv w B) else decide (A < B)
abbrev ls_v (s : Bool) (w A B : Nat) : Prop := ls_b s w A B = true
theorem ls_same {w A B : Nat} (h1 : 1 ≤ w) (hA : A < 2 ^ w) (hB : B < 2 ^ w) (e : A / 2 ^ (w - 1) % 2 = B / 2 ^ (w - 1) % 2) : lb_sv w A < lb_sv w B ↔ A < B := by
  rw [sd_sv h1 hA, sd_sv h1 hB, e]
  split <;> omega
theorem ls_diff {w A B : Nat} (h1 : 1 ≤ w) (hA : A < 2 ^ w) (hB : B < 2 ^ w) (a : A / 2 ^ (w - 1) % 2 = 1) (b : B / 2 ^ (w - 1) % 2 = 0) : lb_sv w A < lb_sv w B := by
  rw [sd_sv h1 hA, sd_sv h1 hB, if_pos a, if_neg (by omega)]
  omega
section MO
variable {kb kw ks ka kq kc kr kt kd : Nat → Int32} {many tsz thr : Int32}
variable {posi : Int32 → (Nat → Int32) → (Nat → Int32) → (Nat → Int32) → (Nat → Int32) → (Nat → Int32) → (Nat → Int32) → (Nat → Int32) → (Nat → Int32) → (Nat → Int32) → Int32 → Int32 → Int32 → Prop}
theorem lm_order {w A B : Nat} {s : Bool} (h1 : 1 ≤ w) (hw : w ≤ 64) (hAl : A < 2 ^ w) (hBl : B < 2 ^ w) (hA : rw_N ka w A) (hB : rw_N kq w B) (hl : ls_v s w A B → posi (-1) kb kw ks ka kq kc kr kt kd many tsz thr) (he : A = B → posi 0 kb kw ks ka kq kc kr kt kd many tsz thr) (hg : ls_v s w B A → posi 1 kb kw ks ka kq kc kr kt kd many tsz thr) :
    ∀ t, t ≤ w → A / 2 ^ t = B / 2 ^ t → ∃ n, wp_M_order_4 posi n (bi_v s) (nI w) (nI t + (-1)) kb kw ks ka kq kc kr kt kd many tsz thr := by
  intro t
  induction t with
  | zero =>
    intro _ e
    refine ⟨0 + 1, ?_⟩
    rw [wp_M_order_4]
    rw [Nat.pow_zero, Nat.div_one, Nat.div_one] at e
    exact br_t (by decide) (he e)
  | succ t ih =>
    intro ht e
    have s1 := bn_step A t
    have s2 := bn_step B t
    have b1 := bn_2 A t
    have b2 := bn_2 B t
    have i64 : vp_in (nI t) 64 := vp_in_nI (by omega) (by omega)
    have ew : nI w - (1 : Int32) = nI (w - 1) := pk_sub (b := 1) h1
    have up : t ≠ w - 1 → A / 2 ^ (w - 1) % 2 = B / 2 ^ (w - 1) % 2 := by
      intro d
      have q : 2 ^ (w - 1) = 2 ^ (t + 1) * 2 ^ (w - 1 - (t + 1)) := by rw [← Nat.pow_add]; congr 1; omega
      rw [q, ← Nat.div_div_eq_div_mul, ← Nat.div_div_eq_div_mul, e]
    by_cases c : A / 2 ^ t % 2 = B / 2 ^ t % 2
    · obtain ⟨n, hn⟩ := ih (by omega) (by rw [s1, s2, e, c])
      refine ⟨n + 1, ?_⟩
      rw [wp_M_order_4]
      dsimp only
      rw [pk_m1]
      refine br_f (nI_pos (by omega)) ⟨i64, i64, ?_⟩
      rw [nI_clamp (by omega), hA t (by omega), hB t (by omega), c]
      exact br_t rfl hn
    · refine ⟨0 + 1, ?_⟩
      rw [wp_M_order_4]
      dsimp only
      rw [pk_m1]
      refine br_f (nI_pos (by omega)) ⟨i64, i64, ?_⟩
      rw [nI_clamp (by omega), hA t (by omega), hB t (by omega)]
      refine br_f (fun z => c ((nI_eq (by omega) (by omega)).mp z)) ⟨i64, i64, ?_⟩
      unfold wp_M_order_43 wp_M_order_58 wp_M_order_59 wp_M_order_67
      rw [ew]
      have et : nI t = nI (w - 1) ↔ t = w - 1 := nI_eq (by omega) (by omega)
      refine pk_le (A / 2 ^ t % 2) (B / 2 ^ t % 2) (fun d => ?_) (fun d => ?_)
      · have lt : A < B := cp_lt (i := t) (by rw [s1, s2, e]; omega)
        cases s
        · exact br_t rfl (br_f (fun z => z rfl) (hl (decide_eq_true lt)))
        · refine br_f (by decide) ?_
          rw [et]
          refine br_c (fun f => br_f (fun z => z rfl) (hl ?_)) (fun f => br_t (by decide) (hg ?_))
          · exact decide_eq_true ((ls_same h1 hAl hBl (up f)).mpr lt)
          · have f := Classical.byContradiction f
            subst f
            exact decide_eq_true (ls_diff h1 hBl hAl (by omega) (by omega))
      · have lt : B < A := cp_lt (i := t) (by rw [s1, s2, e]; omega)
        cases s
        · exact br_t rfl (br_t (by decide) (hg (decide_eq_true lt)))
        · refine br_f (by decide) ?_
          rw [et]
          refine br_c (fun f => br_t (by decide) (hg ?_)) (fun f => br_f (fun z => z rfl) (hl ?_))
          · exact decide_eq_true ((ls_same h1 hBl hAl (up f).symm).mpr lt)
          · have f := Classical.byContradiction f
            subst f
            exact decide_eq_true (ls_diff h1 hAl hBl (by omega) (by omega))
theorem sm_order {w A B : Nat} {s : Bool} (h1 : 1 ≤ w) (hw : w ≤ 64) (hAl : A < 2 ^ w) (hBl : B < 2 ^ w) (hA : rw_N ka w A) (hB : rw_N kq w B) (hl : ls_v s w A B → posi (-1) kb kw ks ka kq kc kr kt kd many tsz thr) (he : A = B → posi 0 kb kw ks ka kq kc kr kt kd many tsz thr) (hg : ls_v s w B A → posi 1 kb kw ks ka kq kc kr kt kd many tsz thr) : wp_M_order posi (bi_v s) (nI w) kb kw ks ka kq kc kr kt kd many tsz thr := by
  unfold wp_M_order
  intro v hv
  rw [hv, nm_1 w h1]
  exact lm_order h1 hw hAl hBl hA hB hl he hg w (Nat.le_refl _) (by rw [Nat.div_eq_of_lt hAl, Nat.div_eq_of_lt hBl])
theorem ls_no {s : Bool} {w A B : Nat} (h : ls_v s w A B) : ¬ ls_v s w B A ∧ ¬ A = B := by
  cases s
  · have h : A < B := of_decide_eq_true h
    exact ⟨fun z => by have z : B < A := of_decide_eq_true z; omega, by omega⟩
  · have h : lb_sv w A < lb_sv w B := of_decide_eq_true h
    exact ⟨fun z => by have z : lb_sv w B < lb_sv w A := of_decide_eq_true z; omega, fun e => by rw [e] at h; omega⟩
theorem ls_irr {s : Bool} {w A : Nat} : ¬ ls_v s w A A := fun h => (ls_no h).2 rfl
theorem t_lsv {s : Bool} {w : Nat} {O P : Int64} : t_ls s w O 0 P 0 = if ls_v s w (lb_n O) (lb_n P) then 1 else 0 := by
  unfold t_ls
  rw [if_pos (by rfl)]
  rfl
/-- what is asked of two rows: the reference's answer is the class's truth -/
theorem sm_asked {w sg : Nat} {s : Bool} {O U P V : Int64} (g1 : 9 ≤ sg) (g2 : sg ≤ 18) (h1 : 1 ≤ w) (hw : w ≤ 64) (mO : lb_mk w O) (mU : lb_mk w U) (mP : lb_mk w P) (mV : lb_mk w V) (hA : rw_R ka w O U) (hB : rw_R kq w P V) (hq : posi (tr_m (t_cmp sg s w O U P V)) kb kw ks ka kq kc kr kt kd many tsz thr) : wp_M_asked posi (nI sg) (bi_v s) (nI w) kb kw ks ka kq kc kr kt kd many tsz thr := by
  have n1 := lb_mkn.mp mO
  have n2 := lb_mkn.mp mP
  have ti := nI_toInt (n := sg) (by omega)
  unfold wp_M_asked
  rw [ti]
  refine ⟨fun k => ?_, fun k => ?_, fun k => ?_, fun k => ?_, fun k => ?_⟩
  · refine pk_le sg 16 (fun c => ?_) (fun c => ?_)
    · have dark : ¬ (U ||| V) = 0 → wp_M_asked_135 posi kb kw ks ka kq kc kr kt kd many tsz thr := by
        intro d
        have e : ∀ a b c d : Int64, ∀ A B : Int64, ¬ (A ||| B) = 0 → t_ls s w a A b B = 2 := fun a b c d A B z => by unfold t_ls; rw [if_neg z]
        have d2 : ¬ (V ||| U) = 0 := fun z => d ((or_0 U V).mpr ⟨((or_0 V U).mp z).2, ((or_0 V U).mp z).1⟩)
        have f : t_cmp sg s w O U P V = 2 := by
          unfold t_cmp
          rw [e O P 0 0 U V d, e P O 0 0 V U d2]
          rcases (show sg = 13 ∨ sg = 14 ∨ sg = 15 ∨ sg = 16 by omega) with rfl | rfl | rfl | rfl <;> rfl
        rw [f] at hq
        exact hq
      refine sm_dark hw hA mU (fun u => br_f (fun z => z rfl) ?_) (fun u => br_t (by decide) (dark (fun z => u ((or_0 U V).mp z).1)))
      refine sm_dark hw hB mV (fun v => br_t rfl ?_) (fun v => br_f (by decide) (dark (fun z => v ((or_0 U V).mp z).2)))
      subst u
      subst v
      have f : t_cmp sg s w O 0 P 0 = if sg = 13 then (if ls_v s w (lb_n O) (lb_n P) then 1 else 0) else if sg = 14 then (if ls_v s w (lb_n P) (lb_n O) then 0 else 1) else if sg = 15 then (if ls_v s w (lb_n P) (lb_n O) then 1 else 0) else (if ls_v s w (lb_n O) (lb_n P) then 0 else 1) := by
        unfold t_cmp
        rw [t_lsv, t_lsv]
        rcases (show sg = 13 ∨ sg = 14 ∨ sg = 15 ∨ sg = 16 by omega) with rfl | rfl | rfl | rfl
        · simp
        · show t_not (if ls_v s w (lb_n P) (lb_n O) then 1 else 0) = if ls_v s w (lb_n P) (lb_n O) then 0 else 1
          by_cases z : ls_v s w (lb_n P) (lb_n O)
          · rw [if_pos z, if_pos z]; rfl
          · rw [if_neg z, if_neg z]; rfl
        · simp
        · show t_not (if ls_v s w (lb_n O) (lb_n P) then 1 else 0) = if ls_v s w (lb_n O) (lb_n P) then 0 else 1
          by_cases z : ls_v s w (lb_n O) (lb_n P)
          · rw [if_pos z, if_pos z]; rfl
          · rw [if_neg z, if_neg z]; rfl
      rw [f] at hq
      unfold wp_M_asked_192 wp_M_asked_196 wp_M_asked_197
      refine sm_order h1 hw n1 n2 (rw_RN hA) (rw_RN hB) (fun l => ?_) (fun l => ?_) (fun l => ?_)
      · have l2 := (ls_no l).1
        rcases (show sg = 13 ∨ sg = 14 ∨ sg = 15 ∨ sg = 16 by omega) with rfl | rfl | rfl | rfl
        · simp only [if_pos l, if_true] at hq
          exact br_f (fun z => z rfl) (br_f (by decide) hq)
        · simp only [if_neg l2, if_true] at hq
          exact br_t (by decide) (br_f (fun z => z rfl) (br_f (by decide) hq))
        · simp only [if_neg l2, if_true] at hq
          exact br_t (by decide) (br_t (by decide) (br_f (fun z => z rfl) (br_t (by decide) hq)))
        · simp only [if_pos l] at hq
          exact br_t (by decide) (br_t (by decide) (br_t (by decide) (br_t (by decide) hq)))
      · rw [l] at hq
        have l2 := ls_irr (s := s) (w := w) (A := lb_n P)
        rcases (show sg = 13 ∨ sg = 14 ∨ sg = 15 ∨ sg = 16 by omega) with rfl | rfl | rfl | rfl
        · simp only [if_neg l2, if_true] at hq
          exact br_f (fun z => z rfl) (br_t (by decide) hq)
        · simp only [if_neg l2, if_true] at hq
          exact br_t (by decide) (br_f (fun z => z rfl) (br_f (by decide) hq))
        · simp only [if_neg l2, if_true] at hq
          exact br_t (by decide) (br_t (by decide) (br_f (fun z => z rfl) (br_t (by decide) hq)))
        · simp only [if_neg l2] at hq
          exact br_t (by decide) (br_t (by decide) (br_t (by decide) (br_f (by decide) hq)))
      · have l2 := (ls_no l).1
        rcases (show sg = 13 ∨ sg = 14 ∨ sg = 15 ∨ sg = 16 by omega) with rfl | rfl | rfl | rfl
        · simp only [if_neg l2, if_true] at hq
          exact br_f (fun z => z rfl) (br_t (by decide) hq)
        · simp only [if_pos l, if_true] at hq
          exact br_t (by decide) (br_f (fun z => z rfl) (br_t (by decide) hq))
        · simp only [if_pos l, if_true] at hq
          exact br_t (by decide) (br_t (by decide) (br_f (fun z => z rfl) (br_f (by decide) hq)))
        · simp only [if_neg l2] at hq
          exact br_t (by decide) (br_t (by decide) (br_t (by decide) (br_f (by decide) hq)))
    · have tA : ∀ (post : Int32 → (Nat → Int32) → Prop), post (tr_m (t_any O U)) ka → wp_M_truth post (nI w) ka := fun post h => sm_truth h1 hw hA mO mU (fun z => by unfold t_any at h; rw [if_neg z] at h; exact h) (fun z y => by unfold t_any at h; rw [if_pos z, if_neg y] at h; exact h) (fun z y => by unfold t_any at h; rw [if_pos z, if_pos y] at h; exact h)
      have tB : ∀ (post : Int32 → (Nat → Int32) → Prop), post (tr_m (t_any P V)) kq → wp_M_truth post (nI w) kq := fun post h => sm_truth h1 hw hB mP mV (fun z => by unfold t_any at h; rw [if_neg z] at h; exact h) (fun z y => by unfold t_any at h; rw [if_pos z, if_neg y] at h; exact h) (fun z y => by unfold t_any at h; rw [if_pos z, if_pos y] at h; exact h)
      unfold wp_M_asked_93
      rcases (show sg = 17 ∨ sg = 18 by omega) with rfl | rfl
      · refine br_f (fun z => z rfl) ?_
        refine tA _ ?_
        refine tB _ ?_
        exact sm_logicT (sg := 5) (t_anyl _ _) (t_anyl _ _) (Or.inl rfl) hq
      · refine br_t (by decide) ?_
        refine tA _ ?_
        refine tB _ ?_
        exact sm_logicT (sg := 6) (t_anyl _ _) (t_anyl _ _) (Or.inr rfl) hq
  · obtain rfl : sg = 9 := by omega
    exact sm_equal h1 hw mO mU mP mV hA hB hq
  · obtain rfl : sg = 10 := by omega
    exact sm_equal h1 hw mO mU mP mV hA hB (sm_oppT (t_eql _ _ _ _ _) hq)
  · obtain rfl : sg = 11 := by omega
    refine sm_same hw mO mU mP mV hA hB ?_
    have hq : posi (tr_m (t_id O U P V)) kb kw ks ka kq kc kr kt kd many tsz thr := hq
    unfold wp_M_asked_60
    unfold t_id at hq ⊢
    by_cases z : O = P ∧ U = V
    · rw [if_pos z] at hq ⊢; exact br_f (by decide) hq
    · rw [if_neg z] at hq ⊢; exact br_t rfl hq
  · obtain rfl : sg = 12 := by omega
    refine sm_same hw mO mU mP mV hA hB ?_
    have hq : posi (tr_m (t_not (t_id O U P V))) kb kw ks ka kq kc kr kt kd many tsz thr := hq
    unfold wp_M_asked_74
    unfold t_id at hq ⊢
    by_cases z : O = P ∧ U = V
    · rw [if_pos z] at hq ⊢; exact br_f (by decide) hq
    · rw [if_neg z] at hq ⊢; exact br_t rfl hq
end MO
