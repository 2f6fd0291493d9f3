/-! the reference's quotient and reckon -/
section MR
variable {kb kw ks ka kq kc kr kt kd : Nat → Int32} {many tsz thr : Int32}
variable {post : (Nat → Int32) → (Nat → Int32) → (Nat → Int32) → (Nat → Int32) → (Nat → Int32) → (Nat → Int32) → (Nat → Int32) → (Nat → Int32) → (Nat → Int32) → Int32 → Int32 → Int32 → Prop}
theorem lm_quo85 {w R : Nat} {x1 x4 x5 : Int32} (hw : w ≤ 64) (hr : rw_N kr (w + 1) R) (hp : ∀ g : Nat → Int32, rw_N g w R → wp_M_quotient_111 post x1 (nI w) x4 x5 kb kw ks ka kq g kr kt kd many tsz thr) :
    ∀ (k i : Nat) (g : Nat → Int32), i + k = w → (∀ j, j < i → g j = nI (R / 2 ^ j % 2)) → ∃ n, wp_M_quotient_85 post n x1 (nI w) x4 x5 (nI i) kb kw ks ka kq g kr kt kd many tsz thr := by
  intro k
  induction k with
  | zero =>
    intro i g hi h1
    refine ⟨0 + 1, ?_⟩
    rw [wp_M_quotient_85]
    exact br_t (nI_le (by omega) (by omega)) (hp g (fun j hj => h1 j (by omega)))
  | succ k ih =>
    intro i g hi h1
    obtain ⟨n, hn⟩ := ih (i + 1) (upd g i (nI (R / 2 ^ i % 2))) (by omega) (fun j hj => by
      by_cases d : j = i
      · subst d; exact pk_us
      · rw [pk_un d]; exact h1 j (by omega))
    refine ⟨n + 1, ?_⟩
    rw [wp_M_quotient_85]
    refine br_f (nI_ge (by omega) (by omega)) ⟨vp_in_nI (by omega) (by omega), vp_in_nI (by omega) (by omega), ?_⟩
    rw [nI_clamp (by omega), nI_1 i, hr i (by omega), rw_nk _ (by have := bn_2 R i; omega)]
    exact hn
theorem bi_eq (l r : Bool) : bi_v l = bi_v r ↔ l = r := by cases l <;> cases r <;> decide
theorem sm_quo111 {w sg Q : Nat} {l r : Bool} (hw : w ≤ 64) (hsg : sg = 3 ∨ sg = 4) (hQ : Q < 2 ^ w) (hc : rw_N kc w Q) (hp : ∀ g : Nat → Int32, rw_N g w (sg_a (if sg = 3 then l != r else l) w Q) → post kb kw ks ka kq g kr kt kd many tsz thr) : wp_M_quotient_111 post (nI sg) (nI w) (bi_v l) (bi_v r) kb kw ks ka kq kc kr kt kd many tsz thr := by
  have neg : (if sg = 3 then l != r else l) = true → wp_M_quotient_131 post (nI w) kb kw ks ka kq kc kr kt kd many tsz thr := by
    intro e
    rw [e] at hp
    unfold wp_M_quotient_131
    exact sm_negate hw hQ hc hp
  have pos : (if sg = 3 then l != r else l) = false → wp_M_quotient_139 post kb kw ks ka kq kc kr kt kd many tsz thr := by
    intro e
    rw [e] at hp
    exact hp kc hc
  unfold wp_M_quotient_111
  rcases hsg with rfl | rfl
  · refine br_f (fun z => z rfl) ?_
    rw [bi_eq]
    refine br_c (fun e => pos ?_) (fun e => neg ?_)
    · rw [if_pos rfl, e]; cases r <;> rfl
    · rw [if_pos rfl]; revert e; cases l <;> cases r <;> simp
  · refine br_t (by decide) ?_
    rw [bi_0]
    refine br_c (fun e => pos ?_) (fun e => neg ?_)
    · rw [if_neg (by decide), e]
    · rw [if_neg (by decide)]; revert e; cases l <;> simp
theorem sg_lt {w A : Nat} {l : Bool} (h1 : 1 ≤ w) (hA : A < 2 ^ w) (hl : l = true → A / 2 ^ (w - 1) % 2 = 1) : sg_a l w A < 2 ^ w ∧ (0 < A → 0 < sg_a l w A) := by
  unfold sg_a
  cases l
  · exact ⟨hA, fun h => h⟩
  · rw [if_pos rfl]
    have t := hl rfl
    have : A ≠ 0 := fun z => by rw [z, Nat.zero_div] at t; exact absurd t (by decide)
    omega
theorem sm_quo44 {w sg A B : Nat} {l r : Bool} (h1 : 1 ≤ w) (hw : w ≤ 64) (hsg : sg = 3 ∨ sg = 4) (hAl : A < 2 ^ w) (hB0 : 0 < B) (hBl : B < 2 ^ w) (hl : l = true → A / 2 ^ (w - 1) % 2 = 1) (hr : r = true → B / 2 ^ (w - 1) % 2 = 1) (hA : rw_N ka w A) (hB : rw_N kq w B)
    (hp : ∀ ga gq gc gr : Nat → Int32, rw_N gc w (if sg = 3 then sg_a (l != r) w (sg_a l w A / sg_a r w B) else sg_a l w (sg_a l w A % sg_a r w B)) → post kb kw ks ga gq gc gr kt kd many tsz thr) : wp_M_quotient_44 post (nI sg) (nI w) (bi_v l) (bi_v r) kb kw ks ka kq kc kr kt kd many tsz thr := by
  have la := sg_lt h1 hAl hl
  have lb := sg_lt h1 hBl hr
  have k72 : ∀ ga gq : Nat → Int32, rw_N ga w (sg_a l w A) → rw_N gq w (sg_a r w B) → wp_M_quotient_72 post (nI sg) (nI w) (bi_v l) (bi_v r) kb kw ks ga gq kc kr kt kd many tsz thr := by
    intro ga gq g1 g2
    unfold wp_M_quotient_72
    refine sm_divide h1 hw la.1 (lb.2 hB0) lb.1 g1 g2 (fun gc gr g3 g4 => ?_)
    have q1 := Nat.div_le_self (sg_a l w A) (sg_a r w B)
    have q2 := Nat.mod_le (sg_a l w A) (sg_a r w B)
    rcases hsg with rfl | rfl
    · refine br_t (by decide) ?_
      refine sm_quo111 hw (Or.inl rfl) (Nat.lt_of_le_of_lt q1 la.1) g3 (fun g5 g6 => hp ga gq g5 gr ?_)
      rw [if_pos rfl] at g6 ⊢
      exact g6
    · refine br_f (fun z => z rfl) ?_
      refine lm_quo85 hw g4 (fun g5 g6 => ?_) w 0 gc (by omega) (fun j hj => by omega)
      refine sm_quo111 hw (Or.inr rfl) (Nat.lt_of_le_of_lt q2 la.1) g6 (fun g7 g8 => hp ga gq g7 gr ?_)
      rw [if_neg (by decide)] at g8 ⊢
      exact g8
  have k59 : ∀ ga : Nat → Int32, rw_N ga w (sg_a l w A) → wp_M_quotient_59 post (nI sg) (nI w) (bi_v l) (bi_v r) kb kw ks ga kq kc kr kt kd many tsz thr := by
    intro ga g1
    unfold wp_M_quotient_59
    cases r
    · exact br_t rfl (k72 ga kq g1 hB)
    · refine br_f (by decide) ?_
      exact sm_negate hw hBl hB (fun g2 g3 => k72 ga g2 g1 g3)
  unfold wp_M_quotient_44
  cases l
  · exact br_t rfl (k59 ka hA)
  · refine br_f (by decide) ?_
    exact sm_negate hw hAl hA (fun g2 g3 => k59 g2 g3)
theorem sm_quotient {w sg A B : Nat} {s : Bool} (h1 : 1 ≤ w) (hw : w ≤ 64) (hsg : sg = 3 ∨ sg = 4) (hAl : A < 2 ^ w) (hB0 : 0 < B) (hBl : B < 2 ^ w) (hA : rw_N ka w A) (hB : rw_N kq w B)
    (hp : ∀ ga gq gc gr : Nat → Int32, rw_N gc w (rk_v sg s w A B) → post kb kw ks ga gq gc gr kt kd many tsz thr) : wp_M_quotient post (nI sg) (bi_v s) (nI w) kb kw ks ka kq kc kr kt kd many tsz thr := by
  have e1 : nI w - (1 : Int32) = nI (w - 1) := pk_sub (b := 1) h1
  have i1 : vp_in (nI (w - 1)) 64 := vp_in_nI (by omega) (by omega)
  have bA := bn_2 A (w - 1)
  have bB := bn_2 B (w - 1)
  have k44 : ∀ l r : Bool, l = (s && decide (A / 2 ^ (w - 1) % 2 = 1)) → r = (s && decide (B / 2 ^ (w - 1) % 2 = 1)) → wp_M_quotient_44 post (nI sg) (nI w) (bi_v l) (bi_v r) kb kw ks ka kq kc kr kt kd many tsz thr := by
    intro l r hl hr
    refine sm_quo44 h1 hw hsg hAl hB0 hBl (fun z => ?_) (fun z => ?_) hA hB (fun ga gq gc gr g => hp ga gq gc gr ?_)
    · rw [hl, Bool.and_eq_true] at z; exact of_decide_eq_true z.2
    · rw [hr, Bool.and_eq_true] at z; exact of_decide_eq_true z.2
    · unfold rk_v
      rw [← hl, ← hr]
      rcases hsg with rfl | rfl
      · rw [if_pos rfl] at g
        exact g
      · rw [if_neg (by decide)] at g
        exact g
  have k21 : ∀ l : Bool, l = (s && decide (A / 2 ^ (w - 1) % 2 = 1)) → wp_M_quotient_21 post (nI sg) (bi_v s) (nI w) (bi_v l) kb kw ks ka kq kc kr kt kd many tsz thr := by
    intro l hl
    unfold wp_M_quotient_21
    rw [e1, nI_clamp (by omega), hB (w - 1) (by omega)]
    cases s
    · exact br_t rfl (k44 l false hl rfl)
    · refine br_f (by decide) ⟨i1, ?_⟩
      by_cases c : B / 2 ^ (w - 1) % 2 = 1
      · rw [c]
        exact br_f (fun z => z rfl) (k44 l true hl (by rw [decide_eq_true c]; rfl))
      · exact br_t (fun z => c ((nI_eq (b := 1) (by omega) (by omega)).mp z)) (k44 l false hl (by rw [decide_eq_false c]; rfl))
  unfold wp_M_quotient
  rw [e1, nI_clamp (by omega), hA (w - 1) (by omega)]
  cases s
  · exact br_t rfl (k21 false rfl)
  · refine br_f (by decide) ⟨i1, ?_⟩
    by_cases c : A / 2 ^ (w - 1) % 2 = 1
    · rw [c]
      exact br_f (fun z => z rfl) (k21 true (by rw [decide_eq_true c]; rfl))
    · exact br_t (fun z => c ((nI_eq (b := 1) (by omega) (by omega)).mp z)) (k21 false (by rw [decide_eq_false c]; rfl))
theorem lm_rec82 {w A B : Nat} (hw : w ≤ 64) (hA : rw_N ka w A) (hB : B < 2 ^ w) (hp : ∀ gq gc : Nat → Int32, rw_N gc w (A + (2 ^ w - 1 - B) + 1) → post kb kw ks ka gq gc kr kt kd many tsz thr) :
    ∀ (k i : Nat) (g : Nat → Int32), i + k = w → (∀ j, j < i → g j = nI ((2 ^ w - 1 - B) / 2 ^ j % 2)) → (∀ j, i ≤ j → j < w → g j = nI (B / 2 ^ j % 2)) → ∃ n, wp_M_reckon_82 post n (nI w) (nI i) kb kw ks ka g kc kr kt kd many tsz thr := by
  intro k
  induction k with
  | zero =>
    intro i g hi h1 h2
    refine ⟨0 + 1, ?_⟩
    rw [wp_M_reckon_82]
    refine br_t (nI_le (by omega) (by omega)) ?_
    exact sm_add (c := 1) hw (by omega) hA (fun j hj => h1 j (by omega)) (fun g2 h3 => hp g g2 h3)
  | succ k ih =>
    intro i g hi h1 h2
    have b1 := bn_2 B i
    obtain ⟨n, hn⟩ := ih (i + 1) (upd g i (nI ((2 ^ w - 1 - B) / 2 ^ i % 2))) (by omega) (fun j hj => by
      by_cases d : j = i
      · subst d; exact pk_us
      · rw [pk_un d]; exact h1 j (by omega)) (fun j a b => by rw [pk_un (by omega)]; exact h2 j (by omega) b)
    refine ⟨n + 1, ?_⟩
    rw [wp_M_reckon_82]
    refine br_f (nI_ge (by omega) (by omega)) ⟨vp_in_nI (by omega) (by omega), vp_in_nI (by omega) (by omega), ?_⟩
    rw [nI_clamp (by omega), nI_1 i, h2 i (Nat.le_refl _) (by omega), sm_1s _ b1, sm_b (by omega), ← bn_cmp i hB (by omega)]
    exact hn
/-- reckon of the reference -/
theorem sm_reckon {w sg : Nat} {s : Bool} {O U P V : Int64} (hsg : sg ≤ 4) (h1 : 1 ≤ w) (hw : w ≤ 64) (mO : lb_mk w O) (mU : lb_mk w U) (mP : lb_mk w P) (mV : lb_mk w V) (hA : rw_R ka w O U) (hB : rw_R kq w P V)
    (hx : (¬ (U = 0 ∧ V = 0) ∨ (3 ≤ sg ∧ lb_n P = 0)) → ∀ ga gq gc gr : Nat → Int32, (∀ i, i < w → gc i = nI 3) → post kb kw ks ga gq gc gr kt kd many tsz thr)
    (hv : U = 0 → V = 0 → (3 ≤ sg → ¬ lb_n P = 0) → ∀ ga gq gc gr : Nat → Int32, rw_N gc w (rk_v sg s w (lb_n O) (lb_n P)) → post kb kw ks ga gq gc gr kt kd many tsz thr) : wp_M_reckon post (nI sg) (bi_v s) (nI w) kb kw ks ka kq kc kr kt kd many tsz thr := by
  have n1 := lb_mkn.mp mO
  have n2 := lb_mkn.mp mP
  have dark : (¬ (U = 0 ∧ V = 0) ∨ (3 ≤ sg ∧ lb_n P = 0)) → wp_M_reckon_38 post (nI w) kb kw ks ka kq kc kr kt kd many tsz thr := by
    intro c
    unfold wp_M_reckon_38
    exact sm_fill (v := 3) hw (by decide) (fun g hg => hx c ka kq g kr hg)
  have main : U = 0 → V = 0 → (3 ≤ sg → ¬ lb_n P = 0) → wp_M_reckon_50 post (nI sg) (bi_v s) (nI w) kb kw ks ka kq kc kr kt kd many tsz thr := by
    intro u v c
    have hA2 : rw_N ka w (lb_n O) := rw_RN (by rw [u] at hA; exact hA)
    have hB2 : rw_N kq w (lb_n P) := rw_RN (by rw [v] at hB; exact hB)
    have hv := hv u v c
    unfold wp_M_reckon_50
    rcases (show sg = 0 ∨ sg = 1 ∨ sg = 2 ∨ sg = 3 ∨ sg = 4 by omega) with rfl | rfl | rfl | rfl | rfl
    · exact br_f (fun z => z rfl) (sm_add (c := 0) hw (by omega) hA2 hB2 (fun g hg => hv ka kq g kr hg))
    · refine br_t (by decide) (br_f (fun z => z rfl) ?_)
      exact lm_rec82 hw hA2 n2 (fun gq gc g => hv ka gq gc kr g) w 0 kq (by omega) (fun j hj => by omega) (fun j _ b => hB2 j b)
    · refine br_t (by decide) (br_t (by decide) (br_f (fun z => z rfl) ?_))
      exact sm_multiply hw n2 hA2 hB2 (fun g hg => hv ka kq g kr hg)
    · refine br_t (by decide) (br_t (by decide) (br_t (by decide) ?_))
      exact sm_quotient h1 hw (Or.inl rfl) n1 (Nat.pos_of_ne_zero (c (by omega))) n2 hA2 hB2 (fun ga gq gc gr g => hv ga gq gc gr g)
    · refine br_t (by decide) (br_t (by decide) (br_t (by decide) ?_))
      exact sm_quotient h1 hw (Or.inr rfl) n1 (Nat.pos_of_ne_zero (c (by omega))) n2 hA2 hB2 (fun ga gq gc gr g => hv ga gq gc gr g)
  unfold wp_M_reckon
  refine sm_dark hw hA mU (fun u => br_f (fun z => z rfl) ?_) (fun u => br_t (by decide) (dark (Or.inl (fun z => u z.1))))
  refine sm_dark hw hB mV (fun v => br_f (fun z => z rfl) ?_) (fun v => br_t (by decide) (dark (Or.inl (fun z => v z.2))))
  refine pk_le sg 2 (fun c => main u v (fun z => by omega)) (fun c => ?_)
  have hB2 : rw_N kq w (lb_n P) := rw_RN (by rw [v] at hB; exact hB)
  refine sm_isZero hw n2 hB2 (fun z => br_f (by decide) (dark (Or.inr ⟨by omega, z⟩))) (fun z => br_t rfl (main u v (fun _ => z)))
end MR
