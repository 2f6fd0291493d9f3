/-! truths: 0, 1, 2 for not sure -/
def t_any (O U : Int64) : Nat := if so_1 O U = 0 then (if U = 0 then 0 else 2) else 1
def t_all (w : Nat) (O U : Int64) : Nat := if so_0 w O U = 0 then (if U = 0 then 1 else 2) else 0
def t_odd (O U : Int64) : Nat := if U = 0 then pc_s 64 (lb_n O) % 2 else 2
def t_eq (w : Nat) (O U P V : Int64) : Nat := if ((so_1 O U &&& so_0 w P V) ||| (so_0 w O U &&& so_1 P V)) = 0 then (if (U ||| V) = 0 then 1 else 2) else 0
def t_id (O U P V : Int64) : Nat := if O = P ∧ U = V then 1 else 0
def t_ls (s : Bool) (w : Nat) (O U P V : Int64) : Nat := if (U ||| V) = 0 then (if (if s then decide (lb_sv w (lb_n O) < lb_sv w (lb_n P)) else decide (lb_n O < lb_n P)) then 1 else 0) else 2
def t_not (t : Nat) : Nat := if t = 2 then 2 else if t = 1 then 0 else 1
def t_and (a b : Nat) : Nat := if a = 0 then 0 else if b = 0 then 0 else if a = 1 then (if b = 1 then 1 else 2) else 2
theorem t_anyl (O U : Int64) : t_any O U < 3 := by unfold t_any; split; split; all_goals decide
theorem t_alll (w : Nat) (O U : Int64) : t_all w O U < 3 := by unfold t_all; split; split; all_goals decide
theorem t_oddl (O U : Int64) : t_odd O U < 3 := by unfold t_odd; split; have := Nat.mod_lt (pc_s 64 (lb_n O)) (show 0 < 2 by decide); omega; decide
theorem t_eql (w : Nat) (O U P V : Int64) : t_eq w O U P V < 3 := by unfold t_eq; split; split; all_goals decide
theorem t_idl (O U P V : Int64) : t_id O U P V < 3 := by unfold t_id; split; all_goals decide
theorem t_lsl (s : Bool) (w : Nat) (O U P V : Int64) : t_ls s w O U P V < 3 := by
  unfold t_ls
  by_cases c : (U ||| V) = 0
  · rw [if_pos c]
    generalize (if s = true then decide (lb_sv w (lb_n O) < lb_sv w (lb_n P)) else decide (lb_n O < lb_n P)) = b
    cases b <;> decide
  · rw [if_neg c]; decide
theorem t_notl {t : Nat} (h : t < 3) : t_not t < 3 := by unfold t_not; split; decide; split <;> decide
theorem t_andl {a b : Nat} : t_and a b < 3 := by
  unfold t_and
  split
  · decide
  · split
    · decide
    · split
      · split <;> decide
      · decide
theorem sx_opposite {t : Nat} (ht : t < 3) {post : Int32 → Prop} (hq : post (nI (t_not t))) : wp_X_opposite post (nI t) := by
  unfold wp_X_opposite
  rcases (show t = 0 ∨ t = 1 ∨ t = 2 by omega) with rfl | rfl | rfl
  · exact br_t (by decide) (br_t (by decide) hq)
  · exact br_t (by decide) (br_f (fun z => z rfl) hq)
  · exact br_f (fun z => z rfl) hq
theorem sx_bothTrue {a b : Nat} (ha : a < 3) (hb : b < 3) {post : Int32 → Prop} (hq : post (nI (t_and a b))) : wp_X_bothTrue post (nI a) (nI b) := by
  unfold wp_X_bothTrue
  rcases (show a = 0 ∨ a = 1 ∨ a = 2 by omega) with rfl | rfl | rfl
  · exact br_t rfl hq
  · refine br_f (by decide) ?_
    rcases (show b = 0 ∨ b = 1 ∨ b = 2 by omega) with rfl | rfl | rfl
    · exact br_f (fun z => z rfl) hq
    · exact br_t (by decide) (br_f (fun z => z rfl) (br_f (fun z => z rfl) hq))
    · exact br_t (by decide) (br_f (fun z => z rfl) (br_t (by decide) hq))
  · refine br_f (by decide) ?_
    rcases (show b = 0 ∨ b = 1 ∨ b = 2 by omega) with rfl | rfl | rfl
    · exact br_f (fun z => z rfl) hq
    · exact br_t (by decide) (br_t (by decide) hq)
    · exact br_t (by decide) (br_t (by decide) hq)
section XT
variable {fO fU : Nat → Int64} {fW fG fL : Nat → Int32} {len size : Int32}
variable {post : (Nat → Int64) → (Nat → Int64) → (Nat → Int32) → (Nat → Int32) → (Nat → Int32) → Int32 → Int32 → Prop}
variable {posi : Int32 → (Nat → Int64) → (Nat → Int64) → (Nat → Int32) → (Nat → Int32) → (Nat → Int32) → Int32 → Int32 → Prop}
theorem sx_anyOne {p : Nat} (hp : p < 64) (hq : posi (nI (t_any (fO p) (fU p))) fO fU fW fG fL len size) : wp_X_anyOne posi (nI p) fO fU fW fG fL len size := by
  have hin : vp_in (nI p) 64 := vp_in_nI hp (by decide)
  unfold wp_X_anyOne
  refine sx_sureOnes hp ?_
  rw [lc_0, nI_clamp (by omega), lc_0]
  unfold t_any at hq
  refine br_c (fun c => ⟨hin, br_c (fun d => ?_) (fun d => ?_)⟩) (fun c => ?_)
  · rw [if_pos c, if_pos d] at hq; exact hq
  · rw [if_pos c, if_neg d] at hq; exact hq
  · rw [if_neg c] at hq; exact hq
theorem sx_allOnes {p w : Nat} (hp : p < 64) (hW : fW p = nI w) (h2 : w ≤ 64) (hq : posi (nI (t_all w (fO p) (fU p))) fO fU fW fG fL len size) : wp_X_allOnes posi (nI p) fO fU fW fG fL len size := by
  have hin : vp_in (nI p) 64 := vp_in_nI hp (by decide)
  unfold wp_X_allOnes
  refine sx_sureZeros hp hW h2 ?_
  rw [lc_0, nI_clamp (by omega), lc_0]
  unfold t_all at hq
  refine br_c (fun c => ⟨hin, br_c (fun d => ?_) (fun d => ?_)⟩) (fun c => ?_)
  · rw [if_pos c, if_pos d] at hq; exact hq
  · rw [if_pos c, if_neg d] at hq; exact hq
  · rw [if_neg c] at hq; exact hq
theorem sx_equal {p q w : Nat} (hp : p < 64) (hq0 : q < 64) (hW1 : fW p = nI w) (hW2 : fW q = nI w) (h2 : w ≤ 64) (hq : posi (nI (t_eq w (fO p) (fU p) (fO q) (fU q))) fO fU fW fG fL len size) : wp_X_equal posi (nI p) (nI q) fO fU fW fG fL len size := by
  have hin : vp_in (nI p) 64 := vp_in_nI hp (by decide)
  have hin2 : vp_in (nI q) 64 := vp_in_nI hq0 (by decide)
  unfold wp_X_equal
  refine sx_sureOnes hp ?_
  refine sx_sureZeros hq0 hW2 h2 ?_
  refine sx_sureZeros hp hW1 h2 ?_
  refine sx_sureOnes hq0 ?_
  rw [lc_0, nI_clamp (show p < 2 ^ 31 by omega), nI_clamp (show q < 2 ^ 31 by omega), lc_0]
  unfold t_eq at hq
  refine br_c (fun c => ⟨hin, hin2, br_c (fun d => ?_) (fun d => ?_)⟩) (fun c => ?_)
  · rw [if_pos c, if_pos d] at hq; exact hq
  · rw [if_pos c, if_neg d] at hq; exact hq
  · rw [if_neg c] at hq; exact hq
theorem sx_identical {p q : Nat} (hp : p < 64) (hq0 : q < 64) (hq : posi (nI (t_id (fO p) (fU p) (fO q) (fU q))) fO fU fW fG fL len size) : wp_X_identical posi (nI p) (nI q) fO fU fW fG fL len size := by
  have hin : vp_in (nI p) 64 := vp_in_nI hp (by decide)
  have hin2 : vp_in (nI q) 64 := vp_in_nI hq0 (by decide)
  unfold wp_X_identical
  refine ⟨hin, hin2, ?_⟩
  rw [nI_clamp (show p < 2 ^ 31 by omega), nI_clamp (show q < 2 ^ 31 by omega), lg_cmp_eq, lg_cmp_eq]
  unfold t_id at hq
  refine br_c (fun c => ?_) (fun c => ⟨hin, hin2, br_c (fun d => ?_) (fun d => ?_)⟩)
  · rw [if_neg (fun z => c z.1)] at hq; exact hq
  · rw [if_neg (fun z => d z.2)] at hq; exact hq
  · rw [if_pos ⟨Classical.byContradiction c, Classical.byContradiction d⟩] at hq; exact hq
theorem sx_less {p q w : Nat} {s : Bool} (hp : p < 64) (hq0 : q < 64) (h1 : 1 ≤ w) (h2 : w ≤ 64) (hW1 : fW p = nI w) (hW2 : fW q = nI w) (hG1 : fG p = bi_v s) (hG2 : fG q = bi_v s) (m1 : lb_mk w (fO p)) (m2 : lb_mk w (fO q)) (hq : posi (nI (t_ls s w (fO p) (fU p) (fO q) (fU q))) fO fU fW fG fL len size) : wp_X_less posi (nI p) (nI q) fO fU fW fG fL len size := by
  have hin : vp_in (nI p) 64 := vp_in_nI hp (by decide)
  have hin2 : vp_in (nI q) 64 := vp_in_nI hq0 (by decide)
  have n1 := lb_mkn.mp m1
  have n2 := lb_mkn.mp m2
  unfold wp_X_less
  refine ⟨hin, hin2, ?_⟩
  rw [nI_clamp (show p < 2 ^ 31 by omega), nI_clamp (show q < 2 ^ 31 by omega), lc_0, hG1]
  unfold t_ls at hq
  refine br_c (fun c => ⟨hin, ?_⟩) (fun c => ?_)
  · rw [if_pos c] at hq
    cases s
    · rw [if_neg (show ¬ false = true by decide)] at hq
      refine br_t rfl ⟨hin, hin2, ?_⟩
      refine sx_below (fun d => ?_) (fun d => ?_)
      · rw [decide_eq_true d, if_pos rfl] at hq
        exact br_f (by decide) hq
      · rw [decide_eq_false d, if_neg (by decide)] at hq
        exact br_t rfl hq
    · rw [if_pos rfl] at hq
      refine br_f (by decide) ?_
      refine sx_number hp hW1 h2 hG1 ?_
      refine sx_number hq0 hW2 h2 hG2 ?_
      rw [lg_cmp_ge]
      have e1 : (nu_v true w (fO p)).toInt = lb_sv w (lb_n (fO p)) := lb_hfi h1 h2 n1
      have e2 : (nu_v true w (fO q)).toInt = lb_sv w (lb_n (fO q)) := lb_hfi h1 h2 n2
      refine br_c (fun d => ?_) (fun d => ?_)
      · rw [Int64.le_iff_toInt_le, e1, e2] at d
        rw [decide_eq_false (by omega), if_neg (by decide)] at hq
        exact br_t rfl hq
      · rw [Int64.le_iff_toInt_le, e1, e2] at d
        rw [decide_eq_true (by omega), if_pos rfl] at hq
        exact br_f (by decide) hq
  · rw [if_neg c] at hq; exact hq
def t_cmp (sg : Nat) (s : Bool) (w : Nat) (O U P V : Int64) : Nat :=
  if sg = 9 then t_eq w O U P V else if sg = 10 then t_not (t_eq w O U P V) else if sg = 11 then t_id O U P V else if sg = 12 then t_not (t_id O U P V)
  else if sg = 13 then t_ls s w O U P V else if sg = 14 then t_not (t_ls s w P V O U) else if sg = 15 then t_ls s w P V O U else if sg = 16 then t_not (t_ls s w O U P V)
  else if sg = 17 then t_and (t_any O U) (t_any P V) else t_not (t_and (t_not (t_any O U)) (t_not (t_any P V)))
theorem t_cmpl (sg : Nat) (s : Bool) (w : Nat) (O U P V : Int64) : t_cmp sg s w O U P V < 3 := by
  unfold t_cmp
  repeat' split
  all_goals first | exact t_eql _ _ _ _ _ | exact t_notl (t_eql _ _ _ _ _) | exact t_idl _ _ _ _ | exact t_notl (t_idl _ _ _ _) | exact t_lsl _ _ _ _ _ _ | exact t_notl (t_lsl _ _ _ _ _ _) | exact t_andl | exact t_notl t_andl
theorem sx_compared {sg p q w : Nat} {s : Bool} (g1 : 9 ≤ sg) (g2 : sg ≤ 18) (hp : p < 64) (hq0 : q < 64) (h1 : 1 ≤ w) (h2 : w ≤ 64) (hW1 : fW p = nI w) (hW2 : fW q = nI w) (hG1 : fG p = bi_v s) (hG2 : fG q = bi_v s) (m1 : lb_mk w (fO p)) (m2 : lb_mk w (fO q)) (hq : posi (nI (t_cmp sg s w (fO p) (fU p) (fO q) (fU q))) fO fU fW fG fL len size) : wp_X_compared posi (nI sg) (nI p) (nI q) fO fU fW fG fL len size := by
  have ti := nI_toInt (n := sg) (by omega)
  unfold wp_X_compared
  rw [ti]
  refine ⟨fun k => ?_, fun k => ?_, fun k => ?_, fun k => ?_, fun k => ?_, fun k => ?_, fun k => ?_, fun k => ?_, fun k => ?_, fun k => ?_⟩
  · obtain rfl : sg = 18 := by omega
    refine sx_anyOne hp ?_
    refine sx_opposite (t_anyl _ _) ?_
    refine sx_anyOne hq0 ?_
    refine sx_opposite (t_anyl _ _) ?_
    refine sx_bothTrue (t_notl (t_anyl _ _)) (t_notl (t_anyl _ _)) ?_
    exact sx_opposite t_andl hq
  · obtain rfl : sg = 9 := by omega
    exact sx_equal hp hq0 hW1 hW2 h2 hq
  · obtain rfl : sg = 10 := by omega
    refine sx_equal hp hq0 hW1 hW2 h2 ?_
    exact sx_opposite (t_eql _ _ _ _ _) hq
  · obtain rfl : sg = 11 := by omega
    exact sx_identical hp hq0 hq
  · obtain rfl : sg = 12 := by omega
    refine sx_identical hp hq0 ?_
    exact sx_opposite (t_idl _ _ _ _) hq
  · obtain rfl : sg = 13 := by omega
    exact sx_less hp hq0 h1 h2 hW1 hW2 hG1 hG2 m1 m2 hq
  · obtain rfl : sg = 14 := by omega
    refine sx_less hq0 hp h1 h2 hW2 hW1 hG2 hG1 m2 m1 ?_
    exact sx_opposite (t_lsl _ _ _ _ _ _) hq
  · obtain rfl : sg = 15 := by omega
    exact sx_less hq0 hp h1 h2 hW2 hW1 hG2 hG1 m2 m1 hq
  · obtain rfl : sg = 16 := by omega
    refine sx_less hp hq0 h1 h2 hW1 hW2 hG1 hG2 m1 m2 ?_
    exact sx_opposite (t_lsl _ _ _ _ _ _) hq
  · obtain rfl : sg = 17 := by omega
    refine sx_anyOne hp ?_
    refine sx_anyOne hq0 ?_
    exact sx_bothTrue (t_anyl _ _) (t_anyl _ _) hq
theorem sx_negate {p w : Nat} (hp : p < 64) (h1 : 1 ≤ w) (h2 : w ≤ 64) (hW : fW p = nI w) (m1 : lb_mk w (fO p))
    (hx : ¬ fU p = 0 → ∀ gO gU : Nat → Int64, gO p = lb_low w → gU p = lb_low w → (∀ r, r ≠ p → gO r = fO r) → (∀ r, r ≠ p → gU r = fU r) → post gO gU fW fG fL len size)
    (hv : fU p = 0 → ∀ gO gU : Nat → Int64, lb_mk w (gO p) → lb_n (gO p) % 2 ^ w = (2 ^ w - lb_n (fO p)) % 2 ^ w → gU p = 0 → (∀ r, r ≠ p → gO r = fO r) → (∀ r, r ≠ p → gU r = fU r) → post gO gU fW fG fL len size) : wp_X_negate post (nI p) fO fU fW fG fL len size := by
  have hin : vp_in (nI p) 64 := vp_in_nI hp (by decide)
  have n1 := lb_mkn.mp m1
  have zl : (0 : Int64) &&& lb_low w = 0 := lb_ext (fun i _ => by rw [lb_and, lb_0, Bool.false_and])
  unfold wp_X_negate
  refine ⟨hin, ?_⟩
  rw [nI_clamp (by omega), lc_0]
  refine br_c (fun c => ⟨hin, ?_⟩) (fun c => ?_)
  · refine sx_setBits hp hW h2 (fun gO gU g1 g2 g3 g4 => ?_)
    refine hv c gO gU ?_ ?_ ?_ g3 g4
    · rw [g1]; exact lb_mask h1 h2 _
    · rw [g1, lb_nmask h1 h2, Nat.mod_mod]
      exact md_neg h2 (Nat.le_of_lt n1) rfl
    · rw [g2]; exact zl
  · exact sx_fillWithX hp hW h1 h2 (hx c)
end XT
