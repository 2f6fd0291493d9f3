/-! a value brought to another width; the relation between the two sides -/
def xt_v (s : Bool) (w0 w : Nat) (x : Int64) : Int64 := (if s then lb_hf w0 x else x) &&& lb_low w
theorem xt_mk {w : Nat} (h1 : 1 ≤ w) (h2 : w ≤ 64) (s : Bool) (w0 : Nat) (x : Int64) : lb_mk w (xt_v s w0 w x) := lb_mask h1 h2 _
theorem xt_t {w0 w : Nat} (h0 : 1 ≤ w0) (h0' : w0 ≤ 64) (h1 : 1 ≤ w) (h2 : w ≤ 64) {x : Int64} (hx : lb_mk w0 x) (s : Bool) {i : Nat} (hi : i < w) : lb_t (xt_v s w0 w x) i = if i < w0 then lb_t x i else (s && lb_t x (w0 - 1)) := by
  unfold xt_v
  rw [lb_maskt h1 h2 _ hi]
  cases s
  · rw [if_neg (by decide)]
    by_cases c : i < w0
    · rw [if_pos c]
    · rw [if_neg c, hx i (by omega), Bool.false_and]
  · rw [if_pos rfl, lb_hft h0 h0' x (by omega)]
    by_cases c : i < w0
    · rw [if_pos c, if_pos c]
    · rw [if_neg c, if_neg c, Bool.true_and]
theorem xt_same {w : Nat} (h1 : 1 ≤ w) (h2 : w ≤ 64) {x : Int64} (hx : lb_mk w x) (s : Bool) : xt_v s w w x = x := by
  apply lb_eqm (xt_mk h1 h2 s w x) hx
  intro i hi
  rw [xt_t h1 h2 h1 h2 hx s hi, if_pos hi]
/-- a row of the reference, read off another with its highest bit in front -/
theorem xt_row {w0 w : Nat} (h0 : 1 ≤ w0) (h0' : w0 ≤ 64) (h1 : 1 ≤ w) (h2 : w ≤ 64) {O U : Int64} (hO : lb_mk w0 O) (hU : lb_mk w0 U) {b f : Nat → Int32} (hb : rw_R b w0 O U) (s : Bool)
    (hf : ∀ i, i < w → f i = if i < w0 then b i else if s then b (w0 - 1) else 0) : rw_R f w (xt_v s w0 w O) (xt_v s w0 w U) := by
  intro i hi
  rw [hf i hi, xt_t h0 h0' h1 h2 hO s hi, xt_t h0 h0' h1 h2 hU s hi]
  by_cases c : i < w0
  · rw [if_pos c, if_pos c, if_pos c, hb i c]
  · rw [if_neg c, if_neg c, if_neg c]
    cases s
    · rw [if_neg (by decide)]; rfl
    · rw [if_pos rfl, hb (w0 - 1) (by omega)]; rfl
/-- a place of the pile on both sides: w bits, with a sign or without -/
def bi_v (s : Bool) : Int32 := if s then 1 else 0
def re_v (w : Nat) (s : Bool) (O U : Int64) (W G kW kS : Int32) (b : Nat → Int32) : Prop :=
  1 ≤ w ∧ w ≤ 64 ∧ W = nI w ∧ kW = nI w ∧ G = bi_v s ∧ kS = bi_v s ∧ lb_mk w O ∧ lb_mk w U ∧ rw_R b w O U
def re_P (m : Nat) (fO fU : Nat → Int64) (fW fG kb kw ks : Nat → Int32) : Prop := ∀ p, p < m → ∃ w s, re_v w s (fO p) (fU p) (fW p) (fG p) (kw p) (ks p) (fun i => kb (64 * p + i))
def re_T (t : Nat) (fL kt : Nat → Int32) : Prop := ∀ j, j < t → ∃ c, c < 128 ∧ fL j = nI c ∧ kt j = nI c
def re_L (fO fU : Nat → Int64) (fW fG fL : Nat → Int32) (len size : Int32) (kb kw ks kt : Nat → Int32) (many tsz : Int32) : Prop :=
  ∃ m t : Nat, m ≤ 64 ∧ t ≤ 64 ∧ size = nI m ∧ many = nI m ∧ len = nI t ∧ tsz = nI t ∧ re_P m fO fU fW fG kb kw ks ∧ re_T t fL kt
theorem re_less {m n : Nat} {fO fU : Nat → Int64} {fW fG kb kw ks : Nat → Int32} (h : re_P m fO fU fW fG kb kw ks) (hn : n ≤ m) : re_P n fO fU fW fG kb kw ks := fun p hp => h p (by omega)
/-- the topmost of the first m + 1 places is written, those below stay -/
theorem re_put {m w : Nat} {s : Bool} {fO fU gO gU : Nat → Int64} {fW fG kb kw ks gW gG lb lw ls : Nat → Int32} (h : re_P m fO fU fW fG kb kw ks) (hO : ∀ q, q < m → gO q = fO q) (hU : ∀ q, q < m → gU q = fU q) (hW : ∀ q, q < m → gW q = fW q) (hG : ∀ q, q < m → gG q = fG q)
    (hb : ∀ j, j < 64 * m → lb j = kb j) (hw : ∀ q, q < m → lw q = kw q) (hs : ∀ q, q < m → ls q = ks q) (hv : re_v w s (gO m) (gU m) (gW m) (gG m) (lw m) (ls m) (fun i => lb (64 * m + i))) : re_P (m + 1) gO gU gW gG lb lw ls := by
  intro p hp
  rcases Nat.lt_or_ge p m with c | c
  · obtain ⟨w1, s1, a1, a2, a3, a4, a5, a6, a7, a8, a9⟩ := h p c
    refine ⟨w1, s1, a1, a2, ?_, ?_, ?_, ?_, ?_, ?_, ?_⟩
    · rw [hW p c]; exact a3
    · rw [hw p c]; exact a4
    · rw [hG p c]; exact a5
    · rw [hs p c]; exact a6
    · rw [hO p c]; exact a7
    · rw [hU p c]; exact a8
    · intro i hi
      rw [hO p c, hU p c]
      show lb (64 * p + i) = _
      rw [hb _ (by omega)]
      exact a9 i hi
  · obtain rfl : p = m := by omega
    exact ⟨w, s, hv⟩
/-! sorts of bits over a whole row -/
theorem ro_dark {f : Nat → Int32} {w : Nat} {O U : Int64} (h : rw_R f w O U) (hU : lb_mk w U) : U = 0 ↔ ∀ i, i < w → ¬ 1 < f i := by
  rw [lb_zero hU]
  constructor
  · intro z i hi
    rw [h i hi, rw_qd, z i hi]; decide
  · intro z i hi
    have := z i hi
    rw [h i hi, rw_qd] at this
    cases hb : lb_t U i
    · rfl
    · exact absurd hb this
def so_1 (O U : Int64) : Int64 := O &&& (U ^^^ (-1))
def so_0 (w : Nat) (O U : Int64) : Int64 := ((O ||| U) ^^^ (-1)) &&& lb_low w
theorem so_1t {w : Nat} (h2 : w ≤ 64) (O U : Int64) {i : Nat} (hi : i < w) : lb_t (so_1 O U) i = (lb_t O i && !lb_t U i) := by
  unfold so_1; rw [lb_and, lb_not (by omega)]
theorem so_1m {w : Nat} {O : Int64} (U : Int64) (hO : lb_mk w O) : lb_mk w (so_1 O U) := by
  intro i hi
  unfold so_1; rw [lb_and, hO i hi, Bool.false_and]
theorem so_0t {w : Nat} (h1 : 1 ≤ w) (h2 : w ≤ 64) (O U : Int64) {i : Nat} (hi : i < w) : lb_t (so_0 w O U) i = (!lb_t O i && !lb_t U i) := by
  unfold so_0; rw [lb_maskt h1 h2 _ hi, lb_not (by omega), lb_or]
  cases lb_t O i <;> cases lb_t U i <;> rfl
theorem so_0m {w : Nat} (h1 : 1 ≤ w) (h2 : w ≤ 64) (O U : Int64) : lb_mk w (so_0 w O U) := lb_mask h1 h2 _
theorem ro_one {f : Nat → Int32} {w : Nat} {O U : Int64} (h2 : w ≤ 64) (h : rw_R f w O U) (hO : lb_mk w O) : so_1 O U = 0 ↔ ∀ i, i < w → ¬ f i = 1 := by
  rw [lb_zero (so_1m U hO)]
  constructor
  · intro z i hi
    have := z i hi
    rw [so_1t h2 O U hi] at this
    rw [h i hi, rw_q1]
    intro c
    rw [c.1, c.2] at this
    exact absurd this (by decide)
  · intro z i hi
    have := z i hi
    rw [h i hi, rw_q1] at this
    rw [so_1t h2 O U hi]
    cases ho : lb_t O i <;> cases hu : lb_t U i <;> first | rfl | exact absurd ⟨ho, hu⟩ this
theorem ro_zero {f : Nat → Int32} {w : Nat} {O U : Int64} (h1 : 1 ≤ w) (h2 : w ≤ 64) (h : rw_R f w O U) : so_0 w O U = 0 ↔ ∀ i, i < w → ¬ f i = 0 := by
  rw [lb_zero (so_0m h1 h2 O U)]
  constructor
  · intro z i hi
    have := z i hi
    rw [so_0t h1 h2 O U hi] at this
    rw [h i hi, rw_qz]
    intro c
    rw [c.1, c.2] at this
    exact absurd this (by decide)
  · intro z i hi
    have := z i hi
    rw [h i hi, rw_qz] at this
    rw [so_0t h1 h2 O U hi]
    cases ho : lb_t O i <;> cases hu : lb_t U i <;> first | rfl | exact absurd ⟨ho, hu⟩ this
