/-! combine; demands; the end of a call on both sides -/
theorem ss_bit {w : Nat} (h1 : 1 ≤ w) (h2 : w ≤ 64) {o z : Int64} {i : Nat} (hi : i < w) : rw_q (lb_t ((z ^^^ (-1)) &&& lb_low w) i) (lb_t (((o ||| z) ^^^ (-1)) &&& lb_low w) i) = if lb_t z i then 0 else if lb_t o i then 1 else 3 := by
  rw [lb_maskt h1 h2 _ hi, lb_maskt h1 h2 _ hi, lb_not (by omega), lb_not (by omega), lb_or]
  cases lb_t z i <;> cases lb_t o i <;> rfl
section XC
variable {fO fU : Nat → Int64} {fW fG fL : Nat → Int32} {len size : Int32}
variable {post : (Nat → Int64) → (Nat → Int64) → (Nat → Int32) → (Nat → Int32) → (Nat → Int32) → Int32 → Int32 → Prop}
theorem sx_combine {sg p q w : Nat} (g1 : 5 ≤ sg) (g2 : sg ≤ 8) (hp : p < 64) (hq0 : q < 64) (h1 : 1 ≤ w) (h2 : w ≤ 64) (hW1 : fW p = nI w) (hW2 : fW q = nI w)
    (hq : ∀ gO gU : Nat → Int64, lb_mk w (gO p) → lb_mk w (gU p) → (∀ i, i < w → rw_q (lb_t (gO p) i) (lb_t (gU p) i) = lo_v sg (lb_t (fO p) i) (lb_t (fU p) i) (lb_t (fO q) i) (lb_t (fU q) i)) → (∀ r, r ≠ p → gO r = fO r) → (∀ r, r ≠ p → gU r = fU r) → post gO gU fW fG fL len size) : wp_X_combine post (nI sg) (nI p) (nI q) fO fU fW fG fL len size := by
  have ti := nI_toInt (n := sg) (by omega)
  have fin : ∀ o z : Int64, (∀ i, i < w → (if lb_t z i then (0 : Int32) else if lb_t o i then 1 else 3) = lo_v sg (lb_t (fO p) i) (lb_t (fU p) i) (lb_t (fO q) i) (lb_t (fU q) i)) → wp_X_setSure (fun fO1 fU1 fW1 fG1 fL1 len1 size1 => wp_X_combine_137 post fO1 fU1 fW1 fG1 fL1 len1 size1) (nI p) o z fO fU fW fG fL len size := by
    intro o z hz
    refine sx_setSure hp hW1 h2 (fun gO gU a b c d => ?_)
    refine hq gO gU ?_ ?_ (fun i hi => ?_) c d
    · rw [a]; exact lb_mask h1 h2 _
    · rw [b]; exact lb_mask h1 h2 _
    · rw [a, b, ss_bit h1 h2 hi]; exact hz i hi
  unfold wp_X_combine
  refine sx_sureOnes hp ?_
  refine sx_sureOnes hq0 ?_
  refine sx_sureZeros hp hW1 h2 ?_
  refine sx_sureZeros hq0 hW2 h2 ?_
  intro v hv v2 hv2
  rw [ti]
  refine ⟨fun k => fin _ _ (fun i hi => ?_), fun k => fin _ _ (fun i hi => ?_), fun k => fin _ _ (fun i hi => ?_), fun k => fin _ _ (fun i hi => ?_)⟩
  · obtain rfl : sg = 8 := by omega
    rw [hv, hv2, lb_or, lb_or, lb_and, lb_and, lb_and, lb_and, so_1t h2 _ _ hi, so_1t h2 _ _ hi, so_0t h1 h2 _ _ hi, so_0t h1 h2 _ _ hi]
    cases lb_t (fO p) i <;> cases lb_t (fU p) i <;> cases lb_t (fO q) i <;> cases lb_t (fU q) i <;> rfl
  · obtain rfl : sg = 5 := by omega
    rw [lb_or, lb_and, so_1t h2 _ _ hi, so_1t h2 _ _ hi, so_0t h1 h2 _ _ hi, so_0t h1 h2 _ _ hi]
    cases lb_t (fO p) i <;> cases lb_t (fU p) i <;> cases lb_t (fO q) i <;> cases lb_t (fU q) i <;> rfl
  · obtain rfl : sg = 6 := by omega
    rw [lb_or, lb_and, so_1t h2 _ _ hi, so_1t h2 _ _ hi, so_0t h1 h2 _ _ hi, so_0t h1 h2 _ _ hi]
    cases lb_t (fO p) i <;> cases lb_t (fU p) i <;> cases lb_t (fO q) i <;> cases lb_t (fU q) i <;> rfl
  · obtain rfl : sg = 7 := by omega
    rw [hv, hv2, lb_or, lb_or, lb_and, lb_and, lb_and, lb_and, so_1t h2 _ _ hi, so_1t h2 _ _ hi, so_0t h1 h2 _ _ hi, so_0t h1 h2 _ _ hi]
    cases lb_t (fO p) i <;> cases lb_t (fU p) i <;> cases lb_t (fO q) i <;> cases lb_t (fU q) i <;> rfl
theorem sx_rk {Q : Prop} {a lo hi : Int32} (h1 : ¬ a < lo) (h2 : a ≤ hi) (h : Q) : wp_X_demandRange_k Q a lo hi := by
  unfold wp_X_demandRange_k
  exact br_f h1 (br_t h2 h)
theorem sx_rt {a lo hi : Int32} (h : a < lo ∨ ¬ a ≤ hi) : wp_X_demandRange_t a lo hi := by
  unfold wp_X_demandRange_t
  by_cases c : a < lo
  · exact br_t c trivial
  · exact br_f c (br_f (h.resolve_left c) trivial)
theorem sx_vk {need m : Nat} (hn : need ≤ 64) (hm : m ≤ 64) (h : need ≤ m) (hs : size = nI m) (hq : post fO fU fW fG fL len size) : wp_X_demandValues_k post (nI need) fO fU fW fG fL len size := by
  unfold wp_X_demandValues_k
  rw [hs] at hq ⊢
  exact br_t (nI_le h (by omega)) hq
theorem sx_vt {need m : Nat} (hn : need ≤ 64) (hm : m ≤ 64) (h : m < need) (hs : size = nI m) : wp_X_demandValues_t (nI need) fO fU fW fG fL len size := by
  unfold wp_X_demandValues_t
  rw [hs]
  exact br_f (nI_ge h (by omega)) trivial
theorem sx_ok {m : Nat} (h : m < 64) (hs : size = nI m) (hq : post fO fU fW fG fL len size) : wp_X_demandRoom_k post fO fU fW fG fL len size := by
  unfold wp_X_demandRoom_k
  rw [hs] at hq ⊢
  exact br_t (nI_lt (b := 64) h (by decide)) hq
theorem sx_ot {m : Nat} (h : ¬ m < 64) (hm : m ≤ 64) (hs : size = nI m) : wp_X_demandRoom_t fO fU fW fG fL len size := by
  unfold wp_X_demandRoom_t
  rw [hs]
  exact br_f (nI_nlt (b := 64) (by omega) (by omega)) trivial
theorem sx_pk {a m : Nat} (h : a < m) (hm : m ≤ 64) (hs : size = nI m) (hq : post fO fU fW fG fL len size) : wp_X_demandPlace_k post (nI a) fO fU fW fG fL len size := by
  unfold wp_X_demandPlace_k
  rw [hs] at hq ⊢
  exact br_f (nI_pos (by omega)) (br_t (nI_lt h (by omega)) hq)
theorem sx_pt {a : Int32} {m : Nat} (h : a < 0 ∨ ¬ a < nI m) (hs : size = nI m) : wp_X_demandPlace_t a fO fU fW fG fL len size := by
  unfold wp_X_demandPlace_t
  rw [hs]
  by_cases c : a < 0
  · exact br_t c trivial
  · exact br_f c (br_f (h.resolve_left c) trivial)
end XC
/-- an int that lies between two numbers -/
theorem in_rg {a : Int32} {lo hi : Nat} (h : hi < 2 ^ 31) (hl : lo ≤ hi) (h1 : ¬ a < nI lo) (h2 : a ≤ nI hi) : ∃ n, lo ≤ n ∧ n ≤ hi ∧ a = nI n := by
  have e0 : (0 : Int32).toInt = 0 := by decide
  have k1 := nI_toInt (n := lo) (by omega)
  have k2 := nI_toInt (n := hi) h
  rw [Int32.lt_iff_toInt_lt, k1] at h1
  rw [Int32.le_iff_toInt_le, k2] at h2
  obtain ⟨n, hn, rfl⟩ := nI_of (x := a) (by rw [Int32.lt_iff_toInt_lt, e0]; omega)
  rw [nI_toInt hn] at h1 h2
  exact ⟨n, by omega, by omega, rfl⟩
/-- the end of a call that leaves n + 1 values: the topmost is new on both sides -/
theorem re_fin {n t w : Nat} {s : Bool} {fO fU gO gU : Nat → Int64} {fW fG fL kb kw ks kt gW gG lb lw ls : Nat → Int32} {len size tsz many : Int32} (hn : n < 64) (ht : t ≤ 64) (hP : re_P n fO fU fW fG kb kw ks) (hT : re_T t fL kt) (hl : len = nI t) (hz : tsz = nI t) (hs : size = nI (n + 1)) (hm : many = nI (n + 1))
    (hO : ∀ q, q < n → gO q = fO q) (hU : ∀ q, q < n → gU q = fU q) (hW : ∀ q, q < n → gW q = fW q) (hG : ∀ q, q < n → gG q = fG q) (hb : ∀ j, j < 64 * n → lb j = kb j) (hw : ∀ q, q < n → lw q = kw q) (hs2 : ∀ q, q < n → ls q = ks q)
    (h1 : 1 ≤ w) (h2 : w ≤ 64) (vW : gW n = nI w) (vw : lw n = nI w) (vG : gG n = bi_v s) (vs : ls n = bi_v s) (mO : lb_mk w (gO n)) (mU : lb_mk w (gU n)) (hR : rw_R (fun i => lb (64 * n + i)) w (gO n) (gU n)) : re_L gO gU gW gG fL len size lb lw ls kt many tsz :=
  ⟨n + 1, t, by omega, ht, hs, hm, hl, hz, re_put hP hO hU hW hG hb hw hs2 ⟨h1, h2, vW, vw, vG, vs, mO, mU, hR⟩, hT⟩
theorem rw_Rn {f : Nat → Int32} {w : Nat} {O U : Int64} (h : rw_R f w O U) : ∀ i, i < w → vp_nar .byte (f i) = f i := fun i hi => by rw [h i hi]; exact rw_nb _ _
theorem rw_Rc {f g : Nat → Int32} {w : Nat} {O U : Int64} (h : rw_R f w O U) (e : ∀ i, i < w → g i = f i) : rw_R g w O U := fun i hi => by rw [e i hi]; exact h i hi
/-- all x -/
theorem rw_x {f : Nat → Int32} {w : Nat} (h1 : 1 ≤ w) (h2 : w ≤ 64) (h : ∀ i, i < w → f i = nI 3) : rw_R f w (lb_low w) (lb_low w) := fun i hi => by rw [h i hi, lb_lowt h1 h2, decide_eq_true hi]; rfl
theorem lb_lowm {w : Nat} (h1 : 1 ≤ w) (h2 : w ≤ 64) : lb_mk w (lb_low w) := fun i hi => by rw [lb_lowt h1 h2, decide_eq_false (by omega)]
