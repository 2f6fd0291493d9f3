/-! the class's methods over the pile: what they answer, what they write -/
section XM
variable {fO fU : Nat → Int64} {fW fG fL : Nat → Int32} {len size : Int32}
variable {post : (Nat → Int64) → (Nat → Int64) → (Nat → Int32) → (Nat → Int32) → (Nat → Int32) → Int32 → Int32 → Prop}
variable {posl : Int64 → (Nat → Int64) → (Nat → Int64) → (Nat → Int32) → (Nat → Int32) → (Nat → Int32) → Int32 → Int32 → Prop}
variable {posi : Int32 → (Nat → Int64) → (Nat → Int64) → (Nat → Int32) → (Nat → Int32) → (Nat → Int32) → Int32 → Int32 → Prop}
theorem bi_nar (s : Bool) : vp_nar .boolean (bi_v s) = bi_v s := by cases s <;> rfl
theorem bi_0 (s : Bool) : bi_v s = 0 ↔ s = false := by cases s <;> decide
theorem sx_sureOnes {p : Nat} (hp : p < 64) (hq : posl (so_1 (fO p) (fU p)) fO fU fW fG fL len size) : wp_X_sureOnes posl (nI p) fO fU fW fG fL len size := by
  have hin : vp_in (nI p) 64 := vp_in_nI hp (by decide)
  unfold wp_X_sureOnes
  refine ⟨hin, hin, ?_⟩
  rw [nI_clamp (by omega)]
  exact hq
theorem sx_sureZeros {p w : Nat} (hp : p < 64) (hW : fW p = nI w) (h2 : w ≤ 64) (hq : posl (so_0 w (fO p) (fU p)) fO fU fW fG fL len size) : wp_X_sureZeros posl (nI p) fO fU fW fG fL len size := by
  have hin : vp_in (nI p) 64 := vp_in_nI hp (by decide)
  unfold wp_X_sureZeros
  refine ⟨hin, hin, hin, ?_⟩
  rw [nI_clamp (by omega), hW]
  exact sx_lowest h2 hq
def nu_v (s : Bool) (w : Nat) (x : Int64) : Int64 := if s then lb_hf w x else x
theorem sx_number {p w : Nat} {s : Bool} (hp : p < 64) (hW : fW p = nI w) (h2 : w ≤ 64) (hG : fG p = bi_v s) (hq : posl (nu_v s w (fO p)) fO fU fW fG fL len size) : wp_X_number posl (nI p) fO fU fW fG fL len size := by
  have hin : vp_in (nI p) 64 := vp_in_nI hp (by decide)
  unfold wp_X_number
  refine ⟨hin, ?_⟩
  rw [nI_clamp (by omega), hG, hW]
  cases s
  · exact br_t rfl ⟨hin, hq⟩
  · exact br_f (by decide) ⟨hin, hin, sx_hf h2 hq⟩
theorem sx_setSure {p w : Nat} (hp : p < 64) (hW : fW p = nI w) (h2 : w ≤ 64) {o z : Int64} (hq : ∀ gO gU : Nat → Int64, gO p = (z ^^^ (-1)) &&& lb_low w → gU p = ((o ||| z) ^^^ (-1)) &&& lb_low w → (∀ q, q ≠ p → gO q = fO q) → (∀ q, q ≠ p → gU q = fU q) → post gO gU fW fG fL len size) : wp_X_setSure post (nI p) o z fO fU fW fG fL len size := by
  unfold wp_X_setSure
  exact sx_setBits hp hW h2 hq
/-- a truth of the class: 0, 1, or 2 for not sure -/
def tr_O (t : Nat) : Int64 := if t = 0 then 0 else 1
def tr_U (t : Nat) : Int64 := if t = 2 then 1 else 0
def tr_m (t : Nat) : Int32 := if t = 0 then 0 else if t = 1 then 1 else 3
theorem tr_mk {t : Nat} (ht : t < 3) : lb_mk 1 (tr_O t) ∧ lb_mk 1 (tr_U t) := by
  have h1 : lb_mk 1 (1 : Int64) := fun i hi => by rw [lb_1, decide_eq_false (by omega)]
  have h0 : lb_mk 1 (0 : Int64) := lb_mk0 1
  unfold tr_O tr_U
  refine ⟨?_, ?_⟩
  · split
    · exact h0
    · exact h1
  · split
    · exact h1
    · exact h0
theorem tr_row {t : Nat} (ht : t < 3) {f : Nat → Int32} (hf : f 0 = tr_m t) : rw_R f 1 (tr_O t) (tr_U t) := by
  intro i hi
  obtain rfl : i = 0 := by omega
  rw [hf]
  rcases (show t = 0 ∨ t = 1 ∨ t = 2 by omega) with rfl | rfl | rfl <;> decide +kernel
theorem sx_setTruth {p t : Nat} (hp : p < 64) (ht : t < 3) (hq : ∀ (gO gU : Nat → Int64) (gW gG : Nat → Int32), gO p = tr_O t → gU p = tr_U t → gW p = nI 1 → gG p = bi_v false → (∀ q, q ≠ p → gO q = fO q) → (∀ q, q ≠ p → gU q = fU q) → (∀ q, q ≠ p → gW q = fW q) → (∀ q, q ≠ p → gG q = fG q) → post gO gU gW gG fL len size) : wp_X_setTruth post (nI p) (nI t) fO fU fW fG fL len size := by
  have hk := tr_mk ht
  have e1 := lb_masked (w := 1) (by decide) (by decide) hk.1
  have e2 := lb_masked (w := 1) (by decide) (by decide) hk.2
  have fin : wp_X_setTruth_21 post (tr_U t) (tr_O t) (nI p) fO fU fW fG fL len size := by
    unfold wp_X_setTruth_21
    refine sx_setValue (w := 1) (g := 0) hp (by decide) (Or.inl rfl) (fun gO gU gW gG a b c d e f g h => ?_)
    exact hq gO gU gW gG (a.trans e1) (b.trans e2) c d e f g h
  unfold wp_X_setTruth
  rcases (show t = 0 ∨ t = 1 ∨ t = 2 by omega) with rfl | rfl | rfl
  · refine br_f (fun z => z rfl) ?_
    unfold wp_X_setTruth_11
    exact br_t (by decide) fin
  · refine br_t (by decide) ?_
    unfold wp_X_setTruth_11
    exact br_t (by decide) fin
  · refine br_t (by decide) ?_
    unfold wp_X_setTruth_11
    exact br_f (fun z => z rfl) fin
theorem sx_copyValue {p r w : Nat} {s : Bool} (hp : p < 64) (hr : r < 64) (hW : fW p = nI w) (h2 : w ≤ 64) (hG : fG p = bi_v s) (hq : ∀ (gO gU : Nat → Int64) (gW gG : Nat → Int32), gO r = fO p &&& lb_low w → gU r = fU p &&& lb_low w → gW r = nI w → gG r = bi_v s → (∀ q, q ≠ r → gO q = fO q) → (∀ q, q ≠ r → gU q = fU q) → (∀ q, q ≠ r → gW q = fW q) → (∀ q, q ≠ r → gG q = fG q) → post gO gU gW gG fL len size) : wp_X_copyValue post (nI p) (nI r) fO fU fW fG fL len size := by
  have hin : vp_in (nI p) 64 := vp_in_nI hp (by decide)
  unfold wp_X_copyValue
  refine ⟨hin, hin, hin, hin, ?_⟩
  rw [nI_clamp (by omega), hW, hG]
  exact sx_setValue hr h2 (by cases s; exact Or.inl rfl; exact Or.inr rfl) hq
theorem sx_setWidth {p w0 w : Nat} {s : Bool} (hp : p < 64) (hW : fW p = nI w0) (h0 : w0 ≤ 64) (h2 : w ≤ 64) (hq : ∀ (gO gU : Nat → Int64) (gW : Nat → Int32), gO p = xt_v s w0 w (fO p) → gU p = xt_v s w0 w (fU p) → gW p = nI w → (∀ q, q ≠ p → gO q = fO q) → (∀ q, q ≠ p → gU q = fU q) → (∀ q, q ≠ p → gW q = fW q) → post gO gU gW fG fL len size) : wp_X_setWidth post (nI p) (nI w) (bi_v s) fO fU fW fG fL len size := by
  have hin : vp_in (nI p) 64 := vp_in_nI hp (by decide)
  have fin : ∀ o u : Int64, o &&& lb_low w = xt_v s w0 w (fO p) → u &&& lb_low w = xt_v s w0 w (fU p) → wp_X_setWidth_46 post (nI p) (nI w) o u fO fU fW fG fL len size := by
    intro o u ho hu
    unfold wp_X_setWidth_46
    refine ⟨hin, ?_⟩
    rw [nI_clamp (by omega)]
    refine sx_setBits hp pk_us h2 (fun gO gU a b c d => ?_)
    exact hq gO gU _ (a.trans ho) (b.trans hu) pk_us c d (fun q h => pk_un h)
  unfold wp_X_setWidth
  refine ⟨hin, ?_⟩
  rw [nI_clamp (by omega)]
  intro v hv
  refine ⟨hin, ?_⟩
  intro v2 hv2
  subst hv
  subst hv2
  cases s
  · exact br_t rfl (fin _ _ rfl rfl)
  · refine br_f (by decide) ⟨hin, ?_⟩
    rw [hW]
    refine sx_hf h0 ⟨hin, ?_⟩
    refine sx_hf h0 ?_
    exact fin _ _ rfl rfl
theorem sx_max {a b : Nat} (ha : a ≤ 64) (hb : b ≤ 64) : (if nI a < nI b then nI b else nI a) = nI (max a b) := by
  by_cases c : a < b
  · rw [if_pos (nI_lt c (by omega)), Nat.max_eq_right (by omega)]
  · rw [if_neg (nI_nlt (by omega) (by omega)), Nat.max_eq_left (by omega)]
theorem sx_bringTogether {p q w1 w2 : Nat} {s1 s2 : Bool} (hp : p < 64) (hq0 : q < 64) (hpq : p ≠ q) (hW1 : fW p = nI w1) (hW2 : fW q = nI w2) (k1 : w1 ≤ 64) (k2 : w2 ≤ 64) (hG1 : fG p = bi_v s1) (hG2 : fG q = bi_v s2)
    (hq : ∀ (gO gU : Nat → Int64) (gW gG : Nat → Int32), gO p = xt_v (s1 && s2) w1 (max w1 w2) (fO p) → gU p = xt_v (s1 && s2) w1 (max w1 w2) (fU p) → gO q = xt_v (s1 && s2) w2 (max w1 w2) (fO q) → gU q = xt_v (s1 && s2) w2 (max w1 w2) (fU q) → gW p = nI (max w1 w2) → gW q = nI (max w1 w2) → gG p = bi_v (s1 && s2) → gG q = bi_v (s1 && s2) →
      (∀ r, r ≠ p → r ≠ q → gO r = fO r) → (∀ r, r ≠ p → r ≠ q → gU r = fU r) → (∀ r, r ≠ p → r ≠ q → gW r = fW r) → (∀ r, r ≠ p → r ≠ q → gG r = fG r) → post gO gU gW gG fL len size) : wp_X_bringTogether post (nI p) (nI q) fO fU fW fG fL len size := by
  have hin : vp_in (nI p) 64 := vp_in_nI hp (by decide)
  have hin2 : vp_in (nI q) 64 := vp_in_nI hq0 (by decide)
  have km : max w1 w2 ≤ 64 := Nat.max_le.mpr ⟨k1, k2⟩
  have fin : wp_X_bringTogether_23 post (nI p) (nI q) (bi_v (s1 && s2)) fO fU fW fG fL len size := by
    unfold wp_X_bringTogether_23
    refine ⟨hin, hin2, ?_⟩
    rw [nI_clamp (show p < 2 ^ 31 by omega), nI_clamp (show q < 2 ^ 31 by omega), hW1, hW2, sx_max k1 k2]
    intro v hv
    subst hv
    refine sx_setWidth hp hW1 k1 km (fun gO gU gW a1 a2 a3 a4 a5 a6 => ?_)
    refine sx_setWidth hq0 (by rw [a6 q (Ne.symm hpq)]; exact hW2) k2 km (fun gO2 gU2 gW2 b1 b2 b3 b4 b5 b6 => ?_)
    refine ⟨hin, hin2, ?_⟩
    rw [bi_nar]
    refine hq gO2 gU2 gW2 _ ?_ ?_ ?_ ?_ ?_ ?_ ?_ ?_ ?_ ?_ ?_ ?_
    · rw [b4 p hpq]; exact a1
    · rw [b5 p hpq]; exact a2
    · rw [b1, a4 q (Ne.symm hpq)]
    · rw [b2, a5 q (Ne.symm hpq)]
    · rw [b6 p hpq]; exact a3
    · exact b3
    · rw [pk_un hpq]; exact pk_us
    · exact pk_us
    · intro r h1 h2; rw [b4 r h2, a4 r h1]
    · intro r h1 h2; rw [b5 r h2, a5 r h1]
    · intro r h1 h2; rw [b6 r h2, a6 r h1]
    · intro r h1 h2; rw [pk_un h2, pk_un h1]
  unfold wp_X_bringTogether
  refine ⟨hin, ?_⟩
  rw [nI_clamp (show p < 2 ^ 31 by omega), nI_clamp (show q < 2 ^ 31 by omega), hG1, hG2]
  cases s1
  · exact br_t rfl fin
  · refine br_f (by decide) ⟨hin2, ?_⟩
    cases s2
    · exact br_t rfl fin
    · exact br_f (by decide) fin
end XM
