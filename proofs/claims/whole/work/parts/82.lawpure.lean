/-! the law's predicate holds: each call by op_, behind it by mo_ -/
theorem lp_end {P : Prop} {t r : Int32} (h1 : t = r) (h2 : P) : (t = r → P) ∧ (¬ t = r → False) := ⟨fun _ => h2, fun c => c h1⟩
theorem lp_v0 : vp_in (0 : Int32) 1 := by unfold vp_in; decide
theorem lp_c0 : (0 : Int32).toNatClampNeg = 0 := by decide
theorem lp_fin {P : Prop} {t r : Int32} {fo : Nat → Int64} {b : Int64} (h1 : t = r) (h2 : r = 0 → fo 0 = b) (h3 : P) : (t = r → ((¬ r = 0 → P) ∧ (¬ ¬ r = 0 → (vp_in (0 : Int32) 1 ∧ (((lg_cmp (fo (0 : Int32).toNatClampNeg) b) = 0 → P) ∧ (¬ (lg_cmp (fo (0 : Int32).toNatClampNeg) b) = 0 → False)))))) ∧ (¬ t = r → False) := by
  refine ⟨fun _ => ⟨fun _ => h3, fun c => ⟨lp_v0, fun _ => h3, fun d => ?_⟩⟩, fun c => c h1⟩
  rw [lp_c0] at d
  exact d ((lg_cmp_eq _ _).mpr (h2 (Classical.not_not.mp c)))
section LPU
variable {K23 : Int32 → (Nat → Int64) → (Nat → Int64) → (Nat → Int32) → (Nat → Int32) → (Nat → Int32) → Int32 → Int32 → (Nat → Int32) → (Nat → Int32) → (Nat → Int32) → (Nat → Int32) → (Nat → Int32) → (Nat → Int32) → (Nat → Int32) → (Nat → Int32) → (Nat → Int32) → Int32 → Int32 → Int32 → (Nat → Int64) → Prop} {L : Nat} {xs : Nat → Int32} {x4 : Int32} {fO : (Nat → Int64)} {fU : (Nat → Int64)} {fW : (Nat → Int32)} {fG : (Nat → Int32)} {fL : (Nat → Int32)} {len : Int32} {size : Int32} {kb : (Nat → Int32)} {kw : (Nat → Int32)} {ks : (Nat → Int32)} {ka : (Nat → Int32)} {kq : (Nat → Int32)} {kc : (Nat → Int32)} {kr : (Nat → Int32)} {kt : (Nat → Int32)} {kd : (Nat → Int32)} {many : Int32} {tsz : Int32} {thr : Int32} {fo : Nat → Int64}
theorem lp_182 (s : Bool) (hs : (xs (x4 + (6 : Int32)).toNatClampNeg) = 0 ↔ s = false) (hk : ∀ (fO : (Nat → Int64)) (fU : (Nat → Int64)) (fW : (Nat → Int32)) (fG : (Nat → Int32)) (fL : (Nat → Int32)) (len : Int32) (size : Int32) (kb : (Nat → Int32)) (kw : (Nat → Int32)) (ks : (Nat → Int32)) (ka : (Nat → Int32)) (kq : (Nat → Int32)) (kc : (Nat → Int32)) (kr : (Nat → Int32)) (kt : (Nat → Int32)) (kd : (Nat → Int32)) (many : Int32) (tsz : Int32) (thr : Int32) (fo : Nat → Int64), re_L fO fU fW fG fL len size kb kw ks kt many tsz → K23 (x4 + 7) fO fU fW fG fL len size kb kw ks ka kq kc kr kt kd many tsz thr fo) (v1 : vp_in (x4 + (1 : Int32)) L) (v2 : vp_in (x4 + (2 : Int32)) L) (v3 : vp_in (x4 + (3 : Int32)) L) (v4 : vp_in (x4 + (4 : Int32)) L) (v5 : vp_in (x4 + (5 : Int32)) L) (v6 : vp_in (x4 + (6 : Int32)) L) (R : re_L fO fU fW fG fL len size kb kw ks kt many tsz) : wp_L_law_182 K23 L xs x4 (bi_v s) (xs (x4 + (5 : Int32)).toNatClampNeg) ((((xs (x4 + (3 : Int32)).toNatClampNeg).toInt64) <<< ((32 : Int32).toInt64 &&& 63)) ||| (((xs (x4 + (4 : Int32)).toNatClampNeg).toInt64) &&& (4294967295 : Int64))) ((((xs (x4 + (1 : Int32)).toNatClampNeg).toInt64) <<< ((32 : Int32).toInt64 &&& 63)) ||| (((xs (x4 + (2 : Int32)).toNatClampNeg).toInt64) &&& (4294967295 : Int64))) fO fU fW fG fL len size kb kw ks ka kq kc kr kt kd many tsz thr fo := by
  unfold wp_L_law_182
  refine mo_L_push (fun r fO1 fU1 fW1 fG1 fL1 len1 size1 fo1 h => ?_) _ _ _ _ _ _ _ _ _ _ _ _ (op_push (s := s) (ka := ka) (kq := kq) (kc := kc) (kr := kr) (kd := kd) (thr := thr) R)
  refine ⟨v1, v2, v3, v4, v5, v6, fun c => ?_, fun c => ?_⟩
  · cases s with
    | false =>
      unfold wp_L_law_254
      exact mo_M_push (fun b kb1 kw1 ks1 ka1 kq1 kc1 kr1 kt1 kd1 many1 tsz1 thr1 g => lp_fin g.1 g.2.1 (hk _ _ _ _ _ _ _ _ _ _ _ _ _ _ _ _ _ _ _ _ g.2.2)) _ _ _ _ _ _ _ _ _ _ _ _ _ _ _ _ h
    | true => exact absurd (hs.mp c) (by decide)
  · cases s with
    | true =>
      unfold wp_L_law_254
      exact mo_M_push (fun b kb1 kw1 ks1 ka1 kq1 kc1 kr1 kt1 kd1 many1 tsz1 thr1 g => lp_fin g.1 g.2.1 (hk _ _ _ _ _ _ _ _ _ _ _ _ _ _ _ _ _ _ _ _ g.2.2)) _ _ _ _ _ _ _ _ _ _ _ _ _ _ _ _ h
    | false => exact absurd (hs.mpr rfl) c
theorem lp_575 (s : Bool) (hs : (xs (x4 + (2 : Int32)).toNatClampNeg) = 0 ↔ s = false) (hk : ∀ (fO : (Nat → Int64)) (fU : (Nat → Int64)) (fW : (Nat → Int32)) (fG : (Nat → Int32)) (fL : (Nat → Int32)) (len : Int32) (size : Int32) (kb : (Nat → Int32)) (kw : (Nat → Int32)) (ks : (Nat → Int32)) (ka : (Nat → Int32)) (kq : (Nat → Int32)) (kc : (Nat → Int32)) (kr : (Nat → Int32)) (kt : (Nat → Int32)) (kd : (Nat → Int32)) (many : Int32) (tsz : Int32) (thr : Int32) (fo : Nat → Int64), re_L fO fU fW fG fL len size kb kw ks kt many tsz → K23 (x4 + 7) fO fU fW fG fL len size kb kw ks ka kq kc kr kt kd many tsz thr fo) (v1 : vp_in (x4 + (1 : Int32)) L) (v2 : vp_in (x4 + (2 : Int32)) L) (R : re_L fO fU fW fG fL len size kb kw ks kt many tsz) : wp_L_law_575 K23 L xs x4 (bi_v s) (xs (x4 + (1 : Int32)).toNatClampNeg) fO fU fW fG fL len size kb kw ks ka kq kc kr kt kd many tsz thr fo := by
  unfold wp_L_law_575
  refine mo_L_as (fun r fO1 fU1 fW1 fG1 fL1 len1 size1 h => ?_) _ _ _ _ _ _ _ _ _ (op_as (s := s) (ka := ka) (kq := kq) (kc := kc) (kr := kr) (kd := kd) (thr := thr) R)
  refine ⟨v1, v2, fun c => ?_, fun c => ?_⟩
  · cases s with
    | false =>
      unfold wp_L_law_601
      exact mo_M_as (fun kb1 kw1 ks1 ka1 kq1 kc1 kr1 kt1 kd1 many1 tsz1 thr1 g => lp_end g.1 (hk _ _ _ _ _ _ _ _ _ _ _ _ _ _ _ _ _ _ _ _ g.2)) _ _ _ _ _ _ _ _ _ _ _ _ _ _ h
    | true => exact absurd (hs.mp c) (by decide)
  · cases s with
    | true =>
      unfold wp_L_law_601
      exact mo_M_as (fun kb1 kw1 ks1 ka1 kq1 kc1 kr1 kt1 kd1 many1 tsz1 thr1 g => lp_end g.1 (hk _ _ _ _ _ _ _ _ _ _ _ _ _ _ _ _ _ _ _ _ g.2)) _ _ _ _ _ _ _ _ _ _ _ _ _ _ h
    | false => exact absurd (hs.mpr rfl) c
theorem lp_675 (s : Bool) (hs : (xs (x4 + (2 : Int32)).toNatClampNeg) = 0 ↔ s = false) (hk : ∀ (fO : (Nat → Int64)) (fU : (Nat → Int64)) (fW : (Nat → Int32)) (fG : (Nat → Int32)) (fL : (Nat → Int32)) (len : Int32) (size : Int32) (kb : (Nat → Int32)) (kw : (Nat → Int32)) (ks : (Nat → Int32)) (ka : (Nat → Int32)) (kq : (Nat → Int32)) (kc : (Nat → Int32)) (kr : (Nat → Int32)) (kt : (Nat → Int32)) (kd : (Nat → Int32)) (many : Int32) (tsz : Int32) (thr : Int32) (fo : Nat → Int64), re_L fO fU fW fG fL len size kb kw ks kt many tsz → K23 (x4 + 7) fO fU fW fG fL len size kb kw ks ka kq kc kr kt kd many tsz thr fo) (v1 : vp_in (x4 + (1 : Int32)) L) (v2 : vp_in (x4 + (2 : Int32)) L) (R : re_L fO fU fW fG fL len size kb kw ks kt many tsz) : wp_L_law_675 K23 L xs x4 (bi_v s) (xs (x4 + (1 : Int32)).toNatClampNeg) fO fU fW fG fL len size kb kw ks ka kq kc kr kt kd many tsz thr fo := by
  unfold wp_L_law_675
  refine mo_L_text (fun r fO1 fU1 fW1 fG1 fL1 len1 size1 fo1 h => ?_) _ _ _ _ _ _ _ _ _ _ (op_text (brief := s) (ka := ka) (kq := kq) (kc := kc) (kr := kr) (kd := kd) (thr := thr) R)
  refine ⟨v1, v2, fun c => ?_, fun c => ?_⟩
  · cases s with
    | false =>
      unfold wp_L_law_702
      exact mo_M_text (fun b kb1 kw1 ks1 ka1 kq1 kc1 kr1 kt1 kd1 many1 tsz1 thr1 g => lp_fin g.1 g.2.1 (hk _ _ _ _ _ _ _ _ _ _ _ _ _ _ _ _ _ _ _ _ g.2.2)) _ _ _ _ _ _ _ _ _ _ _ _ _ _ h
    | true => exact absurd (hs.mp c) (by decide)
  · cases s with
    | true =>
      unfold wp_L_law_702
      exact mo_M_text (fun b kb1 kw1 ks1 ka1 kq1 kc1 kr1 kt1 kd1 many1 tsz1 thr1 g => lp_fin g.1 g.2.1 (hk _ _ _ _ _ _ _ _ _ _ _ _ _ _ _ _ _ _ _ _ g.2.2)) _ _ _ _ _ _ _ _ _ _ _ _ _ _ h
    | false => exact absurd (hs.mpr rfl) c
end LPU
theorem lp_sb (x : Int32) : ∃ s : Bool, (x = 0 ↔ s = false) := by
  by_cases c : x = 0
  · exact ⟨false, fun _ => rfl, fun _ => c⟩
  · exact ⟨true, fun h => absurd h c, fun h => absurd h (by decide)⟩
theorem lp_all {L : Nat} {xs : Nat → Int32} (hL : L ≤ 3584) : ∀ (n t : Nat) (fO : (Nat → Int64)) (fU : (Nat → Int64)) (fW : (Nat → Int32)) (fG : (Nat → Int32)) (fL : (Nat → Int32)) (len : Int32) (size : Int32) (kb : (Nat → Int32)) (kw : (Nat → Int32)) (ks : (Nat → Int32)) (ka : (Nat → Int32)) (kq : (Nat → Int32)) (kc : (Nat → Int32)) (kr : (Nat → Int32)) (kt : (Nat → Int32)) (kd : (Nat → Int32)) (many : Int32) (tsz : Int32) (thr : Int32) (fo : Nat → Int64), L + 7 ≤ 7 * t + 7 * n → 7 * t ≤ L + 6 → re_L fO fU fW fG fL len size kb kw ks kt many tsz → wp_L_law_23 L xs n (nI (7 * t)) fO fU fW fG fL len size kb kw ks ka kq kc kr kt kd many tsz thr fo := by
  intro n
  induction n with
  | zero => intro t fO fU fW fG fL len size kb kw ks ka kq kc kr kt kd many tsz thr fo h1 h2 R; exact absurd h1 (by omega)
  | succ n ih =>
    intro t fO fU fW fG fL len size kb kw ks ka kq kc kr kt kd many tsz thr fo h1 h2 R
    rw [wp_L_law_23]
    refine ⟨fun _ => trivial, fun hc => ?_⟩
    have hc3 : 7 * t + 7 ≤ L := by
      have e : Int32.ofNat L - (7 : Int32) = nI L - nI 7 := rfl
      rw [e] at hc
      by_cases z : 7 ≤ L
      · rw [pk_sub z] at hc
        have : ¬ L - 7 < 7 * t := fun z => hc ((nI_ltI (a := L - 7) (b := 7 * t) (by omega) (by omega)).mpr z)
        omega
      · exact absurd (Int32.lt_of_lt_of_le (pk_sneg (a := L) (b := 7) (by decide) (by omega)) (nI_pos' (n := 7 * t) (by omega))) hc
    have v0 : vp_in (nI (7 * t)) L := vp_in_nI (by omega) (by omega)
    have v1 : vp_in (nI (7 * t) + (1 : Int32)) L := by rw [show (1 : Int32) = nI 1 from rfl, nI_add]; exact vp_in_nI (by omega) (by omega)
    have v2 : vp_in (nI (7 * t) + (2 : Int32)) L := by rw [show (2 : Int32) = nI 2 from rfl, nI_add]; exact vp_in_nI (by omega) (by omega)
    have v3 : vp_in (nI (7 * t) + (3 : Int32)) L := by rw [show (3 : Int32) = nI 3 from rfl, nI_add]; exact vp_in_nI (by omega) (by omega)
    have v4 : vp_in (nI (7 * t) + (4 : Int32)) L := by rw [show (4 : Int32) = nI 4 from rfl, nI_add]; exact vp_in_nI (by omega) (by omega)
    have v5 : vp_in (nI (7 * t) + (5 : Int32)) L := by rw [show (5 : Int32) = nI 5 from rfl, nI_add]; exact vp_in_nI (by omega) (by omega)
    have v6 : vp_in (nI (7 * t) + (6 : Int32)) L := by rw [show (6 : Int32) = nI 6 from rfl, nI_add]; exact vp_in_nI (by omega) (by omega)
    have hk : ∀ (fO : (Nat → Int64)) (fU : (Nat → Int64)) (fW : (Nat → Int32)) (fG : (Nat → Int32)) (fL : (Nat → Int32)) (len : Int32) (size : Int32) (kb : (Nat → Int32)) (kw : (Nat → Int32)) (ks : (Nat → Int32)) (ka : (Nat → Int32)) (kq : (Nat → Int32)) (kc : (Nat → Int32)) (kr : (Nat → Int32)) (kt : (Nat → Int32)) (kd : (Nat → Int32)) (many : Int32) (tsz : Int32) (thr : Int32) (fo : Nat → Int64), re_L fO fU fW fG fL len size kb kw ks kt many tsz → wp_L_law_23 L xs n (nI (7 * t) + 7) fO fU fW fG fL len size kb kw ks ka kq kc kr kt kd many tsz thr fo := by
      intro fO fU fW fG fL len size kb kw ks ka kq kc kr kt kd many tsz thr fo R
      rw [show (7 : Int32) = nI 7 from rfl, nI_add]
      exact ih (t + 1) fO fU fW fG fL len size kb kw ks ka kq kc kr kt kd many tsz thr fo (by omega) (by omega) R
    refine ⟨v0, fun _ => hk _ _ _ _ _ _ _ _ _ _ _ _ _ _ _ _ _ _ _ _ R, fun _ => ?_, fun _ => ?_, fun _ => ?_, fun _ => ?_, fun _ => ?_, fun _ => ?_, fun _ => ?_, fun _ => ?_, fun _ => ?_, fun _ => ?_, fun _ => ?_, fun _ => ?_, fun _ => ?_, fun _ => ?_, fun _ => ?_⟩
    · refine ⟨v1, v2, v3, v4, v5, v6, fun c => ?_, fun c => ?_⟩
      · exact lp_182 false ⟨fun _ => rfl, fun _ => c⟩ hk v1 v2 v3 v4 v5 v6 R
      · exact lp_182 true ⟨fun h => absurd h c, fun h => absurd h (by decide)⟩ hk v1 v2 v3 v4 v5 v6 R
    · refine ⟨v1, mo_L_two (fun r fO1 fU1 fW1 fG1 fL1 len1 size1 h => ?_) _ _ _ _ _ _ _ _ (op_two (ka := ka) (kq := kq) (kc := kc) (kr := kr) (kd := kd) (thr := thr) R)⟩
      exact ⟨v1, mo_M_two (fun kb1 kw1 ks1 ka1 kq1 kc1 kr1 kt1 kd1 many1 tsz1 thr1 g => lp_end g.1 (hk _ _ _ _ _ _ _ _ _ _ _ _ _ _ _ _ _ _ _ _ g.2)) _ _ _ _ _ _ _ _ _ _ _ _ _ h⟩
    · refine ⟨v1, mo_L_shift (fun r fO1 fU1 fW1 fG1 fL1 len1 size1 h => ?_) _ _ _ _ _ _ _ _ (op_shift (ka := ka) (kq := kq) (kc := kc) (kr := kr) (kd := kd) (thr := thr) R)⟩
      exact ⟨v1, mo_M_shift (fun kb1 kw1 ks1 ka1 kq1 kc1 kr1 kt1 kd1 many1 tsz1 thr1 g => lp_end g.1 (hk _ _ _ _ _ _ _ _ _ _ _ _ _ _ _ _ _ _ _ _ g.2)) _ _ _ _ _ _ _ _ _ _ _ _ _ h⟩
    · refine ⟨v1, mo_L_one (fun r fO1 fU1 fW1 fG1 fL1 len1 size1 h => ?_) _ _ _ _ _ _ _ _ (op_one (ka := ka) (kq := kq) (kc := kc) (kr := kr) (kd := kd) (thr := thr) R)⟩
      exact ⟨v1, mo_M_one (fun kb1 kw1 ks1 ka1 kq1 kc1 kr1 kt1 kd1 many1 tsz1 thr1 g => lp_end g.1 (hk _ _ _ _ _ _ _ _ _ _ _ _ _ _ _ _ _ _ _ _ g.2)) _ _ _ _ _ _ _ _ _ _ _ _ _ h⟩
    · refine mo_L_choose (fun r fO1 fU1 fW1 fG1 fL1 len1 size1 h => ?_) _ _ _ _ _ _ _ (op_choose (ka := ka) (kq := kq) (kc := kc) (kr := kr) (kd := kd) (thr := thr) R)
      exact mo_M_choose (fun kb1 kw1 ks1 ka1 kq1 kc1 kr1 kt1 kd1 many1 tsz1 thr1 g => lp_end g.1 (hk _ _ _ _ _ _ _ _ _ _ _ _ _ _ _ _ _ _ _ _ g.2)) _ _ _ _ _ _ _ _ _ _ _ _ h
    · refine mo_L_join (fun r fO1 fU1 fW1 fG1 fL1 len1 size1 h => ?_) _ _ _ _ _ _ _ (op_join (ka := ka) (kq := kq) (kc := kc) (kr := kr) (kd := kd) (thr := thr) R)
      exact mo_M_join (fun kb1 kw1 ks1 ka1 kq1 kc1 kr1 kt1 kd1 many1 tsz1 thr1 g => lp_end g.1 (hk _ _ _ _ _ _ _ _ _ _ _ _ _ _ _ _ _ _ _ _ g.2)) _ _ _ _ _ _ _ _ _ _ _ _ h
    · refine ⟨v1, mo_L_copies (fun r fO1 fU1 fW1 fG1 fL1 len1 size1 h => ?_) _ _ _ _ _ _ _ _ (op_copies (ka := ka) (kq := kq) (kc := kc) (kr := kr) (kd := kd) (thr := thr) R)⟩
      exact ⟨v1, mo_M_copies (fun kb1 kw1 ks1 ka1 kq1 kc1 kr1 kt1 kd1 many1 tsz1 thr1 g => lp_end g.1 (hk _ _ _ _ _ _ _ _ _ _ _ _ _ _ _ _ _ _ _ _ g.2)) _ _ _ _ _ _ _ _ _ _ _ _ _ h⟩
    · refine ⟨v1, v2, mo_L_part (fun r fO1 fU1 fW1 fG1 fL1 len1 size1 h => ?_) _ _ _ _ _ _ _ _ _ (op_part (ka := ka) (kq := kq) (kc := kc) (kr := kr) (kd := kd) (thr := thr) R)⟩
      exact ⟨v1, v2, mo_M_part (fun kb1 kw1 ks1 ka1 kq1 kc1 kr1 kt1 kd1 many1 tsz1 thr1 g => lp_end g.1 (hk _ _ _ _ _ _ _ _ _ _ _ _ _ _ _ _ _ _ _ _ g.2)) _ _ _ _ _ _ _ _ _ _ _ _ _ _ h⟩
    · refine mo_L_bit (fun r fO1 fU1 fW1 fG1 fL1 len1 size1 h => ?_) _ _ _ _ _ _ _ (op_bit (ka := ka) (kq := kq) (kc := kc) (kr := kr) (kd := kd) (thr := thr) R)
      exact mo_M_bit (fun kb1 kw1 ks1 ka1 kq1 kc1 kr1 kt1 kd1 many1 tsz1 thr1 g => lp_end g.1 (hk _ _ _ _ _ _ _ _ _ _ _ _ _ _ _ _ _ _ _ _ g.2)) _ _ _ _ _ _ _ _ _ _ _ _ h
    · refine ⟨v1, v2, fun c => ?_, fun c => ?_⟩
      · exact lp_575 false ⟨fun _ => rfl, fun _ => c⟩ hk v1 v2 R
      · exact lp_575 true ⟨fun h => absurd h c, fun h => absurd h (by decide)⟩ hk v1 v2 R
    · refine ⟨v1, mo_L_again (fun r fO1 fU1 fW1 fG1 fL1 len1 size1 h => ?_) _ _ _ _ _ _ _ _ (op_again (ka := ka) (kq := kq) (kc := kc) (kr := kr) (kd := kd) (thr := thr) R)⟩
      exact ⟨v1, mo_M_again (fun kb1 kw1 ks1 ka1 kq1 kc1 kr1 kt1 kd1 many1 tsz1 thr1 g => lp_end g.1 (hk _ _ _ _ _ _ _ _ _ _ _ _ _ _ _ _ _ _ _ _ g.2)) _ _ _ _ _ _ _ _ _ _ _ _ _ h⟩
    · refine ⟨v1, v2, fun c => ?_, fun c => ?_⟩
      · exact lp_675 false ⟨fun _ => rfl, fun _ => c⟩ hk v1 v2 R
      · exact lp_675 true ⟨fun h => absurd h c, fun h => absurd h (by decide)⟩ hk v1 v2 R
    · refine ⟨v1, mo_L_letter (fun r fO1 fU1 fW1 fG1 fL1 len1 size1 fo1 h => ?_) _ _ _ _ _ _ _ _ _ (op_letter (ka := ka) (kq := kq) (kc := kc) (kr := kr) (kd := kd) (thr := thr) R)⟩
      exact ⟨v1, mo_M_letter (fun b kb1 kw1 ks1 ka1 kq1 kc1 kr1 kt1 kd1 many1 tsz1 thr1 g => lp_fin g.1 g.2.1 (hk _ _ _ _ _ _ _ _ _ _ _ _ _ _ _ _ _ _ _ _ g.2.2)) _ _ _ _ _ _ _ _ _ _ _ _ _ h⟩
    · refine ⟨v1, v2, mo_L_told (fun r fO1 fU1 fW1 fG1 fL1 len1 size1 fo1 h => ?_) _ _ _ _ _ _ _ _ _ _ (op_told (ka := ka) (kq := kq) (kc := kc) (kr := kr) (kd := kd) (thr := thr) R)⟩
      exact ⟨v1, v2, mo_M_told (fun b kb1 kw1 ks1 ka1 kq1 kc1 kr1 kt1 kd1 many1 tsz1 thr1 g => lp_fin g.1 g.2.1 (hk _ _ _ _ _ _ _ _ _ _ _ _ _ _ _ _ _ _ _ _ g.2.2)) _ _ _ _ _ _ _ _ _ _ _ _ _ _ h⟩
    · refine ⟨v1, mo_X_count (fun r fO1 fU1 fW1 fG1 fL1 len1 size1 h => ?_) _ _ _ _ _ _ _ _ (op_count (ka := ka) (kq := kq) (kc := kc) (kr := kr) (kd := kd) (thr := thr) R)⟩
      exact ⟨v1, mo_M_count (fun b kb1 kw1 ks1 ka1 kq1 kc1 kr1 kt1 kd1 many1 tsz1 thr1 g => lp_end g.1.symm (hk _ _ _ _ _ _ _ _ _ _ _ _ _ _ _ _ _ _ _ _ g.2)) _ _ _ _ _ _ _ _ _ _ _ _ _ h⟩
/-! the start: nothing in either row -/
theorem re_start {fO fU : Nat → Int64} {fW fG fL kb kw ks kt : Nat → Int32} : re_L fO fU fW fG fL (0 : Int32) (0 : Int32) kb kw ks kt (0 : Int32) (0 : Int32) :=
  ⟨0, 0, by decide, by decide, rfl, rfl, rfl, rfl, fun p h => absurd h (by omega), by intro p h; exact absurd h (by omega)⟩
