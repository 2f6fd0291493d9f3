/-! the class's groups -/
theorem ng_1 {n : Nat} (h : n < 64) (k : Nat) (hk : k = 0 ∨ k = 2) : nI n <<< (nI k &&& 31) = nI (n * 2 ^ k) := by
  have f : ∀ j, j < 64 → nI j <<< (nI 0 &&& 31) = nI (j * 2 ^ 0) ∧ nI j <<< (nI 2 &&& 31) = nI (j * 2 ^ 2) := by decide +kernel
  rcases hk with rfl | rfl
  · exact (f n h).1
  · exact (f n h).2
theorem ng_2 {n : Nat} (h : n < 64) (k : Nat) (hk : k = 0 ∨ k = 2) : nI n >>> (nI k &&& 31) = nI (n / 2 ^ k) := by
  have f : ∀ j, j < 64 → nI j >>> (nI 0 &&& 31) = nI (j / 2 ^ 0) ∧ nI j >>> (nI 2 &&& 31) = nI (j / 2 ^ 2) := by decide +kernel
  rcases hk with rfl | rfl
  · exact (f n h).1
  · exact (f n h).2
/-- the bits of group g: its lowest place, how many, its rows -/
def gr_n (w k g : Nat) : Nat := min (2 ^ k) (w - g * 2 ^ k)
def gr_b (w k g : Nat) (x : Int64) : Int64 := ((x.toUInt64 >>> ((nI (g * 2 ^ k)).toInt64.toUInt64 &&& Int64.toUInt64 63)).toInt64) &&& lb_low (gr_n w k g)
def gr_l (w k : Nat) (O U : Int64) (g : Nat) : Nat := gl_v (gr_b w k g O) (gr_b w k g U) (lb_low (gr_n w k g))
theorem gr_16 {w k g : Nat} (hk : k = 0 ∨ k = 2) (hw : w ≤ 64) (hg : g * 2 ^ k < w) (x : Int64) : lb_n (gr_b w k g x) < 16 := by
  have h1 : 1 ≤ gr_n w k g := by unfold gr_n; rcases hk with rfl | rfl <;> omega
  have h2 : gr_n w k g ≤ 4 := by unfold gr_n; rcases hk with rfl | rfl <;> omega
  unfold gr_b
  rw [lb_nmask h1 (by omega)]
  have p := Nat.mod_lt (lb_n ((x.toUInt64 >>> ((nI (g * 2 ^ k)).toInt64.toUInt64 &&& Int64.toUInt64 63)).toInt64)) (Nat.two_pow_pos (gr_n w k g))
  have q : 2 ^ gr_n w k g ≤ 2 ^ 4 := Nat.pow_le_pow_right (by decide) h2
  omega
section XG
variable {fO fU : Nat → Int64} {fW fG fL : Nat → Int32} {len size : Int32}
variable {post : (Nat → Int64) → (Nat → Int64) → (Nat → Int32) → (Nat → Int32) → (Nat → Int32) → Int32 → Int32 → Prop}
theorem lm_groupsX {p w k : Nat} {brief : Bool} (hp : p < 64) (h1 : 1 ≤ w) (hw : w ≤ 64) (hk : k = 0 ∨ k = 2) (hq : ∀ (g : Nat → Int32) (l : Int32), tx_r g l (gt_v brief (gr_l w k (fO p) (fU p)) ((w - 1) / 2 ^ k + 1) []) → post fO fU fW fG g l size) :
    ∀ (j : Nat) (f : Nat → Int32) (l : Int32) (T : List Nat), j * 2 ^ k < w + 2 ^ k → T.length + j ≤ 64 → tx_r f l T → gt_v brief (gr_l w k (fO p) (fU p)) j T = gt_v brief (gr_l w k (fO p) (fU p)) ((w - 1) / 2 ^ k + 1) [] → wp_X_writeGroups_16 post (j + 1) (nI p) (nI k) (bi_v brief) (nI w) (nI j + (-1)) fO fU fW fG f l size := by
  have hin : vp_in (nI p) 64 := vp_in_nI hp (by decide)
  have pk : 2 ^ k = 1 ∨ 2 ^ k = 4 := by rcases hk with rfl | rfl; exact Or.inl rfl; exact Or.inr rfl
  intro j
  induction j with
  | zero =>
    intro f l T hj hT h e
    rw [wp_X_writeGroups_16]
    exact br_t (by decide) (hq f l (by rw [← e]; exact h))
  | succ j ih =>
    intro f l T hj hT h e
    have hjw : j * 2 ^ k < w := by rw [Nat.add_mul] at hj; omega
    have hj64 : j < 64 := by omega
    have l16 := gr_16 hk hw hjw (fO p)
    have lt := gl_l (o := gr_b w k j (fO p)) (u := gr_b w k j (fU p)) (a := lb_low (gr_n w k j)) l16
    have e1 : nI j <<< (nI k &&& 31) = nI (j * 2 ^ k) := ng_1 hj64 k hk
    have e2 : (1 : Int32) <<< (nI k &&& 31) = nI (2 ^ k) := by
      have := ng_1 (n := 1) (by decide) k hk
      rw [Nat.one_mul] at this
      exact this
    have e3 : (if nI w - nI (j * 2 ^ k) < nI (2 ^ k) then nI w - nI (j * 2 ^ k) else nI (2 ^ k)) = nI (gr_n w k j) := by
      rw [pk_sub (by omega)]
      unfold gr_n
      by_cases c : w - j * 2 ^ k < 2 ^ k
      · rw [if_pos (nI_lt c (by omega)), Nat.min_eq_right (by omega)]
      · rw [if_neg (nI_nlt (by omega) (by omega)), Nat.min_eq_left (by omega)]
    have g64 : gr_n w k j ≤ 64 := by unfold gr_n; omega
    have skip : (brief && (gr_l w k (fO p) (fU p) j == 48 && T.isEmpty && decide (0 < j))) = true → wp_X_writeGroups_121 (wp_X_writeGroups_16 post (j + 1)) post (nI p) (nI k) (bi_v brief) (nI w) (nI j) fO fU fW fG f l size := fun c => by
      unfold wp_X_writeGroups_121
      refine ih f l T (by rw [Nat.add_mul] at hj; omega) (by omega) h ?_
      rw [← e]
      show _ = gt_v brief _ j _
      rw [if_pos c]
    have put : (brief && (gr_l w k (fO p) (fU p) j == 48 && T.isEmpty && decide (0 < j))) = false → wp_X_writeGroups_112 (wp_X_writeGroups_16 post (j + 1)) post (nI p) (nI k) (bi_v brief) (nI w) (nI j) (nI (gr_l w k (fO p) (fU p) j)) fO fU fW fG f l size := fun c => by
      unfold wp_X_writeGroups_112 wp_X_writeGroups_121
      refine sx_write h lt (by omega) (fun g i h2 => ?_)
      refine ih g i _ (by rw [Nat.add_mul] at hj; omega) (by rw [List.length_append]; simp; omega) h2 ?_
      rw [← e]
      show _ = gt_v brief _ j _
      rw [if_neg (by rw [c]; decide)]
    have p101 : ∀ (z : Bool), z = (gr_l w k (fO p) (fU p) j == 48 && T.isEmpty && decide (0 < j)) → wp_X_writeGroups_101 (wp_X_writeGroups_16 post (j + 1)) post (nI p) (nI k) (bi_v brief) (nI w) (nI j) (nI (gr_l w k (fO p) (fU p) j)) (bi_v z) fO fU fW fG f l size := fun z hz => by
      unfold wp_X_writeGroups_101
      cases brief
      · exact br_t rfl (put rfl)
      · refine br_f (by decide) ?_
        cases z
        · exact br_f (fun y => y rfl) (put (by rw [← hz]; rfl))
        · exact br_t (by decide) (skip (by rw [← hz]; rfl))
    rw [wp_X_writeGroups_16]
    dsimp only
    rw [pk_m1, e1, e2]
    refine br_f (nI_pos (by omega)) ?_
    intro v hv
    subst hv
    rw [e3]
    refine sx_lowest g64 ⟨hin, hin, ?_⟩
    rw [nI_clamp (by omega)]
    refine sx_groupLetter l16 ?_
    show _ ∧ _
    have eT : l = 0 ↔ T.isEmpty = true := by
      rw [h.1]
      have := nI_eq (a := T.length) (b := 0) (by omega) (by decide)
      rw [show (0 : Int32) = nI 0 from rfl, this]
      cases T <;> simp
    have e48 : nI (gr_l w k (fO p) (fU p) j) = (48 : Int32) ↔ gr_l w k (fO p) (fU p) j = 48 := nI_eq (b := 48) (by have : gr_l w k (fO p) (fU p) j < 128 := lt; omega) (by decide)
    refine br_c (fun c => ?_) (fun c => br_c (fun d => ?_) (fun d => br_c (fun i => ?_) (fun i => ?_)))
    · unfold wp_X_writeGroups_100
      refine p101 false ?_
      have : (gr_l w k (fO p) (fU p) j == 48) = false := by
        cases hb : (gr_l w k (fO p) (fU p) j == 48)
        · rfl
        · exact absurd (e48.mpr (by simpa using hb)) c
      rw [this]; rfl
    · unfold wp_X_writeGroups_100
      refine p101 false ?_
      have : T.isEmpty = false := by
        cases hb : T.isEmpty
        · rfl
        · exact absurd (eT.mpr hb) d
      rw [this, Bool.and_false]; rfl
    · unfold wp_X_writeGroups_100
      refine p101 false ?_
      have : ¬ 0 < j := fun z => nI_nle z (by omega) i
      rw [decide_eq_false this, Bool.and_false]
    · refine p101 true ?_
      have c1 := e48.mp (Classical.byContradiction c)
      have d1 := eT.mp (Classical.byContradiction d)
      have i1 : 0 < j := by
        rcases Nat.eq_zero_or_pos j with z | z
        · subst z; exact absurd (by decide) i
        · exact z
      rw [c1, d1, decide_eq_true i1]; rfl
theorem sx_groups {p w k : Nat} {brief : Bool} (hp : p < 64) (h1 : 1 ≤ w) (hw : w ≤ 64) (hk : k = 0 ∨ k = 2) (hW : fW p = nI w) {T0 : Nat → Int32} (hq : ∀ (g : Nat → Int32) (l : Int32), tx_r g l (gt_v brief (gr_l w k (fO p) (fU p)) ((w - 1) / 2 ^ k + 1) []) → post fO fU fW fG g l size) : wp_X_writeGroups post (nI p) (nI k) (bi_v brief) fO fU fW fG T0 0 size := by
  have pk : 2 ^ k = 1 ∨ 2 ^ k = 4 := by rcases hk with rfl | rfl; exact Or.inl rfl; exact Or.inr rfl
  unfold wp_X_writeGroups
  refine ⟨vp_in_nI hp (by decide), ?_⟩
  rw [nI_clamp (by omega), hW]
  intro v hv
  subst hv
  rw [show nI w - (1 : Int32) = nI (w - 1) from pk_sub (b := 1) h1, ng_2 (by omega) k hk]
  intro v hv
  subst hv
  refine ⟨(w - 1) / 2 ^ k + 1 + 1, ?_⟩
  have e : nI ((w - 1) / 2 ^ k) = nI ((w - 1) / 2 ^ k + 1) + (-1) := (pk_m1 _).symm
  rw [e]
  have hd := Nat.div_le_self (w - 1) (2 ^ k)
  have hm := Nat.div_mul_le_self (w - 1) (2 ^ k)
  refine lm_groupsX hp h1 hw hk hq _ T0 0 [] ?_ (by simp; omega) (tx_nil T0) rfl
  rw [Nat.add_mul, Nat.one_mul]
  omega
end XG
