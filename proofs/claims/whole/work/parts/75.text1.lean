/-! texts: a list of letters on both sides; groups -/
def tx_r (f : Nat → Int32) (l : Int32) (T : List Nat) : Prop := l = nI T.length ∧ ∀ (j c : Nat), T[j]? = some c → f j = nI c ∧ c < 128
theorem tx_nil (f : Nat → Int32) : tx_r f 0 [] := ⟨rfl, fun j c h => by simp at h⟩
theorem tx_push {f : Nat → Int32} {l : Int32} {T : List Nat} {c : Nat} (h : tx_r f l T) (hc : c < 128) (hT : T.length < 2 ^ 30) : tx_r (upd f l.toNatClampNeg (nI c)) (l + 1) (T ++ [c]) := by
  obtain ⟨rfl, h2⟩ := h
  rw [nI_clamp (by omega)]
  refine ⟨by rw [nI_1, List.length_append]; rfl, fun j d hj => ?_⟩
  rw [List.getElem?_append] at hj
  split at hj
  · rename_i hlt
    rw [pk_un (by omega)]
    exact h2 j d hj
  · rename_i hlt
    by_cases e : j = T.length
    · subst e
      rw [Nat.sub_self] at hj
      have : c = d := by simpa using hj
      subst this
      exact ⟨pk_us, hc⟩
    · exfalso
      rw [List.getElem?_eq_none (by simp; omega)] at hj
      cases hj
theorem tx_T {f g : Nat → Int32} {l k : Int32} {T : List Nat} (h : tx_r f l T) (h' : tx_r g k T) : re_T T.length f g := fun j hj => by
  have e : T[j]? = some T[j] := List.getElem?_eq_getElem hj
  obtain ⟨a, b⟩ := h.2 j _ e
  obtain ⟨c, d⟩ := h'.2 j _ e
  exact ⟨T[j], b, a, c⟩
theorem sx_write {f : Nat → Int32} {l : Int32} {T : List Nat} {c : Nat} {post : (Nat → Int32) → Int32 → Prop} (h : tx_r f l T) (hc : c < 128) (hT : T.length < 64) (hq : ∀ (g : Nat → Int32) (k : Int32), tx_r g k (T ++ [c]) → post g k) : wp_N_write post (nI c) f l := by
  unfold wp_N_write
  refine ⟨by rw [h.1]; exact vp_in_nI hT (by decide), ?_⟩
  rw [sm_b hc]
  exact hq _ _ (tx_push h hc (by omega))
theorem lm_spaces {n : Nat} {post : (Nat → Int32) → Int32 → Prop} : ∀ (k i : Nat) (f : Nat → Int32) (l : Int32) (T : List Nat), i + k = n → n ≤ 64 → T.length + k ≤ 64 → tx_r f l T → (∀ (g : Nat → Int32) (j : Int32), tx_r g j (T ++ List.replicate k 32) → post g j) → wp_N_writeSpaces_2 post (k + 1) (nI n) (nI i) f l := by
  intro k
  induction k with
  | zero =>
    intro i f l T hi hn hT h hq
    rw [wp_N_writeSpaces_2]
    exact br_t (nI_le (by omega) (by omega)) (hq f l (by simpa using h))
  | succ k ih =>
    intro i f l T hi hn hT h hq
    rw [wp_N_writeSpaces_2]
    refine br_f (nI_ge (by omega) (by omega)) ?_
    refine sx_write (c := 32) h (by decide) (by omega) (fun g j h2 => ?_)
    rw [nI_1]
    refine ih (i + 1) g j (T ++ [32]) (by omega) hn (by rw [List.length_append]; simp; omega) h2 (fun g2 j2 h3 => hq g2 j2 ?_)
    rw [List.append_assoc] at h3
    exact h3
theorem sx_spaces {n : Nat} {post : (Nat → Int32) → Int32 → Prop} {f : Nat → Int32} {l : Int32} {T : List Nat} (hn : n ≤ 64) (hT : T.length + n ≤ 64) (h : tx_r f l T) (hq : ∀ (g : Nat → Int32) (j : Int32), tx_r g j (T ++ List.replicate n 32) → post g j) : wp_N_writeSpaces post (nI n) f l := by
  unfold wp_N_writeSpaces
  exact ⟨n + 1, lm_spaces n 0 f l T (by omega) hn hT h hq⟩
theorem sx_noSpaces {x : Int32} {post : (Nat → Int32) → Int32 → Prop} {f : Nat → Int32} {l : Int32} (hx : x ≤ 0) (hq : post f l) : wp_N_writeSpaces post x f l := by
  unfold wp_N_writeSpaces
  refine ⟨0 + 1, ?_⟩
  rw [wp_N_writeSpaces_2]
  exact br_t hx hq
/-- the letter of a value with x or z -/
def ul_v (o u a : Int64) : Nat := if u = a ∧ o = a then 120 else if u = a ∧ o = 0 then 122 else if (o &&& u) = 0 then 90 else 88
theorem ul_l (o u a : Int64) : ul_v o u a < 128 := by
  unfold ul_v
  split
  · decide
  · split
    · decide
    · split <;> decide
theorem sx_unknownLetter {o u a : Int64} {post : Int32 → Prop} (hq : post (nI (ul_v o u a))) : wp_X_unknownLetter post o u a := by
  have k33 : ¬ (u = a ∧ o = a) → ¬ (u = a ∧ o = 0) → wp_X_unknownLetter_33 post o u := fun h1 h2 => by
    unfold ul_v at hq
    rw [if_neg h1, if_neg h2] at hq
    unfold wp_X_unknownLetter_33 wp_X_unknownLetter_48
    rw [lc_0]
    refine br_c (fun c => ⟨by decide, ?_⟩) (fun c => ⟨by decide, ?_⟩)
    · rw [if_pos c] at hq; exact hq
    · rw [if_neg c] at hq; exact hq
  have k17 : ¬ (u = a ∧ o = a) → wp_X_unknownLetter_17 post o u a := fun h1 => by
    unfold wp_X_unknownLetter_17
    rw [lg_cmp_eq, lc_0]
    refine br_c (fun c => k33 h1 (fun z => c z.1)) (fun c => br_c (fun d => k33 h1 (fun z => d z.2)) (fun d => ⟨by decide, ?_⟩))
    unfold ul_v at hq
    rw [if_neg h1, if_pos ⟨Classical.byContradiction c, Classical.byContradiction d⟩] at hq
    exact hq
  unfold wp_X_unknownLetter
  rw [lg_cmp_eq, lg_cmp_eq]
  refine br_c (fun c => k17 (fun z => c z.1)) (fun c => br_c (fun d => k17 (fun z => d z.2)) (fun d => ⟨by decide, ?_⟩))
  unfold ul_v at hq
  rw [if_pos ⟨Classical.byContradiction c, Classical.byContradiction d⟩] at hq
  exact hq
/-- the letter of a group -/
def gl_v (o u a : Int64) : Nat := if u = 0 then (if lb_n o < 10 then 48 + lb_n o else 87 + lb_n o) else ul_v o u a
theorem gl_l {o u a : Int64} (h : lb_n o < 16) : gl_v o u a < 128 := by
  unfold gl_v
  split
  · split <;> omega
  · exact ul_l _ _ _
theorem sx_groupLetter {o u a : Int64} (h : lb_n o < 16) {post : Int32 → Prop} (hq : post (nI (gl_v o u a))) : wp_X_groupLetter post o u a := by
  have ch : ∀ (n : Nat) (x : Int64), n < 128 → x = lN n → (x.toInt32.toUInt32 % 65536).toInt32 = nI n := fun n x hn hx => by
    rw [hx, lN_i, pk_char, pk_tn (by omega), Nat.mod_eq_of_lt (by omega)]
  have fin : ∀ (n : Nat) (x : Int64), n < 128 → x = lN n → post (nI n) → wp_X_groupLetter_39 post x := fun n x hn hx hp => by
    unfold wp_X_groupLetter_39
    rw [ch n x hn hx]
    exact ⟨(pk_charN (by omega)).1, hp⟩
  unfold wp_X_groupLetter
  rw [lc_0, lg_cmp_ge]
  unfold gl_v at hq
  refine br_c (fun c => ?_) (fun c => sx_unknownLetter ⟨?_, ?_⟩)
  · rw [if_pos c] at hq
    have eo := lb_of o
    have le : (10 : Int64) ≤ o ↔ 10 ≤ lb_n o := by
      have := pk_lLE (a := 10) (b := lb_n o) (by decide) (by omega)
      rw [← eo] at this
      exact this
    rw [le]
    refine br_c (fun d => ?_) (fun d => ?_)
    · rw [if_neg (by omega)] at hq
      refine fin (87 + lb_n o) _ (by omega) ?_ hq
      conv => lhs; rw [eo]
      rw [show (97 : Int64) = lN 97 from rfl, lN_add, show (10 : Int64) = lN 10 from rfl, lN_sub (by omega)]
      congr 1
      omega
    · rw [if_pos (by omega)] at hq
      refine fin (48 + lb_n o) _ (by omega) ?_ hq
      conv => lhs; rw [eo]
      rw [show (48 : Int64) = lN 48 from rfl, lN_add]
  · exact (pk_charN (by have := ul_l o u a; omega)).1
  · rw [if_neg c] at hq; exact hq
/-- the letters of the groups from k down, behind what is written -/
def gt_v (brief : Bool) (lt : Nat → Nat) : Nat → List Nat → List Nat
  | 0, T => T
  | k + 1, T => gt_v brief lt k (if brief && (lt k == 48 && T.isEmpty && decide (0 < k)) then T else T ++ [lt k])
theorem gt_len (brief : Bool) (lt : Nat → Nat) : ∀ (k : Nat) (T : List Nat), (gt_v brief lt k T).length ≤ T.length + k := by
  intro k
  induction k with
  | zero => intro T; exact Nat.le_refl _
  | succ k ih =>
    intro T
    have := ih (if brief && (lt k == 48 && T.isEmpty && decide (0 < k)) then T else T ++ [lt k])
    show (gt_v brief lt k _).length ≤ _
    split at this
    · rename_i h
      rw [if_pos h]; omega
    · rename_i h
      rw [if_neg h]
      rw [List.length_append] at this
      simp at this
      omega
