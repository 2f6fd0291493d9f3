/-! the class's reckoning, combining, comparing -/
theorem nu_mod {w : Nat} (h1 : 1 ≤ w) (h2 : w ≤ 64) {x : Int64} (hx : lb_mk w x) (s : Bool) : lb_n (nu_v s w x) % 2 ^ w = lb_n x % 2 ^ w := by
  unfold nu_v
  cases s
  · rfl
  · exact md_hf h1 h2 (lb_mkn.mp hx)
theorem nu_zero {w : Nat} (h1 : 1 ≤ w) (h2 : w ≤ 64) {x : Int64} (hx : lb_mk w x) (s : Bool) : nu_v s w x = 0 ↔ lb_n x = 0 := by
  have hn := lb_mkn.mp hx
  have z : ∀ y : Int64, y = 0 ↔ lb_n y = 0 := fun y => ⟨fun e => by rw [e]; rfl, fun e => lb_inj (e.trans rfl)⟩
  unfold nu_v
  cases s
  · exact z x
  · rw [if_pos rfl, z, lb_hfn h1 h2 hn]
    have := Nat.two_pow_pos (w - 1)
    split <;> omega
/-- what an operation of two gives, without x and z: a number, of which w bits count -/
def rk_v (sg : Nat) (s : Bool) (w A B : Nat) : Nat :=
  if sg = 0 then A + B + 0 else if sg = 1 then A + (2 ^ w - 1 - B) + 1 else if sg = 2 then A * B
  else if sg = 3 then sg_a ((s && decide (A / 2 ^ (w - 1) % 2 = 1)) != (s && decide (B / 2 ^ (w - 1) % 2 = 1))) w (sg_a (s && decide (A / 2 ^ (w - 1) % 2 = 1)) w A / sg_a (s && decide (B / 2 ^ (w - 1) % 2 = 1)) w B)
  else sg_a (s && decide (A / 2 ^ (w - 1) % 2 = 1)) w (sg_a (s && decide (A / 2 ^ (w - 1) % 2 = 1)) w A % sg_a (s && decide (B / 2 ^ (w - 1) % 2 = 1)) w B)
theorem lc_0 (x : Int64) : lg_cmp x 0 = 0 ↔ x = 0 := lg_cmp_eq x 0
theorem or_0 (x y : Int64) : (x ||| y) = 0 ↔ x = 0 ∧ y = 0 := by
  constructor
  · intro h
    have e : ∀ i, (lb_t x i || lb_t y i) = false := fun i => by rw [← lb_or, h, lb_0]
    exact ⟨lb_ext (fun i _ => by have := e i; rw [lb_0]; revert this; cases lb_t x i <;> simp), lb_ext (fun i _ => by have := e i; rw [lb_0]; revert this; cases lb_t y i <;> simp)⟩
  · intro h; rw [h.1, h.2]; rfl
section XA
variable {fO fU : Nat → Int64} {fW fG fL : Nat → Int32} {len size : Int32}
variable {post : (Nat → Int64) → (Nat → Int64) → (Nat → Int32) → (Nat → Int32) → (Nat → Int32) → Int32 → Int32 → Prop}
variable {posi : Int32 → (Nat → Int64) → (Nat → Int64) → (Nat → Int32) → (Nat → Int32) → (Nat → Int32) → Int32 → Int32 → Prop}
theorem nI_ti {n : Nat} (h : n < 2 ^ 31) : (nI n).toInt = (n : Int) := nI_toInt h
/-- reckon: x where a bit is not known, or a division is by 0; else the number's w bits -/
theorem sx_reckon {sg p q w : Nat} {s : Bool} (hsg : sg ≤ 4) (hp : p < 64) (hq0 : q < 64) (h1 : 1 ≤ w) (h2 : w ≤ 64) (hW1 : fW p = nI w) (hW2 : fW q = nI w) (hG1 : fG p = bi_v s) (hG2 : fG q = bi_v s) (m1 : lb_mk w (fO p)) (m2 : lb_mk w (fO q))
    (hx : (¬ (fU p = 0 ∧ fU q = 0) ∨ (3 ≤ sg ∧ lb_n (fO q) = 0)) → ∀ gO gU : Nat → Int64, gO p = lb_low w → gU p = lb_low w → (∀ r, r ≠ p → gO r = fO r) → (∀ r, r ≠ p → gU r = fU r) → post gO gU fW fG fL len size)
    (hv : fU p = 0 → fU q = 0 → (3 ≤ sg → ¬ lb_n (fO q) = 0) → ∀ gO gU : Nat → Int64, lb_mk w (gO p) → lb_n (gO p) % 2 ^ w = rk_v sg s w (lb_n (fO p)) (lb_n (fO q)) % 2 ^ w → gU p = 0 → (∀ r, r ≠ p → gO r = fO r) → (∀ r, r ≠ p → gU r = fU r) → post gO gU fW fG fL len size) :
    wp_X_reckon post (nI sg) (nI p) (nI q) fO fU fW fG fL len size := by
  have hin : vp_in (nI p) 64 := vp_in_nI hp (by decide)
  have hin2 : vp_in (nI q) 64 := vp_in_nI hq0 (by decide)
  have n1 := lb_mkn.mp m1
  have n2 := lb_mkn.mp m2
  have c1 : (nI p).toNatClampNeg = p := nI_clamp (by omega)
  have c2 : (nI q).toNatClampNeg = q := nI_clamp (by omega)
  have zl : (0 : Int64) &&& lb_low w = 0 := lb_ext (fun i _ => by rw [lb_and, lb_0, Bool.false_and])
  -- a number set
  have set : fU p = 0 → fU q = 0 → (3 ≤ sg → ¬ lb_n (fO q) = 0) → ∀ x : Int64, lb_n x % 2 ^ w = rk_v sg s w (lb_n (fO p)) (lb_n (fO q)) % 2 ^ w → wp_X_setBits (fun fO185 fU185 fW185 fG185 fL185 len185 size185 => wp_X_reckon_188 post fO185 fU185 fW185 fG185 fL185 len185 size185) (nI p) x (0 : Int64) fO fU fW fG fL len size := by
    intro a b c x e
    refine sx_setBits hp hW1 h2 (fun gO gU g1 g2 g3 g4 => ?_)
    refine hv a b c gO gU ?_ ?_ ?_ g3 g4
    · rw [g1]; exact lb_mask h1 h2 x
    · rw [g1, lb_nmask h1 h2, Nat.mod_mod]; exact e
    · rw [g2]; exact zl
  -- all x
  have dark : (¬ (fU p = 0 ∧ fU q = 0) ∨ (3 ≤ sg ∧ lb_n (fO q) = 0)) → wp_X_reckon_61 post (nI p) fO fU fW fG fL len size := by
    intro c
    unfold wp_X_reckon_61
    exact sx_fillWithX hp hW1 h1 h2 (hx c)
  have main : fU p = 0 → fU q = 0 → (3 ≤ sg → ¬ lb_n (fO q) = 0) → wp_X_reckon_67 post (nI sg) (nI p) (nu_v s w (fO p)) (nu_v s w (fO q)) fO fU fW fG fL len size := by
    intro a b c
    have x1 := nu_mod h1 h2 m1 s
    have x2 := nu_mod h1 h2 m2 s
    unfold wp_X_reckon_67
    have ti := nI_ti (n := sg) (by omega)
    rw [ti]
    refine ⟨fun k => ⟨hin, ?_⟩, fun k => ?_, fun k => ?_, fun k => ?_⟩
    · have hs3 : 3 ≤ sg := by omega
      have fin : ∀ t : Int64, (sg = 3 → lb_n t % 2 ^ w = rk_v sg s w (lb_n (fO p)) (lb_n (fO q)) % 2 ^ w) → (¬ sg = 3 → lb_n (nu_v s w (fO p) - t * nu_v s w (fO q)) % 2 ^ w = rk_v sg s w (lb_n (fO p)) (lb_n (fO q)) % 2 ^ w) → wp_X_reckon_162 post (nI sg) (nI p) (nu_v s w (fO p)) (nu_v s w (fO q)) t fO fU fW fG fL len size := by
        intro t t1 t2
        unfold wp_X_reckon_162
        have e3 : nI sg = (3 : Int32) ↔ sg = 3 := nI_eq (b := 3) (by omega) (by decide)
        by_cases d : sg = 3
        · refine br_f (fun z => z (e3.mpr d)) ?_
          unfold wp_X_reckon_184
          exact set a b c _ (t1 d)
        · refine br_t (fun z => d (e3.mp z)) ?_
          unfold wp_X_reckon_184
          exact set a b c _ (t2 d)
      rw [c1, hG1]
      cases s
      · refine br_t rfl ?_
        refine sx_quot (c hs3) (fun t ht => ?_)
        have ht : lb_n t = lb_n (fO p) / lb_n (fO q) := ht
        refine fin t (fun d => ?_) (fun d => ?_)
        · rw [ht]; subst d; rfl
        · obtain rfl : sg = 4 := by omega
          have e : lb_n (fO p - t * fO q) = lb_n (fO p) % lb_n (fO q) := by
            have l1 := lb_lt (fO p)
            have l2 := Nat.div_add_mod (lb_n (fO p)) (lb_n (fO q))
            rw [Nat.mul_comm] at l2
            rw [lb_sub, lb_mul, ht]
            generalize lb_n (fO p) / lb_n (fO q) * lb_n (fO q) = z at *
            omega
          show lb_n (fO p - t * fO q) % 2 ^ w = _
          rw [e]; rfl
      · refine br_f (by decide) ⟨fun z => c hs3 ((nu_zero h1 h2 m2 true).mp z), ?_⟩
        obtain ⟨d1, d2⟩ := sg_div h1 h2 n1 n2 (lb_hfi h1 h2 n1) (lb_hfi h1 h2 n2) rfl rfl
        refine fin _ (fun d => ?_) (fun d => ?_)
        · subst d; exact d1
        · obtain rfl : sg = 4 := by omega
          exact d2
    · obtain rfl : sg = 0 := by omega
      exact set a b c _ (md_add (X := lb_n (fO p)) (Y := lb_n (fO q)) h2 x1 x2)
    · obtain rfl : sg = 1 := by omega
      exact set a b c _ (md_sub h2 n2 x1 x2)
    · obtain rfl : sg = 2 := by omega
      exact set a b c _ (md_mul h2 x1 x2)
  have b29 : ∀ t0 : Int32, (t0 = 0 ↔ sg < 3) → wp_X_reckon_29 post (nI sg) (nI p) (nI q) (nu_v s w (fO p)) (nu_v s w (fO q)) t0 fO fU fW fG fL len size := by
    intro t0 ht
    unfold wp_X_reckon_29
    refine ⟨hin, hin2, ?_⟩
    rw [c1, c2, lc_0, lc_0, or_0]
    refine br_c (fun k => dark (Or.inl k)) (fun k => ?_)
    have k := Classical.byContradiction k
    refine br_c (fun z => main k.1 k.2 (fun y => absurd (ht.mp z) (by omega))) (fun z => ?_)
    rw [nu_zero h1 h2 m2 s]
    refine br_c (fun y => main k.1 k.2 (fun _ => y)) (fun y => ?_)
    exact dark (Or.inr ⟨Nat.not_lt.mp (fun x => z (ht.mpr x)), Classical.byContradiction y⟩)
  unfold wp_X_reckon
  refine sx_number hp hW1 h2 hG1 ?_
  refine sx_number hq0 hW2 h2 hG2 ?_
  have e3 : nI sg = (3 : Int32) ↔ sg = 3 := nI_eq (b := 3) (by omega) (by decide)
  have e4 : nI sg = (4 : Int32) ↔ sg = 4 := nI_eq (b := 4) (by omega) (by decide)
  refine br_c (fun k => ?_) (fun k => br_c (fun j => ?_) (fun j => ?_))
  · unfold wp_X_reckon_24
    exact b29 1 ⟨fun z => absurd z (by decide), fun z => absurd (e3.mp k) (by omega)⟩
  · refine b29 0 ⟨fun _ => ?_, fun _ => rfl⟩
    have u1 : ¬ sg = 3 := fun z => k (e3.mpr z)
    have u2 : ¬ sg = 4 := fun z => j (e4.mpr z)
    omega
  · unfold wp_X_reckon_24
    have j := e4.mp (Classical.byContradiction j)
    exact b29 1 ⟨fun z => absurd z (by decide), fun z => absurd j (by omega)⟩
end XA
