theorem mo_B_lowest {post post' : Int64 → Prop} (hpost : ∀ u0, post u0 → post' u0) : ∀ (a0 : Int32), wp_B_lowest post a0  → wp_B_lowest post' a0  := by
  intro a0 h
  rw [wp_B_lowest] at h ⊢
  exact (hpost _ h)

theorem mo_B_withHighestInFront {post post' : Int64 → Prop} (hpost : ∀ u0, post u0 → post' u0) : ∀ (a0 : Int64) (a2 : Int32), wp_B_withHighestInFront post a0 a2  → wp_B_withHighestInFront post' a0 a2  := by
  intro a0 a2 h
  rw [wp_B_withHighestInFront] at h ⊢
  exact (hpost _ h)

theorem mo_B_below_19 {post post' : Int32 → Prop} (hpost : ∀ u0, post u0 → post' u0) : ∀ (t0 : Int32), wp_B_below_19 post t0  → wp_B_below_19 post' t0  := by
  intro t0 h
  rw [wp_B_below_19] at h ⊢
  exact ⟨(h).1, (hpost _ (h).2)⟩

theorem mo_B_below {post post' : Int32 → Prop} (hpost : ∀ u0, post u0 → post' u0) : ∀ (a0 : Int64) (a2 : Int64), wp_B_below post a0 a2  → wp_B_below post' a0 a2  := by
  intro a0 a2 h
  rw [wp_B_below] at h ⊢
  exact ⟨(fun g2 => (mo_B_below_19 hpost _ ((h).1 g2))), (fun g3 => (mo_B_below_19 hpost _ ((h).2 g3)))⟩

theorem mo_B_quotient_51 {post post' : Int64 → Prop} (hpost : ∀ u0, post u0 → post' u0) : ∀ (t0 : Int64), wp_B_quotient_51 post t0  → wp_B_quotient_51 post' t0  := by
  intro t0 h
  rw [wp_B_quotient_51] at h ⊢
  exact (hpost _ h)

theorem mo_B_quotient_19 {post post' : Int64 → Prop} (hpost : ∀ u0, post u0 → post' u0) : ∀ (t0 : Int64), wp_B_quotient_19 post t0  → wp_B_quotient_19 post' t0  := by
  intro t0 h
  rw [wp_B_quotient_19] at h ⊢
  exact (hpost _ h)

theorem mo_B_quotient {post post' : Int64 → Prop} (hpost : ∀ u0, post u0 → post' u0) : ∀ (a0 : Int64) (a2 : Int64), wp_B_quotient post a0 a2  → wp_B_quotient post' a0 a2  := by
  intro a0 a2 h
  rw [wp_B_quotient] at h ⊢
  exact ⟨(fun g2 => ⟨((h).1 g2).1, (fun v27 g4 => (mo_B_below (fun r36 g5 => ⟨(fun g7 => (mo_B_quotient_51 hpost _ ((g5).1 g7))), (fun g8 => (mo_B_quotient_51 hpost _ ((g5).2 g8)))⟩) _ _ (((h).1 g2).2 v27 g4)))⟩), (fun g9 => (mo_B_below (fun r8 g10 => ⟨(fun g12 => (mo_B_quotient_19 hpost _ ((g10).1 g12))), (fun g13 => (mo_B_quotient_19 hpost _ ((g10).2 g13)))⟩) _ _ ((h).2 g9)))⟩

theorem mo_B_digits_5 {post post' : Int32 → Prop} (hpost : ∀ u0, post u0 → post' u0) : ∀ (n5 : Nat) (x2 : Int64) (x4 : Int32), wp_B_digits_5 post n5 x2 x4 → wp_B_digits_5 post' n5 x2 x4 := by
  intro  n5
  induction n5 with
  | zero => intro x2 x4 h; exact False.elim h
  | succ n5 ih =>
    intro x2 x4 h
    rw [wp_B_digits_5] at h ⊢
    exact ⟨(fun g2 => (hpost _ ((h).1 g2))), (fun g3 => (mo_B_quotient (fun r16 g4 => ⟨(fun g6 => (ih _ _ ((g4).1 g6))), (fun g7 => (hpost _ ((g4).2 g7)))⟩) _ _ ((h).2 g3)))⟩

theorem mo_B_digits {post post' : Int32 → Prop} (hpost : ∀ u0, post u0 → post' u0) : ∀ (a0 : Int64), wp_B_digits post a0  → wp_B_digits post' a0  := by
  intro a0 h
  rw [wp_B_digits] at h ⊢
  exact (Exists.imp (fun n5 g1 => (mo_B_digits_5 hpost _ _ _ g1)) h)

theorem mo_N_clear {post post' : (Nat → Int32) → Int32 → Prop} (hpost : ∀ u0 u1, post u0 u1 → post' u0 u1) : ∀ (fL : (Nat → Int32)) (len : Int32), wp_N_clear post fL len  → wp_N_clear post' fL len  := by
  intro fL len h
  rw [wp_N_clear] at h ⊢
  exact (hpost _ _ h)

theorem mo_N_write {post post' : (Nat → Int32) → Int32 → Prop} (hpost : ∀ u0 u1, post u0 u1 → post' u0 u1) : ∀ (a1 : Int32) (fL : (Nat → Int32)) (len : Int32), wp_N_write post a1 fL len  → wp_N_write post' a1 fL len  := by
  intro a1 fL len h
  rw [wp_N_write] at h ⊢
  exact ⟨(h).1, (hpost _ _ (h).2)⟩

theorem mo_N_writeSpaces_2 {post post' : (Nat → Int32) → Int32 → Prop} (hpost : ∀ u0 u1, post u0 u1 → post' u0 u1) : ∀ (n2 : Nat) (x1 : Int32) (x2 : Int32) (fL : (Nat → Int32)) (len : Int32), wp_N_writeSpaces_2 post n2 x1 x2 fL len → wp_N_writeSpaces_2 post' n2 x1 x2 fL len := by
  intro  n2
  induction n2 with
  | zero => intro x1 x2 fL len h; exact False.elim h
  | succ n2 ih =>
    intro x1 x2 fL len h
    rw [wp_N_writeSpaces_2] at h ⊢
    exact ⟨(fun g2 => (hpost _ _ ((h).1 g2))), (fun g3 => (mo_N_write (fun fL10 len10 g4 => (ih _ _ _ _ g4)) _ _ _ ((h).2 g3)))⟩

theorem mo_N_writeSpaces {post post' : (Nat → Int32) → Int32 → Prop} (hpost : ∀ u0 u1, post u0 u1 → post' u0 u1) : ∀ (a1 : Int32) (fL : (Nat → Int32)) (len : Int32), wp_N_writeSpaces post a1 fL len  → wp_N_writeSpaces post' a1 fL len  := by
  intro a1 fL len h
  rw [wp_N_writeSpaces] at h ⊢
  exact (Exists.imp (fun n2 g1 => (mo_N_writeSpaces_2 hpost _ _ _ _ _ g1)) h)

theorem mo_N_writeDigits_13 {post post' : (Nat → Int32) → Int32 → Prop} (hpost : ∀ u0 u1, post u0 u1 → post' u0 u1) : ∀ (n13 : Nat) (x3 : Int32) (x4 : Int64) (x6 : Int32) (fL : (Nat → Int32)) (len : Int32), wp_N_writeDigits_13 post n13 x3 x4 x6 fL len → wp_N_writeDigits_13 post' n13 x3 x4 x6 fL len := by
  intro  n13
  induction n13 with
  | zero => intro x3 x4 x6 fL len h; exact False.elim h
  | succ n13 ih =>
    intro x3 x4 x6 fL len h
    rw [wp_N_writeDigits_13] at h ⊢
    exact ⟨(fun g2 => (hpost _ _ ((h).1 g2))), (fun g3 => (mo_B_quotient (fun r27 g4 => ⟨(g4).1, (ih _ _ _ _ _ (g4).2)⟩) _ _ ((h).2 g3)))⟩

theorem mo_N_writeDigits {post post' : (Nat → Int32) → Int32 → Prop} (hpost : ∀ u0 u1, post u0 u1 → post' u0 u1) : ∀ (a1 : Int64) (a3 : Int32) (fL : (Nat → Int32)) (len : Int32), wp_N_writeDigits post a1 a3 fL len  → wp_N_writeDigits post' a1 a3 fL len  := by
  intro a1 a3 fL len h
  rw [wp_N_writeDigits] at h ⊢
  exact (fun v11 g1 => (Exists.imp (fun n13 g2 => (mo_N_writeDigits_13 hpost _ _ _ _ _ _ g2)) (h v11 g1)))

theorem mo_J_bitCount {post post' : Int32 → Prop} (hpost : ∀ u0, post u0 → post' u0) : ∀ (a0 : Int64), wp_J_bitCount post a0  → wp_J_bitCount post' a0  := by
  intro a0 h
  rw [wp_J_bitCount] at h ⊢
  exact (fun v9 g1 => (fun v23 g2 => (fun v33 g3 => (fun v40 g4 => (fun v47 g5 => (fun v54 g6 => (hpost _ ((((((h v9 g1) v23 g2) v33 g3) v40 g4) v47 g5) v54 g6))))))))

theorem mo_X_demandRange_k_10 {post post' : Prop} (hpost : post  → post' ) : wp_X_demandRange_k_10 post  → wp_X_demandRange_k_10 post'  := by
  intro  h
  rw [wp_X_demandRange_k_10] at h ⊢
  exact h

theorem mo_X_demandRange_k {post post' : Prop} (hpost : post  → post' ) : ∀ (a0 : Int32) (a1 : Int32) (a2 : Int32), wp_X_demandRange_k post a0 a1 a2  → wp_X_demandRange_k post' a0 a1 a2  := by
  intro a0 a1 a2 h
  rw [wp_X_demandRange_k] at h ⊢
  exact ⟨(fun g2 => (mo_X_demandRange_k_10 hpost  ((h).1 g2))), (fun g3 => ⟨(fun g5 => (hpost  (((h).2 g3).1 g5))), (fun g6 => (mo_X_demandRange_k_10 hpost  (((h).2 g3).2 g6)))⟩)⟩

theorem mo_X_demandValues_k {post post' : (Nat → Int64) → (Nat → Int64) → (Nat → Int32) → (Nat → Int32) → (Nat → Int32) → Int32 → Int32 → Prop} (hpost : ∀ u0 u1 u2 u3 u4 u5 u6, post u0 u1 u2 u3 u4 u5 u6 → post' u0 u1 u2 u3 u4 u5 u6) : ∀ (a1 : Int32) (fO : (Nat → Int64)) (fU : (Nat → Int64)) (fW : (Nat → Int32)) (fG : (Nat → Int32)) (fL : (Nat → Int32)) (len : Int32) (size : Int32), wp_X_demandValues_k post a1 fO fU fW fG fL len size  → wp_X_demandValues_k post' a1 fO fU fW fG fL len size  := by
  intro a1 fO fU fW fG fL len size h
  rw [wp_X_demandValues_k] at h ⊢
  exact ⟨(fun g2 => (hpost _ _ _ _ _ _ _ ((h).1 g2))), (h).2⟩

theorem mo_X_demandPlace_k_12 {post post' : (Nat → Int64) → (Nat → Int64) → (Nat → Int32) → (Nat → Int32) → (Nat → Int32) → Int32 → Int32 → Prop} (hpost : ∀ u0 u1 u2 u3 u4 u5 u6, post u0 u1 u2 u3 u4 u5 u6 → post' u0 u1 u2 u3 u4 u5 u6) : ∀ (fO : (Nat → Int64)) (fU : (Nat → Int64)) (fW : (Nat → Int32)) (fG : (Nat → Int32)) (fL : (Nat → Int32)) (len : Int32) (size : Int32), wp_X_demandPlace_k_12 post fO fU fW fG fL len size  → wp_X_demandPlace_k_12 post' fO fU fW fG fL len size  := by
  intro fO fU fW fG fL len size h
  rw [wp_X_demandPlace_k_12] at h ⊢
  exact h

theorem mo_X_demandPlace_k {post post' : (Nat → Int64) → (Nat → Int64) → (Nat → Int32) → (Nat → Int32) → (Nat → Int32) → Int32 → Int32 → Prop} (hpost : ∀ u0 u1 u2 u3 u4 u5 u6, post u0 u1 u2 u3 u4 u5 u6 → post' u0 u1 u2 u3 u4 u5 u6) : ∀ (a1 : Int32) (fO : (Nat → Int64)) (fU : (Nat → Int64)) (fW : (Nat → Int32)) (fG : (Nat → Int32)) (fL : (Nat → Int32)) (len : Int32) (size : Int32), wp_X_demandPlace_k post a1 fO fU fW fG fL len size  → wp_X_demandPlace_k post' a1 fO fU fW fG fL len size  := by
  intro a1 fO fU fW fG fL len size h
  rw [wp_X_demandPlace_k] at h ⊢
  exact ⟨(fun g2 => (mo_X_demandPlace_k_12 hpost _ _ _ _ _ _ _ ((h).1 g2))), (fun g3 => ⟨(fun g5 => (hpost _ _ _ _ _ _ _ (((h).2 g3).1 g5))), (fun g6 => (mo_X_demandPlace_k_12 hpost _ _ _ _ _ _ _ (((h).2 g3).2 g6)))⟩)⟩

theorem mo_X_demandRoom_k {post post' : (Nat → Int64) → (Nat → Int64) → (Nat → Int32) → (Nat → Int32) → (Nat → Int32) → Int32 → Int32 → Prop} (hpost : ∀ u0 u1 u2 u3 u4 u5 u6, post u0 u1 u2 u3 u4 u5 u6 → post' u0 u1 u2 u3 u4 u5 u6) : ∀ (fO : (Nat → Int64)) (fU : (Nat → Int64)) (fW : (Nat → Int32)) (fG : (Nat → Int32)) (fL : (Nat → Int32)) (len : Int32) (size : Int32), wp_X_demandRoom_k post fO fU fW fG fL len size  → wp_X_demandRoom_k post' fO fU fW fG fL len size  := by
  intro fO fU fW fG fL len size h
  rw [wp_X_demandRoom_k] at h ⊢
  exact ⟨(fun g2 => (hpost _ _ _ _ _ _ _ ((h).1 g2))), (h).2⟩

theorem mo_X_bothTrue_25 {post post' : Int32 → Prop} (hpost : ∀ u0, post u0 → post' u0) : ∀ (t0 : Int32), wp_X_bothTrue_25 post t0  → wp_X_bothTrue_25 post' t0  := by
  intro t0 h
  rw [wp_X_bothTrue_25] at h ⊢
  exact (hpost _ h)

theorem mo_X_bothTrue_24 {post post' : Int32 → Prop} (hpost : ∀ u0, post u0 → post' u0) : wp_X_bothTrue_24 post  → wp_X_bothTrue_24 post'  := by
  intro  h
  rw [wp_X_bothTrue_24] at h ⊢
  exact (mo_X_bothTrue_25 hpost _ h)

theorem mo_X_bothTrue_8 {post post' : Int32 → Prop} (hpost : ∀ u0, post u0 → post' u0) : wp_X_bothTrue_8 post  → wp_X_bothTrue_8 post'  := by
  intro  h
  rw [wp_X_bothTrue_8] at h ⊢
  exact (hpost _ h)

theorem mo_X_bothTrue {post post' : Int32 → Prop} (hpost : ∀ u0, post u0 → post' u0) : ∀ (a0 : Int32) (a1 : Int32), wp_X_bothTrue post a0 a1  → wp_X_bothTrue post' a0 a1  := by
  intro a0 a1 h
  rw [wp_X_bothTrue] at h ⊢
  exact ⟨(fun g2 => (mo_X_bothTrue_8 hpost  ((h).1 g2))), (fun g3 => ⟨(fun g5 => ⟨(fun g7 => (mo_X_bothTrue_24 hpost  ((((h).2 g3).1 g5).1 g7))), (fun g8 => ⟨(fun g10 => (mo_X_bothTrue_24 hpost  (((((h).2 g3).1 g5).2 g8).1 g10))), (fun g11 => (mo_X_bothTrue_25 hpost _ (((((h).2 g3).1 g5).2 g8).2 g11)))⟩)⟩), (fun g12 => (mo_X_bothTrue_8 hpost  (((h).2 g3).2 g12)))⟩)⟩

theorem mo_X_opposite_17 {post post' : Int32 → Prop} (hpost : ∀ u0, post u0 → post' u0) : ∀ (t0 : Int32), wp_X_opposite_17 post t0  → wp_X_opposite_17 post' t0  := by
  intro t0 h
  rw [wp_X_opposite_17] at h ⊢
  exact (hpost _ h)

theorem mo_X_opposite {post post' : Int32 → Prop} (hpost : ∀ u0, post u0 → post' u0) : ∀ (a0 : Int32), wp_X_opposite post a0  → wp_X_opposite post' a0  := by
  intro a0 h
  rw [wp_X_opposite] at h ⊢
  exact ⟨(fun g2 => ⟨(fun g4 => (mo_X_opposite_17 hpost _ (((h).1 g2).1 g4))), (fun g5 => (mo_X_opposite_17 hpost _ (((h).1 g2).2 g5)))⟩), (fun g6 => (hpost _ ((h).2 g6)))⟩

theorem mo_X_unknownLetter_48 {post post' : Int32 → Prop} (hpost : ∀ u0, post u0 → post' u0) : ∀ (t0 : Int32), wp_X_unknownLetter_48 post t0  → wp_X_unknownLetter_48 post' t0  := by
  intro t0 h
  rw [wp_X_unknownLetter_48] at h ⊢
  exact ⟨(h).1, (hpost _ (h).2)⟩

theorem mo_X_unknownLetter_33 {post post' : Int32 → Prop} (hpost : ∀ u0, post u0 → post' u0) : ∀ (x0 : Int64) (x2 : Int64), wp_X_unknownLetter_33 post x0 x2  → wp_X_unknownLetter_33 post' x0 x2  := by
  intro x0 x2 h
  rw [wp_X_unknownLetter_33] at h ⊢
  exact ⟨(fun g2 => (mo_X_unknownLetter_48 hpost _ ((h).1 g2))), (fun g3 => (mo_X_unknownLetter_48 hpost _ ((h).2 g3)))⟩

theorem mo_X_unknownLetter_17 {post post' : Int32 → Prop} (hpost : ∀ u0, post u0 → post' u0) : ∀ (x0 : Int64) (x2 : Int64) (x4 : Int64), wp_X_unknownLetter_17 post x0 x2 x4  → wp_X_unknownLetter_17 post' x0 x2 x4  := by
  intro x0 x2 x4 h
  rw [wp_X_unknownLetter_17] at h ⊢
  exact ⟨(fun g2 => (mo_X_unknownLetter_33 hpost _ _ ((h).1 g2))), (fun g3 => ⟨(fun g5 => (mo_X_unknownLetter_33 hpost _ _ (((h).2 g3).1 g5))), (fun g6 => ⟨(((h).2 g3).2 g6).1, (hpost _ (((h).2 g3).2 g6).2)⟩)⟩)⟩

theorem mo_X_unknownLetter {post post' : Int32 → Prop} (hpost : ∀ u0, post u0 → post' u0) : ∀ (a0 : Int64) (a2 : Int64) (a4 : Int64), wp_X_unknownLetter post a0 a2 a4  → wp_X_unknownLetter post' a0 a2 a4  := by
  intro a0 a2 a4 h
  rw [wp_X_unknownLetter] at h ⊢
  exact ⟨(fun g2 => (mo_X_unknownLetter_17 hpost _ _ _ ((h).1 g2))), (fun g3 => ⟨(fun g5 => (mo_X_unknownLetter_17 hpost _ _ _ (((h).2 g3).1 g5))), (fun g6 => ⟨(((h).2 g3).2 g6).1, (hpost _ (((h).2 g3).2 g6).2)⟩)⟩)⟩

theorem mo_X_groupLetter_39 {post post' : Int32 → Prop} (hpost : ∀ u0, post u0 → post' u0) : ∀ (t0 : Int64), wp_X_groupLetter_39 post t0  → wp_X_groupLetter_39 post' t0  := by
  intro t0 h
  rw [wp_X_groupLetter_39] at h ⊢
  exact ⟨(h).1, (hpost _ (h).2)⟩

theorem mo_X_groupLetter {post post' : Int32 → Prop} (hpost : ∀ u0, post u0 → post' u0) : ∀ (a0 : Int64) (a2 : Int64) (a4 : Int64), wp_X_groupLetter post a0 a2 a4  → wp_X_groupLetter post' a0 a2 a4  := by
  intro a0 a2 a4 h
  rw [wp_X_groupLetter] at h ⊢
  exact ⟨(fun g2 => ⟨(fun g4 => (mo_X_groupLetter_39 hpost _ (((h).1 g2).1 g4))), (fun g5 => (mo_X_groupLetter_39 hpost _ (((h).1 g2).2 g5)))⟩), (fun g6 => (mo_X_unknownLetter (fun r10 g7 => ⟨(g7).1, (hpost _ (g7).2)⟩) _ _ _ ((h).2 g6)))⟩

theorem mo_X_setBits {post post' : (Nat → Int64) → (Nat → Int64) → (Nat → Int32) → (Nat → Int32) → (Nat → Int32) → Int32 → Int32 → Prop} (hpost : ∀ u0 u1 u2 u3 u4 u5 u6, post u0 u1 u2 u3 u4 u5 u6 → post' u0 u1 u2 u3 u4 u5 u6) : ∀ (a1 : Int32) (a2 : Int64) (a4 : Int64) (fO : (Nat → Int64)) (fU : (Nat → Int64)) (fW : (Nat → Int32)) (fG : (Nat → Int32)) (fL : (Nat → Int32)) (len : Int32) (size : Int32), wp_X_setBits post a1 a2 a4 fO fU fW fG fL len size  → wp_X_setBits post' a1 a2 a4 fO fU fW fG fL len size  := by
  intro a1 a2 a4 fO fU fW fG fL len size h
  rw [wp_X_setBits] at h ⊢
  exact ⟨(h).1, (mo_B_lowest (fun r6 g2 => ⟨(g2).1, ⟨(g2).2.1, (hpost _ _ _ _ _ _ _ (g2).2.2)⟩⟩) _ (h).2)⟩

theorem mo_X_setValue {post post' : (Nat → Int64) → (Nat → Int64) → (Nat → Int32) → (Nat → Int32) → (Nat → Int32) → Int32 → Int32 → Prop} (hpost : ∀ u0 u1 u2 u3 u4 u5 u6, post u0 u1 u2 u3 u4 u5 u6 → post' u0 u1 u2 u3 u4 u5 u6) : ∀ (a1 : Int32) (a2 : Int64) (a4 : Int64) (a6 : Int32) (a7 : Int32) (fO : (Nat → Int64)) (fU : (Nat → Int64)) (fW : (Nat → Int32)) (fG : (Nat → Int32)) (fL : (Nat → Int32)) (len : Int32) (size : Int32), wp_X_setValue post a1 a2 a4 a6 a7 fO fU fW fG fL len size  → wp_X_setValue post' a1 a2 a4 a6 a7 fO fU fW fG fL len size  := by
  intro a1 a2 a4 a6 a7 fO fU fW fG fL len size h
  rw [wp_X_setValue] at h ⊢
  exact ⟨(h).1, ⟨(h).2.1, (mo_X_setBits (fun fO21 fU21 fW21 fG21 fL21 len21 size21 g3 => (hpost _ _ _ _ _ _ _ g3)) _ _ _ _ _ _ _ _ _ _ (h).2.2)⟩⟩

theorem mo_X_setSure {post post' : (Nat → Int64) → (Nat → Int64) → (Nat → Int32) → (Nat → Int32) → (Nat → Int32) → Int32 → Int32 → Prop} (hpost : ∀ u0 u1 u2 u3 u4 u5 u6, post u0 u1 u2 u3 u4 u5 u6 → post' u0 u1 u2 u3 u4 u5 u6) : ∀ (a1 : Int32) (a2 : Int64) (a4 : Int64) (fO : (Nat → Int64)) (fU : (Nat → Int64)) (fW : (Nat → Int32)) (fG : (Nat → Int32)) (fL : (Nat → Int32)) (len : Int32) (size : Int32), wp_X_setSure post a1 a2 a4 fO fU fW fG fL len size  → wp_X_setSure post' a1 a2 a4 fO fU fW fG fL len size  := by
  intro a1 a2 a4 fO fU fW fG fL len size h
  rw [wp_X_setSure] at h ⊢
  exact (mo_X_setBits (fun fO16 fU16 fW16 fG16 fL16 len16 size16 g1 => (hpost _ _ _ _ _ _ _ g1)) _ _ _ _ _ _ _ _ _ _ h)

theorem mo_X_setTruth_21 {post post' : (Nat → Int64) → (Nat → Int64) → (Nat → Int32) → (Nat → Int32) → (Nat → Int32) → Int32 → Int32 → Prop} (hpost : ∀ u0 u1 u2 u3 u4 u5 u6, post u0 u1 u2 u3 u4 u5 u6 → post' u0 u1 u2 u3 u4 u5 u6) : ∀ (t0 : Int64) (t1 : Int64) (t2 : Int32) (fO : (Nat → Int64)) (fU : (Nat → Int64)) (fW : (Nat → Int32)) (fG : (Nat → Int32)) (fL : (Nat → Int32)) (len : Int32) (size : Int32), wp_X_setTruth_21 post t0 t1 t2 fO fU fW fG fL len size  → wp_X_setTruth_21 post' t0 t1 t2 fO fU fW fG fL len size  := by
  intro t0 t1 t2 fO fU fW fG fL len size h
  rw [wp_X_setTruth_21] at h ⊢
  exact (mo_X_setValue (fun fO23 fU23 fW23 fG23 fL23 len23 size23 g1 => (hpost _ _ _ _ _ _ _ g1)) _ _ _ _ _ _ _ _ _ _ _ _ h)

theorem mo_X_setTruth_11 {post post' : (Nat → Int64) → (Nat → Int64) → (Nat → Int32) → (Nat → Int32) → (Nat → Int32) → Int32 → Int32 → Prop} (hpost : ∀ u0 u1 u2 u3 u4 u5 u6, post u0 u1 u2 u3 u4 u5 u6 → post' u0 u1 u2 u3 u4 u5 u6) : ∀ (x2 : Int32) (t0 : Int64) (t1 : Int32) (fO : (Nat → Int64)) (fU : (Nat → Int64)) (fW : (Nat → Int32)) (fG : (Nat → Int32)) (fL : (Nat → Int32)) (len : Int32) (size : Int32), wp_X_setTruth_11 post x2 t0 t1 fO fU fW fG fL len size  → wp_X_setTruth_11 post' x2 t0 t1 fO fU fW fG fL len size  := by
  intro x2 t0 t1 fO fU fW fG fL len size h
  rw [wp_X_setTruth_11] at h ⊢
  exact ⟨(fun g2 => (mo_X_setTruth_21 hpost _ _ _ _ _ _ _ _ _ _ ((h).1 g2))), (fun g3 => (mo_X_setTruth_21 hpost _ _ _ _ _ _ _ _ _ _ ((h).2 g3)))⟩

theorem mo_X_setTruth {post post' : (Nat → Int64) → (Nat → Int64) → (Nat → Int32) → (Nat → Int32) → (Nat → Int32) → Int32 → Int32 → Prop} (hpost : ∀ u0 u1 u2 u3 u4 u5 u6, post u0 u1 u2 u3 u4 u5 u6 → post' u0 u1 u2 u3 u4 u5 u6) : ∀ (a1 : Int32) (a2 : Int32) (fO : (Nat → Int64)) (fU : (Nat → Int64)) (fW : (Nat → Int32)) (fG : (Nat → Int32)) (fL : (Nat → Int32)) (len : Int32) (size : Int32), wp_X_setTruth post a1 a2 fO fU fW fG fL len size  → wp_X_setTruth post' a1 a2 fO fU fW fG fL len size  := by
  intro a1 a2 fO fU fW fG fL len size h
  rw [wp_X_setTruth] at h ⊢
  exact ⟨(fun g2 => (mo_X_setTruth_11 hpost _ _ _ _ _ _ _ _ _ _ ((h).1 g2))), (fun g3 => (mo_X_setTruth_11 hpost _ _ _ _ _ _ _ _ _ _ ((h).2 g3)))⟩

theorem mo_X_fillWithX {post post' : (Nat → Int64) → (Nat → Int64) → (Nat → Int32) → (Nat → Int32) → (Nat → Int32) → Int32 → Int32 → Prop} (hpost : ∀ u0 u1 u2 u3 u4 u5 u6, post u0 u1 u2 u3 u4 u5 u6 → post' u0 u1 u2 u3 u4 u5 u6) : ∀ (a1 : Int32) (fO : (Nat → Int64)) (fU : (Nat → Int64)) (fW : (Nat → Int32)) (fG : (Nat → Int32)) (fL : (Nat → Int32)) (len : Int32) (size : Int32), wp_X_fillWithX post a1 fO fU fW fG fL len size  → wp_X_fillWithX post' a1 fO fU fW fG fL len size  := by
  intro a1 fO fU fW fG fL len size h
  rw [wp_X_fillWithX] at h ⊢
  exact (mo_X_setBits (fun fO8 fU8 fW8 fG8 fL8 len8 size8 g1 => (hpost _ _ _ _ _ _ _ g1)) _ _ _ _ _ _ _ _ _ _ h)

theorem mo_X_copyValue {post post' : (Nat → Int64) → (Nat → Int64) → (Nat → Int32) → (Nat → Int32) → (Nat → Int32) → Int32 → Int32 → Prop} (hpost : ∀ u0 u1 u2 u3 u4 u5 u6, post u0 u1 u2 u3 u4 u5 u6 → post' u0 u1 u2 u3 u4 u5 u6) : ∀ (a1 : Int32) (a2 : Int32) (fO : (Nat → Int64)) (fU : (Nat → Int64)) (fW : (Nat → Int32)) (fG : (Nat → Int32)) (fL : (Nat → Int32)) (len : Int32) (size : Int32), wp_X_copyValue post a1 a2 fO fU fW fG fL len size  → wp_X_copyValue post' a1 a2 fO fU fW fG fL len size  := by
  intro a1 a2 fO fU fW fG fL len size h
  rw [wp_X_copyValue] at h ⊢
  exact ⟨(h).1, ⟨(h).2.1, ⟨(h).2.2.1, ⟨(h).2.2.2.1, (mo_X_setValue (fun fO26 fU26 fW26 fG26 fL26 len26 size26 g5 => (hpost _ _ _ _ _ _ _ g5)) _ _ _ _ _ _ _ _ _ _ _ _ (h).2.2.2.2)⟩⟩⟩⟩

theorem mo_X_setWidth_46 {post post' : (Nat → Int64) → (Nat → Int64) → (Nat → Int32) → (Nat → Int32) → (Nat → Int32) → Int32 → Int32 → Prop} (hpost : ∀ u0 u1 u2 u3 u4 u5 u6, post u0 u1 u2 u3 u4 u5 u6 → post' u0 u1 u2 u3 u4 u5 u6) : ∀ (x1 : Int32) (x2 : Int32) (x4 : Int64) (x6 : Int64) (fO : (Nat → Int64)) (fU : (Nat → Int64)) (fW : (Nat → Int32)) (fG : (Nat → Int32)) (fL : (Nat → Int32)) (len : Int32) (size : Int32), wp_X_setWidth_46 post x1 x2 x4 x6 fO fU fW fG fL len size  → wp_X_setWidth_46 post' x1 x2 x4 x6 fO fU fW fG fL len size  := by
  intro x1 x2 x4 x6 fO fU fW fG fL len size h
  rw [wp_X_setWidth_46] at h ⊢
  exact ⟨(h).1, (mo_X_setBits (fun fO59 fU59 fW59 fG59 fL59 len59 size59 g2 => (hpost _ _ _ _ _ _ _ g2)) _ _ _ _ _ _ _ _ _ _ (h).2)⟩

theorem mo_X_setWidth {post post' : (Nat → Int64) → (Nat → Int64) → (Nat → Int32) → (Nat → Int32) → (Nat → Int32) → Int32 → Int32 → Prop} (hpost : ∀ u0 u1 u2 u3 u4 u5 u6, post u0 u1 u2 u3 u4 u5 u6 → post' u0 u1 u2 u3 u4 u5 u6) : ∀ (a1 : Int32) (a2 : Int32) (a3 : Int32) (fO : (Nat → Int64)) (fU : (Nat → Int64)) (fW : (Nat → Int32)) (fG : (Nat → Int32)) (fL : (Nat → Int32)) (len : Int32) (size : Int32), wp_X_setWidth post a1 a2 a3 fO fU fW fG fL len size  → wp_X_setWidth post' a1 a2 a3 fO fU fW fG fL len size  := by
  intro a1 a2 a3 fO fU fW fG fL len size h
  rw [wp_X_setWidth] at h ⊢
  exact ⟨(h).1, (fun v6 g2 => ⟨((h).2 v6 g2).1, (fun v14 g4 => ⟨(fun g6 => (mo_X_setWidth_46 hpost _ _ _ _ _ _ _ _ _ _ _ ((((h).2 v6 g2).2 v14 g4).1 g6))), (fun g7 => ⟨((((h).2 v6 g2).2 v14 g4).2 g7).1, (mo_B_withHighestInFront (fun r28 g9 => ⟨(g9).1, (mo_B_withHighestInFront (fun r41 g11 => (mo_X_setWidth_46 hpost _ _ _ _ _ _ _ _ _ _ _ g11)) _ _ (g9).2)⟩) _ _ ((((h).2 v6 g2).2 v14 g4).2 g7).2)⟩)⟩)⟩)⟩

theorem mo_X_bringTogether_23 {post post' : (Nat → Int64) → (Nat → Int64) → (Nat → Int32) → (Nat → Int32) → (Nat → Int32) → Int32 → Int32 → Prop} (hpost : ∀ u0 u1 u2 u3 u4 u5 u6, post u0 u1 u2 u3 u4 u5 u6 → post' u0 u1 u2 u3 u4 u5 u6) : ∀ (x1 : Int32) (x2 : Int32) (t0 : Int32) (fO : (Nat → Int64)) (fU : (Nat → Int64)) (fW : (Nat → Int32)) (fG : (Nat → Int32)) (fL : (Nat → Int32)) (len : Int32) (size : Int32), wp_X_bringTogether_23 post x1 x2 t0 fO fU fW fG fL len size  → wp_X_bringTogether_23 post' x1 x2 t0 fO fU fW fG fL len size  := by
  intro x1 x2 t0 fO fU fW fG fL len size h
  rw [wp_X_bringTogether_23] at h ⊢
  exact ⟨(h).1, ⟨(h).2.1, (fun v39 g3 => (mo_X_setWidth (fun fO46 fU46 fW46 fG46 fL46 len46 size46 g4 => (mo_X_setWidth (fun fO54 fU54 fW54 fG54 fL54 len54 size54 g5 => ⟨(g5).1, ⟨(g5).2.1, (hpost _ _ _ _ _ _ _ (g5).2.2)⟩⟩) _ _ _ _ _ _ _ _ _ _ g4)) _ _ _ _ _ _ _ _ _ _ ((h).2.2 v39 g3)))⟩⟩

theorem mo_X_bringTogether_22 {post post' : (Nat → Int64) → (Nat → Int64) → (Nat → Int32) → (Nat → Int32) → (Nat → Int32) → Int32 → Int32 → Prop} (hpost : ∀ u0 u1 u2 u3 u4 u5 u6, post u0 u1 u2 u3 u4 u5 u6 → post' u0 u1 u2 u3 u4 u5 u6) : ∀ (x1 : Int32) (x2 : Int32) (fO : (Nat → Int64)) (fU : (Nat → Int64)) (fW : (Nat → Int32)) (fG : (Nat → Int32)) (fL : (Nat → Int32)) (len : Int32) (size : Int32), wp_X_bringTogether_22 post x1 x2 fO fU fW fG fL len size  → wp_X_bringTogether_22 post' x1 x2 fO fU fW fG fL len size  := by
  intro x1 x2 fO fU fW fG fL len size h
  rw [wp_X_bringTogether_22] at h ⊢
  exact (mo_X_bringTogether_23 hpost _ _ _ _ _ _ _ _ _ _ h)

theorem mo_X_bringTogether {post post' : (Nat → Int64) → (Nat → Int64) → (Nat → Int32) → (Nat → Int32) → (Nat → Int32) → Int32 → Int32 → Prop} (hpost : ∀ u0 u1 u2 u3 u4 u5 u6, post u0 u1 u2 u3 u4 u5 u6 → post' u0 u1 u2 u3 u4 u5 u6) : ∀ (a1 : Int32) (a2 : Int32) (fO : (Nat → Int64)) (fU : (Nat → Int64)) (fW : (Nat → Int32)) (fG : (Nat → Int32)) (fL : (Nat → Int32)) (len : Int32) (size : Int32), wp_X_bringTogether post a1 a2 fO fU fW fG fL len size  → wp_X_bringTogether post' a1 a2 fO fU fW fG fL len size  := by
  intro a1 a2 fO fU fW fG fL len size h
  rw [wp_X_bringTogether] at h ⊢
  exact ⟨(h).1, ⟨(fun g3 => (mo_X_bringTogether_22 hpost _ _ _ _ _ _ _ _ _ ((h).2.1 g3))), (fun g4 => ⟨((h).2.2 g4).1, ⟨(fun g7 => (mo_X_bringTogether_22 hpost _ _ _ _ _ _ _ _ _ (((h).2.2 g4).2.1 g7))), (fun g8 => (mo_X_bringTogether_23 hpost _ _ _ _ _ _ _ _ _ _ (((h).2.2 g4).2.2 g8)))⟩⟩)⟩⟩

theorem mo_X_sureOnes {post post' : Int64 → (Nat → Int64) → (Nat → Int64) → (Nat → Int32) → (Nat → Int32) → (Nat → Int32) → Int32 → Int32 → Prop} (hpost : ∀ u0 u1 u2 u3 u4 u5 u6 u7, post u0 u1 u2 u3 u4 u5 u6 u7 → post' u0 u1 u2 u3 u4 u5 u6 u7) : ∀ (a1 : Int32) (fO : (Nat → Int64)) (fU : (Nat → Int64)) (fW : (Nat → Int32)) (fG : (Nat → Int32)) (fL : (Nat → Int32)) (len : Int32) (size : Int32), wp_X_sureOnes post a1 fO fU fW fG fL len size  → wp_X_sureOnes post' a1 fO fU fW fG fL len size  := by
  intro a1 fO fU fW fG fL len size h
  rw [wp_X_sureOnes] at h ⊢
  exact ⟨(h).1, ⟨(h).2.1, (hpost _ _ _ _ _ _ _ _ (h).2.2)⟩⟩

theorem mo_X_sureZeros {post post' : Int64 → (Nat → Int64) → (Nat → Int64) → (Nat → Int32) → (Nat → Int32) → (Nat → Int32) → Int32 → Int32 → Prop} (hpost : ∀ u0 u1 u2 u3 u4 u5 u6 u7, post u0 u1 u2 u3 u4 u5 u6 u7 → post' u0 u1 u2 u3 u4 u5 u6 u7) : ∀ (a1 : Int32) (fO : (Nat → Int64)) (fU : (Nat → Int64)) (fW : (Nat → Int32)) (fG : (Nat → Int32)) (fL : (Nat → Int32)) (len : Int32) (size : Int32), wp_X_sureZeros post a1 fO fU fW fG fL len size  → wp_X_sureZeros post' a1 fO fU fW fG fL len size  := by
  intro a1 fO fU fW fG fL len size h
  rw [wp_X_sureZeros] at h ⊢
  exact ⟨(h).1, ⟨(h).2.1, ⟨(h).2.2.1, (mo_B_lowest (fun r23 g4 => (hpost _ _ _ _ _ _ _ _ g4)) _ (h).2.2.2)⟩⟩⟩

theorem mo_X_number_33 {post post' : Int64 → (Nat → Int64) → (Nat → Int64) → (Nat → Int32) → (Nat → Int32) → (Nat → Int32) → Int32 → Int32 → Prop} (hpost : ∀ u0 u1 u2 u3 u4 u5 u6 u7, post u0 u1 u2 u3 u4 u5 u6 u7 → post' u0 u1 u2 u3 u4 u5 u6 u7) : ∀ (t0 : Int64) (fO : (Nat → Int64)) (fU : (Nat → Int64)) (fW : (Nat → Int32)) (fG : (Nat → Int32)) (fL : (Nat → Int32)) (len : Int32) (size : Int32), wp_X_number_33 post t0 fO fU fW fG fL len size  → wp_X_number_33 post' t0 fO fU fW fG fL len size  := by
  intro t0 fO fU fW fG fL len size h
  rw [wp_X_number_33] at h ⊢
  exact (hpost _ _ _ _ _ _ _ _ h)

theorem mo_X_number {post post' : Int64 → (Nat → Int64) → (Nat → Int64) → (Nat → Int32) → (Nat → Int32) → (Nat → Int32) → Int32 → Int32 → Prop} (hpost : ∀ u0 u1 u2 u3 u4 u5 u6 u7, post u0 u1 u2 u3 u4 u5 u6 u7 → post' u0 u1 u2 u3 u4 u5 u6 u7) : ∀ (a1 : Int32) (fO : (Nat → Int64)) (fU : (Nat → Int64)) (fW : (Nat → Int32)) (fG : (Nat → Int32)) (fL : (Nat → Int32)) (len : Int32) (size : Int32), wp_X_number post a1 fO fU fW fG fL len size  → wp_X_number post' a1 fO fU fW fG fL len size  := by
  intro a1 fO fU fW fG fL len size h
  rw [wp_X_number] at h ⊢
  exact ⟨(h).1, ⟨(fun g3 => ⟨((h).2.1 g3).1, (mo_X_number_33 hpost _ _ _ _ _ _ _ _ ((h).2.1 g3).2)⟩), (fun g5 => ⟨((h).2.2 g5).1, ⟨((h).2.2 g5).2.1, (mo_B_withHighestInFront (fun r21 g8 => (mo_X_number_33 hpost _ _ _ _ _ _ _ _ g8)) _ _ ((h).2.2 g5).2.2)⟩⟩)⟩⟩

theorem mo_X_reckon_188 {post post' : (Nat → Int64) → (Nat → Int64) → (Nat → Int32) → (Nat → Int32) → (Nat → Int32) → Int32 → Int32 → Prop} (hpost : ∀ u0 u1 u2 u3 u4 u5 u6, post u0 u1 u2 u3 u4 u5 u6 → post' u0 u1 u2 u3 u4 u5 u6) : ∀ (fO : (Nat → Int64)) (fU : (Nat → Int64)) (fW : (Nat → Int32)) (fG : (Nat → Int32)) (fL : (Nat → Int32)) (len : Int32) (size : Int32), wp_X_reckon_188 post fO fU fW fG fL len size  → wp_X_reckon_188 post' fO fU fW fG fL len size  := by
  intro fO fU fW fG fL len size h
  rw [wp_X_reckon_188] at h ⊢
  exact (hpost _ _ _ _ _ _ _ h)

theorem mo_X_reckon_184 {post post' : (Nat → Int64) → (Nat → Int64) → (Nat → Int32) → (Nat → Int32) → (Nat → Int32) → Int32 → Int32 → Prop} (hpost : ∀ u0 u1 u2 u3 u4 u5 u6, post u0 u1 u2 u3 u4 u5 u6 → post' u0 u1 u2 u3 u4 u5 u6) : ∀ (t0 : Int64) (t1 : Int32) (fO : (Nat → Int64)) (fU : (Nat → Int64)) (fW : (Nat → Int32)) (fG : (Nat → Int32)) (fL : (Nat → Int32)) (len : Int32) (size : Int32), wp_X_reckon_184 post t0 t1 fO fU fW fG fL len size  → wp_X_reckon_184 post' t0 t1 fO fU fW fG fL len size  := by
  intro t0 t1 fO fU fW fG fL len size h
  rw [wp_X_reckon_184] at h ⊢
  exact (mo_X_setBits (fun fO185 fU185 fW185 fG185 fL185 len185 size185 g1 => (mo_X_reckon_188 hpost _ _ _ _ _ _ _ g1)) _ _ _ _ _ _ _ _ _ _ h)

theorem mo_X_reckon_162 {post post' : (Nat → Int64) → (Nat → Int64) → (Nat → Int32) → (Nat → Int32) → (Nat → Int32) → Int32 → Int32 → Prop} (hpost : ∀ u0 u1 u2 u3 u4 u5 u6, post u0 u1 u2 u3 u4 u5 u6 → post' u0 u1 u2 u3 u4 u5 u6) : ∀ (x1 : Int32) (x2 : Int32) (x4 : Int64) (x6 : Int64) (t0 : Int64) (fO : (Nat → Int64)) (fU : (Nat → Int64)) (fW : (Nat → Int32)) (fG : (Nat → Int32)) (fL : (Nat → Int32)) (len : Int32) (size : Int32), wp_X_reckon_162 post x1 x2 x4 x6 t0 fO fU fW fG fL len size  → wp_X_reckon_162 post' x1 x2 x4 x6 t0 fO fU fW fG fL len size  := by
  intro x1 x2 x4 x6 t0 fO fU fW fG fL len size h
  rw [wp_X_reckon_162] at h ⊢
  exact ⟨(fun g2 => (mo_X_reckon_184 hpost _ _ _ _ _ _ _ _ _ ((h).1 g2))), (fun g3 => (mo_X_reckon_184 hpost _ _ _ _ _ _ _ _ _ ((h).2 g3)))⟩

theorem mo_X_reckon_67 {post post' : (Nat → Int64) → (Nat → Int64) → (Nat → Int32) → (Nat → Int32) → (Nat → Int32) → Int32 → Int32 → Prop} (hpost : ∀ u0 u1 u2 u3 u4 u5 u6, post u0 u1 u2 u3 u4 u5 u6 → post' u0 u1 u2 u3 u4 u5 u6) : ∀ (x1 : Int32) (x2 : Int32) (x4 : Int64) (x6 : Int64) (fO : (Nat → Int64)) (fU : (Nat → Int64)) (fW : (Nat → Int32)) (fG : (Nat → Int32)) (fL : (Nat → Int32)) (len : Int32) (size : Int32), wp_X_reckon_67 post x1 x2 x4 x6 fO fU fW fG fL len size  → wp_X_reckon_67 post' x1 x2 x4 x6 fO fU fW fG fL len size  := by
  intro x1 x2 x4 x6 fO fU fW fG fL len size h
  rw [wp_X_reckon_67] at h ⊢
  exact ⟨(fun g2 => ⟨((h).1 g2).1, ⟨(fun g5 => (mo_B_quotient (fun r159 g6 => (mo_X_reckon_162 hpost _ _ _ _ _ _ _ _ _ _ _ _ g6)) _ _ (((h).1 g2).2.1 g5))), (fun g7 => ⟨(((h).1 g2).2.2 g7).1, (mo_X_reckon_162 hpost _ _ _ _ _ _ _ _ _ _ _ _ (((h).1 g2).2.2 g7).2)⟩)⟩⟩), ⟨(fun g10 => (mo_X_setBits (fun fO104 fU104 fW104 fG104 fL104 len104 size104 g11 => (mo_X_reckon_188 hpost _ _ _ _ _ _ _ g11)) _ _ _ _ _ _ _ _ _ _ ((h).2.1 g10))), ⟨(fun g13 => (mo_X_setBits (fun fO118 fU118 fW118 fG118 fL118 len118 size118 g14 => (mo_X_reckon_188 hpost _ _ _ _ _ _ _ g14)) _ _ _ _ _ _ _ _ _ _ ((h).2.2.1 g13))), (fun g15 => (mo_X_setBits (fun fO132 fU132 fW132 fG132 fL132 len132 size132 g16 => (mo_X_reckon_188 hpost _ _ _ _ _ _ _ g16)) _ _ _ _ _ _ _ _ _ _ ((h).2.2.2 g15)))⟩⟩⟩

theorem mo_X_reckon_61 {post post' : (Nat → Int64) → (Nat → Int64) → (Nat → Int32) → (Nat → Int32) → (Nat → Int32) → Int32 → Int32 → Prop} (hpost : ∀ u0 u1 u2 u3 u4 u5 u6, post u0 u1 u2 u3 u4 u5 u6 → post' u0 u1 u2 u3 u4 u5 u6) : ∀ (x2 : Int32) (fO : (Nat → Int64)) (fU : (Nat → Int64)) (fW : (Nat → Int32)) (fG : (Nat → Int32)) (fL : (Nat → Int32)) (len : Int32) (size : Int32), wp_X_reckon_61 post x2 fO fU fW fG fL len size  → wp_X_reckon_61 post' x2 fO fU fW fG fL len size  := by
  intro x2 fO fU fW fG fL len size h
  rw [wp_X_reckon_61] at h ⊢
  exact (mo_X_fillWithX (fun fO63 fU63 fW63 fG63 fL63 len63 size63 g1 => (hpost _ _ _ _ _ _ _ g1)) _ _ _ _ _ _ _ _ h)

theorem mo_X_reckon_29 {post post' : (Nat → Int64) → (Nat → Int64) → (Nat → Int32) → (Nat → Int32) → (Nat → Int32) → Int32 → Int32 → Prop} (hpost : ∀ u0 u1 u2 u3 u4 u5 u6, post u0 u1 u2 u3 u4 u5 u6 → post' u0 u1 u2 u3 u4 u5 u6) : ∀ (x1 : Int32) (x2 : Int32) (x3 : Int32) (x4 : Int64) (x6 : Int64) (t0 : Int32) (fO : (Nat → Int64)) (fU : (Nat → Int64)) (fW : (Nat → Int32)) (fG : (Nat → Int32)) (fL : (Nat → Int32)) (len : Int32) (size : Int32), wp_X_reckon_29 post x1 x2 x3 x4 x6 t0 fO fU fW fG fL len size  → wp_X_reckon_29 post' x1 x2 x3 x4 x6 t0 fO fU fW fG fL len size  := by
  intro x1 x2 x3 x4 x6 t0 fO fU fW fG fL len size h
  rw [wp_X_reckon_29] at h ⊢
  exact ⟨(h).1, ⟨(h).2.1, ⟨(fun g4 => (mo_X_reckon_61 hpost _ _ _ _ _ _ _ _ ((h).2.2.1 g4))), (fun g5 => ⟨(fun g7 => (mo_X_reckon_67 hpost _ _ _ _ _ _ _ _ _ _ _ (((h).2.2.2 g5).1 g7))), (fun g8 => ⟨(fun g10 => (mo_X_reckon_67 hpost _ _ _ _ _ _ _ _ _ _ _ ((((h).2.2.2 g5).2 g8).1 g10))), (fun g11 => (mo_X_reckon_61 hpost _ _ _ _ _ _ _ _ ((((h).2.2.2 g5).2 g8).2 g11)))⟩)⟩)⟩⟩⟩

theorem mo_X_reckon_24 {post post' : (Nat → Int64) → (Nat → Int64) → (Nat → Int32) → (Nat → Int32) → (Nat → Int32) → Int32 → Int32 → Prop} (hpost : ∀ u0 u1 u2 u3 u4 u5 u6, post u0 u1 u2 u3 u4 u5 u6 → post' u0 u1 u2 u3 u4 u5 u6) : ∀ (x1 : Int32) (x2 : Int32) (x3 : Int32) (x4 : Int64) (x6 : Int64) (fO : (Nat → Int64)) (fU : (Nat → Int64)) (fW : (Nat → Int32)) (fG : (Nat → Int32)) (fL : (Nat → Int32)) (len : Int32) (size : Int32), wp_X_reckon_24 post x1 x2 x3 x4 x6 fO fU fW fG fL len size  → wp_X_reckon_24 post' x1 x2 x3 x4 x6 fO fU fW fG fL len size  := by
  intro x1 x2 x3 x4 x6 fO fU fW fG fL len size h
  rw [wp_X_reckon_24] at h ⊢
  exact (mo_X_reckon_29 hpost _ _ _ _ _ _ _ _ _ _ _ _ _ h)

theorem mo_X_reckon {post post' : (Nat → Int64) → (Nat → Int64) → (Nat → Int32) → (Nat → Int32) → (Nat → Int32) → Int32 → Int32 → Prop} (hpost : ∀ u0 u1 u2 u3 u4 u5 u6, post u0 u1 u2 u3 u4 u5 u6 → post' u0 u1 u2 u3 u4 u5 u6) : ∀ (a1 : Int32) (a2 : Int32) (a3 : Int32) (fO : (Nat → Int64)) (fU : (Nat → Int64)) (fW : (Nat → Int32)) (fG : (Nat → Int32)) (fL : (Nat → Int32)) (len : Int32) (size : Int32), wp_X_reckon post a1 a2 a3 fO fU fW fG fL len size  → wp_X_reckon post' a1 a2 a3 fO fU fW fG fL len size  := by
  intro a1 a2 a3 fO fU fW fG fL len size h
  rw [wp_X_reckon] at h ⊢
  exact (mo_X_number (fun r2 fO2 fU2 fW2 fG2 fL2 len2 size2 g1 => (mo_X_number (fun r9 fO9 fU9 fW9 fG9 fL9 len9 size9 g2 => ⟨(fun g4 => (mo_X_reckon_24 hpost _ _ _ _ _ _ _ _ _ _ _ _ ((g2).1 g4))), (fun g5 => ⟨(fun g7 => (mo_X_reckon_29 hpost _ _ _ _ _ _ _ _ _ _ _ _ _ (((g2).2 g5).1 g7))), (fun g8 => (mo_X_reckon_24 hpost _ _ _ _ _ _ _ _ _ _ _ _ (((g2).2 g5).2 g8)))⟩)⟩) _ _ _ _ _ _ _ _ g1)) _ _ _ _ _ _ _ _ h)

theorem mo_X_combine_137 {post post' : (Nat → Int64) → (Nat → Int64) → (Nat → Int32) → (Nat → Int32) → (Nat → Int32) → Int32 → Int32 → Prop} (hpost : ∀ u0 u1 u2 u3 u4 u5 u6, post u0 u1 u2 u3 u4 u5 u6 → post' u0 u1 u2 u3 u4 u5 u6) : ∀ (fO : (Nat → Int64)) (fU : (Nat → Int64)) (fW : (Nat → Int32)) (fG : (Nat → Int32)) (fL : (Nat → Int32)) (len : Int32) (size : Int32), wp_X_combine_137 post fO fU fW fG fL len size  → wp_X_combine_137 post' fO fU fW fG fL len size  := by
  intro fO fU fW fG fL len size h
  rw [wp_X_combine_137] at h ⊢
  exact (hpost _ _ _ _ _ _ _ h)

theorem mo_X_combine {post post' : (Nat → Int64) → (Nat → Int64) → (Nat → Int32) → (Nat → Int32) → (Nat → Int32) → Int32 → Int32 → Prop} (hpost : ∀ u0 u1 u2 u3 u4 u5 u6, post u0 u1 u2 u3 u4 u5 u6 → post' u0 u1 u2 u3 u4 u5 u6) : ∀ (a1 : Int32) (a2 : Int32) (a3 : Int32) (fO : (Nat → Int64)) (fU : (Nat → Int64)) (fW : (Nat → Int32)) (fG : (Nat → Int32)) (fL : (Nat → Int32)) (len : Int32) (size : Int32), wp_X_combine post a1 a2 a3 fO fU fW fG fL len size  → wp_X_combine post' a1 a2 a3 fO fU fW fG fL len size  := by
  intro a1 a2 a3 fO fU fW fG fL len size h
  rw [wp_X_combine] at h ⊢
  exact (mo_X_sureOnes (fun r2 fO2 fU2 fW2 fG2 fL2 len2 size2 g1 => (mo_X_sureOnes (fun r9 fO9 fU9 fW9 fG9 fL9 len9 size9 g2 => (mo_X_sureZeros (fun r16 fO16 fU16 fW16 fG16 fL16 len16 size16 g3 => (mo_X_sureZeros (fun r23 fO23 fU23 fW23 fG23 fL23 len23 size23 g4 => (fun v39 g5 => (fun v52 g6 => ⟨(fun g8 => (mo_X_setSure (fun fO134 fU134 fW134 fG134 fL134 len134 size134 g9 => (mo_X_combine_137 hpost _ _ _ _ _ _ _ g9)) _ _ _ _ _ _ _ _ _ _ (((g4 v39 g5) v52 g6).1 g8))), ⟨(fun g11 => (mo_X_setSure (fun fO92 fU92 fW92 fG92 fL92 len92 size92 g12 => (mo_X_combine_137 hpost _ _ _ _ _ _ _ g12)) _ _ _ _ _ _ _ _ _ _ (((g4 v39 g5) v52 g6).2.1 g11))), ⟨(fun g14 => (mo_X_setSure (fun fO110 fU110 fW110 fG110 fL110 len110 size110 g15 => (mo_X_combine_137 hpost _ _ _ _ _ _ _ g15)) _ _ _ _ _ _ _ _ _ _ (((g4 v39 g5) v52 g6).2.2.1 g14))), (fun g16 => (mo_X_setSure (fun fO122 fU122 fW122 fG122 fL122 len122 size122 g17 => (mo_X_combine_137 hpost _ _ _ _ _ _ _ g17)) _ _ _ _ _ _ _ _ _ _ (((g4 v39 g5) v52 g6).2.2.2 g16)))⟩⟩⟩))) _ _ _ _ _ _ _ _ g3)) _ _ _ _ _ _ _ _ g2)) _ _ _ _ _ _ _ _ g1)) _ _ _ _ _ _ _ _ h)

theorem mo_X_equal_53 {post post' : Int32 → (Nat → Int64) → (Nat → Int64) → (Nat → Int32) → (Nat → Int32) → (Nat → Int32) → Int32 → Int32 → Prop} (hpost : ∀ u0 u1 u2 u3 u4 u5 u6 u7, post u0 u1 u2 u3 u4 u5 u6 u7 → post' u0 u1 u2 u3 u4 u5 u6 u7) : ∀ (t0 : Int32) (fO : (Nat → Int64)) (fU : (Nat → Int64)) (fW : (Nat → Int32)) (fG : (Nat → Int32)) (fL : (Nat → Int32)) (len : Int32) (size : Int32), wp_X_equal_53 post t0 fO fU fW fG fL len size  → wp_X_equal_53 post' t0 fO fU fW fG fL len size  := by
  intro t0 fO fU fW fG fL len size h
  rw [wp_X_equal_53] at h ⊢
  exact (hpost _ _ _ _ _ _ _ _ h)

theorem mo_X_equal {post post' : Int32 → (Nat → Int64) → (Nat → Int64) → (Nat → Int32) → (Nat → Int32) → (Nat → Int32) → Int32 → Int32 → Prop} (hpost : ∀ u0 u1 u2 u3 u4 u5 u6 u7, post u0 u1 u2 u3 u4 u5 u6 u7 → post' u0 u1 u2 u3 u4 u5 u6 u7) : ∀ (a1 : Int32) (a2 : Int32) (fO : (Nat → Int64)) (fU : (Nat → Int64)) (fW : (Nat → Int32)) (fG : (Nat → Int32)) (fL : (Nat → Int32)) (len : Int32) (size : Int32), wp_X_equal post a1 a2 fO fU fW fG fL len size  → wp_X_equal post' a1 a2 fO fU fW fG fL len size  := by
  intro a1 a2 fO fU fW fG fL len size h
  rw [wp_X_equal] at h ⊢
  exact (mo_X_sureOnes (fun r2 fO2 fU2 fW2 fG2 fL2 len2 size2 g1 => (mo_X_sureZeros (fun r7 fO7 fU7 fW7 fG7 fL7 len7 size7 g2 => (mo_X_sureZeros (fun r13 fO13 fU13 fW13 fG13 fL13 len13 size13 g3 => (mo_X_sureOnes (fun r18 fO18 fU18 fW18 fG18 fL18 len18 size18 g4 => ⟨(fun g6 => ⟨((g4).1 g6).1, ⟨((g4).1 g6).2.1, ⟨(fun g10 => (mo_X_equal_53 hpost _ _ _ _ _ _ _ _ (((g4).1 g6).2.2.1 g10))), (fun g11 => (mo_X_equal_53 hpost _ _ _ _ _ _ _ _ (((g4).1 g6).2.2.2 g11)))⟩⟩⟩), (fun g12 => (hpost _ _ _ _ _ _ _ _ ((g4).2 g12)))⟩) _ _ _ _ _ _ _ _ g3)) _ _ _ _ _ _ _ _ g2)) _ _ _ _ _ _ _ _ g1)) _ _ _ _ _ _ _ _ h)

theorem mo_X_identical_37 {post post' : Int32 → (Nat → Int64) → (Nat → Int64) → (Nat → Int32) → (Nat → Int32) → (Nat → Int32) → Int32 → Int32 → Prop} (hpost : ∀ u0 u1 u2 u3 u4 u5 u6 u7, post u0 u1 u2 u3 u4 u5 u6 u7 → post' u0 u1 u2 u3 u4 u5 u6 u7) : ∀ (t0 : Int32) (fO : (Nat → Int64)) (fU : (Nat → Int64)) (fW : (Nat → Int32)) (fG : (Nat → Int32)) (fL : (Nat → Int32)) (len : Int32) (size : Int32), wp_X_identical_37 post t0 fO fU fW fG fL len size  → wp_X_identical_37 post' t0 fO fU fW fG fL len size  := by
  intro t0 fO fU fW fG fL len size h
  rw [wp_X_identical_37] at h ⊢
  exact (hpost _ _ _ _ _ _ _ _ h)

theorem mo_X_identical_36 {post post' : Int32 → (Nat → Int64) → (Nat → Int64) → (Nat → Int32) → (Nat → Int32) → (Nat → Int32) → Int32 → Int32 → Prop} (hpost : ∀ u0 u1 u2 u3 u4 u5 u6 u7, post u0 u1 u2 u3 u4 u5 u6 u7 → post' u0 u1 u2 u3 u4 u5 u6 u7) : ∀ (fO : (Nat → Int64)) (fU : (Nat → Int64)) (fW : (Nat → Int32)) (fG : (Nat → Int32)) (fL : (Nat → Int32)) (len : Int32) (size : Int32), wp_X_identical_36 post fO fU fW fG fL len size  → wp_X_identical_36 post' fO fU fW fG fL len size  := by
  intro fO fU fW fG fL len size h
  rw [wp_X_identical_36] at h ⊢
  exact (mo_X_identical_37 hpost _ _ _ _ _ _ _ _ h)

theorem mo_X_identical {post post' : Int32 → (Nat → Int64) → (Nat → Int64) → (Nat → Int32) → (Nat → Int32) → (Nat → Int32) → Int32 → Int32 → Prop} (hpost : ∀ u0 u1 u2 u3 u4 u5 u6 u7, post u0 u1 u2 u3 u4 u5 u6 u7 → post' u0 u1 u2 u3 u4 u5 u6 u7) : ∀ (a1 : Int32) (a2 : Int32) (fO : (Nat → Int64)) (fU : (Nat → Int64)) (fW : (Nat → Int32)) (fG : (Nat → Int32)) (fL : (Nat → Int32)) (len : Int32) (size : Int32), wp_X_identical post a1 a2 fO fU fW fG fL len size  → wp_X_identical post' a1 a2 fO fU fW fG fL len size  := by
  intro a1 a2 fO fU fW fG fL len size h
  rw [wp_X_identical] at h ⊢
  exact ⟨(h).1, ⟨(h).2.1, ⟨(fun g4 => (mo_X_identical_36 hpost _ _ _ _ _ _ _ ((h).2.2.1 g4))), (fun g5 => ⟨((h).2.2.2 g5).1, ⟨((h).2.2.2 g5).2.1, ⟨(fun g9 => (mo_X_identical_36 hpost _ _ _ _ _ _ _ (((h).2.2.2 g5).2.2.1 g9))), (fun g10 => (mo_X_identical_37 hpost _ _ _ _ _ _ _ _ (((h).2.2.2 g5).2.2.2 g10)))⟩⟩⟩)⟩⟩⟩

theorem mo_X_less_76 {post post' : Int32 → (Nat → Int64) → (Nat → Int64) → (Nat → Int32) → (Nat → Int32) → (Nat → Int32) → Int32 → Int32 → Prop} (hpost : ∀ u0 u1 u2 u3 u4 u5 u6 u7, post u0 u1 u2 u3 u4 u5 u6 u7 → post' u0 u1 u2 u3 u4 u5 u6 u7) : ∀ (t0 : Int32) (fO : (Nat → Int64)) (fU : (Nat → Int64)) (fW : (Nat → Int32)) (fG : (Nat → Int32)) (fL : (Nat → Int32)) (len : Int32) (size : Int32), wp_X_less_76 post t0 fO fU fW fG fL len size  → wp_X_less_76 post' t0 fO fU fW fG fL len size  := by
  intro t0 fO fU fW fG fL len size h
  rw [wp_X_less_76] at h ⊢
  exact (hpost _ _ _ _ _ _ _ _ h)

theorem mo_X_less_66 {post post' : Int32 → (Nat → Int64) → (Nat → Int64) → (Nat → Int32) → (Nat → Int32) → (Nat → Int32) → Int32 → Int32 → Prop} (hpost : ∀ u0 u1 u2 u3 u4 u5 u6 u7, post u0 u1 u2 u3 u4 u5 u6 u7 → post' u0 u1 u2 u3 u4 u5 u6 u7) : ∀ (t0 : Int32) (fO : (Nat → Int64)) (fU : (Nat → Int64)) (fW : (Nat → Int32)) (fG : (Nat → Int32)) (fL : (Nat → Int32)) (len : Int32) (size : Int32), wp_X_less_66 post t0 fO fU fW fG fL len size  → wp_X_less_66 post' t0 fO fU fW fG fL len size  := by
  intro t0 fO fU fW fG fL len size h
  rw [wp_X_less_66] at h ⊢
  exact ⟨(fun g2 => (mo_X_less_76 hpost _ _ _ _ _ _ _ _ ((h).1 g2))), (fun g3 => (mo_X_less_76 hpost _ _ _ _ _ _ _ _ ((h).2 g3)))⟩

theorem mo_X_less {post post' : Int32 → (Nat → Int64) → (Nat → Int64) → (Nat → Int32) → (Nat → Int32) → (Nat → Int32) → Int32 → Int32 → Prop} (hpost : ∀ u0 u1 u2 u3 u4 u5 u6 u7, post u0 u1 u2 u3 u4 u5 u6 u7 → post' u0 u1 u2 u3 u4 u5 u6 u7) : ∀ (a1 : Int32) (a2 : Int32) (fO : (Nat → Int64)) (fU : (Nat → Int64)) (fW : (Nat → Int32)) (fG : (Nat → Int32)) (fL : (Nat → Int32)) (len : Int32) (size : Int32), wp_X_less post a1 a2 fO fU fW fG fL len size  → wp_X_less post' a1 a2 fO fU fW fG fL len size  := by
  intro a1 a2 fO fU fW fG fL len size h
  rw [wp_X_less] at h ⊢
  exact ⟨(h).1, ⟨(h).2.1, ⟨(fun g4 => ⟨((h).2.2.1 g4).1, ⟨(fun g7 => ⟨(((h).2.2.1 g4).2.1 g7).1, ⟨(((h).2.2.1 g4).2.1 g7).2.1, (mo_B_below (fun r63 g10 => (mo_X_less_66 hpost _ _ _ _ _ _ _ _ g10)) _ _ (((h).2.2.1 g4).2.1 g7).2.2)⟩⟩), (fun g11 => (mo_X_number (fun r31 fO31 fU31 fW31 fG31 fL31 len31 size31 g12 => (mo_X_number (fun r36 fO36 fU36 fW36 fG36 fL36 len36 size36 g13 => ⟨(fun g15 => (mo_X_less_66 hpost _ _ _ _ _ _ _ _ ((g13).1 g15))), (fun g16 => (mo_X_less_66 hpost _ _ _ _ _ _ _ _ ((g13).2 g16)))⟩) _ _ _ _ _ _ _ _ g12)) _ _ _ _ _ _ _ _ (((h).2.2.1 g4).2.2 g11)))⟩⟩), (fun g17 => (hpost _ _ _ _ _ _ _ _ ((h).2.2.2 g17)))⟩⟩⟩

theorem mo_X_allOnes_28 {post post' : Int32 → (Nat → Int64) → (Nat → Int64) → (Nat → Int32) → (Nat → Int32) → (Nat → Int32) → Int32 → Int32 → Prop} (hpost : ∀ u0 u1 u2 u3 u4 u5 u6 u7, post u0 u1 u2 u3 u4 u5 u6 u7 → post' u0 u1 u2 u3 u4 u5 u6 u7) : ∀ (t0 : Int32) (fO : (Nat → Int64)) (fU : (Nat → Int64)) (fW : (Nat → Int32)) (fG : (Nat → Int32)) (fL : (Nat → Int32)) (len : Int32) (size : Int32), wp_X_allOnes_28 post t0 fO fU fW fG fL len size  → wp_X_allOnes_28 post' t0 fO fU fW fG fL len size  := by
  intro t0 fO fU fW fG fL len size h
  rw [wp_X_allOnes_28] at h ⊢
  exact (hpost _ _ _ _ _ _ _ _ h)

theorem mo_X_allOnes {post post' : Int32 → (Nat → Int64) → (Nat → Int64) → (Nat → Int32) → (Nat → Int32) → (Nat → Int32) → Int32 → Int32 → Prop} (hpost : ∀ u0 u1 u2 u3 u4 u5 u6 u7, post u0 u1 u2 u3 u4 u5 u6 u7 → post' u0 u1 u2 u3 u4 u5 u6 u7) : ∀ (a1 : Int32) (fO : (Nat → Int64)) (fU : (Nat → Int64)) (fW : (Nat → Int32)) (fG : (Nat → Int32)) (fL : (Nat → Int32)) (len : Int32) (size : Int32), wp_X_allOnes post a1 fO fU fW fG fL len size  → wp_X_allOnes post' a1 fO fU fW fG fL len size  := by
  intro a1 fO fU fW fG fL len size h
  rw [wp_X_allOnes] at h ⊢
  exact (mo_X_sureZeros (fun r2 fO2 fU2 fW2 fG2 fL2 len2 size2 g1 => ⟨(fun g3 => ⟨((g1).1 g3).1, ⟨(fun g6 => (mo_X_allOnes_28 hpost _ _ _ _ _ _ _ _ (((g1).1 g3).2.1 g6))), (fun g7 => (mo_X_allOnes_28 hpost _ _ _ _ _ _ _ _ (((g1).1 g3).2.2 g7)))⟩⟩), (fun g8 => (hpost _ _ _ _ _ _ _ _ ((g1).2 g8)))⟩) _ _ _ _ _ _ _ _ h)

theorem mo_X_anyOne_28 {post post' : Int32 → (Nat → Int64) → (Nat → Int64) → (Nat → Int32) → (Nat → Int32) → (Nat → Int32) → Int32 → Int32 → Prop} (hpost : ∀ u0 u1 u2 u3 u4 u5 u6 u7, post u0 u1 u2 u3 u4 u5 u6 u7 → post' u0 u1 u2 u3 u4 u5 u6 u7) : ∀ (t0 : Int32) (fO : (Nat → Int64)) (fU : (Nat → Int64)) (fW : (Nat → Int32)) (fG : (Nat → Int32)) (fL : (Nat → Int32)) (len : Int32) (size : Int32), wp_X_anyOne_28 post t0 fO fU fW fG fL len size  → wp_X_anyOne_28 post' t0 fO fU fW fG fL len size  := by
  intro t0 fO fU fW fG fL len size h
  rw [wp_X_anyOne_28] at h ⊢
  exact (hpost _ _ _ _ _ _ _ _ h)

theorem mo_X_anyOne {post post' : Int32 → (Nat → Int64) → (Nat → Int64) → (Nat → Int32) → (Nat → Int32) → (Nat → Int32) → Int32 → Int32 → Prop} (hpost : ∀ u0 u1 u2 u3 u4 u5 u6 u7, post u0 u1 u2 u3 u4 u5 u6 u7 → post' u0 u1 u2 u3 u4 u5 u6 u7) : ∀ (a1 : Int32) (fO : (Nat → Int64)) (fU : (Nat → Int64)) (fW : (Nat → Int32)) (fG : (Nat → Int32)) (fL : (Nat → Int32)) (len : Int32) (size : Int32), wp_X_anyOne post a1 fO fU fW fG fL len size  → wp_X_anyOne post' a1 fO fU fW fG fL len size  := by
  intro a1 fO fU fW fG fL len size h
  rw [wp_X_anyOne] at h ⊢
  exact (mo_X_sureOnes (fun r2 fO2 fU2 fW2 fG2 fL2 len2 size2 g1 => ⟨(fun g3 => ⟨((g1).1 g3).1, ⟨(fun g6 => (mo_X_anyOne_28 hpost _ _ _ _ _ _ _ _ (((g1).1 g3).2.1 g6))), (fun g7 => (mo_X_anyOne_28 hpost _ _ _ _ _ _ _ _ (((g1).1 g3).2.2 g7)))⟩⟩), (fun g8 => (hpost _ _ _ _ _ _ _ _ ((g1).2 g8)))⟩) _ _ _ _ _ _ _ _ h)

theorem mo_X_oddOnes_33 {post post' : Int32 → (Nat → Int64) → (Nat → Int64) → (Nat → Int32) → (Nat → Int32) → (Nat → Int32) → Int32 → Int32 → Prop} (hpost : ∀ u0 u1 u2 u3 u4 u5 u6 u7, post u0 u1 u2 u3 u4 u5 u6 u7 → post' u0 u1 u2 u3 u4 u5 u6 u7) : ∀ (t0 : Int32) (fO : (Nat → Int64)) (fU : (Nat → Int64)) (fW : (Nat → Int32)) (fG : (Nat → Int32)) (fL : (Nat → Int32)) (len : Int32) (size : Int32), wp_X_oddOnes_33 post t0 fO fU fW fG fL len size  → wp_X_oddOnes_33 post' t0 fO fU fW fG fL len size  := by
  intro t0 fO fU fW fG fL len size h
  rw [wp_X_oddOnes_33] at h ⊢
  exact (hpost _ _ _ _ _ _ _ _ h)

theorem mo_X_oddOnes {post post' : Int32 → (Nat → Int64) → (Nat → Int64) → (Nat → Int32) → (Nat → Int32) → (Nat → Int32) → Int32 → Int32 → Prop} (hpost : ∀ u0 u1 u2 u3 u4 u5 u6 u7, post u0 u1 u2 u3 u4 u5 u6 u7 → post' u0 u1 u2 u3 u4 u5 u6 u7) : ∀ (a1 : Int32) (fO : (Nat → Int64)) (fU : (Nat → Int64)) (fW : (Nat → Int32)) (fG : (Nat → Int32)) (fL : (Nat → Int32)) (len : Int32) (size : Int32), wp_X_oddOnes post a1 fO fU fW fG fL len size  → wp_X_oddOnes post' a1 fO fU fW fG fL len size  := by
  intro a1 fO fU fW fG fL len size h
  rw [wp_X_oddOnes] at h ⊢
  exact ⟨(h).1, ⟨(fun g3 => ⟨((h).2.1 g3).1, (mo_J_bitCount (fun r19 g5 => ⟨(g5).1, ⟨(fun g8 => (mo_X_oddOnes_33 hpost _ _ _ _ _ _ _ _ ((g5).2.1 g8))), (fun g9 => (mo_X_oddOnes_33 hpost _ _ _ _ _ _ _ _ ((g5).2.2 g9)))⟩⟩) _ ((h).2.1 g3).2)⟩), (fun g10 => (hpost _ _ _ _ _ _ _ _ ((h).2.2 g10)))⟩⟩

theorem mo_X_compared {post post' : Int32 → (Nat → Int64) → (Nat → Int64) → (Nat → Int32) → (Nat → Int32) → (Nat → Int32) → Int32 → Int32 → Prop} (hpost : ∀ u0 u1 u2 u3 u4 u5 u6 u7, post u0 u1 u2 u3 u4 u5 u6 u7 → post' u0 u1 u2 u3 u4 u5 u6 u7) : ∀ (a1 : Int32) (a2 : Int32) (a3 : Int32) (fO : (Nat → Int64)) (fU : (Nat → Int64)) (fW : (Nat → Int32)) (fG : (Nat → Int32)) (fL : (Nat → Int32)) (len : Int32) (size : Int32), wp_X_compared post a1 a2 a3 fO fU fW fG fL len size  → wp_X_compared post' a1 a2 a3 fO fU fW fG fL len size  := by
  intro a1 a2 a3 fO fU fW fG fL len size h
  rw [wp_X_compared] at h ⊢
  exact ⟨(fun g2 => (mo_X_anyOne (fun r136 fO136 fU136 fW136 fG136 fL136 len136 size136 g3 => (mo_X_opposite (fun r139 g4 => (mo_X_anyOne (fun r144 fO144 fU144 fW144 fG144 fL144 len144 size144 g5 => (mo_X_opposite (fun r147 g6 => (mo_X_bothTrue (fun r150 g7 => (mo_X_opposite (fun r153 g8 => (hpost _ _ _ _ _ _ _ _ g8)) _ g7)) _ _ g6)) _ g5)) _ _ _ _ _ _ _ _ g4)) _ g3)) _ _ _ _ _ _ _ _ ((h).1 g2))), ⟨(fun g10 => (mo_X_equal (fun r55 fO55 fU55 fW55 fG55 fL55 len55 size55 g11 => (hpost _ _ _ _ _ _ _ _ g11)) _ _ _ _ _ _ _ _ _ ((h).2.1 g10))), ⟨(fun g13 => (mo_X_equal (fun r62 fO62 fU62 fW62 fG62 fL62 len62 size62 g14 => (mo_X_opposite (fun r65 g15 => (hpost _ _ _ _ _ _ _ _ g15)) _ g14)) _ _ _ _ _ _ _ _ _ ((h).2.2.1 g13))), ⟨(fun g17 => (mo_X_identical (fun r72 fO72 fU72 fW72 fG72 fL72 len72 size72 g18 => (hpost _ _ _ _ _ _ _ _ g18)) _ _ _ _ _ _ _ _ _ ((h).2.2.2.1 g17))), ⟨(fun g20 => (mo_X_identical (fun r79 fO79 fU79 fW79 fG79 fL79 len79 size79 g21 => (mo_X_opposite (fun r82 g22 => (hpost _ _ _ _ _ _ _ _ g22)) _ g21)) _ _ _ _ _ _ _ _ _ ((h).2.2.2.2.1 g20))), ⟨(fun g24 => (mo_X_less (fun r89 fO89 fU89 fW89 fG89 fL89 len89 size89 g25 => (hpost _ _ _ _ _ _ _ _ g25)) _ _ _ _ _ _ _ _ _ ((h).2.2.2.2.2.1 g24))), ⟨(fun g27 => (mo_X_less (fun r96 fO96 fU96 fW96 fG96 fL96 len96 size96 g28 => (mo_X_opposite (fun r99 g29 => (hpost _ _ _ _ _ _ _ _ g29)) _ g28)) _ _ _ _ _ _ _ _ _ ((h).2.2.2.2.2.2.1 g27))), ⟨(fun g31 => (mo_X_less (fun r106 fO106 fU106 fW106 fG106 fL106 len106 size106 g32 => (hpost _ _ _ _ _ _ _ _ g32)) _ _ _ _ _ _ _ _ _ ((h).2.2.2.2.2.2.2.1 g31))), ⟨(fun g34 => (mo_X_less (fun r113 fO113 fU113 fW113 fG113 fL113 len113 size113 g35 => (mo_X_opposite (fun r116 g36 => (hpost _ _ _ _ _ _ _ _ g36)) _ g35)) _ _ _ _ _ _ _ _ _ ((h).2.2.2.2.2.2.2.2.1 g34))), (fun g37 => (mo_X_anyOne (fun r122 fO122 fU122 fW122 fG122 fL122 len122 size122 g38 => (mo_X_anyOne (fun r127 fO127 fU127 fW127 fG127 fL127 len127 size127 g39 => (mo_X_bothTrue (fun r130 g40 => (hpost _ _ _ _ _ _ _ _ g40)) _ _ g39)) _ _ _ _ _ _ _ _ g38)) _ _ _ _ _ _ _ _ ((h).2.2.2.2.2.2.2.2.2 g37)))⟩⟩⟩⟩⟩⟩⟩⟩⟩

theorem mo_X_reduced_61 {post post' : Int32 → (Nat → Int64) → (Nat → Int64) → (Nat → Int32) → (Nat → Int32) → (Nat → Int32) → Int32 → Int32 → Prop} (hpost : ∀ u0 u1 u2 u3 u4 u5 u6 u7, post u0 u1 u2 u3 u4 u5 u6 u7 → post' u0 u1 u2 u3 u4 u5 u6 u7) : ∀ (x2 : Int32) (fO : (Nat → Int64)) (fU : (Nat → Int64)) (fW : (Nat → Int32)) (fG : (Nat → Int32)) (fL : (Nat → Int32)) (len : Int32) (size : Int32), wp_X_reduced_61 post x2 fO fU fW fG fL len size  → wp_X_reduced_61 post' x2 fO fU fW fG fL len size  := by
  intro x2 fO fU fW fG fL len size h
  rw [wp_X_reduced_61] at h ⊢
  exact (mo_X_anyOne (fun r63 fO63 fU63 fW63 fG63 fL63 len63 size63 g1 => (mo_X_opposite (fun r66 g2 => (hpost _ _ _ _ _ _ _ _ g2)) _ g1)) _ _ _ _ _ _ _ _ h)

theorem mo_X_reduced {post post' : Int32 → (Nat → Int64) → (Nat → Int64) → (Nat → Int32) → (Nat → Int32) → (Nat → Int32) → Int32 → Int32 → Prop} (hpost : ∀ u0 u1 u2 u3 u4 u5 u6 u7, post u0 u1 u2 u3 u4 u5 u6 u7 → post' u0 u1 u2 u3 u4 u5 u6 u7) : ∀ (a1 : Int32) (a2 : Int32) (fO : (Nat → Int64)) (fU : (Nat → Int64)) (fW : (Nat → Int32)) (fG : (Nat → Int32)) (fL : (Nat → Int32)) (len : Int32) (size : Int32), wp_X_reduced post a1 a2 fO fU fW fG fL len size  → wp_X_reduced post' a1 a2 fO fU fW fG fL len size  := by
  intro a1 a2 fO fU fW fG fL len size h
  rw [wp_X_reduced] at h ⊢
  exact ⟨(fun g2 => (mo_X_oddOnes (fun r78 fO78 fU78 fW78 fG78 fL78 len78 size78 g3 => (mo_X_opposite (fun r81 g4 => (hpost _ _ _ _ _ _ _ _ g4)) _ g3)) _ _ _ _ _ _ _ _ ((h).1 g2))), ⟨(fun g6 => (mo_X_reduced_61 hpost _ _ _ _ _ _ _ _ ((h).2.1 g6))), ⟨(fun g8 => (mo_X_allOnes (fun r42 fO42 fU42 fW42 fG42 fL42 len42 size42 g9 => (hpost _ _ _ _ _ _ _ _ g9)) _ _ _ _ _ _ _ _ ((h).2.2.1 g8))), ⟨(fun g11 => (mo_X_allOnes (fun r48 fO48 fU48 fW48 fG48 fL48 len48 size48 g12 => (mo_X_opposite (fun r51 g13 => (hpost _ _ _ _ _ _ _ _ g13)) _ g12)) _ _ _ _ _ _ _ _ ((h).2.2.2.1 g11))), ⟨(fun g15 => (mo_X_anyOne (fun r57 fO57 fU57 fW57 fG57 fL57 len57 size57 g16 => (hpost _ _ _ _ _ _ _ _ g16)) _ _ _ _ _ _ _ _ ((h).2.2.2.2.1 g15))), ⟨(fun g18 => (mo_X_reduced_61 hpost _ _ _ _ _ _ _ _ ((h).2.2.2.2.2.1 g18))), (fun g19 => (mo_X_oddOnes (fun r72 fO72 fU72 fW72 fG72 fL72 len72 size72 g20 => (hpost _ _ _ _ _ _ _ _ g20)) _ _ _ _ _ _ _ _ ((h).2.2.2.2.2.2 g19)))⟩⟩⟩⟩⟩⟩

theorem mo_X_negate_32 {post post' : (Nat → Int64) → (Nat → Int64) → (Nat → Int32) → (Nat → Int32) → (Nat → Int32) → Int32 → Int32 → Prop} (hpost : ∀ u0 u1 u2 u3 u4 u5 u6, post u0 u1 u2 u3 u4 u5 u6 → post' u0 u1 u2 u3 u4 u5 u6) : ∀ (fO : (Nat → Int64)) (fU : (Nat → Int64)) (fW : (Nat → Int32)) (fG : (Nat → Int32)) (fL : (Nat → Int32)) (len : Int32) (size : Int32), wp_X_negate_32 post fO fU fW fG fL len size  → wp_X_negate_32 post' fO fU fW fG fL len size  := by
  intro fO fU fW fG fL len size h
  rw [wp_X_negate_32] at h ⊢
  exact (hpost _ _ _ _ _ _ _ h)

theorem mo_X_negate {post post' : (Nat → Int64) → (Nat → Int64) → (Nat → Int32) → (Nat → Int32) → (Nat → Int32) → Int32 → Int32 → Prop} (hpost : ∀ u0 u1 u2 u3 u4 u5 u6, post u0 u1 u2 u3 u4 u5 u6 → post' u0 u1 u2 u3 u4 u5 u6) : ∀ (a1 : Int32) (fO : (Nat → Int64)) (fU : (Nat → Int64)) (fW : (Nat → Int32)) (fG : (Nat → Int32)) (fL : (Nat → Int32)) (len : Int32) (size : Int32), wp_X_negate post a1 fO fU fW fG fL len size  → wp_X_negate post' a1 fO fU fW fG fL len size  := by
  intro a1 fO fU fW fG fL len size h
  rw [wp_X_negate] at h ⊢
  exact ⟨(h).1, ⟨(fun g3 => ⟨((h).2.1 g3).1, (mo_X_setBits (fun fO29 fU29 fW29 fG29 fL29 len29 size29 g5 => (mo_X_negate_32 hpost _ _ _ _ _ _ _ g5)) _ _ _ _ _ _ _ _ _ _ ((h).2.1 g3).2)⟩), (fun g6 => (mo_X_fillWithX (fun fO13 fU13 fW13 fG13 fL13 len13 size13 g7 => (mo_X_negate_32 hpost _ _ _ _ _ _ _ g7)) _ _ _ _ _ _ _ _ ((h).2.2 g6)))⟩⟩

theorem mo_X_moveLeft_43 {post post' : (Nat → Int64) → (Nat → Int64) → (Nat → Int32) → (Nat → Int32) → (Nat → Int32) → Int32 → Int32 → Prop} (hpost : ∀ u0 u1 u2 u3 u4 u5 u6, post u0 u1 u2 u3 u4 u5 u6 → post' u0 u1 u2 u3 u4 u5 u6) : ∀ (fO : (Nat → Int64)) (fU : (Nat → Int64)) (fW : (Nat → Int32)) (fG : (Nat → Int32)) (fL : (Nat → Int32)) (len : Int32) (size : Int32), wp_X_moveLeft_43 post fO fU fW fG fL len size  → wp_X_moveLeft_43 post' fO fU fW fG fL len size  := by
  intro fO fU fW fG fL len size h
  rw [wp_X_moveLeft_43] at h ⊢
  exact (hpost _ _ _ _ _ _ _ h)

theorem mo_X_moveLeft {post post' : (Nat → Int64) → (Nat → Int64) → (Nat → Int32) → (Nat → Int32) → (Nat → Int32) → Int32 → Int32 → Prop} (hpost : ∀ u0 u1 u2 u3 u4 u5 u6, post u0 u1 u2 u3 u4 u5 u6 → post' u0 u1 u2 u3 u4 u5 u6) : ∀ (a1 : Int32) (a2 : Int64) (fO : (Nat → Int64)) (fU : (Nat → Int64)) (fW : (Nat → Int32)) (fG : (Nat → Int32)) (fL : (Nat → Int32)) (len : Int32) (size : Int32), wp_X_moveLeft post a1 a2 fO fU fW fG fL len size  → wp_X_moveLeft post' a1 a2 fO fU fW fG fL len size  := by
  intro a1 a2 fO fU fW fG fL len size h
  rw [wp_X_moveLeft] at h ⊢
  exact (mo_B_below (fun r4 g1 => ⟨(fun g3 => ⟨((g1).1 g3).1, ⟨((g1).1 g3).2.1, (mo_X_setBits (fun fO40 fU40 fW40 fG40 fL40 len40 size40 g6 => (mo_X_moveLeft_43 hpost _ _ _ _ _ _ _ g6)) _ _ _ _ _ _ _ _ _ _ ((g1).1 g3).2.2)⟩⟩), (fun g7 => (mo_X_setBits (fun fO14 fU14 fW14 fG14 fL14 len14 size14 g8 => (mo_X_moveLeft_43 hpost _ _ _ _ _ _ _ g8)) _ _ _ _ _ _ _ _ _ _ ((g1).2 g7)))⟩) _ _ h)

theorem mo_X_moveRight_111 {post post' : (Nat → Int64) → (Nat → Int64) → (Nat → Int32) → (Nat → Int32) → (Nat → Int32) → Int32 → Int32 → Prop} (hpost : ∀ u0 u1 u2 u3 u4 u5 u6, post u0 u1 u2 u3 u4 u5 u6 → post' u0 u1 u2 u3 u4 u5 u6) : ∀ (fO : (Nat → Int64)) (fU : (Nat → Int64)) (fW : (Nat → Int32)) (fG : (Nat → Int32)) (fL : (Nat → Int32)) (len : Int32) (size : Int32), wp_X_moveRight_111 post fO fU fW fG fL len size  → wp_X_moveRight_111 post' fO fU fW fG fL len size  := by
  intro fO fU fW fG fL len size h
  rw [wp_X_moveRight_111] at h ⊢
  exact (hpost _ _ _ _ _ _ _ h)

theorem mo_X_moveRight_22 {post post' : (Nat → Int64) → (Nat → Int64) → (Nat → Int32) → (Nat → Int32) → (Nat → Int32) → Int32 → Int32 → Prop} (hpost : ∀ u0 u1 u2 u3 u4 u5 u6, post u0 u1 u2 u3 u4 u5 u6 → post' u0 u1 u2 u3 u4 u5 u6) : ∀ (x1 : Int32) (t0 : Int32) (fO : (Nat → Int64)) (fU : (Nat → Int64)) (fW : (Nat → Int32)) (fG : (Nat → Int32)) (fL : (Nat → Int32)) (len : Int32) (size : Int32), wp_X_moveRight_22 post x1 t0 fO fU fW fG fL len size  → wp_X_moveRight_22 post' x1 t0 fO fU fW fG fL len size  := by
  intro x1 t0 fO fU fW fG fL len size h
  rw [wp_X_moveRight_22] at h ⊢
  exact ⟨(h).1, (fun v30 g2 => ⟨((h).2 v30 g2).1, (mo_B_withHighestInFront (fun r42 g4 => ⟨(g4).1, (mo_B_withHighestInFront (fun r56 g6 => (mo_X_setBits (fun fO62 fU62 fW62 fG62 fL62 len62 size62 g7 => (mo_X_moveRight_111 hpost _ _ _ _ _ _ _ g7)) _ _ _ _ _ _ _ _ _ _ g6)) _ _ (g4).2)⟩) _ _ ((h).2 v30 g2).2)⟩)⟩

theorem mo_X_moveRight {post post' : (Nat → Int64) → (Nat → Int64) → (Nat → Int32) → (Nat → Int32) → (Nat → Int32) → Int32 → Int32 → Prop} (hpost : ∀ u0 u1 u2 u3 u4 u5 u6, post u0 u1 u2 u3 u4 u5 u6 → post' u0 u1 u2 u3 u4 u5 u6) : ∀ (a1 : Int32) (a2 : Int64) (a4 : Int32) (fO : (Nat → Int64)) (fU : (Nat → Int64)) (fW : (Nat → Int32)) (fG : (Nat → Int32)) (fL : (Nat → Int32)) (len : Int32) (size : Int32), wp_X_moveRight post a1 a2 a4 fO fU fW fG fL len size  → wp_X_moveRight post' a1 a2 a4 fO fU fW fG fL len size  := by
  intro a1 a2 a4 fO fU fW fG fL len size h
  rw [wp_X_moveRight] at h ⊢
  exact ⟨(fun g2 => (mo_B_below (fun r72 g3 => ⟨(fun g5 => ⟨((g3).1 g5).1, ⟨((g3).1 g5).2.1, (mo_X_setBits (fun fO108 fU108 fW108 fG108 fL108 len108 size108 g8 => (mo_X_moveRight_111 hpost _ _ _ _ _ _ _ g8)) _ _ _ _ _ _ _ _ _ _ ((g3).1 g5).2.2)⟩⟩), (fun g9 => (mo_X_setBits (fun fO82 fU82 fW82 fG82 fL82 len82 size82 g10 => (mo_X_moveRight_111 hpost _ _ _ _ _ _ _ g10)) _ _ _ _ _ _ _ _ _ _ ((g3).2 g9)))⟩) _ _ ((h).1 g2))), (fun g11 => (mo_B_below (fun r9 g12 => ⟨(fun g14 => (mo_X_moveRight_22 hpost _ _ _ _ _ _ _ _ _ ((g12).1 g14))), (fun g15 => (mo_X_moveRight_22 hpost _ _ _ _ _ _ _ _ _ ((g12).2 g15)))⟩) _ _ ((h).2 g11)))⟩

theorem mo_X_writeGroups_121 {K16 K16' : Int32 → Int32 → Int32 → Int32 → Int32 → (Nat → Int64) → (Nat → Int64) → (Nat → Int32) → (Nat → Int32) → (Nat → Int32) → Int32 → Int32 → Prop} {post post' : (Nat → Int64) → (Nat → Int64) → (Nat → Int32) → (Nat → Int32) → (Nat → Int32) → Int32 → Int32 → Prop} (hK16 : ∀ u0 u1 u2 u3 u4 u5 u6 u7 u8 u9 u10 u11, K16 u0 u1 u2 u3 u4 u5 u6 u7 u8 u9 u10 u11 → K16' u0 u1 u2 u3 u4 u5 u6 u7 u8 u9 u10 u11) (hpost : ∀ u0 u1 u2 u3 u4 u5 u6, post u0 u1 u2 u3 u4 u5 u6 → post' u0 u1 u2 u3 u4 u5 u6) : ∀ (x1 : Int32) (x2 : Int32) (x3 : Int32) (x4 : Int32) (x5 : Int32) (fO : (Nat → Int64)) (fU : (Nat → Int64)) (fW : (Nat → Int32)) (fG : (Nat → Int32)) (fL : (Nat → Int32)) (len : Int32) (size : Int32), wp_X_writeGroups_121 K16 post x1 x2 x3 x4 x5 fO fU fW fG fL len size  → wp_X_writeGroups_121 K16' post' x1 x2 x3 x4 x5 fO fU fW fG fL len size  := by
  intro x1 x2 x3 x4 x5 fO fU fW fG fL len size h
  rw [wp_X_writeGroups_121] at h ⊢
  exact (hK16 _ _ _ _ _ _ _ _ _ _ _ _ h)

theorem mo_X_writeGroups_112 {K16 K16' : Int32 → Int32 → Int32 → Int32 → Int32 → (Nat → Int64) → (Nat → Int64) → (Nat → Int32) → (Nat → Int32) → (Nat → Int32) → Int32 → Int32 → Prop} {post post' : (Nat → Int64) → (Nat → Int64) → (Nat → Int32) → (Nat → Int32) → (Nat → Int32) → Int32 → Int32 → Prop} (hK16 : ∀ u0 u1 u2 u3 u4 u5 u6 u7 u8 u9 u10 u11, K16 u0 u1 u2 u3 u4 u5 u6 u7 u8 u9 u10 u11 → K16' u0 u1 u2 u3 u4 u5 u6 u7 u8 u9 u10 u11) (hpost : ∀ u0 u1 u2 u3 u4 u5 u6, post u0 u1 u2 u3 u4 u5 u6 → post' u0 u1 u2 u3 u4 u5 u6) : ∀ (x1 : Int32) (x2 : Int32) (x3 : Int32) (x4 : Int32) (x5 : Int32) (x9 : Int32) (fO : (Nat → Int64)) (fU : (Nat → Int64)) (fW : (Nat → Int32)) (fG : (Nat → Int32)) (fL : (Nat → Int32)) (len : Int32) (size : Int32), wp_X_writeGroups_112 K16 post x1 x2 x3 x4 x5 x9 fO fU fW fG fL len size  → wp_X_writeGroups_112 K16' post' x1 x2 x3 x4 x5 x9 fO fU fW fG fL len size  := by
  intro x1 x2 x3 x4 x5 x9 fO fU fW fG fL len size h
  rw [wp_X_writeGroups_112] at h ⊢
  exact (mo_N_write (fun fL118 len118 g1 => (mo_X_writeGroups_121 hK16 hpost _ _ _ _ _ _ _ _ _ _ _ _ g1)) _ _ _ h)

theorem mo_X_writeGroups_101 {K16 K16' : Int32 → Int32 → Int32 → Int32 → Int32 → (Nat → Int64) → (Nat → Int64) → (Nat → Int32) → (Nat → Int32) → (Nat → Int32) → Int32 → Int32 → Prop} {post post' : (Nat → Int64) → (Nat → Int64) → (Nat → Int32) → (Nat → Int32) → (Nat → Int32) → Int32 → Int32 → Prop} (hK16 : ∀ u0 u1 u2 u3 u4 u5 u6 u7 u8 u9 u10 u11, K16 u0 u1 u2 u3 u4 u5 u6 u7 u8 u9 u10 u11 → K16' u0 u1 u2 u3 u4 u5 u6 u7 u8 u9 u10 u11) (hpost : ∀ u0 u1 u2 u3 u4 u5 u6, post u0 u1 u2 u3 u4 u5 u6 → post' u0 u1 u2 u3 u4 u5 u6) : ∀ (x1 : Int32) (x2 : Int32) (x3 : Int32) (x4 : Int32) (x5 : Int32) (x9 : Int32) (t0 : Int32) (fO : (Nat → Int64)) (fU : (Nat → Int64)) (fW : (Nat → Int32)) (fG : (Nat → Int32)) (fL : (Nat → Int32)) (len : Int32) (size : Int32), wp_X_writeGroups_101 K16 post x1 x2 x3 x4 x5 x9 t0 fO fU fW fG fL len size  → wp_X_writeGroups_101 K16' post' x1 x2 x3 x4 x5 x9 t0 fO fU fW fG fL len size  := by
  intro x1 x2 x3 x4 x5 x9 t0 fO fU fW fG fL len size h
  rw [wp_X_writeGroups_101] at h ⊢
  exact ⟨(fun g2 => (mo_X_writeGroups_112 hK16 hpost _ _ _ _ _ _ _ _ _ _ _ _ _ ((h).1 g2))), (fun g3 => ⟨(fun g5 => (mo_X_writeGroups_121 hK16 hpost _ _ _ _ _ _ _ _ _ _ _ _ (((h).2 g3).1 g5))), (fun g6 => (mo_X_writeGroups_112 hK16 hpost _ _ _ _ _ _ _ _ _ _ _ _ _ (((h).2 g3).2 g6)))⟩)⟩

theorem mo_X_writeGroups_100 {K16 K16' : Int32 → Int32 → Int32 → Int32 → Int32 → (Nat → Int64) → (Nat → Int64) → (Nat → Int32) → (Nat → Int32) → (Nat → Int32) → Int32 → Int32 → Prop} {post post' : (Nat → Int64) → (Nat → Int64) → (Nat → Int32) → (Nat → Int32) → (Nat → Int32) → Int32 → Int32 → Prop} (hK16 : ∀ u0 u1 u2 u3 u4 u5 u6 u7 u8 u9 u10 u11, K16 u0 u1 u2 u3 u4 u5 u6 u7 u8 u9 u10 u11 → K16' u0 u1 u2 u3 u4 u5 u6 u7 u8 u9 u10 u11) (hpost : ∀ u0 u1 u2 u3 u4 u5 u6, post u0 u1 u2 u3 u4 u5 u6 → post' u0 u1 u2 u3 u4 u5 u6) : ∀ (x1 : Int32) (x2 : Int32) (x3 : Int32) (x4 : Int32) (x5 : Int32) (x9 : Int32) (fO : (Nat → Int64)) (fU : (Nat → Int64)) (fW : (Nat → Int32)) (fG : (Nat → Int32)) (fL : (Nat → Int32)) (len : Int32) (size : Int32), wp_X_writeGroups_100 K16 post x1 x2 x3 x4 x5 x9 fO fU fW fG fL len size  → wp_X_writeGroups_100 K16' post' x1 x2 x3 x4 x5 x9 fO fU fW fG fL len size  := by
  intro x1 x2 x3 x4 x5 x9 fO fU fW fG fL len size h
  rw [wp_X_writeGroups_100] at h ⊢
  exact (mo_X_writeGroups_101 hK16 hpost _ _ _ _ _ _ _ _ _ _ _ _ _ _ h)

theorem mo_X_writeGroups_16 {post post' : (Nat → Int64) → (Nat → Int64) → (Nat → Int32) → (Nat → Int32) → (Nat → Int32) → Int32 → Int32 → Prop} (hpost : ∀ u0 u1 u2 u3 u4 u5 u6, post u0 u1 u2 u3 u4 u5 u6 → post' u0 u1 u2 u3 u4 u5 u6) : ∀ (n16 : Nat) (x1 : Int32) (x2 : Int32) (x3 : Int32) (x4 : Int32) (x5 : Int32) (fO : (Nat → Int64)) (fU : (Nat → Int64)) (fW : (Nat → Int32)) (fG : (Nat → Int32)) (fL : (Nat → Int32)) (len : Int32) (size : Int32), wp_X_writeGroups_16 post n16 x1 x2 x3 x4 x5 fO fU fW fG fL len size → wp_X_writeGroups_16 post' n16 x1 x2 x3 x4 x5 fO fU fW fG fL len size := by
  intro  n16
  induction n16 with
  | zero => intro x1 x2 x3 x4 x5 fO fU fW fG fL len size h; exact False.elim h
  | succ n16 ih =>
    intro x1 x2 x3 x4 x5 fO fU fW fG fL len size h
    rw [wp_X_writeGroups_16] at h ⊢
    exact ⟨(fun g2 => (hpost _ _ _ _ _ _ _ ((h).1 g2))), (fun g3 => (fun v25 g4 => (mo_B_lowest (fun r38 g5 => ⟨(g5).1, ⟨(g5).2.1, (mo_X_groupLetter (fun r69 g8 => ⟨(fun g10 => (mo_X_writeGroups_100 ih hpost _ _ _ _ _ _ _ _ _ _ _ _ _ ((g8).1 g10))), (fun g11 => ⟨(fun g13 => (mo_X_writeGroups_100 ih hpost _ _ _ _ _ _ _ _ _ _ _ _ _ (((g8).2 g11).1 g13))), (fun g14 => ⟨(fun g16 => (mo_X_writeGroups_100 ih hpost _ _ _ _ _ _ _ _ _ _ _ _ _ ((((g8).2 g11).2 g14).1 g16))), (fun g17 => (mo_X_writeGroups_101 ih hpost _ _ _ _ _ _ _ _ _ _ _ _ _ _ ((((g8).2 g11).2 g14).2 g17)))⟩)⟩)⟩) _ _ _ (g5).2.2)⟩⟩) _ (((h).2 g3) v25 g4))))⟩

theorem mo_X_writeGroups {post post' : (Nat → Int64) → (Nat → Int64) → (Nat → Int32) → (Nat → Int32) → (Nat → Int32) → Int32 → Int32 → Prop} (hpost : ∀ u0 u1 u2 u3 u4 u5 u6, post u0 u1 u2 u3 u4 u5 u6 → post' u0 u1 u2 u3 u4 u5 u6) : ∀ (a1 : Int32) (a2 : Int32) (a3 : Int32) (fO : (Nat → Int64)) (fU : (Nat → Int64)) (fW : (Nat → Int32)) (fG : (Nat → Int32)) (fL : (Nat → Int32)) (len : Int32) (size : Int32), wp_X_writeGroups post a1 a2 a3 fO fU fW fG fL len size  → wp_X_writeGroups post' a1 a2 a3 fO fU fW fG fL len size  := by
  intro a1 a2 a3 fO fU fW fG fL len size h
  rw [wp_X_writeGroups] at h ⊢
  exact ⟨(h).1, (fun v6 g2 => (fun v14 g3 => (Exists.imp (fun n16 g4 => (mo_X_writeGroups_16 hpost _ _ _ _ _ _ _ _ _ _ _ _ _ g4)) (((h).2 v6 g2) v14 g3))))⟩

theorem mo_X_writeNumber_178 {post post' : (Nat → Int64) → (Nat → Int64) → (Nat → Int32) → (Nat → Int32) → (Nat → Int32) → Int32 → Int32 → Prop} (hpost : ∀ u0 u1 u2 u3 u4 u5 u6, post u0 u1 u2 u3 u4 u5 u6 → post' u0 u1 u2 u3 u4 u5 u6) : ∀ (x10 : Int64) (x12 : Int32) (fO : (Nat → Int64)) (fU : (Nat → Int64)) (fW : (Nat → Int32)) (fG : (Nat → Int32)) (fL : (Nat → Int32)) (len : Int32) (size : Int32), wp_X_writeNumber_178 post x10 x12 fO fU fW fG fL len size  → wp_X_writeNumber_178 post' x10 x12 fO fU fW fG fL len size  := by
  intro x10 x12 fO fU fW fG fL len size h
  rw [wp_X_writeNumber_178] at h ⊢
  exact (mo_N_writeDigits (fun fL186 len186 g1 => (hpost _ _ _ _ _ _ _ g1)) _ _ _ _ h)

theorem mo_X_writeNumber_160 {post post' : (Nat → Int64) → (Nat → Int64) → (Nat → Int32) → (Nat → Int32) → (Nat → Int32) → Int32 → Int32 → Prop} (hpost : ∀ u0 u1 u2 u3 u4 u5 u6, post u0 u1 u2 u3 u4 u5 u6 → post' u0 u1 u2 u3 u4 u5 u6) : ∀ (x9 : Int32) (x10 : Int64) (x12 : Int32) (t0 : Int32) (t1 : Int32) (fO : (Nat → Int64)) (fU : (Nat → Int64)) (fW : (Nat → Int32)) (fG : (Nat → Int32)) (fL : (Nat → Int32)) (len : Int32) (size : Int32), wp_X_writeNumber_160 post x9 x10 x12 t0 t1 fO fU fW fG fL len size  → wp_X_writeNumber_160 post' x9 x10 x12 t0 t1 fO fU fW fG fL len size  := by
  intro x9 x10 x12 t0 t1 fO fU fW fG fL len size h
  rw [wp_X_writeNumber_160] at h ⊢
  exact (mo_N_writeSpaces (fun fL161 len161 g1 => ⟨(fun g3 => (mo_X_writeNumber_178 hpost _ _ _ _ _ _ _ _ _ ((g1).1 g3))), (fun g4 => (mo_N_write (fun fL175 len175 g5 => (mo_X_writeNumber_178 hpost _ _ _ _ _ _ _ _ _ g5)) _ _ _ ((g1).2 g4)))⟩) _ _ _ h)

theorem mo_X_writeNumber_132 {post post' : (Nat → Int64) → (Nat → Int64) → (Nat → Int32) → (Nat → Int32) → (Nat → Int32) → Int32 → Int32 → Prop} (hpost : ∀ u0 u1 u2 u3 u4 u5 u6, post u0 u1 u2 u3 u4 u5 u6 → post' u0 u1 u2 u3 u4 u5 u6) : ∀ (x6 : Int32) (x9 : Int32) (t0 : Int64) (fO : (Nat → Int64)) (fU : (Nat → Int64)) (fW : (Nat → Int32)) (fG : (Nat → Int32)) (fL : (Nat → Int32)) (len : Int32) (size : Int32), wp_X_writeNumber_132 post x6 x9 t0 fO fU fW fG fL len size  → wp_X_writeNumber_132 post' x6 x9 t0 fO fU fW fG fL len size  := by
  intro x6 x9 t0 fO fU fW fG fL len size h
  rw [wp_X_writeNumber_132] at h ⊢
  exact (mo_B_digits (fun r136 g1 => ⟨(fun g3 => (mo_X_writeNumber_160 hpost _ _ _ _ _ _ _ _ _ _ _ _ ((g1).1 g3))), (fun g4 => (mo_X_writeNumber_160 hpost _ _ _ _ _ _ _ _ _ _ _ _ ((g1).2 g4)))⟩) _ h)

theorem mo_X_writeNumber_117 {post post' : (Nat → Int64) → (Nat → Int64) → (Nat → Int32) → (Nat → Int32) → (Nat → Int32) → Int32 → Int32 → Prop} (hpost : ∀ u0 u1 u2 u3 u4 u5 u6, post u0 u1 u2 u3 u4 u5 u6 → post' u0 u1 u2 u3 u4 u5 u6) : ∀ (x6 : Int32) (x7 : Int64) (t0 : Int32) (fO : (Nat → Int64)) (fU : (Nat → Int64)) (fW : (Nat → Int32)) (fG : (Nat → Int32)) (fL : (Nat → Int32)) (len : Int32) (size : Int32), wp_X_writeNumber_117 post x6 x7 t0 fO fU fW fG fL len size  → wp_X_writeNumber_117 post' x6 x7 t0 fO fU fW fG fL len size  := by
  intro x6 x7 t0 fO fU fW fG fL len size h
  rw [wp_X_writeNumber_117] at h ⊢
  exact ⟨(fun g2 => (mo_X_writeNumber_132 hpost _ _ _ _ _ _ _ _ _ _ ((h).1 g2))), (fun g3 => (mo_X_writeNumber_132 hpost _ _ _ _ _ _ _ _ _ _ ((h).2 g3)))⟩

theorem mo_X_writeNumber_116 {post post' : (Nat → Int64) → (Nat → Int64) → (Nat → Int32) → (Nat → Int32) → (Nat → Int32) → Int32 → Int32 → Prop} (hpost : ∀ u0 u1 u2 u3 u4 u5 u6, post u0 u1 u2 u3 u4 u5 u6 → post' u0 u1 u2 u3 u4 u5 u6) : ∀ (x6 : Int32) (x7 : Int64) (fO : (Nat → Int64)) (fU : (Nat → Int64)) (fW : (Nat → Int32)) (fG : (Nat → Int32)) (fL : (Nat → Int32)) (len : Int32) (size : Int32), wp_X_writeNumber_116 post x6 x7 fO fU fW fG fL len size  → wp_X_writeNumber_116 post' x6 x7 fO fU fW fG fL len size  := by
  intro x6 x7 fO fU fW fG fL len size h
  rw [wp_X_writeNumber_116] at h ⊢
  exact (mo_X_writeNumber_117 hpost _ _ _ _ _ _ _ _ _ _ h)

theorem mo_X_writeNumber_47 {post post' : (Nat → Int64) → (Nat → Int64) → (Nat → Int32) → (Nat → Int32) → (Nat → Int32) → Int32 → Int32 → Prop} (hpost : ∀ u0 u1 u2 u3 u4 u5 u6, post u0 u1 u2 u3 u4 u5 u6 → post' u0 u1 u2 u3 u4 u5 u6) : ∀ (x1 : Int32) (x3 : Int64) (x5 : Int32) (x6 : Int32) (fO : (Nat → Int64)) (fU : (Nat → Int64)) (fW : (Nat → Int32)) (fG : (Nat → Int32)) (fL : (Nat → Int32)) (len : Int32) (size : Int32), wp_X_writeNumber_47 post x1 x3 x5 x6 fO fU fW fG fL len size  → wp_X_writeNumber_47 post' x1 x3 x5 x6 fO fU fW fG fL len size  := by
  intro x1 x3 x5 x6 fO fU fW fG fL len size h
  rw [wp_X_writeNumber_47] at h ⊢
  exact ⟨(h).1, ⟨(fun g3 => (mo_X_number (fun r95 fO95 fU95 fW95 fG95 fL95 len95 size95 g4 => ⟨(fun g6 => (mo_X_writeNumber_116 hpost _ _ _ _ _ _ _ _ _ ((g4).1 g6))), (fun g7 => ⟨(fun g9 => (mo_X_writeNumber_116 hpost _ _ _ _ _ _ _ _ _ (((g4).2 g7).1 g9))), (fun g10 => (mo_X_writeNumber_117 hpost _ _ _ _ _ _ _ _ _ _ (((g4).2 g7).2 g10)))⟩)⟩) _ _ _ _ _ _ _ _ ((h).2.1 g3))), (fun g11 => (mo_N_writeSpaces (fun fL66 len66 g12 => ⟨(g12).1, ⟨(g12).2.1, (mo_X_unknownLetter (fun r86 g15 => (mo_N_write (fun fL89 len89 g16 => (hpost _ _ _ _ _ _ _ g16)) _ _ _ g15)) _ _ _ (g12).2.2)⟩⟩) _ _ _ ((h).2.2 g11)))⟩⟩

theorem mo_X_writeNumber_45 {post post' : (Nat → Int64) → (Nat → Int64) → (Nat → Int32) → (Nat → Int32) → (Nat → Int32) → Int32 → Int32 → Prop} (hpost : ∀ u0 u1 u2 u3 u4 u5 u6, post u0 u1 u2 u3 u4 u5 u6 → post' u0 u1 u2 u3 u4 u5 u6) : ∀ (x1 : Int32) (x3 : Int64) (x5 : Int32) (t0 : Int32) (fO : (Nat → Int64)) (fU : (Nat → Int64)) (fW : (Nat → Int32)) (fG : (Nat → Int32)) (fL : (Nat → Int32)) (len : Int32) (size : Int32), wp_X_writeNumber_45 post x1 x3 x5 t0 fO fU fW fG fL len size  → wp_X_writeNumber_45 post' x1 x3 x5 t0 fO fU fW fG fL len size  := by
  intro x1 x3 x5 t0 fO fU fW fG fL len size h
  rw [wp_X_writeNumber_45] at h ⊢
  exact (mo_X_writeNumber_47 hpost _ _ _ _ _ _ _ _ _ _ _ h)

theorem mo_X_writeNumber {post post' : (Nat → Int64) → (Nat → Int64) → (Nat → Int32) → (Nat → Int32) → (Nat → Int32) → Int32 → Int32 → Prop} (hpost : ∀ u0 u1 u2 u3 u4 u5 u6, post u0 u1 u2 u3 u4 u5 u6 → post' u0 u1 u2 u3 u4 u5 u6) : ∀ (a1 : Int32) (a2 : Int32) (fO : (Nat → Int64)) (fU : (Nat → Int64)) (fW : (Nat → Int32)) (fG : (Nat → Int32)) (fL : (Nat → Int32)) (len : Int32) (size : Int32), wp_X_writeNumber post a1 a2 fO fU fW fG fL len size  → wp_X_writeNumber post' a1 a2 fO fU fW fG fL len size  := by
  intro a1 a2 fO fU fW fG fL len size h
  rw [wp_X_writeNumber] at h ⊢
  exact ⟨(h).1, (mo_B_lowest (fun r6 g2 => ⟨(g2).1, (fun v16 g4 => ⟨(fun g6 => (mo_X_writeNumber_47 hpost _ _ _ _ _ _ _ _ _ _ _ (((g2).2 v16 g4).1 g6))), (fun g7 => ⟨(fun g9 => (mo_B_digits (fun r42 g10 => (mo_X_writeNumber_45 hpost _ _ _ _ _ _ _ _ _ _ _ g10)) _ ((((g2).2 v16 g4).2 g7).1 g9))), (fun g11 => (mo_B_digits (fun r33 g12 => (mo_X_writeNumber_45 hpost _ _ _ _ _ _ _ _ _ _ _ g12)) _ ((((g2).2 v16 g4).2 g7).2 g11)))⟩)⟩)⟩) _ (h).2)⟩

theorem mo_X_push {post post' : Int32 → (Nat → Int64) → (Nat → Int64) → (Nat → Int32) → (Nat → Int32) → (Nat → Int32) → Int32 → Int32 → Prop} {px px' : String → (Nat → Int64) → (Nat → Int64) → (Nat → Int32) → (Nat → Int32) → (Nat → Int32) → Int32 → Int32 → Prop} (hpost : ∀ u0 u1 u2 u3 u4 u5 u6 u7, post u0 u1 u2 u3 u4 u5 u6 u7 → post' u0 u1 u2 u3 u4 u5 u6 u7) (hpx : ∀ u0 u1 u2 u3 u4 u5 u6 u7, px u0 u1 u2 u3 u4 u5 u6 u7 → px' u0 u1 u2 u3 u4 u5 u6 u7) : ∀ (a1 : Int64) (a3 : Int64) (a5 : Int32) (a6 : Int32) (fO : (Nat → Int64)) (fU : (Nat → Int64)) (fW : (Nat → Int32)) (fG : (Nat → Int32)) (fL : (Nat → Int32)) (len : Int32) (size : Int32), wp_X_push post px a1 a3 a5 a6 fO fU fW fG fL len size  → wp_X_push post' px' a1 a3 a5 a6 fO fU fW fG fL len size  := by
  intro a1 a3 a5 a6 fO fU fW fG fL len size h
  rw [wp_X_push] at h ⊢
  exact (Or.imp (fun g1 => (mo_X_demandRange_k (fun g3 => (Or.imp (fun g4 => (mo_X_demandRoom_k (fun fO9 fU9 fW9 fG9 fL9 len9 size9 g6 => (mo_X_setValue (fun fO23 fU23 fW23 fG23 fL23 len23 size23 g7 => (hpost _ _ _ _ _ _ _ _ g7)) _ _ _ _ _ _ _ _ _ _ _ _ g6)) _ _ _ _ _ _ _ g4)) (fun g5 => ⟨(g5).1, (hpx _ _ _ _ _ _ _ _ (g5).2)⟩) g3)) _ _ _ g1)) (fun g2 => ⟨(g2).1, (hpx _ _ _ _ _ _ _ _ (g2).2)⟩) h)

theorem mo_X_two_75 {post post' : (Nat → Int64) → (Nat → Int64) → (Nat → Int32) → (Nat → Int32) → (Nat → Int32) → Int32 → Int32 → Prop} {px px' : String → (Nat → Int64) → (Nat → Int64) → (Nat → Int32) → (Nat → Int32) → (Nat → Int32) → Int32 → Int32 → Prop} (hpost : ∀ u0 u1 u2 u3 u4 u5 u6, post u0 u1 u2 u3 u4 u5 u6 → post' u0 u1 u2 u3 u4 u5 u6) (hpx : ∀ u0 u1 u2 u3 u4 u5 u6 u7, px u0 u1 u2 u3 u4 u5 u6 u7 → px' u0 u1 u2 u3 u4 u5 u6 u7) : ∀ (fO : (Nat → Int64)) (fU : (Nat → Int64)) (fW : (Nat → Int32)) (fG : (Nat → Int32)) (fL : (Nat → Int32)) (len : Int32) (size : Int32), wp_X_two_75 post px fO fU fW fG fL len size  → wp_X_two_75 post' px' fO fU fW fG fL len size  := by
  intro fO fU fW fG fL len size h
  rw [wp_X_two_75] at h ⊢
  exact (hpost _ _ _ _ _ _ _ h)

theorem mo_X_two {post post' : (Nat → Int64) → (Nat → Int64) → (Nat → Int32) → (Nat → Int32) → (Nat → Int32) → Int32 → Int32 → Prop} {px px' : String → (Nat → Int64) → (Nat → Int64) → (Nat → Int32) → (Nat → Int32) → (Nat → Int32) → Int32 → Int32 → Prop} (hpost : ∀ u0 u1 u2 u3 u4 u5 u6, post u0 u1 u2 u3 u4 u5 u6 → post' u0 u1 u2 u3 u4 u5 u6) (hpx : ∀ u0 u1 u2 u3 u4 u5 u6 u7, px u0 u1 u2 u3 u4 u5 u6 u7 → px' u0 u1 u2 u3 u4 u5 u6 u7) : ∀ (a1 : Int32) (fO : (Nat → Int64)) (fU : (Nat → Int64)) (fW : (Nat → Int32)) (fG : (Nat → Int32)) (fL : (Nat → Int32)) (len : Int32) (size : Int32), wp_X_two post px a1 fO fU fW fG fL len size  → wp_X_two post' px' a1 fO fU fW fG fL len size  := by
  intro a1 fO fU fW fG fL len size h
  rw [wp_X_two] at h ⊢
  exact (Or.imp (fun g1 => (mo_X_demandRange_k (fun g3 => (Or.imp (fun g4 => (mo_X_demandValues_k (fun fO9 fU9 fW9 fG9 fL9 len9 size9 g6 => (fun v18 g7 => (fun v25 g8 => (mo_X_bringTogether (fun fO29 fU29 fW29 fG29 fL29 len29 size29 g9 => ⟨(fun g11 => ⟨(fun g13 => (mo_X_compared (fun r69 fO69 fU69 fW69 fG69 fL69 len69 size69 g14 => (mo_X_setTruth (fun fO72 fU72 fW72 fG72 fL72 len72 size72 g15 => (mo_X_two_75 hpost hpx _ _ _ _ _ _ _ g15)) _ _ _ _ _ _ _ _ _ g14)) _ _ _ _ _ _ _ _ _ _ (((g9).1 g11).1 g13))), (fun g16 => (mo_X_combine (fun fO57 fU57 fW57 fG57 fL57 len57 size57 g17 => (mo_X_two_75 hpost hpx _ _ _ _ _ _ _ g17)) _ _ _ _ _ _ _ _ _ _ (((g9).1 g11).2 g16)))⟩), (fun g18 => (mo_X_reckon (fun fO41 fU41 fW41 fG41 fL41 len41 size41 g19 => (mo_X_two_75 hpost hpx _ _ _ _ _ _ _ g19)) _ _ _ _ _ _ _ _ _ _ ((g9).2 g18)))⟩) _ _ _ _ _ _ _ _ _ ((g6 v18 g7) v25 g8))))) _ _ _ _ _ _ _ _ g4)) (fun g5 => ⟨(g5).1, (hpx _ _ _ _ _ _ _ _ (g5).2)⟩) g3)) _ _ _ g1)) (fun g2 => ⟨(g2).1, (hpx _ _ _ _ _ _ _ _ (g2).2)⟩) h)

theorem mo_X_shift_98 {post post' : (Nat → Int64) → (Nat → Int64) → (Nat → Int32) → (Nat → Int32) → (Nat → Int32) → Int32 → Int32 → Prop} {px px' : String → (Nat → Int64) → (Nat → Int64) → (Nat → Int32) → (Nat → Int32) → (Nat → Int32) → Int32 → Int32 → Prop} (hpost : ∀ u0 u1 u2 u3 u4 u5 u6, post u0 u1 u2 u3 u4 u5 u6 → post' u0 u1 u2 u3 u4 u5 u6) (hpx : ∀ u0 u1 u2 u3 u4 u5 u6 u7, px u0 u1 u2 u3 u4 u5 u6 u7 → px' u0 u1 u2 u3 u4 u5 u6 u7) : ∀ (fO : (Nat → Int64)) (fU : (Nat → Int64)) (fW : (Nat → Int32)) (fG : (Nat → Int32)) (fL : (Nat → Int32)) (len : Int32) (size : Int32), wp_X_shift_98 post px fO fU fW fG fL len size  → wp_X_shift_98 post' px' fO fU fW fG fL len size  := by
  intro fO fU fW fG fL len size h
  rw [wp_X_shift_98] at h ⊢
  exact (hpost _ _ _ _ _ _ _ h)

theorem mo_X_shift_81 {post post' : (Nat → Int64) → (Nat → Int64) → (Nat → Int32) → (Nat → Int32) → (Nat → Int32) → Int32 → Int32 → Prop} {px px' : String → (Nat → Int64) → (Nat → Int64) → (Nat → Int32) → (Nat → Int32) → (Nat → Int32) → Int32 → Int32 → Prop} (hpost : ∀ u0 u1 u2 u3 u4 u5 u6, post u0 u1 u2 u3 u4 u5 u6 → post' u0 u1 u2 u3 u4 u5 u6) (hpx : ∀ u0 u1 u2 u3 u4 u5 u6 u7, px u0 u1 u2 u3 u4 u5 u6 u7 → px' u0 u1 u2 u3 u4 u5 u6 u7) : ∀ (t0 : Int32) (t1 : Int64) (t2 : Int32) (fO : (Nat → Int64)) (fU : (Nat → Int64)) (fW : (Nat → Int32)) (fG : (Nat → Int32)) (fL : (Nat → Int32)) (len : Int32) (size : Int32), wp_X_shift_81 post px t0 t1 t2 fO fU fW fG fL len size  → wp_X_shift_81 post' px' t0 t1 t2 fO fU fW fG fL len size  := by
  intro t0 t1 t2 fO fU fW fG fL len size h
  rw [wp_X_shift_81] at h ⊢
  exact (mo_X_moveRight (fun fO81 fU81 fW81 fG81 fL81 len81 size81 g1 => (mo_X_shift_98 hpost hpx _ _ _ _ _ _ _ g1)) _ _ _ _ _ _ _ _ _ _ h)

theorem mo_X_shift_80 {post post' : (Nat → Int64) → (Nat → Int64) → (Nat → Int32) → (Nat → Int32) → (Nat → Int32) → Int32 → Int32 → Prop} {px px' : String → (Nat → Int64) → (Nat → Int64) → (Nat → Int32) → (Nat → Int32) → (Nat → Int32) → Int32 → Int32 → Prop} (hpost : ∀ u0 u1 u2 u3 u4 u5 u6, post u0 u1 u2 u3 u4 u5 u6 → post' u0 u1 u2 u3 u4 u5 u6) (hpx : ∀ u0 u1 u2 u3 u4 u5 u6 u7, px u0 u1 u2 u3 u4 u5 u6 u7 → px' u0 u1 u2 u3 u4 u5 u6 u7) : ∀ (t0 : Int64) (t1 : Int32) (fO : (Nat → Int64)) (fU : (Nat → Int64)) (fW : (Nat → Int32)) (fG : (Nat → Int32)) (fL : (Nat → Int32)) (len : Int32) (size : Int32), wp_X_shift_80 post px t0 t1 fO fU fW fG fL len size  → wp_X_shift_80 post' px' t0 t1 fO fU fW fG fL len size  := by
  intro t0 t1 fO fU fW fG fL len size h
  rw [wp_X_shift_80] at h ⊢
  exact (mo_X_shift_81 hpost hpx _ _ _ _ _ _ _ _ _ _ h)

theorem mo_X_shift_54 {post post' : (Nat → Int64) → (Nat → Int64) → (Nat → Int32) → (Nat → Int32) → (Nat → Int32) → Int32 → Int32 → Prop} {px px' : String → (Nat → Int64) → (Nat → Int64) → (Nat → Int32) → (Nat → Int32) → (Nat → Int32) → Int32 → Int32 → Prop} (hpost : ∀ u0 u1 u2 u3 u4 u5 u6, post u0 u1 u2 u3 u4 u5 u6 → post' u0 u1 u2 u3 u4 u5 u6) (hpx : ∀ u0 u1 u2 u3 u4 u5 u6 u7, px u0 u1 u2 u3 u4 u5 u6 u7 → px' u0 u1 u2 u3 u4 u5 u6 u7) : ∀ (x1 : Int32) (x2 : Int32) (x3 : Int32) (fO : (Nat → Int64)) (fU : (Nat → Int64)) (fW : (Nat → Int32)) (fG : (Nat → Int32)) (fL : (Nat → Int32)) (len : Int32) (size : Int32), wp_X_shift_54 post px x1 x2 x3 fO fU fW fG fL len size  → wp_X_shift_54 post' px' x1 x2 x3 fO fU fW fG fL len size  := by
  intro x1 x2 x3 fO fU fW fG fL len size h
  rw [wp_X_shift_54] at h ⊢
  exact ⟨(h).1, ⟨(fun g3 => (mo_X_shift_80 hpost hpx _ _ _ _ _ _ _ _ _ ((h).2.1 g3))), (fun g4 => ⟨((h).2.2 g4).1, ⟨(fun g7 => (mo_X_shift_80 hpost hpx _ _ _ _ _ _ _ _ _ (((h).2.2 g4).2.1 g7))), (fun g8 => (mo_X_shift_81 hpost hpx _ _ _ _ _ _ _ _ _ _ (((h).2.2 g4).2.2 g8)))⟩⟩)⟩⟩

theorem mo_X_shift {post post' : (Nat → Int64) → (Nat → Int64) → (Nat → Int32) → (Nat → Int32) → (Nat → Int32) → Int32 → Int32 → Prop} {px px' : String → (Nat → Int64) → (Nat → Int64) → (Nat → Int32) → (Nat → Int32) → (Nat → Int32) → Int32 → Int32 → Prop} (hpost : ∀ u0 u1 u2 u3 u4 u5 u6, post u0 u1 u2 u3 u4 u5 u6 → post' u0 u1 u2 u3 u4 u5 u6) (hpx : ∀ u0 u1 u2 u3 u4 u5 u6 u7, px u0 u1 u2 u3 u4 u5 u6 u7 → px' u0 u1 u2 u3 u4 u5 u6 u7) : ∀ (a1 : Int32) (fO : (Nat → Int64)) (fU : (Nat → Int64)) (fW : (Nat → Int32)) (fG : (Nat → Int32)) (fL : (Nat → Int32)) (len : Int32) (size : Int32), wp_X_shift post px a1 fO fU fW fG fL len size  → wp_X_shift post' px' a1 fO fU fW fG fL len size  := by
  intro a1 fO fU fW fG fL len size h
  rw [wp_X_shift] at h ⊢
  exact (Or.imp (fun g1 => (mo_X_demandRange_k (fun g3 => (Or.imp (fun g4 => (mo_X_demandValues_k (fun fO8 fU8 fW8 fG8 fL8 len8 size8 g6 => (fun v17 g7 => (fun v24 g8 => ⟨((g6 v17 g7) v24 g8).1, ⟨(fun g11 => ⟨(fun g13 => (mo_X_shift_54 hpost hpx _ _ _ _ _ _ _ _ _ _ ((((g6 v17 g7) v24 g8).2.1 g11).1 g13))), (fun g14 => ⟨(fun g16 => ⟨(((((g6 v17 g7) v24 g8).2.1 g11).2 g14).1 g16).1, (mo_X_moveLeft (fun fO95 fU95 fW95 fG95 fL95 len95 size95 g18 => (mo_X_shift_98 hpost hpx _ _ _ _ _ _ _ g18)) _ _ _ _ _ _ _ _ _ (((((g6 v17 g7) v24 g8).2.1 g11).2 g14).1 g16).2)⟩), (fun g19 => (mo_X_shift_54 hpost hpx _ _ _ _ _ _ _ _ _ _ (((((g6 v17 g7) v24 g8).2.1 g11).2 g14).2 g19)))⟩)⟩), (fun g20 => (mo_X_fillWithX (fun fO38 fU38 fW38 fG38 fL38 len38 size38 g21 => (mo_X_shift_98 hpost hpx _ _ _ _ _ _ _ g21)) _ _ _ _ _ _ _ _ (((g6 v17 g7) v24 g8).2.2 g20)))⟩⟩))) _ _ _ _ _ _ _ _ g4)) (fun g5 => ⟨(g5).1, (hpx _ _ _ _ _ _ _ _ (g5).2)⟩) g3)) _ _ _ g1)) (fun g2 => ⟨(g2).1, (hpx _ _ _ _ _ _ _ _ (g2).2)⟩) h)

theorem mo_X_one_65 {post post' : (Nat → Int64) → (Nat → Int64) → (Nat → Int32) → (Nat → Int32) → (Nat → Int32) → Int32 → Int32 → Prop} {px px' : String → (Nat → Int64) → (Nat → Int64) → (Nat → Int32) → (Nat → Int32) → (Nat → Int32) → Int32 → Int32 → Prop} (hpost : ∀ u0 u1 u2 u3 u4 u5 u6, post u0 u1 u2 u3 u4 u5 u6 → post' u0 u1 u2 u3 u4 u5 u6) (hpx : ∀ u0 u1 u2 u3 u4 u5 u6 u7, px u0 u1 u2 u3 u4 u5 u6 u7 → px' u0 u1 u2 u3 u4 u5 u6 u7) : ∀ (fO : (Nat → Int64)) (fU : (Nat → Int64)) (fW : (Nat → Int32)) (fG : (Nat → Int32)) (fL : (Nat → Int32)) (len : Int32) (size : Int32), wp_X_one_65 post px fO fU fW fG fL len size  → wp_X_one_65 post' px' fO fU fW fG fL len size  := by
  intro fO fU fW fG fL len size h
  rw [wp_X_one_65] at h ⊢
  exact (hpost _ _ _ _ _ _ _ h)

theorem mo_X_one {post post' : (Nat → Int64) → (Nat → Int64) → (Nat → Int32) → (Nat → Int32) → (Nat → Int32) → Int32 → Int32 → Prop} {px px' : String → (Nat → Int64) → (Nat → Int64) → (Nat → Int32) → (Nat → Int32) → (Nat → Int32) → Int32 → Int32 → Prop} (hpost : ∀ u0 u1 u2 u3 u4 u5 u6, post u0 u1 u2 u3 u4 u5 u6 → post' u0 u1 u2 u3 u4 u5 u6) (hpx : ∀ u0 u1 u2 u3 u4 u5 u6 u7, px u0 u1 u2 u3 u4 u5 u6 u7 → px' u0 u1 u2 u3 u4 u5 u6 u7) : ∀ (a1 : Int32) (fO : (Nat → Int64)) (fU : (Nat → Int64)) (fW : (Nat → Int32)) (fG : (Nat → Int32)) (fL : (Nat → Int32)) (len : Int32) (size : Int32), wp_X_one post px a1 fO fU fW fG fL len size  → wp_X_one post' px' a1 fO fU fW fG fL len size  := by
  intro a1 fO fU fW fG fL len size h
  rw [wp_X_one] at h ⊢
  exact (Or.imp (fun g1 => (mo_X_demandRange_k (fun g3 => (Or.imp (fun g4 => (mo_X_demandValues_k (fun fO9 fU9 fW9 fG9 fL9 len9 size9 g6 => (fun v18 g7 => ⟨(fun g9 => ⟨(fun g11 => (mo_X_reduced (fun r59 fO59 fU59 fW59 fG59 fL59 len59 size59 g12 => (mo_X_setTruth (fun fO62 fU62 fW62 fG62 fL62 len62 size62 g13 => (mo_X_one_65 hpost hpx _ _ _ _ _ _ _ g13)) _ _ _ _ _ _ _ _ _ g12)) _ _ _ _ _ _ _ _ _ (((g6 v18 g7).1 g9).1 g11))), (fun g14 => (mo_X_sureZeros (fun r40 fO40 fU40 fW40 fG40 fL40 len40 size40 g15 => (mo_X_sureOnes (fun r45 fO45 fU45 fW45 fG45 fL45 len45 size45 g16 => (mo_X_setSure (fun fO48 fU48 fW48 fG48 fL48 len48 size48 g17 => (mo_X_one_65 hpost hpx _ _ _ _ _ _ _ g17)) _ _ _ _ _ _ _ _ _ _ g16)) _ _ _ _ _ _ _ _ g15)) _ _ _ _ _ _ _ _ (((g6 v18 g7).1 g9).2 g14)))⟩), (fun g18 => (mo_X_negate (fun fO25 fU25 fW25 fG25 fL25 len25 size25 g19 => (mo_X_one_65 hpost hpx _ _ _ _ _ _ _ g19)) _ _ _ _ _ _ _ _ ((g6 v18 g7).2 g18)))⟩)) _ _ _ _ _ _ _ _ g4)) (fun g5 => ⟨(g5).1, (hpx _ _ _ _ _ _ _ _ (g5).2)⟩) g3)) _ _ _ g1)) (fun g2 => ⟨(g2).1, (hpx _ _ _ _ _ _ _ _ (g2).2)⟩) h)

theorem mo_X_choose_83 {post post' : (Nat → Int64) → (Nat → Int64) → (Nat → Int32) → (Nat → Int32) → (Nat → Int32) → Int32 → Int32 → Prop} {px px' : String → (Nat → Int64) → (Nat → Int64) → (Nat → Int32) → (Nat → Int32) → (Nat → Int32) → Int32 → Int32 → Prop} (hpost : ∀ u0 u1 u2 u3 u4 u5 u6, post u0 u1 u2 u3 u4 u5 u6 → post' u0 u1 u2 u3 u4 u5 u6) (hpx : ∀ u0 u1 u2 u3 u4 u5 u6 u7, px u0 u1 u2 u3 u4 u5 u6 u7 → px' u0 u1 u2 u3 u4 u5 u6 u7) : ∀ (x1 : Int32) (t0 : Int32) (fO : (Nat → Int64)) (fU : (Nat → Int64)) (fW : (Nat → Int32)) (fG : (Nat → Int32)) (fL : (Nat → Int32)) (len : Int32) (size : Int32), wp_X_choose_83 post px x1 t0 fO fU fW fG fL len size  → wp_X_choose_83 post' px' x1 t0 fO fU fW fG fL len size  := by
  intro x1 t0 fO fU fW fG fL len size h
  rw [wp_X_choose_83] at h ⊢
  exact (mo_X_copyValue (fun fO84 fU84 fW84 fG84 fL84 len84 size84 g1 => (hpost _ _ _ _ _ _ _ g1)) _ _ _ _ _ _ _ _ _ h)

theorem mo_X_choose_72 {post post' : (Nat → Int64) → (Nat → Int64) → (Nat → Int32) → (Nat → Int32) → (Nat → Int32) → Int32 → Int32 → Prop} {px px' : String → (Nat → Int64) → (Nat → Int64) → (Nat → Int32) → (Nat → Int32) → (Nat → Int32) → Int32 → Int32 → Prop} (hpost : ∀ u0 u1 u2 u3 u4 u5 u6, post u0 u1 u2 u3 u4 u5 u6 → post' u0 u1 u2 u3 u4 u5 u6) (hpx : ∀ u0 u1 u2 u3 u4 u5 u6 u7, px u0 u1 u2 u3 u4 u5 u6 u7 → px' u0 u1 u2 u3 u4 u5 u6 u7) : ∀ (x1 : Int32) (x2 : Int32) (x3 : Int32) (x4 : Int32) (fO : (Nat → Int64)) (fU : (Nat → Int64)) (fW : (Nat → Int32)) (fG : (Nat → Int32)) (fL : (Nat → Int32)) (len : Int32) (size : Int32), wp_X_choose_72 post px x1 x2 x3 x4 fO fU fW fG fL len size  → wp_X_choose_72 post' px' x1 x2 x3 x4 fO fU fW fG fL len size  := by
  intro x1 x2 x3 x4 fO fU fW fG fL len size h
  rw [wp_X_choose_72] at h ⊢
  exact ⟨(fun g2 => (mo_X_choose_83 hpost hpx _ _ _ _ _ _ _ _ _ ((h).1 g2))), (fun g3 => (mo_X_choose_83 hpost hpx _ _ _ _ _ _ _ _ _ ((h).2 g3)))⟩

theorem mo_X_choose {post post' : (Nat → Int64) → (Nat → Int64) → (Nat → Int32) → (Nat → Int32) → (Nat → Int32) → Int32 → Int32 → Prop} {px px' : String → (Nat → Int64) → (Nat → Int64) → (Nat → Int32) → (Nat → Int32) → (Nat → Int32) → Int32 → Int32 → Prop} (hpost : ∀ u0 u1 u2 u3 u4 u5 u6, post u0 u1 u2 u3 u4 u5 u6 → post' u0 u1 u2 u3 u4 u5 u6) (hpx : ∀ u0 u1 u2 u3 u4 u5 u6 u7, px u0 u1 u2 u3 u4 u5 u6 u7 → px' u0 u1 u2 u3 u4 u5 u6 u7) : ∀ (fO : (Nat → Int64)) (fU : (Nat → Int64)) (fW : (Nat → Int32)) (fG : (Nat → Int32)) (fL : (Nat → Int32)) (len : Int32) (size : Int32), wp_X_choose post px fO fU fW fG fL len size  → wp_X_choose post' px' fO fU fW fG fL len size  := by
  intro fO fU fW fG fL len size h
  rw [wp_X_choose] at h ⊢
  exact (Or.imp (fun g1 => (mo_X_demandValues_k (fun fO2 fU2 fW2 fG2 fL2 len2 size2 g3 => (fun v11 g4 => (fun v18 g5 => (fun v25 g6 => (mo_X_bringTogether (fun fO29 fU29 fW29 fG29 fL29 len29 size29 g7 => (mo_X_anyOne (fun r34 fO34 fU34 fW34 fG34 fL34 len34 size34 g8 => ⟨(fun g10 => (mo_X_choose_72 hpost hpx _ _ _ _ _ _ _ _ _ _ _ ((g8).1 g10))), (fun g11 => (mo_X_sureOnes (fun r49 fO49 fU49 fW49 fG49 fL49 len49 size49 g12 => (mo_X_sureOnes (fun r54 fO54 fU54 fW54 fG54 fL54 len54 size54 g13 => (mo_X_sureZeros (fun r60 fO60 fU60 fW60 fG60 fL60 len60 size60 g14 => (mo_X_sureZeros (fun r65 fO65 fU65 fW65 fG65 fL65 len65 size65 g15 => (mo_X_setSure (fun fO69 fU69 fW69 fG69 fL69 len69 size69 g16 => (mo_X_choose_72 hpost hpx _ _ _ _ _ _ _ _ _ _ _ g16)) _ _ _ _ _ _ _ _ _ _ g15)) _ _ _ _ _ _ _ _ g14)) _ _ _ _ _ _ _ _ g13)) _ _ _ _ _ _ _ _ g12)) _ _ _ _ _ _ _ _ ((g8).2 g11)))⟩) _ _ _ _ _ _ _ _ g7)) _ _ _ _ _ _ _ _ _ (((g3 v11 g4) v18 g5) v25 g6)))))) _ _ _ _ _ _ _ _ g1)) (fun g2 => ⟨(g2).1, (hpx _ _ _ _ _ _ _ _ (g2).2)⟩) h)

theorem mo_X_join {post post' : (Nat → Int64) → (Nat → Int64) → (Nat → Int32) → (Nat → Int32) → (Nat → Int32) → Int32 → Int32 → Prop} {px px' : String → (Nat → Int64) → (Nat → Int64) → (Nat → Int32) → (Nat → Int32) → (Nat → Int32) → Int32 → Int32 → Prop} (hpost : ∀ u0 u1 u2 u3 u4 u5 u6, post u0 u1 u2 u3 u4 u5 u6 → post' u0 u1 u2 u3 u4 u5 u6) (hpx : ∀ u0 u1 u2 u3 u4 u5 u6 u7, px u0 u1 u2 u3 u4 u5 u6 u7 → px' u0 u1 u2 u3 u4 u5 u6 u7) : ∀ (fO : (Nat → Int64)) (fU : (Nat → Int64)) (fW : (Nat → Int32)) (fG : (Nat → Int32)) (fL : (Nat → Int32)) (len : Int32) (size : Int32), wp_X_join post px fO fU fW fG fL len size  → wp_X_join post' px' fO fU fW fG fL len size  := by
  intro fO fU fW fG fL len size h
  rw [wp_X_join] at h ⊢
  exact (Or.imp (fun g1 => (mo_X_demandValues_k (fun fO2 fU2 fW2 fG2 fL2 len2 size2 g3 => (fun v11 g4 => (fun v18 g5 => ⟨((g3 v11 g4) v18 g5).1, (fun v25 g7 => ⟨(((g3 v11 g4) v18 g5).2 v25 g7).1, (fun v34 g9 => (Or.imp (fun g10 => (mo_X_demandRange_k (fun g12 => ⟨(g12).1, ⟨(g12).2.1, ⟨(g12).2.2.1, ⟨(g12).2.2.2.1, (mo_X_setValue (fun fO79 fU79 fW79 fG79 fL79 len79 size79 g17 => (hpost _ _ _ _ _ _ _ g17)) _ _ _ _ _ _ _ _ _ _ _ _ (g12).2.2.2.2)⟩⟩⟩⟩) _ _ _ g10)) (fun g11 => ⟨(g11).1, (hpx _ _ _ _ _ _ _ _ (g11).2)⟩) ((((g3 v11 g4) v18 g5).2 v25 g7).2 v34 g9)))⟩)⟩))) _ _ _ _ _ _ _ _ g1)) (fun g2 => ⟨(g2).1, (hpx _ _ _ _ _ _ _ _ (g2).2)⟩) h)

theorem mo_X_copies_61 {post post' : (Nat → Int64) → (Nat → Int64) → (Nat → Int32) → (Nat → Int32) → (Nat → Int32) → Int32 → Int32 → Prop} {px px' : String → (Nat → Int64) → (Nat → Int64) → (Nat → Int32) → (Nat → Int32) → (Nat → Int32) → Int32 → Int32 → Prop} (hpost : ∀ u0 u1 u2 u3 u4 u5 u6, post u0 u1 u2 u3 u4 u5 u6 → post' u0 u1 u2 u3 u4 u5 u6) (hpx : ∀ u0 u1 u2 u3 u4 u5 u6 u7, px u0 u1 u2 u3 u4 u5 u6 u7 → px' u0 u1 u2 u3 u4 u5 u6 u7) : ∀ (n61 : Nat) (x1 : Int32) (x2 : Int32) (x3 : Int32) (x4 : Int64) (x6 : Int64) (x8 : Int32) (fO : (Nat → Int64)) (fU : (Nat → Int64)) (fW : (Nat → Int32)) (fG : (Nat → Int32)) (fL : (Nat → Int32)) (len : Int32) (size : Int32), wp_X_copies_61 post px n61 x1 x2 x3 x4 x6 x8 fO fU fW fG fL len size → wp_X_copies_61 post' px' n61 x1 x2 x3 x4 x6 x8 fO fU fW fG fL len size := by
  intro  n61
  induction n61 with
  | zero => intro x1 x2 x3 x4 x6 x8 fO fU fW fG fL len size h; exact False.elim h
  | succ n61 ih =>
    intro x1 x2 x3 x4 x6 x8 fO fU fW fG fL len size h
    rw [wp_X_copies_61] at h ⊢
    exact ⟨(fun g2 => (mo_X_setValue (fun fO109 fU109 fW109 fG109 fL109 len109 size109 g3 => (hpost _ _ _ _ _ _ _ g3)) _ _ _ _ _ _ _ _ _ _ _ _ ((h).1 g2))), (fun g4 => ⟨((h).2 g4).1, (fun v78 g6 => ⟨(((h).2 g4).2 v78 g6).1, (fun v91 g8 => (ih _ _ _ _ _ _ _ _ _ _ _ _ _ ((((h).2 g4).2 v78 g6).2 v91 g8)))⟩)⟩)⟩

theorem mo_X_copies {post post' : (Nat → Int64) → (Nat → Int64) → (Nat → Int32) → (Nat → Int32) → (Nat → Int32) → Int32 → Int32 → Prop} {px px' : String → (Nat → Int64) → (Nat → Int64) → (Nat → Int32) → (Nat → Int32) → (Nat → Int32) → Int32 → Int32 → Prop} (hpost : ∀ u0 u1 u2 u3 u4 u5 u6, post u0 u1 u2 u3 u4 u5 u6 → post' u0 u1 u2 u3 u4 u5 u6) (hpx : ∀ u0 u1 u2 u3 u4 u5 u6 u7, px u0 u1 u2 u3 u4 u5 u6 u7 → px' u0 u1 u2 u3 u4 u5 u6 u7) : ∀ (a1 : Int32) (fO : (Nat → Int64)) (fU : (Nat → Int64)) (fW : (Nat → Int32)) (fG : (Nat → Int32)) (fL : (Nat → Int32)) (len : Int32) (size : Int32), wp_X_copies post px a1 fO fU fW fG fL len size  → wp_X_copies post' px' a1 fO fU fW fG fL len size  := by
  intro a1 fO fU fW fG fL len size h
  rw [wp_X_copies] at h ⊢
  exact (Or.imp (fun g1 => (mo_X_demandRange_k (fun g3 => (Or.imp (fun g4 => (mo_X_demandValues_k (fun fO9 fU9 fW9 fG9 fL9 len9 size9 g6 => (fun v18 g7 => ⟨(g6 v18 g7).1, (fun v25 g9 => (Or.imp (fun g10 => (mo_X_demandRange_k (fun g12 => (Or.imp (fun g13 => (mo_X_demandRange_k (fun g15 => ⟨(g15).1, (fun v48 g17 => ⟨((g15).2 v48 g17).1, (fun v56 g19 => (Exists.imp (fun n61 g20 => (mo_X_copies_61 hpost hpx _ _ _ _ _ _ _ _ _ _ _ _ _ _ g20)) (((g15).2 v48 g17).2 v56 g19)))⟩)⟩) _ _ _ g13)) (fun g14 => ⟨(g14).1, (hpx _ _ _ _ _ _ _ _ (g14).2)⟩) g12)) _ _ _ g10)) (fun g11 => ⟨(g11).1, (hpx _ _ _ _ _ _ _ _ (g11).2)⟩) ((g6 v18 g7).2 v25 g9)))⟩)) _ _ _ _ _ _ _ _ g4)) (fun g5 => ⟨(g5).1, (hpx _ _ _ _ _ _ _ _ (g5).2)⟩) g3)) _ _ _ g1)) (fun g2 => ⟨(g2).1, (hpx _ _ _ _ _ _ _ _ (g2).2)⟩) h)

theorem mo_X_part {post post' : (Nat → Int64) → (Nat → Int64) → (Nat → Int32) → (Nat → Int32) → (Nat → Int32) → Int32 → Int32 → Prop} {px px' : String → (Nat → Int64) → (Nat → Int64) → (Nat → Int32) → (Nat → Int32) → (Nat → Int32) → Int32 → Int32 → Prop} (hpost : ∀ u0 u1 u2 u3 u4 u5 u6, post u0 u1 u2 u3 u4 u5 u6 → post' u0 u1 u2 u3 u4 u5 u6) (hpx : ∀ u0 u1 u2 u3 u4 u5 u6 u7, px u0 u1 u2 u3 u4 u5 u6 u7 → px' u0 u1 u2 u3 u4 u5 u6 u7) : ∀ (a1 : Int32) (a2 : Int32) (fO : (Nat → Int64)) (fU : (Nat → Int64)) (fW : (Nat → Int32)) (fG : (Nat → Int32)) (fL : (Nat → Int32)) (len : Int32) (size : Int32), wp_X_part post px a1 a2 fO fU fW fG fL len size  → wp_X_part post' px' a1 a2 fO fU fW fG fL len size  := by
  intro a1 a2 fO fU fW fG fL len size h
  rw [wp_X_part] at h ⊢
  exact (Or.imp (fun g1 => (mo_X_demandRange_k (fun g3 => (Or.imp (fun g4 => (mo_X_demandValues_k (fun fO8 fU8 fW8 fG8 fL8 len8 size8 g6 => (fun v17 g7 => ⟨(g6 v17 g7).1, (Or.imp (fun g9 => (mo_X_demandRange_k (fun g11 => ⟨(g11).1, ⟨(g11).2.1, (mo_X_setValue (fun fO55 fU55 fW55 fG55 fL55 len55 size55 g14 => (hpost _ _ _ _ _ _ _ g14)) _ _ _ _ _ _ _ _ _ _ _ _ (g11).2.2)⟩⟩) _ _ _ g9)) (fun g10 => ⟨(g10).1, (hpx _ _ _ _ _ _ _ _ (g10).2)⟩) (g6 v17 g7).2)⟩)) _ _ _ _ _ _ _ _ g4)) (fun g5 => ⟨(g5).1, (hpx _ _ _ _ _ _ _ _ (g5).2)⟩) g3)) _ _ _ g1)) (fun g2 => ⟨(g2).1, (hpx _ _ _ _ _ _ _ _ (g2).2)⟩) h)

theorem mo_X_bit_88 {post post' : (Nat → Int64) → (Nat → Int64) → (Nat → Int32) → (Nat → Int32) → (Nat → Int32) → Int32 → Int32 → Prop} {px px' : String → (Nat → Int64) → (Nat → Int64) → (Nat → Int32) → (Nat → Int32) → (Nat → Int32) → Int32 → Int32 → Prop} (hpost : ∀ u0 u1 u2 u3 u4 u5 u6, post u0 u1 u2 u3 u4 u5 u6 → post' u0 u1 u2 u3 u4 u5 u6) (hpx : ∀ u0 u1 u2 u3 u4 u5 u6 u7, px u0 u1 u2 u3 u4 u5 u6 u7 → px' u0 u1 u2 u3 u4 u5 u6 u7) : ∀ (fO : (Nat → Int64)) (fU : (Nat → Int64)) (fW : (Nat → Int32)) (fG : (Nat → Int32)) (fL : (Nat → Int32)) (len : Int32) (size : Int32), wp_X_bit_88 post px fO fU fW fG fL len size  → wp_X_bit_88 post' px' fO fU fW fG fL len size  := by
  intro fO fU fW fG fL len size h
  rw [wp_X_bit_88] at h ⊢
  exact (hpost _ _ _ _ _ _ _ h)

theorem mo_X_bit_54 {post post' : (Nat → Int64) → (Nat → Int64) → (Nat → Int32) → (Nat → Int32) → (Nat → Int32) → Int32 → Int32 → Prop} {px px' : String → (Nat → Int64) → (Nat → Int64) → (Nat → Int32) → (Nat → Int32) → (Nat → Int32) → Int32 → Int32 → Prop} (hpost : ∀ u0 u1 u2 u3 u4 u5 u6, post u0 u1 u2 u3 u4 u5 u6 → post' u0 u1 u2 u3 u4 u5 u6) (hpx : ∀ u0 u1 u2 u3 u4 u5 u6 u7, px u0 u1 u2 u3 u4 u5 u6 u7 → px' u0 u1 u2 u3 u4 u5 u6 u7) : ∀ (x1 : Int32) (fO : (Nat → Int64)) (fU : (Nat → Int64)) (fW : (Nat → Int32)) (fG : (Nat → Int32)) (fL : (Nat → Int32)) (len : Int32) (size : Int32), wp_X_bit_54 post px x1 fO fU fW fG fL len size  → wp_X_bit_54 post' px' x1 fO fU fW fG fL len size  := by
  intro x1 fO fU fW fG fL len size h
  rw [wp_X_bit_54] at h ⊢
  exact (mo_X_setTruth (fun fO57 fU57 fW57 fG57 fL57 len57 size57 g1 => (mo_X_bit_88 hpost hpx _ _ _ _ _ _ _ g1)) _ _ _ _ _ _ _ _ _ h)

theorem mo_X_bit {post post' : (Nat → Int64) → (Nat → Int64) → (Nat → Int32) → (Nat → Int32) → (Nat → Int32) → Int32 → Int32 → Prop} {px px' : String → (Nat → Int64) → (Nat → Int64) → (Nat → Int32) → (Nat → Int32) → (Nat → Int32) → Int32 → Int32 → Prop} (hpost : ∀ u0 u1 u2 u3 u4 u5 u6, post u0 u1 u2 u3 u4 u5 u6 → post' u0 u1 u2 u3 u4 u5 u6) (hpx : ∀ u0 u1 u2 u3 u4 u5 u6 u7, px u0 u1 u2 u3 u4 u5 u6 u7 → px' u0 u1 u2 u3 u4 u5 u6 u7) : ∀ (fO : (Nat → Int64)) (fU : (Nat → Int64)) (fW : (Nat → Int32)) (fG : (Nat → Int32)) (fL : (Nat → Int32)) (len : Int32) (size : Int32), wp_X_bit post px fO fU fW fG fL len size  → wp_X_bit post' px' fO fU fW fG fL len size  := by
  intro fO fU fW fG fL len size h
  rw [wp_X_bit] at h ⊢
  exact (Or.imp (fun g1 => (mo_X_demandValues_k (fun fO2 fU2 fW2 fG2 fL2 len2 size2 g3 => (fun v11 g4 => (fun v18 g5 => (mo_X_number (fun r21 fO21 fU21 fW21 fG21 fL21 len21 size21 g6 => ⟨(g6).1, ⟨(fun g9 => (mo_X_bit_54 hpost hpx _ _ _ _ _ _ _ _ ((g6).2.1 g9))), (fun g10 => ⟨(fun g12 => (mo_X_bit_54 hpost hpx _ _ _ _ _ _ _ _ (((g6).2.2 g10).1 g12))), (fun g13 => ⟨(((g6).2.2 g10).2 g13).1, ⟨(fun g16 => ⟨((((g6).2.2 g10).2 g13).2.1 g16).1, ⟨((((g6).2.2 g10).2 g13).2.1 g16).2.1, (mo_X_setValue (fun fO85 fU85 fW85 fG85 fL85 len85 size85 g19 => (mo_X_bit_88 hpost hpx _ _ _ _ _ _ _ g19)) _ _ _ _ _ _ _ _ _ _ _ _ ((((g6).2.2 g10).2 g13).2.1 g16).2.2)⟩⟩), (fun g20 => (mo_X_bit_54 hpost hpx _ _ _ _ _ _ _ _ ((((g6).2.2 g10).2 g13).2.2 g20)))⟩⟩)⟩)⟩⟩) _ _ _ _ _ _ _ _ ((g3 v11 g4) v18 g5))))) _ _ _ _ _ _ _ _ g1)) (fun g2 => ⟨(g2).1, (hpx _ _ _ _ _ _ _ _ (g2).2)⟩) h)

theorem mo_X_as {post post' : (Nat → Int64) → (Nat → Int64) → (Nat → Int32) → (Nat → Int32) → (Nat → Int32) → Int32 → Int32 → Prop} {px px' : String → (Nat → Int64) → (Nat → Int64) → (Nat → Int32) → (Nat → Int32) → (Nat → Int32) → Int32 → Int32 → Prop} (hpost : ∀ u0 u1 u2 u3 u4 u5 u6, post u0 u1 u2 u3 u4 u5 u6 → post' u0 u1 u2 u3 u4 u5 u6) (hpx : ∀ u0 u1 u2 u3 u4 u5 u6 u7, px u0 u1 u2 u3 u4 u5 u6 u7 → px' u0 u1 u2 u3 u4 u5 u6 u7) : ∀ (a1 : Int32) (a2 : Int32) (fO : (Nat → Int64)) (fU : (Nat → Int64)) (fW : (Nat → Int32)) (fG : (Nat → Int32)) (fL : (Nat → Int32)) (len : Int32) (size : Int32), wp_X_as post px a1 a2 fO fU fW fG fL len size  → wp_X_as post' px' a1 a2 fO fU fW fG fL len size  := by
  intro a1 a2 fO fU fW fG fL len size h
  rw [wp_X_as] at h ⊢
  exact (Or.imp (fun g1 => (mo_X_demandRange_k (fun g3 => (Or.imp (fun g4 => (mo_X_demandValues_k (fun fO9 fU9 fW9 fG9 fL9 len9 size9 g6 => (fun v18 g7 => ⟨(g6 v18 g7).1, (mo_X_setWidth (fun fO28 fU28 fW28 fG28 fL28 len28 size28 g9 => ⟨(g9).1, (hpost _ _ _ _ _ _ _ (g9).2)⟩) _ _ _ _ _ _ _ _ _ _ (g6 v18 g7).2)⟩)) _ _ _ _ _ _ _ _ g4)) (fun g5 => ⟨(g5).1, (hpx _ _ _ _ _ _ _ _ (g5).2)⟩) g3)) _ _ _ g1)) (fun g2 => ⟨(g2).1, (hpx _ _ _ _ _ _ _ _ (g2).2)⟩) h)

theorem mo_X_again {post post' : (Nat → Int64) → (Nat → Int64) → (Nat → Int32) → (Nat → Int32) → (Nat → Int32) → Int32 → Int32 → Prop} {px px' : String → (Nat → Int64) → (Nat → Int64) → (Nat → Int32) → (Nat → Int32) → (Nat → Int32) → Int32 → Int32 → Prop} (hpost : ∀ u0 u1 u2 u3 u4 u5 u6, post u0 u1 u2 u3 u4 u5 u6 → post' u0 u1 u2 u3 u4 u5 u6) (hpx : ∀ u0 u1 u2 u3 u4 u5 u6 u7, px u0 u1 u2 u3 u4 u5 u6 u7 → px' u0 u1 u2 u3 u4 u5 u6 u7) : ∀ (a1 : Int32) (fO : (Nat → Int64)) (fU : (Nat → Int64)) (fW : (Nat → Int32)) (fG : (Nat → Int32)) (fL : (Nat → Int32)) (len : Int32) (size : Int32), wp_X_again post px a1 fO fU fW fG fL len size  → wp_X_again post' px' a1 fO fU fW fG fL len size  := by
  intro a1 fO fU fW fG fL len size h
  rw [wp_X_again] at h ⊢
  exact (Or.imp (fun g1 => (mo_X_demandRange_k (fun g3 => (Or.imp (fun g4 => (mo_X_demandPlace_k (fun fO9 fU9 fW9 fG9 fL9 len9 size9 g6 => (Or.imp (fun g7 => (mo_X_demandRoom_k (fun fO13 fU13 fW13 fG13 fL13 len13 size13 g9 => (mo_X_copyValue (fun fO29 fU29 fW29 fG29 fL29 len29 size29 g10 => (hpost _ _ _ _ _ _ _ g10)) _ _ _ _ _ _ _ _ _ g9)) _ _ _ _ _ _ _ g7)) (fun g8 => ⟨(g8).1, (hpx _ _ _ _ _ _ _ _ (g8).2)⟩) g6)) _ _ _ _ _ _ _ _ g4)) (fun g5 => ⟨(g5).1, (hpx _ _ _ _ _ _ _ _ (g5).2)⟩) g3)) _ _ _ g1)) (fun g2 => ⟨(g2).1, (hpx _ _ _ _ _ _ _ _ (g2).2)⟩) h)

theorem mo_X_text_54 {post post' : Int32 → (Nat → Int64) → (Nat → Int64) → (Nat → Int32) → (Nat → Int32) → (Nat → Int32) → Int32 → Int32 → Prop} {px px' : String → (Nat → Int64) → (Nat → Int64) → (Nat → Int32) → (Nat → Int32) → (Nat → Int32) → Int32 → Int32 → Prop} (hpost : ∀ u0 u1 u2 u3 u4 u5 u6 u7, post u0 u1 u2 u3 u4 u5 u6 u7 → post' u0 u1 u2 u3 u4 u5 u6 u7) (hpx : ∀ u0 u1 u2 u3 u4 u5 u6 u7, px u0 u1 u2 u3 u4 u5 u6 u7 → px' u0 u1 u2 u3 u4 u5 u6 u7) : ∀ (fO : (Nat → Int64)) (fU : (Nat → Int64)) (fW : (Nat → Int32)) (fG : (Nat → Int32)) (fL : (Nat → Int32)) (len : Int32) (size : Int32), wp_X_text_54 post px fO fU fW fG fL len size  → wp_X_text_54 post' px' fO fU fW fG fL len size  := by
  intro fO fU fW fG fL len size h
  rw [wp_X_text_54] at h ⊢
  exact (hpost _ _ _ _ _ _ _ _ h)

theorem mo_X_text_50 {post post' : Int32 → (Nat → Int64) → (Nat → Int64) → (Nat → Int32) → (Nat → Int32) → (Nat → Int32) → Int32 → Int32 → Prop} {px px' : String → (Nat → Int64) → (Nat → Int64) → (Nat → Int32) → (Nat → Int32) → (Nat → Int32) → Int32 → Int32 → Prop} (hpost : ∀ u0 u1 u2 u3 u4 u5 u6 u7, post u0 u1 u2 u3 u4 u5 u6 u7 → post' u0 u1 u2 u3 u4 u5 u6 u7) (hpx : ∀ u0 u1 u2 u3 u4 u5 u6 u7, px u0 u1 u2 u3 u4 u5 u6 u7 → px' u0 u1 u2 u3 u4 u5 u6 u7) : ∀ (x2 : Int32) (t0 : Int32) (t1 : Int32) (fO : (Nat → Int64)) (fU : (Nat → Int64)) (fW : (Nat → Int32)) (fG : (Nat → Int32)) (fL : (Nat → Int32)) (len : Int32) (size : Int32), wp_X_text_50 post px x2 t0 t1 fO fU fW fG fL len size  → wp_X_text_50 post' px' x2 t0 t1 fO fU fW fG fL len size  := by
  intro x2 t0 t1 fO fU fW fG fL len size h
  rw [wp_X_text_50] at h ⊢
  exact (mo_X_writeGroups (fun fO51 fU51 fW51 fG51 fL51 len51 size51 g1 => (mo_X_text_54 hpost hpx _ _ _ _ _ _ _ g1)) _ _ _ _ _ _ _ _ _ _ h)

theorem mo_X_text {post post' : Int32 → (Nat → Int64) → (Nat → Int64) → (Nat → Int32) → (Nat → Int32) → (Nat → Int32) → Int32 → Int32 → Prop} {px px' : String → (Nat → Int64) → (Nat → Int64) → (Nat → Int32) → (Nat → Int32) → (Nat → Int32) → Int32 → Int32 → Prop} (hpost : ∀ u0 u1 u2 u3 u4 u5 u6 u7, post u0 u1 u2 u3 u4 u5 u6 u7 → post' u0 u1 u2 u3 u4 u5 u6 u7) (hpx : ∀ u0 u1 u2 u3 u4 u5 u6 u7, px u0 u1 u2 u3 u4 u5 u6 u7 → px' u0 u1 u2 u3 u4 u5 u6 u7) : ∀ (a1 : Int32) (a2 : Int32) (fO : (Nat → Int64)) (fU : (Nat → Int64)) (fW : (Nat → Int32)) (fG : (Nat → Int32)) (fL : (Nat → Int32)) (len : Int32) (size : Int32), wp_X_text post px a1 a2 fO fU fW fG fL len size  → wp_X_text post' px' a1 a2 fO fU fW fG fL len size  := by
  intro a1 a2 fO fU fW fG fL len size h
  rw [wp_X_text] at h ⊢
  exact (Or.imp (fun g1 => (mo_X_demandRange_k (fun g3 => (Or.imp (fun g4 => (mo_X_demandValues_k (fun fO8 fU8 fW8 fG8 fL8 len8 size8 g6 => (fun v17 g7 => (mo_N_clear (fun fL22 len22 g8 => ⟨(fun g10 => ⟨(fun g12 => (mo_X_text_50 hpost hpx _ _ _ _ _ _ _ _ _ _ (((g8).1 g10).1 g12))), (fun g13 => (mo_X_text_50 hpost hpx _ _ _ _ _ _ _ _ _ _ (((g8).1 g10).2 g13)))⟩), (fun g14 => (mo_X_writeNumber (fun fO33 fU33 fW33 fG33 fL33 len33 size33 g15 => (mo_X_text_54 hpost hpx _ _ _ _ _ _ _ g15)) _ _ _ _ _ _ _ _ _ ((g8).2 g14)))⟩) _ _ (g6 v17 g7)))) _ _ _ _ _ _ _ _ g4)) (fun g5 => ⟨(g5).1, (hpx _ _ _ _ _ _ _ _ (g5).2)⟩) g3)) _ _ _ g1)) (fun g2 => ⟨(g2).1, (hpx _ _ _ _ _ _ _ _ (g2).2)⟩) h)

theorem mo_X_letter_15 {post post' : Int32 → (Nat → Int64) → (Nat → Int64) → (Nat → Int32) → (Nat → Int32) → (Nat → Int32) → Int32 → Int32 → Prop} {px px' : String → (Nat → Int64) → (Nat → Int64) → (Nat → Int32) → (Nat → Int32) → (Nat → Int32) → Int32 → Int32 → Prop} (hpost : ∀ u0 u1 u2 u3 u4 u5 u6 u7, post u0 u1 u2 u3 u4 u5 u6 u7 → post' u0 u1 u2 u3 u4 u5 u6 u7) (hpx : ∀ u0 u1 u2 u3 u4 u5 u6 u7, px u0 u1 u2 u3 u4 u5 u6 u7 → px' u0 u1 u2 u3 u4 u5 u6 u7) : ∀ (fO : (Nat → Int64)) (fU : (Nat → Int64)) (fW : (Nat → Int32)) (fG : (Nat → Int32)) (fL : (Nat → Int32)) (len : Int32) (size : Int32), wp_X_letter_15 post px fO fU fW fG fL len size  → wp_X_letter_15 post' px' fO fU fW fG fL len size  := by
  intro fO fU fW fG fL len size h
  rw [wp_X_letter_15] at h ⊢
  exact (hpx _ _ _ _ _ _ _ _ h)

theorem mo_X_letter {post post' : Int32 → (Nat → Int64) → (Nat → Int64) → (Nat → Int32) → (Nat → Int32) → (Nat → Int32) → Int32 → Int32 → Prop} {px px' : String → (Nat → Int64) → (Nat → Int64) → (Nat → Int32) → (Nat → Int32) → (Nat → Int32) → Int32 → Int32 → Prop} (hpost : ∀ u0 u1 u2 u3 u4 u5 u6 u7, post u0 u1 u2 u3 u4 u5 u6 u7 → post' u0 u1 u2 u3 u4 u5 u6 u7) (hpx : ∀ u0 u1 u2 u3 u4 u5 u6 u7, px u0 u1 u2 u3 u4 u5 u6 u7 → px' u0 u1 u2 u3 u4 u5 u6 u7) : ∀ (a1 : Int32) (fO : (Nat → Int64)) (fU : (Nat → Int64)) (fW : (Nat → Int32)) (fG : (Nat → Int32)) (fL : (Nat → Int32)) (len : Int32) (size : Int32), wp_X_letter post px a1 fO fU fW fG fL len size  → wp_X_letter post' px' a1 fO fU fW fG fL len size  := by
  intro a1 fO fU fW fG fL len size h
  rw [wp_X_letter] at h ⊢
  exact ⟨(fun g2 => (mo_X_letter_15 hpost hpx _ _ _ _ _ _ _ ((h).1 g2))), (fun g3 => ⟨(fun g5 => ⟨(((h).2 g3).1 g5).1, (hpost _ _ _ _ _ _ _ _ (((h).2 g3).1 g5).2)⟩), (fun g7 => (mo_X_letter_15 hpost hpx _ _ _ _ _ _ _ (((h).2 g3).2 g7)))⟩)⟩

theorem mo_X_told_88 {post post' : Int64 → (Nat → Int64) → (Nat → Int64) → (Nat → Int32) → (Nat → Int32) → (Nat → Int32) → Int32 → Int32 → Prop} {px px' : String → (Nat → Int64) → (Nat → Int64) → (Nat → Int32) → (Nat → Int32) → (Nat → Int32) → Int32 → Int32 → Prop} (hpost : ∀ u0 u1 u2 u3 u4 u5 u6 u7, post u0 u1 u2 u3 u4 u5 u6 u7 → post' u0 u1 u2 u3 u4 u5 u6 u7) (hpx : ∀ u0 u1 u2 u3 u4 u5 u6 u7, px u0 u1 u2 u3 u4 u5 u6 u7 → px' u0 u1 u2 u3 u4 u5 u6 u7) : ∀ (t0 : Int64) (fO : (Nat → Int64)) (fU : (Nat → Int64)) (fW : (Nat → Int32)) (fG : (Nat → Int32)) (fL : (Nat → Int32)) (len : Int32) (size : Int32), wp_X_told_88 post px t0 fO fU fW fG fL len size  → wp_X_told_88 post' px' t0 fO fU fW fG fL len size  := by
  intro t0 fO fU fW fG fL len size h
  rw [wp_X_told_88] at h ⊢
  exact (hpost _ _ _ _ _ _ _ _ h)

theorem mo_X_told {post post' : Int64 → (Nat → Int64) → (Nat → Int64) → (Nat → Int32) → (Nat → Int32) → (Nat → Int32) → Int32 → Int32 → Prop} {px px' : String → (Nat → Int64) → (Nat → Int64) → (Nat → Int32) → (Nat → Int32) → (Nat → Int32) → Int32 → Int32 → Prop} (hpost : ∀ u0 u1 u2 u3 u4 u5 u6 u7, post u0 u1 u2 u3 u4 u5 u6 u7 → post' u0 u1 u2 u3 u4 u5 u6 u7) (hpx : ∀ u0 u1 u2 u3 u4 u5 u6 u7, px u0 u1 u2 u3 u4 u5 u6 u7 → px' u0 u1 u2 u3 u4 u5 u6 u7) : ∀ (a1 : Int32) (a2 : Int32) (fO : (Nat → Int64)) (fU : (Nat → Int64)) (fW : (Nat → Int32)) (fG : (Nat → Int32)) (fL : (Nat → Int32)) (len : Int32) (size : Int32), wp_X_told post px a1 a2 fO fU fW fG fL len size  → wp_X_told post' px' a1 a2 fO fU fW fG fL len size  := by
  intro a1 a2 fO fU fW fG fL len size h
  rw [wp_X_told] at h ⊢
  exact (Or.imp (fun g1 => (mo_X_demandRange_k (fun g3 => (Or.imp (fun g4 => (mo_X_demandPlace_k (fun fO8 fU8 fW8 fG8 fL8 len8 size8 g6 => (fun v19 g7 => ⟨(fun g9 => (mo_X_anyOne (fun r91 fO91 fU91 fW91 fG91 fL91 len91 size91 g10 => (hpost _ _ _ _ _ _ _ _ g10)) _ _ _ _ _ _ _ _ ((g6 v19 g7).1 g9))), ⟨(fun g12 => ⟨((g6 v19 g7).2.1 g12).1, (hpost _ _ _ _ _ _ _ _ ((g6 v19 g7).2.1 g12).2)⟩), ⟨(fun g15 => ⟨((g6 v19 g7).2.2.1 g15).1, (hpost _ _ _ _ _ _ _ _ ((g6 v19 g7).2.2.1 g15).2)⟩), ⟨(fun g18 => ⟨((g6 v19 g7).2.2.2.1 g18).1, (hpost _ _ _ _ _ _ _ _ ((g6 v19 g7).2.2.2.1 g18).2)⟩), (fun g20 => ⟨((g6 v19 g7).2.2.2.2 g20).1, ⟨(fun g23 => (mo_X_told_88 hpost hpx _ _ _ _ _ _ _ _ (((g6 v19 g7).2.2.2.2 g20).2.1 g23))), (fun g24 => (mo_X_told_88 hpost hpx _ _ _ _ _ _ _ _ (((g6 v19 g7).2.2.2.2 g20).2.2 g24)))⟩⟩)⟩⟩⟩⟩)) _ _ _ _ _ _ _ _ g4)) (fun g5 => ⟨(g5).1, (hpx _ _ _ _ _ _ _ _ (g5).2)⟩) g3)) _ _ _ g1)) (fun g2 => ⟨(g2).1, (hpx _ _ _ _ _ _ _ _ (g2).2)⟩) h)

theorem mo_X_count_25 {post post' : Int32 → (Nat → Int64) → (Nat → Int64) → (Nat → Int32) → (Nat → Int32) → (Nat → Int32) → Int32 → Int32 → Prop} (hpost : ∀ u0 u1 u2 u3 u4 u5 u6 u7, post u0 u1 u2 u3 u4 u5 u6 u7 → post' u0 u1 u2 u3 u4 u5 u6 u7) : ∀ (t0 : Int32) (fO : (Nat → Int64)) (fU : (Nat → Int64)) (fW : (Nat → Int32)) (fG : (Nat → Int32)) (fL : (Nat → Int32)) (len : Int32) (size : Int32), wp_X_count_25 post t0 fO fU fW fG fL len size  → wp_X_count_25 post' t0 fO fU fW fG fL len size  := by
  intro t0 fO fU fW fG fL len size h
  rw [wp_X_count_25] at h ⊢
  exact (hpost _ _ _ _ _ _ _ _ h)

theorem mo_X_count {post post' : Int32 → (Nat → Int64) → (Nat → Int64) → (Nat → Int32) → (Nat → Int32) → (Nat → Int32) → Int32 → Int32 → Prop} (hpost : ∀ u0 u1 u2 u3 u4 u5 u6 u7, post u0 u1 u2 u3 u4 u5 u6 u7 → post' u0 u1 u2 u3 u4 u5 u6 u7) : ∀ (a1 : Int32) (fO : (Nat → Int64)) (fU : (Nat → Int64)) (fW : (Nat → Int32)) (fG : (Nat → Int32)) (fL : (Nat → Int32)) (len : Int32) (size : Int32), wp_X_count post a1 fO fU fW fG fL len size  → wp_X_count post' a1 fO fU fW fG fL len size  := by
  intro a1 fO fU fW fG fL len size h
  rw [wp_X_count] at h ⊢
  exact ⟨(fun g2 => ⟨(fun g4 => (mo_X_count_25 hpost _ _ _ _ _ _ _ _ (((h).1 g2).1 g4))), (fun g5 => (mo_X_count_25 hpost _ _ _ _ _ _ _ _ (((h).1 g2).2 g5)))⟩), (fun g6 => (hpost _ _ _ _ _ _ _ _ ((h).2 g6)))⟩

theorem mo_M_dark_2 {post post' : Int32 → (Nat → Int32) → Prop} (hpost : ∀ u0 u1, post u0 u1 → post' u0 u1) : ∀ (n2 : Nat) (x1 : Int32) (x2 : Int32) (fx : (Nat → Int32)), wp_M_dark_2 post n2 x1 x2 fx → wp_M_dark_2 post' n2 x1 x2 fx := by
  intro  n2
  induction n2 with
  | zero => intro x1 x2 fx h; exact False.elim h
  | succ n2 ih =>
    intro x1 x2 fx h
    rw [wp_M_dark_2] at h ⊢
    exact ⟨(fun g2 => ⟨((h).1 g2).1, (hpost _ _ ((h).1 g2).2)⟩), (fun g4 => ⟨((h).2 g4).1, ⟨(fun g7 => (ih _ _ _ (((h).2 g4).2.1 g7))), (fun g8 => ⟨(((h).2 g4).2.2 g8).1, (hpost _ _ (((h).2 g4).2.2 g8).2)⟩)⟩⟩)⟩

theorem mo_M_dark {post post' : Int32 → (Nat → Int32) → Prop} (hpost : ∀ u0 u1, post u0 u1 → post' u0 u1) : ∀ (a1 : Int32) (fx : (Nat → Int32)), wp_M_dark post a1 fx  → wp_M_dark post' a1 fx  := by
  intro a1 fx h
  rw [wp_M_dark] at h ⊢
  exact (Exists.imp (fun n2 g1 => (mo_M_dark_2 hpost _ _ _ _ g1)) h)

theorem mo_M_fill_2 {post post' : (Nat → Int32) → Prop} (hpost : ∀ u0, post u0 → post' u0) : ∀ (n2 : Nat) (x1 : Int32) (x2 : Int32) (x3 : Int32) (fx : (Nat → Int32)), wp_M_fill_2 post n2 x1 x2 x3 fx → wp_M_fill_2 post' n2 x1 x2 x3 fx := by
  intro  n2
  induction n2 with
  | zero => intro x1 x2 x3 fx h; exact False.elim h
  | succ n2 ih =>
    intro x1 x2 x3 fx h
    rw [wp_M_fill_2] at h ⊢
    exact ⟨(fun g2 => (hpost _ ((h).1 g2))), (fun g3 => ⟨((h).2 g3).1, (ih _ _ _ _ ((h).2 g3).2)⟩)⟩

theorem mo_M_fill {post post' : (Nat → Int32) → Prop} (hpost : ∀ u0, post u0 → post' u0) : ∀ (a1 : Int32) (a2 : Int32) (fx : (Nat → Int32)), wp_M_fill post a1 a2 fx  → wp_M_fill post' a1 a2 fx  := by
  intro a1 a2 fx h
  rw [wp_M_fill] at h ⊢
  exact (Exists.imp (fun n2 g1 => (mo_M_fill_2 hpost _ _ _ _ _ g1)) h)

theorem mo_M_truth_35 {post post' : Int32 → (Nat → Int32) → Prop} (hpost : ∀ u0 u1, post u0 u1 → post' u0 u1) : ∀ (t0 : Int32) (fx : (Nat → Int32)), wp_M_truth_35 post t0 fx  → wp_M_truth_35 post' t0 fx  := by
  intro t0 fx h
  rw [wp_M_truth_35] at h ⊢
  exact (hpost _ _ h)

theorem mo_M_truth_2 {post post' : Int32 → (Nat → Int32) → Prop} (hpost : ∀ u0 u1, post u0 u1 → post' u0 u1) : ∀ (n2 : Nat) (x1 : Int32) (x2 : Int32) (fx : (Nat → Int32)), wp_M_truth_2 post n2 x1 x2 fx → wp_M_truth_2 post' n2 x1 x2 fx := by
  intro  n2
  induction n2 with
  | zero => intro x1 x2 fx h; exact False.elim h
  | succ n2 ih =>
    intro x1 x2 fx h
    rw [wp_M_truth_2] at h ⊢
    exact ⟨(fun g2 => (mo_M_dark (fun r24 fx24 g3 => ⟨(fun g5 => (mo_M_truth_35 hpost _ _ ((g3).1 g5))), (fun g6 => (mo_M_truth_35 hpost _ _ ((g3).2 g6)))⟩) _ _ ((h).1 g2))), (fun g7 => ⟨((h).2 g7).1, ⟨(fun g10 => (ih _ _ _ (((h).2 g7).2.1 g10))), (fun g11 => (hpost _ _ (((h).2 g7).2.2 g11)))⟩⟩)⟩

theorem mo_M_truth {post post' : Int32 → (Nat → Int32) → Prop} (hpost : ∀ u0 u1, post u0 u1 → post' u0 u1) : ∀ (a1 : Int32) (fx : (Nat → Int32)), wp_M_truth post a1 fx  → wp_M_truth post' a1 fx  := by
  intro a1 fx h
  rw [wp_M_truth] at h ⊢
  exact (Exists.imp (fun n2 g1 => (mo_M_truth_2 hpost _ _ _ _ g1)) h)

theorem mo_M_negate_4 {post post' : (Nat → Int32) → Prop} (hpost : ∀ u0, post u0 → post' u0) : ∀ (n4 : Nat) (x1 : Int32) (x2 : Int32) (x3 : Int32) (fx : (Nat → Int32)), wp_M_negate_4 post n4 x1 x2 x3 fx → wp_M_negate_4 post' n4 x1 x2 x3 fx := by
  intro  n4
  induction n4 with
  | zero => intro x1 x2 x3 fx h; exact False.elim h
  | succ n4 ih =>
    intro x1 x2 x3 fx h
    rw [wp_M_negate_4] at h ⊢
    exact ⟨(fun g2 => (hpost _ ((h).1 g2))), (fun g3 => ⟨((h).2 g3).1, (fun v16 g5 => ⟨(((h).2 g3).2 v16 g5).1, (fun v30 g7 => (ih _ _ _ _ ((((h).2 g3).2 v16 g5).2 v30 g7)))⟩)⟩)⟩

theorem mo_M_negate {post post' : (Nat → Int32) → Prop} (hpost : ∀ u0, post u0 → post' u0) : ∀ (a1 : Int32) (fx : (Nat → Int32)), wp_M_negate post a1 fx  → wp_M_negate post' a1 fx  := by
  intro a1 fx h
  rw [wp_M_negate] at h ⊢
  exact (Exists.imp (fun n4 g1 => (mo_M_negate_4 hpost _ _ _ _ _ g1)) h)

theorem mo_M_isZero_2 {post post' : Int32 → (Nat → Int32) → Prop} (hpost : ∀ u0 u1, post u0 u1 → post' u0 u1) : ∀ (n2 : Nat) (x1 : Int32) (x2 : Int32) (fx : (Nat → Int32)), wp_M_isZero_2 post n2 x1 x2 fx → wp_M_isZero_2 post' n2 x1 x2 fx := by
  intro  n2
  induction n2 with
  | zero => intro x1 x2 fx h; exact False.elim h
  | succ n2 ih =>
    intro x1 x2 fx h
    rw [wp_M_isZero_2] at h ⊢
    exact ⟨(fun g2 => ⟨((h).1 g2).1, (hpost _ _ ((h).1 g2).2)⟩), (fun g4 => ⟨((h).2 g4).1, ⟨(fun g7 => (ih _ _ _ (((h).2 g4).2.1 g7))), (fun g8 => ⟨(((h).2 g4).2.2 g8).1, (hpost _ _ (((h).2 g4).2.2 g8).2)⟩)⟩⟩)⟩

theorem mo_M_isZero {post post' : Int32 → (Nat → Int32) → Prop} (hpost : ∀ u0 u1, post u0 u1 → post' u0 u1) : ∀ (a1 : Int32) (fx : (Nat → Int32)), wp_M_isZero post a1 fx  → wp_M_isZero post' a1 fx  := by
  intro a1 fx h
  rw [wp_M_isZero] at h ⊢
  exact (Exists.imp (fun n2 g1 => (mo_M_isZero_2 hpost _ _ _ _ g1)) h)

theorem mo_M_add_7 {post post' : (Nat → Int32) → (Nat → Int32) → (Nat → Int32) → Prop} (hpost : ∀ u0 u1 u2, post u0 u1 u2 → post' u0 u1 u2) : ∀ (n7 : Nat) (x3 : Int32) (x5 : Int32) (x6 : Int32) (fx : (Nat → Int32)) (fy : (Nat → Int32)) (fz : (Nat → Int32)), wp_M_add_7 post n7 x3 x5 x6 fx fy fz → wp_M_add_7 post' n7 x3 x5 x6 fx fy fz := by
  intro  n7
  induction n7 with
  | zero => intro x3 x5 x6 fx fy fz h; exact False.elim h
  | succ n7 ih =>
    intro x3 x5 x6 fx fy fz h
    rw [wp_M_add_7] at h ⊢
    exact ⟨(fun g2 => (hpost _ _ _ ((h).1 g2))), (fun g3 => ⟨((h).2 g3).1, ⟨((h).2 g3).2.1, (fun v25 g6 => ⟨(((h).2 g3).2.2 v25 g6).1, (fun v40 g8 => (ih _ _ _ _ _ _ ((((h).2 g3).2.2 v25 g6).2 v40 g8)))⟩)⟩⟩)⟩

theorem mo_M_add {post post' : (Nat → Int32) → (Nat → Int32) → (Nat → Int32) → Prop} (hpost : ∀ u0 u1 u2, post u0 u1 u2 → post' u0 u1 u2) : ∀ (a3 : Int32) (a4 : Int32) (fx : (Nat → Int32)) (fy : (Nat → Int32)) (fz : (Nat → Int32)), wp_M_add post a3 a4 fx fy fz  → wp_M_add post' a3 a4 fx fy fz  := by
  intro a3 a4 fx fy fz h
  rw [wp_M_add] at h ⊢
  exact (Exists.imp (fun n7 g1 => (mo_M_add_7 hpost _ _ _ _ _ _ _ g1)) h)

theorem mo_M_opposite_12 {post post' : Int32 → Prop} (hpost : ∀ u0, post u0 → post' u0) : ∀ (t0 : Int32), wp_M_opposite_12 post t0  → wp_M_opposite_12 post' t0  := by
  intro t0 h
  rw [wp_M_opposite_12] at h ⊢
  exact (hpost _ h)

theorem mo_M_opposite {post post' : Int32 → Prop} (hpost : ∀ u0, post u0 → post' u0) : ∀ (a0 : Int32), wp_M_opposite post a0  → wp_M_opposite post' a0  := by
  intro a0 h
  rw [wp_M_opposite] at h ⊢
  exact ⟨(fun g2 => (mo_M_opposite_12 hpost _ ((h).1 g2))), (fun g3 => (mo_M_opposite_12 hpost _ ((h).2 g3)))⟩

theorem mo_M_logic_98 {post post' : Int32 → Prop} (hpost : ∀ u0, post u0 → post' u0) : ∀ (t0 : Int32), wp_M_logic_98 post t0  → wp_M_logic_98 post' t0  := by
  intro t0 h
  rw [wp_M_logic_98] at h ⊢
  exact (hpost _ h)

theorem mo_M_logic_72 {post post' : Int32 → Prop} (hpost : ∀ u0, post u0 → post' u0) : ∀ (t0 : Int32), wp_M_logic_72 post t0  → wp_M_logic_72 post' t0  := by
  intro t0 h
  rw [wp_M_logic_72] at h ⊢
  exact (hpost _ h)

theorem mo_M_logic_59 {post post' : Int32 → Prop} (hpost : ∀ u0, post u0 → post' u0) : wp_M_logic_59 post  → wp_M_logic_59 post'  := by
  intro  h
  rw [wp_M_logic_59] at h ⊢
  exact (mo_M_logic_72 hpost _ h)

theorem mo_M_logic_42 {post post' : Int32 → Prop} (hpost : ∀ u0, post u0 → post' u0) : ∀ (t0 : Int32), wp_M_logic_42 post t0  → wp_M_logic_42 post' t0  := by
  intro t0 h
  rw [wp_M_logic_42] at h ⊢
  exact (hpost _ h)

theorem mo_M_logic_29 {post post' : Int32 → Prop} (hpost : ∀ u0, post u0 → post' u0) : wp_M_logic_29 post  → wp_M_logic_29 post'  := by
  intro  h
  rw [wp_M_logic_29] at h ⊢
  exact (mo_M_logic_42 hpost _ h)

theorem mo_M_logic_15 {post post' : Int32 → Prop} (hpost : ∀ u0, post u0 → post' u0) : ∀ (x0 : Int32) (x1 : Int32) (x2 : Int32) (t0 : Int32), wp_M_logic_15 post x0 x1 x2 t0  → wp_M_logic_15 post' x0 x1 x2 t0  := by
  intro x0 x1 x2 t0 h
  rw [wp_M_logic_15] at h ⊢
  exact ⟨(fun g2 => ⟨(fun g4 => ⟨(fun g6 => ⟨(fun g8 => (mo_M_logic_98 hpost _ (((((h).1 g2).1 g4).1 g6).1 g8))), (fun g9 => (mo_M_logic_98 hpost _ (((((h).1 g2).1 g4).1 g6).2 g9)))⟩), (fun g10 => (mo_M_logic_98 hpost _ ((((h).1 g2).1 g4).2 g10)))⟩), (fun g11 => ⟨(fun g13 => (mo_M_logic_59 hpost  ((((h).1 g2).2 g11).1 g13))), (fun g14 => ⟨(fun g16 => ⟨(fun g18 => (mo_M_logic_72 hpost _ ((((((h).1 g2).2 g11).2 g14).1 g16).1 g18))), (fun g19 => (mo_M_logic_72 hpost _ ((((((h).1 g2).2 g11).2 g14).1 g16).2 g19)))⟩), (fun g20 => (mo_M_logic_59 hpost  (((((h).1 g2).2 g11).2 g14).2 g20)))⟩)⟩)⟩), (fun g21 => ⟨(fun g23 => (mo_M_logic_29 hpost  (((h).2 g21).1 g23))), (fun g24 => ⟨(fun g26 => ⟨(fun g28 => (mo_M_logic_42 hpost _ (((((h).2 g21).2 g24).1 g26).1 g28))), (fun g29 => (mo_M_logic_42 hpost _ (((((h).2 g21).2 g24).1 g26).2 g29)))⟩), (fun g30 => (mo_M_logic_29 hpost  ((((h).2 g21).2 g24).2 g30)))⟩)⟩)⟩

theorem mo_M_logic_10 {post post' : Int32 → Prop} (hpost : ∀ u0, post u0 → post' u0) : ∀ (x0 : Int32) (x1 : Int32) (x2 : Int32), wp_M_logic_10 post x0 x1 x2  → wp_M_logic_10 post' x0 x1 x2  := by
  intro x0 x1 x2 h
  rw [wp_M_logic_10] at h ⊢
  exact (mo_M_logic_15 hpost _ _ _ _ h)

theorem mo_M_logic {post post' : Int32 → Prop} (hpost : ∀ u0, post u0 → post' u0) : ∀ (a0 : Int32) (a1 : Int32) (a2 : Int32), wp_M_logic post a0 a1 a2  → wp_M_logic post' a0 a1 a2  := by
  intro a0 a1 a2 h
  rw [wp_M_logic] at h ⊢
  exact ⟨(fun g2 => (mo_M_logic_10 hpost _ _ _ ((h).1 g2))), (fun g3 => ⟨(fun g5 => (mo_M_logic_15 hpost _ _ _ _ (((h).2 g3).1 g5))), (fun g6 => (mo_M_logic_10 hpost _ _ _ (((h).2 g3).2 g6)))⟩)⟩

theorem mo_M_decimal_113 {K93 K93' : Int32 → Int32 → (Nat → Int32) → (Nat → Int32) → Prop} {post post' : Int32 → (Nat → Int32) → (Nat → Int32) → Prop} (hK93 : ∀ u0 u1 u2 u3, K93 u0 u1 u2 u3 → K93' u0 u1 u2 u3) (hpost : ∀ u0 u1 u2, post u0 u1 u2 → post' u0 u1 u2) : ∀ (x4 : Int32) (x5 : Int32) (fx : (Nat → Int32)) (fy : (Nat → Int32)), wp_M_decimal_113 K93 post x4 x5 fx fy  → wp_M_decimal_113 K93' post' x4 x5 fx fy  := by
  intro x4 x5 fx fy h
  rw [wp_M_decimal_113] at h ⊢
  exact (hK93 _ _ _ _ h)

theorem mo_M_decimal_93 {post post' : Int32 → (Nat → Int32) → (Nat → Int32) → Prop} (hpost : ∀ u0 u1 u2, post u0 u1 u2 → post' u0 u1 u2) : ∀ (n93 : Nat) (x4 : Int32) (x5 : Int32) (fx : (Nat → Int32)) (fy : (Nat → Int32)), wp_M_decimal_93 post n93 x4 x5 fx fy → wp_M_decimal_93 post' n93 x4 x5 fx fy := by
  intro  n93
  induction n93 with
  | zero => intro x4 x5 fx fy h; exact False.elim h
  | succ n93 ih =>
    intro x4 x5 fx fy h
    rw [wp_M_decimal_93] at h ⊢
    exact ⟨(fun g2 => (hpost _ _ _ ((h).1 g2))), (fun g3 => ⟨((h).2 g3).1, ⟨(fun g6 => (mo_M_decimal_113 ih hpost _ _ _ _ (((h).2 g3).2.1 g6))), (fun g7 => (fun v111 g8 => (mo_M_decimal_113 ih hpost _ _ _ _ ((((h).2 g3).2.2 g7) v111 g8))))⟩⟩)⟩

theorem mo_M_decimal_43 {K29 K29' : Int32 → Int32 → (Nat → Int32) → (Nat → Int32) → Prop} {post post' : Int32 → (Nat → Int32) → (Nat → Int32) → Prop} (hK29 : ∀ u0 u1 u2 u3, K29 u0 u1 u2 u3 → K29' u0 u1 u2 u3) (hpost : ∀ u0 u1 u2, post u0 u1 u2 → post' u0 u1 u2) : ∀ (n43 : Nat) (x4 : Int32) (x5 : Int32) (x6 : Int32) (x7 : Int32) (fx : (Nat → Int32)) (fy : (Nat → Int32)), wp_M_decimal_43 K29 post n43 x4 x5 x6 x7 fx fy → wp_M_decimal_43 K29' post' n43 x4 x5 x6 x7 fx fy := by
  intro  n43
  induction n43 with
  | zero => intro x4 x5 x6 x7 fx fy h; exact False.elim h
  | succ n43 ih =>
    intro x4 x5 x6 x7 fx fy h
    rw [wp_M_decimal_43] at h ⊢
    exact ⟨(fun g2 => (hK29 _ _ _ _ ((h).1 g2))), (fun g3 => ⟨((h).2 g3).1, (fun v59 g5 => ⟨(((h).2 g3).2 v59 g5).1, ⟨(((h).2 g3).2 v59 g5).2.1, ⟨(((h).2 g3).2 v59 g5).2.2.1, (fun v76 g9 => (ih _ _ _ _ _ _ ((((h).2 g3).2 v59 g5).2.2.2 v76 g9)))⟩⟩⟩)⟩)⟩

theorem mo_M_decimal_29 {post post' : Int32 → (Nat → Int32) → (Nat → Int32) → Prop} (hpost : ∀ u0 u1 u2, post u0 u1 u2 → post' u0 u1 u2) : ∀ (n29 : Nat) (x4 : Int32) (x5 : Int32) (fx : (Nat → Int32)) (fy : (Nat → Int32)), wp_M_decimal_29 post n29 x4 x5 fx fy → wp_M_decimal_29 post' n29 x4 x5 fx fy := by
  intro  n29
  induction n29 with
  | zero => intro x4 x5 fx fy h; exact False.elim h
  | succ n29 ih =>
    intro x4 x5 fx fy h
    rw [wp_M_decimal_29] at h ⊢
    exact ⟨(fun g2 => (Exists.imp (fun n93 g3 => (mo_M_decimal_93 hpost _ _ _ _ _ g3)) ((h).1 g2))), (fun g4 => ⟨((h).2 g4).1, (fun v38 g6 => (Exists.imp (fun n43 g7 => (mo_M_decimal_43 ih hpost _ _ _ _ _ _ _ g7)) (((h).2 g4).2 v38 g6)))⟩)⟩

theorem mo_M_decimal_6 {post post' : Int32 → (Nat → Int32) → (Nat → Int32) → Prop} (hpost : ∀ u0 u1 u2, post u0 u1 u2 → post' u0 u1 u2) : ∀ (n6 : Nat) (x2 : Int32) (x4 : Int32) (x5 : Int32) (fx : (Nat → Int32)) (fy : (Nat → Int32)), wp_M_decimal_6 post n6 x2 x4 x5 fx fy → wp_M_decimal_6 post' n6 x2 x4 x5 fx fy := by
  intro  n6
  induction n6 with
  | zero => intro x2 x4 x5 fx fy h; exact False.elim h
  | succ n6 ih =>
    intro x2 x4 x5 fx fy h
    rw [wp_M_decimal_6] at h ⊢
    exact ⟨(fun g2 => (fun v27 g3 => (Exists.imp (fun n29 g4 => (mo_M_decimal_29 hpost _ _ _ _ _ g4)) (((h).1 g2) v27 g3)))), (fun g5 => ⟨((h).2 g5).1, (ih _ _ _ _ _ ((h).2 g5).2)⟩)⟩

theorem mo_M_decimal {post post' : Int32 → (Nat → Int32) → (Nat → Int32) → Prop} (hpost : ∀ u0 u1 u2, post u0 u1 u2 → post' u0 u1 u2) : ∀ (a2 : Int32) (fx : (Nat → Int32)) (fy : (Nat → Int32)), wp_M_decimal post a2 fx fy  → wp_M_decimal post' a2 fx fy  := by
  intro a2 fx fy h
  rw [wp_M_decimal] at h ⊢
  exact (Exists.imp (fun n6 g1 => (mo_M_decimal_6 hpost _ _ _ _ _ _ g1)) h)

theorem mo_M_thrown {post post' : Int32 → (Nat → Int32) → (Nat → Int32) → (Nat → Int32) → (Nat → Int32) → (Nat → Int32) → (Nat → Int32) → (Nat → Int32) → (Nat → Int32) → (Nat → Int32) → Int32 → Int32 → Int32 → Prop} (hpost : ∀ u0 u1 u2 u3 u4 u5 u6 u7 u8 u9 u10 u11 u12, post u0 u1 u2 u3 u4 u5 u6 u7 u8 u9 u10 u11 u12 → post' u0 u1 u2 u3 u4 u5 u6 u7 u8 u9 u10 u11 u12) : ∀ (kb : (Nat → Int32)) (kw : (Nat → Int32)) (ks : (Nat → Int32)) (ka : (Nat → Int32)) (kq : (Nat → Int32)) (kc : (Nat → Int32)) (kr : (Nat → Int32)) (kt : (Nat → Int32)) (kd : (Nat → Int32)) (many : Int32) (tsz : Int32) (thr : Int32), wp_M_thrown post kb kw ks ka kq kc kr kt kd many tsz thr  → wp_M_thrown post' kb kw ks ka kq kc kr kt kd many tsz thr  := by
  intro kb kw ks ka kq kc kr kt kd many tsz thr h
  rw [wp_M_thrown] at h ⊢
  exact (hpost _ _ _ _ _ _ _ _ _ _ _ _ _ h)

theorem mo_M_refuse_50 {post post' : Int32 → (Nat → Int32) → (Nat → Int32) → (Nat → Int32) → (Nat → Int32) → (Nat → Int32) → (Nat → Int32) → (Nat → Int32) → (Nat → Int32) → (Nat → Int32) → Int32 → Int32 → Int32 → Prop} (hpost : ∀ u0 u1 u2 u3 u4 u5 u6 u7 u8 u9 u10 u11 u12, post u0 u1 u2 u3 u4 u5 u6 u7 u8 u9 u10 u11 u12 → post' u0 u1 u2 u3 u4 u5 u6 u7 u8 u9 u10 u11 u12) : ∀ (t0 : Int32) (kb : (Nat → Int32)) (kw : (Nat → Int32)) (ks : (Nat → Int32)) (ka : (Nat → Int32)) (kq : (Nat → Int32)) (kc : (Nat → Int32)) (kr : (Nat → Int32)) (kt : (Nat → Int32)) (kd : (Nat → Int32)) (many : Int32) (tsz : Int32) (thr : Int32), wp_M_refuse_50 post t0 kb kw ks ka kq kc kr kt kd many tsz thr  → wp_M_refuse_50 post' t0 kb kw ks ka kq kc kr kt kd many tsz thr  := by
  intro t0 kb kw ks ka kq kc kr kt kd many tsz thr h
  rw [wp_M_refuse_50] at h ⊢
  exact ⟨(h).1, (hpost _ _ _ _ _ _ _ _ _ _ _ _ _ (h).2)⟩

theorem mo_M_refuse_35 {post post' : Int32 → (Nat → Int32) → (Nat → Int32) → (Nat → Int32) → (Nat → Int32) → (Nat → Int32) → (Nat → Int32) → (Nat → Int32) → (Nat → Int32) → (Nat → Int32) → Int32 → Int32 → Int32 → Prop} (hpost : ∀ u0 u1 u2 u3 u4 u5 u6 u7 u8 u9 u10 u11 u12, post u0 u1 u2 u3 u4 u5 u6 u7 u8 u9 u10 u11 u12 → post' u0 u1 u2 u3 u4 u5 u6 u7 u8 u9 u10 u11 u12) : ∀ (t0 : Int32) (kb : (Nat → Int32)) (kw : (Nat → Int32)) (ks : (Nat → Int32)) (ka : (Nat → Int32)) (kq : (Nat → Int32)) (kc : (Nat → Int32)) (kr : (Nat → Int32)) (kt : (Nat → Int32)) (kd : (Nat → Int32)) (many : Int32) (tsz : Int32) (thr : Int32), wp_M_refuse_35 post t0 kb kw ks ka kq kc kr kt kd many tsz thr  → wp_M_refuse_35 post' t0 kb kw ks ka kq kc kr kt kd many tsz thr  := by
  intro t0 kb kw ks ka kq kc kr kt kd many tsz thr h
  rw [wp_M_refuse_35] at h ⊢
  exact ⟨(fun g2 => (mo_M_refuse_50 hpost _ _ _ _ _ _ _ _ _ _ _ _ _ ((h).1 g2))), (fun g3 => (mo_M_refuse_50 hpost _ _ _ _ _ _ _ _ _ _ _ _ _ ((h).2 g3)))⟩

theorem mo_M_refuse_30 {post post' : Int32 → (Nat → Int32) → (Nat → Int32) → (Nat → Int32) → (Nat → Int32) → (Nat → Int32) → (Nat → Int32) → (Nat → Int32) → (Nat → Int32) → (Nat → Int32) → Int32 → Int32 → Int32 → Prop} (hpost : ∀ u0 u1 u2 u3 u4 u5 u6 u7 u8 u9 u10 u11 u12, post u0 u1 u2 u3 u4 u5 u6 u7 u8 u9 u10 u11 u12 → post' u0 u1 u2 u3 u4 u5 u6 u7 u8 u9 u10 u11 u12) : ∀ (kb : (Nat → Int32)) (kw : (Nat → Int32)) (ks : (Nat → Int32)) (ka : (Nat → Int32)) (kq : (Nat → Int32)) (kc : (Nat → Int32)) (kr : (Nat → Int32)) (kt : (Nat → Int32)) (kd : (Nat → Int32)) (many : Int32) (tsz : Int32) (thr : Int32), wp_M_refuse_30 post kb kw ks ka kq kc kr kt kd many tsz thr  → wp_M_refuse_30 post' kb kw ks ka kq kc kr kt kd many tsz thr  := by
  intro kb kw ks ka kq kc kr kt kd many tsz thr h
  rw [wp_M_refuse_30] at h ⊢
  exact (mo_M_refuse_35 hpost _ _ _ _ _ _ _ _ _ _ _ _ _ h)

theorem mo_M_refuse {post post' : Int32 → (Nat → Int32) → (Nat → Int32) → (Nat → Int32) → (Nat → Int32) → (Nat → Int32) → (Nat → Int32) → (Nat → Int32) → (Nat → Int32) → (Nat → Int32) → Int32 → Int32 → Int32 → Prop} (hpost : ∀ u0 u1 u2 u3 u4 u5 u6 u7 u8 u9 u10 u11 u12, post u0 u1 u2 u3 u4 u5 u6 u7 u8 u9 u10 u11 u12 → post' u0 u1 u2 u3 u4 u5 u6 u7 u8 u9 u10 u11 u12) : ∀ (a1 : Int32) (a2 : Int32) (a3 : Int32) (kb : (Nat → Int32)) (kw : (Nat → Int32)) (ks : (Nat → Int32)) (ka : (Nat → Int32)) (kq : (Nat → Int32)) (kc : (Nat → Int32)) (kr : (Nat → Int32)) (kt : (Nat → Int32)) (kd : (Nat → Int32)) (many : Int32) (tsz : Int32) (thr : Int32), wp_M_refuse post a1 a2 a3 kb kw ks ka kq kc kr kt kd many tsz thr  → wp_M_refuse post' a1 a2 a3 kb kw ks ka kq kc kr kt kd many tsz thr  := by
  intro a1 a2 a3 kb kw ks ka kq kc kr kt kd many tsz thr h
  rw [wp_M_refuse] at h ⊢
  exact ⟨(fun g2 => ⟨(fun g4 => (mo_M_refuse_30 hpost _ _ _ _ _ _ _ _ _ _ _ _ (((h).1 g2).1 g4))), (fun g5 => ⟨(fun g7 => (mo_M_refuse_35 hpost _ _ _ _ _ _ _ _ _ _ _ _ _ ((((h).1 g2).2 g5).1 g7))), (fun g8 => (mo_M_refuse_30 hpost _ _ _ _ _ _ _ _ _ _ _ _ ((((h).1 g2).2 g5).2 g8)))⟩)⟩), (fun g9 => (mo_M_refuse_35 hpost _ _ _ _ _ _ _ _ _ _ _ _ _ ((h).2 g9)))⟩

theorem mo_M_wider_50 {post post' : Int32 → (Nat → Int32) → (Nat → Int32) → (Nat → Int32) → (Nat → Int32) → (Nat → Int32) → (Nat → Int32) → (Nat → Int32) → (Nat → Int32) → (Nat → Int32) → Int32 → Int32 → Int32 → Prop} (hpost : ∀ u0 u1 u2 u3 u4 u5 u6 u7 u8 u9 u10 u11 u12, post u0 u1 u2 u3 u4 u5 u6 u7 u8 u9 u10 u11 u12 → post' u0 u1 u2 u3 u4 u5 u6 u7 u8 u9 u10 u11 u12) : ∀ (t0 : Int32) (kb : (Nat → Int32)) (kw : (Nat → Int32)) (ks : (Nat → Int32)) (ka : (Nat → Int32)) (kq : (Nat → Int32)) (kc : (Nat → Int32)) (kr : (Nat → Int32)) (kt : (Nat → Int32)) (kd : (Nat → Int32)) (many : Int32) (tsz : Int32) (thr : Int32), wp_M_wider_50 post t0 kb kw ks ka kq kc kr kt kd many tsz thr  → wp_M_wider_50 post' t0 kb kw ks ka kq kc kr kt kd many tsz thr  := by
  intro t0 kb kw ks ka kq kc kr kt kd many tsz thr h
  rw [wp_M_wider_50] at h ⊢
  exact (hpost _ _ _ _ _ _ _ _ _ _ _ _ _ h)

theorem mo_M_wider {post post' : Int32 → (Nat → Int32) → (Nat → Int32) → (Nat → Int32) → (Nat → Int32) → (Nat → Int32) → (Nat → Int32) → (Nat → Int32) → (Nat → Int32) → (Nat → Int32) → Int32 → Int32 → Int32 → Prop} (hpost : ∀ u0 u1 u2 u3 u4 u5 u6 u7 u8 u9 u10 u11 u12, post u0 u1 u2 u3 u4 u5 u6 u7 u8 u9 u10 u11 u12 → post' u0 u1 u2 u3 u4 u5 u6 u7 u8 u9 u10 u11 u12) : ∀ (kb : (Nat → Int32)) (kw : (Nat → Int32)) (ks : (Nat → Int32)) (ka : (Nat → Int32)) (kq : (Nat → Int32)) (kc : (Nat → Int32)) (kr : (Nat → Int32)) (kt : (Nat → Int32)) (kd : (Nat → Int32)) (many : Int32) (tsz : Int32) (thr : Int32), wp_M_wider post kb kw ks ka kq kc kr kt kd many tsz thr  → wp_M_wider post' kb kw ks ka kq kc kr kt kd many tsz thr  := by
  intro kb kw ks ka kq kc kr kt kd many tsz thr h
  rw [wp_M_wider] at h ⊢
  exact ⟨(h).1, ⟨(h).2.1, ⟨(fun g4 => ⟨((h).2.2.1 g4).1, (mo_M_wider_50 hpost _ _ _ _ _ _ _ _ _ _ _ _ _ ((h).2.2.1 g4).2)⟩), (fun g6 => ⟨((h).2.2.2 g6).1, (mo_M_wider_50 hpost _ _ _ _ _ _ _ _ _ _ _ _ _ ((h).2.2.2 g6).2)⟩)⟩⟩⟩

theorem mo_M_give_a_3 {post post' : (Nat → Int32) → (Nat → Int32) → (Nat → Int32) → (Nat → Int32) → (Nat → Int32) → (Nat → Int32) → (Nat → Int32) → (Nat → Int32) → (Nat → Int32) → Int32 → Int32 → Int32 → Prop} (hpost : ∀ u0 u1 u2 u3 u4 u5 u6 u7 u8 u9 u10 u11, post u0 u1 u2 u3 u4 u5 u6 u7 u8 u9 u10 u11 → post' u0 u1 u2 u3 u4 u5 u6 u7 u8 u9 u10 u11) : ∀ (n3 : Nat) (x2 : Int32) (x3 : Int32) (x4 : Int32) (kb : (Nat → Int32)) (kw : (Nat → Int32)) (ks : (Nat → Int32)) (ka : (Nat → Int32)) (kq : (Nat → Int32)) (kc : (Nat → Int32)) (kr : (Nat → Int32)) (kt : (Nat → Int32)) (kd : (Nat → Int32)) (many : Int32) (tsz : Int32) (thr : Int32), wp_M_give_a_3 post n3 x2 x3 x4 kb kw ks ka kq kc kr kt kd many tsz thr → wp_M_give_a_3 post' n3 x2 x3 x4 kb kw ks ka kq kc kr kt kd many tsz thr := by
  intro  n3
  induction n3 with
  | zero => intro x2 x3 x4 kb kw ks ka kq kc kr kt kd many tsz thr h; exact False.elim h
  | succ n3 ih =>
    intro x2 x3 x4 kb kw ks ka kq kc kr kt kd many tsz thr h
    rw [wp_M_give_a_3] at h ⊢
    exact ⟨(fun g2 => ⟨((h).1 g2).1, ⟨((h).1 g2).2.1, (hpost _ _ _ _ _ _ _ _ _ _ _ _ ((h).1 g2).2.2)⟩⟩), (fun g5 => ⟨((h).2 g5).1, ⟨((h).2 g5).2.1, (ih _ _ _ _ _ _ _ _ _ _ _ _ _ _ _ ((h).2 g5).2.2)⟩⟩)⟩

theorem mo_M_give_a {post post' : (Nat → Int32) → (Nat → Int32) → (Nat → Int32) → (Nat → Int32) → (Nat → Int32) → (Nat → Int32) → (Nat → Int32) → (Nat → Int32) → (Nat → Int32) → Int32 → Int32 → Int32 → Prop} (hpost : ∀ u0 u1 u2 u3 u4 u5 u6 u7 u8 u9 u10 u11, post u0 u1 u2 u3 u4 u5 u6 u7 u8 u9 u10 u11 → post' u0 u1 u2 u3 u4 u5 u6 u7 u8 u9 u10 u11) : ∀ (a2 : Int32) (a3 : Int32) (kb : (Nat → Int32)) (kw : (Nat → Int32)) (ks : (Nat → Int32)) (ka : (Nat → Int32)) (kq : (Nat → Int32)) (kc : (Nat → Int32)) (kr : (Nat → Int32)) (kt : (Nat → Int32)) (kd : (Nat → Int32)) (many : Int32) (tsz : Int32) (thr : Int32), wp_M_give_a post a2 a3 kb kw ks ka kq kc kr kt kd many tsz thr  → wp_M_give_a post' a2 a3 kb kw ks ka kq kc kr kt kd many tsz thr  := by
  intro a2 a3 kb kw ks ka kq kc kr kt kd many tsz thr h
  rw [wp_M_give_a] at h ⊢
  exact (Exists.imp (fun n3 g1 => (mo_M_give_a_3 hpost _ _ _ _ _ _ _ _ _ _ _ _ _ _ _ _ g1)) h)

theorem mo_M_give_c_3 {post post' : (Nat → Int32) → (Nat → Int32) → (Nat → Int32) → (Nat → Int32) → (Nat → Int32) → (Nat → Int32) → (Nat → Int32) → (Nat → Int32) → (Nat → Int32) → Int32 → Int32 → Int32 → Prop} (hpost : ∀ u0 u1 u2 u3 u4 u5 u6 u7 u8 u9 u10 u11, post u0 u1 u2 u3 u4 u5 u6 u7 u8 u9 u10 u11 → post' u0 u1 u2 u3 u4 u5 u6 u7 u8 u9 u10 u11) : ∀ (n3 : Nat) (x2 : Int32) (x3 : Int32) (x4 : Int32) (kb : (Nat → Int32)) (kw : (Nat → Int32)) (ks : (Nat → Int32)) (ka : (Nat → Int32)) (kq : (Nat → Int32)) (kc : (Nat → Int32)) (kr : (Nat → Int32)) (kt : (Nat → Int32)) (kd : (Nat → Int32)) (many : Int32) (tsz : Int32) (thr : Int32), wp_M_give_c_3 post n3 x2 x3 x4 kb kw ks ka kq kc kr kt kd many tsz thr → wp_M_give_c_3 post' n3 x2 x3 x4 kb kw ks ka kq kc kr kt kd many tsz thr := by
  intro  n3
  induction n3 with
  | zero => intro x2 x3 x4 kb kw ks ka kq kc kr kt kd many tsz thr h; exact False.elim h
  | succ n3 ih =>
    intro x2 x3 x4 kb kw ks ka kq kc kr kt kd many tsz thr h
    rw [wp_M_give_c_3] at h ⊢
    exact ⟨(fun g2 => ⟨((h).1 g2).1, ⟨((h).1 g2).2.1, (hpost _ _ _ _ _ _ _ _ _ _ _ _ ((h).1 g2).2.2)⟩⟩), (fun g5 => ⟨((h).2 g5).1, ⟨((h).2 g5).2.1, (ih _ _ _ _ _ _ _ _ _ _ _ _ _ _ _ ((h).2 g5).2.2)⟩⟩)⟩

theorem mo_M_give_c {post post' : (Nat → Int32) → (Nat → Int32) → (Nat → Int32) → (Nat → Int32) → (Nat → Int32) → (Nat → Int32) → (Nat → Int32) → (Nat → Int32) → (Nat → Int32) → Int32 → Int32 → Int32 → Prop} (hpost : ∀ u0 u1 u2 u3 u4 u5 u6 u7 u8 u9 u10 u11, post u0 u1 u2 u3 u4 u5 u6 u7 u8 u9 u10 u11 → post' u0 u1 u2 u3 u4 u5 u6 u7 u8 u9 u10 u11) : ∀ (a2 : Int32) (a3 : Int32) (kb : (Nat → Int32)) (kw : (Nat → Int32)) (ks : (Nat → Int32)) (ka : (Nat → Int32)) (kq : (Nat → Int32)) (kc : (Nat → Int32)) (kr : (Nat → Int32)) (kt : (Nat → Int32)) (kd : (Nat → Int32)) (many : Int32) (tsz : Int32) (thr : Int32), wp_M_give_c post a2 a3 kb kw ks ka kq kc kr kt kd many tsz thr  → wp_M_give_c post' a2 a3 kb kw ks ka kq kc kr kt kd many tsz thr  := by
  intro a2 a3 kb kw ks ka kq kc kr kt kd many tsz thr h
  rw [wp_M_give_c] at h ⊢
  exact (Exists.imp (fun n3 g1 => (mo_M_give_c_3 hpost _ _ _ _ _ _ _ _ _ _ _ _ _ _ _ _ g1)) h)

theorem mo_M_take_a_65 {K3 K3' : Int32 → Int32 → Int32 → Int32 → (Nat → Int32) → (Nat → Int32) → (Nat → Int32) → (Nat → Int32) → (Nat → Int32) → (Nat → Int32) → (Nat → Int32) → (Nat → Int32) → (Nat → Int32) → Int32 → Int32 → Int32 → Prop} {post post' : (Nat → Int32) → (Nat → Int32) → (Nat → Int32) → (Nat → Int32) → (Nat → Int32) → (Nat → Int32) → (Nat → Int32) → (Nat → Int32) → (Nat → Int32) → Int32 → Int32 → Int32 → Prop} (hK3 : ∀ u0 u1 u2 u3 u4 u5 u6 u7 u8 u9 u10 u11 u12 u13 u14 u15, K3 u0 u1 u2 u3 u4 u5 u6 u7 u8 u9 u10 u11 u12 u13 u14 u15 → K3' u0 u1 u2 u3 u4 u5 u6 u7 u8 u9 u10 u11 u12 u13 u14 u15) (hpost : ∀ u0 u1 u2 u3 u4 u5 u6 u7 u8 u9 u10 u11, post u0 u1 u2 u3 u4 u5 u6 u7 u8 u9 u10 u11 → post' u0 u1 u2 u3 u4 u5 u6 u7 u8 u9 u10 u11) : ∀ (x1 : Int32) (x3 : Int32) (x4 : Int32) (x5 : Int32) (t0 : Int32) (t1 : Int32) (kb : (Nat → Int32)) (kw : (Nat → Int32)) (ks : (Nat → Int32)) (ka : (Nat → Int32)) (kq : (Nat → Int32)) (kc : (Nat → Int32)) (kr : (Nat → Int32)) (kt : (Nat → Int32)) (kd : (Nat → Int32)) (many : Int32) (tsz : Int32) (thr : Int32), wp_M_take_a_65 K3 post x1 x3 x4 x5 t0 t1 kb kw ks ka kq kc kr kt kd many tsz thr  → wp_M_take_a_65 K3' post' x1 x3 x4 x5 t0 t1 kb kw ks ka kq kc kr kt kd many tsz thr  := by
  intro x1 x3 x4 x5 t0 t1 kb kw ks ka kq kc kr kt kd many tsz thr h
  rw [wp_M_take_a_65] at h ⊢
  exact ⟨(h).1, (hK3 _ _ _ _ _ _ _ _ _ _ _ _ _ _ _ _ (h).2)⟩

theorem mo_M_take_a_3 {post post' : (Nat → Int32) → (Nat → Int32) → (Nat → Int32) → (Nat → Int32) → (Nat → Int32) → (Nat → Int32) → (Nat → Int32) → (Nat → Int32) → (Nat → Int32) → Int32 → Int32 → Int32 → Prop} (hpost : ∀ u0 u1 u2 u3 u4 u5 u6 u7 u8 u9 u10 u11, post u0 u1 u2 u3 u4 u5 u6 u7 u8 u9 u10 u11 → post' u0 u1 u2 u3 u4 u5 u6 u7 u8 u9 u10 u11) : ∀ (n3 : Nat) (x1 : Int32) (x3 : Int32) (x4 : Int32) (x5 : Int32) (kb : (Nat → Int32)) (kw : (Nat → Int32)) (ks : (Nat → Int32)) (ka : (Nat → Int32)) (kq : (Nat → Int32)) (kc : (Nat → Int32)) (kr : (Nat → Int32)) (kt : (Nat → Int32)) (kd : (Nat → Int32)) (many : Int32) (tsz : Int32) (thr : Int32), wp_M_take_a_3 post n3 x1 x3 x4 x5 kb kw ks ka kq kc kr kt kd many tsz thr → wp_M_take_a_3 post' n3 x1 x3 x4 x5 kb kw ks ka kq kc kr kt kd many tsz thr := by
  intro  n3
  induction n3 with
  | zero => intro x1 x3 x4 x5 kb kw ks ka kq kc kr kt kd many tsz thr h; exact False.elim h
  | succ n3 ih =>
    intro x1 x3 x4 x5 kb kw ks ka kq kc kr kt kd many tsz thr h
    rw [wp_M_take_a_3] at h ⊢
    exact ⟨(fun g2 => (hpost _ _ _ _ _ _ _ _ _ _ _ _ ((h).1 g2))), (fun g3 => ⟨((h).2 g3).1, ⟨(fun g6 => ⟨(fun g8 => (mo_M_take_a_65 ih hpost _ _ _ _ _ _ _ _ _ _ _ _ _ _ _ _ _ _ ((((h).2 g3).2.1 g6).1 g8))), (fun g9 => ⟨((((h).2 g3).2.1 g6).2 g9).1, ⟨((((h).2 g3).2.1 g6).2 g9).2.1, (mo_M_take_a_65 ih hpost _ _ _ _ _ _ _ _ _ _ _ _ _ _ _ _ _ _ ((((h).2 g3).2.1 g6).2 g9).2.2)⟩⟩)⟩), (fun g12 => ⟨(((h).2 g3).2.2 g12).1, (mo_M_take_a_65 ih hpost _ _ _ _ _ _ _ _ _ _ _ _ _ _ _ _ _ _ (((h).2 g3).2.2 g12).2)⟩)⟩⟩)⟩

theorem mo_M_take_a {post post' : (Nat → Int32) → (Nat → Int32) → (Nat → Int32) → (Nat → Int32) → (Nat → Int32) → (Nat → Int32) → (Nat → Int32) → (Nat → Int32) → (Nat → Int32) → Int32 → Int32 → Int32 → Prop} (hpost : ∀ u0 u1 u2 u3 u4 u5 u6 u7 u8 u9 u10 u11, post u0 u1 u2 u3 u4 u5 u6 u7 u8 u9 u10 u11 → post' u0 u1 u2 u3 u4 u5 u6 u7 u8 u9 u10 u11) : ∀ (a1 : Int32) (a3 : Int32) (a4 : Int32) (kb : (Nat → Int32)) (kw : (Nat → Int32)) (ks : (Nat → Int32)) (ka : (Nat → Int32)) (kq : (Nat → Int32)) (kc : (Nat → Int32)) (kr : (Nat → Int32)) (kt : (Nat → Int32)) (kd : (Nat → Int32)) (many : Int32) (tsz : Int32) (thr : Int32), wp_M_take_a post a1 a3 a4 kb kw ks ka kq kc kr kt kd many tsz thr  → wp_M_take_a post' a1 a3 a4 kb kw ks ka kq kc kr kt kd many tsz thr  := by
  intro a1 a3 a4 kb kw ks ka kq kc kr kt kd many tsz thr h
  rw [wp_M_take_a] at h ⊢
  exact (Exists.imp (fun n3 g1 => (mo_M_take_a_3 hpost _ _ _ _ _ _ _ _ _ _ _ _ _ _ _ _ _ g1)) h)

theorem mo_M_take_b_65 {K3 K3' : Int32 → Int32 → Int32 → Int32 → (Nat → Int32) → (Nat → Int32) → (Nat → Int32) → (Nat → Int32) → (Nat → Int32) → (Nat → Int32) → (Nat → Int32) → (Nat → Int32) → (Nat → Int32) → Int32 → Int32 → Int32 → Prop} {post post' : (Nat → Int32) → (Nat → Int32) → (Nat → Int32) → (Nat → Int32) → (Nat → Int32) → (Nat → Int32) → (Nat → Int32) → (Nat → Int32) → (Nat → Int32) → Int32 → Int32 → Int32 → Prop} (hK3 : ∀ u0 u1 u2 u3 u4 u5 u6 u7 u8 u9 u10 u11 u12 u13 u14 u15, K3 u0 u1 u2 u3 u4 u5 u6 u7 u8 u9 u10 u11 u12 u13 u14 u15 → K3' u0 u1 u2 u3 u4 u5 u6 u7 u8 u9 u10 u11 u12 u13 u14 u15) (hpost : ∀ u0 u1 u2 u3 u4 u5 u6 u7 u8 u9 u10 u11, post u0 u1 u2 u3 u4 u5 u6 u7 u8 u9 u10 u11 → post' u0 u1 u2 u3 u4 u5 u6 u7 u8 u9 u10 u11) : ∀ (x1 : Int32) (x3 : Int32) (x4 : Int32) (x5 : Int32) (t0 : Int32) (t1 : Int32) (kb : (Nat → Int32)) (kw : (Nat → Int32)) (ks : (Nat → Int32)) (ka : (Nat → Int32)) (kq : (Nat → Int32)) (kc : (Nat → Int32)) (kr : (Nat → Int32)) (kt : (Nat → Int32)) (kd : (Nat → Int32)) (many : Int32) (tsz : Int32) (thr : Int32), wp_M_take_b_65 K3 post x1 x3 x4 x5 t0 t1 kb kw ks ka kq kc kr kt kd many tsz thr  → wp_M_take_b_65 K3' post' x1 x3 x4 x5 t0 t1 kb kw ks ka kq kc kr kt kd many tsz thr  := by
  intro x1 x3 x4 x5 t0 t1 kb kw ks ka kq kc kr kt kd many tsz thr h
  rw [wp_M_take_b_65] at h ⊢
  exact ⟨(h).1, (hK3 _ _ _ _ _ _ _ _ _ _ _ _ _ _ _ _ (h).2)⟩

theorem mo_M_take_b_3 {post post' : (Nat → Int32) → (Nat → Int32) → (Nat → Int32) → (Nat → Int32) → (Nat → Int32) → (Nat → Int32) → (Nat → Int32) → (Nat → Int32) → (Nat → Int32) → Int32 → Int32 → Int32 → Prop} (hpost : ∀ u0 u1 u2 u3 u4 u5 u6 u7 u8 u9 u10 u11, post u0 u1 u2 u3 u4 u5 u6 u7 u8 u9 u10 u11 → post' u0 u1 u2 u3 u4 u5 u6 u7 u8 u9 u10 u11) : ∀ (n3 : Nat) (x1 : Int32) (x3 : Int32) (x4 : Int32) (x5 : Int32) (kb : (Nat → Int32)) (kw : (Nat → Int32)) (ks : (Nat → Int32)) (ka : (Nat → Int32)) (kq : (Nat → Int32)) (kc : (Nat → Int32)) (kr : (Nat → Int32)) (kt : (Nat → Int32)) (kd : (Nat → Int32)) (many : Int32) (tsz : Int32) (thr : Int32), wp_M_take_b_3 post n3 x1 x3 x4 x5 kb kw ks ka kq kc kr kt kd many tsz thr → wp_M_take_b_3 post' n3 x1 x3 x4 x5 kb kw ks ka kq kc kr kt kd many tsz thr := by
  intro  n3
  induction n3 with
  | zero => intro x1 x3 x4 x5 kb kw ks ka kq kc kr kt kd many tsz thr h; exact False.elim h
  | succ n3 ih =>
    intro x1 x3 x4 x5 kb kw ks ka kq kc kr kt kd many tsz thr h
    rw [wp_M_take_b_3] at h ⊢
    exact ⟨(fun g2 => (hpost _ _ _ _ _ _ _ _ _ _ _ _ ((h).1 g2))), (fun g3 => ⟨((h).2 g3).1, ⟨(fun g6 => ⟨(fun g8 => (mo_M_take_b_65 ih hpost _ _ _ _ _ _ _ _ _ _ _ _ _ _ _ _ _ _ ((((h).2 g3).2.1 g6).1 g8))), (fun g9 => ⟨((((h).2 g3).2.1 g6).2 g9).1, ⟨((((h).2 g3).2.1 g6).2 g9).2.1, (mo_M_take_b_65 ih hpost _ _ _ _ _ _ _ _ _ _ _ _ _ _ _ _ _ _ ((((h).2 g3).2.1 g6).2 g9).2.2)⟩⟩)⟩), (fun g12 => ⟨(((h).2 g3).2.2 g12).1, (mo_M_take_b_65 ih hpost _ _ _ _ _ _ _ _ _ _ _ _ _ _ _ _ _ _ (((h).2 g3).2.2 g12).2)⟩)⟩⟩)⟩

theorem mo_M_take_b {post post' : (Nat → Int32) → (Nat → Int32) → (Nat → Int32) → (Nat → Int32) → (Nat → Int32) → (Nat → Int32) → (Nat → Int32) → (Nat → Int32) → (Nat → Int32) → Int32 → Int32 → Int32 → Prop} (hpost : ∀ u0 u1 u2 u3 u4 u5 u6 u7 u8 u9 u10 u11, post u0 u1 u2 u3 u4 u5 u6 u7 u8 u9 u10 u11 → post' u0 u1 u2 u3 u4 u5 u6 u7 u8 u9 u10 u11) : ∀ (a1 : Int32) (a3 : Int32) (a4 : Int32) (kb : (Nat → Int32)) (kw : (Nat → Int32)) (ks : (Nat → Int32)) (ka : (Nat → Int32)) (kq : (Nat → Int32)) (kc : (Nat → Int32)) (kr : (Nat → Int32)) (kt : (Nat → Int32)) (kd : (Nat → Int32)) (many : Int32) (tsz : Int32) (thr : Int32), wp_M_take_b post a1 a3 a4 kb kw ks ka kq kc kr kt kd many tsz thr  → wp_M_take_b post' a1 a3 a4 kb kw ks ka kq kc kr kt kd many tsz thr  := by
  intro a1 a3 a4 kb kw ks ka kq kc kr kt kd many tsz thr h
  rw [wp_M_take_b] at h ⊢
  exact (Exists.imp (fun n3 g1 => (mo_M_take_b_3 hpost _ _ _ _ _ _ _ _ _ _ _ _ _ _ _ _ _ g1)) h)

theorem mo_M_take_c_65 {K3 K3' : Int32 → Int32 → Int32 → Int32 → (Nat → Int32) → (Nat → Int32) → (Nat → Int32) → (Nat → Int32) → (Nat → Int32) → (Nat → Int32) → (Nat → Int32) → (Nat → Int32) → (Nat → Int32) → Int32 → Int32 → Int32 → Prop} {post post' : (Nat → Int32) → (Nat → Int32) → (Nat → Int32) → (Nat → Int32) → (Nat → Int32) → (Nat → Int32) → (Nat → Int32) → (Nat → Int32) → (Nat → Int32) → Int32 → Int32 → Int32 → Prop} (hK3 : ∀ u0 u1 u2 u3 u4 u5 u6 u7 u8 u9 u10 u11 u12 u13 u14 u15, K3 u0 u1 u2 u3 u4 u5 u6 u7 u8 u9 u10 u11 u12 u13 u14 u15 → K3' u0 u1 u2 u3 u4 u5 u6 u7 u8 u9 u10 u11 u12 u13 u14 u15) (hpost : ∀ u0 u1 u2 u3 u4 u5 u6 u7 u8 u9 u10 u11, post u0 u1 u2 u3 u4 u5 u6 u7 u8 u9 u10 u11 → post' u0 u1 u2 u3 u4 u5 u6 u7 u8 u9 u10 u11) : ∀ (x1 : Int32) (x3 : Int32) (x4 : Int32) (x5 : Int32) (t0 : Int32) (t1 : Int32) (kb : (Nat → Int32)) (kw : (Nat → Int32)) (ks : (Nat → Int32)) (ka : (Nat → Int32)) (kq : (Nat → Int32)) (kc : (Nat → Int32)) (kr : (Nat → Int32)) (kt : (Nat → Int32)) (kd : (Nat → Int32)) (many : Int32) (tsz : Int32) (thr : Int32), wp_M_take_c_65 K3 post x1 x3 x4 x5 t0 t1 kb kw ks ka kq kc kr kt kd many tsz thr  → wp_M_take_c_65 K3' post' x1 x3 x4 x5 t0 t1 kb kw ks ka kq kc kr kt kd many tsz thr  := by
  intro x1 x3 x4 x5 t0 t1 kb kw ks ka kq kc kr kt kd many tsz thr h
  rw [wp_M_take_c_65] at h ⊢
  exact ⟨(h).1, (hK3 _ _ _ _ _ _ _ _ _ _ _ _ _ _ _ _ (h).2)⟩

theorem mo_M_take_c_3 {post post' : (Nat → Int32) → (Nat → Int32) → (Nat → Int32) → (Nat → Int32) → (Nat → Int32) → (Nat → Int32) → (Nat → Int32) → (Nat → Int32) → (Nat → Int32) → Int32 → Int32 → Int32 → Prop} (hpost : ∀ u0 u1 u2 u3 u4 u5 u6 u7 u8 u9 u10 u11, post u0 u1 u2 u3 u4 u5 u6 u7 u8 u9 u10 u11 → post' u0 u1 u2 u3 u4 u5 u6 u7 u8 u9 u10 u11) : ∀ (n3 : Nat) (x1 : Int32) (x3 : Int32) (x4 : Int32) (x5 : Int32) (kb : (Nat → Int32)) (kw : (Nat → Int32)) (ks : (Nat → Int32)) (ka : (Nat → Int32)) (kq : (Nat → Int32)) (kc : (Nat → Int32)) (kr : (Nat → Int32)) (kt : (Nat → Int32)) (kd : (Nat → Int32)) (many : Int32) (tsz : Int32) (thr : Int32), wp_M_take_c_3 post n3 x1 x3 x4 x5 kb kw ks ka kq kc kr kt kd many tsz thr → wp_M_take_c_3 post' n3 x1 x3 x4 x5 kb kw ks ka kq kc kr kt kd many tsz thr := by
  intro  n3
  induction n3 with
  | zero => intro x1 x3 x4 x5 kb kw ks ka kq kc kr kt kd many tsz thr h; exact False.elim h
  | succ n3 ih =>
    intro x1 x3 x4 x5 kb kw ks ka kq kc kr kt kd many tsz thr h
    rw [wp_M_take_c_3] at h ⊢
    exact ⟨(fun g2 => (hpost _ _ _ _ _ _ _ _ _ _ _ _ ((h).1 g2))), (fun g3 => ⟨((h).2 g3).1, ⟨(fun g6 => ⟨(fun g8 => (mo_M_take_c_65 ih hpost _ _ _ _ _ _ _ _ _ _ _ _ _ _ _ _ _ _ ((((h).2 g3).2.1 g6).1 g8))), (fun g9 => ⟨((((h).2 g3).2.1 g6).2 g9).1, ⟨((((h).2 g3).2.1 g6).2 g9).2.1, (mo_M_take_c_65 ih hpost _ _ _ _ _ _ _ _ _ _ _ _ _ _ _ _ _ _ ((((h).2 g3).2.1 g6).2 g9).2.2)⟩⟩)⟩), (fun g12 => ⟨(((h).2 g3).2.2 g12).1, (mo_M_take_c_65 ih hpost _ _ _ _ _ _ _ _ _ _ _ _ _ _ _ _ _ _ (((h).2 g3).2.2 g12).2)⟩)⟩⟩)⟩

theorem mo_M_take_c {post post' : (Nat → Int32) → (Nat → Int32) → (Nat → Int32) → (Nat → Int32) → (Nat → Int32) → (Nat → Int32) → (Nat → Int32) → (Nat → Int32) → (Nat → Int32) → Int32 → Int32 → Int32 → Prop} (hpost : ∀ u0 u1 u2 u3 u4 u5 u6 u7 u8 u9 u10 u11, post u0 u1 u2 u3 u4 u5 u6 u7 u8 u9 u10 u11 → post' u0 u1 u2 u3 u4 u5 u6 u7 u8 u9 u10 u11) : ∀ (a1 : Int32) (a3 : Int32) (a4 : Int32) (kb : (Nat → Int32)) (kw : (Nat → Int32)) (ks : (Nat → Int32)) (ka : (Nat → Int32)) (kq : (Nat → Int32)) (kc : (Nat → Int32)) (kr : (Nat → Int32)) (kt : (Nat → Int32)) (kd : (Nat → Int32)) (many : Int32) (tsz : Int32) (thr : Int32), wp_M_take_c post a1 a3 a4 kb kw ks ka kq kc kr kt kd many tsz thr  → wp_M_take_c post' a1 a3 a4 kb kw ks ka kq kc kr kt kd many tsz thr  := by
  intro a1 a3 a4 kb kw ks ka kq kc kr kt kd many tsz thr h
  rw [wp_M_take_c] at h ⊢
  exact (Exists.imp (fun n3 g1 => (mo_M_take_c_3 hpost _ _ _ _ _ _ _ _ _ _ _ _ _ _ _ _ _ g1)) h)
